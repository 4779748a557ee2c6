theorem dX12_joins_231 : decode cX12_joins 231 = .ok (.iload 7, 2) := by decide +kernel
theorem dX12_joins_233 : decode cX12_joins 233 = .ok (.istore 4, 2) := by decide +kernel
theorem dX12_joins_235 : decode cX12_joins 235 = .ok (.iinc 7 1, 3) := by decide +kernel
theorem dX12_joins_238 : decode cX12_joins 238 = .ok (.goto (-67), 3) := by decide +kernel
theorem dX12_joins_241 : decode cX12_joins 241 = .ok (.iinc 6 1, 3) := by decide +kernel
theorem dX12_joins_244 : decode cX12_joins 244 = .ok (.goto (-103), 3) := by decide +kernel
theorem dX12_joins_247 : decode cX12_joins 247 = .ok (.iload_n 3, 1) := by decide +kernel
theorem dX12_joins_248 : decode cX12_joins 248 = .ok (.iconst (-1), 1) := by decide +kernel
theorem dX12_joins_249 : decode cX12_joins 249 = .ok (.if_icmp .eq 7, 3) := by decide +kernel
theorem dX12_joins_252 : decode cX12_joins 252 = .ok (.iconst 1, 1) := by decide +kernel
theorem dX12_joins_253 : decode cX12_joins 253 = .ok (.goto 4, 3) := by decide +kernel
theorem dX12_joins_256 : decode cX12_joins 256 = .ok (.iconst 0, 1) := by decide +kernel
theorem dX12_joins_257 : decode cX12_joins 257 = .ok (.istore_n 2, 1) := by decide +kernel
theorem dX12_joins_258 : decode cX12_joins 258 = .ok (.iload_n 2, 1) := by decide +kernel
theorem dX12_joins_259 : decode cX12_joins 259 = .ok (.ifCond .eq 10, 3) := by decide +kernel
theorem dX12_joins_262 : decode cX12_joins 262 = .ok (.aload_n 0, 1) := by decide +kernel
theorem dX12_joins_263 : decode cX12_joins 263 = .ok (.iload_n 3, 1) := by decide +kernel
theorem dX12_joins_264 : decode cX12_joins 264 = .ok (.iload 4, 2) := by decide +kernel
theorem dX12_joins_266 : decode cX12_joins 266 = .ok (.invokevirtual 410, 3) := by decide +kernel
theorem dX12_joins_269 : decode cX12_joins 269 = .ok (.goto (-143), 3) := by decide +kernel
theorem dX12_joins_272 : decode cX12_joins 272 = .ok (.return_, 1) := by decide +kernel
theorem dX12_unite_0 : decode cX12_unite 0 = .ok (.iconst 0, 1) := by decide +kernel
theorem dX12_unite_1 : decode cX12_unite 1 = .ok (.istore_n 3, 1) := by decide +kernel
theorem dX12_unite_2 : decode cX12_unite 2 = .ok (.iload_n 3, 1) := by decide +kernel
theorem dX12_unite_3 : decode cX12_unite 3 = .ok (.aload_n 0, 1) := by decide +kernel
theorem dX12_unite_4 : decode cX12_unite 4 = .ok (.getfield 203, 3) := by decide +kernel
theorem dX12_unite_7 : decode cX12_unite 7 = .ok (.if_icmp .ge 120, 3) := by decide +kernel
theorem dX12_unite_10 : decode cX12_unite 10 = .ok (.aload_n 0, 1) := by decide +kernel
theorem dX12_unite_11 : decode cX12_unite 11 = .ok (.getfield 118, 3) := by decide +kernel
theorem dX12_unite_14 : decode cX12_unite 14 = .ok (.iload_n 3, 1) := by decide +kernel
theorem dX12_unite_15 : decode cX12_unite 15 = .ok (.iaload, 1) := by decide +kernel
theorem dX12_unite_16 : decode cX12_unite 16 = .ok (.iload_n 2, 1) := by decide +kernel
theorem dX12_unite_17 : decode cX12_unite 17 = .ok (.if_icmp .ne 10, 3) := by decide +kernel
theorem dX12_unite_20 : decode cX12_unite 20 = .ok (.aload_n 0, 1) := by decide +kernel
theorem dX12_unite_21 : decode cX12_unite 21 = .ok (.getfield 118, 3) := by decide +kernel
theorem dX12_unite_24 : decode cX12_unite 24 = .ok (.iload_n 3, 1) := by decide +kernel
theorem dX12_unite_25 : decode cX12_unite 25 = .ok (.iload_n 1, 1) := by decide +kernel
theorem dX12_unite_26 : decode cX12_unite 26 = .ok (.iastore, 1) := by decide +kernel
theorem dX12_unite_27 : decode cX12_unite 27 = .ok (.iload_n 3, 1) := by decide +kernel
theorem dX12_unite_28 : decode cX12_unite 28 = .ok (.iload_n 1, 1) := by decide +kernel
theorem dX12_unite_29 : decode cX12_unite 29 = .ok (.if_icmp .eq 92, 3) := by decide +kernel
theorem dX12_unite_32 : decode cX12_unite 32 = .ok (.iload_n 3, 1) := by decide +kernel
theorem dX12_unite_33 : decode cX12_unite 33 = .ok (.iload_n 2, 1) := by decide +kernel
theorem dX12_unite_34 : decode cX12_unite 34 = .ok (.if_icmp .ne 6, 3) := by decide +kernel
theorem dX12_unite_37 : decode cX12_unite 37 = .ok (.goto 84, 3) := by decide +kernel
theorem dX12_unite_40 : decode cX12_unite 40 = .ok (.aload_n 0, 1) := by decide +kernel
theorem dX12_unite_41 : decode cX12_unite 41 = .ok (.getfield 121, 3) := by decide +kernel
theorem dX12_unite_44 : decode cX12_unite 44 = .ok (.bipush 60, 2) := by decide +kernel
theorem dX12_unite_46 : decode cX12_unite 46 = .ok (.iload_n 1, 1) := by decide +kernel
theorem dX12_unite_47 : decode cX12_unite 47 = .ok (.imul, 1) := by decide +kernel
theorem dX12_unite_48 : decode cX12_unite 48 = .ok (.iload_n 3, 1) := by decide +kernel
theorem dX12_unite_49 : decode cX12_unite 49 = .ok (.iadd, 1) := by decide +kernel
theorem dX12_unite_50 : decode cX12_unite 50 = .ok (.iaload, 1) := by decide +kernel
theorem dX12_unite_51 : decode cX12_unite 51 = .ok (.istore 4, 2) := by decide +kernel
theorem dX12_unite_53 : decode cX12_unite 53 = .ok (.aload_n 0, 1) := by decide +kernel
theorem dX12_unite_54 : decode cX12_unite 54 = .ok (.getfield 121, 3) := by decide +kernel
theorem dX12_unite_57 : decode cX12_unite 57 = .ok (.bipush 60, 2) := by decide +kernel
theorem dX12_unite_59 : decode cX12_unite 59 = .ok (.iload_n 2, 1) := by decide +kernel
theorem dX12_unite_60 : decode cX12_unite 60 = .ok (.imul, 1) := by decide +kernel
theorem dX12_unite_61 : decode cX12_unite 61 = .ok (.iload_n 3, 1) := by decide +kernel
theorem dX12_unite_62 : decode cX12_unite 62 = .ok (.iadd, 1) := by decide +kernel
theorem dX12_unite_63 : decode cX12_unite 63 = .ok (.iaload, 1) := by decide +kernel
theorem dX12_unite_64 : decode cX12_unite 64 = .ok (.istore 5, 2) := by decide +kernel
theorem dX12_unite_66 : decode cX12_unite 66 = .ok (.iload 4, 2) := by decide +kernel
theorem dX12_unite_68 : decode cX12_unite 68 = .ok (.ldc_w 409, 3) := by decide +kernel
theorem dX12_unite_71 : decode cX12_unite 71 = .ok (.if_icmp .eq 11, 3) := by decide +kernel
theorem dX12_unite_74 : decode cX12_unite 74 = .ok (.iload 5, 2) := by decide +kernel
theorem dX12_unite_76 : decode cX12_unite 76 = .ok (.ldc_w 409, 3) := by decide +kernel
theorem dX12_unite_79 : decode cX12_unite 79 = .ok (.if_icmp .ne 9, 3) := by decide +kernel
theorem dX12_unite_82 : decode cX12_unite 82 = .ok (.ldc_w 409, 3) := by decide +kernel
theorem dX12_unite_85 : decode cX12_unite 85 = .ok (.goto 8, 3) := by decide +kernel
theorem dX12_unite_88 : decode cX12_unite 88 = .ok (.iload 4, 2) := by decide +kernel
theorem dX12_unite_90 : decode cX12_unite 90 = .ok (.iload 5, 2) := by decide +kernel
theorem dX12_unite_92 : decode cX12_unite 92 = .ok (.iadd, 1) := by decide +kernel
theorem dX12_unite_93 : decode cX12_unite 93 = .ok (.istore 6, 2) := by decide +kernel
theorem dX12_unite_95 : decode cX12_unite 95 = .ok (.aload_n 0, 1) := by decide +kernel
theorem dX12_unite_96 : decode cX12_unite 96 = .ok (.getfield 121, 3) := by decide +kernel
theorem dX12_unite_99 : decode cX12_unite 99 = .ok (.bipush 60, 2) := by decide +kernel
theorem dX12_unite_101 : decode cX12_unite 101 = .ok (.iload_n 1, 1) := by decide +kernel
theorem dX12_unite_102 : decode cX12_unite 102 = .ok (.imul, 1) := by decide +kernel
theorem dX12_unite_103 : decode cX12_unite 103 = .ok (.iload_n 3, 1) := by decide +kernel
theorem dX12_unite_104 : decode cX12_unite 104 = .ok (.iadd, 1) := by decide +kernel
theorem dX12_unite_105 : decode cX12_unite 105 = .ok (.iload 6, 2) := by decide +kernel
theorem dX12_unite_107 : decode cX12_unite 107 = .ok (.iastore, 1) := by decide +kernel
theorem dX12_unite_108 : decode cX12_unite 108 = .ok (.aload_n 0, 1) := by decide +kernel
theorem dX12_unite_109 : decode cX12_unite 109 = .ok (.getfield 121, 3) := by decide +kernel
theorem dX12_unite_112 : decode cX12_unite 112 = .ok (.bipush 60, 2) := by decide +kernel
theorem dX12_unite_114 : decode cX12_unite 114 = .ok (.iload_n 3, 1) := by decide +kernel
theorem dX12_unite_115 : decode cX12_unite 115 = .ok (.imul, 1) := by decide +kernel
theorem dX12_unite_116 : decode cX12_unite 116 = .ok (.iload_n 1, 1) := by decide +kernel
theorem dX12_unite_117 : decode cX12_unite 117 = .ok (.iadd, 1) := by decide +kernel
theorem dX12_unite_118 : decode cX12_unite 118 = .ok (.iload 6, 2) := by decide +kernel
theorem dX12_unite_120 : decode cX12_unite 120 = .ok (.iastore, 1) := by decide +kernel
theorem dX12_unite_121 : decode cX12_unite 121 = .ok (.iinc 3 1, 3) := by decide +kernel
theorem dX12_unite_124 : decode cX12_unite 124 = .ok (.goto (-122), 3) := by decide +kernel
theorem dX12_unite_127 : decode cX12_unite 127 = .ok (.return_, 1) := by decide +kernel
theorem dX12_joined_0 : decode cX12_joined 0 = .ok (.aload_n 0, 1) := by decide +kernel
theorem dX12_joined_1 : decode cX12_joined 1 = .ok (.aload_n 0, 1) := by decide +kernel
theorem dX12_joined_2 : decode cX12_joined 2 = .ok (.iload_n 1, 1) := by decide +kernel
theorem dX12_joined_3 : decode cX12_joined 3 = .ok (.invokevirtual 206, 3) := by decide +kernel
theorem dX12_joined_6 : decode cX12_joined 6 = .ok (.ifCond .ne 7, 3) := by decide +kernel
theorem dX12_joined_9 : decode cX12_joined 9 = .ok (.iconst 1, 1) := by decide +kernel
theorem dX12_joined_10 : decode cX12_joined 10 = .ok (.goto 17, 3) := by decide +kernel
theorem dX12_joined_13 : decode cX12_joined 13 = .ok (.aload_n 0, 1) := by decide +kernel
theorem dX12_joined_14 : decode cX12_joined 14 = .ok (.getfield 46, 3) := by decide +kernel
theorem dX12_joined_17 : decode cX12_joined 17 = .ok (.iload_n 1, 1) := by decide +kernel
theorem dX12_joined_18 : decode cX12_joined 18 = .ok (.baload, 1) := by decide +kernel
theorem dX12_joined_19 : decode cX12_joined 19 = .ok (.ifCond .eq 7, 3) := by decide +kernel
theorem dX12_joined_22 : decode cX12_joined 22 = .ok (.iconst 2, 1) := by decide +kernel
theorem dX12_joined_23 : decode cX12_joined 23 = .ok (.goto 4, 3) := by decide +kernel
theorem dX12_joined_26 : decode cX12_joined 26 = .ok (.iconst 0, 1) := by decide +kernel
theorem dX12_joined_27 : decode cX12_joined 27 = .ok (.putfield 185, 3) := by decide +kernel
theorem dX12_joined_30 : decode cX12_joined 30 = .ok (.aload_n 0, 1) := by decide +kernel
theorem dX12_joined_31 : decode cX12_joined 31 = .ok (.getfield 185, 3) := by decide +kernel
theorem dX12_joined_34 : decode cX12_joined 34 = .ok (.ifCond .le 5, 3) := by decide +kernel
theorem dX12_joined_37 : decode cX12_joined 37 = .ok (.iconst 0, 1) := by decide +kernel
theorem dX12_joined_38 : decode cX12_joined 38 = .ok (.ireturn, 1) := by decide +kernel
theorem dX12_joined_39 : decode cX12_joined 39 = .ok (.aload_n 0, 1) := by decide +kernel
theorem dX12_joined_40 : decode cX12_joined 40 = .ok (.iload_n 2, 1) := by decide +kernel
theorem dX12_joined_41 : decode cX12_joined 41 = .ok (.invokevirtual 414, 3) := by decide +kernel
theorem dX12_joined_44 : decode cX12_joined 44 = .ok (.aload_n 0, 1) := by decide +kernel
theorem dX12_joined_45 : decode cX12_joined 45 = .ok (.getfield 118, 3) := by decide +kernel
theorem dX12_joined_48 : decode cX12_joined 48 = .ok (.iload_n 1, 1) := by decide +kernel
theorem dX12_joined_49 : decode cX12_joined 49 = .ok (.iaload, 1) := by decide +kernel
theorem dX12_joined_50 : decode cX12_joined 50 = .ok (.ireturn, 1) := by decide +kernel
theorem dX12_bound_0 : decode cX12_bound 0 = .ok (.aload_n 0, 1) := by decide +kernel
theorem dX12_bound_1 : decode cX12_bound 1 = .ok (.iconst 0, 1) := by decide +kernel
theorem dX12_bound_2 : decode cX12_bound 2 = .ok (.putfield 185, 3) := by decide +kernel
theorem dX12_bound_5 : decode cX12_bound 5 = .ok (.aload_n 0, 1) := by decide +kernel
theorem dX12_bound_6 : decode cX12_bound 6 = .ok (.iload_n 1, 1) := by decide +kernel
theorem dX12_bound_7 : decode cX12_bound 7 = .ok (.invokevirtual 349, 3) := by decide +kernel
theorem dX12_bound_10 : decode cX12_bound 10 = .ok (.iconst 0, 1) := by decide +kernel
theorem dX12_bound_11 : decode cX12_bound 11 = .ok (.istore_n 2, 1) := by decide +kernel
theorem dX12_bound_12 : decode cX12_bound 12 = .ok (.iconst 0, 1) := by decide +kernel
theorem dX12_bound_13 : decode cX12_bound 13 = .ok (.istore_n 3, 1) := by decide +kernel
theorem dX12_bound_14 : decode cX12_bound 14 = .ok (.iload_n 3, 1) := by decide +kernel
theorem dX12_bound_15 : decode cX12_bound 15 = .ok (.aload_n 0, 1) := by decide +kernel
theorem dX12_bound_16 : decode cX12_bound 16 = .ok (.getfield 203, 3) := by decide +kernel
theorem dX12_bound_19 : decode cX12_bound 19 = .ok (.if_icmp .ge 76, 3) := by decide +kernel
theorem dX12_bound_22 : decode cX12_bound 22 = .ok (.iload_n 3, 1) := by decide +kernel
theorem dX12_bound_23 : decode cX12_bound 23 = .ok (.iconst 1, 1) := by decide +kernel
theorem dX12_bound_24 : decode cX12_bound 24 = .ok (.iadd, 1) := by decide +kernel
theorem dX12_bound_25 : decode cX12_bound 25 = .ok (.istore 4, 2) := by decide +kernel
theorem dX12_bound_27 : decode cX12_bound 27 = .ok (.iload 4, 2) := by decide +kernel
theorem dX12_bound_29 : decode cX12_bound 29 = .ok (.aload_n 0, 1) := by decide +kernel
theorem dX12_bound_30 : decode cX12_bound 30 = .ok (.getfield 203, 3) := by decide +kernel
theorem dX12_bound_33 : decode cX12_bound 33 = .ok (.if_icmp .ge 56, 3) := by decide +kernel
theorem dX12_bound_36 : decode cX12_bound 36 = .ok (.aload_n 0, 1) := by decide +kernel
theorem dX12_bound_37 : decode cX12_bound 37 = .ok (.iload_n 3, 1) := by decide +kernel
theorem dX12_bound_38 : decode cX12_bound 38 = .ok (.invokevirtual 210, 3) := by decide +kernel
theorem dX12_bound_41 : decode cX12_bound 41 = .ok (.ifCond .eq 42, 3) := by decide +kernel
theorem dX12_bound_44 : decode cX12_bound 44 = .ok (.aload_n 0, 1) := by decide +kernel
theorem dX12_bound_45 : decode cX12_bound 45 = .ok (.iload 4, 2) := by decide +kernel
theorem dX12_bound_47 : decode cX12_bound 47 = .ok (.invokevirtual 210, 3) := by decide +kernel
theorem dX12_bound_50 : decode cX12_bound 50 = .ok (.ifCond .eq 33, 3) := by decide +kernel
theorem dX12_bound_53 : decode cX12_bound 53 = .ok (.aload_n 0, 1) := by decide +kernel
theorem dX12_bound_54 : decode cX12_bound 54 = .ok (.getfield 79, 3) := by decide +kernel
theorem dX12_bound_57 : decode cX12_bound 57 = .ok (.bipush 60, 2) := by decide +kernel
theorem dX12_bound_59 : decode cX12_bound 59 = .ok (.iload_n 3, 1) := by decide +kernel
theorem dX12_bound_60 : decode cX12_bound 60 = .ok (.imul, 1) := by decide +kernel
theorem dX12_bound_61 : decode cX12_bound 61 = .ok (.iload 4, 2) := by decide +kernel
theorem dX12_bound_63 : decode cX12_bound 63 = .ok (.iadd, 1) := by decide +kernel
theorem dX12_bound_64 : decode cX12_bound 64 = .ok (.iaload, 1) := by decide +kernel
theorem dX12_bound_65 : decode cX12_bound 65 = .ok (.iconst 2, 1) := by decide +kernel
theorem dX12_bound_66 : decode cX12_bound 66 = .ok (.if_icmp .eq 17, 3) := by decide +kernel
theorem dX12_bound_69 : decode cX12_bound 69 = .ok (.iload_n 2, 1) := by decide +kernel
theorem dX12_bound_70 : decode cX12_bound 70 = .ok (.iconst 0, 1) := by decide +kernel
theorem dX12_bound_71 : decode cX12_bound 71 = .ok (.aload_n 0, 1) := by decide +kernel
theorem dX12_bound_72 : decode cX12_bound 72 = .ok (.iload_n 3, 1) := by decide +kernel
theorem dX12_bound_73 : decode cX12_bound 73 = .ok (.iload 4, 2) := by decide +kernel
theorem dX12_bound_75 : decode cX12_bound 75 = .ok (.invokevirtual 354, 3) := by decide +kernel
theorem dX12_bound_78 : decode cX12_bound 78 = .ok (.invokestatic 274, 3) := by decide +kernel
theorem dX12_bound_81 : decode cX12_bound 81 = .ok (.iadd, 1) := by decide +kernel
theorem dX12_bound_82 : decode cX12_bound 82 = .ok (.istore_n 2, 1) := by decide +kernel
theorem dX12_bound_83 : decode cX12_bound 83 = .ok (.iinc 4 1, 3) := by decide +kernel
theorem dX12_bound_86 : decode cX12_bound 86 = .ok (.goto (-59), 3) := by decide +kernel
theorem dX12_bound_89 : decode cX12_bound 89 = .ok (.iinc 3 1, 3) := by decide +kernel
theorem dX12_bound_92 : decode cX12_bound 92 = .ok (.goto (-78), 3) := by decide +kernel
theorem dX12_bound_95 : decode cX12_bound 95 = .ok (.iload_n 2, 1) := by decide +kernel
theorem dX12_bound_96 : decode cX12_bound 96 = .ok (.ireturn, 1) := by decide +kernel
theorem dX12_nextOf_0 : decode cX12_nextOf 0 = .ok (.iconst (-1), 1) := by decide +kernel
theorem dX12_nextOf_1 : decode cX12_nextOf 1 = .ok (.istore_n 3, 1) := by decide +kernel
theorem dX12_nextOf_2 : decode cX12_nextOf 2 = .ok (.iconst 0, 1) := by decide +kernel
theorem dX12_nextOf_3 : decode cX12_nextOf 3 = .ok (.istore 4, 2) := by decide +kernel
theorem dX12_nextOf_5 : decode cX12_nextOf 5 = .ok (.iload 4, 2) := by decide +kernel
theorem dX12_nextOf_7 : decode cX12_nextOf 7 = .ok (.aload_n 0, 1) := by decide +kernel
theorem dX12_nextOf_8 : decode cX12_nextOf 8 = .ok (.getfield 203, 3) := by decide +kernel
theorem dX12_nextOf_11 : decode cX12_nextOf 11 = .ok (.if_icmp .ge 98, 3) := by decide +kernel
theorem dX12_nextOf_14 : decode cX12_nextOf 14 = .ok (.aload_n 0, 1) := by decide +kernel
theorem dX12_nextOf_15 : decode cX12_nextOf 15 = .ok (.iload 4, 2) := by decide +kernel
theorem dX12_nextOf_17 : decode cX12_nextOf 17 = .ok (.invokevirtual 210, 3) := by decide +kernel
theorem dX12_nextOf_20 : decode cX12_nextOf 20 = .ok (.ifCond .eq 83, 3) := by decide +kernel
theorem dX12_nextOf_23 : decode cX12_nextOf 23 = .ok (.aload_n 0, 1) := by decide +kernel
theorem dX12_nextOf_24 : decode cX12_nextOf 24 = .ok (.iload 4, 2) := by decide +kernel
theorem dX12_nextOf_26 : decode cX12_nextOf 26 = .ok (.iload_n 1, 1) := by decide +kernel
theorem dX12_nextOf_27 : decode cX12_nextOf 27 = .ok (.invokevirtual 267, 3) := by decide +kernel
theorem dX12_nextOf_30 : decode cX12_nextOf 30 = .ok (.ifCond .eq 73, 3) := by decide +kernel
theorem dX12_nextOf_33 : decode cX12_nextOf 33 = .ok (.iload_n 2, 1) := by decide +kernel
theorem dX12_nextOf_34 : decode cX12_nextOf 34 = .ok (.iconst (-1), 1) := by decide +kernel
theorem dX12_nextOf_35 : decode cX12_nextOf 35 = .ok (.if_icmp .eq 44, 3) := by decide +kernel
theorem dX12_nextOf_38 : decode cX12_nextOf 38 = .ok (.aload_n 0, 1) := by decide +kernel
theorem dX12_nextOf_39 : decode cX12_nextOf 39 = .ok (.getfield 31, 3) := by decide +kernel
theorem dX12_nextOf_42 : decode cX12_nextOf 42 = .ok (.iload 4, 2) := by decide +kernel
theorem dX12_nextOf_44 : decode cX12_nextOf 44 = .ok (.iaload, 1) := by decide +kernel
theorem dX12_nextOf_45 : decode cX12_nextOf 45 = .ok (.aload_n 0, 1) := by decide +kernel
theorem dX12_nextOf_46 : decode cX12_nextOf 46 = .ok (.getfield 31, 3) := by decide +kernel
theorem dX12_nextOf_49 : decode cX12_nextOf 49 = .ok (.iload_n 2, 1) := by decide +kernel
theorem dX12_nextOf_50 : decode cX12_nextOf 50 = .ok (.iaload, 1) := by decide +kernel
theorem dX12_nextOf_51 : decode cX12_nextOf 51 = .ok (.if_icmp .lt 52, 3) := by decide +kernel
theorem dX12_nextOf_54 : decode cX12_nextOf 54 = .ok (.aload_n 0, 1) := by decide +kernel
theorem dX12_nextOf_55 : decode cX12_nextOf 55 = .ok (.getfield 31, 3) := by decide +kernel
theorem dX12_nextOf_58 : decode cX12_nextOf 58 = .ok (.iload 4, 2) := by decide +kernel
theorem dX12_nextOf_60 : decode cX12_nextOf 60 = .ok (.iaload, 1) := by decide +kernel
theorem dX12_nextOf_61 : decode cX12_nextOf 61 = .ok (.aload_n 0, 1) := by decide +kernel
theorem dX12_nextOf_62 : decode cX12_nextOf 62 = .ok (.getfield 31, 3) := by decide +kernel
theorem dX12_nextOf_65 : decode cX12_nextOf 65 = .ok (.iload_n 2, 1) := by decide +kernel
theorem dX12_nextOf_66 : decode cX12_nextOf 66 = .ok (.iaload, 1) := by decide +kernel
theorem dX12_nextOf_67 : decode cX12_nextOf 67 = .ok (.if_icmp .ne 12, 3) := by decide +kernel
theorem dX12_nextOf_70 : decode cX12_nextOf 70 = .ok (.iload 4, 2) := by decide +kernel
theorem dX12_nextOf_72 : decode cX12_nextOf 72 = .ok (.iload_n 2, 1) := by decide +kernel
theorem dX12_nextOf_73 : decode cX12_nextOf 73 = .ok (.if_icmp .gt 6, 3) := by decide +kernel
theorem dX12_nextOf_76 : decode cX12_nextOf 76 = .ok (.goto 27, 3) := by decide +kernel
theorem dX12_nextOf_79 : decode cX12_nextOf 79 = .ok (.iload_n 3, 1) := by decide +kernel
theorem dX12_nextOf_80 : decode cX12_nextOf 80 = .ok (.iconst (-1), 1) := by decide +kernel
theorem dX12_nextOf_81 : decode cX12_nextOf 81 = .ok (.if_icmp .eq 19, 3) := by decide +kernel
theorem dX12_nextOf_84 : decode cX12_nextOf 84 = .ok (.aload_n 0, 1) := by decide +kernel
theorem dX12_nextOf_85 : decode cX12_nextOf 85 = .ok (.getfield 31, 3) := by decide +kernel
theorem dX12_nextOf_88 : decode cX12_nextOf 88 = .ok (.iload 4, 2) := by decide +kernel
theorem dX12_nextOf_90 : decode cX12_nextOf 90 = .ok (.iaload, 1) := by decide +kernel
theorem dX12_nextOf_91 : decode cX12_nextOf 91 = .ok (.aload_n 0, 1) := by decide +kernel
theorem dX12_nextOf_92 : decode cX12_nextOf 92 = .ok (.getfield 31, 3) := by decide +kernel
theorem dX12_nextOf_95 : decode cX12_nextOf 95 = .ok (.iload_n 3, 1) := by decide +kernel
theorem dX12_nextOf_96 : decode cX12_nextOf 96 = .ok (.iaload, 1) := by decide +kernel
theorem dX12_nextOf_97 : decode cX12_nextOf 97 = .ok (.if_icmp .ge 6, 3) := by decide +kernel
theorem dX12_nextOf_100 : decode cX12_nextOf 100 = .ok (.iload 4, 2) := by decide +kernel
theorem dX12_nextOf_102 : decode cX12_nextOf 102 = .ok (.istore_n 3, 1) := by decide +kernel
theorem dX12_nextOf_103 : decode cX12_nextOf 103 = .ok (.iinc 4 1, 3) := by decide +kernel
theorem dX12_nextOf_106 : decode cX12_nextOf 106 = .ok (.goto (-101), 3) := by decide +kernel
theorem dX12_nextOf_109 : decode cX12_nextOf 109 = .ok (.iload_n 3, 1) := by decide +kernel
theorem dX12_nextOf_110 : decode cX12_nextOf 110 = .ok (.ireturn, 1) := by decide +kernel
theorem dX12_laySteps_0 : decode cX12_laySteps 0 = .ok (.aload_n 0, 1) := by decide +kernel
theorem dX12_laySteps_1 : decode cX12_laySteps 1 = .ok (.iconst 0, 1) := by decide +kernel
theorem dX12_laySteps_2 : decode cX12_laySteps 2 = .ok (.putfield 417, 3) := by decide +kernel
theorem dX12_laySteps_5 : decode cX12_laySteps 5 = .ok (.iconst 0, 1) := by decide +kernel
theorem dX12_laySteps_6 : decode cX12_laySteps 6 = .ok (.istore_n 1, 1) := by decide +kernel
theorem dX12_laySteps_7 : decode cX12_laySteps 7 = .ok (.iload_n 1, 1) := by decide +kernel
theorem dX12_laySteps_8 : decode cX12_laySteps 8 = .ok (.aload_n 0, 1) := by decide +kernel
theorem dX12_laySteps_9 : decode cX12_laySteps 9 = .ok (.getfield 200, 3) := by decide +kernel
theorem dX12_laySteps_12 : decode cX12_laySteps 12 = .ok (.if_icmp .ge 79, 3) := by decide +kernel
theorem dX12_laySteps_15 : decode cX12_laySteps 15 = .ok (.aload_n 0, 1) := by decide +kernel
theorem dX12_laySteps_16 : decode cX12_laySteps 16 = .ok (.iload_n 1, 1) := by decide +kernel
theorem dX12_laySteps_17 : decode cX12_laySteps 17 = .ok (.iconst (-1), 1) := by decide +kernel
theorem dX12_laySteps_18 : decode cX12_laySteps 18 = .ok (.invokevirtual 420, 3) := by decide +kernel
theorem dX12_laySteps_21 : decode cX12_laySteps 21 = .ok (.istore_n 2, 1) := by decide +kernel
theorem dX12_laySteps_22 : decode cX12_laySteps 22 = .ok (.iload_n 2, 1) := by decide +kernel
theorem dX12_laySteps_23 : decode cX12_laySteps 23 = .ok (.iconst (-1), 1) := by decide +kernel
theorem dX12_laySteps_24 : decode cX12_laySteps 24 = .ok (.if_icmp .ne 7, 3) := by decide +kernel
theorem dX12_laySteps_27 : decode cX12_laySteps 27 = .ok (.iconst (-1), 1) := by decide +kernel
theorem dX12_laySteps_28 : decode cX12_laySteps 28 = .ok (.goto 9, 3) := by decide +kernel
theorem dX12_laySteps_31 : decode cX12_laySteps 31 = .ok (.aload_n 0, 1) := by decide +kernel
theorem dX12_laySteps_32 : decode cX12_laySteps 32 = .ok (.iload_n 1, 1) := by decide +kernel
theorem dX12_laySteps_33 : decode cX12_laySteps 33 = .ok (.iload_n 2, 1) := by decide +kernel
theorem dX12_laySteps_34 : decode cX12_laySteps 34 = .ok (.invokevirtual 420, 3) := by decide +kernel
theorem dX12_laySteps_37 : decode cX12_laySteps 37 = .ok (.istore_n 3, 1) := by decide +kernel
theorem dX12_laySteps_38 : decode cX12_laySteps 38 = .ok (.iload_n 3, 1) := by decide +kernel
theorem dX12_laySteps_39 : decode cX12_laySteps 39 = .ok (.iconst (-1), 1) := by decide +kernel
theorem dX12_laySteps_40 : decode cX12_laySteps 40 = .ok (.if_icmp .eq 45, 3) := by decide +kernel
theorem dX12_laySteps_43 : decode cX12_laySteps 43 = .ok (.aload_n 0, 1) := by decide +kernel
theorem dX12_laySteps_44 : decode cX12_laySteps 44 = .ok (.getfield 124, 3) := by decide +kernel
theorem dX12_laySteps_47 : decode cX12_laySteps 47 = .ok (.aload_n 0, 1) := by decide +kernel
theorem dX12_laySteps_48 : decode cX12_laySteps 48 = .ok (.getfield 417, 3) := by decide +kernel
theorem dX12_laySteps_51 : decode cX12_laySteps 51 = .ok (.iload_n 2, 1) := by decide +kernel
theorem dX12_laySteps_52 : decode cX12_laySteps 52 = .ok (.iastore, 1) := by decide +kernel
theorem dX12_laySteps_53 : decode cX12_laySteps 53 = .ok (.aload_n 0, 1) := by decide +kernel
theorem dX12_laySteps_54 : decode cX12_laySteps 54 = .ok (.getfield 127, 3) := by decide +kernel
theorem dX12_laySteps_57 : decode cX12_laySteps 57 = .ok (.aload_n 0, 1) := by decide +kernel
theorem dX12_laySteps_58 : decode cX12_laySteps 58 = .ok (.getfield 417, 3) := by decide +kernel
theorem dX12_laySteps_61 : decode cX12_laySteps 61 = .ok (.iload_n 3, 1) := by decide +kernel
theorem dX12_laySteps_62 : decode cX12_laySteps 62 = .ok (.iastore, 1) := by decide +kernel
theorem dX12_laySteps_63 : decode cX12_laySteps 63 = .ok (.aload_n 0, 1) := by decide +kernel
theorem dX12_laySteps_64 : decode cX12_laySteps 64 = .ok (.dup, 1) := by decide +kernel
theorem dX12_laySteps_65 : decode cX12_laySteps 65 = .ok (.getfield 417, 3) := by decide +kernel
theorem dX12_laySteps_68 : decode cX12_laySteps 68 = .ok (.iconst 1, 1) := by decide +kernel
theorem dX12_laySteps_69 : decode cX12_laySteps 69 = .ok (.iadd, 1) := by decide +kernel
theorem dX12_laySteps_70 : decode cX12_laySteps 70 = .ok (.putfield 417, 3) := by decide +kernel
theorem dX12_laySteps_73 : decode cX12_laySteps 73 = .ok (.iload_n 3, 1) := by decide +kernel
theorem dX12_laySteps_74 : decode cX12_laySteps 74 = .ok (.istore_n 2, 1) := by decide +kernel
theorem dX12_laySteps_75 : decode cX12_laySteps 75 = .ok (.aload_n 0, 1) := by decide +kernel
theorem dX12_laySteps_76 : decode cX12_laySteps 76 = .ok (.iload_n 1, 1) := by decide +kernel
theorem dX12_laySteps_77 : decode cX12_laySteps 77 = .ok (.iload_n 2, 1) := by decide +kernel
theorem dX12_laySteps_78 : decode cX12_laySteps 78 = .ok (.invokevirtual 420, 3) := by decide +kernel
theorem dX12_laySteps_81 : decode cX12_laySteps 81 = .ok (.istore_n 3, 1) := by decide +kernel
theorem dX12_laySteps_82 : decode cX12_laySteps 82 = .ok (.goto (-44), 3) := by decide +kernel
theorem dX12_laySteps_85 : decode cX12_laySteps 85 = .ok (.iinc 1 1, 3) := by decide +kernel
theorem dX12_laySteps_88 : decode cX12_laySteps 88 = .ok (.goto (-81), 3) := by decide +kernel
theorem dX12_laySteps_91 : decode cX12_laySteps 91 = .ok (.return_, 1) := by decide +kernel
theorem dX12_farOf_0 : decode cX12_farOf 0 = .ok (.iload_n 0, 1) := by decide +kernel
theorem dX12_farOf_1 : decode cX12_farOf 1 = .ok (.ifCond .ne 7, 3) := by decide +kernel
theorem dX12_farOf_4 : decode cX12_farOf 4 = .ok (.iconst 0, 1) := by decide +kernel
theorem dX12_farOf_5 : decode cX12_farOf 5 = .ok (.goto 24, 3) := by decide +kernel
theorem dX12_farOf_8 : decode cX12_farOf 8 = .ok (.iload_n 0, 1) := by decide +kernel
theorem dX12_farOf_9 : decode cX12_farOf 9 = .ok (.bipush 10, 2) := by decide +kernel
theorem dX12_farOf_11 : decode cX12_farOf 11 = .ok (.if_icmp .ge 7, 3) := by decide +kernel
theorem dX12_farOf_14 : decode cX12_farOf 14 = .ok (.iconst 1, 1) := by decide +kernel
theorem dX12_farOf_15 : decode cX12_farOf 15 = .ok (.goto 14, 3) := by decide +kernel
theorem dX12_farOf_18 : decode cX12_farOf 18 = .ok (.iload_n 0, 1) := by decide +kernel
theorem dX12_farOf_19 : decode cX12_farOf 19 = .ok (.bipush 50, 2) := by decide +kernel
theorem dX12_farOf_21 : decode cX12_farOf 21 = .ok (.if_icmp .ge 7, 3) := by decide +kernel
theorem dX12_farOf_24 : decode cX12_farOf 24 = .ok (.iconst 2, 1) := by decide +kernel
theorem dX12_farOf_25 : decode cX12_farOf 25 = .ok (.goto 4, 3) := by decide +kernel
theorem dX12_farOf_28 : decode cX12_farOf 28 = .ok (.iconst 3, 1) := by decide +kernel
theorem dX12_farOf_29 : decode cX12_farOf 29 = .ok (.ireturn, 1) := by decide +kernel
theorem dX12_soonOf_0 : decode cX12_soonOf 0 = .ok (.iload_n 0, 1) := by decide +kernel
theorem dX12_soonOf_1 : decode cX12_soonOf 1 = .ok (.bipush 24, 2) := by decide +kernel
theorem dX12_soonOf_3 : decode cX12_soonOf 3 = .ok (.if_icmp .ge 7, 3) := by decide +kernel
theorem dX12_soonOf_6 : decode cX12_soonOf 6 = .ok (.iconst 0, 1) := by decide +kernel
theorem dX12_soonOf_7 : decode cX12_soonOf 7 = .ok (.goto 26, 3) := by decide +kernel
theorem dX12_soonOf_10 : decode cX12_soonOf 10 = .ok (.iload_n 0, 1) := by decide +kernel
theorem dX12_soonOf_11 : decode cX12_soonOf 11 = .ok (.sipush 168, 3) := by decide +kernel
theorem dX12_soonOf_14 : decode cX12_soonOf 14 = .ok (.if_icmp .ge 7, 3) := by decide +kernel
theorem dX12_soonOf_17 : decode cX12_soonOf 17 = .ok (.iconst 1, 1) := by decide +kernel
theorem dX12_soonOf_18 : decode cX12_soonOf 18 = .ok (.goto 15, 3) := by decide +kernel
theorem dX12_soonOf_21 : decode cX12_soonOf 21 = .ok (.iload_n 0, 1) := by decide +kernel
theorem dX12_soonOf_22 : decode cX12_soonOf 22 = .ok (.sipush 720, 3) := by decide +kernel
theorem dX12_soonOf_25 : decode cX12_soonOf 25 = .ok (.if_icmp .ge 7, 3) := by decide +kernel
theorem dX12_soonOf_28 : decode cX12_soonOf 28 = .ok (.iconst 2, 1) := by decide +kernel
theorem dX12_soonOf_29 : decode cX12_soonOf 29 = .ok (.goto 4, 3) := by decide +kernel
theorem dX12_soonOf_32 : decode cX12_soonOf 32 = .ok (.iconst 3, 1) := by decide +kernel
theorem dX12_soonOf_33 : decode cX12_soonOf 33 = .ok (.ireturn, 1) := by decide +kernel
theorem dX12_movesOf_0 : decode cX12_movesOf 0 = .ok (.iconst 0, 1) := by decide +kernel
theorem dX12_movesOf_1 : decode cX12_movesOf 1 = .ok (.istore_n 3, 1) := by decide +kernel
theorem dX12_movesOf_2 : decode cX12_movesOf 2 = .ok (.iconst 0, 1) := by decide +kernel
theorem dX12_movesOf_3 : decode cX12_movesOf 3 = .ok (.istore 4, 2) := by decide +kernel
theorem dX12_movesOf_5 : decode cX12_movesOf 5 = .ok (.iload 4, 2) := by decide +kernel
theorem dX12_movesOf_7 : decode cX12_movesOf 7 = .ok (.aload_n 0, 1) := by decide +kernel
theorem dX12_movesOf_8 : decode cX12_movesOf 8 = .ok (.getfield 417, 3) := by decide +kernel
theorem dX12_movesOf_11 : decode cX12_movesOf 11 = .ok (.if_icmp .ge 82, 3) := by decide +kernel
theorem dX12_movesOf_14 : decode cX12_movesOf 14 = .ok (.aload_n 0, 1) := by decide +kernel
theorem dX12_movesOf_15 : decode cX12_movesOf 15 = .ok (.getfield 124, 3) := by decide +kernel
theorem dX12_movesOf_18 : decode cX12_movesOf 18 = .ok (.iload 4, 2) := by decide +kernel
theorem dX12_movesOf_20 : decode cX12_movesOf 20 = .ok (.iaload, 1) := by decide +kernel
theorem dX12_movesOf_21 : decode cX12_movesOf 21 = .ok (.istore 5, 2) := by decide +kernel
theorem dX12_movesOf_23 : decode cX12_movesOf 23 = .ok (.aload_n 0, 1) := by decide +kernel
theorem dX12_movesOf_24 : decode cX12_movesOf 24 = .ok (.getfield 127, 3) := by decide +kernel
theorem dX12_movesOf_27 : decode cX12_movesOf 27 = .ok (.iload 4, 2) := by decide +kernel
theorem dX12_movesOf_29 : decode cX12_movesOf 29 = .ok (.iaload, 1) := by decide +kernel
theorem dX12_movesOf_30 : decode cX12_movesOf 30 = .ok (.istore 6, 2) := by decide +kernel
theorem dX12_movesOf_32 : decode cX12_movesOf 32 = .ok (.iload_n 3, 1) := by decide +kernel
theorem dX12_movesOf_33 : decode cX12_movesOf 33 = .ok (.aload_n 0, 1) := by decide +kernel
theorem dX12_movesOf_34 : decode cX12_movesOf 34 = .ok (.aload_n 0, 1) := by decide +kernel
theorem dX12_movesOf_35 : decode cX12_movesOf 35 = .ok (.getfield 28, 3) := by decide +kernel
theorem dX12_movesOf_38 : decode cX12_movesOf 38 = .ok (.iload 5, 2) := by decide +kernel
theorem dX12_movesOf_40 : decode cX12_movesOf 40 = .ok (.iaload, 1) := by decide +kernel
theorem dX12_movesOf_41 : decode cX12_movesOf 41 = .ok (.aload_n 0, 1) := by decide +kernel
theorem dX12_movesOf_42 : decode cX12_movesOf 42 = .ok (.getfield 28, 3) := by decide +kernel
theorem dX12_movesOf_45 : decode cX12_movesOf 45 = .ok (.iload 6, 2) := by decide +kernel
theorem dX12_movesOf_47 : decode cX12_movesOf 47 = .ok (.iaload, 1) := by decide +kernel
theorem dX12_movesOf_48 : decode cX12_movesOf 48 = .ok (.invokevirtual 278, 3) := by decide +kernel
theorem dX12_movesOf_51 : decode cX12_movesOf 51 = .ok (.invokestatic 423, 3) := by decide +kernel
theorem dX12_movesOf_54 : decode cX12_movesOf 54 = .ok (.iload_n 1, 1) := by decide +kernel
theorem dX12_movesOf_55 : decode cX12_movesOf 55 = .ok (.if_icmp .ne 29, 3) := by decide +kernel
theorem dX12_movesOf_58 : decode cX12_movesOf 58 = .ok (.aload_n 0, 1) := by decide +kernel
theorem dX12_movesOf_59 : decode cX12_movesOf 59 = .ok (.getfield 31, 3) := by decide +kernel
theorem dX12_movesOf_62 : decode cX12_movesOf 62 = .ok (.iload 6, 2) := by decide +kernel
theorem dX12_movesOf_64 : decode cX12_movesOf 64 = .ok (.iaload, 1) := by decide +kernel
theorem dX12_movesOf_65 : decode cX12_movesOf 65 = .ok (.aload_n 0, 1) := by decide +kernel
theorem dX12_movesOf_66 : decode cX12_movesOf 66 = .ok (.getfield 31, 3) := by decide +kernel
theorem dX12_movesOf_69 : decode cX12_movesOf 69 = .ok (.iload 5, 2) := by decide +kernel
theorem dX12_movesOf_71 : decode cX12_movesOf 71 = .ok (.iaload, 1) := by decide +kernel
theorem dX12_movesOf_72 : decode cX12_movesOf 72 = .ok (.isub, 1) := by decide +kernel
theorem dX12_movesOf_73 : decode cX12_movesOf 73 = .ok (.invokestatic 426, 3) := by decide +kernel
theorem dX12_movesOf_76 : decode cX12_movesOf 76 = .ok (.iload_n 2, 1) := by decide +kernel
theorem dX12_movesOf_77 : decode cX12_movesOf 77 = .ok (.if_icmp .ne 7, 3) := by decide +kernel
theorem dX12_movesOf_80 : decode cX12_movesOf 80 = .ok (.iconst 1, 1) := by decide +kernel
theorem dX12_movesOf_81 : decode cX12_movesOf 81 = .ok (.goto 4, 3) := by decide +kernel
theorem dX12_movesOf_84 : decode cX12_movesOf 84 = .ok (.iconst 0, 1) := by decide +kernel
theorem dX12_movesOf_85 : decode cX12_movesOf 85 = .ok (.iadd, 1) := by decide +kernel
theorem dX12_movesOf_86 : decode cX12_movesOf 86 = .ok (.istore_n 3, 1) := by decide +kernel
theorem dX12_movesOf_87 : decode cX12_movesOf 87 = .ok (.iinc 4 1, 3) := by decide +kernel
theorem dX12_movesOf_90 : decode cX12_movesOf 90 = .ok (.goto (-85), 3) := by decide +kernel
theorem dX12_movesOf_93 : decode cX12_movesOf 93 = .ok (.iload_n 3, 1) := by decide +kernel
theorem dX12_movesOf_94 : decode cX12_movesOf 94 = .ok (.ireturn, 1) := by decide +kernel
theorem dX12_moves_0 : decode cX12_moves 0 = .ok (.aload_n 0, 1) := by decide +kernel
theorem dX12_moves_1 : decode cX12_moves 1 = .ok (.iconst 0, 1) := by decide +kernel
theorem dX12_moves_2 : decode cX12_moves 2 = .ok (.putfield 185, 3) := by decide +kernel
theorem dX12_moves_5 : decode cX12_moves 5 = .ok (.iload_n 1, 1) := by decide +kernel
theorem dX12_moves_6 : decode cX12_moves 6 = .ok (.i2l, 1) := by decide +kernel
theorem dX12_moves_7 : decode cX12_moves 7 = .ok (.lconst 0, 1) := by decide +kernel
theorem dX12_moves_8 : decode cX12_moves 8 = .ok (.ldc2_w 252, 3) := by decide +kernel
theorem dX12_moves_11 : decode cX12_moves 11 = .ok (.invokestatic 190, 3) := by decide +kernel
theorem dX12_moves_14 : decode cX12_moves 14 = .ok (.ifCond .eq 15, 3) := by decide +kernel
theorem dX12_moves_17 : decode cX12_moves 17 = .ok (.iload_n 2, 1) := by decide +kernel
theorem dX12_moves_18 : decode cX12_moves 18 = .ok (.i2l, 1) := by decide +kernel
theorem dX12_moves_19 : decode cX12_moves 19 = .ok (.lconst 0, 1) := by decide +kernel
theorem dX12_moves_20 : decode cX12_moves 20 = .ok (.ldc2_w 252, 3) := by decide +kernel
theorem dX12_moves_23 : decode cX12_moves 23 = .ok (.invokestatic 190, 3) := by decide +kernel
theorem dX12_moves_26 : decode cX12_moves 26 = .ok (.ifCond .ne 9, 3) := by decide +kernel
theorem dX12_moves_29 : decode cX12_moves 29 = .ok (.aload_n 0, 1) := by decide +kernel
theorem dX12_moves_30 : decode cX12_moves 30 = .ok (.iconst 1, 1) := by decide +kernel
theorem dX12_moves_31 : decode cX12_moves 31 = .ok (.invokevirtual 226, 3) := by decide +kernel
theorem dX12_moves_34 : decode cX12_moves 34 = .ok (.ireturn, 1) := by decide +kernel
theorem dX12_moves_35 : decode cX12_moves 35 = .ok (.aload_n 0, 1) := by decide +kernel
theorem dX12_moves_36 : decode cX12_moves 36 = .ok (.invokevirtual 429, 3) := by decide +kernel
theorem dX12_moves_39 : decode cX12_moves 39 = .ok (.aload_n 0, 1) := by decide +kernel
theorem dX12_moves_40 : decode cX12_moves 40 = .ok (.iload_n 1, 1) := by decide +kernel
theorem dX12_moves_41 : decode cX12_moves 41 = .ok (.iload_n 2, 1) := by decide +kernel
theorem dX12_moves_42 : decode cX12_moves 42 = .ok (.invokevirtual 432, 3) := by decide +kernel
theorem dX12_moves_45 : decode cX12_moves 45 = .ok (.ireturn, 1) := by decide +kernel
theorem dX12_changes_0 : decode cX12_changes 0 = .ok (.aload_n 0, 1) := by decide +kernel
theorem dX12_changes_1 : decode cX12_changes 1 = .ok (.iconst 0, 1) := by decide +kernel
theorem dX12_changes_2 : decode cX12_changes 2 = .ok (.putfield 185, 3) := by decide +kernel
theorem dX12_changes_5 : decode cX12_changes 5 = .ok (.aload_n 0, 1) := by decide +kernel
theorem dX12_changes_6 : decode cX12_changes 6 = .ok (.iload_n 1, 1) := by decide +kernel
theorem dX12_changes_7 : decode cX12_changes 7 = .ok (.invokevirtual 249, 3) := by decide +kernel
theorem dX12_changes_10 : decode cX12_changes 10 = .ok (.ifCond .ne 9, 3) := by decide +kernel
theorem dX12_changes_13 : decode cX12_changes 13 = .ok (.aload_n 0, 1) := by decide +kernel
theorem dX12_changes_14 : decode cX12_changes 14 = .ok (.iconst 1, 1) := by decide +kernel
theorem dX12_changes_15 : decode cX12_changes 15 = .ok (.invokevirtual 226, 3) := by decide +kernel
theorem dX12_changes_18 : decode cX12_changes 18 = .ok (.ireturn, 1) := by decide +kernel
theorem dX12_changes_19 : decode cX12_changes 19 = .ok (.iload_n 2, 1) := by decide +kernel
theorem dX12_changes_20 : decode cX12_changes 20 = .ok (.invokestatic 296, 3) := by decide +kernel
theorem dX12_changes_23 : decode cX12_changes 23 = .ok (.ifCond .eq 10, 3) := by decide +kernel
theorem dX12_changes_26 : decode cX12_changes 26 = .ok (.iload_n 3, 1) := by decide +kernel
theorem dX12_changes_27 : decode cX12_changes 27 = .ok (.invokestatic 296, 3) := by decide +kernel
theorem dX12_changes_30 : decode cX12_changes 30 = .ok (.ifCond .ne 9, 3) := by decide +kernel
theorem dX12_changes_33 : decode cX12_changes 33 = .ok (.aload_n 0, 1) := by decide +kernel
theorem dX12_changes_34 : decode cX12_changes 34 = .ok (.iconst 2, 1) := by decide +kernel
theorem dX12_changes_35 : decode cX12_changes 35 = .ok (.invokevirtual 226, 3) := by decide +kernel
theorem dX12_changes_38 : decode cX12_changes 38 = .ok (.ireturn, 1) := by decide +kernel
theorem dX12_changes_39 : decode cX12_changes 39 = .ok (.aload_n 0, 1) := by decide +kernel
theorem dX12_changes_40 : decode cX12_changes 40 = .ok (.iload 4, 2) := by decide +kernel
theorem dX12_changes_42 : decode cX12_changes 42 = .ok (.invokevirtual 325, 3) := by decide +kernel
theorem dX12_changes_45 : decode cX12_changes 45 = .ok (.aload_n 0, 1) := by decide +kernel
theorem dX12_changes_46 : decode cX12_changes 46 = .ok (.invokevirtual 429, 3) := by decide +kernel
theorem dX12_changes_49 : decode cX12_changes 49 = .ok (.iconst 0, 1) := by decide +kernel
theorem dX12_changes_50 : decode cX12_changes 50 = .ok (.istore 5, 2) := by decide +kernel
theorem dX12_changes_52 : decode cX12_changes 52 = .ok (.iconst 0, 1) := by decide +kernel
theorem dX12_changes_53 : decode cX12_changes 53 = .ok (.istore 6, 2) := by decide +kernel
theorem dX12_changes_55 : decode cX12_changes 55 = .ok (.iload 6, 2) := by decide +kernel
theorem dX12_changes_57 : decode cX12_changes 57 = .ok (.aload_n 0, 1) := by decide +kernel
theorem dX12_changes_58 : decode cX12_changes 58 = .ok (.getfield 417, 3) := by decide +kernel
theorem dX12_changes_61 : decode cX12_changes 61 = .ok (.if_icmp .ge 61, 3) := by decide +kernel
theorem dX12_changes_64 : decode cX12_changes 64 = .ok (.iload 5, 2) := by decide +kernel
theorem dX12_changes_66 : decode cX12_changes 66 = .ok (.aload_n 0, 1) := by decide +kernel
theorem dX12_changes_67 : decode cX12_changes 67 = .ok (.getfield 76, 3) := by decide +kernel
theorem dX12_changes_70 : decode cX12_changes 70 = .ok (.bipush 16, 2) := by decide +kernel
theorem dX12_changes_72 : decode cX12_changes 72 = .ok (.aload_n 0, 1) := by decide +kernel
theorem dX12_changes_73 : decode cX12_changes 73 = .ok (.getfield 124, 3) := by decide +kernel
theorem dX12_changes_76 : decode cX12_changes 76 = .ok (.iload 6, 2) := by decide +kernel
theorem dX12_changes_78 : decode cX12_changes 78 = .ok (.iaload, 1) := by decide +kernel
theorem dX12_changes_79 : decode cX12_changes 79 = .ok (.imul, 1) := by decide +kernel
theorem dX12_changes_80 : decode cX12_changes 80 = .ok (.iload_n 1, 1) := by decide +kernel
theorem dX12_changes_81 : decode cX12_changes 81 = .ok (.iadd, 1) := by decide +kernel
theorem dX12_changes_82 : decode cX12_changes 82 = .ok (.iaload, 1) := by decide +kernel
theorem dX12_changes_83 : decode cX12_changes 83 = .ok (.iload_n 2, 1) := by decide +kernel
theorem dX12_changes_84 : decode cX12_changes 84 = .ok (.if_icmp .ne 28, 3) := by decide +kernel
theorem dX12_changes_87 : decode cX12_changes 87 = .ok (.aload_n 0, 1) := by decide +kernel
theorem dX12_changes_88 : decode cX12_changes 88 = .ok (.getfield 76, 3) := by decide +kernel
theorem dX12_changes_91 : decode cX12_changes 91 = .ok (.bipush 16, 2) := by decide +kernel
theorem dX12_changes_93 : decode cX12_changes 93 = .ok (.aload_n 0, 1) := by decide +kernel
theorem dX12_changes_94 : decode cX12_changes 94 = .ok (.getfield 127, 3) := by decide +kernel
theorem dX12_changes_97 : decode cX12_changes 97 = .ok (.iload 6, 2) := by decide +kernel
theorem dX12_changes_99 : decode cX12_changes 99 = .ok (.iaload, 1) := by decide +kernel
theorem dX12_changes_100 : decode cX12_changes 100 = .ok (.imul, 1) := by decide +kernel
theorem dX12_changes_101 : decode cX12_changes 101 = .ok (.iload_n 1, 1) := by decide +kernel
theorem dX12_changes_102 : decode cX12_changes 102 = .ok (.iadd, 1) := by decide +kernel
theorem dX12_changes_103 : decode cX12_changes 103 = .ok (.iaload, 1) := by decide +kernel
theorem dX12_changes_104 : decode cX12_changes 104 = .ok (.iload_n 3, 1) := by decide +kernel
theorem dX12_changes_105 : decode cX12_changes 105 = .ok (.if_icmp .ne 7, 3) := by decide +kernel
theorem dX12_changes_108 : decode cX12_changes 108 = .ok (.iconst 1, 1) := by decide +kernel
theorem dX12_changes_109 : decode cX12_changes 109 = .ok (.goto 4, 3) := by decide +kernel
theorem dX12_changes_112 : decode cX12_changes 112 = .ok (.iconst 0, 1) := by decide +kernel
theorem dX12_changes_113 : decode cX12_changes 113 = .ok (.iadd, 1) := by decide +kernel
theorem dX12_changes_114 : decode cX12_changes 114 = .ok (.istore 5, 2) := by decide +kernel
theorem dX12_changes_116 : decode cX12_changes 116 = .ok (.iinc 6 1, 3) := by decide +kernel
theorem dX12_changes_119 : decode cX12_changes 119 = .ok (.goto (-64), 3) := by decide +kernel
theorem dX12_changes_122 : decode cX12_changes 122 = .ok (.iload 5, 2) := by decide +kernel
theorem dX12_changes_124 : decode cX12_changes 124 = .ok (.ireturn, 1) := by decide +kernel
theorem dX12_layMap_0 : decode cX12_layMap 0 = .ok (.aload_n 0, 1) := by decide +kernel
theorem dX12_layMap_1 : decode cX12_layMap 1 = .ok (.invokevirtual 429, 3) := by decide +kernel
theorem dX12_layMap_4 : decode cX12_layMap 4 = .ok (.iconst 0, 1) := by decide +kernel
theorem dX12_layMap_5 : decode cX12_layMap 5 = .ok (.istore_n 3, 1) := by decide +kernel
theorem dX12_layMap_6 : decode cX12_layMap 6 = .ok (.iconst 0, 1) := by decide +kernel
theorem dX12_layMap_7 : decode cX12_layMap 7 = .ok (.istore 4, 2) := by decide +kernel
theorem dX12_layMap_9 : decode cX12_layMap 9 = .ok (.iload 4, 2) := by decide +kernel
theorem dX12_layMap_11 : decode cX12_layMap 11 = .ok (.aload_n 0, 1) := by decide +kernel
theorem dX12_layMap_12 : decode cX12_layMap 12 = .ok (.getfield 194, 3) := by decide +kernel
theorem dX12_layMap_15 : decode cX12_layMap 15 = .ok (.if_icmp .ge 34, 3) := by decide +kernel
theorem dX12_layMap_18 : decode cX12_layMap 18 = .ok (.iload_n 3, 1) := by decide +kernel
theorem dX12_layMap_19 : decode cX12_layMap 19 = .ok (.iconst 1, 1) := by decide +kernel
theorem dX12_layMap_20 : decode cX12_layMap 20 = .ok (.aload_n 0, 1) := by decide +kernel
theorem dX12_layMap_21 : decode cX12_layMap 21 = .ok (.aload_n 0, 1) := by decide +kernel
theorem dX12_layMap_22 : decode cX12_layMap 22 = .ok (.aload_n 0, 1) := by decide +kernel
theorem dX12_layMap_23 : decode cX12_layMap 23 = .ok (.getfield 28, 3) := by decide +kernel
theorem dX12_layMap_26 : decode cX12_layMap 26 = .ok (.iload_n 1, 1) := by decide +kernel
theorem dX12_layMap_27 : decode cX12_layMap 27 = .ok (.iaload, 1) := by decide +kernel
theorem dX12_layMap_28 : decode cX12_layMap 28 = .ok (.iload 4, 2) := by decide +kernel
theorem dX12_layMap_30 : decode cX12_layMap 30 = .ok (.invokevirtual 278, 3) := by decide +kernel
theorem dX12_layMap_33 : decode cX12_layMap 33 = .ok (.invokestatic 423, 3) := by decide +kernel
theorem dX12_layMap_36 : decode cX12_layMap 36 = .ok (.iload_n 2, 1) := by decide +kernel
theorem dX12_layMap_37 : decode cX12_layMap 37 = .ok (.invokevirtual 432, 3) := by decide +kernel
theorem dX12_layMap_40 : decode cX12_layMap 40 = .ok (.iadd, 1) := by decide +kernel
theorem dX12_layMap_41 : decode cX12_layMap 41 = .ok (.iadd, 1) := by decide +kernel
theorem dX12_layMap_42 : decode cX12_layMap 42 = .ok (.istore_n 3, 1) := by decide +kernel
theorem dX12_layMap_43 : decode cX12_layMap 43 = .ok (.iinc 4 1, 3) := by decide +kernel
theorem dX12_layMap_46 : decode cX12_layMap 46 = .ok (.goto (-37), 3) := by decide +kernel
theorem dX12_layMap_49 : decode cX12_layMap 49 = .ok (.sipush 10000, 3) := by decide +kernel
theorem dX12_layMap_52 : decode cX12_layMap 52 = .ok (.istore 4, 2) := by decide +kernel
theorem dX12_layMap_54 : decode cX12_layMap 54 = .ok (.iconst 0, 1) := by decide +kernel
theorem dX12_layMap_55 : decode cX12_layMap 55 = .ok (.istore 5, 2) := by decide +kernel
theorem dX12_layMap_57 : decode cX12_layMap 57 = .ok (.iload 5, 2) := by decide +kernel
theorem dX12_layMap_59 : decode cX12_layMap 59 = .ok (.aload_n 0, 1) := by decide +kernel
theorem dX12_layMap_60 : decode cX12_layMap 60 = .ok (.getfield 194, 3) := by decide +kernel
theorem dX12_layMap_63 : decode cX12_layMap 63 = .ok (.if_icmp .ge 71, 3) := by decide +kernel
theorem dX12_layMap_66 : decode cX12_layMap 66 = .ok (.sipush 10000, 3) := by decide +kernel
theorem dX12_layMap_69 : decode cX12_layMap 69 = .ok (.iconst 1, 1) := by decide +kernel
theorem dX12_layMap_70 : decode cX12_layMap 70 = .ok (.aload_n 0, 1) := by decide +kernel
theorem dX12_layMap_71 : decode cX12_layMap 71 = .ok (.aload_n 0, 1) := by decide +kernel
theorem dX12_layMap_72 : decode cX12_layMap 72 = .ok (.aload_n 0, 1) := by decide +kernel
theorem dX12_layMap_73 : decode cX12_layMap 73 = .ok (.getfield 28, 3) := by decide +kernel
theorem dX12_layMap_76 : decode cX12_layMap 76 = .ok (.iload_n 1, 1) := by decide +kernel
theorem dX12_layMap_77 : decode cX12_layMap 77 = .ok (.iaload, 1) := by decide +kernel
theorem dX12_layMap_78 : decode cX12_layMap 78 = .ok (.iload 5, 2) := by decide +kernel
theorem dX12_layMap_80 : decode cX12_layMap 80 = .ok (.invokevirtual 278, 3) := by decide +kernel
theorem dX12_layMap_83 : decode cX12_layMap 83 = .ok (.invokestatic 423, 3) := by decide +kernel
theorem dX12_layMap_86 : decode cX12_layMap 86 = .ok (.iload_n 2, 1) := by decide +kernel
theorem dX12_layMap_87 : decode cX12_layMap 87 = .ok (.invokevirtual 432, 3) := by decide +kernel
theorem dX12_layMap_90 : decode cX12_layMap 90 = .ok (.iadd, 1) := by decide +kernel
theorem dX12_layMap_91 : decode cX12_layMap 91 = .ok (.imul, 1) := by decide +kernel
theorem dX12_layMap_92 : decode cX12_layMap 92 = .ok (.istore 6, 2) := by decide +kernel
theorem dX12_layMap_94 : decode cX12_layMap 94 = .ok (.aload_n 0, 1) := by decide +kernel
theorem dX12_layMap_95 : decode cX12_layMap 95 = .ok (.getfield 130, 3) := by decide +kernel
theorem dX12_layMap_98 : decode cX12_layMap 98 = .ok (.iload 5, 2) := by decide +kernel
theorem dX12_layMap_100 : decode cX12_layMap 100 = .ok (.iload 6, 2) := by decide +kernel
theorem dX12_layMap_102 : decode cX12_layMap 102 = .ok (.iload_n 3, 1) := by decide +kernel
theorem dX12_layMap_103 : decode cX12_layMap 103 = .ok (.idiv, 1) := by decide +kernel
theorem dX12_layMap_104 : decode cX12_layMap 104 = .ok (.iastore, 1) := by decide +kernel
theorem dX12_layMap_105 : decode cX12_layMap 105 = .ok (.aload_n 0, 1) := by decide +kernel
theorem dX12_layMap_106 : decode cX12_layMap 106 = .ok (.getfield 133, 3) := by decide +kernel
theorem dX12_layMap_109 : decode cX12_layMap 109 = .ok (.iload 5, 2) := by decide +kernel
theorem dX12_layMap_111 : decode cX12_layMap 111 = .ok (.iload 6, 2) := by decide +kernel
theorem dX12_layMap_113 : decode cX12_layMap 113 = .ok (.iload_n 3, 1) := by decide +kernel
theorem dX12_layMap_114 : decode cX12_layMap 114 = .ok (.irem, 1) := by decide +kernel
theorem dX12_layMap_115 : decode cX12_layMap 115 = .ok (.iastore, 1) := by decide +kernel
theorem dX12_layMap_116 : decode cX12_layMap 116 = .ok (.iload 4, 2) := by decide +kernel
theorem dX12_layMap_118 : decode cX12_layMap 118 = .ok (.aload_n 0, 1) := by decide +kernel
theorem dX12_layMap_119 : decode cX12_layMap 119 = .ok (.getfield 130, 3) := by decide +kernel
theorem dX12_layMap_122 : decode cX12_layMap 122 = .ok (.iload 5, 2) := by decide +kernel
theorem dX12_layMap_124 : decode cX12_layMap 124 = .ok (.iaload, 1) := by decide +kernel
theorem dX12_layMap_125 : decode cX12_layMap 125 = .ok (.isub, 1) := by decide +kernel
theorem dX12_layMap_126 : decode cX12_layMap 126 = .ok (.istore 4, 2) := by decide +kernel
theorem dX12_layMap_128 : decode cX12_layMap 128 = .ok (.iinc 5 1, 3) := by decide +kernel
theorem dX12_layMap_131 : decode cX12_layMap 131 = .ok (.goto (-74), 3) := by decide +kernel
theorem dX12_layMap_134 : decode cX12_layMap 134 = .ok (.iload 4, 2) := by decide +kernel
theorem dX12_layMap_136 : decode cX12_layMap 136 = .ok (.ifCond .le 70, 3) := by decide +kernel
theorem dX12_layMap_139 : decode cX12_layMap 139 = .ok (.iconst 0, 1) := by decide +kernel
theorem dX12_layMap_140 : decode cX12_layMap 140 = .ok (.istore 5, 2) := by decide +kernel
theorem dX12_layMap_142 : decode cX12_layMap 142 = .ok (.iconst 1, 1) := by decide +kernel
theorem dX12_layMap_143 : decode cX12_layMap 143 = .ok (.istore 6, 2) := by decide +kernel
theorem dX12_layMap_145 : decode cX12_layMap 145 = .ok (.iload 6, 2) := by decide +kernel
theorem dX12_layMap_147 : decode cX12_layMap 147 = .ok (.aload_n 0, 1) := by decide +kernel
theorem dX12_layMap_148 : decode cX12_layMap 148 = .ok (.getfield 194, 3) := by decide +kernel
theorem dX12_layMap_151 : decode cX12_layMap 151 = .ok (.if_icmp .ge 30, 3) := by decide +kernel
theorem dX12_layMap_154 : decode cX12_layMap 154 = .ok (.aload_n 0, 1) := by decide +kernel
theorem dX12_layMap_155 : decode cX12_layMap 155 = .ok (.getfield 133, 3) := by decide +kernel
theorem dX12_layMap_158 : decode cX12_layMap 158 = .ok (.iload 6, 2) := by decide +kernel
theorem dX12_layMap_160 : decode cX12_layMap 160 = .ok (.iaload, 1) := by decide +kernel
theorem dX12_layMap_161 : decode cX12_layMap 161 = .ok (.aload_n 0, 1) := by decide +kernel
theorem dX12_layMap_162 : decode cX12_layMap 162 = .ok (.getfield 133, 3) := by decide +kernel
theorem dX12_layMap_165 : decode cX12_layMap 165 = .ok (.iload 5, 2) := by decide +kernel
theorem dX12_layMap_167 : decode cX12_layMap 167 = .ok (.iaload, 1) := by decide +kernel
theorem dX12_layMap_168 : decode cX12_layMap 168 = .ok (.if_icmp .le 7, 3) := by decide +kernel
theorem dX12_layMap_171 : decode cX12_layMap 171 = .ok (.iload 6, 2) := by decide +kernel
theorem dX12_layMap_173 : decode cX12_layMap 173 = .ok (.istore 5, 2) := by decide +kernel
theorem dX12_layMap_175 : decode cX12_layMap 175 = .ok (.iinc 6 1, 3) := by decide +kernel
theorem dX12_layMap_178 : decode cX12_layMap 178 = .ok (.goto (-33), 3) := by decide +kernel
theorem dX12_layMap_181 : decode cX12_layMap 181 = .ok (.aload_n 0, 1) := by decide +kernel
theorem dX12_layMap_182 : decode cX12_layMap 182 = .ok (.getfield 130, 3) := by decide +kernel
theorem dX12_layMap_185 : decode cX12_layMap 185 = .ok (.iload 5, 2) := by decide +kernel
theorem dX12_layMap_187 : decode cX12_layMap 187 = .ok (.dup2, 1) := by decide +kernel
theorem dX12_layMap_188 : decode cX12_layMap 188 = .ok (.iaload, 1) := by decide +kernel
theorem dX12_layMap_189 : decode cX12_layMap 189 = .ok (.iconst 1, 1) := by decide +kernel
theorem dX12_layMap_190 : decode cX12_layMap 190 = .ok (.iadd, 1) := by decide +kernel
theorem dX12_layMap_191 : decode cX12_layMap 191 = .ok (.iastore, 1) := by decide +kernel
theorem dX12_layMap_192 : decode cX12_layMap 192 = .ok (.aload_n 0, 1) := by decide +kernel
theorem dX12_layMap_193 : decode cX12_layMap 193 = .ok (.getfield 133, 3) := by decide +kernel
theorem dX12_layMap_196 : decode cX12_layMap 196 = .ok (.iload 5, 2) := by decide +kernel
theorem dX12_layMap_198 : decode cX12_layMap 198 = .ok (.iconst (-1), 1) := by decide +kernel
theorem dX12_layMap_199 : decode cX12_layMap 199 = .ok (.iastore, 1) := by decide +kernel
theorem dX12_layMap_200 : decode cX12_layMap 200 = .ok (.iinc 4 (-1), 3) := by decide +kernel
theorem dX12_layMap_203 : decode cX12_layMap 203 = .ok (.goto (-69), 3) := by decide +kernel
theorem dX12_layMap_206 : decode cX12_layMap 206 = .ok (.return_, 1) := by decide +kernel
theorem dX12_share_0 : decode cX12_share 0 = .ok (.aload_n 0, 1) := by decide +kernel
theorem dX12_share_1 : decode cX12_share 1 = .ok (.iconst 0, 1) := by decide +kernel
theorem dX12_share_2 : decode cX12_share 2 = .ok (.putfield 185, 3) := by decide +kernel
theorem dX12_share_5 : decode cX12_share 5 = .ok (.aload_n 0, 1) := by decide +kernel
theorem dX12_share_6 : decode cX12_share 6 = .ok (.iload_n 1, 1) := by decide +kernel
theorem dX12_share_7 : decode cX12_share 7 = .ok (.invokevirtual 206, 3) := by decide +kernel
theorem dX12_share_10 : decode cX12_share 10 = .ok (.ifCond .eq 11, 3) := by decide +kernel
theorem dX12_share_13 : decode cX12_share 13 = .ok (.aload_n 0, 1) := by decide +kernel
theorem dX12_share_14 : decode cX12_share 14 = .ok (.iload_n 3, 1) := by decide +kernel
theorem dX12_share_15 : decode cX12_share 15 = .ok (.invokevirtual 229, 3) := by decide +kernel
theorem dX12_share_18 : decode cX12_share 18 = .ok (.ifCond .ne 9, 3) := by decide +kernel
theorem dX12_share_21 : decode cX12_share 21 = .ok (.aload_n 0, 1) := by decide +kernel
theorem dX12_share_22 : decode cX12_share 22 = .ok (.iconst 1, 1) := by decide +kernel
theorem dX12_share_23 : decode cX12_share 23 = .ok (.invokevirtual 226, 3) := by decide +kernel
theorem dX12_share_26 : decode cX12_share 26 = .ok (.ireturn, 1) := by decide +kernel
theorem dX12_share_27 : decode cX12_share 27 = .ok (.iload_n 2, 1) := by decide +kernel
theorem dX12_share_28 : decode cX12_share 28 = .ok (.i2l, 1) := by decide +kernel
theorem dX12_share_29 : decode cX12_share 29 = .ok (.lconst 0, 1) := by decide +kernel
theorem dX12_share_30 : decode cX12_share 30 = .ok (.ldc2_w 252, 3) := by decide +kernel
theorem dX12_share_33 : decode cX12_share 33 = .ok (.invokestatic 190, 3) := by decide +kernel
theorem dX12_share_36 : decode cX12_share 36 = .ok (.ifCond .ne 9, 3) := by decide +kernel
theorem dX12_share_39 : decode cX12_share 39 = .ok (.aload_n 0, 1) := by decide +kernel
theorem dX12_share_40 : decode cX12_share 40 = .ok (.iconst 2, 1) := by decide +kernel
theorem dX12_share_41 : decode cX12_share 41 = .ok (.invokevirtual 226, 3) := by decide +kernel
theorem dX12_share_44 : decode cX12_share 44 = .ok (.ireturn, 1) := by decide +kernel
theorem dX12_share_45 : decode cX12_share 45 = .ok (.aload_n 0, 1) := by decide +kernel
theorem dX12_share_46 : decode cX12_share 46 = .ok (.iload_n 1, 1) := by decide +kernel
theorem dX12_share_47 : decode cX12_share 47 = .ok (.iload_n 2, 1) := by decide +kernel
theorem dX12_share_48 : decode cX12_share 48 = .ok (.invokevirtual 435, 3) := by decide +kernel
theorem dX12_share_51 : decode cX12_share 51 = .ok (.aload_n 0, 1) := by decide +kernel
theorem dX12_share_52 : decode cX12_share 52 = .ok (.getfield 130, 3) := by decide +kernel
theorem dX12_share_55 : decode cX12_share 55 = .ok (.iload_n 3, 1) := by decide +kernel
theorem dX12_share_56 : decode cX12_share 56 = .ok (.iaload, 1) := by decide +kernel
theorem dX12_share_57 : decode cX12_share 57 = .ok (.ireturn, 1) := by decide +kernel
theorem dX12_likelyOf_0 : decode cX12_likelyOf 0 = .ok (.aload_n 0, 1) := by decide +kernel
theorem dX12_likelyOf_1 : decode cX12_likelyOf 1 = .ok (.iload_n 1, 1) := by decide +kernel
theorem dX12_likelyOf_2 : decode cX12_likelyOf 2 = .ok (.iload_n 2, 1) := by decide +kernel
theorem dX12_likelyOf_3 : decode cX12_likelyOf 3 = .ok (.invokevirtual 435, 3) := by decide +kernel
theorem dX12_likelyOf_6 : decode cX12_likelyOf 6 = .ok (.iconst 0, 1) := by decide +kernel
theorem dX12_likelyOf_7 : decode cX12_likelyOf 7 = .ok (.istore 4, 2) := by decide +kernel
theorem dX12_likelyOf_9 : decode cX12_likelyOf 9 = .ok (.iconst 0, 1) := by decide +kernel
theorem dX12_likelyOf_10 : decode cX12_likelyOf 10 = .ok (.istore 5, 2) := by decide +kernel
theorem dX12_likelyOf_12 : decode cX12_likelyOf 12 = .ok (.iload 5, 2) := by decide +kernel
theorem dX12_likelyOf_14 : decode cX12_likelyOf 14 = .ok (.iload_n 3, 1) := by decide +kernel
theorem dX12_likelyOf_15 : decode cX12_likelyOf 15 = .ok (.if_icmp .ge 85, 3) := by decide +kernel
theorem dX12_likelyOf_18 : decode cX12_likelyOf 18 = .ok (.iconst (-1), 1) := by decide +kernel
theorem dX12_likelyOf_19 : decode cX12_likelyOf 19 = .ok (.istore 6, 2) := by decide +kernel
theorem dX12_likelyOf_21 : decode cX12_likelyOf 21 = .ok (.iconst 0, 1) := by decide +kernel
theorem dX12_likelyOf_22 : decode cX12_likelyOf 22 = .ok (.istore 7, 2) := by decide +kernel
theorem dX12_likelyOf_24 : decode cX12_likelyOf 24 = .ok (.iload 7, 2) := by decide +kernel
theorem dX12_likelyOf_26 : decode cX12_likelyOf 26 = .ok (.aload_n 0, 1) := by decide +kernel
theorem dX12_likelyOf_27 : decode cX12_likelyOf 27 = .ok (.getfield 194, 3) := by decide +kernel
theorem dX12_likelyOf_30 : decode cX12_likelyOf 30 = .ok (.if_icmp .ge 46, 3) := by decide +kernel
theorem dX12_likelyOf_33 : decode cX12_likelyOf 33 = .ok (.iload 4, 2) := by decide +kernel
theorem dX12_likelyOf_35 : decode cX12_likelyOf 35 = .ok (.iload 7, 2) := by decide +kernel
theorem dX12_likelyOf_37 : decode cX12_likelyOf 37 = .ok (.ishr, 1) := by decide +kernel
theorem dX12_likelyOf_38 : decode cX12_likelyOf 38 = .ok (.iconst 1, 1) := by decide +kernel
theorem dX12_likelyOf_39 : decode cX12_likelyOf 39 = .ok (.iand, 1) := by decide +kernel
theorem dX12_likelyOf_40 : decode cX12_likelyOf 40 = .ok (.ifCond .ne 30, 3) := by decide +kernel
theorem dX12_likelyOf_43 : decode cX12_likelyOf 43 = .ok (.iload 6, 2) := by decide +kernel
theorem dX12_likelyOf_45 : decode cX12_likelyOf 45 = .ok (.iconst (-1), 1) := by decide +kernel
theorem dX12_likelyOf_46 : decode cX12_likelyOf 46 = .ok (.if_icmp .eq 20, 3) := by decide +kernel
theorem dX12_likelyOf_49 : decode cX12_likelyOf 49 = .ok (.aload_n 0, 1) := by decide +kernel
theorem dX12_likelyOf_50 : decode cX12_likelyOf 50 = .ok (.getfield 130, 3) := by decide +kernel
theorem dX12_likelyOf_53 : decode cX12_likelyOf 53 = .ok (.iload 7, 2) := by decide +kernel
theorem dX12_likelyOf_55 : decode cX12_likelyOf 55 = .ok (.iaload, 1) := by decide +kernel
theorem dX12_likelyOf_56 : decode cX12_likelyOf 56 = .ok (.aload_n 0, 1) := by decide +kernel
theorem dX12_likelyOf_57 : decode cX12_likelyOf 57 = .ok (.getfield 130, 3) := by decide +kernel
theorem dX12_likelyOf_60 : decode cX12_likelyOf 60 = .ok (.iload 6, 2) := by decide +kernel
theorem dX12_likelyOf_62 : decode cX12_likelyOf 62 = .ok (.iaload, 1) := by decide +kernel
theorem dX12_likelyOf_63 : decode cX12_likelyOf 63 = .ok (.if_icmp .le 7, 3) := by decide +kernel
theorem dX12_likelyOf_66 : decode cX12_likelyOf 66 = .ok (.iload 7, 2) := by decide +kernel
theorem dX12_likelyOf_68 : decode cX12_likelyOf 68 = .ok (.istore 6, 2) := by decide +kernel
theorem dX12_likelyOf_70 : decode cX12_likelyOf 70 = .ok (.iinc 7 1, 3) := by decide +kernel
theorem dX12_likelyOf_73 : decode cX12_likelyOf 73 = .ok (.goto (-49), 3) := by decide +kernel
theorem dX12_likelyOf_76 : decode cX12_likelyOf 76 = .ok (.iload 4, 2) := by decide +kernel
theorem dX12_likelyOf_78 : decode cX12_likelyOf 78 = .ok (.iconst 1, 1) := by decide +kernel
theorem dX12_likelyOf_79 : decode cX12_likelyOf 79 = .ok (.iload 6, 2) := by decide +kernel
theorem dX12_likelyOf_81 : decode cX12_likelyOf 81 = .ok (.ishl, 1) := by decide +kernel
theorem dX12_likelyOf_82 : decode cX12_likelyOf 82 = .ok (.ior, 1) := by decide +kernel
theorem dX12_likelyOf_83 : decode cX12_likelyOf 83 = .ok (.istore 4, 2) := by decide +kernel
theorem dX12_likelyOf_85 : decode cX12_likelyOf 85 = .ok (.iload 5, 2) := by decide +kernel
theorem dX12_likelyOf_87 : decode cX12_likelyOf 87 = .ok (.aload_n 0, 1) := by decide +kernel
theorem dX12_likelyOf_88 : decode cX12_likelyOf 88 = .ok (.getfield 130, 3) := by decide +kernel
theorem dX12_likelyOf_91 : decode cX12_likelyOf 91 = .ok (.iload 6, 2) := by decide +kernel
theorem dX12_likelyOf_93 : decode cX12_likelyOf 93 = .ok (.iaload, 1) := by decide +kernel
theorem dX12_likelyOf_94 : decode cX12_likelyOf 94 = .ok (.iadd, 1) := by decide +kernel
theorem dX12_likelyOf_95 : decode cX12_likelyOf 95 = .ok (.istore 5, 2) := by decide +kernel
theorem dX12_likelyOf_97 : decode cX12_likelyOf 97 = .ok (.goto (-85), 3) := by decide +kernel
theorem dX12_likelyOf_100 : decode cX12_likelyOf 100 = .ok (.iload 4, 2) := by decide +kernel
theorem dX12_likelyOf_102 : decode cX12_likelyOf 102 = .ok (.ireturn, 1) := by decide +kernel
theorem dX12_likely_0 : decode cX12_likely 0 = .ok (.aload_n 0, 1) := by decide +kernel
theorem dX12_likely_1 : decode cX12_likely 1 = .ok (.iconst 0, 1) := by decide +kernel
theorem dX12_likely_2 : decode cX12_likely 2 = .ok (.putfield 185, 3) := by decide +kernel
theorem dX12_likely_5 : decode cX12_likely 5 = .ok (.aload_n 0, 1) := by decide +kernel
theorem dX12_likely_6 : decode cX12_likely 6 = .ok (.iload_n 1, 1) := by decide +kernel
theorem dX12_likely_7 : decode cX12_likely 7 = .ok (.invokevirtual 206, 3) := by decide +kernel
theorem dX12_likely_10 : decode cX12_likely 10 = .ok (.ifCond .ne 9, 3) := by decide +kernel
theorem dX12_likely_13 : decode cX12_likely 13 = .ok (.aload_n 0, 1) := by decide +kernel
theorem dX12_likely_14 : decode cX12_likely 14 = .ok (.iconst 1, 1) := by decide +kernel
theorem dX12_likely_15 : decode cX12_likely 15 = .ok (.invokevirtual 226, 3) := by decide +kernel
theorem dX12_likely_18 : decode cX12_likely 18 = .ok (.ireturn, 1) := by decide +kernel
theorem dX12_likely_19 : decode cX12_likely 19 = .ok (.iload_n 2, 1) := by decide +kernel
theorem dX12_likely_20 : decode cX12_likely 20 = .ok (.i2l, 1) := by decide +kernel
theorem dX12_likely_21 : decode cX12_likely 21 = .ok (.lconst 0, 1) := by decide +kernel
theorem dX12_likely_22 : decode cX12_likely 22 = .ok (.ldc2_w 252, 3) := by decide +kernel
theorem dX12_likely_25 : decode cX12_likely 25 = .ok (.invokestatic 190, 3) := by decide +kernel
theorem dX12_likely_28 : decode cX12_likely 28 = .ok (.ifCond .eq 15, 3) := by decide +kernel
theorem dX12_likely_31 : decode cX12_likely 31 = .ok (.iload_n 3, 1) := by decide +kernel
theorem dX12_likely_32 : decode cX12_likely 32 = .ok (.i2l, 1) := by decide +kernel
theorem dX12_likely_33 : decode cX12_likely 33 = .ok (.lconst 1, 1) := by decide +kernel
theorem dX12_likely_34 : decode cX12_likely 34 = .ok (.ldc2_w 291, 3) := by decide +kernel
theorem dX12_likely_37 : decode cX12_likely 37 = .ok (.invokestatic 190, 3) := by decide +kernel
theorem dX12_likely_40 : decode cX12_likely 40 = .ok (.ifCond .ne 9, 3) := by decide +kernel
theorem dX12_likely_43 : decode cX12_likely 43 = .ok (.aload_n 0, 1) := by decide +kernel
theorem dX12_likely_44 : decode cX12_likely 44 = .ok (.iconst 2, 1) := by decide +kernel
theorem dX12_likely_45 : decode cX12_likely 45 = .ok (.invokevirtual 226, 3) := by decide +kernel
theorem dX12_likely_48 : decode cX12_likely 48 = .ok (.ireturn, 1) := by decide +kernel
theorem dX12_likely_49 : decode cX12_likely 49 = .ok (.aload_n 0, 1) := by decide +kernel
theorem dX12_likely_50 : decode cX12_likely 50 = .ok (.iload_n 1, 1) := by decide +kernel
theorem dX12_likely_51 : decode cX12_likely 51 = .ok (.iload_n 2, 1) := by decide +kernel
theorem dX12_likely_52 : decode cX12_likely 52 = .ok (.iload_n 3, 1) := by decide +kernel
theorem dX12_likely_53 : decode cX12_likely 53 = .ok (.invokevirtual 438, 3) := by decide +kernel
theorem dX12_likely_56 : decode cX12_likely 56 = .ok (.ireturn, 1) := by decide +kernel
theorem dX12_keep_0 : decode cX12_keep 0 = .ok (.aload_n 0, 1) := by decide +kernel
theorem dX12_keep_1 : decode cX12_keep 1 = .ok (.iconst 0, 1) := by decide +kernel
theorem dX12_keep_2 : decode cX12_keep 2 = .ok (.putfield 185, 3) := by decide +kernel
theorem dX12_keep_5 : decode cX12_keep 5 = .ok (.aload_n 0, 1) := by decide +kernel
theorem dX12_keep_6 : decode cX12_keep 6 = .ok (.iload_n 1, 1) := by decide +kernel
theorem dX12_keep_7 : decode cX12_keep 7 = .ok (.invokevirtual 206, 3) := by decide +kernel
theorem dX12_keep_10 : decode cX12_keep 10 = .ok (.ifCond .ne 9, 3) := by decide +kernel
theorem dX12_keep_13 : decode cX12_keep 13 = .ok (.aload_n 0, 1) := by decide +kernel
theorem dX12_keep_14 : decode cX12_keep 14 = .ok (.iconst 1, 1) := by decide +kernel
theorem dX12_keep_15 : decode cX12_keep 15 = .ok (.invokevirtual 226, 3) := by decide +kernel
theorem dX12_keep_18 : decode cX12_keep 18 = .ok (.ireturn, 1) := by decide +kernel
theorem dX12_keep_19 : decode cX12_keep 19 = .ok (.iload_n 2, 1) := by decide +kernel
theorem dX12_keep_20 : decode cX12_keep 20 = .ok (.i2l, 1) := by decide +kernel
theorem dX12_keep_21 : decode cX12_keep 21 = .ok (.lconst 0, 1) := by decide +kernel
theorem dX12_keep_22 : decode cX12_keep 22 = .ok (.ldc2_w 252, 3) := by decide +kernel
theorem dX12_keep_25 : decode cX12_keep 25 = .ok (.invokestatic 190, 3) := by decide +kernel
theorem dX12_keep_28 : decode cX12_keep 28 = .ok (.ifCond .eq 15, 3) := by decide +kernel
theorem dX12_keep_31 : decode cX12_keep 31 = .ok (.iload_n 3, 1) := by decide +kernel
theorem dX12_keep_32 : decode cX12_keep 32 = .ok (.i2l, 1) := by decide +kernel
theorem dX12_keep_33 : decode cX12_keep 33 = .ok (.lconst 1, 1) := by decide +kernel
theorem dX12_keep_34 : decode cX12_keep 34 = .ok (.ldc2_w 291, 3) := by decide +kernel
theorem dX12_keep_37 : decode cX12_keep 37 = .ok (.invokestatic 190, 3) := by decide +kernel
theorem dX12_keep_40 : decode cX12_keep 40 = .ok (.ifCond .ne 9, 3) := by decide +kernel
theorem dX12_keep_43 : decode cX12_keep 43 = .ok (.aload_n 0, 1) := by decide +kernel
theorem dX12_keep_44 : decode cX12_keep 44 = .ok (.iconst 2, 1) := by decide +kernel
theorem dX12_keep_45 : decode cX12_keep 45 = .ok (.invokevirtual 226, 3) := by decide +kernel
theorem dX12_keep_48 : decode cX12_keep 48 = .ok (.ireturn, 1) := by decide +kernel
theorem dX12_keep_49 : decode cX12_keep 49 = .ok (.aload_n 0, 1) := by decide +kernel
theorem dX12_keep_50 : decode cX12_keep 50 = .ok (.getfield 441, 3) := by decide +kernel
theorem dX12_keep_53 : decode cX12_keep 53 = .ok (.bipush 20, 2) := by decide +kernel
theorem dX12_keep_55 : decode cX12_keep 55 = .ok (.if_icmp .ne 5, 3) := by decide +kernel
theorem dX12_keep_58 : decode cX12_keep 58 = .ok (.iconst (-1), 1) := by decide +kernel
theorem dX12_keep_59 : decode cX12_keep 59 = .ok (.ireturn, 1) := by decide +kernel
theorem dX12_keep_60 : decode cX12_keep 60 = .ok (.aload_n 0, 1) := by decide +kernel
theorem dX12_keep_61 : decode cX12_keep 61 = .ok (.getfield 136, 3) := by decide +kernel
theorem dX12_keep_64 : decode cX12_keep 64 = .ok (.aload_n 0, 1) := by decide +kernel
theorem dX12_keep_65 : decode cX12_keep 65 = .ok (.getfield 441, 3) := by decide +kernel
theorem dX12_keep_68 : decode cX12_keep 68 = .ok (.aload_n 0, 1) := by decide +kernel
theorem dX12_keep_69 : decode cX12_keep 69 = .ok (.iload_n 1, 1) := by decide +kernel
theorem dX12_keep_70 : decode cX12_keep 70 = .ok (.iload_n 2, 1) := by decide +kernel
theorem dX12_keep_71 : decode cX12_keep 71 = .ok (.iload_n 3, 1) := by decide +kernel
theorem dX12_keep_72 : decode cX12_keep 72 = .ok (.invokevirtual 438, 3) := by decide +kernel
theorem dX12_keep_75 : decode cX12_keep 75 = .ok (.iastore, 1) := by decide +kernel
theorem dX12_keep_76 : decode cX12_keep 76 = .ok (.aload_n 0, 1) := by decide +kernel
theorem dX12_keep_77 : decode cX12_keep 77 = .ok (.getfield 139, 3) := by decide +kernel
theorem dX12_keep_80 : decode cX12_keep 80 = .ok (.aload_n 0, 1) := by decide +kernel
theorem dX12_keep_81 : decode cX12_keep 81 = .ok (.getfield 441, 3) := by decide +kernel
theorem dX12_keep_84 : decode cX12_keep 84 = .ok (.iconst 0, 1) := by decide +kernel
theorem dX12_keep_85 : decode cX12_keep 85 = .ok (.iastore, 1) := by decide +kernel
theorem dX12_keep_86 : decode cX12_keep 86 = .ok (.aload_n 0, 1) := by decide +kernel
theorem dX12_keep_87 : decode cX12_keep 87 = .ok (.dup, 1) := by decide +kernel
theorem dX12_keep_88 : decode cX12_keep 88 = .ok (.getfield 441, 3) := by decide +kernel
theorem dX12_keep_91 : decode cX12_keep 91 = .ok (.iconst 1, 1) := by decide +kernel
theorem dX12_keep_92 : decode cX12_keep 92 = .ok (.iadd, 1) := by decide +kernel
theorem dX12_keep_93 : decode cX12_keep 93 = .ok (.putfield 441, 3) := by decide +kernel
theorem dX12_keep_96 : decode cX12_keep 96 = .ok (.aload_n 0, 1) := by decide +kernel
theorem dX12_keep_97 : decode cX12_keep 97 = .ok (.getfield 441, 3) := by decide +kernel
theorem dX12_keep_100 : decode cX12_keep 100 = .ok (.iconst 1, 1) := by decide +kernel
theorem dX12_keep_101 : decode cX12_keep 101 = .ok (.isub, 1) := by decide +kernel
theorem dX12_keep_102 : decode cX12_keep 102 = .ok (.ireturn, 1) := by decide +kernel
theorem dX12_came_0 : decode cX12_came 0 = .ok (.aload_n 0, 1) := by decide +kernel
theorem dX12_came_1 : decode cX12_came 1 = .ok (.iload_n 1, 1) := by decide +kernel
theorem dX12_came_2 : decode cX12_came 2 = .ok (.i2l, 1) := by decide +kernel
theorem dX12_came_3 : decode cX12_came 3 = .ok (.lconst 0, 1) := by decide +kernel
theorem dX12_came_4 : decode cX12_came 4 = .ok (.aload_n 0, 1) := by decide +kernel
theorem dX12_came_5 : decode cX12_came 5 = .ok (.getfield 441, 3) := by decide +kernel
theorem dX12_came_8 : decode cX12_came 8 = .ok (.iconst 1, 1) := by decide +kernel
theorem dX12_came_9 : decode cX12_came 9 = .ok (.isub, 1) := by decide +kernel
theorem dX12_came_10 : decode cX12_came 10 = .ok (.i2l, 1) := by decide +kernel
theorem dX12_came_11 : decode cX12_came 11 = .ok (.invokestatic 190, 3) := by decide +kernel
theorem dX12_came_14 : decode cX12_came 14 = .ok (.ifCond .eq 11, 3) := by decide +kernel
theorem dX12_came_17 : decode cX12_came 17 = .ok (.aload_n 0, 1) := by decide +kernel
theorem dX12_came_18 : decode cX12_came 18 = .ok (.iload_n 2, 1) := by decide +kernel
theorem dX12_came_19 : decode cX12_came 19 = .ok (.invokevirtual 206, 3) := by decide +kernel
theorem dX12_came_22 : decode cX12_came 22 = .ok (.ifCond .ne 7, 3) := by decide +kernel
theorem dX12_came_25 : decode cX12_came 25 = .ok (.iconst 1, 1) := by decide +kernel
theorem dX12_came_26 : decode cX12_came 26 = .ok (.goto 17, 3) := by decide +kernel
theorem dX12_came_29 : decode cX12_came 29 = .ok (.aload_n 0, 1) := by decide +kernel
theorem dX12_came_30 : decode cX12_came 30 = .ok (.getfield 139, 3) := by decide +kernel
theorem dX12_came_33 : decode cX12_came 33 = .ok (.iload_n 1, 1) := by decide +kernel
theorem dX12_came_34 : decode cX12_came 34 = .ok (.iaload, 1) := by decide +kernel
theorem dX12_came_35 : decode cX12_came 35 = .ok (.ifCond .eq 7, 3) := by decide +kernel
theorem dX12_came_38 : decode cX12_came 38 = .ok (.iconst 2, 1) := by decide +kernel
theorem dX12_came_39 : decode cX12_came 39 = .ok (.goto 4, 3) := by decide +kernel
theorem dX12_came_42 : decode cX12_came 42 = .ok (.iconst 0, 1) := by decide +kernel
theorem dX12_came_43 : decode cX12_came 43 = .ok (.putfield 185, 3) := by decide +kernel
theorem dX12_came_46 : decode cX12_came 46 = .ok (.aload_n 0, 1) := by decide +kernel
theorem dX12_came_47 : decode cX12_came 47 = .ok (.getfield 185, 3) := by decide +kernel
theorem dX12_came_50 : decode cX12_came 50 = .ok (.ifCond .le 5, 3) := by decide +kernel
theorem dX12_came_53 : decode cX12_came 53 = .ok (.iconst 0, 1) := by decide +kernel
theorem dX12_came_54 : decode cX12_came 54 = .ok (.ireturn, 1) := by decide +kernel
theorem dX12_came_55 : decode cX12_came 55 = .ok (.aload_n 0, 1) := by decide +kernel
theorem dX12_came_56 : decode cX12_came 56 = .ok (.getfield 136, 3) := by decide +kernel
theorem dX12_came_59 : decode cX12_came 59 = .ok (.iload_n 1, 1) := by decide +kernel
theorem dX12_came_60 : decode cX12_came 60 = .ok (.iaload, 1) := by decide +kernel
theorem dX12_came_61 : decode cX12_came 61 = .ok (.aload_n 0, 1) := by decide +kernel
theorem dX12_came_62 : decode cX12_came 62 = .ok (.getfield 28, 3) := by decide +kernel
theorem dX12_came_65 : decode cX12_came 65 = .ok (.iload_n 2, 1) := by decide +kernel
theorem dX12_came_66 : decode cX12_came 66 = .ok (.iaload, 1) := by decide +kernel
theorem dX12_came_67 : decode cX12_came 67 = .ok (.ishr, 1) := by decide +kernel
theorem dX12_came_68 : decode cX12_came 68 = .ok (.iconst 1, 1) := by decide +kernel
theorem dX12_came_69 : decode cX12_came 69 = .ok (.iand, 1) := by decide +kernel
theorem dX12_came_70 : decode cX12_came 70 = .ok (.iconst 1, 1) := by decide +kernel
theorem dX12_came_71 : decode cX12_came 71 = .ok (.if_icmp .ne 7, 3) := by decide +kernel
theorem dX12_came_74 : decode cX12_came 74 = .ok (.iconst 1, 1) := by decide +kernel
theorem dX12_came_75 : decode cX12_came 75 = .ok (.goto 4, 3) := by decide +kernel
theorem dX12_came_78 : decode cX12_came 78 = .ok (.iconst 0, 1) := by decide +kernel
theorem dX12_came_79 : decode cX12_came 79 = .ok (.istore_n 3, 1) := by decide +kernel
theorem dX12_came_80 : decode cX12_came 80 = .ok (.aload_n 0, 1) := by decide +kernel
theorem dX12_came_81 : decode cX12_came 81 = .ok (.getfield 139, 3) := by decide +kernel
theorem dX12_came_84 : decode cX12_came 84 = .ok (.iload_n 1, 1) := by decide +kernel
theorem dX12_came_85 : decode cX12_came 85 = .ok (.iload_n 3, 1) := by decide +kernel
theorem dX12_came_86 : decode cX12_came 86 = .ok (.ifCond .eq 7, 3) := by decide +kernel
theorem dX12_came_89 : decode cX12_came 89 = .ok (.iconst 1, 1) := by decide +kernel
theorem dX12_came_90 : decode cX12_came 90 = .ok (.goto 4, 3) := by decide +kernel
theorem dX12_came_93 : decode cX12_came 93 = .ok (.iconst 2, 1) := by decide +kernel
theorem dX12_came_94 : decode cX12_came 94 = .ok (.iastore, 1) := by decide +kernel
theorem dX12_came_95 : decode cX12_came 95 = .ok (.iload_n 3, 1) := by decide +kernel
theorem dX12_came_96 : decode cX12_came 96 = .ok (.ireturn, 1) := by decide +kernel
theorem dX12_record_0 : decode cX12_record 0 = .ok (.aload_n 0, 1) := by decide +kernel
theorem dX12_record_1 : decode cX12_record 1 = .ok (.iconst 0, 1) := by decide +kernel
theorem dX12_record_2 : decode cX12_record 2 = .ok (.putfield 185, 3) := by decide +kernel
theorem dX12_record_5 : decode cX12_record 5 = .ok (.iconst 0, 1) := by decide +kernel
theorem dX12_record_6 : decode cX12_record 6 = .ok (.istore_n 2, 1) := by decide +kernel
theorem dX12_record_7 : decode cX12_record 7 = .ok (.iconst 0, 1) := by decide +kernel
theorem dX12_record_8 : decode cX12_record 8 = .ok (.istore_n 3, 1) := by decide +kernel
theorem dX12_record_9 : decode cX12_record 9 = .ok (.iload_n 3, 1) := by decide +kernel
theorem dX12_record_10 : decode cX12_record 10 = .ok (.aload_n 0, 1) := by decide +kernel
theorem dX12_record_11 : decode cX12_record 11 = .ok (.getfield 441, 3) := by decide +kernel
theorem dX12_record_14 : decode cX12_record 14 = .ok (.if_icmp .ge 35, 3) := by decide +kernel
theorem dX12_record_17 : decode cX12_record 17 = .ok (.iload_n 2, 1) := by decide +kernel
theorem dX12_record_18 : decode cX12_record 18 = .ok (.aload_n 0, 1) := by decide +kernel
theorem dX12_record_19 : decode cX12_record 19 = .ok (.getfield 139, 3) := by decide +kernel
theorem dX12_record_22 : decode cX12_record 22 = .ok (.iload_n 3, 1) := by decide +kernel
theorem dX12_record_23 : decode cX12_record 23 = .ok (.iaload, 1) := by decide +kernel
theorem dX12_record_24 : decode cX12_record 24 = .ok (.iload_n 1, 1) := by decide +kernel
theorem dX12_record_25 : decode cX12_record 25 = .ok (.ifCond .eq 7, 3) := by decide +kernel
theorem dX12_record_28 : decode cX12_record 28 = .ok (.iconst 1, 1) := by decide +kernel
theorem dX12_record_29 : decode cX12_record 29 = .ok (.goto 4, 3) := by decide +kernel
theorem dX12_record_32 : decode cX12_record 32 = .ok (.iconst 2, 1) := by decide +kernel
theorem dX12_record_33 : decode cX12_record 33 = .ok (.if_icmp .ne 7, 3) := by decide +kernel
theorem dX12_record_36 : decode cX12_record 36 = .ok (.iconst 1, 1) := by decide +kernel
theorem dX12_record_37 : decode cX12_record 37 = .ok (.goto 4, 3) := by decide +kernel
theorem dX12_record_40 : decode cX12_record 40 = .ok (.iconst 0, 1) := by decide +kernel
theorem dX12_record_41 : decode cX12_record 41 = .ok (.iadd, 1) := by decide +kernel
theorem dX12_record_42 : decode cX12_record 42 = .ok (.istore_n 2, 1) := by decide +kernel
theorem dX12_record_43 : decode cX12_record 43 = .ok (.iinc 3 1, 3) := by decide +kernel
theorem dX12_record_46 : decode cX12_record 46 = .ok (.goto (-37), 3) := by decide +kernel
theorem dX12_record_49 : decode cX12_record 49 = .ok (.iload_n 2, 1) := by decide +kernel
theorem dX12_record_50 : decode cX12_record 50 = .ok (.ireturn, 1) := by decide +kernel
theorem dX12_stopped_0 : decode cX12_stopped 0 = .ok (.aload_n 0, 1) := by decide +kernel
theorem dX12_stopped_1 : decode cX12_stopped 1 = .ok (.aload_n 0, 1) := by decide +kernel
theorem dX12_stopped_2 : decode cX12_stopped 2 = .ok (.iload_n 1, 1) := by decide +kernel
theorem dX12_stopped_3 : decode cX12_stopped 3 = .ok (.invokevirtual 206, 3) := by decide +kernel
theorem dX12_stopped_6 : decode cX12_stopped 6 = .ok (.ifCond .ne 7, 3) := by decide +kernel
theorem dX12_stopped_9 : decode cX12_stopped 9 = .ok (.iconst 1, 1) := by decide +kernel
theorem dX12_stopped_10 : decode cX12_stopped 10 = .ok (.goto 17, 3) := by decide +kernel
theorem dX12_stopped_13 : decode cX12_stopped 13 = .ok (.aload_n 0, 1) := by decide +kernel
theorem dX12_stopped_14 : decode cX12_stopped 14 = .ok (.getfield 46, 3) := by decide +kernel
theorem dX12_stopped_17 : decode cX12_stopped 17 = .ok (.iload_n 1, 1) := by decide +kernel
theorem dX12_stopped_18 : decode cX12_stopped 18 = .ok (.baload, 1) := by decide +kernel
theorem dX12_stopped_19 : decode cX12_stopped 19 = .ok (.ifCond .eq 7, 3) := by decide +kernel
theorem dX12_stopped_22 : decode cX12_stopped 22 = .ok (.iconst 2, 1) := by decide +kernel
theorem dX12_stopped_23 : decode cX12_stopped 23 = .ok (.goto 4, 3) := by decide +kernel
theorem dX12_stopped_26 : decode cX12_stopped 26 = .ok (.iconst 0, 1) := by decide +kernel
theorem dX12_stopped_27 : decode cX12_stopped 27 = .ok (.putfield 185, 3) := by decide +kernel
theorem dX12_stopped_30 : decode cX12_stopped 30 = .ok (.aload_n 0, 1) := by decide +kernel
theorem dX12_stopped_31 : decode cX12_stopped 31 = .ok (.getfield 185, 3) := by decide +kernel
theorem dX12_stopped_34 : decode cX12_stopped 34 = .ok (.ifCond .le 5, 3) := by decide +kernel
theorem dX12_stopped_37 : decode cX12_stopped 37 = .ok (.iconst 0, 1) := by decide +kernel
theorem dX12_stopped_38 : decode cX12_stopped 38 = .ok (.ireturn, 1) := by decide +kernel
theorem dX12_stopped_39 : decode cX12_stopped 39 = .ok (.aload_n 0, 1) := by decide +kernel
theorem dX12_stopped_40 : decode cX12_stopped 40 = .ok (.iload_n 2, 1) := by decide +kernel
theorem dX12_stopped_41 : decode cX12_stopped 41 = .ok (.invokevirtual 414, 3) := by decide +kernel
theorem dX12_stopped_44 : decode cX12_stopped 44 = .ok (.aload_n 0, 1) := by decide +kernel
theorem dX12_stopped_45 : decode cX12_stopped 45 = .ok (.invokevirtual 429, 3) := by decide +kernel
theorem dX12_stopped_48 : decode cX12_stopped 48 = .ok (.iconst (-1), 1) := by decide +kernel
theorem dX12_stopped_49 : decode cX12_stopped 49 = .ok (.istore_n 3, 1) := by decide +kernel
theorem dX12_stopped_50 : decode cX12_stopped 50 = .ok (.iconst 0, 1) := by decide +kernel
theorem dX12_stopped_51 : decode cX12_stopped 51 = .ok (.istore 4, 2) := by decide +kernel
theorem dX12_stopped_53 : decode cX12_stopped 53 = .ok (.iload 4, 2) := by decide +kernel
theorem dX12_stopped_55 : decode cX12_stopped 55 = .ok (.aload_n 0, 1) := by decide +kernel
theorem dX12_stopped_56 : decode cX12_stopped 56 = .ok (.getfield 417, 3) := by decide +kernel
theorem dX12_stopped_59 : decode cX12_stopped 59 = .ok (.if_icmp .ge 39, 3) := by decide +kernel
theorem dX12_stopped_62 : decode cX12_stopped 62 = .ok (.iload_n 3, 1) := by decide +kernel
theorem dX12_stopped_63 : decode cX12_stopped 63 = .ok (.aload_n 0, 1) := by decide +kernel
theorem dX12_stopped_64 : decode cX12_stopped 64 = .ok (.getfield 31, 3) := by decide +kernel
theorem dX12_stopped_67 : decode cX12_stopped 67 = .ok (.aload_n 0, 1) := by decide +kernel
theorem dX12_stopped_68 : decode cX12_stopped 68 = .ok (.getfield 127, 3) := by decide +kernel
theorem dX12_stopped_71 : decode cX12_stopped 71 = .ok (.iload 4, 2) := by decide +kernel
theorem dX12_stopped_73 : decode cX12_stopped 73 = .ok (.iaload, 1) := by decide +kernel
theorem dX12_stopped_74 : decode cX12_stopped 74 = .ok (.iaload, 1) := by decide +kernel
theorem dX12_stopped_75 : decode cX12_stopped 75 = .ok (.aload_n 0, 1) := by decide +kernel
theorem dX12_stopped_76 : decode cX12_stopped 76 = .ok (.getfield 31, 3) := by decide +kernel
theorem dX12_stopped_79 : decode cX12_stopped 79 = .ok (.aload_n 0, 1) := by decide +kernel
theorem dX12_stopped_80 : decode cX12_stopped 80 = .ok (.getfield 124, 3) := by decide +kernel
theorem dX12_stopped_83 : decode cX12_stopped 83 = .ok (.iload 4, 2) := by decide +kernel
theorem dX12_stopped_85 : decode cX12_stopped 85 = .ok (.iaload, 1) := by decide +kernel
theorem dX12_stopped_86 : decode cX12_stopped 86 = .ok (.iaload, 1) := by decide +kernel
theorem dX12_stopped_87 : decode cX12_stopped 87 = .ok (.isub, 1) := by decide +kernel
theorem dX12_stopped_88 : decode cX12_stopped 88 = .ok (.invokestatic 274, 3) := by decide +kernel
theorem dX12_stopped_91 : decode cX12_stopped 91 = .ok (.istore_n 3, 1) := by decide +kernel
theorem dX12_stopped_92 : decode cX12_stopped 92 = .ok (.iinc 4 1, 3) := by decide +kernel
theorem dX12_stopped_95 : decode cX12_stopped 95 = .ok (.goto (-42), 3) := by decide +kernel
theorem dX12_stopped_98 : decode cX12_stopped 98 = .ok (.iconst 0, 1) := by decide +kernel
theorem dX12_stopped_99 : decode cX12_stopped 99 = .ok (.istore 4, 2) := by decide +kernel
theorem dX12_stopped_101 : decode cX12_stopped 101 = .ok (.iconst 0, 1) := by decide +kernel
theorem dX12_stopped_102 : decode cX12_stopped 102 = .ok (.istore 5, 2) := by decide +kernel
theorem dX12_stopped_104 : decode cX12_stopped 104 = .ok (.iload 5, 2) := by decide +kernel
theorem dX12_stopped_106 : decode cX12_stopped 106 = .ok (.aload_n 0, 1) := by decide +kernel
theorem dX12_stopped_107 : decode cX12_stopped 107 = .ok (.getfield 203, 3) := by decide +kernel
theorem dX12_stopped_110 : decode cX12_stopped 110 = .ok (.if_icmp .ge 39, 3) := by decide +kernel
theorem dX12_stopped_113 : decode cX12_stopped 113 = .ok (.aload_n 0, 1) := by decide +kernel
theorem dX12_stopped_114 : decode cX12_stopped 114 = .ok (.getfield 118, 3) := by decide +kernel
theorem dX12_stopped_117 : decode cX12_stopped 117 = .ok (.iload 5, 2) := by decide +kernel
theorem dX12_stopped_119 : decode cX12_stopped 119 = .ok (.iaload, 1) := by decide +kernel
theorem dX12_stopped_120 : decode cX12_stopped 120 = .ok (.aload_n 0, 1) := by decide +kernel
theorem dX12_stopped_121 : decode cX12_stopped 121 = .ok (.getfield 118, 3) := by decide +kernel
theorem dX12_stopped_124 : decode cX12_stopped 124 = .ok (.iload_n 1, 1) := by decide +kernel
theorem dX12_stopped_125 : decode cX12_stopped 125 = .ok (.iaload, 1) := by decide +kernel
theorem dX12_stopped_126 : decode cX12_stopped 126 = .ok (.if_icmp .ne 17, 3) := by decide +kernel
theorem dX12_stopped_129 : decode cX12_stopped 129 = .ok (.iload 4, 2) := by decide +kernel
theorem dX12_stopped_131 : decode cX12_stopped 131 = .ok (.aload_n 0, 1) := by decide +kernel
theorem dX12_stopped_132 : decode cX12_stopped 132 = .ok (.getfield 31, 3) := by decide +kernel
theorem dX12_stopped_135 : decode cX12_stopped 135 = .ok (.iload 5, 2) := by decide +kernel
theorem dX12_stopped_137 : decode cX12_stopped 137 = .ok (.iaload, 1) := by decide +kernel
theorem dX12_stopped_138 : decode cX12_stopped 138 = .ok (.invokestatic 274, 3) := by decide +kernel
theorem dX12_stopped_141 : decode cX12_stopped 141 = .ok (.istore 4, 2) := by decide +kernel
theorem dX12_stopped_143 : decode cX12_stopped 143 = .ok (.iinc 5 1, 3) := by decide +kernel
theorem dX12_stopped_146 : decode cX12_stopped 146 = .ok (.goto (-42), 3) := by decide +kernel
theorem dX12_stopped_149 : decode cX12_stopped 149 = .ok (.aload_n 0, 1) := by decide +kernel
theorem dX12_stopped_150 : decode cX12_stopped 150 = .ok (.getfield 417, 3) := by decide +kernel
theorem dX12_stopped_153 : decode cX12_stopped 153 = .ok (.ifCond .le 18, 3) := by decide +kernel
theorem dX12_stopped_156 : decode cX12_stopped 156 = .ok (.aload_n 0, 1) := by decide +kernel
theorem dX12_stopped_157 : decode cX12_stopped 157 = .ok (.getfield 240, 3) := by decide +kernel
theorem dX12_stopped_160 : decode cX12_stopped 160 = .ok (.iload 4, 2) := by decide +kernel
theorem dX12_stopped_162 : decode cX12_stopped 162 = .ok (.isub, 1) := by decide +kernel
theorem dX12_stopped_163 : decode cX12_stopped 163 = .ok (.iload_n 3, 1) := by decide +kernel
theorem dX12_stopped_164 : decode cX12_stopped 164 = .ok (.if_icmp .le 7, 3) := by decide +kernel
theorem dX12_stopped_167 : decode cX12_stopped 167 = .ok (.iconst 1, 1) := by decide +kernel
theorem dX12_stopped_168 : decode cX12_stopped 168 = .ok (.goto 4, 3) := by decide +kernel
theorem dX12_stopped_171 : decode cX12_stopped 171 = .ok (.iconst 0, 1) := by decide +kernel
theorem dX12_stopped_172 : decode cX12_stopped 172 = .ok (.ireturn, 1) := by decide +kernel
theorem dX12_guessOf_0 : decode cX12_guessOf 0 = .ok (.iconst (-1), 1) := by decide +kernel
theorem dX12_guessOf_1 : decode cX12_guessOf 1 = .ok (.istore_n 1, 1) := by decide +kernel
theorem dX12_guessOf_2 : decode cX12_guessOf 2 = .ok (.iconst 0, 1) := by decide +kernel
theorem dX12_guessOf_3 : decode cX12_guessOf 3 = .ok (.istore_n 2, 1) := by decide +kernel
theorem dX12_guessOf_4 : decode cX12_guessOf 4 = .ok (.iconst 0, 1) := by decide +kernel
theorem dX12_guessOf_5 : decode cX12_guessOf 5 = .ok (.istore_n 3, 1) := by decide +kernel
theorem dX12_guessOf_6 : decode cX12_guessOf 6 = .ok (.iload_n 3, 1) := by decide +kernel
theorem dX12_guessOf_7 : decode cX12_guessOf 7 = .ok (.aload_n 0, 1) := by decide +kernel
theorem dX12_guessOf_8 : decode cX12_guessOf 8 = .ok (.getfield 194, 3) := by decide +kernel
theorem dX12_guessOf_11 : decode cX12_guessOf 11 = .ok (.if_icmp .ge 80, 3) := by decide +kernel
theorem dX12_guessOf_14 : decode cX12_guessOf 14 = .ok (.iconst 0, 1) := by decide +kernel
theorem dX12_guessOf_15 : decode cX12_guessOf 15 = .ok (.istore 4, 2) := by decide +kernel
theorem dX12_guessOf_17 : decode cX12_guessOf 17 = .ok (.iconst 0, 1) := by decide +kernel
theorem dX12_guessOf_18 : decode cX12_guessOf 18 = .ok (.istore 5, 2) := by decide +kernel
theorem dX12_guessOf_20 : decode cX12_guessOf 20 = .ok (.iload 5, 2) := by decide +kernel
theorem dX12_guessOf_22 : decode cX12_guessOf 22 = .ok (.aload_n 0, 1) := by decide +kernel
theorem dX12_guessOf_23 : decode cX12_guessOf 23 = .ok (.getfield 203, 3) := by decide +kernel
theorem dX12_guessOf_26 : decode cX12_guessOf 26 = .ok (.if_icmp .ge 40, 3) := by decide +kernel
theorem dX12_guessOf_29 : decode cX12_guessOf 29 = .ok (.iload 4, 2) := by decide +kernel
theorem dX12_guessOf_31 : decode cX12_guessOf 31 = .ok (.aload_n 0, 1) := by decide +kernel
theorem dX12_guessOf_32 : decode cX12_guessOf 32 = .ok (.getfield 142, 3) := by decide +kernel
theorem dX12_guessOf_35 : decode cX12_guessOf 35 = .ok (.iload 5, 2) := by decide +kernel
theorem dX12_guessOf_37 : decode cX12_guessOf 37 = .ok (.baload, 1) := by decide +kernel
theorem dX12_guessOf_38 : decode cX12_guessOf 38 = .ok (.ifCond .eq 18, 3) := by decide +kernel
theorem dX12_guessOf_41 : decode cX12_guessOf 41 = .ok (.aload_n 0, 1) := by decide +kernel
theorem dX12_guessOf_42 : decode cX12_guessOf 42 = .ok (.iload_n 3, 1) := by decide +kernel
theorem dX12_guessOf_43 : decode cX12_guessOf 43 = .ok (.aload_n 0, 1) := by decide +kernel
theorem dX12_guessOf_44 : decode cX12_guessOf 44 = .ok (.getfield 28, 3) := by decide +kernel
theorem dX12_guessOf_47 : decode cX12_guessOf 47 = .ok (.iload 5, 2) := by decide +kernel
theorem dX12_guessOf_49 : decode cX12_guessOf 49 = .ok (.iaload, 1) := by decide +kernel
theorem dX12_guessOf_50 : decode cX12_guessOf 50 = .ok (.invokevirtual 278, 3) := by decide +kernel
theorem dX12_guessOf_53 : decode cX12_guessOf 53 = .ok (.goto 4, 3) := by decide +kernel
theorem dX12_guessOf_56 : decode cX12_guessOf 56 = .ok (.iconst 0, 1) := by decide +kernel
theorem dX12_guessOf_57 : decode cX12_guessOf 57 = .ok (.iadd, 1) := by decide +kernel
theorem dX12_guessOf_58 : decode cX12_guessOf 58 = .ok (.istore 4, 2) := by decide +kernel
theorem dX12_guessOf_60 : decode cX12_guessOf 60 = .ok (.iinc 5 1, 3) := by decide +kernel
theorem dX12_guessOf_63 : decode cX12_guessOf 63 = .ok (.goto (-43), 3) := by decide +kernel
theorem dX12_guessOf_66 : decode cX12_guessOf 66 = .ok (.iload_n 1, 1) := by decide +kernel
theorem dX12_guessOf_67 : decode cX12_guessOf 67 = .ok (.iconst (-1), 1) := by decide +kernel
theorem dX12_guessOf_68 : decode cX12_guessOf 68 = .ok (.if_icmp .eq 12, 3) := by decide +kernel
theorem dX12_guessOf_71 : decode cX12_guessOf 71 = .ok (.iload 4, 2) := by decide +kernel
theorem dX12_guessOf_73 : decode cX12_guessOf 73 = .ok (.iload_n 2, 1) := by decide +kernel
theorem dX12_guessOf_74 : decode cX12_guessOf 74 = .ok (.if_icmp .lt 6, 3) := by decide +kernel
theorem dX12_guessOf_77 : decode cX12_guessOf 77 = .ok (.goto 8, 3) := by decide +kernel
theorem dX12_guessOf_80 : decode cX12_guessOf 80 = .ok (.iload_n 3, 1) := by decide +kernel
theorem dX12_guessOf_81 : decode cX12_guessOf 81 = .ok (.istore_n 1, 1) := by decide +kernel
theorem dX12_guessOf_82 : decode cX12_guessOf 82 = .ok (.iload 4, 2) := by decide +kernel
theorem dX12_guessOf_84 : decode cX12_guessOf 84 = .ok (.istore_n 2, 1) := by decide +kernel
theorem dX12_guessOf_85 : decode cX12_guessOf 85 = .ok (.iinc 3 1, 3) := by decide +kernel
theorem dX12_guessOf_88 : decode cX12_guessOf 88 = .ok (.goto (-82), 3) := by decide +kernel
theorem dX12_guessOf_91 : decode cX12_guessOf 91 = .ok (.iload_n 1, 1) := by decide +kernel
theorem dX12_guessOf_92 : decode cX12_guessOf 92 = .ok (.ireturn, 1) := by decide +kernel
theorem dX12_guess_0 : decode cX12_guess 0 = .ok (.aload_n 0, 1) := by decide +kernel
theorem dX12_guess_1 : decode cX12_guess 1 = .ok (.lload_n 1, 1) := by decide +kernel
theorem dX12_guess_2 : decode cX12_guess 2 = .ok (.lconst 0, 1) := by decide +kernel
theorem dX12_guess_3 : decode cX12_guess 3 = .ok (.lcmp, 1) := by decide +kernel
theorem dX12_guess_4 : decode cX12_guess 4 = .ok (.ifCond .le 14, 3) := by decide +kernel
theorem dX12_guess_7 : decode cX12_guess 7 = .ok (.lload_n 1, 1) := by decide +kernel
theorem dX12_guess_8 : decode cX12_guess 8 = .ok (.aload_n 0, 1) := by decide +kernel
theorem dX12_guess_9 : decode cX12_guess 9 = .ok (.getfield 203, 3) := by decide +kernel
theorem dX12_guess_12 : decode cX12_guess 12 = .ok (.lshr, 1) := by decide +kernel
theorem dX12_guess_13 : decode cX12_guess 13 = .ok (.lconst 0, 1) := by decide +kernel
theorem dX12_guess_14 : decode cX12_guess 14 = .ok (.lcmp, 1) := by decide +kernel
theorem dX12_guess_15 : decode cX12_guess 15 = .ok (.ifCond .eq 7, 3) := by decide +kernel
theorem dX12_guess_18 : decode cX12_guess 18 = .ok (.iconst 1, 1) := by decide +kernel
theorem dX12_guess_19 : decode cX12_guess 19 = .ok (.goto 4, 3) := by decide +kernel
theorem dX12_guess_22 : decode cX12_guess 22 = .ok (.iconst 0, 1) := by decide +kernel
theorem dX12_guess_23 : decode cX12_guess 23 = .ok (.putfield 185, 3) := by decide +kernel
theorem dX12_guess_26 : decode cX12_guess 26 = .ok (.iconst 0, 1) := by decide +kernel
theorem dX12_guess_27 : decode cX12_guess 27 = .ok (.istore_n 3, 1) := by decide +kernel
theorem dX12_guess_28 : decode cX12_guess 28 = .ok (.iload_n 3, 1) := by decide +kernel
theorem dX12_guess_29 : decode cX12_guess 29 = .ok (.aload_n 0, 1) := by decide +kernel
theorem dX12_guess_30 : decode cX12_guess 30 = .ok (.getfield 203, 3) := by decide +kernel
theorem dX12_guess_33 : decode cX12_guess 33 = .ok (.if_icmp .ge 59, 3) := by decide +kernel
theorem dX12_guess_36 : decode cX12_guess 36 = .ok (.aload_n 0, 1) := by decide +kernel
theorem dX12_guess_37 : decode cX12_guess 37 = .ok (.getfield 185, 3) := by decide +kernel
theorem dX12_guess_40 : decode cX12_guess 40 = .ok (.ifCond .ne 52, 3) := by decide +kernel
theorem dX12_guess_43 : decode cX12_guess 43 = .ok (.aload_n 0, 1) := by decide +kernel
theorem dX12_guess_44 : decode cX12_guess 44 = .ok (.getfield 142, 3) := by decide +kernel
theorem dX12_guess_47 : decode cX12_guess 47 = .ok (.iload_n 3, 1) := by decide +kernel
theorem dX12_guess_48 : decode cX12_guess 48 = .ok (.lload_n 1, 1) := by decide +kernel
theorem dX12_guess_49 : decode cX12_guess 49 = .ok (.iload_n 3, 1) := by decide +kernel
theorem dX12_guess_50 : decode cX12_guess 50 = .ok (.lshr, 1) := by decide +kernel
theorem dX12_guess_51 : decode cX12_guess 51 = .ok (.lconst 1, 1) := by decide +kernel
theorem dX12_guess_52 : decode cX12_guess 52 = .ok (.land, 1) := by decide +kernel
theorem dX12_guess_53 : decode cX12_guess 53 = .ok (.lconst 1, 1) := by decide +kernel
theorem dX12_guess_54 : decode cX12_guess 54 = .ok (.lcmp, 1) := by decide +kernel
theorem dX12_guess_55 : decode cX12_guess 55 = .ok (.ifCond .ne 7, 3) := by decide +kernel
theorem dX12_guess_58 : decode cX12_guess 58 = .ok (.iconst 1, 1) := by decide +kernel
theorem dX12_guess_59 : decode cX12_guess 59 = .ok (.goto 4, 3) := by decide +kernel
theorem dX12_guess_62 : decode cX12_guess 62 = .ok (.iconst 0, 1) := by decide +kernel
theorem dX12_guess_63 : decode cX12_guess 63 = .ok (.bastore, 1) := by decide +kernel
theorem dX12_guess_64 : decode cX12_guess 64 = .ok (.aload_n 0, 1) := by decide +kernel
theorem dX12_guess_65 : decode cX12_guess 65 = .ok (.getfield 142, 3) := by decide +kernel
theorem dX12_guess_68 : decode cX12_guess 68 = .ok (.iload_n 3, 1) := by decide +kernel
theorem dX12_guess_69 : decode cX12_guess 69 = .ok (.baload, 1) := by decide +kernel
theorem dX12_guess_70 : decode cX12_guess 70 = .ok (.ifCond .eq 16, 3) := by decide +kernel
theorem dX12_guess_73 : decode cX12_guess 73 = .ok (.aload_n 0, 1) := by decide +kernel
theorem dX12_guess_74 : decode cX12_guess 74 = .ok (.iload_n 3, 1) := by decide +kernel
theorem dX12_guess_75 : decode cX12_guess 75 = .ok (.invokevirtual 210, 3) := by decide +kernel
theorem dX12_guess_78 : decode cX12_guess 78 = .ok (.ifCond .ne 8, 3) := by decide +kernel
theorem dX12_guess_81 : decode cX12_guess 81 = .ok (.aload_n 0, 1) := by decide +kernel
theorem dX12_guess_82 : decode cX12_guess 82 = .ok (.iconst 1, 1) := by decide +kernel
theorem dX12_guess_83 : decode cX12_guess 83 = .ok (.putfield 185, 3) := by decide +kernel
theorem dX12_guess_86 : decode cX12_guess 86 = .ok (.iinc 3 1, 3) := by decide +kernel
theorem dX12_guess_89 : decode cX12_guess 89 = .ok (.goto (-61), 3) := by decide +kernel
theorem dX12_guess_92 : decode cX12_guess 92 = .ok (.aload_n 0, 1) := by decide +kernel
theorem dX12_guess_93 : decode cX12_guess 93 = .ok (.getfield 185, 3) := by decide +kernel
theorem dX12_guess_96 : decode cX12_guess 96 = .ok (.ifCond .le 7, 3) := by decide +kernel
theorem dX12_guess_99 : decode cX12_guess 99 = .ok (.iconst 0, 1) := by decide +kernel
theorem dX12_guess_100 : decode cX12_guess 100 = .ok (.goto 7, 3) := by decide +kernel
theorem dX12_guess_103 : decode cX12_guess 103 = .ok (.aload_n 0, 1) := by decide +kernel
theorem dX12_guess_104 : decode cX12_guess 104 = .ok (.invokevirtual 444, 3) := by decide +kernel
theorem dX12_guess_107 : decode cX12_guess 107 = .ok (.ireturn, 1) := by decide +kernel
theorem dX12_homes_0 : decode cX12_homes 0 = .ok (.aload_n 0, 1) := by decide +kernel
theorem dX12_homes_1 : decode cX12_homes 1 = .ok (.iconst 0, 1) := by decide +kernel
theorem dX12_homes_2 : decode cX12_homes 2 = .ok (.putfield 185, 3) := by decide +kernel
theorem dX12_homes_5 : decode cX12_homes 5 = .ok (.iload_n 1, 1) := by decide +kernel
theorem dX12_homes_6 : decode cX12_homes 6 = .ok (.i2l, 1) := by decide +kernel
theorem dX12_homes_7 : decode cX12_homes 7 = .ok (.lconst 0, 1) := by decide +kernel
theorem dX12_homes_8 : decode cX12_homes 8 = .ok (.ldc2_w 448, 3) := by decide +kernel
theorem dX12_homes_11 : decode cX12_homes 11 = .ok (.invokestatic 190, 3) := by decide +kernel
theorem dX12_homes_14 : decode cX12_homes 14 = .ok (.ifCond .ne 9, 3) := by decide +kernel
theorem dX12_homes_17 : decode cX12_homes 17 = .ok (.aload_n 0, 1) := by decide +kernel
theorem dX12_homes_18 : decode cX12_homes 18 = .ok (.iconst 1, 1) := by decide +kernel
theorem dX12_homes_19 : decode cX12_homes 19 = .ok (.invokevirtual 226, 3) := by decide +kernel
theorem dX12_homes_22 : decode cX12_homes 22 = .ok (.ireturn, 1) := by decide +kernel
theorem dX12_homes_23 : decode cX12_homes 23 = .ok (.iconst 0, 1) := by decide +kernel
theorem dX12_homes_24 : decode cX12_homes 24 = .ok (.istore_n 3, 1) := by decide +kernel
theorem dX12_homes_25 : decode cX12_homes 25 = .ok (.iconst 0, 1) := by decide +kernel
theorem dX12_homes_26 : decode cX12_homes 26 = .ok (.istore 4, 2) := by decide +kernel
theorem dX12_homes_28 : decode cX12_homes 28 = .ok (.iload 4, 2) := by decide +kernel
theorem dX12_homes_30 : decode cX12_homes 30 = .ok (.aload_n 0, 1) := by decide +kernel
theorem dX12_homes_31 : decode cX12_homes 31 = .ok (.getfield 200, 3) := by decide +kernel
theorem dX12_homes_34 : decode cX12_homes 34 = .ok (.if_icmp .ge 138, 3) := by decide +kernel
theorem dX12_homes_37 : decode cX12_homes 37 = .ok (.iconst 0, 1) := by decide +kernel
theorem dX12_homes_38 : decode cX12_homes 38 = .ok (.istore 5, 2) := by decide +kernel
theorem dX12_homes_40 : decode cX12_homes 40 = .ok (.iconst 0, 1) := by decide +kernel
theorem dX12_homes_41 : decode cX12_homes 41 = .ok (.istore 6, 2) := by decide +kernel
theorem dX12_homes_43 : decode cX12_homes 43 = .ok (.iload 6, 2) := by decide +kernel
theorem dX12_homes_45 : decode cX12_homes 45 = .ok (.aload_n 0, 1) := by decide +kernel
theorem dX12_homes_46 : decode cX12_homes 46 = .ok (.getfield 203, 3) := by decide +kernel
theorem dX12_homes_49 : decode cX12_homes 49 = .ok (.if_icmp .ge 61, 3) := by decide +kernel
theorem dX12_homes_52 : decode cX12_homes 52 = .ok (.aload_n 0, 1) := by decide +kernel
theorem dX12_homes_53 : decode cX12_homes 53 = .ok (.getfield 142, 3) := by decide +kernel
theorem dX12_homes_56 : decode cX12_homes 56 = .ok (.iload 6, 2) := by decide +kernel
theorem dX12_homes_58 : decode cX12_homes 58 = .ok (.aload_n 0, 1) := by decide +kernel
theorem dX12_homes_59 : decode cX12_homes 59 = .ok (.iload 6, 2) := by decide +kernel
theorem dX12_homes_61 : decode cX12_homes 61 = .ok (.invokevirtual 210, 3) := by decide +kernel
theorem dX12_homes_64 : decode cX12_homes 64 = .ok (.ifCond .eq 18, 3) := by decide +kernel
theorem dX12_homes_67 : decode cX12_homes 67 = .ok (.aload_n 0, 1) := by decide +kernel
theorem dX12_homes_68 : decode cX12_homes 68 = .ok (.iload 6, 2) := by decide +kernel
theorem dX12_homes_70 : decode cX12_homes 70 = .ok (.iload 4, 2) := by decide +kernel
theorem dX12_homes_72 : decode cX12_homes 72 = .ok (.invokevirtual 267, 3) := by decide +kernel
theorem dX12_homes_75 : decode cX12_homes 75 = .ok (.ifCond .eq 7, 3) := by decide +kernel
theorem dX12_homes_78 : decode cX12_homes 78 = .ok (.iconst 1, 1) := by decide +kernel
theorem dX12_homes_79 : decode cX12_homes 79 = .ok (.goto 4, 3) := by decide +kernel
theorem dX12_homes_82 : decode cX12_homes 82 = .ok (.iconst 0, 1) := by decide +kernel
theorem dX12_homes_83 : decode cX12_homes 83 = .ok (.bastore, 1) := by decide +kernel
theorem dX12_homes_84 : decode cX12_homes 84 = .ok (.iload 5, 2) := by decide +kernel
theorem dX12_homes_86 : decode cX12_homes 86 = .ok (.aload_n 0, 1) := by decide +kernel
theorem dX12_homes_87 : decode cX12_homes 87 = .ok (.getfield 142, 3) := by decide +kernel
theorem dX12_homes_90 : decode cX12_homes 90 = .ok (.iload 6, 2) := by decide +kernel
theorem dX12_homes_92 : decode cX12_homes 92 = .ok (.baload, 1) := by decide +kernel
theorem dX12_homes_93 : decode cX12_homes 93 = .ok (.ifCond .eq 7, 3) := by decide +kernel
theorem dX12_homes_96 : decode cX12_homes 96 = .ok (.iconst 1, 1) := by decide +kernel
theorem dX12_homes_97 : decode cX12_homes 97 = .ok (.goto 4, 3) := by decide +kernel
theorem dX12_homes_100 : decode cX12_homes 100 = .ok (.iconst 0, 1) := by decide +kernel
theorem dX12_homes_101 : decode cX12_homes 101 = .ok (.iadd, 1) := by decide +kernel
theorem dX12_homes_102 : decode cX12_homes 102 = .ok (.istore 5, 2) := by decide +kernel
theorem dX12_homes_104 : decode cX12_homes 104 = .ok (.iinc 6 1, 3) := by decide +kernel
theorem dX12_homes_107 : decode cX12_homes 107 = .ok (.goto (-64), 3) := by decide +kernel
theorem dX12_homes_110 : decode cX12_homes 110 = .ok (.aload_n 0, 1) := by decide +kernel
theorem dX12_homes_111 : decode cX12_homes 111 = .ok (.getfield 19, 3) := by decide +kernel
theorem dX12_homes_114 : decode cX12_homes 114 = .ok (.iload 4, 2) := by decide +kernel
theorem dX12_homes_116 : decode cX12_homes 116 = .ok (.iaload, 1) := by decide +kernel
theorem dX12_homes_117 : decode cX12_homes 117 = .ok (.iconst (-1), 1) := by decide +kernel
theorem dX12_homes_118 : decode cX12_homes 118 = .ok (.if_icmp .eq 48, 3) := by decide +kernel
theorem dX12_homes_121 : decode cX12_homes 121 = .ok (.iload 5, 2) := by decide +kernel
theorem dX12_homes_123 : decode cX12_homes 123 = .ok (.iconst 2, 1) := by decide +kernel
theorem dX12_homes_124 : decode cX12_homes 124 = .ok (.if_icmp .ge 6, 3) := by decide +kernel
theorem dX12_homes_127 : decode cX12_homes 127 = .ok (.goto 39, 3) := by decide +kernel
theorem dX12_homes_130 : decode cX12_homes 130 = .ok (.iload_n 3, 1) := by decide +kernel
theorem dX12_homes_131 : decode cX12_homes 131 = .ok (.aload_n 0, 1) := by decide +kernel
theorem dX12_homes_132 : decode cX12_homes 132 = .ok (.aload_n 0, 1) := by decide +kernel
theorem dX12_homes_133 : decode cX12_homes 133 = .ok (.invokevirtual 444, 3) := by decide +kernel
theorem dX12_homes_136 : decode cX12_homes 136 = .ok (.aload_n 0, 1) := by decide +kernel
theorem dX12_homes_137 : decode cX12_homes 137 = .ok (.getfield 19, 3) := by decide +kernel
theorem dX12_homes_140 : decode cX12_homes 140 = .ok (.iload 4, 2) := by decide +kernel
theorem dX12_homes_142 : decode cX12_homes 142 = .ok (.iaload, 1) := by decide +kernel
theorem dX12_homes_143 : decode cX12_homes 143 = .ok (.invokevirtual 278, 3) := by decide +kernel
theorem dX12_homes_146 : decode cX12_homes 146 = .ok (.iload_n 1, 1) := by decide +kernel
theorem dX12_homes_147 : decode cX12_homes 147 = .ok (.if_icmp .gt 7, 3) := by decide +kernel
theorem dX12_homes_150 : decode cX12_homes 150 = .ok (.iconst 1, 1) := by decide +kernel
theorem dX12_homes_151 : decode cX12_homes 151 = .ok (.goto 4, 3) := by decide +kernel
theorem dX12_homes_154 : decode cX12_homes 154 = .ok (.iconst 0, 1) := by decide +kernel
theorem dX12_homes_155 : decode cX12_homes 155 = .ok (.iload_n 2, 1) := by decide +kernel
theorem dX12_homes_156 : decode cX12_homes 156 = .ok (.if_icmp .ne 7, 3) := by decide +kernel
theorem dX12_homes_159 : decode cX12_homes 159 = .ok (.iconst 1, 1) := by decide +kernel
theorem dX12_homes_160 : decode cX12_homes 160 = .ok (.goto 4, 3) := by decide +kernel
theorem dX12_homes_163 : decode cX12_homes 163 = .ok (.iconst 0, 1) := by decide +kernel
theorem dX12_homes_164 : decode cX12_homes 164 = .ok (.iadd, 1) := by decide +kernel
theorem dX12_homes_165 : decode cX12_homes 165 = .ok (.istore_n 3, 1) := by decide +kernel
theorem dX12_homes_166 : decode cX12_homes 166 = .ok (.iinc 4 1, 3) := by decide +kernel
theorem dX12_homes_169 : decode cX12_homes 169 = .ok (.goto (-141), 3) := by decide +kernel
theorem dX12_homes_172 : decode cX12_homes 172 = .ok (.iload_n 3, 1) := by decide +kernel
theorem dX12_homes_173 : decode cX12_homes 173 = .ok (.ireturn, 1) := by decide +kernel
theorem dX12_open_0 : decode cX12_open 0 = .ok (.aload_n 0, 1) := by decide +kernel
theorem dX12_open_1 : decode cX12_open 1 = .ok (.lload_n 1, 1) := by decide +kernel
theorem dX12_open_2 : decode cX12_open 2 = .ok (.iload_n 3, 1) := by decide +kernel
theorem dX12_open_3 : decode cX12_open 3 = .ok (.iconst 5, 1) := by decide +kernel
theorem dX12_open_4 : decode cX12_open 4 = .ok (.invokevirtual 389, 3) := by decide +kernel
theorem dX12_open_7 : decode cX12_open 7 = .ok (.istore 5, 2) := by decide +kernel
theorem dX12_open_9 : decode cX12_open 9 = .ok (.aload_n 0, 1) := by decide +kernel
theorem dX12_open_10 : decode cX12_open 10 = .ok (.iload 4, 2) := by decide +kernel
theorem dX12_open_12 : decode cX12_open 12 = .ok (.invokevirtual 401, 3) := by decide +kernel
theorem dX12_open_15 : decode cX12_open 15 = .ok (.iconst 0, 1) := by decide +kernel
theorem dX12_open_16 : decode cX12_open 16 = .ok (.istore 6, 2) := by decide +kernel
theorem dX12_open_18 : decode cX12_open 18 = .ok (.iconst 0, 1) := by decide +kernel
theorem dX12_open_19 : decode cX12_open 19 = .ok (.istore 7, 2) := by decide +kernel
theorem dX12_open_21 : decode cX12_open 21 = .ok (.iload 7, 2) := by decide +kernel
theorem dX12_open_23 : decode cX12_open 23 = .ok (.aload_n 0, 1) := by decide +kernel
theorem dX12_open_24 : decode cX12_open 24 = .ok (.getfield 356, 3) := by decide +kernel
theorem dX12_open_27 : decode cX12_open 27 = .ok (.if_icmp .ge 46, 3) := by decide +kernel
theorem dX12_open_30 : decode cX12_open 30 = .ok (.iconst 0, 1) := by decide +kernel
theorem dX12_open_31 : decode cX12_open 31 = .ok (.istore 8, 2) := by decide +kernel
theorem dX12_open_33 : decode cX12_open 33 = .ok (.iload 8, 2) := by decide +kernel
theorem dX12_open_35 : decode cX12_open 35 = .ok (.iload 7, 2) := by decide +kernel
theorem dX12_open_37 : decode cX12_open 37 = .ok (.if_icmp .ge 30, 3) := by decide +kernel
theorem dX12_open_40 : decode cX12_open 40 = .ok (.iload 6, 2) := by decide +kernel
theorem dX12_open_42 : decode cX12_open 42 = .ok (.aload_n 0, 1) := by decide +kernel
theorem dX12_open_43 : decode cX12_open 43 = .ok (.iload 7, 2) := by decide +kernel
theorem dX12_open_45 : decode cX12_open 45 = .ok (.iload 8, 2) := by decide +kernel
theorem dX12_open_47 : decode cX12_open 47 = .ok (.invokevirtual 404, 3) := by decide +kernel
theorem dX12_open_50 : decode cX12_open 50 = .ok (.ifCond .ne 7, 3) := by decide +kernel
theorem dX12_open_53 : decode cX12_open 53 = .ok (.iconst 1, 1) := by decide +kernel
theorem dX12_open_54 : decode cX12_open 54 = .ok (.goto 4, 3) := by decide +kernel
theorem dX12_open_57 : decode cX12_open 57 = .ok (.iconst 0, 1) := by decide +kernel
theorem dX12_open_58 : decode cX12_open 58 = .ok (.iadd, 1) := by decide +kernel
theorem dX12_open_59 : decode cX12_open 59 = .ok (.istore 6, 2) := by decide +kernel
theorem dX12_open_61 : decode cX12_open 61 = .ok (.iinc 8 1, 3) := by decide +kernel
theorem dX12_open_64 : decode cX12_open 64 = .ok (.goto (-31), 3) := by decide +kernel
theorem dX12_open_67 : decode cX12_open 67 = .ok (.iinc 7 1, 3) := by decide +kernel
theorem dX12_open_70 : decode cX12_open 70 = .ok (.goto (-49), 3) := by decide +kernel
theorem dX12_open_73 : decode cX12_open 73 = .ok (.iload 6, 2) := by decide +kernel
theorem dX12_open_75 : decode cX12_open 75 = .ok (.ireturn, 1) := by decide +kernel
theorem dX12_look_0 : decode cX12_look 0 = .ok (.aload_n 0, 1) := by decide +kernel
theorem dX12_look_1 : decode cX12_look 1 = .ok (.iload 5, 2) := by decide +kernel
theorem dX12_look_3 : decode cX12_look 3 = .ok (.i2l, 1) := by decide +kernel
theorem dX12_look_4 : decode cX12_look 4 = .ok (.lconst 0, 1) := by decide +kernel
theorem dX12_look_5 : decode cX12_look 5 = .ok (.ldc2_w 352, 3) := by decide +kernel
theorem dX12_look_8 : decode cX12_look 8 = .ok (.invokestatic 190, 3) := by decide +kernel
theorem dX12_look_11 : decode cX12_look 11 = .ok (.ifCond .eq 21, 3) := by decide +kernel
theorem dX12_look_14 : decode cX12_look 14 = .ok (.iload 4, 2) := by decide +kernel
theorem dX12_look_16 : decode cX12_look 16 = .ok (.invokestatic 398, 3) := by decide +kernel
theorem dX12_look_19 : decode cX12_look 19 = .ok (.ifCond .eq 13, 3) := by decide +kernel
theorem dX12_look_22 : decode cX12_look 22 = .ok (.aload_n 0, 1) := by decide +kernel
theorem dX12_look_23 : decode cX12_look 23 = .ok (.lload_n 1, 1) := by decide +kernel
theorem dX12_look_24 : decode cX12_look 24 = .ok (.iload_n 3, 1) := by decide +kernel
theorem dX12_look_25 : decode cX12_look 25 = .ok (.iconst 5, 1) := by decide +kernel
theorem dX12_look_26 : decode cX12_look 26 = .ok (.invokevirtual 389, 3) := by decide +kernel
theorem dX12_look_29 : decode cX12_look 29 = .ok (.goto 4, 3) := by decide +kernel
theorem dX12_look_32 : decode cX12_look 32 = .ok (.iconst 1, 1) := by decide +kernel
theorem dX12_look_33 : decode cX12_look 33 = .ok (.putfield 185, 3) := by decide +kernel
theorem dX12_look_36 : decode cX12_look 36 = .ok (.aload_n 0, 1) := by decide +kernel
theorem dX12_look_37 : decode cX12_look 37 = .ok (.getfield 185, 3) := by decide +kernel
theorem dX12_look_40 : decode cX12_look 40 = .ok (.ifCond .le 5, 3) := by decide +kernel
theorem dX12_look_43 : decode cX12_look 43 = .ok (.iconst 0, 1) := by decide +kernel
theorem dX12_look_44 : decode cX12_look 44 = .ok (.ireturn, 1) := by decide +kernel
theorem dX12_look_45 : decode cX12_look 45 = .ok (.iconst (-1), 1) := by decide +kernel
theorem dX12_look_46 : decode cX12_look 46 = .ok (.istore 6, 2) := by decide +kernel
theorem dX12_look_48 : decode cX12_look 48 = .ok (.iconst 0, 1) := by decide +kernel
theorem dX12_look_49 : decode cX12_look 49 = .ok (.istore 7, 2) := by decide +kernel
theorem dX12_look_51 : decode cX12_look 51 = .ok (.iconst 0, 1) := by decide +kernel
theorem dX12_look_52 : decode cX12_look 52 = .ok (.istore 8, 2) := by decide +kernel
theorem dX12_look_54 : decode cX12_look 54 = .ok (.iload 8, 2) := by decide +kernel
theorem dX12_look_56 : decode cX12_look 56 = .ok (.aload_n 0, 1) := by decide +kernel
theorem dX12_look_57 : decode cX12_look 57 = .ok (.getfield 203, 3) := by decide +kernel
theorem dX12_look_60 : decode cX12_look 60 = .ok (.if_icmp .ge 153, 3) := by decide +kernel
theorem dX12_look_63 : decode cX12_look 63 = .ok (.lload_n 1, 1) := by decide +kernel
theorem dX12_look_64 : decode cX12_look 64 = .ok (.iload 8, 2) := by decide +kernel
theorem dX12_look_66 : decode cX12_look 66 = .ok (.lshr, 1) := by decide +kernel
theorem dX12_look_67 : decode cX12_look 67 = .ok (.lconst 1, 1) := by decide +kernel
theorem dX12_look_68 : decode cX12_look 68 = .ok (.land, 1) := by decide +kernel
theorem dX12_look_69 : decode cX12_look 69 = .ok (.lconst 0, 1) := by decide +kernel
theorem dX12_look_70 : decode cX12_look 70 = .ok (.lcmp, 1) := by decide +kernel
theorem dX12_look_71 : decode cX12_look 71 = .ok (.ifCond .ne 6, 3) := by decide +kernel
theorem dX12_look_74 : decode cX12_look 74 = .ok (.goto 133, 3) := by decide +kernel
theorem dX12_look_77 : decode cX12_look 77 = .ok (.iconst 0, 1) := by decide +kernel
theorem dX12_look_78 : decode cX12_look 78 = .ok (.istore 9, 2) := by decide +kernel
theorem dX12_look_80 : decode cX12_look 80 = .ok (.iload 9, 2) := by decide +kernel
theorem dX12_look_82 : decode cX12_look 82 = .ok (.aload_n 0, 1) := by decide +kernel
theorem dX12_look_83 : decode cX12_look 83 = .ok (.getfield 197, 3) := by decide +kernel
theorem dX12_look_86 : decode cX12_look 86 = .ok (.if_icmp .ge 121, 3) := by decide +kernel
theorem dX12_look_89 : decode cX12_look 89 = .ok (.iload_n 3, 1) := by decide +kernel
theorem dX12_look_90 : decode cX12_look 90 = .ok (.ifCond .eq 10, 3) := by decide +kernel
theorem dX12_look_93 : decode cX12_look 93 = .ok (.aload_n 0, 1) := by decide +kernel
theorem dX12_look_94 : decode cX12_look 94 = .ok (.getfield 56, 3) := by decide +kernel
theorem dX12_look_97 : decode cX12_look 97 = .ok (.goto 7, 3) := by decide +kernel
theorem dX12_look_100 : decode cX12_look 100 = .ok (.aload_n 0, 1) := by decide +kernel
theorem dX12_look_101 : decode cX12_look 101 = .ok (.getfield 59, 3) := by decide +kernel
theorem dX12_look_104 : decode cX12_look 104 = .ok (.bipush 16, 2) := by decide +kernel
theorem dX12_look_106 : decode cX12_look 106 = .ok (.iload 8, 2) := by decide +kernel
theorem dX12_look_108 : decode cX12_look 108 = .ok (.imul, 1) := by decide +kernel
theorem dX12_look_109 : decode cX12_look 109 = .ok (.iload 9, 2) := by decide +kernel
theorem dX12_look_111 : decode cX12_look 111 = .ok (.iadd, 1) := by decide +kernel
theorem dX12_look_112 : decode cX12_look 112 = .ok (.iaload, 1) := by decide +kernel
theorem dX12_look_113 : decode cX12_look 113 = .ok (.ifCond .eq 6, 3) := by decide +kernel
theorem dX12_look_116 : decode cX12_look 116 = .ok (.goto 85, 3) := by decide +kernel
theorem dX12_look_119 : decode cX12_look 119 = .ok (.aload_n 0, 1) := by decide +kernel
theorem dX12_look_120 : decode cX12_look 120 = .ok (.iload 8, 2) := by decide +kernel
theorem dX12_look_122 : decode cX12_look 122 = .ok (.putfield 91, 3) := by decide +kernel
theorem dX12_look_125 : decode cX12_look 125 = .ok (.aload_n 0, 1) := by decide +kernel
theorem dX12_look_126 : decode cX12_look 126 = .ok (.iload 9, 2) := by decide +kernel
theorem dX12_look_128 : decode cX12_look 128 = .ok (.putfield 299, 3) := by decide +kernel
theorem dX12_look_131 : decode cX12_look 131 = .ok (.aload_n 0, 1) := by decide +kernel
theorem dX12_look_132 : decode cX12_look 132 = .ok (.iconst 1, 1) := by decide +kernel
theorem dX12_look_133 : decode cX12_look 133 = .ok (.putfield 302, 3) := by decide +kernel
theorem dX12_look_136 : decode cX12_look 136 = .ok (.aload_n 0, 1) := by decide +kernel
theorem dX12_look_137 : decode cX12_look 137 = .ok (.lload_n 1, 1) := by decide +kernel
theorem dX12_look_138 : decode cX12_look 138 = .ok (.iload_n 3, 1) := by decide +kernel
theorem dX12_look_139 : decode cX12_look 139 = .ok (.iload 4, 2) := by decide +kernel
theorem dX12_look_141 : decode cX12_look 141 = .ok (.invokevirtual 450, 3) := by decide +kernel
theorem dX12_look_144 : decode cX12_look 144 = .ok (.istore 10, 2) := by decide +kernel
theorem dX12_look_146 : decode cX12_look 146 = .ok (.aload_n 0, 1) := by decide +kernel
theorem dX12_look_147 : decode cX12_look 147 = .ok (.iconst 2, 1) := by decide +kernel
theorem dX12_look_148 : decode cX12_look 148 = .ok (.putfield 302, 3) := by decide +kernel
theorem dX12_look_151 : decode cX12_look 151 = .ok (.iload 10, 2) := by decide +kernel
theorem dX12_look_153 : decode cX12_look 153 = .ok (.aload_n 0, 1) := by decide +kernel
theorem dX12_look_154 : decode cX12_look 154 = .ok (.lload_n 1, 1) := by decide +kernel
theorem dX12_look_155 : decode cX12_look 155 = .ok (.iload_n 3, 1) := by decide +kernel
theorem dX12_look_156 : decode cX12_look 156 = .ok (.iload 4, 2) := by decide +kernel
theorem dX12_look_158 : decode cX12_look 158 = .ok (.invokevirtual 450, 3) := by decide +kernel
theorem dX12_look_161 : decode cX12_look 161 = .ok (.invokestatic 274, 3) := by decide +kernel
theorem dX12_look_164 : decode cX12_look 164 = .ok (.istore 10, 2) := by decide +kernel
theorem dX12_look_166 : decode cX12_look 166 = .ok (.aload_n 0, 1) := by decide +kernel
theorem dX12_look_167 : decode cX12_look 167 = .ok (.iconst (-1), 1) := by decide +kernel
theorem dX12_look_168 : decode cX12_look 168 = .ok (.putfield 91, 3) := by decide +kernel
theorem dX12_look_171 : decode cX12_look 171 = .ok (.iload 6, 2) := by decide +kernel
theorem dX12_look_173 : decode cX12_look 173 = .ok (.iconst (-1), 1) := by decide +kernel
theorem dX12_look_174 : decode cX12_look 174 = .ok (.if_icmp .eq 13, 3) := by decide +kernel
theorem dX12_look_177 : decode cX12_look 177 = .ok (.iload 10, 2) := by decide +kernel
theorem dX12_look_179 : decode cX12_look 179 = .ok (.iload 7, 2) := by decide +kernel
theorem dX12_look_181 : decode cX12_look 181 = .ok (.if_icmp .lt 6, 3) := by decide +kernel
theorem dX12_look_184 : decode cX12_look 184 = .ok (.goto 17, 3) := by decide +kernel
theorem dX12_look_187 : decode cX12_look 187 = .ok (.bipush 16, 2) := by decide +kernel
theorem dX12_look_189 : decode cX12_look 189 = .ok (.iload 8, 2) := by decide +kernel
theorem dX12_look_191 : decode cX12_look 191 = .ok (.imul, 1) := by decide +kernel
theorem dX12_look_192 : decode cX12_look 192 = .ok (.iload 9, 2) := by decide +kernel
theorem dX12_look_194 : decode cX12_look 194 = .ok (.iadd, 1) := by decide +kernel
theorem dX12_look_195 : decode cX12_look 195 = .ok (.istore 6, 2) := by decide +kernel
theorem dX12_look_197 : decode cX12_look 197 = .ok (.iload 10, 2) := by decide +kernel
theorem dX12_look_199 : decode cX12_look 199 = .ok (.istore 7, 2) := by decide +kernel
theorem dX12_look_201 : decode cX12_look 201 = .ok (.iinc 9 1, 3) := by decide +kernel
theorem dX12_look_204 : decode cX12_look 204 = .ok (.goto (-124), 3) := by decide +kernel
theorem dX12_look_207 : decode cX12_look 207 = .ok (.iinc 8 1, 3) := by decide +kernel
theorem dX12_look_210 : decode cX12_look 210 = .ok (.goto (-156), 3) := by decide +kernel
theorem dX12_look_213 : decode cX12_look 213 = .ok (.iload 6, 2) := by decide +kernel
theorem dX12_look_215 : decode cX12_look 215 = .ok (.iconst (-1), 1) := by decide +kernel
theorem dX12_look_216 : decode cX12_look 216 = .ok (.if_icmp .ne 7, 3) := by decide +kernel
theorem dX12_look_219 : decode cX12_look 219 = .ok (.iconst (-1), 1) := by decide +kernel
theorem dX12_look_220 : decode cX12_look 220 = .ok (.goto 32, 3) := by decide +kernel
theorem dX12_look_223 : decode cX12_look 223 = .ok (.iload 5, 2) := by decide +kernel
theorem dX12_look_225 : decode cX12_look 225 = .ok (.ifCond .ne 11, 3) := by decide +kernel
theorem dX12_look_228 : decode cX12_look 228 = .ok (.iload 6, 2) := by decide +kernel
theorem dX12_look_230 : decode cX12_look 230 = .ok (.bipush 16, 2) := by decide +kernel
theorem dX12_look_232 : decode cX12_look 232 = .ok (.idiv, 1) := by decide +kernel
theorem dX12_look_233 : decode cX12_look 233 = .ok (.goto 19, 3) := by decide +kernel
theorem dX12_look_236 : decode cX12_look 236 = .ok (.iload 5, 2) := by decide +kernel
theorem dX12_look_238 : decode cX12_look 238 = .ok (.iconst 1, 1) := by decide +kernel
theorem dX12_look_239 : decode cX12_look 239 = .ok (.if_icmp .ne 11, 3) := by decide +kernel
theorem dX12_look_242 : decode cX12_look 242 = .ok (.iload 6, 2) := by decide +kernel
theorem dX12_look_244 : decode cX12_look 244 = .ok (.bipush 16, 2) := by decide +kernel
theorem dX12_look_246 : decode cX12_look 246 = .ok (.irem, 1) := by decide +kernel
theorem dX12_look_247 : decode cX12_look 247 = .ok (.goto 5, 3) := by decide +kernel
theorem dX12_look_250 : decode cX12_look 250 = .ok (.iload 7, 2) := by decide +kernel
theorem dX12_look_252 : decode cX12_look 252 = .ok (.ireturn, 1) := by decide +kernel
theorem dX12_others_0 : decode cX12_others 0 = .ok (.aload_n 0, 1) := by decide +kernel
theorem dX12_others_1 : decode cX12_others 1 = .ok (.iconst 0, 1) := by decide +kernel
theorem dX12_others_2 : decode cX12_others 2 = .ok (.putfield 185, 3) := by decide +kernel
theorem dX12_others_5 : decode cX12_others 5 = .ok (.aload_n 0, 1) := by decide +kernel
theorem dX12_others_6 : decode cX12_others 6 = .ok (.iload_n 1, 1) := by decide +kernel
theorem dX12_others_7 : decode cX12_others 7 = .ok (.invokevirtual 206, 3) := by decide +kernel
theorem dX12_others_10 : decode cX12_others 10 = .ok (.ifCond .ne 9, 3) := by decide +kernel
theorem dX12_others_13 : decode cX12_others 13 = .ok (.aload_n 0, 1) := by decide +kernel
theorem dX12_others_14 : decode cX12_others 14 = .ok (.iconst 1, 1) := by decide +kernel
theorem dX12_others_15 : decode cX12_others 15 = .ok (.invokevirtual 226, 3) := by decide +kernel
theorem dX12_others_18 : decode cX12_others 18 = .ok (.ireturn, 1) := by decide +kernel
theorem dX12_others_19 : decode cX12_others 19 = .ok (.aload_n 0, 1) := by decide +kernel
theorem dX12_others_20 : decode cX12_others 20 = .ok (.iload_n 3, 1) := by decide +kernel
theorem dX12_others_21 : decode cX12_others 21 = .ok (.invokevirtual 349, 3) := by decide +kernel
theorem dX12_others_24 : decode cX12_others 24 = .ok (.iconst 0, 1) := by decide +kernel
theorem dX12_others_25 : decode cX12_others 25 = .ok (.istore 5, 2) := by decide +kernel
theorem dX12_others_27 : decode cX12_others 27 = .ok (.iconst 0, 1) := by decide +kernel
theorem dX12_others_28 : decode cX12_others 28 = .ok (.istore 6, 2) := by decide +kernel
theorem dX12_others_30 : decode cX12_others 30 = .ok (.iload 6, 2) := by decide +kernel
theorem dX12_others_32 : decode cX12_others 32 = .ok (.aload_n 0, 1) := by decide +kernel
theorem dX12_others_33 : decode cX12_others 33 = .ok (.getfield 203, 3) := by decide +kernel
theorem dX12_others_36 : decode cX12_others 36 = .ok (.if_icmp .ge 66, 3) := by decide +kernel
theorem dX12_others_39 : decode cX12_others 39 = .ok (.iload 5, 2) := by decide +kernel
theorem dX12_others_41 : decode cX12_others 41 = .ok (.iload 6, 2) := by decide +kernel
theorem dX12_others_43 : decode cX12_others 43 = .ok (.iload_n 1, 1) := by decide +kernel
theorem dX12_others_44 : decode cX12_others 44 = .ok (.if_icmp .eq 48, 3) := by decide +kernel
theorem dX12_others_47 : decode cX12_others 47 = .ok (.aload_n 0, 1) := by decide +kernel
theorem dX12_others_48 : decode cX12_others 48 = .ok (.iload 6, 2) := by decide +kernel
theorem dX12_others_50 : decode cX12_others 50 = .ok (.invokevirtual 210, 3) := by decide +kernel
theorem dX12_others_53 : decode cX12_others 53 = .ok (.ifCond .eq 39, 3) := by decide +kernel
theorem dX12_others_56 : decode cX12_others 56 = .ok (.aload_n 0, 1) := by decide +kernel
theorem dX12_others_57 : decode cX12_others 57 = .ok (.getfield 79, 3) := by decide +kernel
theorem dX12_others_60 : decode cX12_others 60 = .ok (.bipush 60, 2) := by decide +kernel
theorem dX12_others_62 : decode cX12_others 62 = .ok (.iload_n 1, 1) := by decide +kernel
theorem dX12_others_63 : decode cX12_others 63 = .ok (.imul, 1) := by decide +kernel
theorem dX12_others_64 : decode cX12_others 64 = .ok (.iload 6, 2) := by decide +kernel
theorem dX12_others_66 : decode cX12_others 66 = .ok (.iadd, 1) := by decide +kernel
theorem dX12_others_67 : decode cX12_others 67 = .ok (.iaload, 1) := by decide +kernel
theorem dX12_others_68 : decode cX12_others 68 = .ok (.iconst 2, 1) := by decide +kernel
theorem dX12_others_69 : decode cX12_others 69 = .ok (.if_icmp .ne 23, 3) := by decide +kernel
theorem dX12_others_72 : decode cX12_others 72 = .ok (.iload 4, 2) := by decide +kernel
theorem dX12_others_74 : decode cX12_others 74 = .ok (.ifCond .ne 14, 3) := by decide +kernel
theorem dX12_others_77 : decode cX12_others 77 = .ok (.aload_n 0, 1) := by decide +kernel
theorem dX12_others_78 : decode cX12_others 78 = .ok (.iload_n 1, 1) := by decide +kernel
theorem dX12_others_79 : decode cX12_others 79 = .ok (.iload 6, 2) := by decide +kernel
theorem dX12_others_81 : decode cX12_others 81 = .ok (.invokevirtual 354, 3) := by decide +kernel
theorem dX12_others_84 : decode cX12_others 84 = .ok (.iload_n 2, 1) := by decide +kernel
theorem dX12_others_85 : decode cX12_others 85 = .ok (.if_icmp .lt 7, 3) := by decide +kernel
theorem dX12_others_88 : decode cX12_others 88 = .ok (.iconst 1, 1) := by decide +kernel
theorem dX12_others_89 : decode cX12_others 89 = .ok (.goto 4, 3) := by decide +kernel
theorem dX12_others_92 : decode cX12_others 92 = .ok (.iconst 0, 1) := by decide +kernel
theorem dX12_others_93 : decode cX12_others 93 = .ok (.iadd, 1) := by decide +kernel
theorem dX12_others_94 : decode cX12_others 94 = .ok (.istore 5, 2) := by decide +kernel
theorem dX12_others_96 : decode cX12_others 96 = .ok (.iinc 6 1, 3) := by decide +kernel
theorem dX12_others_99 : decode cX12_others 99 = .ok (.goto (-69), 3) := by decide +kernel
theorem dX12_others_102 : decode cX12_others 102 = .ok (.iload 5, 2) := by decide +kernel
theorem dX12_others_104 : decode cX12_others 104 = .ok (.ireturn, 1) := by decide +kernel
theorem dX12_lots_0 : decode cX12_lots 0 = .ok (.aload_n 0, 1) := by decide +kernel
theorem dX12_lots_1 : decode cX12_lots 1 = .ok (.iconst 0, 1) := by decide +kernel
theorem dX12_lots_2 : decode cX12_lots 2 = .ok (.putfield 185, 3) := by decide +kernel
theorem dX12_lots_5 : decode cX12_lots 5 = .ok (.aload_n 0, 1) := by decide +kernel
theorem dX12_lots_6 : decode cX12_lots 6 = .ok (.iload_n 1, 1) := by decide +kernel
theorem dX12_lots_7 : decode cX12_lots 7 = .ok (.invokevirtual 206, 3) := by decide +kernel
theorem dX12_lots_10 : decode cX12_lots 10 = .ok (.ifCond .ne 9, 3) := by decide +kernel
theorem dX12_lots_13 : decode cX12_lots 13 = .ok (.aload_n 0, 1) := by decide +kernel
theorem dX12_lots_14 : decode cX12_lots 14 = .ok (.iconst 1, 1) := by decide +kernel
theorem dX12_lots_15 : decode cX12_lots 15 = .ok (.invokevirtual 226, 3) := by decide +kernel
theorem dX12_lots_18 : decode cX12_lots 18 = .ok (.ireturn, 1) := by decide +kernel
theorem dX12_lots_19 : decode cX12_lots 19 = .ok (.iload_n 3, 1) := by decide +kernel
theorem dX12_lots_20 : decode cX12_lots 20 = .ok (.ifCond .lt 16, 3) := by decide +kernel
theorem dX12_lots_23 : decode cX12_lots 23 = .ok (.iload 4, 2) := by decide +kernel
theorem dX12_lots_25 : decode cX12_lots 25 = .ok (.i2l, 1) := by decide +kernel
theorem dX12_lots_26 : decode cX12_lots 26 = .ok (.lconst 1, 1) := by decide +kernel
theorem dX12_lots_27 : decode cX12_lots 27 = .ok (.ldc2_w 453, 3) := by decide +kernel
theorem dX12_lots_30 : decode cX12_lots 30 = .ok (.invokestatic 190, 3) := by decide +kernel
theorem dX12_lots_33 : decode cX12_lots 33 = .ok (.ifCond .ne 9, 3) := by decide +kernel
theorem dX12_lots_36 : decode cX12_lots 36 = .ok (.aload_n 0, 1) := by decide +kernel
theorem dX12_lots_37 : decode cX12_lots 37 = .ok (.iconst 2, 1) := by decide +kernel
theorem dX12_lots_38 : decode cX12_lots 38 = .ok (.invokevirtual 226, 3) := by decide +kernel
theorem dX12_lots_41 : decode cX12_lots 41 = .ok (.ireturn, 1) := by decide +kernel
theorem dX12_lots_42 : decode cX12_lots 42 = .ok (.aload_n 0, 1) := by decide +kernel
theorem dX12_lots_43 : decode cX12_lots 43 = .ok (.getfield 46, 3) := by decide +kernel
theorem dX12_lots_46 : decode cX12_lots 46 = .ok (.iload_n 1, 1) := by decide +kernel
theorem dX12_lots_47 : decode cX12_lots 47 = .ok (.baload, 1) := by decide +kernel
theorem dX12_lots_48 : decode cX12_lots 48 = .ok (.ifCond .eq 9, 3) := by decide +kernel
theorem dX12_lots_51 : decode cX12_lots 51 = .ok (.aload_n 0, 1) := by decide +kernel
theorem dX12_lots_52 : decode cX12_lots 52 = .ok (.iconst 3, 1) := by decide +kernel
theorem dX12_lots_53 : decode cX12_lots 53 = .ok (.invokevirtual 226, 3) := by decide +kernel
theorem dX12_lots_56 : decode cX12_lots 56 = .ok (.ireturn, 1) := by decide +kernel
theorem dX12_lots_57 : decode cX12_lots 57 = .ok (.aload_n 0, 1) := by decide +kernel
theorem dX12_lots_58 : decode cX12_lots 58 = .ok (.iload 5, 2) := by decide +kernel
theorem dX12_lots_60 : decode cX12_lots 60 = .ok (.invokevirtual 349, 3) := by decide +kernel
theorem dX12_lots_63 : decode cX12_lots 63 = .ok (.iconst 0, 1) := by decide +kernel
theorem dX12_lots_64 : decode cX12_lots 64 = .ok (.istore 6, 2) := by decide +kernel
theorem dX12_lots_66 : decode cX12_lots 66 = .ok (.iconst 0, 1) := by decide +kernel
theorem dX12_lots_67 : decode cX12_lots 67 = .ok (.istore 7, 2) := by decide +kernel
theorem dX12_lots_69 : decode cX12_lots 69 = .ok (.iload 7, 2) := by decide +kernel
theorem dX12_lots_71 : decode cX12_lots 71 = .ok (.aload_n 0, 1) := by decide +kernel
theorem dX12_lots_72 : decode cX12_lots 72 = .ok (.getfield 203, 3) := by decide +kernel
theorem dX12_lots_75 : decode cX12_lots 75 = .ok (.if_icmp .ge 39, 3) := by decide +kernel
theorem dX12_lots_78 : decode cX12_lots 78 = .ok (.iload 7, 2) := by decide +kernel
theorem dX12_lots_80 : decode cX12_lots 80 = .ok (.iload_n 1, 1) := by decide +kernel
theorem dX12_lots_81 : decode cX12_lots 81 = .ok (.if_icmp .eq 27, 3) := by decide +kernel
theorem dX12_lots_84 : decode cX12_lots 84 = .ok (.aload_n 0, 1) := by decide +kernel
theorem dX12_lots_85 : decode cX12_lots 85 = .ok (.iload 7, 2) := by decide +kernel
theorem dX12_lots_87 : decode cX12_lots 87 = .ok (.invokevirtual 210, 3) := by decide +kernel
theorem dX12_lots_90 : decode cX12_lots 90 = .ok (.ifCond .ne 6, 3) := by decide +kernel
theorem dX12_lots_93 : decode cX12_lots 93 = .ok (.goto 15, 3) := by decide +kernel
theorem dX12_lots_96 : decode cX12_lots 96 = .ok (.aload_n 0, 1) := by decide +kernel
theorem dX12_lots_97 : decode cX12_lots 97 = .ok (.getfield 148, 3) := by decide +kernel
theorem dX12_lots_100 : decode cX12_lots 100 = .ok (.iload 6, 2) := by decide +kernel
theorem dX12_lots_102 : decode cX12_lots 102 = .ok (.iload 7, 2) := by decide +kernel
theorem dX12_lots_104 : decode cX12_lots 104 = .ok (.iastore, 1) := by decide +kernel
theorem dX12_lots_105 : decode cX12_lots 105 = .ok (.iinc 6 1, 3) := by decide +kernel
theorem dX12_lots_108 : decode cX12_lots 108 = .ok (.iinc 7 1, 3) := by decide +kernel
theorem dX12_lots_111 : decode cX12_lots 111 = .ok (.goto (-42), 3) := by decide +kernel
theorem dX12_lots_114 : decode cX12_lots 114 = .ok (.iload_n 3, 1) := by decide +kernel
theorem dX12_lots_115 : decode cX12_lots 115 = .ok (.i2l, 1) := by decide +kernel
theorem dX12_lots_116 : decode cX12_lots 116 = .ok (.lstore 7, 2) := by decide +kernel
theorem dX12_lots_118 : decode cX12_lots 118 = .ok (.iconst 0, 1) := by decide +kernel
theorem dX12_lots_119 : decode cX12_lots 119 = .ok (.istore 9, 2) := by decide +kernel
theorem dX12_lots_121 : decode cX12_lots 121 = .ok (.iconst 0, 1) := by decide +kernel
theorem dX12_lots_122 : decode cX12_lots 122 = .ok (.istore 10, 2) := by decide +kernel
theorem dX12_lots_124 : decode cX12_lots 124 = .ok (.iload 10, 2) := by decide +kernel
theorem dX12_lots_126 : decode cX12_lots 126 = .ok (.iload 4, 2) := by decide +kernel
theorem dX12_lots_128 : decode cX12_lots 128 = .ok (.if_icmp .ge 273, 3) := by decide +kernel
theorem dX12_lots_131 : decode cX12_lots 131 = .ok (.iconst 0, 1) := by decide +kernel
theorem dX12_lots_132 : decode cX12_lots 132 = .ok (.istore 11, 2) := by decide +kernel
theorem dX12_lots_134 : decode cX12_lots 134 = .ok (.iload 11, 2) := by decide +kernel
theorem dX12_lots_136 : decode cX12_lots 136 = .ok (.iload 6, 2) := by decide +kernel
theorem dX12_lots_138 : decode cX12_lots 138 = .ok (.if_icmp .ge 63, 3) := by decide +kernel
theorem dX12_lots_141 : decode cX12_lots 141 = .ok (.iconst 0, 1) := by decide +kernel
theorem dX12_lots_142 : decode cX12_lots 142 = .ok (.istore 12, 2) := by decide +kernel
theorem dX12_lots_144 : decode cX12_lots 144 = .ok (.iload 12, 2) := by decide +kernel
theorem dX12_lots_146 : decode cX12_lots 146 = .ok (.aload_n 0, 1) := by decide +kernel
theorem dX12_lots_147 : decode cX12_lots 147 = .ok (.getfield 197, 3) := by decide +kernel
theorem dX12_lots_150 : decode cX12_lots 150 = .ok (.if_icmp .ge 45, 3) := by decide +kernel
theorem dX12_lots_153 : decode cX12_lots 153 = .ok (.aload_n 0, 1) := by decide +kernel
theorem dX12_lots_154 : decode cX12_lots 154 = .ok (.getfield 145, 3) := by decide +kernel
theorem dX12_lots_157 : decode cX12_lots 157 = .ok (.bipush 16, 2) := by decide +kernel
theorem dX12_lots_159 : decode cX12_lots 159 = .ok (.aload_n 0, 1) := by decide +kernel
theorem dX12_lots_160 : decode cX12_lots 160 = .ok (.getfield 148, 3) := by decide +kernel
theorem dX12_lots_163 : decode cX12_lots 163 = .ok (.iload 11, 2) := by decide +kernel
theorem dX12_lots_165 : decode cX12_lots 165 = .ok (.iaload, 1) := by decide +kernel
theorem dX12_lots_166 : decode cX12_lots 166 = .ok (.imul, 1) := by decide +kernel
theorem dX12_lots_167 : decode cX12_lots 167 = .ok (.iload 12, 2) := by decide +kernel
theorem dX12_lots_169 : decode cX12_lots 169 = .ok (.iadd, 1) := by decide +kernel
theorem dX12_lots_170 : decode cX12_lots 170 = .ok (.aload_n 0, 1) := by decide +kernel
theorem dX12_lots_171 : decode cX12_lots 171 = .ok (.getfield 76, 3) := by decide +kernel
theorem dX12_lots_174 : decode cX12_lots 174 = .ok (.bipush 16, 2) := by decide +kernel
theorem dX12_lots_176 : decode cX12_lots 176 = .ok (.aload_n 0, 1) := by decide +kernel
theorem dX12_lots_177 : decode cX12_lots 177 = .ok (.getfield 148, 3) := by decide +kernel
theorem dX12_lots_180 : decode cX12_lots 180 = .ok (.iload 11, 2) := by decide +kernel
theorem dX12_lots_182 : decode cX12_lots 182 = .ok (.iaload, 1) := by decide +kernel
theorem dX12_lots_183 : decode cX12_lots 183 = .ok (.imul, 1) := by decide +kernel
theorem dX12_lots_184 : decode cX12_lots 184 = .ok (.iload 12, 2) := by decide +kernel
theorem dX12_lots_186 : decode cX12_lots 186 = .ok (.iadd, 1) := by decide +kernel
theorem dX12_lots_187 : decode cX12_lots 187 = .ok (.iaload, 1) := by decide +kernel
theorem dX12_lots_188 : decode cX12_lots 188 = .ok (.iastore, 1) := by decide +kernel
theorem dX12_lots_189 : decode cX12_lots 189 = .ok (.iinc 12 1, 3) := by decide +kernel
theorem dX12_lots_192 : decode cX12_lots 192 = .ok (.goto (-48), 3) := by decide +kernel
theorem dX12_lots_195 : decode cX12_lots 195 = .ok (.iinc 11 1, 3) := by decide +kernel
theorem dX12_lots_198 : decode cX12_lots 198 = .ok (.goto (-64), 3) := by decide +kernel
theorem dX12_lots_201 : decode cX12_lots 201 = .ok (.iconst 0, 1) := by decide +kernel
theorem dX12_lots_202 : decode cX12_lots 202 = .ok (.istore 11, 2) := by decide +kernel
theorem dX12_lots_204 : decode cX12_lots 204 = .ok (.iload 11, 2) := by decide +kernel
theorem dX12_lots_206 : decode cX12_lots 206 = .ok (.aload_n 0, 1) := by decide +kernel
theorem dX12_lots_207 : decode cX12_lots 207 = .ok (.getfield 197, 3) := by decide +kernel
theorem dX12_lots_210 : decode cX12_lots 210 = .ok (.if_icmp .ge 115, 3) := by decide +kernel
theorem dX12_lots_213 : decode cX12_lots 213 = .ok (.iload 6, 2) := by decide +kernel
theorem dX12_lots_215 : decode cX12_lots 215 = .ok (.iconst 1, 1) := by decide +kernel
theorem dX12_lots_216 : decode cX12_lots 216 = .ok (.isub, 1) := by decide +kernel
theorem dX12_lots_217 : decode cX12_lots 217 = .ok (.istore 12, 2) := by decide +kernel
theorem dX12_lots_219 : decode cX12_lots 219 = .ok (.iload 12, 2) := by decide +kernel
theorem dX12_lots_221 : decode cX12_lots 221 = .ok (.ifCond .le 98, 3) := by decide +kernel
theorem dX12_lots_224 : decode cX12_lots 224 = .ok (.lload 7, 2) := by decide +kernel
theorem dX12_lots_226 : decode cX12_lots 226 = .ok (.ldc2_w 455, 3) := by decide +kernel
theorem dX12_lots_229 : decode cX12_lots 229 = .ok (.lmul, 1) := by decide +kernel
theorem dX12_lots_230 : decode cX12_lots 230 = .ok (.ldc2_w 457, 3) := by decide +kernel
theorem dX12_lots_233 : decode cX12_lots 233 = .ok (.ladd, 1) := by decide +kernel
theorem dX12_lots_234 : decode cX12_lots 234 = .ok (.ldc2_w 459, 3) := by decide +kernel
theorem dX12_lots_237 : decode cX12_lots 237 = .ok (.land, 1) := by decide +kernel
theorem dX12_lots_238 : decode cX12_lots 238 = .ok (.lstore 7, 2) := by decide +kernel
theorem dX12_lots_240 : decode cX12_lots 240 = .ok (.bipush 16, 2) := by decide +kernel
theorem dX12_lots_242 : decode cX12_lots 242 = .ok (.aload_n 0, 1) := by decide +kernel
theorem dX12_lots_243 : decode cX12_lots 243 = .ok (.getfield 148, 3) := by decide +kernel
theorem dX12_lots_246 : decode cX12_lots 246 = .ok (.iload 12, 2) := by decide +kernel
theorem dX12_lots_248 : decode cX12_lots 248 = .ok (.iaload, 1) := by decide +kernel
theorem dX12_lots_249 : decode cX12_lots 249 = .ok (.imul, 1) := by decide +kernel
theorem dX12_lots_250 : decode cX12_lots 250 = .ok (.iload 11, 2) := by decide +kernel
theorem dX12_lots_252 : decode cX12_lots 252 = .ok (.iadd, 1) := by decide +kernel
theorem dX12_lots_253 : decode cX12_lots 253 = .ok (.istore 13, 2) := by decide +kernel
theorem dX12_lots_255 : decode cX12_lots 255 = .ok (.bipush 16, 2) := by decide +kernel
theorem dX12_lots_257 : decode cX12_lots 257 = .ok (.aload_n 0, 1) := by decide +kernel
theorem dX12_lots_258 : decode cX12_lots 258 = .ok (.getfield 148, 3) := by decide +kernel
theorem dX12_lots_261 : decode cX12_lots 261 = .ok (.lload 7, 2) := by decide +kernel
theorem dX12_lots_263 : decode cX12_lots 263 = .ok (.ldc2_w 461, 3) := by decide +kernel
theorem dX12_lots_266 : decode cX12_lots 266 = .ok (.ldiv, 1) := by decide +kernel
theorem dX12_lots_267 : decode cX12_lots 267 = .ok (.iload 12, 2) := by decide +kernel
theorem dX12_lots_269 : decode cX12_lots 269 = .ok (.iconst 1, 1) := by decide +kernel
theorem dX12_lots_270 : decode cX12_lots 270 = .ok (.iadd, 1) := by decide +kernel
theorem dX12_lots_271 : decode cX12_lots 271 = .ok (.i2l, 1) := by decide +kernel
theorem dX12_lots_272 : decode cX12_lots 272 = .ok (.lrem, 1) := by decide +kernel
theorem dX12_lots_273 : decode cX12_lots 273 = .ok (.l2i, 1) := by decide +kernel
theorem dX12_lots_274 : decode cX12_lots 274 = .ok (.iaload, 1) := by decide +kernel
theorem dX12_lots_275 : decode cX12_lots 275 = .ok (.imul, 1) := by decide +kernel
theorem dX12_lots_276 : decode cX12_lots 276 = .ok (.iload 11, 2) := by decide +kernel
theorem dX12_lots_278 : decode cX12_lots 278 = .ok (.iadd, 1) := by decide +kernel
theorem dX12_lots_279 : decode cX12_lots 279 = .ok (.istore 14, 2) := by decide +kernel
theorem dX12_lots_281 : decode cX12_lots 281 = .ok (.aload_n 0, 1) := by decide +kernel
theorem dX12_lots_282 : decode cX12_lots 282 = .ok (.getfield 145, 3) := by decide +kernel
theorem dX12_lots_285 : decode cX12_lots 285 = .ok (.iload 13, 2) := by decide +kernel
theorem dX12_lots_287 : decode cX12_lots 287 = .ok (.iaload, 1) := by decide +kernel
theorem dX12_lots_288 : decode cX12_lots 288 = .ok (.istore 15, 2) := by decide +kernel
theorem dX12_lots_290 : decode cX12_lots 290 = .ok (.aload_n 0, 1) := by decide +kernel
theorem dX12_lots_291 : decode cX12_lots 291 = .ok (.getfield 145, 3) := by decide +kernel
theorem dX12_lots_294 : decode cX12_lots 294 = .ok (.iload 13, 2) := by decide +kernel
theorem dX12_lots_296 : decode cX12_lots 296 = .ok (.aload_n 0, 1) := by decide +kernel
theorem dX12_lots_297 : decode cX12_lots 297 = .ok (.getfield 145, 3) := by decide +kernel
theorem dX12_lots_300 : decode cX12_lots 300 = .ok (.iload 14, 2) := by decide +kernel
theorem dX12_lots_302 : decode cX12_lots 302 = .ok (.iaload, 1) := by decide +kernel
theorem dX12_lots_303 : decode cX12_lots 303 = .ok (.iastore, 1) := by decide +kernel
theorem dX12_lots_304 : decode cX12_lots 304 = .ok (.aload_n 0, 1) := by decide +kernel
theorem dX12_lots_305 : decode cX12_lots 305 = .ok (.getfield 145, 3) := by decide +kernel
theorem dX12_lots_308 : decode cX12_lots 308 = .ok (.iload 14, 2) := by decide +kernel
theorem dX12_lots_310 : decode cX12_lots 310 = .ok (.iload 15, 2) := by decide +kernel
theorem dX12_lots_312 : decode cX12_lots 312 = .ok (.iastore, 1) := by decide +kernel
theorem dX12_lots_313 : decode cX12_lots 313 = .ok (.iinc 12 (-1), 3) := by decide +kernel
theorem dX12_lots_316 : decode cX12_lots 316 = .ok (.goto (-97), 3) := by decide +kernel
theorem dX12_lots_319 : decode cX12_lots 319 = .ok (.iinc 11 1, 3) := by decide +kernel
theorem dX12_lots_322 : decode cX12_lots 322 = .ok (.goto (-118), 3) := by decide +kernel
theorem dX12_lots_325 : decode cX12_lots 325 = .ok (.iconst 0, 1) := by decide +kernel
theorem dX12_lots_326 : decode cX12_lots 326 = .ok (.istore 11, 2) := by decide +kernel
theorem dX12_lots_328 : decode cX12_lots 328 = .ok (.iconst 0, 1) := by decide +kernel
theorem dX12_lots_329 : decode cX12_lots 329 = .ok (.istore 12, 2) := by decide +kernel
theorem dX12_lots_331 : decode cX12_lots 331 = .ok (.iload 12, 2) := by decide +kernel
theorem dX12_lots_333 : decode cX12_lots 333 = .ok (.iload 6, 2) := by decide +kernel
theorem dX12_lots_335 : decode cX12_lots 335 = .ok (.if_icmp .ge 45, 3) := by decide +kernel
theorem dX12_lots_338 : decode cX12_lots 338 = .ok (.iload 11, 2) := by decide +kernel
theorem dX12_lots_340 : decode cX12_lots 340 = .ok (.ifCond .ne 40, 3) := by decide +kernel
theorem dX12_lots_343 : decode cX12_lots 343 = .ok (.aload_n 0, 1) := by decide +kernel
theorem dX12_lots_344 : decode cX12_lots 344 = .ok (.aload_n 0, 1) := by decide +kernel
theorem dX12_lots_345 : decode cX12_lots 345 = .ok (.getfield 76, 3) := by decide +kernel
theorem dX12_lots_348 : decode cX12_lots 348 = .ok (.iload_n 1, 1) := by decide +kernel
theorem dX12_lots_349 : decode cX12_lots 349 = .ok (.aload_n 0, 1) := by decide +kernel
theorem dX12_lots_350 : decode cX12_lots 350 = .ok (.getfield 145, 3) := by decide +kernel
theorem dX12_lots_353 : decode cX12_lots 353 = .ok (.aload_n 0, 1) := by decide +kernel
theorem dX12_lots_354 : decode cX12_lots 354 = .ok (.getfield 148, 3) := by decide +kernel
theorem dX12_lots_357 : decode cX12_lots 357 = .ok (.iload 12, 2) := by decide +kernel
theorem dX12_lots_359 : decode cX12_lots 359 = .ok (.iaload, 1) := by decide +kernel
theorem dX12_lots_360 : decode cX12_lots 360 = .ok (.invokevirtual 345, 3) := by decide +kernel
theorem dX12_lots_363 : decode cX12_lots 363 = .ok (.iload_n 2, 1) := by decide +kernel
theorem dX12_lots_364 : decode cX12_lots 364 = .ok (.if_icmp .lt 7, 3) := by decide +kernel
theorem dX12_lots_367 : decode cX12_lots 367 = .ok (.iconst 1, 1) := by decide +kernel
theorem dX12_lots_368 : decode cX12_lots 368 = .ok (.goto 4, 3) := by decide +kernel
theorem dX12_lots_371 : decode cX12_lots 371 = .ok (.iconst 0, 1) := by decide +kernel
theorem dX12_lots_372 : decode cX12_lots 372 = .ok (.istore 11, 2) := by decide +kernel
theorem dX12_lots_374 : decode cX12_lots 374 = .ok (.iinc 12 1, 3) := by decide +kernel
theorem dX12_lots_377 : decode cX12_lots 377 = .ok (.goto (-46), 3) := by decide +kernel
theorem dX12_lots_380 : decode cX12_lots 380 = .ok (.iload 9, 2) := by decide +kernel
theorem dX12_lots_382 : decode cX12_lots 382 = .ok (.iload 11, 2) := by decide +kernel
theorem dX12_lots_384 : decode cX12_lots 384 = .ok (.ifCond .eq 7, 3) := by decide +kernel
theorem dX12_lots_387 : decode cX12_lots 387 = .ok (.iconst 1, 1) := by decide +kernel
theorem dX12_lots_388 : decode cX12_lots 388 = .ok (.goto 4, 3) := by decide +kernel
theorem dX12_lots_391 : decode cX12_lots 391 = .ok (.iconst 0, 1) := by decide +kernel
theorem dX12_lots_392 : decode cX12_lots 392 = .ok (.iadd, 1) := by decide +kernel
theorem dX12_lots_393 : decode cX12_lots 393 = .ok (.istore 9, 2) := by decide +kernel
theorem dX12_lots_395 : decode cX12_lots 395 = .ok (.iinc 10 1, 3) := by decide +kernel
theorem dX12_lots_398 : decode cX12_lots 398 = .ok (.goto (-274), 3) := by decide +kernel
theorem dX12_lots_401 : decode cX12_lots 401 = .ok (.iload 9, 2) := by decide +kernel
theorem dX12_lots_403 : decode cX12_lots 403 = .ok (.ireturn, 1) := by decide +kernel
theorem dX12_feed_0 : decode cX12_feed 0 = .ok (.aload_n 0, 1) := by decide +kernel
theorem dX12_feed_1 : decode cX12_feed 1 = .ok (.iconst 0, 1) := by decide +kernel
theorem dX12_feed_2 : decode cX12_feed 2 = .ok (.putfield 185, 3) := by decide +kernel
theorem dX12_feed_5 : decode cX12_feed 5 = .ok (.aload_n 0, 1) := by decide +kernel
theorem dX12_feed_6 : decode cX12_feed 6 = .ok (.getfield 463, 3) := by decide +kernel
theorem dX12_feed_9 : decode cX12_feed 9 = .ok (.bipush 20, 2) := by decide +kernel
theorem dX12_feed_11 : decode cX12_feed 11 = .ok (.iadd, 1) := by decide +kernel
theorem dX12_feed_12 : decode cX12_feed 12 = .ok (.sipush 300, 3) := by decide +kernel
theorem dX12_feed_15 : decode cX12_feed 15 = .ok (.if_icmp .le 5, 3) := by decide +kernel
theorem dX12_feed_18 : decode cX12_feed 18 = .ok (.iconst (-1), 1) := by decide +kernel
theorem dX12_feed_19 : decode cX12_feed 19 = .ok (.ireturn, 1) := by decide +kernel
theorem dX12_feed_20 : decode cX12_feed 20 = .ok (.iconst 0, 1) := by decide +kernel
theorem dX12_feed_21 : decode cX12_feed 21 = .ok (.istore 6, 2) := by decide +kernel
theorem dX12_feed_23 : decode cX12_feed 23 = .ok (.iload 6, 2) := by decide +kernel
theorem dX12_feed_25 : decode cX12_feed 25 = .ok (.bipush 20, 2) := by decide +kernel
theorem dX12_feed_27 : decode cX12_feed 27 = .ok (.if_icmp .ge 93, 3) := by decide +kernel
theorem dX12_feed_30 : decode cX12_feed 30 = .ok (.iload 6, 2) := by decide +kernel
theorem dX12_feed_32 : decode cX12_feed 32 = .ok (.iconst 4, 1) := by decide +kernel
theorem dX12_feed_33 : decode cX12_feed 33 = .ok (.if_icmp .ge 7, 3) := by decide +kernel
theorem dX12_feed_36 : decode cX12_feed 36 = .ok (.iload_n 1, 1) := by decide +kernel
theorem dX12_feed_37 : decode cX12_feed 37 = .ok (.goto 39, 3) := by decide +kernel
theorem dX12_feed_40 : decode cX12_feed 40 = .ok (.iload 6, 2) := by decide +kernel
theorem dX12_feed_42 : decode cX12_feed 42 = .ok (.bipush 8, 2) := by decide +kernel
theorem dX12_feed_44 : decode cX12_feed 44 = .ok (.if_icmp .ge 7, 3) := by decide +kernel
theorem dX12_feed_47 : decode cX12_feed 47 = .ok (.iload_n 2, 1) := by decide +kernel
theorem dX12_feed_48 : decode cX12_feed 48 = .ok (.goto 28, 3) := by decide +kernel
theorem dX12_feed_51 : decode cX12_feed 51 = .ok (.iload 6, 2) := by decide +kernel
theorem dX12_feed_53 : decode cX12_feed 53 = .ok (.bipush 12, 2) := by decide +kernel
theorem dX12_feed_55 : decode cX12_feed 55 = .ok (.if_icmp .ge 7, 3) := by decide +kernel
theorem dX12_feed_58 : decode cX12_feed 58 = .ok (.iload_n 3, 1) := by decide +kernel
theorem dX12_feed_59 : decode cX12_feed 59 = .ok (.goto 17, 3) := by decide +kernel
theorem dX12_feed_62 : decode cX12_feed 62 = .ok (.iload 6, 2) := by decide +kernel
theorem dX12_feed_64 : decode cX12_feed 64 = .ok (.bipush 16, 2) := by decide +kernel
theorem dX12_feed_66 : decode cX12_feed 66 = .ok (.if_icmp .ge 8, 3) := by decide +kernel
theorem dX12_feed_69 : decode cX12_feed 69 = .ok (.iload 4, 2) := by decide +kernel
theorem dX12_feed_71 : decode cX12_feed 71 = .ok (.goto 5, 3) := by decide +kernel
theorem dX12_feed_74 : decode cX12_feed 74 = .ok (.iload 5, 2) := by decide +kernel
theorem dX12_feed_76 : decode cX12_feed 76 = .ok (.istore 7, 2) := by decide +kernel
theorem dX12_feed_78 : decode cX12_feed 78 = .ok (.aload_n 0, 1) := by decide +kernel
theorem dX12_feed_79 : decode cX12_feed 79 = .ok (.getfield 151, 3) := by decide +kernel
theorem dX12_feed_82 : decode cX12_feed 82 = .ok (.aload_n 0, 1) := by decide +kernel
theorem dX12_feed_83 : decode cX12_feed 83 = .ok (.getfield 463, 3) := by decide +kernel
theorem dX12_feed_86 : decode cX12_feed 86 = .ok (.iload 7, 2) := by decide +kernel
theorem dX12_feed_88 : decode cX12_feed 88 = .ok (.bipush 24, 2) := by decide +kernel
theorem dX12_feed_90 : decode cX12_feed 90 = .ok (.bipush 8, 2) := by decide +kernel
theorem dX12_feed_92 : decode cX12_feed 92 = .ok (.iload 6, 2) := by decide +kernel
theorem dX12_feed_94 : decode cX12_feed 94 = .ok (.iconst 3, 1) := by decide +kernel
theorem dX12_feed_95 : decode cX12_feed 95 = .ok (.iand, 1) := by decide +kernel
theorem dX12_feed_96 : decode cX12_feed 96 = .ok (.imul, 1) := by decide +kernel
theorem dX12_feed_97 : decode cX12_feed 97 = .ok (.isub, 1) := by decide +kernel
theorem dX12_feed_98 : decode cX12_feed 98 = .ok (.iushr, 1) := by decide +kernel
theorem dX12_feed_99 : decode cX12_feed 99 = .ok (.sipush 255, 3) := by decide +kernel
theorem dX12_feed_102 : decode cX12_feed 102 = .ok (.iand, 1) := by decide +kernel
theorem dX12_feed_103 : decode cX12_feed 103 = .ok (.iastore, 1) := by decide +kernel
theorem dX12_feed_104 : decode cX12_feed 104 = .ok (.aload_n 0, 1) := by decide +kernel
theorem dX12_feed_105 : decode cX12_feed 105 = .ok (.dup, 1) := by decide +kernel
theorem dX12_feed_106 : decode cX12_feed 106 = .ok (.getfield 463, 3) := by decide +kernel
theorem dX12_feed_109 : decode cX12_feed 109 = .ok (.iconst 1, 1) := by decide +kernel
theorem dX12_feed_110 : decode cX12_feed 110 = .ok (.iadd, 1) := by decide +kernel
theorem dX12_feed_111 : decode cX12_feed 111 = .ok (.putfield 463, 3) := by decide +kernel
theorem dX12_feed_114 : decode cX12_feed 114 = .ok (.iinc 6 1, 3) := by decide +kernel
theorem dX12_feed_117 : decode cX12_feed 117 = .ok (.goto (-94), 3) := by decide +kernel
theorem dX12_feed_120 : decode cX12_feed 120 = .ok (.aload_n 0, 1) := by decide +kernel
theorem dX12_feed_121 : decode cX12_feed 121 = .ok (.getfield 463, 3) := by decide +kernel
theorem dX12_feed_124 : decode cX12_feed 124 = .ok (.ireturn, 1) := by decide +kernel
theorem dX12_see_0 : decode cX12_see 0 = .ok (.iload_n 1, 1) := by decide +kernel
theorem dX12_see_1 : decode cX12_see 1 = .ok (.aload_n 0, 1) := by decide +kernel
theorem dX12_see_2 : decode cX12_see 2 = .ok (.getfield 466, 3) := by decide +kernel
theorem dX12_see_5 : decode cX12_see 5 = .ok (.if_icmp .ge 12, 3) := by decide +kernel
theorem dX12_see_8 : decode cX12_see 8 = .ok (.aload_n 0, 1) := by decide +kernel
theorem dX12_see_9 : decode cX12_see 9 = .ok (.getfield 151, 3) := by decide +kernel
theorem dX12_see_12 : decode cX12_see 12 = .ok (.iload_n 1, 1) := by decide +kernel
theorem dX12_see_13 : decode cX12_see 13 = .ok (.iaload, 1) := by decide +kernel
theorem dX12_see_14 : decode cX12_see 14 = .ok (.goto 4, 3) := by decide +kernel
theorem dX12_see_17 : decode cX12_see 17 = .ok (.iconst 0, 1) := by decide +kernel
theorem dX12_see_18 : decode cX12_see 18 = .ok (.ireturn, 1) := by decide +kernel
theorem dX12_isLetter_0 : decode cX12_isLetter 0 = .ok (.iload_n 0, 1) := by decide +kernel
theorem dX12_isLetter_1 : decode cX12_isLetter 1 = .ok (.bipush 97, 2) := by decide +kernel
theorem dX12_isLetter_3 : decode cX12_isLetter 3 = .ok (.if_icmp .lt 13, 3) := by decide +kernel
theorem dX12_isLetter_6 : decode cX12_isLetter 6 = .ok (.iload_n 0, 1) := by decide +kernel
theorem dX12_isLetter_7 : decode cX12_isLetter 7 = .ok (.bipush 122, 2) := by decide +kernel
theorem dX12_isLetter_9 : decode cX12_isLetter 9 = .ok (.if_icmp .gt 7, 3) := by decide +kernel
theorem dX12_isLetter_12 : decode cX12_isLetter 12 = .ok (.iconst 1, 1) := by decide +kernel
theorem dX12_isLetter_13 : decode cX12_isLetter 13 = .ok (.goto 4, 3) := by decide +kernel
theorem dX12_isLetter_16 : decode cX12_isLetter 16 = .ok (.iconst 0, 1) := by decide +kernel
theorem dX12_isLetter_17 : decode cX12_isLetter 17 = .ok (.ireturn, 1) := by decide +kernel
theorem dX12_isDigit_0 : decode cX12_isDigit 0 = .ok (.iload_n 0, 1) := by decide +kernel
theorem dX12_isDigit_1 : decode cX12_isDigit 1 = .ok (.bipush 48, 2) := by decide +kernel
theorem dX12_isDigit_3 : decode cX12_isDigit 3 = .ok (.if_icmp .lt 13, 3) := by decide +kernel
theorem dX12_isDigit_6 : decode cX12_isDigit 6 = .ok (.iload_n 0, 1) := by decide +kernel
theorem dX12_isDigit_7 : decode cX12_isDigit 7 = .ok (.bipush 57, 2) := by decide +kernel
theorem dX12_isDigit_9 : decode cX12_isDigit 9 = .ok (.if_icmp .gt 7, 3) := by decide +kernel
theorem dX12_isDigit_12 : decode cX12_isDigit 12 = .ok (.iconst 1, 1) := by decide +kernel
theorem dX12_isDigit_13 : decode cX12_isDigit 13 = .ok (.goto 4, 3) := by decide +kernel
theorem dX12_isDigit_16 : decode cX12_isDigit 16 = .ok (.iconst 0, 1) := by decide +kernel
theorem dX12_isDigit_17 : decode cX12_isDigit 17 = .ok (.ireturn, 1) := by decide +kernel
theorem dX12_isKnown_0 : decode cX12_isKnown 0 = .ok (.iload_n 0, 1) := by decide +kernel
theorem dX12_isKnown_1 : decode cX12_isKnown 1 = .ok (.bipush 59, 2) := by decide +kernel
theorem dX12_isKnown_3 : decode cX12_isKnown 3 = .ok (.if_icmp .eq 63, 3) := by decide +kernel
theorem dX12_isKnown_6 : decode cX12_isKnown 6 = .ok (.iload_n 0, 1) := by decide +kernel
theorem dX12_isKnown_7 : decode cX12_isKnown 7 = .ok (.bipush 60, 2) := by decide +kernel
theorem dX12_isKnown_9 : decode cX12_isKnown 9 = .ok (.if_icmp .eq 57, 3) := by decide +kernel
theorem dX12_isKnown_12 : decode cX12_isKnown 12 = .ok (.iload_n 0, 1) := by decide +kernel
theorem dX12_isKnown_13 : decode cX12_isKnown 13 = .ok (.bipush 62, 2) := by decide +kernel
theorem dX12_isKnown_15 : decode cX12_isKnown 15 = .ok (.if_icmp .eq 51, 3) := by decide +kernel
theorem dX12_isKnown_18 : decode cX12_isKnown 18 = .ok (.iload_n 0, 1) := by decide +kernel
theorem dX12_isKnown_19 : decode cX12_isKnown 19 = .ok (.bipush 61, 2) := by decide +kernel
theorem dX12_isKnown_21 : decode cX12_isKnown 21 = .ok (.if_icmp .eq 45, 3) := by decide +kernel
theorem dX12_isKnown_24 : decode cX12_isKnown 24 = .ok (.iload_n 0, 1) := by decide +kernel
theorem dX12_isKnown_25 : decode cX12_isKnown 25 = .ok (.bipush 43, 2) := by decide +kernel
theorem dX12_isKnown_27 : decode cX12_isKnown 27 = .ok (.if_icmp .eq 39, 3) := by decide +kernel
theorem dX12_isKnown_30 : decode cX12_isKnown 30 = .ok (.iload_n 0, 1) := by decide +kernel
theorem dX12_isKnown_31 : decode cX12_isKnown 31 = .ok (.bipush 45, 2) := by decide +kernel
theorem dX12_isKnown_33 : decode cX12_isKnown 33 = .ok (.if_icmp .eq 33, 3) := by decide +kernel
theorem dX12_isKnown_36 : decode cX12_isKnown 36 = .ok (.iload_n 0, 1) := by decide +kernel
theorem dX12_isKnown_37 : decode cX12_isKnown 37 = .ok (.bipush 42, 2) := by decide +kernel
theorem dX12_isKnown_39 : decode cX12_isKnown 39 = .ok (.if_icmp .eq 27, 3) := by decide +kernel
theorem dX12_isKnown_42 : decode cX12_isKnown 42 = .ok (.iload_n 0, 1) := by decide +kernel
theorem dX12_isKnown_43 : decode cX12_isKnown 43 = .ok (.bipush 40, 2) := by decide +kernel
theorem dX12_isKnown_45 : decode cX12_isKnown 45 = .ok (.if_icmp .eq 21, 3) := by decide +kernel
theorem dX12_isKnown_48 : decode cX12_isKnown 48 = .ok (.iload_n 0, 1) := by decide +kernel
theorem dX12_isKnown_49 : decode cX12_isKnown 49 = .ok (.bipush 41, 2) := by decide +kernel
theorem dX12_isKnown_51 : decode cX12_isKnown 51 = .ok (.if_icmp .eq 15, 3) := by decide +kernel
theorem dX12_isKnown_54 : decode cX12_isKnown 54 = .ok (.iload_n 0, 1) := by decide +kernel
theorem dX12_isKnown_55 : decode cX12_isKnown 55 = .ok (.bipush 91, 2) := by decide +kernel
theorem dX12_isKnown_57 : decode cX12_isKnown 57 = .ok (.if_icmp .eq 9, 3) := by decide +kernel
theorem dX12_isKnown_60 : decode cX12_isKnown 60 = .ok (.iload_n 0, 1) := by decide +kernel
theorem dX12_isKnown_61 : decode cX12_isKnown 61 = .ok (.bipush 93, 2) := by decide +kernel
theorem dX12_isKnown_63 : decode cX12_isKnown 63 = .ok (.if_icmp .ne 7, 3) := by decide +kernel
theorem dX12_isKnown_66 : decode cX12_isKnown 66 = .ok (.iconst 1, 1) := by decide +kernel
theorem dX12_isKnown_67 : decode cX12_isKnown 67 = .ok (.goto 4, 3) := by decide +kernel
theorem dX12_isKnown_70 : decode cX12_isKnown 70 = .ok (.iconst 0, 1) := by decide +kernel
theorem dX12_isKnown_71 : decode cX12_isKnown 71 = .ok (.ireturn, 1) := by decide +kernel
theorem dX12_next_0 : decode cX12_next 0 = .ok (.aload_n 0, 1) := by decide +kernel
theorem dX12_next_1 : decode cX12_next 1 = .ok (.getfield 469, 3) := by decide +kernel
theorem dX12_next_4 : decode cX12_next 4 = .ok (.aload_n 0, 1) := by decide +kernel
theorem dX12_next_5 : decode cX12_next 5 = .ok (.getfield 466, 3) := by decide +kernel
theorem dX12_next_8 : decode cX12_next 8 = .ok (.if_icmp .ge 44, 3) := by decide +kernel
theorem dX12_next_11 : decode cX12_next 11 = .ok (.aload_n 0, 1) := by decide +kernel
theorem dX12_next_12 : decode cX12_next 12 = .ok (.getfield 151, 3) := by decide +kernel
theorem dX12_next_15 : decode cX12_next 15 = .ok (.aload_n 0, 1) := by decide +kernel
theorem dX12_next_16 : decode cX12_next 16 = .ok (.getfield 469, 3) := by decide +kernel
theorem dX12_next_19 : decode cX12_next 19 = .ok (.iaload, 1) := by decide +kernel
theorem dX12_next_20 : decode cX12_next 20 = .ok (.bipush 32, 2) := by decide +kernel
theorem dX12_next_22 : decode cX12_next 22 = .ok (.if_icmp .eq 17, 3) := by decide +kernel
theorem dX12_next_25 : decode cX12_next 25 = .ok (.aload_n 0, 1) := by decide +kernel
theorem dX12_next_26 : decode cX12_next 26 = .ok (.getfield 151, 3) := by decide +kernel
theorem dX12_next_29 : decode cX12_next 29 = .ok (.aload_n 0, 1) := by decide +kernel
theorem dX12_next_30 : decode cX12_next 30 = .ok (.getfield 469, 3) := by decide +kernel
theorem dX12_next_33 : decode cX12_next 33 = .ok (.iaload, 1) := by decide +kernel
theorem dX12_next_34 : decode cX12_next 34 = .ok (.bipush 10, 2) := by decide +kernel
theorem dX12_next_36 : decode cX12_next 36 = .ok (.if_icmp .ne 16, 3) := by decide +kernel
theorem dX12_next_39 : decode cX12_next 39 = .ok (.aload_n 0, 1) := by decide +kernel
theorem dX12_next_40 : decode cX12_next 40 = .ok (.dup, 1) := by decide +kernel
theorem dX12_next_41 : decode cX12_next 41 = .ok (.getfield 469, 3) := by decide +kernel
theorem dX12_next_44 : decode cX12_next 44 = .ok (.iconst 1, 1) := by decide +kernel
theorem dX12_next_45 : decode cX12_next 45 = .ok (.iadd, 1) := by decide +kernel
theorem dX12_next_46 : decode cX12_next 46 = .ok (.putfield 469, 3) := by decide +kernel
theorem dX12_next_49 : decode cX12_next 49 = .ok (.goto (-49), 3) := by decide +kernel
theorem dX12_next_52 : decode cX12_next 52 = .ok (.aload_n 0, 1) := by decide +kernel
theorem dX12_next_53 : decode cX12_next 53 = .ok (.aload_n 0, 1) := by decide +kernel
theorem dX12_next_54 : decode cX12_next 54 = .ok (.getfield 469, 3) := by decide +kernel
theorem dX12_next_57 : decode cX12_next 57 = .ok (.putfield 471, 3) := by decide +kernel
theorem dX12_next_60 : decode cX12_next 60 = .ok (.aload_n 0, 1) := by decide +kernel
theorem dX12_next_61 : decode cX12_next 61 = .ok (.getfield 469, 3) := by decide +kernel
theorem dX12_next_64 : decode cX12_next 64 = .ok (.aload_n 0, 1) := by decide +kernel
theorem dX12_next_65 : decode cX12_next 65 = .ok (.getfield 466, 3) := by decide +kernel
theorem dX12_next_68 : decode cX12_next 68 = .ok (.if_icmp .lt 9, 3) := by decide +kernel
theorem dX12_next_71 : decode cX12_next 71 = .ok (.aload_n 0, 1) := by decide +kernel
theorem dX12_next_72 : decode cX12_next 72 = .ok (.iconst 0, 1) := by decide +kernel
theorem dX12_next_73 : decode cX12_next 73 = .ok (.putfield 474, 3) := by decide +kernel
theorem dX12_next_76 : decode cX12_next 76 = .ok (.return_, 1) := by decide +kernel
theorem dX12_next_77 : decode cX12_next 77 = .ok (.aload_n 0, 1) := by decide +kernel
theorem dX12_next_78 : decode cX12_next 78 = .ok (.getfield 151, 3) := by decide +kernel
theorem dX12_next_81 : decode cX12_next 81 = .ok (.aload_n 0, 1) := by decide +kernel
theorem dX12_next_82 : decode cX12_next 82 = .ok (.getfield 469, 3) := by decide +kernel
theorem dX12_next_85 : decode cX12_next 85 = .ok (.iaload, 1) := by decide +kernel
theorem dX12_next_86 : decode cX12_next 86 = .ok (.istore_n 1, 1) := by decide +kernel
theorem dX12_next_87 : decode cX12_next 87 = .ok (.iload_n 1, 1) := by decide +kernel
theorem dX12_next_88 : decode cX12_next 88 = .ok (.invokestatic 477, 3) := by decide +kernel
theorem dX12_next_91 : decode cX12_next 91 = .ok (.ifCond .eq 38, 3) := by decide +kernel
theorem dX12_next_94 : decode cX12_next 94 = .ok (.aload_n 0, 1) := by decide +kernel
theorem dX12_next_95 : decode cX12_next 95 = .ok (.aload_n 0, 1) := by decide +kernel
theorem dX12_next_96 : decode cX12_next 96 = .ok (.getfield 469, 3) := by decide +kernel
theorem dX12_next_99 : decode cX12_next 99 = .ok (.invokevirtual 480, 3) := by decide +kernel
theorem dX12_next_102 : decode cX12_next 102 = .ok (.invokestatic 477, 3) := by decide +kernel
theorem dX12_next_105 : decode cX12_next 105 = .ok (.ifCond .eq 16, 3) := by decide +kernel
theorem dX12_next_108 : decode cX12_next 108 = .ok (.aload_n 0, 1) := by decide +kernel
theorem dX12_next_109 : decode cX12_next 109 = .ok (.dup, 1) := by decide +kernel
theorem dX12_next_110 : decode cX12_next 110 = .ok (.getfield 469, 3) := by decide +kernel
theorem dX12_next_113 : decode cX12_next 113 = .ok (.iconst 1, 1) := by decide +kernel
theorem dX12_next_114 : decode cX12_next 114 = .ok (.iadd, 1) := by decide +kernel
theorem dX12_next_115 : decode cX12_next 115 = .ok (.putfield 469, 3) := by decide +kernel
theorem dX12_next_118 : decode cX12_next 118 = .ok (.goto (-24), 3) := by decide +kernel
theorem dX12_next_121 : decode cX12_next 121 = .ok (.aload_n 0, 1) := by decide +kernel
theorem dX12_next_122 : decode cX12_next 122 = .ok (.iconst 1, 1) := by decide +kernel
theorem dX12_next_123 : decode cX12_next 123 = .ok (.putfield 474, 3) := by decide +kernel
theorem dX12_next_126 : decode cX12_next 126 = .ok (.goto 142, 3) := by decide +kernel
theorem dX12_next_129 : decode cX12_next 129 = .ok (.iload_n 1, 1) := by decide +kernel
theorem dX12_next_130 : decode cX12_next 130 = .ok (.invokestatic 483, 3) := by decide +kernel
theorem dX12_next_133 : decode cX12_next 133 = .ok (.ifCond .eq 104, 3) := by decide +kernel
theorem dX12_next_136 : decode cX12_next 136 = .ok (.aload_n 0, 1) := by decide +kernel
theorem dX12_next_137 : decode cX12_next 137 = .ok (.iconst 0, 1) := by decide +kernel
theorem dX12_next_138 : decode cX12_next 138 = .ok (.putfield 486, 3) := by decide +kernel
theorem dX12_next_141 : decode cX12_next 141 = .ok (.aload_n 0, 1) := by decide +kernel
theorem dX12_next_142 : decode cX12_next 142 = .ok (.aload_n 0, 1) := by decide +kernel
theorem dX12_next_143 : decode cX12_next 143 = .ok (.getfield 469, 3) := by decide +kernel
theorem dX12_next_146 : decode cX12_next 146 = .ok (.invokevirtual 480, 3) := by decide +kernel
theorem dX12_next_149 : decode cX12_next 149 = .ok (.invokestatic 483, 3) := by decide +kernel
theorem dX12_next_152 : decode cX12_next 152 = .ok (.ifCond .eq 60, 3) := by decide +kernel
theorem dX12_next_155 : decode cX12_next 155 = .ok (.aload_n 0, 1) := by decide +kernel
theorem dX12_next_156 : decode cX12_next 156 = .ok (.aload_n 0, 1) := by decide +kernel
theorem dX12_next_157 : decode cX12_next 157 = .ok (.getfield 469, 3) := by decide +kernel
theorem dX12_next_160 : decode cX12_next 160 = .ok (.aload_n 0, 1) := by decide +kernel
theorem dX12_next_161 : decode cX12_next 161 = .ok (.getfield 471, 3) := by decide +kernel
theorem dX12_next_164 : decode cX12_next 164 = .ok (.isub, 1) := by decide +kernel
theorem dX12_next_165 : decode cX12_next 165 = .ok (.iconst 5, 1) := by decide +kernel
theorem dX12_next_166 : decode cX12_next 166 = .ok (.if_icmp .ge 26, 3) := by decide +kernel
theorem dX12_next_169 : decode cX12_next 169 = .ok (.bipush 10, 2) := by decide +kernel
theorem dX12_next_171 : decode cX12_next 171 = .ok (.aload_n 0, 1) := by decide +kernel
theorem dX12_next_172 : decode cX12_next 172 = .ok (.getfield 486, 3) := by decide +kernel
theorem dX12_next_175 : decode cX12_next 175 = .ok (.imul, 1) := by decide +kernel
theorem dX12_next_176 : decode cX12_next 176 = .ok (.aload_n 0, 1) := by decide +kernel
theorem dX12_next_177 : decode cX12_next 177 = .ok (.getfield 151, 3) := by decide +kernel
theorem dX12_next_180 : decode cX12_next 180 = .ok (.aload_n 0, 1) := by decide +kernel
theorem dX12_next_181 : decode cX12_next 181 = .ok (.getfield 469, 3) := by decide +kernel
theorem dX12_next_184 : decode cX12_next 184 = .ok (.iaload, 1) := by decide +kernel
theorem dX12_next_185 : decode cX12_next 185 = .ok (.iadd, 1) := by decide +kernel
theorem dX12_next_186 : decode cX12_next 186 = .ok (.bipush 48, 2) := by decide +kernel
theorem dX12_next_188 : decode cX12_next 188 = .ok (.isub, 1) := by decide +kernel
theorem dX12_next_189 : decode cX12_next 189 = .ok (.goto 7, 3) := by decide +kernel
theorem dX12_next_192 : decode cX12_next 192 = .ok (.aload_n 0, 1) := by decide +kernel
theorem dX12_next_193 : decode cX12_next 193 = .ok (.getfield 486, 3) := by decide +kernel
theorem dX12_next_196 : decode cX12_next 196 = .ok (.putfield 486, 3) := by decide +kernel
theorem dX12_next_199 : decode cX12_next 199 = .ok (.aload_n 0, 1) := by decide +kernel
theorem dX12_next_200 : decode cX12_next 200 = .ok (.dup, 1) := by decide +kernel
theorem dX12_next_201 : decode cX12_next 201 = .ok (.getfield 469, 3) := by decide +kernel
theorem dX12_next_204 : decode cX12_next 204 = .ok (.iconst 1, 1) := by decide +kernel
theorem dX12_next_205 : decode cX12_next 205 = .ok (.iadd, 1) := by decide +kernel
theorem dX12_next_206 : decode cX12_next 206 = .ok (.putfield 469, 3) := by decide +kernel
theorem dX12_next_209 : decode cX12_next 209 = .ok (.goto (-68), 3) := by decide +kernel
theorem dX12_next_212 : decode cX12_next 212 = .ok (.aload_n 0, 1) := by decide +kernel
theorem dX12_next_213 : decode cX12_next 213 = .ok (.aload_n 0, 1) := by decide +kernel
theorem dX12_next_214 : decode cX12_next 214 = .ok (.getfield 469, 3) := by decide +kernel
theorem dX12_next_217 : decode cX12_next 217 = .ok (.aload_n 0, 1) := by decide +kernel
theorem dX12_next_218 : decode cX12_next 218 = .ok (.getfield 471, 3) := by decide +kernel
theorem dX12_next_221 : decode cX12_next 221 = .ok (.isub, 1) := by decide +kernel
theorem dX12_next_222 : decode cX12_next 222 = .ok (.iconst 5, 1) := by decide +kernel
theorem dX12_next_223 : decode cX12_next 223 = .ok (.if_icmp .le 7, 3) := by decide +kernel
theorem dX12_next_226 : decode cX12_next 226 = .ok (.iconst 4, 1) := by decide +kernel
theorem dX12_next_227 : decode cX12_next 227 = .ok (.goto 4, 3) := by decide +kernel
theorem dX12_next_230 : decode cX12_next 230 = .ok (.iconst 2, 1) := by decide +kernel
theorem dX12_next_231 : decode cX12_next 231 = .ok (.putfield 474, 3) := by decide +kernel
theorem dX12_next_234 : decode cX12_next 234 = .ok (.goto 34, 3) := by decide +kernel
theorem dX12_next_237 : decode cX12_next 237 = .ok (.aload_n 0, 1) := by decide +kernel
theorem dX12_next_238 : decode cX12_next 238 = .ok (.iload_n 1, 1) := by decide +kernel
theorem dX12_next_239 : decode cX12_next 239 = .ok (.putfield 486, 3) := by decide +kernel
theorem dX12_next_242 : decode cX12_next 242 = .ok (.aload_n 0, 1) := by decide +kernel
theorem dX12_next_243 : decode cX12_next 243 = .ok (.iload_n 1, 1) := by decide +kernel
theorem dX12_next_244 : decode cX12_next 244 = .ok (.invokestatic 489, 3) := by decide +kernel
theorem dX12_next_247 : decode cX12_next 247 = .ok (.ifCond .eq 7, 3) := by decide +kernel
theorem dX12_next_250 : decode cX12_next 250 = .ok (.iconst 3, 1) := by decide +kernel
theorem dX12_next_251 : decode cX12_next 251 = .ok (.goto 4, 3) := by decide +kernel
theorem dX12_next_254 : decode cX12_next 254 = .ok (.iconst 4, 1) := by decide +kernel
theorem dX12_next_255 : decode cX12_next 255 = .ok (.putfield 474, 3) := by decide +kernel
theorem dX12_next_258 : decode cX12_next 258 = .ok (.aload_n 0, 1) := by decide +kernel
theorem dX12_next_259 : decode cX12_next 259 = .ok (.dup, 1) := by decide +kernel
theorem dX12_next_260 : decode cX12_next 260 = .ok (.getfield 469, 3) := by decide +kernel
theorem dX12_next_263 : decode cX12_next 263 = .ok (.iconst 1, 1) := by decide +kernel
theorem dX12_next_264 : decode cX12_next 264 = .ok (.iadd, 1) := by decide +kernel
theorem dX12_next_265 : decode cX12_next 265 = .ok (.putfield 469, 3) := by decide +kernel
theorem dX12_next_268 : decode cX12_next 268 = .ok (.return_, 1) := by decide +kernel
theorem dX12_wrong_0 : decode cX12_wrong 0 = .ok (.aload_n 0, 1) := by decide +kernel
theorem dX12_wrong_1 : decode cX12_wrong 1 = .ok (.getfield 492, 3) := by decide +kernel
theorem dX12_wrong_4 : decode cX12_wrong 4 = .ok (.ifCond .eq 4, 3) := by decide +kernel
theorem dX12_wrong_7 : decode cX12_wrong 7 = .ok (.return_, 1) := by decide +kernel
theorem dX12_wrong_8 : decode cX12_wrong 8 = .ok (.aload_n 0, 1) := by decide +kernel
theorem dX12_wrong_9 : decode cX12_wrong 9 = .ok (.aload_n 0, 1) := by decide +kernel
theorem dX12_wrong_10 : decode cX12_wrong 10 = .ok (.getfield 474, 3) := by decide +kernel
theorem dX12_wrong_13 : decode cX12_wrong 13 = .ok (.iconst 4, 1) := by decide +kernel
theorem dX12_wrong_14 : decode cX12_wrong 14 = .ok (.if_icmp .ne 7, 3) := by decide +kernel
theorem dX12_wrong_17 : decode cX12_wrong 17 = .ok (.iconst 1, 1) := by decide +kernel
theorem dX12_wrong_18 : decode cX12_wrong 18 = .ok (.goto 4, 3) := by decide +kernel
theorem dX12_wrong_21 : decode cX12_wrong 21 = .ok (.iload_n 1, 1) := by decide +kernel
theorem dX12_wrong_22 : decode cX12_wrong 22 = .ok (.putfield 492, 3) := by decide +kernel
theorem dX12_wrong_25 : decode cX12_wrong 25 = .ok (.aload_n 0, 1) := by decide +kernel
theorem dX12_wrong_26 : decode cX12_wrong 26 = .ok (.aload_n 0, 1) := by decide +kernel
theorem dX12_wrong_27 : decode cX12_wrong 27 = .ok (.getfield 471, 3) := by decide +kernel
theorem dX12_wrong_30 : decode cX12_wrong 30 = .ok (.putfield 495, 3) := by decide +kernel
theorem dX12_wrong_33 : decode cX12_wrong 33 = .ok (.return_, 1) := by decide +kernel
theorem dX12_is_0 : decode cX12_is 0 = .ok (.aload_n 0, 1) := by decide +kernel
theorem dX12_is_1 : decode cX12_is 1 = .ok (.getfield 492, 3) := by decide +kernel
theorem dX12_is_4 : decode cX12_is 4 = .ok (.ifCond .ne 31, 3) := by decide +kernel
theorem dX12_is_7 : decode cX12_is 7 = .ok (.aload_n 0, 1) := by decide +kernel
theorem dX12_is_8 : decode cX12_is 8 = .ok (.getfield 474, 3) := by decide +kernel
theorem dX12_is_11 : decode cX12_is 11 = .ok (.iconst 1, 1) := by decide +kernel
theorem dX12_is_12 : decode cX12_is 12 = .ok (.if_icmp .ne 23, 3) := by decide +kernel
theorem dX12_is_15 : decode cX12_is 15 = .ok (.aload_n 0, 1) := by decide +kernel
theorem dX12_is_16 : decode cX12_is 16 = .ok (.getfield 469, 3) := by decide +kernel
theorem dX12_is_19 : decode cX12_is 19 = .ok (.aload_n 0, 1) := by decide +kernel
theorem dX12_is_20 : decode cX12_is 20 = .ok (.getfield 471, 3) := by decide +kernel
theorem dX12_is_23 : decode cX12_is 23 = .ok (.isub, 1) := by decide +kernel
theorem dX12_is_24 : decode cX12_is 24 = .ok (.aload_n 1, 1) := by decide +kernel
theorem dX12_is_25 : decode cX12_is 25 = .ok (.invokevirtual 498, 3) := by decide +kernel
theorem dX12_is_28 : decode cX12_is 28 = .ok (.if_icmp .ne 7, 3) := by decide +kernel
theorem dX12_is_31 : decode cX12_is 31 = .ok (.iconst 1, 1) := by decide +kernel
theorem dX12_is_32 : decode cX12_is 32 = .ok (.goto 4, 3) := by decide +kernel
theorem dX12_is_35 : decode cX12_is 35 = .ok (.iconst 0, 1) := by decide +kernel
theorem dX12_is_36 : decode cX12_is 36 = .ok (.istore_n 2, 1) := by decide +kernel
theorem dX12_is_37 : decode cX12_is 37 = .ok (.iconst 0, 1) := by decide +kernel
theorem dX12_is_38 : decode cX12_is 38 = .ok (.istore_n 3, 1) := by decide +kernel
theorem dX12_is_39 : decode cX12_is 39 = .ok (.iload_n 2, 1) := by decide +kernel
theorem dX12_is_40 : decode cX12_is 40 = .ok (.ifCond .eq 42, 3) := by decide +kernel
theorem dX12_is_43 : decode cX12_is 43 = .ok (.iload_n 3, 1) := by decide +kernel
theorem dX12_is_44 : decode cX12_is 44 = .ok (.aload_n 1, 1) := by decide +kernel
theorem dX12_is_45 : decode cX12_is 45 = .ok (.invokevirtual 498, 3) := by decide +kernel
theorem dX12_is_48 : decode cX12_is 48 = .ok (.if_icmp .ge 34, 3) := by decide +kernel
theorem dX12_is_51 : decode cX12_is 51 = .ok (.aload_n 0, 1) := by decide +kernel
theorem dX12_is_52 : decode cX12_is 52 = .ok (.getfield 151, 3) := by decide +kernel
theorem dX12_is_55 : decode cX12_is 55 = .ok (.aload_n 0, 1) := by decide +kernel
theorem dX12_is_56 : decode cX12_is 56 = .ok (.getfield 471, 3) := by decide +kernel
theorem dX12_is_59 : decode cX12_is 59 = .ok (.iload_n 3, 1) := by decide +kernel
theorem dX12_is_60 : decode cX12_is 60 = .ok (.iadd, 1) := by decide +kernel
theorem dX12_is_61 : decode cX12_is 61 = .ok (.iaload, 1) := by decide +kernel
theorem dX12_is_62 : decode cX12_is 62 = .ok (.aload_n 1, 1) := by decide +kernel
theorem dX12_is_63 : decode cX12_is 63 = .ok (.iload_n 3, 1) := by decide +kernel
theorem dX12_is_64 : decode cX12_is 64 = .ok (.invokevirtual 503, 3) := by decide +kernel
theorem dX12_is_67 : decode cX12_is 67 = .ok (.if_icmp .ne 7, 3) := by decide +kernel
theorem dX12_is_70 : decode cX12_is 70 = .ok (.iconst 1, 1) := by decide +kernel
theorem dX12_is_71 : decode cX12_is 71 = .ok (.goto 4, 3) := by decide +kernel
theorem dX12_is_74 : decode cX12_is 74 = .ok (.iconst 0, 1) := by decide +kernel
theorem dX12_is_75 : decode cX12_is 75 = .ok (.istore_n 2, 1) := by decide +kernel
theorem dX12_is_76 : decode cX12_is 76 = .ok (.iinc 3 1, 3) := by decide +kernel
theorem dX12_is_79 : decode cX12_is 79 = .ok (.goto (-40), 3) := by decide +kernel
theorem dX12_is_82 : decode cX12_is 82 = .ok (.iload_n 2, 1) := by decide +kernel
theorem dX12_is_83 : decode cX12_is 83 = .ok (.ireturn, 1) := by decide +kernel
theorem dX12_isSign_0 : decode cX12_isSign 0 = .ok (.aload_n 0, 1) := by decide +kernel
theorem dX12_isSign_1 : decode cX12_isSign 1 = .ok (.getfield 492, 3) := by decide +kernel
theorem dX12_isSign_4 : decode cX12_isSign 4 = .ok (.ifCond .ne 23, 3) := by decide +kernel
theorem dX12_isSign_7 : decode cX12_isSign 7 = .ok (.aload_n 0, 1) := by decide +kernel
theorem dX12_isSign_8 : decode cX12_isSign 8 = .ok (.getfield 474, 3) := by decide +kernel
theorem dX12_isSign_11 : decode cX12_isSign 11 = .ok (.iconst 3, 1) := by decide +kernel
theorem dX12_isSign_12 : decode cX12_isSign 12 = .ok (.if_icmp .ne 15, 3) := by decide +kernel
theorem dX12_isSign_15 : decode cX12_isSign 15 = .ok (.aload_n 0, 1) := by decide +kernel
theorem dX12_isSign_16 : decode cX12_isSign 16 = .ok (.getfield 486, 3) := by decide +kernel
theorem dX12_isSign_19 : decode cX12_isSign 19 = .ok (.iload_n 1, 1) := by decide +kernel
theorem dX12_isSign_20 : decode cX12_isSign 20 = .ok (.if_icmp .ne 7, 3) := by decide +kernel
theorem dX12_isSign_23 : decode cX12_isSign 23 = .ok (.iconst 1, 1) := by decide +kernel
theorem dX12_isSign_24 : decode cX12_isSign 24 = .ok (.goto 4, 3) := by decide +kernel
theorem dX12_isSign_27 : decode cX12_isSign 27 = .ok (.iconst 0, 1) := by decide +kernel
theorem dX12_isSign_28 : decode cX12_isSign 28 = .ok (.ireturn, 1) := by decide +kernel
theorem dX12_need_0 : decode cX12_need 0 = .ok (.aload_n 0, 1) := by decide +kernel
theorem dX12_need_1 : decode cX12_need 1 = .ok (.getfield 492, 3) := by decide +kernel
theorem dX12_need_4 : decode cX12_need 4 = .ok (.ifCond .eq 4, 3) := by decide +kernel
theorem dX12_need_7 : decode cX12_need 7 = .ok (.return_, 1) := by decide +kernel
theorem dX12_need_8 : decode cX12_need 8 = .ok (.aload_n 0, 1) := by decide +kernel
theorem dX12_need_9 : decode cX12_need 9 = .ok (.iload_n 1, 1) := by decide +kernel
theorem dX12_need_10 : decode cX12_need 10 = .ok (.invokevirtual 507, 3) := by decide +kernel
theorem dX12_need_13 : decode cX12_need 13 = .ok (.ifCond .eq 10, 3) := by decide +kernel
theorem dX12_need_16 : decode cX12_need 16 = .ok (.aload_n 0, 1) := by decide +kernel
theorem dX12_need_17 : decode cX12_need 17 = .ok (.invokevirtual 510, 3) := by decide +kernel
theorem dX12_need_20 : decode cX12_need 20 = .ok (.goto 8, 3) := by decide +kernel
theorem dX12_need_23 : decode cX12_need 23 = .ok (.aload_n 0, 1) := by decide +kernel
theorem dX12_need_24 : decode cX12_need 24 = .ok (.iconst 2, 1) := by decide +kernel
theorem dX12_need_25 : decode cX12_need 25 = .ok (.invokevirtual 513, 3) := by decide +kernel
theorem dX12_need_28 : decode cX12_need 28 = .ok (.return_, 1) := by decide +kernel
theorem dX12_emit_0 : decode cX12_emit 0 = .ok (.aload_n 0, 1) := by decide +kernel
theorem dX12_emit_1 : decode cX12_emit 1 = .ok (.getfield 492, 3) := by decide +kernel
theorem dX12_emit_4 : decode cX12_emit 4 = .ok (.ifCond .eq 4, 3) := by decide +kernel
theorem dX12_emit_7 : decode cX12_emit 7 = .ok (.return_, 1) := by decide +kernel
theorem dX12_emit_8 : decode cX12_emit 8 = .ok (.aload_n 0, 1) := by decide +kernel
theorem dX12_emit_9 : decode cX12_emit 9 = .ok (.getfield 154, 3) := by decide +kernel
theorem dX12_emit_12 : decode cX12_emit 12 = .ok (.aload_n 0, 1) := by decide +kernel
theorem dX12_emit_13 : decode cX12_emit 13 = .ok (.getfield 516, 3) := by decide +kernel
theorem dX12_emit_16 : decode cX12_emit 16 = .ok (.iload_n 1, 1) := by decide +kernel
theorem dX12_emit_17 : decode cX12_emit 17 = .ok (.iastore, 1) := by decide +kernel
theorem dX12_emit_18 : decode cX12_emit 18 = .ok (.aload_n 0, 1) := by decide +kernel
theorem dX12_emit_19 : decode cX12_emit 19 = .ok (.dup, 1) := by decide +kernel
theorem dX12_emit_20 : decode cX12_emit 20 = .ok (.getfield 516, 3) := by decide +kernel
theorem dX12_emit_23 : decode cX12_emit 23 = .ok (.iconst 1, 1) := by decide +kernel
theorem dX12_emit_24 : decode cX12_emit 24 = .ok (.iadd, 1) := by decide +kernel
theorem dX12_emit_25 : decode cX12_emit 25 = .ok (.putfield 516, 3) := by decide +kernel
theorem dX12_emit_28 : decode cX12_emit 28 = .ok (.return_, 1) := by decide +kernel
theorem dX12_nameNow_0 : decode cX12_nameNow 0 = .ok (.aload_n 0, 1) := by decide +kernel
theorem dX12_nameNow_1 : decode cX12_nameNow 1 = .ok (.ldc_w 519, 3) := by decide +kernel
theorem dX12_nameNow_4 : decode cX12_nameNow 4 = .ok (.invokevirtual 521, 3) := by decide +kernel
theorem dX12_nameNow_7 : decode cX12_nameNow 7 = .ok (.ifCond .eq 7, 3) := by decide +kernel
theorem dX12_nameNow_10 : decode cX12_nameNow 10 = .ok (.iconst 0, 1) := by decide +kernel
theorem dX12_nameNow_11 : decode cX12_nameNow 11 = .ok (.goto 89, 3) := by decide +kernel
theorem dX12_nameNow_14 : decode cX12_nameNow 14 = .ok (.aload_n 0, 1) := by decide +kernel
theorem dX12_nameNow_15 : decode cX12_nameNow 15 = .ok (.ldc_w 525, 3) := by decide +kernel
theorem dX12_nameNow_18 : decode cX12_nameNow 18 = .ok (.invokevirtual 521, 3) := by decide +kernel
theorem dX12_nameNow_21 : decode cX12_nameNow 21 = .ok (.ifCond .eq 7, 3) := by decide +kernel
