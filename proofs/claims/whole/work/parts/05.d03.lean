theorem dX11_write_14 : decode cX11_write 14 = .ok (.iload_n 2, 1) := by decide +kernel
theorem dX11_write_15 : decode cX11_write 15 = .ok (.aload_n 0, 1) := by decide +kernel
theorem dX11_write_16 : decode cX11_write 16 = .ok (.getfield 94, 3) := by decide +kernel
theorem dX11_write_19 : decode cX11_write 19 = .ok (.getfield 509, 3) := by decide +kernel
theorem dX11_write_22 : decode cX11_write 22 = .ok (.iload_n 1, 1) := by decide +kernel
theorem dX11_write_23 : decode cX11_write 23 = .ok (.iaload, 1) := by decide +kernel
theorem dX11_write_24 : decode cX11_write 24 = .ok (.if_icmp .lt 14, 3) := by decide +kernel
theorem dX11_write_27 : decode cX11_write 27 = .ok (.new 511, 3) := by decide +kernel
theorem dX11_write_30 : decode cX11_write 30 = .ok (.dup, 1) := by decide +kernel
theorem dX11_write_31 : decode cX11_write 31 = .ok (.ldc_w 513, 3) := by decide +kernel
theorem dX11_write_34 : decode cX11_write 34 = .ok (.invokespecial 515, 3) := by decide +kernel
theorem dX11_write_37 : decode cX11_write 37 = .ok (.athrow, 1) := by decide +kernel
theorem dX11_write_38 : decode cX11_write 38 = .ok (.aload_n 0, 1) := by decide +kernel
theorem dX11_write_39 : decode cX11_write 39 = .ok (.getfield 94, 3) := by decide +kernel
theorem dX11_write_42 : decode cX11_write 42 = .ok (.iload_n 1, 1) := by decide +kernel
theorem dX11_write_43 : decode cX11_write 43 = .ok (.iload_n 2, 1) := by decide +kernel
theorem dX11_write_44 : decode cX11_write 44 = .ok (.lload_n 3, 1) := by decide +kernel
theorem dX11_write_45 : decode cX11_write 45 = .ok (.invokevirtual 516, 3) := by decide +kernel
theorem dX11_write_48 : decode cX11_write 48 = .ok (.lreturn, 1) := by decide +kernel
theorem dX11_take_0 : decode cX11_take 0 = .ok (.aload_n 0, 1) := by decide +kernel
theorem dX11_take_1 : decode cX11_take 1 = .ok (.iload_n 1, 1) := by decide +kernel
theorem dX11_take_2 : decode cX11_take 2 = .ok (.invokevirtual 497, 3) := by decide +kernel
theorem dX11_take_5 : decode cX11_take 5 = .ok (.aload_n 0, 1) := by decide +kernel
theorem dX11_take_6 : decode cX11_take 6 = .ok (.iload_n 2, 1) := by decide +kernel
theorem dX11_take_7 : decode cX11_take 7 = .ok (.invokevirtual 167, 3) := by decide +kernel
theorem dX11_take_10 : decode cX11_take 10 = .ok (.aload_n 0, 1) := by decide +kernel
theorem dX11_take_11 : decode cX11_take 11 = .ok (.iload_n 1, 1) := by decide +kernel
theorem dX11_take_12 : decode cX11_take 12 = .ok (.invokevirtual 506, 3) := by decide +kernel
theorem dX11_take_15 : decode cX11_take 15 = .ok (.aload_n 0, 1) := by decide +kernel
theorem dX11_take_16 : decode cX11_take 16 = .ok (.getfield 94, 3) := by decide +kernel
theorem dX11_take_19 : decode cX11_take 19 = .ok (.getfield 509, 3) := by decide +kernel
theorem dX11_take_22 : decode cX11_take 22 = .ok (.iload_n 1, 1) := by decide +kernel
theorem dX11_take_23 : decode cX11_take 23 = .ok (.iaload, 1) := by decide +kernel
theorem dX11_take_24 : decode cX11_take 24 = .ok (.aload_n 0, 1) := by decide +kernel
theorem dX11_take_25 : decode cX11_take 25 = .ok (.getfield 10, 3) := by decide +kernel
theorem dX11_take_28 : decode cX11_take 28 = .ok (.getfield 435, 3) := by decide +kernel
theorem dX11_take_31 : decode cX11_take 31 = .ok (.if_icmp .gt 16, 3) := by decide +kernel
theorem dX11_take_34 : decode cX11_take 34 = .ok (.aload_n 0, 1) := by decide +kernel
theorem dX11_take_35 : decode cX11_take 35 = .ok (.getfield 94, 3) := by decide +kernel
theorem dX11_take_38 : decode cX11_take 38 = .ok (.iload_n 1, 1) := by decide +kernel
theorem dX11_take_39 : decode cX11_take 39 = .ok (.iconst 0, 1) := by decide +kernel
theorem dX11_take_40 : decode cX11_take 40 = .ok (.iconst 3, 1) := by decide +kernel
theorem dX11_take_41 : decode cX11_take 41 = .ok (.invokevirtual 519, 3) := by decide +kernel
theorem dX11_take_44 : decode cX11_take 44 = .ok (.ifCond .ne 14, 3) := by decide +kernel
theorem dX11_take_47 : decode cX11_take 47 = .ok (.new 109, 3) := by decide +kernel
theorem dX11_take_50 : decode cX11_take 50 = .ok (.dup, 1) := by decide +kernel
theorem dX11_take_51 : decode cX11_take 51 = .ok (.ldc_w 522, 3) := by decide +kernel
theorem dX11_take_54 : decode cX11_take 54 = .ok (.invokespecial 113, 3) := by decide +kernel
theorem dX11_take_57 : decode cX11_take 57 = .ok (.athrow, 1) := by decide +kernel
theorem dX11_take_58 : decode cX11_take 58 = .ok (.aload_n 0, 1) := by decide +kernel
theorem dX11_take_59 : decode cX11_take 59 = .ok (.getfield 94, 3) := by decide +kernel
theorem dX11_take_62 : decode cX11_take 62 = .ok (.getfield 509, 3) := by decide +kernel
theorem dX11_take_65 : decode cX11_take 65 = .ok (.iload_n 1, 1) := by decide +kernel
theorem dX11_take_66 : decode cX11_take 66 = .ok (.iaload, 1) := by decide +kernel
theorem dX11_take_67 : decode cX11_take 67 = .ok (.istore_n 3, 1) := by decide +kernel
theorem dX11_take_68 : decode cX11_take 68 = .ok (.iconst 0, 1) := by decide +kernel
theorem dX11_take_69 : decode cX11_take 69 = .ok (.istore 4, 2) := by decide +kernel
theorem dX11_take_71 : decode cX11_take 71 = .ok (.iload 4, 2) := by decide +kernel
theorem dX11_take_73 : decode cX11_take 73 = .ok (.iload_n 3, 1) := by decide +kernel
theorem dX11_take_74 : decode cX11_take 74 = .ok (.if_icmp .ge 27, 3) := by decide +kernel
theorem dX11_take_77 : decode cX11_take 77 = .ok (.aload_n 0, 1) := by decide +kernel
theorem dX11_take_78 : decode cX11_take 78 = .ok (.iload_n 2, 1) := by decide +kernel
theorem dX11_take_79 : decode cX11_take 79 = .ok (.iload 4, 2) := by decide +kernel
theorem dX11_take_81 : decode cX11_take 81 = .ok (.aload_n 0, 1) := by decide +kernel
theorem dX11_take_82 : decode cX11_take 82 = .ok (.getfield 94, 3) := by decide +kernel
theorem dX11_take_85 : decode cX11_take 85 = .ok (.iload_n 1, 1) := by decide +kernel
theorem dX11_take_86 : decode cX11_take 86 = .ok (.iload 4, 2) := by decide +kernel
theorem dX11_take_88 : decode cX11_take 88 = .ok (.invokevirtual 524, 3) := by decide +kernel
theorem dX11_take_91 : decode cX11_take 91 = .ok (.l2i, 1) := by decide +kernel
theorem dX11_take_92 : decode cX11_take 92 = .ok (.invokevirtual 180, 3) := by decide +kernel
theorem dX11_take_95 : decode cX11_take 95 = .ok (.iinc 4 1, 3) := by decide +kernel
theorem dX11_take_98 : decode cX11_take 98 = .ok (.goto (-27), 3) := by decide +kernel
theorem dX11_take_101 : decode cX11_take 101 = .ok (.iload_n 3, 1) := by decide +kernel
theorem dX11_take_102 : decode cX11_take 102 = .ok (.ireturn, 1) := by decide +kernel
theorem dX11_check_0 : decode cX11_check 0 = .ok (.aload_n 0, 1) := by decide +kernel
theorem dX11_check_1 : decode cX11_check 1 = .ok (.iload 4, 2) := by decide +kernel
theorem dX11_check_3 : decode cX11_check 3 = .ok (.invokevirtual 497, 3) := by decide +kernel
theorem dX11_check_6 : decode cX11_check 6 = .ok (.aload_n 0, 1) := by decide +kernel
theorem dX11_check_7 : decode cX11_check 7 = .ok (.lload_n 1, 1) := by decide +kernel
theorem dX11_check_8 : decode cX11_check 8 = .ok (.iconst 2, 1) := by decide +kernel
theorem dX11_check_9 : decode cX11_check 9 = .ok (.bipush 9, 2) := by decide +kernel
theorem dX11_check_11 : decode cX11_check 11 = .ok (.invokevirtual 284, 3) := by decide +kernel
theorem dX11_check_14 : decode cX11_check 14 = .ok (.aload_n 0, 1) := by decide +kernel
theorem dX11_check_15 : decode cX11_check 15 = .ok (.getfield 94, 3) := by decide +kernel
theorem dX11_check_18 : decode cX11_check 18 = .ok (.getfield 509, 3) := by decide +kernel
theorem dX11_check_21 : decode cX11_check 21 = .ok (.iload 4, 2) := by decide +kernel
theorem dX11_check_23 : decode cX11_check 23 = .ok (.iaload, 1) := by decide +kernel
theorem dX11_check_24 : decode cX11_check 24 = .ok (.iconst (-1), 1) := by decide +kernel
theorem dX11_check_25 : decode cX11_check 25 = .ok (.if_icmp .ne 6, 3) := by decide +kernel
theorem dX11_check_28 : decode cX11_check 28 = .ok (.bipush (-2), 2) := by decide +kernel
theorem dX11_check_30 : decode cX11_check 30 = .ok (.ireturn, 1) := by decide +kernel
theorem dX11_check_31 : decode cX11_check 31 = .ok (.aload_n 0, 1) := by decide +kernel
theorem dX11_check_32 : decode cX11_check 32 = .ok (.lload_n 1, 1) := by decide +kernel
theorem dX11_check_33 : decode cX11_check 33 = .ok (.aload_n 0, 1) := by decide +kernel
theorem dX11_check_34 : decode cX11_check 34 = .ok (.iload_n 3, 1) := by decide +kernel
theorem dX11_check_35 : decode cX11_check 35 = .ok (.invokevirtual 184, 3) := by decide +kernel
theorem dX11_check_38 : decode cX11_check 38 = .ok (.iload 4, 2) := by decide +kernel
theorem dX11_check_40 : decode cX11_check 40 = .ok (.invokevirtual 527, 3) := by decide +kernel
theorem dX11_check_43 : decode cX11_check 43 = .ok (.ireturn, 1) := by decide +kernel
theorem dX11_number_0 : decode cX11_number 0 = .ok (.iload_n 1, 1) := by decide +kernel
theorem dX11_number_1 : decode cX11_number 1 = .ok (.tableswitch 173 0 12 #[67, 75, 83, 91, 99, 107, 115, 126, 134, 142, 150, 155, 164], 67) := by decide +kernel
theorem dX11_number_68 : decode cX11_number 68 = .ok (.aload_n 0, 1) := by decide +kernel
theorem dX11_number_69 : decode cX11_number 69 = .ok (.getfield 10, 3) := by decide +kernel
theorem dX11_number_72 : decode cX11_number 72 = .ok (.getfield 116, 3) := by decide +kernel
theorem dX11_number_75 : decode cX11_number 75 = .ok (.ireturn, 1) := by decide +kernel
theorem dX11_number_76 : decode cX11_number 76 = .ok (.aload_n 0, 1) := by decide +kernel
theorem dX11_number_77 : decode cX11_number 77 = .ok (.getfield 10, 3) := by decide +kernel
theorem dX11_number_80 : decode cX11_number 80 = .ok (.getfield 531, 3) := by decide +kernel
theorem dX11_number_83 : decode cX11_number 83 = .ok (.ireturn, 1) := by decide +kernel
theorem dX11_number_84 : decode cX11_number 84 = .ok (.aload_n 0, 1) := by decide +kernel
theorem dX11_number_85 : decode cX11_number 85 = .ok (.getfield 10, 3) := by decide +kernel
theorem dX11_number_88 : decode cX11_number 88 = .ok (.getfield 435, 3) := by decide +kernel
theorem dX11_number_91 : decode cX11_number 91 = .ok (.ireturn, 1) := by decide +kernel
theorem dX11_number_92 : decode cX11_number 92 = .ok (.aload_n 0, 1) := by decide +kernel
theorem dX11_number_93 : decode cX11_number 93 = .ok (.getfield 10, 3) := by decide +kernel
theorem dX11_number_96 : decode cX11_number 96 = .ok (.getfield 413, 3) := by decide +kernel
theorem dX11_number_99 : decode cX11_number 99 = .ok (.ireturn, 1) := by decide +kernel
theorem dX11_number_100 : decode cX11_number 100 = .ok (.aload_n 0, 1) := by decide +kernel
theorem dX11_number_101 : decode cX11_number 101 = .ok (.getfield 10, 3) := by decide +kernel
theorem dX11_number_104 : decode cX11_number 104 = .ok (.getfield 487, 3) := by decide +kernel
theorem dX11_number_107 : decode cX11_number 107 = .ok (.ireturn, 1) := by decide +kernel
theorem dX11_number_108 : decode cX11_number 108 = .ok (.aload_n 0, 1) := by decide +kernel
theorem dX11_number_109 : decode cX11_number 109 = .ok (.getfield 21, 3) := by decide +kernel
theorem dX11_number_112 : decode cX11_number 112 = .ok (.getfield 332, 3) := by decide +kernel
theorem dX11_number_115 : decode cX11_number 115 = .ok (.ireturn, 1) := by decide +kernel
theorem dX11_number_116 : decode cX11_number 116 = .ok (.aload_n 0, 1) := by decide +kernel
theorem dX11_number_117 : decode cX11_number 117 = .ok (.getfield 21, 3) := by decide +kernel
theorem dX11_number_120 : decode cX11_number 120 = .ok (.invokevirtual 328, 3) := by decide +kernel
theorem dX11_number_123 : decode cX11_number 123 = .ok (.invokestatic 422, 3) := by decide +kernel
theorem dX11_number_126 : decode cX11_number 126 = .ok (.ireturn, 1) := by decide +kernel
theorem dX11_number_127 : decode cX11_number 127 = .ok (.aload_n 0, 1) := by decide +kernel
theorem dX11_number_128 : decode cX11_number 128 = .ok (.getfield 28, 3) := by decide +kernel
theorem dX11_number_131 : decode cX11_number 131 = .ok (.getfield 226, 3) := by decide +kernel
theorem dX11_number_134 : decode cX11_number 134 = .ok (.ireturn, 1) := by decide +kernel
theorem dX11_number_135 : decode cX11_number 135 = .ok (.aload_n 0, 1) := by decide +kernel
theorem dX11_number_136 : decode cX11_number 136 = .ok (.getfield 73, 3) := by decide +kernel
theorem dX11_number_139 : decode cX11_number 139 = .ok (.getfield 370, 3) := by decide +kernel
theorem dX11_number_142 : decode cX11_number 142 = .ok (.ireturn, 1) := by decide +kernel
theorem dX11_number_143 : decode cX11_number 143 = .ok (.aload_n 0, 1) := by decide +kernel
theorem dX11_number_144 : decode cX11_number 144 = .ok (.getfield 80, 3) := by decide +kernel
theorem dX11_number_147 : decode cX11_number 147 = .ok (.getfield 478, 3) := by decide +kernel
theorem dX11_number_150 : decode cX11_number 150 = .ok (.ireturn, 1) := by decide +kernel
theorem dX11_number_151 : decode cX11_number 151 = .ok (.aload_n 0, 1) := by decide +kernel
theorem dX11_number_152 : decode cX11_number 152 = .ok (.getfield 102, 3) := by decide +kernel
theorem dX11_number_155 : decode cX11_number 155 = .ok (.ireturn, 1) := by decide +kernel
theorem dX11_number_156 : decode cX11_number 156 = .ok (.aload_n 0, 1) := by decide +kernel
theorem dX11_number_157 : decode cX11_number 157 = .ok (.getfield 21, 3) := by decide +kernel
theorem dX11_number_160 : decode cX11_number 160 = .ok (.iconst 1, 1) := by decide +kernel
theorem dX11_number_161 : decode cX11_number 161 = .ok (.invokevirtual 534, 3) := by decide +kernel
theorem dX11_number_164 : decode cX11_number 164 = .ok (.ireturn, 1) := by decide +kernel
theorem dX11_number_165 : decode cX11_number 165 = .ok (.aload_n 0, 1) := by decide +kernel
theorem dX11_number_166 : decode cX11_number 166 = .ok (.getfield 21, 3) := by decide +kernel
theorem dX11_number_169 : decode cX11_number 169 = .ok (.iconst 0, 1) := by decide +kernel
theorem dX11_number_170 : decode cX11_number 170 = .ok (.invokevirtual 534, 3) := by decide +kernel
theorem dX11_number_173 : decode cX11_number 173 = .ok (.ireturn, 1) := by decide +kernel
theorem dX11_number_174 : decode cX11_number 174 = .ok (.iconst (-1), 1) := by decide +kernel
theorem dX11_number_175 : decode cX11_number 175 = .ok (.ireturn, 1) := by decide +kernel
theorem dX11_needPlace_0 : decode cX11_needPlace 0 = .ok (.iload_n 1, 1) := by decide +kernel
theorem dX11_needPlace_1 : decode cX11_needPlace 1 = .ok (.ifCond .lt 14, 3) := by decide +kernel
theorem dX11_needPlace_4 : decode cX11_needPlace 4 = .ok (.iload_n 1, 1) := by decide +kernel
theorem dX11_needPlace_5 : decode cX11_needPlace 5 = .ok (.aload_n 0, 1) := by decide +kernel
theorem dX11_needPlace_6 : decode cX11_needPlace 6 = .ok (.getfield 10, 3) := by decide +kernel
theorem dX11_needPlace_9 : decode cX11_needPlace 9 = .ok (.getfield 531, 3) := by decide +kernel
theorem dX11_needPlace_12 : decode cX11_needPlace 12 = .ok (.if_icmp .lt 14, 3) := by decide +kernel
theorem dX11_needPlace_15 : decode cX11_needPlace 15 = .ok (.new 373, 3) := by decide +kernel
theorem dX11_needPlace_18 : decode cX11_needPlace 18 = .ok (.dup, 1) := by decide +kernel
theorem dX11_needPlace_19 : decode cX11_needPlace 19 = .ok (.ldc_w 538, 3) := by decide +kernel
theorem dX11_needPlace_22 : decode cX11_needPlace 22 = .ok (.invokespecial 377, 3) := by decide +kernel
theorem dX11_needPlace_25 : decode cX11_needPlace 25 = .ok (.athrow, 1) := by decide +kernel
theorem dX11_needPlace_26 : decode cX11_needPlace 26 = .ok (.return_, 1) := by decide +kernel
theorem dX11_needMark_0 : decode cX11_needMark 0 = .ok (.iload_n 1, 1) := by decide +kernel
theorem dX11_needMark_1 : decode cX11_needMark 1 = .ok (.ifCond .lt 14, 3) := by decide +kernel
theorem dX11_needMark_4 : decode cX11_needMark 4 = .ok (.iload_n 1, 1) := by decide +kernel
theorem dX11_needMark_5 : decode cX11_needMark 5 = .ok (.aload_n 0, 1) := by decide +kernel
theorem dX11_needMark_6 : decode cX11_needMark 6 = .ok (.getfield 10, 3) := by decide +kernel
theorem dX11_needMark_9 : decode cX11_needMark 9 = .ok (.getfield 435, 3) := by decide +kernel
theorem dX11_needMark_12 : decode cX11_needMark 12 = .ok (.if_icmp .lt 14, 3) := by decide +kernel
theorem dX11_needMark_15 : decode cX11_needMark 15 = .ok (.new 373, 3) := by decide +kernel
theorem dX11_needMark_18 : decode cX11_needMark 18 = .ok (.dup, 1) := by decide +kernel
theorem dX11_needMark_19 : decode cX11_needMark 19 = .ok (.ldc_w 540, 3) := by decide +kernel
theorem dX11_needMark_22 : decode cX11_needMark 22 = .ok (.invokespecial 377, 3) := by decide +kernel
theorem dX11_needMark_25 : decode cX11_needMark 25 = .ok (.athrow, 1) := by decide +kernel
theorem dX11_needMark_26 : decode cX11_needMark 26 = .ok (.return_, 1) := by decide +kernel
theorem dX11_needHand_0 : decode cX11_needHand 0 = .ok (.iload_n 1, 1) := by decide +kernel
theorem dX11_needHand_1 : decode cX11_needHand 1 = .ok (.ifCond .lt 14, 3) := by decide +kernel
theorem dX11_needHand_4 : decode cX11_needHand 4 = .ok (.iload_n 1, 1) := by decide +kernel
theorem dX11_needHand_5 : decode cX11_needHand 5 = .ok (.aload_n 0, 1) := by decide +kernel
theorem dX11_needHand_6 : decode cX11_needHand 6 = .ok (.getfield 10, 3) := by decide +kernel
theorem dX11_needHand_9 : decode cX11_needHand 9 = .ok (.getfield 413, 3) := by decide +kernel
theorem dX11_needHand_12 : decode cX11_needHand 12 = .ok (.if_icmp .lt 14, 3) := by decide +kernel
theorem dX11_needHand_15 : decode cX11_needHand 15 = .ok (.new 373, 3) := by decide +kernel
theorem dX11_needHand_18 : decode cX11_needHand 18 = .ok (.dup, 1) := by decide +kernel
theorem dX11_needHand_19 : decode cX11_needHand 19 = .ok (.ldc_w 542, 3) := by decide +kernel
theorem dX11_needHand_22 : decode cX11_needHand 22 = .ok (.invokespecial 377, 3) := by decide +kernel
theorem dX11_needHand_25 : decode cX11_needHand 25 = .ok (.athrow, 1) := by decide +kernel
theorem dX11_needHand_26 : decode cX11_needHand 26 = .ok (.return_, 1) := by decide +kernel
theorem dX11_needOfficer_0 : decode cX11_needOfficer 0 = .ok (.iload_n 1, 1) := by decide +kernel
theorem dX11_needOfficer_1 : decode cX11_needOfficer 1 = .ok (.ifCond .lt 14, 3) := by decide +kernel
theorem dX11_needOfficer_4 : decode cX11_needOfficer 4 = .ok (.iload_n 1, 1) := by decide +kernel
theorem dX11_needOfficer_5 : decode cX11_needOfficer 5 = .ok (.aload_n 0, 1) := by decide +kernel
theorem dX11_needOfficer_6 : decode cX11_needOfficer 6 = .ok (.getfield 10, 3) := by decide +kernel
theorem dX11_needOfficer_9 : decode cX11_needOfficer 9 = .ok (.getfield 487, 3) := by decide +kernel
theorem dX11_needOfficer_12 : decode cX11_needOfficer 12 = .ok (.if_icmp .lt 14, 3) := by decide +kernel
theorem dX11_needOfficer_15 : decode cX11_needOfficer 15 = .ok (.new 373, 3) := by decide +kernel
theorem dX11_needOfficer_18 : decode cX11_needOfficer 18 = .ok (.dup, 1) := by decide +kernel
theorem dX11_needOfficer_19 : decode cX11_needOfficer 19 = .ok (.ldc_w 544, 3) := by decide +kernel
theorem dX11_needOfficer_22 : decode cX11_needOfficer 22 = .ok (.invokespecial 377, 3) := by decide +kernel
theorem dX11_needOfficer_25 : decode cX11_needOfficer 25 = .ok (.athrow, 1) := by decide +kernel
theorem dX11_needOfficer_26 : decode cX11_needOfficer 26 = .ok (.return_, 1) := by decide +kernel
theorem dX11_needDeed_0 : decode cX11_needDeed 0 = .ok (.aload_n 0, 1) := by decide +kernel
theorem dX11_needDeed_1 : decode cX11_needDeed 1 = .ok (.iload_n 1, 1) := by decide +kernel
theorem dX11_needDeed_2 : decode cX11_needDeed 2 = .ok (.invokevirtual 490, 3) := by decide +kernel
theorem dX11_needDeed_5 : decode cX11_needDeed 5 = .ok (.ifCond .ne 14, 3) := by decide +kernel
theorem dX11_needDeed_8 : decode cX11_needDeed 8 = .ok (.new 373, 3) := by decide +kernel
theorem dX11_needDeed_11 : decode cX11_needDeed 11 = .ok (.dup, 1) := by decide +kernel
theorem dX11_needDeed_12 : decode cX11_needDeed 12 = .ok (.ldc_w 546, 3) := by decide +kernel
theorem dX11_needDeed_15 : decode cX11_needDeed 15 = .ok (.invokespecial 377, 3) := by decide +kernel
theorem dX11_needDeed_18 : decode cX11_needDeed 18 = .ok (.athrow, 1) := by decide +kernel
theorem dX11_needDeed_19 : decode cX11_needDeed 19 = .ok (.return_, 1) := by decide +kernel
theorem dX11_needTwo_0 : decode cX11_needTwo 0 = .ok (.aload_n 0, 1) := by decide +kernel
theorem dX11_needTwo_1 : decode cX11_needTwo 1 = .ok (.iload_n 1, 1) := by decide +kernel
theorem dX11_needTwo_2 : decode cX11_needTwo 2 = .ok (.invokevirtual 167, 3) := by decide +kernel
theorem dX11_needTwo_5 : decode cX11_needTwo 5 = .ok (.aload_n 0, 1) := by decide +kernel
theorem dX11_needTwo_6 : decode cX11_needTwo 6 = .ok (.iload_n 2, 1) := by decide +kernel
theorem dX11_needTwo_7 : decode cX11_needTwo 7 = .ok (.invokevirtual 167, 3) := by decide +kernel
theorem dX11_needTwo_10 : decode cX11_needTwo 10 = .ok (.iload_n 1, 1) := by decide +kernel
theorem dX11_needTwo_11 : decode cX11_needTwo 11 = .ok (.iload_n 2, 1) := by decide +kernel
theorem dX11_needTwo_12 : decode cX11_needTwo 12 = .ok (.if_icmp .ne 14, 3) := by decide +kernel
theorem dX11_needTwo_15 : decode cX11_needTwo 15 = .ok (.new 109, 3) := by decide +kernel
theorem dX11_needTwo_18 : decode cX11_needTwo 18 = .ok (.dup, 1) := by decide +kernel
theorem dX11_needTwo_19 : decode cX11_needTwo 19 = .ok (.ldc_w 278, 3) := by decide +kernel
theorem dX11_needTwo_22 : decode cX11_needTwo 22 = .ok (.invokespecial 113, 3) := by decide +kernel
theorem dX11_needTwo_25 : decode cX11_needTwo 25 = .ok (.athrow, 1) := by decide +kernel
theorem dX11_needTwo_26 : decode cX11_needTwo 26 = .ok (.return_, 1) := by decide +kernel
theorem dX11_needUndoubted_0 : decode cX11_needUndoubted 0 = .ok (.aload_n 0, 1) := by decide +kernel
theorem dX11_needUndoubted_1 : decode cX11_needUndoubted 1 = .ok (.getfield 21, 3) := by decide +kernel
theorem dX11_needUndoubted_4 : decode cX11_needUndoubted 4 = .ok (.getfield 188, 3) := by decide +kernel
theorem dX11_needUndoubted_7 : decode cX11_needUndoubted 7 = .ok (.iload_n 1, 1) := by decide +kernel
theorem dX11_needUndoubted_8 : decode cX11_needUndoubted 8 = .ok (.invokestatic 192, 3) := by decide +kernel
theorem dX11_needUndoubted_11 : decode cX11_needUndoubted 11 = .ok (.ifCond .eq 14, 3) := by decide +kernel
theorem dX11_needUndoubted_14 : decode cX11_needUndoubted 14 = .ok (.new 120, 3) := by decide +kernel
theorem dX11_needUndoubted_17 : decode cX11_needUndoubted 17 = .ok (.dup, 1) := by decide +kernel
theorem dX11_needUndoubted_18 : decode cX11_needUndoubted 18 = .ok (.ldc_w 548, 3) := by decide +kernel
theorem dX11_needUndoubted_21 : decode cX11_needUndoubted 21 = .ok (.invokespecial 124, 3) := by decide +kernel
theorem dX11_needUndoubted_24 : decode cX11_needUndoubted 24 = .ok (.athrow, 1) := by decide +kernel
theorem dX11_needUndoubted_25 : decode cX11_needUndoubted 25 = .ok (.return_, 1) := by decide +kernel
theorem dX11_needSet_0 : decode cX11_needSet 0 = .ok (.lload_n 1, 1) := by decide +kernel
theorem dX11_needSet_1 : decode cX11_needSet 1 = .ok (.aload_n 0, 1) := by decide +kernel
theorem dX11_needSet_2 : decode cX11_needSet 2 = .ok (.getfield 21, 3) := by decide +kernel
theorem dX11_needSet_5 : decode cX11_needSet 5 = .ok (.invokevirtual 328, 3) := by decide +kernel
theorem dX11_needSet_8 : decode cX11_needSet 8 = .ok (.ldc2_w 200, 3) := by decide +kernel
theorem dX11_needSet_11 : decode cX11_needSet 11 = .ok (.lxor, 1) := by decide +kernel
theorem dX11_needSet_12 : decode cX11_needSet 12 = .ok (.land, 1) := by decide +kernel
theorem dX11_needSet_13 : decode cX11_needSet 13 = .ok (.lconst 0, 1) := by decide +kernel
theorem dX11_needSet_14 : decode cX11_needSet 14 = .ok (.lcmp, 1) := by decide +kernel
theorem dX11_needSet_15 : decode cX11_needSet 15 = .ok (.ifCond .ne 19, 3) := by decide +kernel
theorem dX11_needSet_18 : decode cX11_needSet 18 = .ok (.lload_n 1, 1) := by decide +kernel
theorem dX11_needSet_19 : decode cX11_needSet 19 = .ok (.invokestatic 422, 3) := by decide +kernel
theorem dX11_needSet_22 : decode cX11_needSet 22 = .ok (.i2l, 1) := by decide +kernel
theorem dX11_needSet_23 : decode cX11_needSet 23 = .ok (.iload_n 3, 1) := by decide +kernel
theorem dX11_needSet_24 : decode cX11_needSet 24 = .ok (.i2l, 1) := by decide +kernel
theorem dX11_needSet_25 : decode cX11_needSet 25 = .ok (.iload 4, 2) := by decide +kernel
theorem dX11_needSet_27 : decode cX11_needSet 27 = .ok (.i2l, 1) := by decide +kernel
theorem dX11_needSet_28 : decode cX11_needSet 28 = .ok (.invokestatic 131, 3) := by decide +kernel
theorem dX11_needSet_31 : decode cX11_needSet 31 = .ok (.ifCond .ne 14, 3) := by decide +kernel
theorem dX11_needSet_34 : decode cX11_needSet 34 = .ok (.new 109, 3) := by decide +kernel
theorem dX11_needSet_37 : decode cX11_needSet 37 = .ok (.dup, 1) := by decide +kernel
theorem dX11_needSet_38 : decode cX11_needSet 38 = .ok (.ldc_w 550, 3) := by decide +kernel
theorem dX11_needSet_41 : decode cX11_needSet 41 = .ok (.invokespecial 113, 3) := by decide +kernel
theorem dX11_needSet_44 : decode cX11_needSet 44 = .ok (.athrow, 1) := by decide +kernel
theorem dX11_needSet_45 : decode cX11_needSet 45 = .ok (.return_, 1) := by decide +kernel
theorem dX11_needBelow_0 : decode cX11_needBelow 0 = .ok (.iload_n 1, 1) := by decide +kernel
theorem dX11_needBelow_1 : decode cX11_needBelow 1 = .ok (.i2l, 1) := by decide +kernel
theorem dX11_needBelow_2 : decode cX11_needBelow 2 = .ok (.lconst 0, 1) := by decide +kernel
theorem dX11_needBelow_3 : decode cX11_needBelow 3 = .ok (.ldc2_w 552, 3) := by decide +kernel
theorem dX11_needBelow_6 : decode cX11_needBelow 6 = .ok (.invokestatic 131, 3) := by decide +kernel
theorem dX11_needBelow_9 : decode cX11_needBelow 9 = .ok (.ifCond .ne 14, 3) := by decide +kernel
theorem dX11_needBelow_12 : decode cX11_needBelow 12 = .ok (.new 109, 3) := by decide +kernel
theorem dX11_needBelow_15 : decode cX11_needBelow 15 = .ok (.dup, 1) := by decide +kernel
theorem dX11_needBelow_16 : decode cX11_needBelow 16 = .ok (.ldc_w 554, 3) := by decide +kernel
theorem dX11_needBelow_19 : decode cX11_needBelow 19 = .ok (.invokespecial 113, 3) := by decide +kernel
theorem dX11_needBelow_22 : decode cX11_needBelow 22 = .ok (.athrow, 1) := by decide +kernel
theorem dX11_needBelow_23 : decode cX11_needBelow 23 = .ok (.return_, 1) := by decide +kernel
theorem dX11_needSoon_0 : decode cX11_needSoon 0 = .ok (.iload_n 1, 1) := by decide +kernel
theorem dX11_needSoon_1 : decode cX11_needSoon 1 = .ok (.i2l, 1) := by decide +kernel
theorem dX11_needSoon_2 : decode cX11_needSoon 2 = .ok (.lconst 0, 1) := by decide +kernel
theorem dX11_needSoon_3 : decode cX11_needSoon 3 = .ok (.ldc2_w 173, 3) := by decide +kernel
theorem dX11_needSoon_6 : decode cX11_needSoon 6 = .ok (.invokestatic 131, 3) := by decide +kernel
theorem dX11_needSoon_9 : decode cX11_needSoon 9 = .ok (.ifCond .ne 14, 3) := by decide +kernel
theorem dX11_needSoon_12 : decode cX11_needSoon 12 = .ok (.new 109, 3) := by decide +kernel
theorem dX11_needSoon_15 : decode cX11_needSoon 15 = .ok (.dup, 1) := by decide +kernel
theorem dX11_needSoon_16 : decode cX11_needSoon 16 = .ok (.ldc_w 556, 3) := by decide +kernel
theorem dX11_needSoon_19 : decode cX11_needSoon 19 = .ok (.invokespecial 113, 3) := by decide +kernel
theorem dX11_needSoon_22 : decode cX11_needSoon 22 = .ok (.athrow, 1) := by decide +kernel
theorem dX11_needSoon_23 : decode cX11_needSoon 23 = .ok (.return_, 1) := by decide +kernel
theorem dX11_needMap_0 : decode cX11_needMap 0 = .ok (.aload_n 0, 1) := by decide +kernel
theorem dX11_needMap_1 : decode cX11_needMap 1 = .ok (.iload_n 1, 1) := by decide +kernel
theorem dX11_needMap_2 : decode cX11_needMap 2 = .ok (.invokevirtual 167, 3) := by decide +kernel
theorem dX11_needMap_5 : decode cX11_needMap 5 = .ok (.aload_n 0, 1) := by decide +kernel
theorem dX11_needMap_6 : decode cX11_needMap 6 = .ok (.iload_n 2, 1) := by decide +kernel
theorem dX11_needMap_7 : decode cX11_needMap 7 = .ok (.invokevirtual 341, 3) := by decide +kernel
theorem dX11_needMap_10 : decode cX11_needMap 10 = .ok (.iload_n 3, 1) := by decide +kernel
theorem dX11_needMap_11 : decode cX11_needMap 11 = .ok (.i2l, 1) := by decide +kernel
theorem dX11_needMap_12 : decode cX11_needMap 12 = .ok (.lconst 1, 1) := by decide +kernel
theorem dX11_needMap_13 : decode cX11_needMap 13 = .ok (.ldc2_w 558, 3) := by decide +kernel
theorem dX11_needMap_16 : decode cX11_needMap 16 = .ok (.invokestatic 131, 3) := by decide +kernel
theorem dX11_needMap_19 : decode cX11_needMap 19 = .ok (.ifCond .ne 14, 3) := by decide +kernel
theorem dX11_needMap_22 : decode cX11_needMap 22 = .ok (.new 109, 3) := by decide +kernel
theorem dX11_needMap_25 : decode cX11_needMap 25 = .ok (.dup, 1) := by decide +kernel
theorem dX11_needMap_26 : decode cX11_needMap 26 = .ok (.ldc_w 560, 3) := by decide +kernel
theorem dX11_needMap_29 : decode cX11_needMap 29 = .ok (.invokespecial 113, 3) := by decide +kernel
theorem dX11_needMap_32 : decode cX11_needMap 32 = .ok (.athrow, 1) := by decide +kernel
theorem dX11_needMap_33 : decode cX11_needMap 33 = .ok (.return_, 1) := by decide +kernel
theorem dX11_needTray_0 : decode cX11_needTray 0 = .ok (.iload_n 1, 1) := by decide +kernel
theorem dX11_needTray_1 : decode cX11_needTray 1 = .ok (.ifCond .lt 8, 3) := by decide +kernel
theorem dX11_needTray_4 : decode cX11_needTray 4 = .ok (.iload_n 1, 1) := by decide +kernel
theorem dX11_needTray_5 : decode cX11_needTray 5 = .ok (.iconst 4, 1) := by decide +kernel
theorem dX11_needTray_6 : decode cX11_needTray 6 = .ok (.if_icmp .lt 14, 3) := by decide +kernel
theorem dX11_needTray_9 : decode cX11_needTray 9 = .ok (.new 373, 3) := by decide +kernel
theorem dX11_needTray_12 : decode cX11_needTray 12 = .ok (.dup, 1) := by decide +kernel
theorem dX11_needTray_13 : decode cX11_needTray 13 = .ok (.ldc_w 562, 3) := by decide +kernel
theorem dX11_needTray_16 : decode cX11_needTray 16 = .ok (.invokespecial 377, 3) := by decide +kernel
theorem dX11_needTray_19 : decode cX11_needTray 19 = .ok (.athrow, 1) := by decide +kernel
theorem dX11_needTray_20 : decode cX11_needTray 20 = .ok (.return_, 1) := by decide +kernel
theorem dX11_needLaid_0 : decode cX11_needLaid 0 = .ok (.aload_n 0, 1) := by decide +kernel
theorem dX11_needLaid_1 : decode cX11_needLaid 1 = .ok (.getfield 94, 3) := by decide +kernel
theorem dX11_needLaid_4 : decode cX11_needLaid 4 = .ok (.getfield 509, 3) := by decide +kernel
theorem dX11_needLaid_7 : decode cX11_needLaid 7 = .ok (.iload_n 1, 1) := by decide +kernel
theorem dX11_needLaid_8 : decode cX11_needLaid 8 = .ok (.iaload, 1) := by decide +kernel
theorem dX11_needLaid_9 : decode cX11_needLaid 9 = .ok (.iconst (-1), 1) := by decide +kernel
theorem dX11_needLaid_10 : decode cX11_needLaid 10 = .ok (.if_icmp .ne 14, 3) := by decide +kernel
theorem dX11_needLaid_13 : decode cX11_needLaid 13 = .ok (.new 120, 3) := by decide +kernel
theorem dX11_needLaid_16 : decode cX11_needLaid 16 = .ok (.dup, 1) := by decide +kernel
theorem dX11_needLaid_17 : decode cX11_needLaid 17 = .ok (.ldc_w 564, 3) := by decide +kernel
theorem dX11_needLaid_20 : decode cX11_needLaid 20 = .ok (.invokespecial 124, 3) := by decide +kernel
theorem dX11_needLaid_23 : decode cX11_needLaid 23 = .ok (.athrow, 1) := by decide +kernel
theorem dX11_needLaid_24 : decode cX11_needLaid 24 = .ok (.return_, 1) := by decide +kernel
theorem dX11_isDeed_0 : decode cX11_isDeed 0 = .ok (.iload_n 1, 1) := by decide +kernel
theorem dX11_isDeed_1 : decode cX11_isDeed 1 = .ok (.ifCond .lt 32, 3) := by decide +kernel
theorem dX11_isDeed_4 : decode cX11_isDeed 4 = .ok (.iload_n 1, 1) := by decide +kernel
theorem dX11_isDeed_5 : decode cX11_isDeed 5 = .ok (.aload_n 0, 1) := by decide +kernel
theorem dX11_isDeed_6 : decode cX11_isDeed 6 = .ok (.getfield 21, 3) := by decide +kernel
theorem dX11_isDeed_9 : decode cX11_isDeed 9 = .ok (.getfield 332, 3) := by decide +kernel
theorem dX11_isDeed_12 : decode cX11_isDeed 12 = .ok (.if_icmp .ge 21, 3) := by decide +kernel
theorem dX11_isDeed_15 : decode cX11_isDeed 15 = .ok (.aload_n 0, 1) := by decide +kernel
theorem dX11_isDeed_16 : decode cX11_isDeed 16 = .ok (.getfield 21, 3) := by decide +kernel
theorem dX11_isDeed_19 : decode cX11_isDeed 19 = .ok (.getfield 566, 3) := by decide +kernel
theorem dX11_isDeed_22 : decode cX11_isDeed 22 = .ok (.iload_n 1, 1) := by decide +kernel
theorem dX11_isDeed_23 : decode cX11_isDeed 23 = .ok (.invokestatic 192, 3) := by decide +kernel
theorem dX11_isDeed_26 : decode cX11_isDeed 26 = .ok (.ifCond .ne 7, 3) := by decide +kernel
theorem dX11_isDeed_29 : decode cX11_isDeed 29 = .ok (.iconst 1, 1) := by decide +kernel
theorem dX11_isDeed_30 : decode cX11_isDeed 30 = .ok (.goto 4, 3) := by decide +kernel
theorem dX11_isDeed_33 : decode cX11_isDeed 33 = .ok (.iconst 0, 1) := by decide +kernel
theorem dX11_isDeed_34 : decode cX11_isDeed 34 = .ok (.ireturn, 1) := by decide +kernel
theorem dX11_sheet_0 : decode cX11_sheet 0 = .ok (.iload_n 1, 1) := by decide +kernel
theorem dX11_sheet_1 : decode cX11_sheet 1 = .ok (.ifCond .eq 10, 3) := by decide +kernel
theorem dX11_sheet_4 : decode cX11_sheet 4 = .ok (.aload_n 0, 1) := by decide +kernel
theorem dX11_sheet_5 : decode cX11_sheet 5 = .ok (.getfield 35, 3) := by decide +kernel
theorem dX11_sheet_8 : decode cX11_sheet 8 = .ok (.goto 7, 3) := by decide +kernel
theorem dX11_sheet_11 : decode cX11_sheet 11 = .ok (.aload_n 0, 1) := by decide +kernel
theorem dX11_sheet_12 : decode cX11_sheet 12 = .ok (.getfield 39, 3) := by decide +kernel
theorem dX11_sheet_15 : decode cX11_sheet 15 = .ok (.areturn, 1) := by decide +kernel
theorem dX11_note_0 : decode cX11_note 0 = .ok (.aload_n 0, 1) := by decide +kernel
theorem dX11_note_1 : decode cX11_note 1 = .ok (.getfield 35, 3) := by decide +kernel
theorem dX11_note_4 : decode cX11_note 4 = .ok (.iload_n 1, 1) := by decide +kernel
theorem dX11_note_5 : decode cX11_note 5 = .ok (.iload_n 2, 1) := by decide +kernel
theorem dX11_note_6 : decode cX11_note 6 = .ok (.iload_n 3, 1) := by decide +kernel
theorem dX11_note_7 : decode cX11_note 7 = .ok (.invokevirtual 442, 3) := by decide +kernel
theorem dX11_note_10 : decode cX11_note 10 = .ok (.aload_n 0, 1) := by decide +kernel
theorem dX11_note_11 : decode cX11_note 11 = .ok (.getfield 28, 3) := by decide +kernel
theorem dX11_note_14 : decode cX11_note 14 = .ok (.iload_n 1, 1) := by decide +kernel
theorem dX11_note_15 : decode cX11_note 15 = .ok (.invokevirtual 569, 3) := by decide +kernel
theorem dX11_note_18 : decode cX11_note 18 = .ok (.ifCond .ne 13, 3) := by decide +kernel
theorem dX11_note_21 : decode cX11_note 21 = .ok (.aload_n 0, 1) := by decide +kernel
theorem dX11_note_22 : decode cX11_note 22 = .ok (.getfield 39, 3) := by decide +kernel
theorem dX11_note_25 : decode cX11_note 25 = .ok (.iload_n 1, 1) := by decide +kernel
theorem dX11_note_26 : decode cX11_note 26 = .ok (.iload_n 2, 1) := by decide +kernel
theorem dX11_note_27 : decode cX11_note 27 = .ok (.iload_n 3, 1) := by decide +kernel
theorem dX11_note_28 : decode cX11_note 28 = .ok (.invokevirtual 442, 3) := by decide +kernel
theorem dX11_note_31 : decode cX11_note 31 = .ok (.return_, 1) := by decide +kernel
theorem dX11_drop_0 : decode cX11_drop 0 = .ok (.aload_n 0, 1) := by decide +kernel
theorem dX11_drop_1 : decode cX11_drop 1 = .ok (.getfield 21, 3) := by decide +kernel
theorem dX11_drop_4 : decode cX11_drop 4 = .ok (.iload_n 1, 1) := by decide +kernel
theorem dX11_drop_5 : decode cX11_drop 5 = .ok (.invokevirtual 572, 3) := by decide +kernel
theorem dX11_drop_8 : decode cX11_drop 8 = .ok (.aload_n 0, 1) := by decide +kernel
theorem dX11_drop_9 : decode cX11_drop 9 = .ok (.getfield 28, 3) := by decide +kernel
theorem dX11_drop_12 : decode cX11_drop 12 = .ok (.iload_n 1, 1) := by decide +kernel
theorem dX11_drop_13 : decode cX11_drop 13 = .ok (.invokevirtual 573, 3) := by decide +kernel
theorem dX11_drop_16 : decode cX11_drop 16 = .ok (.return_, 1) := by decide +kernel
theorem dX11_dropOutdated_0 : decode cX11_dropOutdated 0 = .ok (.iconst 0, 1) := by decide +kernel
theorem dX11_dropOutdated_1 : decode cX11_dropOutdated 1 = .ok (.istore_n 1, 1) := by decide +kernel
theorem dX11_dropOutdated_2 : decode cX11_dropOutdated 2 = .ok (.iconst 0, 1) := by decide +kernel
theorem dX11_dropOutdated_3 : decode cX11_dropOutdated 3 = .ok (.istore_n 2, 1) := by decide +kernel
theorem dX11_dropOutdated_4 : decode cX11_dropOutdated 4 = .ok (.iload_n 2, 1) := by decide +kernel
theorem dX11_dropOutdated_5 : decode cX11_dropOutdated 5 = .ok (.aload_n 0, 1) := by decide +kernel
theorem dX11_dropOutdated_6 : decode cX11_dropOutdated 6 = .ok (.getfield 21, 3) := by decide +kernel
theorem dX11_dropOutdated_9 : decode cX11_dropOutdated 9 = .ok (.getfield 332, 3) := by decide +kernel
theorem dX11_dropOutdated_12 : decode cX11_dropOutdated 12 = .ok (.if_icmp .ge 57, 3) := by decide +kernel
theorem dX11_dropOutdated_15 : decode cX11_dropOutdated 15 = .ok (.aload_n 0, 1) := by decide +kernel
theorem dX11_dropOutdated_16 : decode cX11_dropOutdated 16 = .ok (.iload_n 2, 1) := by decide +kernel
theorem dX11_dropOutdated_17 : decode cX11_dropOutdated 17 = .ok (.invokevirtual 490, 3) := by decide +kernel
theorem dX11_dropOutdated_20 : decode cX11_dropOutdated 20 = .ok (.ifCond .eq 43, 3) := by decide +kernel
theorem dX11_dropOutdated_23 : decode cX11_dropOutdated 23 = .ok (.aload_n 0, 1) := by decide +kernel
theorem dX11_dropOutdated_24 : decode cX11_dropOutdated 24 = .ok (.iload_n 2, 1) := by decide +kernel
theorem dX11_dropOutdated_25 : decode cX11_dropOutdated 25 = .ok (.invokevirtual 494, 3) := by decide +kernel
theorem dX11_dropOutdated_28 : decode cX11_dropOutdated 28 = .ok (.istore_n 3, 1) := by decide +kernel
theorem dX11_dropOutdated_29 : decode cX11_dropOutdated 29 = .ok (.iload_n 3, 1) := by decide +kernel
theorem dX11_dropOutdated_30 : decode cX11_dropOutdated 30 = .ok (.iconst (-1), 1) := by decide +kernel
theorem dX11_dropOutdated_31 : decode cX11_dropOutdated 31 = .ok (.if_icmp .eq 32, 3) := by decide +kernel
theorem dX11_dropOutdated_34 : decode cX11_dropOutdated 34 = .ok (.iload_n 3, 1) := by decide +kernel
theorem dX11_dropOutdated_35 : decode cX11_dropOutdated 35 = .ok (.aload_n 0, 1) := by decide +kernel
theorem dX11_dropOutdated_36 : decode cX11_dropOutdated 36 = .ok (.getfield 10, 3) := by decide +kernel
theorem dX11_dropOutdated_39 : decode cX11_dropOutdated 39 = .ok (.getfield 116, 3) := by decide +kernel
theorem dX11_dropOutdated_42 : decode cX11_dropOutdated 42 = .ok (.aload_n 0, 1) := by decide +kernel
theorem dX11_dropOutdated_43 : decode cX11_dropOutdated 43 = .ok (.getfield 21, 3) := by decide +kernel
theorem dX11_dropOutdated_46 : decode cX11_dropOutdated 46 = .ok (.getfield 576, 3) := by decide +kernel
theorem dX11_dropOutdated_49 : decode cX11_dropOutdated 49 = .ok (.iload_n 2, 1) := by decide +kernel
theorem dX11_dropOutdated_50 : decode cX11_dropOutdated 50 = .ok (.iaload, 1) := by decide +kernel
theorem dX11_dropOutdated_51 : decode cX11_dropOutdated 51 = .ok (.isub, 1) := by decide +kernel
theorem dX11_dropOutdated_52 : decode cX11_dropOutdated 52 = .ok (.if_icmp .gt 11, 3) := by decide +kernel
theorem dX11_dropOutdated_55 : decode cX11_dropOutdated 55 = .ok (.aload_n 0, 1) := by decide +kernel
theorem dX11_dropOutdated_56 : decode cX11_dropOutdated 56 = .ok (.iload_n 2, 1) := by decide +kernel
theorem dX11_dropOutdated_57 : decode cX11_dropOutdated 57 = .ok (.invokevirtual 242, 3) := by decide +kernel
theorem dX11_dropOutdated_60 : decode cX11_dropOutdated 60 = .ok (.iinc 1 1, 3) := by decide +kernel
theorem dX11_dropOutdated_63 : decode cX11_dropOutdated 63 = .ok (.iinc 2 1, 3) := by decide +kernel
theorem dX11_dropOutdated_66 : decode cX11_dropOutdated 66 = .ok (.goto (-62), 3) := by decide +kernel
theorem dX11_dropOutdated_69 : decode cX11_dropOutdated 69 = .ok (.iload_n 1, 1) := by decide +kernel
theorem dX11_dropOutdated_70 : decode cX11_dropOutdated 70 = .ok (.ireturn, 1) := by decide +kernel
theorem dX11_isJudged_0 : decode cX11_isJudged 0 = .ok (.aload_n 0, 1) := by decide +kernel
theorem dX11_isJudged_1 : decode cX11_isJudged 1 = .ok (.getfield 21, 3) := by decide +kernel
theorem dX11_isJudged_4 : decode cX11_isJudged 4 = .ok (.iload_n 1, 1) := by decide +kernel
theorem dX11_isJudged_5 : decode cX11_isJudged 5 = .ok (.invokevirtual 216, 3) := by decide +kernel
theorem dX11_isJudged_8 : decode cX11_isJudged 8 = .ok (.iload_n 2, 1) := by decide +kernel
theorem dX11_isJudged_9 : decode cX11_isJudged 9 = .ok (.invokestatic 192, 3) := by decide +kernel
theorem dX11_isJudged_12 : decode cX11_isJudged 12 = .ok (.istore 4, 2) := by decide +kernel
theorem dX11_isJudged_14 : decode cX11_isJudged 14 = .ok (.iload_n 3, 1) := by decide +kernel
theorem dX11_isJudged_15 : decode cX11_isJudged 15 = .ok (.ifCond .eq 8, 3) := by decide +kernel
theorem dX11_isJudged_18 : decode cX11_isJudged 18 = .ok (.iload 4, 2) := by decide +kernel
theorem dX11_isJudged_20 : decode cX11_isJudged 20 = .ok (.goto 41, 3) := by decide +kernel
theorem dX11_isJudged_23 : decode cX11_isJudged 23 = .ok (.iload 4, 2) := by decide +kernel
theorem dX11_isJudged_25 : decode cX11_isJudged 25 = .ok (.ifCond .ne 35, 3) := by decide +kernel
theorem dX11_isJudged_28 : decode cX11_isJudged 28 = .ok (.aload_n 0, 1) := by decide +kernel
theorem dX11_isJudged_29 : decode cX11_isJudged 29 = .ok (.getfield 21, 3) := by decide +kernel
theorem dX11_isJudged_32 : decode cX11_isJudged 32 = .ok (.getfield 579, 3) := by decide +kernel
theorem dX11_isJudged_35 : decode cX11_isJudged 35 = .ok (.iload_n 1, 1) := by decide +kernel
theorem dX11_isJudged_36 : decode cX11_isJudged 36 = .ok (.invokestatic 192, 3) := by decide +kernel
theorem dX11_isJudged_39 : decode cX11_isJudged 39 = .ok (.ifCond .eq 21, 3) := by decide +kernel
theorem dX11_isJudged_42 : decode cX11_isJudged 42 = .ok (.aload_n 0, 1) := by decide +kernel
theorem dX11_isJudged_43 : decode cX11_isJudged 43 = .ok (.getfield 21, 3) := by decide +kernel
theorem dX11_isJudged_46 : decode cX11_isJudged 46 = .ok (.getfield 579, 3) := by decide +kernel
theorem dX11_isJudged_49 : decode cX11_isJudged 49 = .ok (.iload_n 2, 1) := by decide +kernel
theorem dX11_isJudged_50 : decode cX11_isJudged 50 = .ok (.invokestatic 192, 3) := by decide +kernel
theorem dX11_isJudged_53 : decode cX11_isJudged 53 = .ok (.ifCond .eq 7, 3) := by decide +kernel
theorem dX11_isJudged_56 : decode cX11_isJudged 56 = .ok (.iconst 1, 1) := by decide +kernel
theorem dX11_isJudged_57 : decode cX11_isJudged 57 = .ok (.goto 4, 3) := by decide +kernel
theorem dX11_isJudged_60 : decode cX11_isJudged 60 = .ok (.iconst 0, 1) := by decide +kernel
theorem dX11_isJudged_61 : decode cX11_isJudged 61 = .ok (.ireturn, 1) := by decide +kernel
theorem dX11_partSet_0 : decode cX11_partSet 0 = .ok (.aload_n 0, 1) := by decide +kernel
theorem dX11_partSet_1 : decode cX11_partSet 1 = .ok (.iload_n 3, 1) := by decide +kernel
theorem dX11_partSet_2 : decode cX11_partSet 2 = .ok (.invokevirtual 184, 3) := by decide +kernel
theorem dX11_partSet_5 : decode cX11_partSet 5 = .ok (.astore 4, 2) := by decide +kernel
theorem dX11_partSet_7 : decode cX11_partSet 7 = .ok (.aload_n 0, 1) := by decide +kernel
theorem dX11_partSet_8 : decode cX11_partSet 8 = .ok (.getfield 50, 3) := by decide +kernel
theorem dX11_partSet_11 : decode cX11_partSet 11 = .ok (.aload 4, 2) := by decide +kernel
theorem dX11_partSet_13 : decode cX11_partSet 13 = .ok (.invokevirtual 253, 3) := by decide +kernel
theorem dX11_partSet_16 : decode cX11_partSet 16 = .ok (.aload_n 0, 1) := by decide +kernel
theorem dX11_partSet_17 : decode cX11_partSet 17 = .ok (.getfield 57, 3) := by decide +kernel
theorem dX11_partSet_20 : decode cX11_partSet 20 = .ok (.lload_n 1, 1) := by decide +kernel
theorem dX11_partSet_21 : decode cX11_partSet 21 = .ok (.aload_n 0, 1) := by decide +kernel
theorem dX11_partSet_22 : decode cX11_partSet 22 = .ok (.getfield 21, 3) := by decide +kernel
theorem dX11_partSet_25 : decode cX11_partSet 25 = .ok (.aload_n 0, 1) := by decide +kernel
theorem dX11_partSet_26 : decode cX11_partSet 26 = .ok (.getfield 50, 3) := by decide +kernel
theorem dX11_partSet_29 : decode cX11_partSet 29 = .ok (.aload 4, 2) := by decide +kernel
theorem dX11_partSet_31 : decode cX11_partSet 31 = .ok (.invokevirtual 582, 3) := by decide +kernel
theorem dX11_partSet_34 : decode cX11_partSet 34 = .ok (.aload_n 0, 1) := by decide +kernel
theorem dX11_partSet_35 : decode cX11_partSet 35 = .ok (.getfield 57, 3) := by decide +kernel
theorem dX11_partSet_38 : decode cX11_partSet 38 = .ok (.invokevirtual 586, 3) := by decide +kernel
theorem dX11_partSet_41 : decode cX11_partSet 41 = .ok (.aload_n 0, 1) := by decide +kernel
theorem dX11_partSet_42 : decode cX11_partSet 42 = .ok (.getfield 57, 3) := by decide +kernel
theorem dX11_partSet_45 : decode cX11_partSet 45 = .ok (.getfield 589, 3) := by decide +kernel
theorem dX11_partSet_48 : decode cX11_partSet 48 = .ok (.ifCond .ne 14, 3) := by decide +kernel
theorem dX11_partSet_51 : decode cX11_partSet 51 = .ok (.new 120, 3) := by decide +kernel
theorem dX11_partSet_54 : decode cX11_partSet 54 = .ok (.dup, 1) := by decide +kernel
theorem dX11_partSet_55 : decode cX11_partSet 55 = .ok (.ldc_w 593, 3) := by decide +kernel
theorem dX11_partSet_58 : decode cX11_partSet 58 = .ok (.invokespecial 124, 3) := by decide +kernel
theorem dX11_partSet_61 : decode cX11_partSet 61 = .ok (.athrow, 1) := by decide +kernel
theorem dX11_partSet_62 : decode cX11_partSet 62 = .ok (.return_, 1) := by decide +kernel
theorem dX11_join_0 : decode cX11_join 0 = .ok (.aload_n 0, 1) := by decide +kernel
theorem dX11_join_1 : decode cX11_join 1 = .ok (.iload_n 1, 1) := by decide +kernel
theorem dX11_join_2 : decode cX11_join 2 = .ok (.invokevirtual 184, 3) := by decide +kernel
theorem dX11_join_5 : decode cX11_join 5 = .ok (.astore_n 2, 1) := by decide +kernel
theorem dX11_join_6 : decode cX11_join 6 = .ok (.aload_n 0, 1) := by decide +kernel
theorem dX11_join_7 : decode cX11_join 7 = .ok (.getfield 50, 3) := by decide +kernel
theorem dX11_join_10 : decode cX11_join 10 = .ok (.aload_n 2, 1) := by decide +kernel
theorem dX11_join_11 : decode cX11_join 11 = .ok (.invokevirtual 253, 3) := by decide +kernel
theorem dX11_join_14 : decode cX11_join 14 = .ok (.aload_n 0, 1) := by decide +kernel
theorem dX11_join_15 : decode cX11_join 15 = .ok (.getfield 64, 3) := by decide +kernel
theorem dX11_join_18 : decode cX11_join 18 = .ok (.aload_n 0, 1) := by decide +kernel
theorem dX11_join_19 : decode cX11_join 19 = .ok (.getfield 21, 3) := by decide +kernel
theorem dX11_join_22 : decode cX11_join 22 = .ok (.aload_n 0, 1) := by decide +kernel
theorem dX11_join_23 : decode cX11_join 23 = .ok (.getfield 50, 3) := by decide +kernel
theorem dX11_join_26 : decode cX11_join 26 = .ok (.aload_n 2, 1) := by decide +kernel
theorem dX11_join_27 : decode cX11_join 27 = .ok (.invokevirtual 595, 3) := by decide +kernel
theorem dX11_join_30 : decode cX11_join 30 = .ok (.aload_n 0, 1) := by decide +kernel
theorem dX11_join_31 : decode cX11_join 31 = .ok (.getfield 64, 3) := by decide +kernel
theorem dX11_join_34 : decode cX11_join 34 = .ok (.invokevirtual 598, 3) := by decide +kernel
theorem dX11_join_37 : decode cX11_join 37 = .ok (.return_, 1) := by decide +kernel
theorem dX11_couldWith_0 : decode cX11_couldWith 0 = .ok (.aload_n 0, 1) := by decide +kernel
theorem dX11_couldWith_1 : decode cX11_couldWith 1 = .ok (.getfield 42, 3) := by decide +kernel
theorem dX11_couldWith_4 : decode cX11_couldWith 4 = .ok (.iload 4, 2) := by decide +kernel
theorem dX11_couldWith_6 : decode cX11_couldWith 6 = .ok (.iload 5, 2) := by decide +kernel
theorem dX11_couldWith_8 : decode cX11_couldWith 8 = .ok (.iload 6, 2) := by decide +kernel
theorem dX11_couldWith_10 : decode cX11_couldWith 10 = .ok (.invokevirtual 442, 3) := by decide +kernel
theorem dX11_couldWith_13 : decode cX11_couldWith 13 = .ok (.aload_n 0, 1) := by decide +kernel
theorem dX11_couldWith_14 : decode cX11_couldWith 14 = .ok (.getfield 50, 3) := by decide +kernel
theorem dX11_couldWith_17 : decode cX11_couldWith 17 = .ok (.aload_n 0, 1) := by decide +kernel
theorem dX11_couldWith_18 : decode cX11_couldWith 18 = .ok (.getfield 42, 3) := by decide +kernel
theorem dX11_couldWith_21 : decode cX11_couldWith 21 = .ok (.invokevirtual 253, 3) := by decide +kernel
theorem dX11_couldWith_24 : decode cX11_couldWith 24 = .ok (.aload_n 0, 1) := by decide +kernel
theorem dX11_couldWith_25 : decode cX11_couldWith 25 = .ok (.getfield 57, 3) := by decide +kernel
theorem dX11_couldWith_28 : decode cX11_couldWith 28 = .ok (.lload_n 1, 1) := by decide +kernel
theorem dX11_couldWith_29 : decode cX11_couldWith 29 = .ok (.aload_n 0, 1) := by decide +kernel
theorem dX11_couldWith_30 : decode cX11_couldWith 30 = .ok (.getfield 21, 3) := by decide +kernel
theorem dX11_couldWith_33 : decode cX11_couldWith 33 = .ok (.aload_n 0, 1) := by decide +kernel
theorem dX11_couldWith_34 : decode cX11_couldWith 34 = .ok (.getfield 50, 3) := by decide +kernel
theorem dX11_couldWith_37 : decode cX11_couldWith 37 = .ok (.aload_n 0, 1) := by decide +kernel
theorem dX11_couldWith_38 : decode cX11_couldWith 38 = .ok (.getfield 42, 3) := by decide +kernel
theorem dX11_couldWith_41 : decode cX11_couldWith 41 = .ok (.invokevirtual 582, 3) := by decide +kernel
theorem dX11_couldWith_44 : decode cX11_couldWith 44 = .ok (.aload_n 0, 1) := by decide +kernel
theorem dX11_couldWith_45 : decode cX11_couldWith 45 = .ok (.getfield 57, 3) := by decide +kernel
theorem dX11_couldWith_48 : decode cX11_couldWith 48 = .ok (.invokevirtual 586, 3) := by decide +kernel
theorem dX11_couldWith_51 : decode cX11_couldWith 51 = .ok (.aload_n 0, 1) := by decide +kernel
theorem dX11_couldWith_52 : decode cX11_couldWith 52 = .ok (.getfield 57, 3) := by decide +kernel
theorem dX11_couldWith_55 : decode cX11_couldWith 55 = .ok (.iload_n 3, 1) := by decide +kernel
theorem dX11_couldWith_56 : decode cX11_couldWith 56 = .ok (.invokevirtual 304, 3) := by decide +kernel
theorem dX11_couldWith_59 : decode cX11_couldWith 59 = .ok (.aload_n 0, 1) := by decide +kernel
theorem dX11_couldWith_60 : decode cX11_couldWith 60 = .ok (.getfield 57, 3) := by decide +kernel
theorem dX11_couldWith_63 : decode cX11_couldWith 63 = .ok (.invokevirtual 601, 3) := by decide +kernel
theorem dX11_couldWith_66 : decode cX11_couldWith 66 = .ok (.ireturn, 1) := by decide +kernel
theorem dX11_layRow_0 : decode cX11_layRow 0 = .ok (.iconst 0, 1) := by decide +kernel
theorem dX11_layRow_1 : decode cX11_layRow 1 = .ok (.istore_n 3, 1) := by decide +kernel
theorem dX11_layRow_2 : decode cX11_layRow 2 = .ok (.iconst 0, 1) := by decide +kernel
theorem dX11_layRow_3 : decode cX11_layRow 3 = .ok (.istore 4, 2) := by decide +kernel
theorem dX11_layRow_5 : decode cX11_layRow 5 = .ok (.iload 4, 2) := by decide +kernel
theorem dX11_layRow_7 : decode cX11_layRow 7 = .ok (.bipush 60, 2) := by decide +kernel
theorem dX11_layRow_9 : decode cX11_layRow 9 = .ok (.if_icmp .ge 29, 3) := by decide +kernel
theorem dX11_layRow_12 : decode cX11_layRow 12 = .ok (.lload_n 1, 1) := by decide +kernel
theorem dX11_layRow_13 : decode cX11_layRow 13 = .ok (.iload 4, 2) := by decide +kernel
theorem dX11_layRow_15 : decode cX11_layRow 15 = .ok (.invokestatic 192, 3) := by decide +kernel
theorem dX11_layRow_18 : decode cX11_layRow 18 = .ok (.ifCond .eq 14, 3) := by decide +kernel
theorem dX11_layRow_21 : decode cX11_layRow 21 = .ok (.aload_n 0, 1) := by decide +kernel
theorem dX11_layRow_22 : decode cX11_layRow 22 = .ok (.getfield 106, 3) := by decide +kernel
theorem dX11_layRow_25 : decode cX11_layRow 25 = .ok (.iload_n 3, 1) := by decide +kernel
theorem dX11_layRow_26 : decode cX11_layRow 26 = .ok (.iload 4, 2) := by decide +kernel
theorem dX11_layRow_28 : decode cX11_layRow 28 = .ok (.iastore, 1) := by decide +kernel
theorem dX11_layRow_29 : decode cX11_layRow 29 = .ok (.iinc 3 1, 3) := by decide +kernel
theorem dX11_layRow_32 : decode cX11_layRow 32 = .ok (.iinc 4 1, 3) := by decide +kernel
theorem dX11_layRow_35 : decode cX11_layRow 35 = .ok (.goto (-30), 3) := by decide +kernel
theorem dX11_layRow_38 : decode cX11_layRow 38 = .ok (.iload_n 3, 1) := by decide +kernel
theorem dX11_layRow_39 : decode cX11_layRow 39 = .ok (.ireturn, 1) := by decide +kernel
theorem dX11_someIsWorth_0 : decode cX11_someIsWorth 0 = .ok (.iconst 0, 1) := by decide +kernel
theorem dX11_someIsWorth_1 : decode cX11_someIsWorth 1 = .ok (.istore 4, 2) := by decide +kernel
theorem dX11_someIsWorth_3 : decode cX11_someIsWorth 3 = .ok (.iload 4, 2) := by decide +kernel
theorem dX11_someIsWorth_5 : decode cX11_someIsWorth 5 = .ok (.iload_n 3, 1) := by decide +kernel
theorem dX11_someIsWorth_6 : decode cX11_someIsWorth 6 = .ok (.if_icmp .ge 41, 3) := by decide +kernel
theorem dX11_someIsWorth_9 : decode cX11_someIsWorth 9 = .ok (.iload 4, 2) := by decide +kernel
theorem dX11_someIsWorth_11 : decode cX11_someIsWorth 11 = .ok (.bipush 60, 2) := by decide +kernel
theorem dX11_someIsWorth_13 : decode cX11_someIsWorth 13 = .ok (.if_icmp .ge 34, 3) := by decide +kernel
theorem dX11_someIsWorth_16 : decode cX11_someIsWorth 16 = .ok (.aload_n 0, 1) := by decide +kernel
theorem dX11_someIsWorth_17 : decode cX11_someIsWorth 17 = .ok (.getfield 50, 3) := by decide +kernel
theorem dX11_someIsWorth_20 : decode cX11_someIsWorth 20 = .ok (.aload_n 0, 1) := by decide +kernel
theorem dX11_someIsWorth_21 : decode cX11_someIsWorth 21 = .ok (.getfield 42, 3) := by decide +kernel
theorem dX11_someIsWorth_24 : decode cX11_someIsWorth 24 = .ok (.iload_n 1, 1) := by decide +kernel
theorem dX11_someIsWorth_25 : decode cX11_someIsWorth 25 = .ok (.aload_n 0, 1) := by decide +kernel
theorem dX11_someIsWorth_26 : decode cX11_someIsWorth 26 = .ok (.getfield 106, 3) := by decide +kernel
theorem dX11_someIsWorth_29 : decode cX11_someIsWorth 29 = .ok (.iload 4, 2) := by decide +kernel
theorem dX11_someIsWorth_31 : decode cX11_someIsWorth 31 = .ok (.iaload, 1) := by decide +kernel
theorem dX11_someIsWorth_32 : decode cX11_someIsWorth 32 = .ok (.invokevirtual 274, 3) := by decide +kernel
theorem dX11_someIsWorth_35 : decode cX11_someIsWorth 35 = .ok (.iload_n 2, 1) := by decide +kernel
theorem dX11_someIsWorth_36 : decode cX11_someIsWorth 36 = .ok (.if_icmp .lt 5, 3) := by decide +kernel
theorem dX11_someIsWorth_39 : decode cX11_someIsWorth 39 = .ok (.iconst 1, 1) := by decide +kernel
theorem dX11_someIsWorth_40 : decode cX11_someIsWorth 40 = .ok (.ireturn, 1) := by decide +kernel
theorem dX11_someIsWorth_41 : decode cX11_someIsWorth 41 = .ok (.iinc 4 1, 3) := by decide +kernel
theorem dX11_someIsWorth_44 : decode cX11_someIsWorth 44 = .ok (.goto (-41), 3) := by decide +kernel
theorem dX11_someIsWorth_47 : decode cX11_someIsWorth 47 = .ok (.iconst 0, 1) := by decide +kernel
theorem dX11_someIsWorth_48 : decode cX11_someIsWorth 48 = .ok (.ireturn, 1) := by decide +kernel
theorem dX11_feedOne_0 : decode cX11_feedOne 0 = .ok (.bipush 24, 2) := by decide +kernel
theorem dX11_feedOne_2 : decode cX11_feedOne 2 = .ok (.istore_n 2, 1) := by decide +kernel
theorem dX11_feedOne_3 : decode cX11_feedOne 3 = .ok (.iload_n 2, 1) := by decide +kernel
theorem dX11_feedOne_4 : decode cX11_feedOne 4 = .ok (.ifCond .lt 45, 3) := by decide +kernel
theorem dX11_feedOne_7 : decode cX11_feedOne 7 = .ok (.aload_n 0, 1) := by decide +kernel
theorem dX11_feedOne_8 : decode cX11_feedOne 8 = .ok (.getfield 102, 3) := by decide +kernel
theorem dX11_feedOne_11 : decode cX11_feedOne 11 = .ok (.sipush 300, 3) := by decide +kernel
theorem dX11_feedOne_14 : decode cX11_feedOne 14 = .ok (.if_icmp .ge 35, 3) := by decide +kernel
theorem dX11_feedOne_17 : decode cX11_feedOne 17 = .ok (.aload_n 0, 1) := by decide +kernel
theorem dX11_feedOne_18 : decode cX11_feedOne 18 = .ok (.getfield 98, 3) := by decide +kernel
theorem dX11_feedOne_21 : decode cX11_feedOne 21 = .ok (.aload_n 0, 1) := by decide +kernel
theorem dX11_feedOne_22 : decode cX11_feedOne 22 = .ok (.getfield 102, 3) := by decide +kernel
theorem dX11_feedOne_25 : decode cX11_feedOne 25 = .ok (.iload_n 1, 1) := by decide +kernel
theorem dX11_feedOne_26 : decode cX11_feedOne 26 = .ok (.iload_n 2, 1) := by decide +kernel
theorem dX11_feedOne_27 : decode cX11_feedOne 27 = .ok (.iushr, 1) := by decide +kernel
theorem dX11_feedOne_28 : decode cX11_feedOne 28 = .ok (.sipush 255, 3) := by decide +kernel
theorem dX11_feedOne_31 : decode cX11_feedOne 31 = .ok (.iand, 1) := by decide +kernel
theorem dX11_feedOne_32 : decode cX11_feedOne 32 = .ok (.iastore, 1) := by decide +kernel
theorem dX11_feedOne_33 : decode cX11_feedOne 33 = .ok (.aload_n 0, 1) := by decide +kernel
theorem dX11_feedOne_34 : decode cX11_feedOne 34 = .ok (.dup, 1) := by decide +kernel
theorem dX11_feedOne_35 : decode cX11_feedOne 35 = .ok (.getfield 102, 3) := by decide +kernel
theorem dX11_feedOne_38 : decode cX11_feedOne 38 = .ok (.iconst 1, 1) := by decide +kernel
theorem dX11_feedOne_39 : decode cX11_feedOne 39 = .ok (.iadd, 1) := by decide +kernel
theorem dX11_feedOne_40 : decode cX11_feedOne 40 = .ok (.putfield 102, 3) := by decide +kernel
theorem dX11_feedOne_43 : decode cX11_feedOne 43 = .ok (.iinc 2 (-8), 3) := by decide +kernel
theorem dX11_feedOne_46 : decode cX11_feedOne 46 = .ok (.goto (-43), 3) := by decide +kernel
theorem dX11_feedOne_49 : decode cX11_feedOne 49 = .ok (.return_, 1) := by decide +kernel
theorem dX11_isLet_0 : decode cX11_isLet 0 = .ok (.aload_n 0, 1) := by decide +kernel
theorem dX11_isLet_1 : decode cX11_isLet 1 = .ok (.getfield 10, 3) := by decide +kernel
theorem dX11_isLet_4 : decode cX11_isLet 4 = .ok (.getfield 604, 3) := by decide +kernel
theorem dX11_isLet_7 : decode cX11_isLet 7 = .ok (.iload_n 1, 1) := by decide +kernel
theorem dX11_isLet_8 : decode cX11_isLet 8 = .ok (.iaload, 1) := by decide +kernel
theorem dX11_isLet_9 : decode cX11_isLet 9 = .ok (.aload_n 0, 1) := by decide +kernel
theorem dX11_isLet_10 : decode cX11_isLet 10 = .ok (.getfield 10, 3) := by decide +kernel
theorem dX11_isLet_13 : decode cX11_isLet 13 = .ok (.getfield 607, 3) := by decide +kernel
theorem dX11_isLet_16 : decode cX11_isLet 16 = .ok (.aload_n 0, 1) := by decide +kernel
theorem dX11_isLet_17 : decode cX11_isLet 17 = .ok (.getfield 21, 3) := by decide +kernel
theorem dX11_isLet_20 : decode cX11_isLet 20 = .ok (.getfield 383, 3) := by decide +kernel
theorem dX11_isLet_23 : decode cX11_isLet 23 = .ok (.iload_n 2, 1) := by decide +kernel
theorem dX11_isLet_24 : decode cX11_isLet 24 = .ok (.iaload, 1) := by decide +kernel
theorem dX11_isLet_25 : decode cX11_isLet 25 = .ok (.iaload, 1) := by decide +kernel
theorem dX11_isLet_26 : decode cX11_isLet 26 = .ok (.if_icmp .ne 7, 3) := by decide +kernel
theorem dX11_isLet_29 : decode cX11_isLet 29 = .ok (.iconst 1, 1) := by decide +kernel
theorem dX11_isLet_30 : decode cX11_isLet 30 = .ok (.goto 4, 3) := by decide +kernel
theorem dX11_isLet_33 : decode cX11_isLet 33 = .ok (.iconst 0, 1) := by decide +kernel
theorem dX11_isLet_34 : decode cX11_isLet 34 = .ok (.istore_n 3, 1) := by decide +kernel
theorem dX11_isLet_35 : decode cX11_isLet 35 = .ok (.aload_n 0, 1) := by decide +kernel
theorem dX11_isLet_36 : decode cX11_isLet 36 = .ok (.iload_n 2, 1) := by decide +kernel
theorem dX11_isLet_37 : decode cX11_isLet 37 = .ok (.aload_n 0, 1) := by decide +kernel
theorem dX11_isLet_38 : decode cX11_isLet 38 = .ok (.getfield 10, 3) := by decide +kernel
theorem dX11_isLet_41 : decode cX11_isLet 41 = .ok (.getfield 610, 3) := by decide +kernel
theorem dX11_isLet_44 : decode cX11_isLet 44 = .ok (.iload_n 1, 1) := by decide +kernel
theorem dX11_isLet_45 : decode cX11_isLet 45 = .ok (.iaload, 1) := by decide +kernel
theorem dX11_isLet_46 : decode cX11_isLet 46 = .ok (.iload_n 3, 1) := by decide +kernel
theorem dX11_isLet_47 : decode cX11_isLet 47 = .ok (.ifCond .eq 7, 3) := by decide +kernel
theorem dX11_isLet_50 : decode cX11_isLet 50 = .ok (.iconst 1, 1) := by decide +kernel
theorem dX11_isLet_51 : decode cX11_isLet 51 = .ok (.goto 4, 3) := by decide +kernel
theorem dX11_isLet_54 : decode cX11_isLet 54 = .ok (.iconst 0, 1) := by decide +kernel
theorem dX11_isLet_55 : decode cX11_isLet 55 = .ok (.invokevirtual 613, 3) := by decide +kernel
theorem dX11_isLet_58 : decode cX11_isLet 58 = .ok (.aload_n 0, 1) := by decide +kernel
theorem dX11_isLet_59 : decode cX11_isLet 59 = .ok (.getfield 80, 3) := by decide +kernel
theorem dX11_isLet_62 : decode cX11_isLet 62 = .ok (.invokevirtual 616, 3) := by decide +kernel
theorem dX11_isLet_65 : decode cX11_isLet 65 = .ok (.ireturn, 1) := by decide +kernel
theorem dX11_keepOf_0 : decode cX11_keepOf 0 = .ok (.aload_n 0, 1) := by decide +kernel
theorem dX11_keepOf_1 : decode cX11_keepOf 1 = .ok (.iload_n 1, 1) := by decide +kernel
theorem dX11_keepOf_2 : decode cX11_keepOf 2 = .ok (.iconst 0, 1) := by decide +kernel
theorem dX11_keepOf_3 : decode cX11_keepOf 3 = .ok (.iconst 0, 1) := by decide +kernel
theorem dX11_keepOf_4 : decode cX11_keepOf 4 = .ok (.invokevirtual 613, 3) := by decide +kernel
theorem dX11_keepOf_7 : decode cX11_keepOf 7 = .ok (.aload_n 0, 1) := by decide +kernel
theorem dX11_keepOf_8 : decode cX11_keepOf 8 = .ok (.getfield 80, 3) := by decide +kernel
theorem dX11_keepOf_11 : decode cX11_keepOf 11 = .ok (.invokevirtual 620, 3) := by decide +kernel
theorem dX11_keepOf_14 : decode cX11_keepOf 14 = .ok (.ireturn, 1) := by decide +kernel
theorem dX11_nameFor_0 : decode cX11_nameFor 0 = .ok (.aload_n 0, 1) := by decide +kernel
theorem dX11_nameFor_1 : decode cX11_nameFor 1 = .ok (.getfield 80, 3) := by decide +kernel
theorem dX11_nameFor_4 : decode cX11_nameFor 4 = .ok (.getfield 623, 3) := by decide +kernel
theorem dX11_nameFor_7 : decode cX11_nameFor 7 = .ok (.astore 4, 2) := by decide +kernel
theorem dX11_nameFor_9 : decode cX11_nameFor 9 = .ok (.aload 4, 2) := by decide +kernel
theorem dX11_nameFor_11 : decode cX11_nameFor 11 = .ok (.iconst 0, 1) := by decide +kernel
theorem dX11_nameFor_12 : decode cX11_nameFor 12 = .ok (.iload_n 2, 1) := by decide +kernel
theorem dX11_nameFor_13 : decode cX11_nameFor 13 = .ok (.i2l, 1) := by decide +kernel
theorem dX11_nameFor_14 : decode cX11_nameFor 14 = .ok (.lastore, 1) := by decide +kernel
theorem dX11_nameFor_15 : decode cX11_nameFor 15 = .ok (.aload 4, 2) := by decide +kernel
theorem dX11_nameFor_17 : decode cX11_nameFor 17 = .ok (.iconst 1, 1) := by decide +kernel
theorem dX11_nameFor_18 : decode cX11_nameFor 18 = .ok (.iload_n 3, 1) := by decide +kernel
theorem dX11_nameFor_19 : decode cX11_nameFor 19 = .ok (.i2l, 1) := by decide +kernel
theorem dX11_nameFor_20 : decode cX11_nameFor 20 = .ok (.lastore, 1) := by decide +kernel
theorem dX11_nameFor_21 : decode cX11_nameFor 21 = .ok (.aload 4, 2) := by decide +kernel
theorem dX11_nameFor_23 : decode cX11_nameFor 23 = .ok (.iconst 2, 1) := by decide +kernel
theorem dX11_nameFor_24 : decode cX11_nameFor 24 = .ok (.aload_n 0, 1) := by decide +kernel
theorem dX11_nameFor_25 : decode cX11_nameFor 25 = .ok (.getfield 10, 3) := by decide +kernel
theorem dX11_nameFor_28 : decode cX11_nameFor 28 = .ok (.getfield 116, 3) := by decide +kernel
theorem dX11_nameFor_31 : decode cX11_nameFor 31 = .ok (.aload_n 0, 1) := by decide +kernel
theorem dX11_nameFor_32 : decode cX11_nameFor 32 = .ok (.getfield 21, 3) := by decide +kernel
theorem dX11_nameFor_35 : decode cX11_nameFor 35 = .ok (.getfield 576, 3) := by decide +kernel
theorem dX11_nameFor_38 : decode cX11_nameFor 38 = .ok (.iload_n 1, 1) := by decide +kernel
theorem dX11_nameFor_39 : decode cX11_nameFor 39 = .ok (.iaload, 1) := by decide +kernel
theorem dX11_nameFor_40 : decode cX11_nameFor 40 = .ok (.isub, 1) := by decide +kernel
theorem dX11_nameFor_41 : decode cX11_nameFor 41 = .ok (.i2l, 1) := by decide +kernel
theorem dX11_nameFor_42 : decode cX11_nameFor 42 = .ok (.lastore, 1) := by decide +kernel
theorem dX11_nameFor_43 : decode cX11_nameFor 43 = .ok (.aload 4, 2) := by decide +kernel
theorem dX11_nameFor_45 : decode cX11_nameFor 45 = .ok (.iconst 3, 1) := by decide +kernel
theorem dX11_nameFor_46 : decode cX11_nameFor 46 = .ok (.aload_n 0, 1) := by decide +kernel
theorem dX11_nameFor_47 : decode cX11_nameFor 47 = .ok (.getfield 21, 3) := by decide +kernel
theorem dX11_nameFor_50 : decode cX11_nameFor 50 = .ok (.getfield 579, 3) := by decide +kernel
theorem dX11_nameFor_53 : decode cX11_nameFor 53 = .ok (.iload_n 1, 1) := by decide +kernel
theorem dX11_nameFor_54 : decode cX11_nameFor 54 = .ok (.invokestatic 192, 3) := by decide +kernel
theorem dX11_nameFor_57 : decode cX11_nameFor 57 = .ok (.ifCond .eq 7, 3) := by decide +kernel
theorem dX11_nameFor_60 : decode cX11_nameFor 60 = .ok (.lconst 1, 1) := by decide +kernel
theorem dX11_nameFor_61 : decode cX11_nameFor 61 = .ok (.goto 4, 3) := by decide +kernel
theorem dX11_nameFor_64 : decode cX11_nameFor 64 = .ok (.lconst 0, 1) := by decide +kernel
theorem dX11_nameFor_65 : decode cX11_nameFor 65 = .ok (.lastore, 1) := by decide +kernel
theorem dX11_nameFor_66 : decode cX11_nameFor 66 = .ok (.aload 4, 2) := by decide +kernel
theorem dX11_nameFor_68 : decode cX11_nameFor 68 = .ok (.iconst 4, 1) := by decide +kernel
theorem dX11_nameFor_69 : decode cX11_nameFor 69 = .ok (.aload_n 0, 1) := by decide +kernel
theorem dX11_nameFor_70 : decode cX11_nameFor 70 = .ok (.getfield 21, 3) := by decide +kernel
theorem dX11_nameFor_73 : decode cX11_nameFor 73 = .ok (.getfield 188, 3) := by decide +kernel
theorem dX11_nameFor_76 : decode cX11_nameFor 76 = .ok (.iload_n 1, 1) := by decide +kernel
theorem dX11_nameFor_77 : decode cX11_nameFor 77 = .ok (.invokestatic 192, 3) := by decide +kernel
theorem dX11_nameFor_80 : decode cX11_nameFor 80 = .ok (.ifCond .eq 7, 3) := by decide +kernel
theorem dX11_nameFor_83 : decode cX11_nameFor 83 = .ok (.lconst 1, 1) := by decide +kernel
theorem dX11_nameFor_84 : decode cX11_nameFor 84 = .ok (.goto 4, 3) := by decide +kernel
theorem dX11_nameFor_87 : decode cX11_nameFor 87 = .ok (.lconst 0, 1) := by decide +kernel
theorem dX11_nameFor_88 : decode cX11_nameFor 88 = .ok (.lastore, 1) := by decide +kernel
theorem dX11_nameFor_89 : decode cX11_nameFor 89 = .ok (.aload 4, 2) := by decide +kernel
theorem dX11_nameFor_91 : decode cX11_nameFor 91 = .ok (.iconst 5, 1) := by decide +kernel
theorem dX11_nameFor_92 : decode cX11_nameFor 92 = .ok (.aload_n 0, 1) := by decide +kernel
theorem dX11_nameFor_93 : decode cX11_nameFor 93 = .ok (.getfield 35, 3) := by decide +kernel
theorem dX11_nameFor_96 : decode cX11_nameFor 96 = .ok (.iload_n 1, 1) := by decide +kernel
theorem dX11_nameFor_97 : decode cX11_nameFor 97 = .ok (.invokevirtual 626, 3) := by decide +kernel
theorem dX11_nameFor_100 : decode cX11_nameFor 100 = .ok (.i2l, 1) := by decide +kernel
theorem dX11_nameFor_101 : decode cX11_nameFor 101 = .ok (.lastore, 1) := by decide +kernel
theorem dX11_nameFor_102 : decode cX11_nameFor 102 = .ok (.aload 4, 2) := by decide +kernel
theorem dX11_nameFor_104 : decode cX11_nameFor 104 = .ok (.bipush 6, 2) := by decide +kernel
theorem dX11_nameFor_106 : decode cX11_nameFor 106 = .ok (.aload_n 0, 1) := by decide +kernel
theorem dX11_nameFor_107 : decode cX11_nameFor 107 = .ok (.getfield 28, 3) := by decide +kernel
theorem dX11_nameFor_110 : decode cX11_nameFor 110 = .ok (.iload_n 1, 1) := by decide +kernel
theorem dX11_nameFor_111 : decode cX11_nameFor 111 = .ok (.invokevirtual 569, 3) := by decide +kernel
theorem dX11_nameFor_114 : decode cX11_nameFor 114 = .ok (.i2l, 1) := by decide +kernel
theorem dX11_nameFor_115 : decode cX11_nameFor 115 = .ok (.lastore, 1) := by decide +kernel
theorem dX11_nameFor_116 : decode cX11_nameFor 116 = .ok (.return_, 1) := by decide +kernel
theorem dX11_firstThatDiffers_0 : decode cX11_firstThatDiffers 0 = .ok (.aload_n 0, 1) := by decide +kernel
theorem dX11_firstThatDiffers_1 : decode cX11_firstThatDiffers 1 = .ok (.getfield 50, 3) := by decide +kernel
theorem dX11_firstThatDiffers_4 : decode cX11_firstThatDiffers 4 = .ok (.aload_n 3, 1) := by decide +kernel
theorem dX11_firstThatDiffers_5 : decode cX11_firstThatDiffers 5 = .ok (.invokevirtual 253, 3) := by decide +kernel
theorem dX11_firstThatDiffers_8 : decode cX11_firstThatDiffers 8 = .ok (.iconst 0, 1) := by decide +kernel
theorem dX11_firstThatDiffers_9 : decode cX11_firstThatDiffers 9 = .ok (.istore 5, 2) := by decide +kernel
theorem dX11_firstThatDiffers_11 : decode cX11_firstThatDiffers 11 = .ok (.iconst 0, 1) := by decide +kernel
theorem dX11_firstThatDiffers_12 : decode cX11_firstThatDiffers 12 = .ok (.istore 6, 2) := by decide +kernel
theorem dX11_firstThatDiffers_14 : decode cX11_firstThatDiffers 14 = .ok (.iload 6, 2) := by decide +kernel
theorem dX11_firstThatDiffers_16 : decode cX11_firstThatDiffers 16 = .ok (.aload_n 0, 1) := by decide +kernel
theorem dX11_firstThatDiffers_17 : decode cX11_firstThatDiffers 17 = .ok (.getfield 21, 3) := by decide +kernel
theorem dX11_firstThatDiffers_20 : decode cX11_firstThatDiffers 20 = .ok (.getfield 332, 3) := by decide +kernel
theorem dX11_firstThatDiffers_23 : decode cX11_firstThatDiffers 23 = .ok (.if_icmp .ge 106, 3) := by decide +kernel
theorem dX11_firstThatDiffers_26 : decode cX11_firstThatDiffers 26 = .ok (.iload 6, 2) := by decide +kernel
theorem dX11_firstThatDiffers_28 : decode cX11_firstThatDiffers 28 = .ok (.iconst 1, 1) := by decide +kernel
theorem dX11_firstThatDiffers_29 : decode cX11_firstThatDiffers 29 = .ok (.iadd, 1) := by decide +kernel
theorem dX11_firstThatDiffers_30 : decode cX11_firstThatDiffers 30 = .ok (.istore 7, 2) := by decide +kernel
theorem dX11_firstThatDiffers_32 : decode cX11_firstThatDiffers 32 = .ok (.iload 7, 2) := by decide +kernel
theorem dX11_firstThatDiffers_34 : decode cX11_firstThatDiffers 34 = .ok (.aload_n 0, 1) := by decide +kernel
theorem dX11_firstThatDiffers_35 : decode cX11_firstThatDiffers 35 = .ok (.getfield 21, 3) := by decide +kernel
theorem dX11_firstThatDiffers_38 : decode cX11_firstThatDiffers 38 = .ok (.getfield 332, 3) := by decide +kernel
theorem dX11_firstThatDiffers_41 : decode cX11_firstThatDiffers 41 = .ok (.if_icmp .ge 82, 3) := by decide +kernel
theorem dX11_firstThatDiffers_44 : decode cX11_firstThatDiffers 44 = .ok (.lload_n 1, 1) := by decide +kernel
theorem dX11_firstThatDiffers_45 : decode cX11_firstThatDiffers 45 = .ok (.iload 6, 2) := by decide +kernel
theorem dX11_firstThatDiffers_47 : decode cX11_firstThatDiffers 47 = .ok (.invokestatic 192, 3) := by decide +kernel
theorem dX11_firstThatDiffers_50 : decode cX11_firstThatDiffers 50 = .ok (.ifCond .eq 67, 3) := by decide +kernel
theorem dX11_firstThatDiffers_53 : decode cX11_firstThatDiffers 53 = .ok (.lload_n 1, 1) := by decide +kernel
theorem dX11_firstThatDiffers_54 : decode cX11_firstThatDiffers 54 = .ok (.iload 7, 2) := by decide +kernel
theorem dX11_firstThatDiffers_56 : decode cX11_firstThatDiffers 56 = .ok (.invokestatic 192, 3) := by decide +kernel
theorem dX11_firstThatDiffers_59 : decode cX11_firstThatDiffers 59 = .ok (.ifCond .eq 58, 3) := by decide +kernel
theorem dX11_firstThatDiffers_62 : decode cX11_firstThatDiffers 62 = .ok (.iload 5, 2) := by decide +kernel
theorem dX11_firstThatDiffers_64 : decode cX11_firstThatDiffers 64 = .ok (.aload_n 0, 1) := by decide +kernel
theorem dX11_firstThatDiffers_65 : decode cX11_firstThatDiffers 65 = .ok (.getfield 94, 3) := by decide +kernel
theorem dX11_firstThatDiffers_68 : decode cX11_firstThatDiffers 68 = .ok (.getfield 509, 3) := by decide +kernel
theorem dX11_firstThatDiffers_71 : decode cX11_firstThatDiffers 71 = .ok (.iload 4, 2) := by decide +kernel
theorem dX11_firstThatDiffers_73 : decode cX11_firstThatDiffers 73 = .ok (.iaload, 1) := by decide +kernel
theorem dX11_firstThatDiffers_74 : decode cX11_firstThatDiffers 74 = .ok (.if_icmp .lt 9, 3) := by decide +kernel
theorem dX11_firstThatDiffers_77 : decode cX11_firstThatDiffers 77 = .ok (.bipush (-3), 2) := by decide +kernel
theorem dX11_firstThatDiffers_79 : decode cX11_firstThatDiffers 79 = .ok (.iload 5, 2) := by decide +kernel
theorem dX11_firstThatDiffers_81 : decode cX11_firstThatDiffers 81 = .ok (.isub, 1) := by decide +kernel
theorem dX11_firstThatDiffers_82 : decode cX11_firstThatDiffers 82 = .ok (.ireturn, 1) := by decide +kernel
theorem dX11_firstThatDiffers_83 : decode cX11_firstThatDiffers 83 = .ok (.aload_n 0, 1) := by decide +kernel
theorem dX11_firstThatDiffers_84 : decode cX11_firstThatDiffers 84 = .ok (.getfield 94, 3) := by decide +kernel
theorem dX11_firstThatDiffers_87 : decode cX11_firstThatDiffers 87 = .ok (.iload 4, 2) := by decide +kernel
theorem dX11_firstThatDiffers_89 : decode cX11_firstThatDiffers 89 = .ok (.iload 5, 2) := by decide +kernel
theorem dX11_firstThatDiffers_91 : decode cX11_firstThatDiffers 91 = .ok (.invokevirtual 524, 3) := by decide +kernel
theorem dX11_firstThatDiffers_94 : decode cX11_firstThatDiffers 94 = .ok (.aload_n 0, 1) := by decide +kernel
theorem dX11_firstThatDiffers_95 : decode cX11_firstThatDiffers 95 = .ok (.getfield 50, 3) := by decide +kernel
theorem dX11_firstThatDiffers_98 : decode cX11_firstThatDiffers 98 = .ok (.aload_n 3, 1) := by decide +kernel
theorem dX11_firstThatDiffers_99 : decode cX11_firstThatDiffers 99 = .ok (.iload 6, 2) := by decide +kernel
theorem dX11_firstThatDiffers_101 : decode cX11_firstThatDiffers 101 = .ok (.iload 7, 2) := by decide +kernel
theorem dX11_firstThatDiffers_103 : decode cX11_firstThatDiffers 103 = .ok (.invokevirtual 274, 3) := by decide +kernel
theorem dX11_firstThatDiffers_106 : decode cX11_firstThatDiffers 106 = .ok (.i2l, 1) := by decide +kernel
theorem dX11_firstThatDiffers_107 : decode cX11_firstThatDiffers 107 = .ok (.lcmp, 1) := by decide +kernel
theorem dX11_firstThatDiffers_108 : decode cX11_firstThatDiffers 108 = .ok (.ifCond .eq 6, 3) := by decide +kernel
theorem dX11_firstThatDiffers_111 : decode cX11_firstThatDiffers 111 = .ok (.iload 5, 2) := by decide +kernel
theorem dX11_firstThatDiffers_113 : decode cX11_firstThatDiffers 113 = .ok (.ireturn, 1) := by decide +kernel
theorem dX11_firstThatDiffers_114 : decode cX11_firstThatDiffers 114 = .ok (.iinc 5 1, 3) := by decide +kernel
theorem dX11_firstThatDiffers_117 : decode cX11_firstThatDiffers 117 = .ok (.iinc 7 1, 3) := by decide +kernel
theorem dX11_firstThatDiffers_120 : decode cX11_firstThatDiffers 120 = .ok (.goto (-88), 3) := by decide +kernel
theorem dX11_firstThatDiffers_123 : decode cX11_firstThatDiffers 123 = .ok (.iinc 6 1, 3) := by decide +kernel
theorem dX11_firstThatDiffers_126 : decode cX11_firstThatDiffers 126 = .ok (.goto (-112), 3) := by decide +kernel
theorem dX11_firstThatDiffers_129 : decode cX11_firstThatDiffers 129 = .ok (.iconst (-1), 1) := by decide +kernel
theorem dX11_firstThatDiffers_130 : decode cX11_firstThatDiffers 130 = .ok (.ireturn, 1) := by decide +kernel
theorem dX11_isWithin_0 : decode cX11_isWithin 0 = .ok (.lload_n 0, 1) := by decide +kernel
theorem dX11_isWithin_1 : decode cX11_isWithin 1 = .ok (.lload_n 2, 1) := by decide +kernel
theorem dX11_isWithin_2 : decode cX11_isWithin 2 = .ok (.lcmp, 1) := by decide +kernel
theorem dX11_isWithin_3 : decode cX11_isWithin 3 = .ok (.ifCond .lt 14, 3) := by decide +kernel
theorem dX11_isWithin_6 : decode cX11_isWithin 6 = .ok (.lload_n 0, 1) := by decide +kernel
theorem dX11_isWithin_7 : decode cX11_isWithin 7 = .ok (.lload 4, 2) := by decide +kernel
theorem dX11_isWithin_9 : decode cX11_isWithin 9 = .ok (.lcmp, 1) := by decide +kernel
theorem dX11_isWithin_10 : decode cX11_isWithin 10 = .ok (.ifCond .gt 7, 3) := by decide +kernel
theorem dX11_isWithin_13 : decode cX11_isWithin 13 = .ok (.iconst 1, 1) := by decide +kernel
theorem dX11_isWithin_14 : decode cX11_isWithin 14 = .ok (.goto 4, 3) := by decide +kernel
theorem dX11_isWithin_17 : decode cX11_isWithin 17 = .ok (.iconst 0, 1) := by decide +kernel
theorem dX11_isWithin_18 : decode cX11_isWithin 18 = .ok (.ireturn, 1) := by decide +kernel
theorem dX11_has_0 : decode cX11_has 0 = .ok (.lload_n 0, 1) := by decide +kernel
theorem dX11_has_1 : decode cX11_has 1 = .ok (.iload_n 2, 1) := by decide +kernel
theorem dX11_has_2 : decode cX11_has 2 = .ok (.lushr, 1) := by decide +kernel
theorem dX11_has_3 : decode cX11_has 3 = .ok (.lconst 1, 1) := by decide +kernel
theorem dX11_has_4 : decode cX11_has 4 = .ok (.land, 1) := by decide +kernel
theorem dX11_has_5 : decode cX11_has 5 = .ok (.lconst 0, 1) := by decide +kernel
theorem dX11_has_6 : decode cX11_has 6 = .ok (.lcmp, 1) := by decide +kernel
theorem dX11_has_7 : decode cX11_has 7 = .ok (.ifCond .eq 7, 3) := by decide +kernel
theorem dX11_has_10 : decode cX11_has 10 = .ok (.iconst 1, 1) := by decide +kernel
theorem dX11_has_11 : decode cX11_has 11 = .ok (.goto 4, 3) := by decide +kernel
theorem dX11_has_14 : decode cX11_has 14 = .ok (.iconst 0, 1) := by decide +kernel
theorem dX11_has_15 : decode cX11_has 15 = .ok (.ireturn, 1) := by decide +kernel
theorem dX11_isIn_0 : decode cX11_isIn 0 = .ok (.iload_n 2, 1) := by decide +kernel
theorem dX11_isIn_1 : decode cX11_isIn 1 = .ok (.ifCond .lt 21, 3) := by decide +kernel
theorem dX11_isIn_4 : decode cX11_isIn 4 = .ok (.iload_n 2, 1) := by decide +kernel
theorem dX11_isIn_5 : decode cX11_isIn 5 = .ok (.bipush 60, 2) := by decide +kernel
theorem dX11_isIn_7 : decode cX11_isIn 7 = .ok (.if_icmp .ge 15, 3) := by decide +kernel
theorem dX11_isIn_10 : decode cX11_isIn 10 = .ok (.lload_n 0, 1) := by decide +kernel
theorem dX11_isIn_11 : decode cX11_isIn 11 = .ok (.iload_n 2, 1) := by decide +kernel
theorem dX11_isIn_12 : decode cX11_isIn 12 = .ok (.invokestatic 192, 3) := by decide +kernel
theorem dX11_isIn_15 : decode cX11_isIn 15 = .ok (.ifCond .eq 7, 3) := by decide +kernel
theorem dX11_isIn_18 : decode cX11_isIn 18 = .ok (.iconst 1, 1) := by decide +kernel
theorem dX11_isIn_19 : decode cX11_isIn 19 = .ok (.goto 4, 3) := by decide +kernel
theorem dX11_isIn_22 : decode cX11_isIn 22 = .ok (.iconst 0, 1) := by decide +kernel
theorem dX11_isIn_23 : decode cX11_isIn 23 = .ok (.ireturn, 1) := by decide +kernel
theorem dX11_only_0 : decode cX11_only 0 = .ok (.lconst 1, 1) := by decide +kernel
theorem dX11_only_1 : decode cX11_only 1 = .ok (.iload_n 0, 1) := by decide +kernel
theorem dX11_only_2 : decode cX11_only 2 = .ok (.lshl, 1) := by decide +kernel
theorem dX11_only_3 : decode cX11_only 3 = .ok (.lreturn, 1) := by decide +kernel
theorem dX11_above_0 : decode cX11_above 0 = .ok (.ldc2_w 629, 3) := by decide +kernel
theorem dX11_above_3 : decode cX11_above 3 = .ok (.iload_n 0, 1) := by decide +kernel
theorem dX11_above_4 : decode cX11_above 4 = .ok (.lshl, 1) := by decide +kernel
theorem dX11_above_5 : decode cX11_above 5 = .ok (.lreturn, 1) := by decide +kernel
theorem dX11_quotient_0 : decode cX11_quotient 0 = .ok (.iload_n 1, 1) := by decide +kernel
theorem dX11_quotient_1 : decode cX11_quotient 1 = .ok (.ifCond .le 9, 3) := by decide +kernel
theorem dX11_quotient_4 : decode cX11_quotient 4 = .ok (.iload_n 0, 1) := by decide +kernel
theorem dX11_quotient_5 : decode cX11_quotient 5 = .ok (.iload_n 1, 1) := by decide +kernel
theorem dX11_quotient_6 : decode cX11_quotient 6 = .ok (.idiv, 1) := by decide +kernel
theorem dX11_quotient_7 : decode cX11_quotient 7 = .ok (.goto 4, 3) := by decide +kernel
theorem dX11_quotient_10 : decode cX11_quotient 10 = .ok (.iconst 0, 1) := by decide +kernel
theorem dX11_quotient_11 : decode cX11_quotient 11 = .ok (.ireturn, 1) := by decide +kernel
theorem dX11_logOf_0 : decode cX11_logOf 0 = .ok (.iconst 0, 1) := by decide +kernel
theorem dX11_logOf_1 : decode cX11_logOf 1 = .ok (.istore_n 1, 1) := by decide +kernel
theorem dX11_logOf_2 : decode cX11_logOf 2 = .ok (.iconst 0, 1) := by decide +kernel
theorem dX11_logOf_3 : decode cX11_logOf 3 = .ok (.istore_n 2, 1) := by decide +kernel
theorem dX11_logOf_4 : decode cX11_logOf 4 = .ok (.iload_n 2, 1) := by decide +kernel
theorem dX11_logOf_5 : decode cX11_logOf 5 = .ok (.bipush 30, 2) := by decide +kernel
theorem dX11_logOf_7 : decode cX11_logOf 7 = .ok (.if_icmp .ge 19, 3) := by decide +kernel
theorem dX11_logOf_10 : decode cX11_logOf 10 = .ok (.iload_n 0, 1) := by decide +kernel
theorem dX11_logOf_11 : decode cX11_logOf 11 = .ok (.iload_n 1, 1) := by decide +kernel
theorem dX11_logOf_12 : decode cX11_logOf 12 = .ok (.ishr, 1) := by decide +kernel
theorem dX11_logOf_13 : decode cX11_logOf 13 = .ok (.iconst 1, 1) := by decide +kernel
theorem dX11_logOf_14 : decode cX11_logOf 14 = .ok (.if_icmp .le 12, 3) := by decide +kernel
theorem dX11_logOf_17 : decode cX11_logOf 17 = .ok (.iinc 1 1, 3) := by decide +kernel
theorem dX11_logOf_20 : decode cX11_logOf 20 = .ok (.iinc 2 1, 3) := by decide +kernel
theorem dX11_logOf_23 : decode cX11_logOf 23 = .ok (.goto (-19), 3) := by decide +kernel
theorem dX11_logOf_26 : decode cX11_logOf 26 = .ok (.bipush 64, 2) := by decide +kernel
theorem dX11_logOf_28 : decode cX11_logOf 28 = .ok (.iload_n 1, 1) := by decide +kernel
theorem dX11_logOf_29 : decode cX11_logOf 29 = .ok (.imul, 1) := by decide +kernel
theorem dX11_logOf_30 : decode cX11_logOf 30 = .ok (.bipush 64, 2) := by decide +kernel
theorem dX11_logOf_32 : decode cX11_logOf 32 = .ok (.iload_n 0, 1) := by decide +kernel
theorem dX11_logOf_33 : decode cX11_logOf 33 = .ok (.iconst 1, 1) := by decide +kernel
theorem dX11_logOf_34 : decode cX11_logOf 34 = .ok (.iload_n 1, 1) := by decide +kernel
theorem dX11_logOf_35 : decode cX11_logOf 35 = .ok (.ishl, 1) := by decide +kernel
theorem dX11_logOf_36 : decode cX11_logOf 36 = .ok (.isub, 1) := by decide +kernel
theorem dX11_logOf_37 : decode cX11_logOf 37 = .ok (.imul, 1) := by decide +kernel
theorem dX11_logOf_38 : decode cX11_logOf 38 = .ok (.iload_n 1, 1) := by decide +kernel
theorem dX11_logOf_39 : decode cX11_logOf 39 = .ok (.ishr, 1) := by decide +kernel
theorem dX11_logOf_40 : decode cX11_logOf 40 = .ok (.iadd, 1) := by decide +kernel
theorem dX11_logOf_41 : decode cX11_logOf 41 = .ok (.ireturn, 1) := by decide +kernel
theorem dX12_init_0 : decode cX12_init 0 = .ok (.aload_n 0, 1) := by decide +kernel
theorem dX12_init_1 : decode cX12_init 1 = .ok (.invokespecial 1, 3) := by decide +kernel
theorem dX12_init_4 : decode cX12_init 4 = .ok (.aload_n 0, 1) := by decide +kernel
theorem dX12_init_5 : decode cX12_init 5 = .ok (.bipush 30, 2) := by decide +kernel
theorem dX12_init_7 : decode cX12_init 7 = .ok (.newarray .int, 2) := by decide +kernel
theorem dX12_init_9 : decode cX12_init 9 = .ok (.putfield 9, 3) := by decide +kernel
theorem dX12_init_12 : decode cX12_init 12 = .ok (.aload_n 0, 1) := by decide +kernel
theorem dX12_init_13 : decode cX12_init 13 = .ok (.bipush 30, 2) := by decide +kernel
theorem dX12_init_15 : decode cX12_init 15 = .ok (.newarray .int, 2) := by decide +kernel
theorem dX12_init_17 : decode cX12_init 17 = .ok (.putfield 13, 3) := by decide +kernel
theorem dX12_init_20 : decode cX12_init 20 = .ok (.aload_n 0, 1) := by decide +kernel
theorem dX12_init_21 : decode cX12_init 21 = .ok (.bipush 30, 2) := by decide +kernel
theorem dX12_init_23 : decode cX12_init 23 = .ok (.newarray .int, 2) := by decide +kernel
theorem dX12_init_25 : decode cX12_init 25 = .ok (.putfield 16, 3) := by decide +kernel
theorem dX12_init_28 : decode cX12_init 28 = .ok (.aload_n 0, 1) := by decide +kernel
theorem dX12_init_29 : decode cX12_init 29 = .ok (.bipush 20, 2) := by decide +kernel
theorem dX12_init_31 : decode cX12_init 31 = .ok (.newarray .int, 2) := by decide +kernel
theorem dX12_init_33 : decode cX12_init 33 = .ok (.putfield 19, 3) := by decide +kernel
theorem dX12_init_36 : decode cX12_init 36 = .ok (.aload_n 0, 1) := by decide +kernel
theorem dX12_init_37 : decode cX12_init 37 = .ok (.bipush 10, 2) := by decide +kernel
theorem dX12_init_39 : decode cX12_init 39 = .ok (.newarray .int, 2) := by decide +kernel
theorem dX12_init_41 : decode cX12_init 41 = .ok (.putfield 22, 3) := by decide +kernel
theorem dX12_init_44 : decode cX12_init 44 = .ok (.aload_n 0, 1) := by decide +kernel
theorem dX12_init_45 : decode cX12_init 45 = .ok (.bipush 10, 2) := by decide +kernel
theorem dX12_init_47 : decode cX12_init 47 = .ok (.newarray .int, 2) := by decide +kernel
theorem dX12_init_49 : decode cX12_init 49 = .ok (.putfield 25, 3) := by decide +kernel
theorem dX12_init_52 : decode cX12_init 52 = .ok (.aload_n 0, 1) := by decide +kernel
theorem dX12_init_53 : decode cX12_init 53 = .ok (.bipush 60, 2) := by decide +kernel
theorem dX12_init_55 : decode cX12_init 55 = .ok (.newarray .int, 2) := by decide +kernel
theorem dX12_init_57 : decode cX12_init 57 = .ok (.putfield 28, 3) := by decide +kernel
theorem dX12_init_60 : decode cX12_init 60 = .ok (.aload_n 0, 1) := by decide +kernel
theorem dX12_init_61 : decode cX12_init 61 = .ok (.bipush 60, 2) := by decide +kernel
theorem dX12_init_63 : decode cX12_init 63 = .ok (.newarray .int, 2) := by decide +kernel
theorem dX12_init_65 : decode cX12_init 65 = .ok (.putfield 31, 3) := by decide +kernel
theorem dX12_init_68 : decode cX12_init 68 = .ok (.aload_n 0, 1) := by decide +kernel
theorem dX12_init_69 : decode cX12_init 69 = .ok (.bipush 60, 2) := by decide +kernel
theorem dX12_init_71 : decode cX12_init 71 = .ok (.newarray .int, 2) := by decide +kernel
theorem dX12_init_73 : decode cX12_init 73 = .ok (.putfield 34, 3) := by decide +kernel
theorem dX12_init_76 : decode cX12_init 76 = .ok (.aload_n 0, 1) := by decide +kernel
theorem dX12_init_77 : decode cX12_init 77 = .ok (.bipush 60, 2) := by decide +kernel
theorem dX12_init_79 : decode cX12_init 79 = .ok (.newarray .int, 2) := by decide +kernel
theorem dX12_init_81 : decode cX12_init 81 = .ok (.putfield 37, 3) := by decide +kernel
theorem dX12_init_84 : decode cX12_init 84 = .ok (.aload_n 0, 1) := by decide +kernel
theorem dX12_init_85 : decode cX12_init 85 = .ok (.bipush 60, 2) := by decide +kernel
theorem dX12_init_87 : decode cX12_init 87 = .ok (.newarray .int, 2) := by decide +kernel
theorem dX12_init_89 : decode cX12_init 89 = .ok (.putfield 40, 3) := by decide +kernel
theorem dX12_init_92 : decode cX12_init 92 = .ok (.aload_n 0, 1) := by decide +kernel
theorem dX12_init_93 : decode cX12_init 93 = .ok (.bipush 60, 2) := by decide +kernel
theorem dX12_init_95 : decode cX12_init 95 = .ok (.newarray .int, 2) := by decide +kernel
theorem dX12_init_97 : decode cX12_init 97 = .ok (.putfield 43, 3) := by decide +kernel
theorem dX12_init_100 : decode cX12_init 100 = .ok (.aload_n 0, 1) := by decide +kernel
theorem dX12_init_101 : decode cX12_init 101 = .ok (.bipush 60, 2) := by decide +kernel
theorem dX12_init_103 : decode cX12_init 103 = .ok (.newarray .boolean, 2) := by decide +kernel
theorem dX12_init_105 : decode cX12_init 105 = .ok (.putfield 46, 3) := by decide +kernel
theorem dX12_init_108 : decode cX12_init 108 = .ok (.aload_n 0, 1) := by decide +kernel
theorem dX12_init_109 : decode cX12_init 109 = .ok (.bipush 60, 2) := by decide +kernel
theorem dX12_init_111 : decode cX12_init 111 = .ok (.newarray .boolean, 2) := by decide +kernel
theorem dX12_init_113 : decode cX12_init 113 = .ok (.putfield 50, 3) := by decide +kernel
theorem dX12_init_116 : decode cX12_init 116 = .ok (.aload_n 0, 1) := by decide +kernel
theorem dX12_init_117 : decode cX12_init 117 = .ok (.sipush 3600, 3) := by decide +kernel
theorem dX12_init_120 : decode cX12_init 120 = .ok (.newarray .boolean, 2) := by decide +kernel
theorem dX12_init_122 : decode cX12_init 122 = .ok (.putfield 53, 3) := by decide +kernel
theorem dX12_init_125 : decode cX12_init 125 = .ok (.aload_n 0, 1) := by decide +kernel
theorem dX12_init_126 : decode cX12_init 126 = .ok (.sipush 960, 3) := by decide +kernel
theorem dX12_init_129 : decode cX12_init 129 = .ok (.newarray .int, 2) := by decide +kernel
theorem dX12_init_131 : decode cX12_init 131 = .ok (.putfield 56, 3) := by decide +kernel
theorem dX12_init_134 : decode cX12_init 134 = .ok (.aload_n 0, 1) := by decide +kernel
theorem dX12_init_135 : decode cX12_init 135 = .ok (.sipush 960, 3) := by decide +kernel
theorem dX12_init_138 : decode cX12_init 138 = .ok (.newarray .int, 2) := by decide +kernel
theorem dX12_init_140 : decode cX12_init 140 = .ok (.putfield 59, 3) := by decide +kernel
theorem dX12_init_143 : decode cX12_init 143 = .ok (.aload_n 0, 1) := by decide +kernel
theorem dX12_init_144 : decode cX12_init 144 = .ok (.bipush 40, 2) := by decide +kernel
theorem dX12_init_146 : decode cX12_init 146 = .ok (.newarray .int, 2) := by decide +kernel
theorem dX12_init_148 : decode cX12_init 148 = .ok (.putfield 62, 3) := by decide +kernel
theorem dX12_init_151 : decode cX12_init 151 = .ok (.aload_n 0, 1) := by decide +kernel
theorem dX12_init_152 : decode cX12_init 152 = .ok (.bipush 40, 2) := by decide +kernel
theorem dX12_init_154 : decode cX12_init 154 = .ok (.newarray .int, 2) := by decide +kernel
theorem dX12_init_156 : decode cX12_init 156 = .ok (.putfield 65, 3) := by decide +kernel
theorem dX12_init_159 : decode cX12_init 159 = .ok (.aload_n 0, 1) := by decide +kernel
theorem dX12_init_160 : decode cX12_init 160 = .ok (.bipush 40, 2) := by decide +kernel
theorem dX12_init_162 : decode cX12_init 162 = .ok (.newarray .int, 2) := by decide +kernel
theorem dX12_init_164 : decode cX12_init 164 = .ok (.putfield 68, 3) := by decide +kernel
theorem dX12_init_167 : decode cX12_init 167 = .ok (.aload_n 0, 1) := by decide +kernel
theorem dX12_init_168 : decode cX12_init 168 = .ok (.ldc 71, 2) := by decide +kernel
theorem dX12_init_170 : decode cX12_init 170 = .ok (.putfield 72, 3) := by decide +kernel
theorem dX12_init_173 : decode cX12_init 173 = .ok (.aload_n 0, 1) := by decide +kernel
theorem dX12_init_174 : decode cX12_init 174 = .ok (.sipush 960, 3) := by decide +kernel
theorem dX12_init_177 : decode cX12_init 177 = .ok (.newarray .int, 2) := by decide +kernel
theorem dX12_init_179 : decode cX12_init 179 = .ok (.putfield 76, 3) := by decide +kernel
theorem dX12_init_182 : decode cX12_init 182 = .ok (.aload_n 0, 1) := by decide +kernel
theorem dX12_init_183 : decode cX12_init 183 = .ok (.sipush 3600, 3) := by decide +kernel
theorem dX12_init_186 : decode cX12_init 186 = .ok (.newarray .int, 2) := by decide +kernel
theorem dX12_init_188 : decode cX12_init 188 = .ok (.putfield 79, 3) := by decide +kernel
theorem dX12_init_191 : decode cX12_init 191 = .ok (.aload_n 0, 1) := by decide +kernel
theorem dX12_init_192 : decode cX12_init 192 = .ok (.bipush 16, 2) := by decide +kernel
theorem dX12_init_194 : decode cX12_init 194 = .ok (.newarray .int, 2) := by decide +kernel
theorem dX12_init_196 : decode cX12_init 196 = .ok (.putfield 82, 3) := by decide +kernel
theorem dX12_init_199 : decode cX12_init 199 = .ok (.aload_n 0, 1) := by decide +kernel
theorem dX12_init_200 : decode cX12_init 200 = .ok (.sipush 384, 3) := by decide +kernel
theorem dX12_init_203 : decode cX12_init 203 = .ok (.newarray .int, 2) := by decide +kernel
theorem dX12_init_205 : decode cX12_init 205 = .ok (.putfield 85, 3) := by decide +kernel
theorem dX12_init_208 : decode cX12_init 208 = .ok (.aload_n 0, 1) := by decide +kernel
theorem dX12_init_209 : decode cX12_init 209 = .ok (.sipush 192, 3) := by decide +kernel
theorem dX12_init_212 : decode cX12_init 212 = .ok (.newarray .int, 2) := by decide +kernel
theorem dX12_init_214 : decode cX12_init 214 = .ok (.putfield 88, 3) := by decide +kernel
theorem dX12_init_217 : decode cX12_init 217 = .ok (.aload_n 0, 1) := by decide +kernel
theorem dX12_init_218 : decode cX12_init 218 = .ok (.iconst (-1), 1) := by decide +kernel
theorem dX12_init_219 : decode cX12_init 219 = .ok (.putfield 91, 3) := by decide +kernel
theorem dX12_init_222 : decode cX12_init 222 = .ok (.aload_n 0, 1) := by decide +kernel
theorem dX12_init_223 : decode cX12_init 223 = .ok (.sipush 256, 3) := by decide +kernel
theorem dX12_init_226 : decode cX12_init 226 = .ok (.newarray .int, 2) := by decide +kernel
theorem dX12_init_228 : decode cX12_init 228 = .ok (.putfield 94, 3) := by decide +kernel
theorem dX12_init_231 : decode cX12_init 231 = .ok (.aload_n 0, 1) := by decide +kernel
theorem dX12_init_232 : decode cX12_init 232 = .ok (.bipush 16, 2) := by decide +kernel
theorem dX12_init_234 : decode cX12_init 234 = .ok (.newarray .int, 2) := by decide +kernel
theorem dX12_init_236 : decode cX12_init 236 = .ok (.putfield 97, 3) := by decide +kernel
theorem dX12_init_239 : decode cX12_init 239 = .ok (.aload_n 0, 1) := by decide +kernel
theorem dX12_init_240 : decode cX12_init 240 = .ok (.bipush 16, 2) := by decide +kernel
theorem dX12_init_242 : decode cX12_init 242 = .ok (.newarray .int, 2) := by decide +kernel
theorem dX12_init_244 : decode cX12_init 244 = .ok (.putfield 100, 3) := by decide +kernel
theorem dX12_init_247 : decode cX12_init 247 = .ok (.aload_n 0, 1) := by decide +kernel
theorem dX12_init_248 : decode cX12_init 248 = .ok (.bipush 9, 2) := by decide +kernel
theorem dX12_init_250 : decode cX12_init 250 = .ok (.newarray .int, 2) := by decide +kernel
theorem dX12_init_252 : decode cX12_init 252 = .ok (.putfield 103, 3) := by decide +kernel
theorem dX12_init_255 : decode cX12_init 255 = .ok (.aload_n 0, 1) := by decide +kernel
theorem dX12_init_256 : decode cX12_init 256 = .ok (.bipush 9, 2) := by decide +kernel
theorem dX12_init_258 : decode cX12_init 258 = .ok (.newarray .int, 2) := by decide +kernel
theorem dX12_init_260 : decode cX12_init 260 = .ok (.putfield 106, 3) := by decide +kernel
theorem dX12_init_263 : decode cX12_init 263 = .ok (.aload_n 0, 1) := by decide +kernel
theorem dX12_init_264 : decode cX12_init 264 = .ok (.bipush 9, 2) := by decide +kernel
theorem dX12_init_266 : decode cX12_init 266 = .ok (.newarray .int, 2) := by decide +kernel
theorem dX12_init_268 : decode cX12_init 268 = .ok (.putfield 109, 3) := by decide +kernel
theorem dX12_init_271 : decode cX12_init 271 = .ok (.aload_n 0, 1) := by decide +kernel
theorem dX12_init_272 : decode cX12_init 272 = .ok (.bipush 81, 2) := by decide +kernel
theorem dX12_init_274 : decode cX12_init 274 = .ok (.newarray .int, 2) := by decide +kernel
theorem dX12_init_276 : decode cX12_init 276 = .ok (.putfield 112, 3) := by decide +kernel
theorem dX12_init_279 : decode cX12_init 279 = .ok (.aload_n 0, 1) := by decide +kernel
theorem dX12_init_280 : decode cX12_init 280 = .ok (.bipush 81, 2) := by decide +kernel
theorem dX12_init_282 : decode cX12_init 282 = .ok (.newarray .int, 2) := by decide +kernel
theorem dX12_init_284 : decode cX12_init 284 = .ok (.putfield 115, 3) := by decide +kernel
theorem dX12_init_287 : decode cX12_init 287 = .ok (.aload_n 0, 1) := by decide +kernel
theorem dX12_init_288 : decode cX12_init 288 = .ok (.bipush 60, 2) := by decide +kernel
theorem dX12_init_290 : decode cX12_init 290 = .ok (.newarray .int, 2) := by decide +kernel
theorem dX12_init_292 : decode cX12_init 292 = .ok (.putfield 118, 3) := by decide +kernel
theorem dX12_init_295 : decode cX12_init 295 = .ok (.aload_n 0, 1) := by decide +kernel
theorem dX12_init_296 : decode cX12_init 296 = .ok (.sipush 3600, 3) := by decide +kernel
theorem dX12_init_299 : decode cX12_init 299 = .ok (.newarray .int, 2) := by decide +kernel
theorem dX12_init_301 : decode cX12_init 301 = .ok (.putfield 121, 3) := by decide +kernel
theorem dX12_init_304 : decode cX12_init 304 = .ok (.aload_n 0, 1) := by decide +kernel
theorem dX12_init_305 : decode cX12_init 305 = .ok (.bipush 120, 2) := by decide +kernel
theorem dX12_init_307 : decode cX12_init 307 = .ok (.newarray .int, 2) := by decide +kernel
theorem dX12_init_309 : decode cX12_init 309 = .ok (.putfield 124, 3) := by decide +kernel
theorem dX12_init_312 : decode cX12_init 312 = .ok (.aload_n 0, 1) := by decide +kernel
theorem dX12_init_313 : decode cX12_init 313 = .ok (.bipush 120, 2) := by decide +kernel
theorem dX12_init_315 : decode cX12_init 315 = .ok (.newarray .int, 2) := by decide +kernel
theorem dX12_init_317 : decode cX12_init 317 = .ok (.putfield 127, 3) := by decide +kernel
theorem dX12_init_320 : decode cX12_init 320 = .ok (.aload_n 0, 1) := by decide +kernel
theorem dX12_init_321 : decode cX12_init 321 = .ok (.bipush 30, 2) := by decide +kernel
theorem dX12_init_323 : decode cX12_init 323 = .ok (.newarray .int, 2) := by decide +kernel
theorem dX12_init_325 : decode cX12_init 325 = .ok (.putfield 130, 3) := by decide +kernel
theorem dX12_init_328 : decode cX12_init 328 = .ok (.aload_n 0, 1) := by decide +kernel
theorem dX12_init_329 : decode cX12_init 329 = .ok (.bipush 30, 2) := by decide +kernel
theorem dX12_init_331 : decode cX12_init 331 = .ok (.newarray .int, 2) := by decide +kernel
theorem dX12_init_333 : decode cX12_init 333 = .ok (.putfield 133, 3) := by decide +kernel
theorem dX12_init_336 : decode cX12_init 336 = .ok (.aload_n 0, 1) := by decide +kernel
theorem dX12_init_337 : decode cX12_init 337 = .ok (.bipush 20, 2) := by decide +kernel
theorem dX12_init_339 : decode cX12_init 339 = .ok (.newarray .int, 2) := by decide +kernel
theorem dX12_init_341 : decode cX12_init 341 = .ok (.putfield 136, 3) := by decide +kernel
theorem dX12_init_344 : decode cX12_init 344 = .ok (.aload_n 0, 1) := by decide +kernel
theorem dX12_init_345 : decode cX12_init 345 = .ok (.bipush 20, 2) := by decide +kernel
theorem dX12_init_347 : decode cX12_init 347 = .ok (.newarray .int, 2) := by decide +kernel
theorem dX12_init_349 : decode cX12_init 349 = .ok (.putfield 139, 3) := by decide +kernel
theorem dX12_init_352 : decode cX12_init 352 = .ok (.aload_n 0, 1) := by decide +kernel
theorem dX12_init_353 : decode cX12_init 353 = .ok (.bipush 60, 2) := by decide +kernel
theorem dX12_init_355 : decode cX12_init 355 = .ok (.newarray .boolean, 2) := by decide +kernel
theorem dX12_init_357 : decode cX12_init 357 = .ok (.putfield 142, 3) := by decide +kernel
theorem dX12_init_360 : decode cX12_init 360 = .ok (.aload_n 0, 1) := by decide +kernel
theorem dX12_init_361 : decode cX12_init 361 = .ok (.sipush 960, 3) := by decide +kernel
theorem dX12_init_364 : decode cX12_init 364 = .ok (.newarray .int, 2) := by decide +kernel
theorem dX12_init_366 : decode cX12_init 366 = .ok (.putfield 145, 3) := by decide +kernel
theorem dX12_init_369 : decode cX12_init 369 = .ok (.aload_n 0, 1) := by decide +kernel
theorem dX12_init_370 : decode cX12_init 370 = .ok (.bipush 60, 2) := by decide +kernel
theorem dX12_init_372 : decode cX12_init 372 = .ok (.newarray .int, 2) := by decide +kernel
theorem dX12_init_374 : decode cX12_init 374 = .ok (.putfield 148, 3) := by decide +kernel
theorem dX12_init_377 : decode cX12_init 377 = .ok (.aload_n 0, 1) := by decide +kernel
theorem dX12_init_378 : decode cX12_init 378 = .ok (.sipush 300, 3) := by decide +kernel
theorem dX12_init_381 : decode cX12_init 381 = .ok (.newarray .int, 2) := by decide +kernel
theorem dX12_init_383 : decode cX12_init 383 = .ok (.putfield 151, 3) := by decide +kernel
theorem dX12_init_386 : decode cX12_init 386 = .ok (.aload_n 0, 1) := by decide +kernel
theorem dX12_init_387 : decode cX12_init 387 = .ok (.sipush 500, 3) := by decide +kernel
theorem dX12_init_390 : decode cX12_init 390 = .ok (.newarray .int, 2) := by decide +kernel
theorem dX12_init_392 : decode cX12_init 392 = .ok (.putfield 154, 3) := by decide +kernel
theorem dX12_init_395 : decode cX12_init 395 = .ok (.aload_n 0, 1) := by decide +kernel
theorem dX12_init_396 : decode cX12_init 396 = .ok (.sipush 500, 3) := by decide +kernel
theorem dX12_init_399 : decode cX12_init 399 = .ok (.newarray .int, 2) := by decide +kernel
theorem dX12_init_401 : decode cX12_init 401 = .ok (.putfield 157, 3) := by decide +kernel
theorem dX12_init_404 : decode cX12_init 404 = .ok (.aload_n 0, 1) := by decide +kernel
theorem dX12_init_405 : decode cX12_init 405 = .ok (.iconst (-1), 1) := by decide +kernel
theorem dX12_init_406 : decode cX12_init 406 = .ok (.putfield 160, 3) := by decide +kernel
theorem dX12_init_409 : decode cX12_init 409 = .ok (.aload_n 0, 1) := by decide +kernel
theorem dX12_init_410 : decode cX12_init 410 = .ok (.bipush 48, 2) := by decide +kernel
theorem dX12_init_412 : decode cX12_init 412 = .ok (.newarray .int, 2) := by decide +kernel
theorem dX12_init_414 : decode cX12_init 414 = .ok (.putfield 163, 3) := by decide +kernel
theorem dX12_init_417 : decode cX12_init 417 = .ok (.aload_n 0, 1) := by decide +kernel
theorem dX12_init_418 : decode cX12_init 418 = .ok (.bipush 48, 2) := by decide +kernel
theorem dX12_init_420 : decode cX12_init 420 = .ok (.newarray .int, 2) := by decide +kernel
theorem dX12_init_422 : decode cX12_init 422 = .ok (.putfield 166, 3) := by decide +kernel
theorem dX12_init_425 : decode cX12_init 425 = .ok (.aload_n 0, 1) := by decide +kernel
theorem dX12_init_426 : decode cX12_init 426 = .ok (.bipush 7, 2) := by decide +kernel
theorem dX12_init_428 : decode cX12_init 428 = .ok (.newarray .long, 2) := by decide +kernel
theorem dX12_init_430 : decode cX12_init 430 = .ok (.putfield 169, 3) := by decide +kernel
theorem dX12_init_433 : decode cX12_init 433 = .ok (.aload_n 0, 1) := by decide +kernel
theorem dX12_init_434 : decode cX12_init 434 = .ok (.bipush 64, 2) := by decide +kernel
theorem dX12_init_436 : decode cX12_init 436 = .ok (.newarray .long, 2) := by decide +kernel
theorem dX12_init_438 : decode cX12_init 438 = .ok (.putfield 173, 3) := by decide +kernel
theorem dX12_init_441 : decode cX12_init 441 = .ok (.aload_n 0, 1) := by decide +kernel
theorem dX12_init_442 : decode cX12_init 442 = .ok (.iconst 4, 1) := by decide +kernel
theorem dX12_init_443 : decode cX12_init 443 = .ok (.newarray .int, 2) := by decide +kernel
theorem dX12_init_445 : decode cX12_init 445 = .ok (.dup, 1) := by decide +kernel
theorem dX12_init_446 : decode cX12_init 446 = .ok (.iconst 0, 1) := by decide +kernel
theorem dX12_init_447 : decode cX12_init 447 = .ok (.iconst (-1), 1) := by decide +kernel
theorem dX12_init_448 : decode cX12_init 448 = .ok (.iastore, 1) := by decide +kernel
theorem dX12_init_449 : decode cX12_init 449 = .ok (.dup, 1) := by decide +kernel
theorem dX12_init_450 : decode cX12_init 450 = .ok (.iconst 1, 1) := by decide +kernel
theorem dX12_init_451 : decode cX12_init 451 = .ok (.iconst (-1), 1) := by decide +kernel
theorem dX12_init_452 : decode cX12_init 452 = .ok (.iastore, 1) := by decide +kernel
theorem dX12_init_453 : decode cX12_init 453 = .ok (.dup, 1) := by decide +kernel
theorem dX12_init_454 : decode cX12_init 454 = .ok (.iconst 2, 1) := by decide +kernel
theorem dX12_init_455 : decode cX12_init 455 = .ok (.iconst (-1), 1) := by decide +kernel
theorem dX12_init_456 : decode cX12_init 456 = .ok (.iastore, 1) := by decide +kernel
theorem dX12_init_457 : decode cX12_init 457 = .ok (.dup, 1) := by decide +kernel
theorem dX12_init_458 : decode cX12_init 458 = .ok (.iconst 3, 1) := by decide +kernel
theorem dX12_init_459 : decode cX12_init 459 = .ok (.iconst (-1), 1) := by decide +kernel
theorem dX12_init_460 : decode cX12_init 460 = .ok (.iastore, 1) := by decide +kernel
theorem dX12_init_461 : decode cX12_init 461 = .ok (.putfield 176, 3) := by decide +kernel
theorem dX12_init_464 : decode cX12_init 464 = .ok (.aload_n 0, 1) := by decide +kernel
theorem dX12_init_465 : decode cX12_init 465 = .ok (.iconst 4, 1) := by decide +kernel
theorem dX12_init_466 : decode cX12_init 466 = .ok (.newarray .int, 2) := by decide +kernel
theorem dX12_init_468 : decode cX12_init 468 = .ok (.putfield 179, 3) := by decide +kernel
theorem dX12_init_471 : decode cX12_init 471 = .ok (.aload_n 0, 1) := by decide +kernel
theorem dX12_init_472 : decode cX12_init 472 = .ok (.sipush 160, 3) := by decide +kernel
theorem dX12_init_475 : decode cX12_init 475 = .ok (.newarray .long, 2) := by decide +kernel
theorem dX12_init_477 : decode cX12_init 477 = .ok (.putfield 182, 3) := by decide +kernel
theorem dX12_init_480 : decode cX12_init 480 = .ok (.return_, 1) := by decide +kernel
theorem dX12_thrown_0 : decode cX12_thrown 0 = .ok (.aload_n 0, 1) := by decide +kernel
theorem dX12_thrown_1 : decode cX12_thrown 1 = .ok (.getfield 185, 3) := by decide +kernel
theorem dX12_thrown_4 : decode cX12_thrown 4 = .ok (.ireturn, 1) := by decide +kernel
theorem dX12_fails_0 : decode cX12_fails 0 = .ok (.aload_n 0, 1) := by decide +kernel
theorem dX12_fails_1 : decode cX12_fails 1 = .ok (.iload_n 1, 1) := by decide +kernel
theorem dX12_fails_2 : decode cX12_fails 2 = .ok (.putfield 185, 3) := by decide +kernel
theorem dX12_fails_5 : decode cX12_fails 5 = .ok (.iconst 0, 1) := by decide +kernel
theorem dX12_fails_6 : decode cX12_fails 6 = .ok (.ireturn, 1) := by decide +kernel
theorem dX12_fell_0 : decode cX12_fell 0 = .ok (.aload_n 0, 1) := by decide +kernel
theorem dX12_fell_1 : decode cX12_fell 1 = .ok (.iload_n 1, 1) := by decide +kernel
theorem dX12_fell_2 : decode cX12_fell 2 = .ok (.putfield 185, 3) := by decide +kernel
theorem dX12_fell_5 : decode cX12_fell 5 = .ok (.iconst 0, 1) := by decide +kernel
theorem dX12_fell_6 : decode cX12_fell 6 = .ok (.ireturn, 1) := by decide +kernel
theorem dX12_within_0 : decode cX12_within 0 = .ok (.lload_n 0, 1) := by decide +kernel
theorem dX12_within_1 : decode cX12_within 1 = .ok (.lload_n 2, 1) := by decide +kernel
theorem dX12_within_2 : decode cX12_within 2 = .ok (.lcmp, 1) := by decide +kernel
theorem dX12_within_3 : decode cX12_within 3 = .ok (.ifCond .lt 14, 3) := by decide +kernel
theorem dX12_within_6 : decode cX12_within 6 = .ok (.lload_n 0, 1) := by decide +kernel
theorem dX12_within_7 : decode cX12_within 7 = .ok (.lload 4, 2) := by decide +kernel
theorem dX12_within_9 : decode cX12_within 9 = .ok (.lcmp, 1) := by decide +kernel
theorem dX12_within_10 : decode cX12_within 10 = .ok (.ifCond .gt 7, 3) := by decide +kernel
theorem dX12_within_13 : decode cX12_within 13 = .ok (.iconst 1, 1) := by decide +kernel
theorem dX12_within_14 : decode cX12_within 14 = .ok (.goto 4, 3) := by decide +kernel
theorem dX12_within_17 : decode cX12_within 17 = .ok (.iconst 0, 1) := by decide +kernel
theorem dX12_within_18 : decode cX12_within 18 = .ok (.ireturn, 1) := by decide +kernel
theorem dX12_isHour_0 : decode cX12_isHour 0 = .ok (.iload_n 0, 1) := by decide +kernel
theorem dX12_isHour_1 : decode cX12_isHour 1 = .ok (.i2l, 1) := by decide +kernel
theorem dX12_isHour_2 : decode cX12_isHour 2 = .ok (.lconst 0, 1) := by decide +kernel
theorem dX12_isHour_3 : decode cX12_isHour 3 = .ok (.ldc2_w 188, 3) := by decide +kernel
theorem dX12_isHour_6 : decode cX12_isHour 6 = .ok (.invokestatic 190, 3) := by decide +kernel
theorem dX12_isHour_9 : decode cX12_isHour 9 = .ok (.ireturn, 1) := by decide +kernel
theorem dX12_isPlace_0 : decode cX12_isPlace 0 = .ok (.iload_n 1, 1) := by decide +kernel
theorem dX12_isPlace_1 : decode cX12_isPlace 1 = .ok (.i2l, 1) := by decide +kernel
theorem dX12_isPlace_2 : decode cX12_isPlace 2 = .ok (.lconst 0, 1) := by decide +kernel
theorem dX12_isPlace_3 : decode cX12_isPlace 3 = .ok (.aload_n 0, 1) := by decide +kernel
theorem dX12_isPlace_4 : decode cX12_isPlace 4 = .ok (.getfield 194, 3) := by decide +kernel
theorem dX12_isPlace_7 : decode cX12_isPlace 7 = .ok (.iconst 1, 1) := by decide +kernel
theorem dX12_isPlace_8 : decode cX12_isPlace 8 = .ok (.isub, 1) := by decide +kernel
theorem dX12_isPlace_9 : decode cX12_isPlace 9 = .ok (.i2l, 1) := by decide +kernel
theorem dX12_isPlace_10 : decode cX12_isPlace 10 = .ok (.invokestatic 190, 3) := by decide +kernel
theorem dX12_isPlace_13 : decode cX12_isPlace 13 = .ok (.ireturn, 1) := by decide +kernel
theorem dX12_isMark_0 : decode cX12_isMark 0 = .ok (.iload_n 1, 1) := by decide +kernel
theorem dX12_isMark_1 : decode cX12_isMark 1 = .ok (.i2l, 1) := by decide +kernel
theorem dX12_isMark_2 : decode cX12_isMark 2 = .ok (.lconst 0, 1) := by decide +kernel
theorem dX12_isMark_3 : decode cX12_isMark 3 = .ok (.aload_n 0, 1) := by decide +kernel
theorem dX12_isMark_4 : decode cX12_isMark 4 = .ok (.getfield 197, 3) := by decide +kernel
theorem dX12_isMark_7 : decode cX12_isMark 7 = .ok (.iconst 1, 1) := by decide +kernel
theorem dX12_isMark_8 : decode cX12_isMark 8 = .ok (.isub, 1) := by decide +kernel
theorem dX12_isMark_9 : decode cX12_isMark 9 = .ok (.i2l, 1) := by decide +kernel
theorem dX12_isMark_10 : decode cX12_isMark 10 = .ok (.invokestatic 190, 3) := by decide +kernel
theorem dX12_isMark_13 : decode cX12_isMark 13 = .ok (.ireturn, 1) := by decide +kernel
theorem dX12_isHand_0 : decode cX12_isHand 0 = .ok (.iload_n 1, 1) := by decide +kernel
theorem dX12_isHand_1 : decode cX12_isHand 1 = .ok (.i2l, 1) := by decide +kernel
theorem dX12_isHand_2 : decode cX12_isHand 2 = .ok (.lconst 0, 1) := by decide +kernel
theorem dX12_isHand_3 : decode cX12_isHand 3 = .ok (.aload_n 0, 1) := by decide +kernel
theorem dX12_isHand_4 : decode cX12_isHand 4 = .ok (.getfield 200, 3) := by decide +kernel
theorem dX12_isHand_7 : decode cX12_isHand 7 = .ok (.iconst 1, 1) := by decide +kernel
theorem dX12_isHand_8 : decode cX12_isHand 8 = .ok (.isub, 1) := by decide +kernel
theorem dX12_isHand_9 : decode cX12_isHand 9 = .ok (.i2l, 1) := by decide +kernel
theorem dX12_isHand_10 : decode cX12_isHand 10 = .ok (.invokestatic 190, 3) := by decide +kernel
theorem dX12_isHand_13 : decode cX12_isHand 13 = .ok (.ireturn, 1) := by decide +kernel
theorem dX12_isDeed_0 : decode cX12_isDeed 0 = .ok (.iload_n 1, 1) := by decide +kernel
theorem dX12_isDeed_1 : decode cX12_isDeed 1 = .ok (.i2l, 1) := by decide +kernel
theorem dX12_isDeed_2 : decode cX12_isDeed 2 = .ok (.lconst 0, 1) := by decide +kernel
theorem dX12_isDeed_3 : decode cX12_isDeed 3 = .ok (.aload_n 0, 1) := by decide +kernel
theorem dX12_isDeed_4 : decode cX12_isDeed 4 = .ok (.getfield 203, 3) := by decide +kernel
theorem dX12_isDeed_7 : decode cX12_isDeed 7 = .ok (.iconst 1, 1) := by decide +kernel
theorem dX12_isDeed_8 : decode cX12_isDeed 8 = .ok (.isub, 1) := by decide +kernel
theorem dX12_isDeed_9 : decode cX12_isDeed 9 = .ok (.i2l, 1) := by decide +kernel
theorem dX12_isDeed_10 : decode cX12_isDeed 10 = .ok (.invokestatic 190, 3) := by decide +kernel
theorem dX12_isDeed_13 : decode cX12_isDeed 13 = .ok (.ifCond .eq 16, 3) := by decide +kernel
theorem dX12_isDeed_16 : decode cX12_isDeed 16 = .ok (.aload_n 0, 1) := by decide +kernel
theorem dX12_isDeed_17 : decode cX12_isDeed 17 = .ok (.getfield 50, 3) := by decide +kernel
theorem dX12_isDeed_20 : decode cX12_isDeed 20 = .ok (.iload_n 1, 1) := by decide +kernel
theorem dX12_isDeed_21 : decode cX12_isDeed 21 = .ok (.baload, 1) := by decide +kernel
theorem dX12_isDeed_22 : decode cX12_isDeed 22 = .ok (.ifCond .ne 7, 3) := by decide +kernel
theorem dX12_isDeed_25 : decode cX12_isDeed 25 = .ok (.iconst 1, 1) := by decide +kernel
theorem dX12_isDeed_26 : decode cX12_isDeed 26 = .ok (.goto 4, 3) := by decide +kernel
theorem dX12_isDeed_29 : decode cX12_isDeed 29 = .ok (.iconst 0, 1) := by decide +kernel
theorem dX12_isDeed_30 : decode cX12_isDeed 30 = .ok (.ireturn, 1) := by decide +kernel
theorem dX12_stands_0 : decode cX12_stands 0 = .ok (.aload_n 0, 1) := by decide +kernel
theorem dX12_stands_1 : decode cX12_stands 1 = .ok (.iload_n 1, 1) := by decide +kernel
theorem dX12_stands_2 : decode cX12_stands 2 = .ok (.invokevirtual 206, 3) := by decide +kernel
theorem dX12_stands_5 : decode cX12_stands 5 = .ok (.ifCond .eq 16, 3) := by decide +kernel
theorem dX12_stands_8 : decode cX12_stands 8 = .ok (.aload_n 0, 1) := by decide +kernel
theorem dX12_stands_9 : decode cX12_stands 9 = .ok (.getfield 46, 3) := by decide +kernel
theorem dX12_stands_12 : decode cX12_stands 12 = .ok (.iload_n 1, 1) := by decide +kernel
theorem dX12_stands_13 : decode cX12_stands 13 = .ok (.baload, 1) := by decide +kernel
theorem dX12_stands_14 : decode cX12_stands 14 = .ok (.ifCond .ne 7, 3) := by decide +kernel
theorem dX12_stands_17 : decode cX12_stands 17 = .ok (.iconst 1, 1) := by decide +kernel
theorem dX12_stands_18 : decode cX12_stands 18 = .ok (.goto 4, 3) := by decide +kernel
theorem dX12_stands_21 : decode cX12_stands 21 = .ok (.iconst 0, 1) := by decide +kernel
theorem dX12_stands_22 : decode cX12_stands 22 = .ok (.ireturn, 1) := by decide +kernel
theorem dX12_counts_0 : decode cX12_counts 0 = .ok (.aload_n 0, 1) := by decide +kernel
theorem dX12_counts_1 : decode cX12_counts 1 = .ok (.iload_n 1, 1) := by decide +kernel
theorem dX12_counts_2 : decode cX12_counts 2 = .ok (.invokevirtual 210, 3) := by decide +kernel
theorem dX12_counts_5 : decode cX12_counts 5 = .ok (.ifCond .eq 30, 3) := by decide +kernel
theorem dX12_counts_8 : decode cX12_counts 8 = .ok (.aload_n 0, 1) := by decide +kernel
theorem dX12_counts_9 : decode cX12_counts 9 = .ok (.getfield 31, 3) := by decide +kernel
theorem dX12_counts_12 : decode cX12_counts 12 = .ok (.iload_n 1, 1) := by decide +kernel
theorem dX12_counts_13 : decode cX12_counts 13 = .ok (.iaload, 1) := by decide +kernel
theorem dX12_counts_14 : decode cX12_counts 14 = .ok (.i2l, 1) := by decide +kernel
theorem dX12_counts_15 : decode cX12_counts 15 = .ok (.aload_n 0, 1) := by decide +kernel
theorem dX12_counts_16 : decode cX12_counts 16 = .ok (.getfield 213, 3) := by decide +kernel
theorem dX12_counts_19 : decode cX12_counts 19 = .ok (.i2l, 1) := by decide +kernel
theorem dX12_counts_20 : decode cX12_counts 20 = .ok (.aload_n 0, 1) := by decide +kernel
theorem dX12_counts_21 : decode cX12_counts 21 = .ok (.getfield 72, 3) := by decide +kernel
theorem dX12_counts_24 : decode cX12_counts 24 = .ok (.i2l, 1) := by decide +kernel
theorem dX12_counts_25 : decode cX12_counts 25 = .ok (.invokestatic 190, 3) := by decide +kernel
theorem dX12_counts_28 : decode cX12_counts 28 = .ok (.ifCond .eq 7, 3) := by decide +kernel
theorem dX12_counts_31 : decode cX12_counts 31 = .ok (.iconst 1, 1) := by decide +kernel
theorem dX12_counts_32 : decode cX12_counts 32 = .ok (.goto 4, 3) := by decide +kernel
theorem dX12_counts_35 : decode cX12_counts 35 = .ok (.iconst 0, 1) := by decide +kernel
theorem dX12_counts_36 : decode cX12_counts 36 = .ok (.ireturn, 1) := by decide +kernel
theorem dX12_distance_0 : decode cX12_distance 0 = .ok (.aload_n 0, 1) := by decide +kernel
theorem dX12_distance_1 : decode cX12_distance 1 = .ok (.getfield 9, 3) := by decide +kernel
theorem dX12_distance_4 : decode cX12_distance 4 = .ok (.iload_n 1, 1) := by decide +kernel
theorem dX12_distance_5 : decode cX12_distance 5 = .ok (.iaload, 1) := by decide +kernel
theorem dX12_distance_6 : decode cX12_distance 6 = .ok (.aload_n 0, 1) := by decide +kernel
theorem dX12_distance_7 : decode cX12_distance 7 = .ok (.getfield 9, 3) := by decide +kernel
theorem dX12_distance_10 : decode cX12_distance 10 = .ok (.iload_n 2, 1) := by decide +kernel
theorem dX12_distance_11 : decode cX12_distance 11 = .ok (.iaload, 1) := by decide +kernel
theorem dX12_distance_12 : decode cX12_distance 12 = .ok (.isub, 1) := by decide +kernel
theorem dX12_distance_13 : decode cX12_distance 13 = .ok (.invokestatic 216, 3) := by decide +kernel
theorem dX12_distance_16 : decode cX12_distance 16 = .ok (.aload_n 0, 1) := by decide +kernel
theorem dX12_distance_17 : decode cX12_distance 17 = .ok (.getfield 13, 3) := by decide +kernel
theorem dX12_distance_20 : decode cX12_distance 20 = .ok (.iload_n 1, 1) := by decide +kernel
theorem dX12_distance_21 : decode cX12_distance 21 = .ok (.iaload, 1) := by decide +kernel
theorem dX12_distance_22 : decode cX12_distance 22 = .ok (.aload_n 0, 1) := by decide +kernel
theorem dX12_distance_23 : decode cX12_distance 23 = .ok (.getfield 13, 3) := by decide +kernel
theorem dX12_distance_26 : decode cX12_distance 26 = .ok (.iload_n 2, 1) := by decide +kernel
theorem dX12_distance_27 : decode cX12_distance 27 = .ok (.iaload, 1) := by decide +kernel
theorem dX12_distance_28 : decode cX12_distance 28 = .ok (.isub, 1) := by decide +kernel
theorem dX12_distance_29 : decode cX12_distance 29 = .ok (.invokestatic 216, 3) := by decide +kernel
theorem dX12_distance_32 : decode cX12_distance 32 = .ok (.iadd, 1) := by decide +kernel
theorem dX12_distance_33 : decode cX12_distance 33 = .ok (.ireturn, 1) := by decide +kernel
theorem dX12_place_0 : decode cX12_place 0 = .ok (.aload_n 0, 1) := by decide +kernel
theorem dX12_place_1 : decode cX12_place 1 = .ok (.iconst 0, 1) := by decide +kernel
theorem dX12_place_2 : decode cX12_place 2 = .ok (.putfield 185, 3) := by decide +kernel
theorem dX12_place_5 : decode cX12_place 5 = .ok (.iload_n 1, 1) := by decide +kernel
theorem dX12_place_6 : decode cX12_place 6 = .ok (.i2l, 1) := by decide +kernel
theorem dX12_place_7 : decode cX12_place 7 = .ok (.lconst 0, 1) := by decide +kernel
theorem dX12_place_8 : decode cX12_place 8 = .ok (.ldc2_w 222, 3) := by decide +kernel
theorem dX12_place_11 : decode cX12_place 11 = .ok (.invokestatic 190, 3) := by decide +kernel
theorem dX12_place_14 : decode cX12_place 14 = .ok (.ifCond .eq 27, 3) := by decide +kernel
theorem dX12_place_17 : decode cX12_place 17 = .ok (.iload_n 2, 1) := by decide +kernel
theorem dX12_place_18 : decode cX12_place 18 = .ok (.i2l, 1) := by decide +kernel
theorem dX12_place_19 : decode cX12_place 19 = .ok (.lconst 0, 1) := by decide +kernel
theorem dX12_place_20 : decode cX12_place 20 = .ok (.ldc2_w 222, 3) := by decide +kernel
theorem dX12_place_23 : decode cX12_place 23 = .ok (.invokestatic 190, 3) := by decide +kernel
theorem dX12_place_26 : decode cX12_place 26 = .ok (.ifCond .eq 15, 3) := by decide +kernel
theorem dX12_place_29 : decode cX12_place 29 = .ok (.iload_n 3, 1) := by decide +kernel
theorem dX12_place_30 : decode cX12_place 30 = .ok (.i2l, 1) := by decide +kernel
theorem dX12_place_31 : decode cX12_place 31 = .ok (.lconst 0, 1) := by decide +kernel
theorem dX12_place_32 : decode cX12_place 32 = .ok (.ldc2_w 224, 3) := by decide +kernel
theorem dX12_place_35 : decode cX12_place 35 = .ok (.invokestatic 190, 3) := by decide +kernel
theorem dX12_place_38 : decode cX12_place 38 = .ok (.ifCond .ne 9, 3) := by decide +kernel
theorem dX12_place_41 : decode cX12_place 41 = .ok (.aload_n 0, 1) := by decide +kernel
theorem dX12_place_42 : decode cX12_place 42 = .ok (.iconst 1, 1) := by decide +kernel
theorem dX12_place_43 : decode cX12_place 43 = .ok (.invokevirtual 226, 3) := by decide +kernel
theorem dX12_place_46 : decode cX12_place 46 = .ok (.ireturn, 1) := by decide +kernel
theorem dX12_place_47 : decode cX12_place 47 = .ok (.aload_n 0, 1) := by decide +kernel
theorem dX12_place_48 : decode cX12_place 48 = .ok (.getfield 194, 3) := by decide +kernel
theorem dX12_place_51 : decode cX12_place 51 = .ok (.bipush 30, 2) := by decide +kernel
theorem dX12_place_53 : decode cX12_place 53 = .ok (.if_icmp .ne 5, 3) := by decide +kernel
theorem dX12_place_56 : decode cX12_place 56 = .ok (.iconst (-1), 1) := by decide +kernel
theorem dX12_place_57 : decode cX12_place 57 = .ok (.ireturn, 1) := by decide +kernel
theorem dX12_place_58 : decode cX12_place 58 = .ok (.aload_n 0, 1) := by decide +kernel
theorem dX12_place_59 : decode cX12_place 59 = .ok (.getfield 9, 3) := by decide +kernel
theorem dX12_place_62 : decode cX12_place 62 = .ok (.aload_n 0, 1) := by decide +kernel
theorem dX12_place_63 : decode cX12_place 63 = .ok (.getfield 194, 3) := by decide +kernel
theorem dX12_place_66 : decode cX12_place 66 = .ok (.iload_n 1, 1) := by decide +kernel
theorem dX12_place_67 : decode cX12_place 67 = .ok (.iastore, 1) := by decide +kernel
theorem dX12_place_68 : decode cX12_place 68 = .ok (.aload_n 0, 1) := by decide +kernel
theorem dX12_place_69 : decode cX12_place 69 = .ok (.getfield 13, 3) := by decide +kernel
theorem dX12_place_72 : decode cX12_place 72 = .ok (.aload_n 0, 1) := by decide +kernel
theorem dX12_place_73 : decode cX12_place 73 = .ok (.getfield 194, 3) := by decide +kernel
theorem dX12_place_76 : decode cX12_place 76 = .ok (.iload_n 2, 1) := by decide +kernel
theorem dX12_place_77 : decode cX12_place 77 = .ok (.iastore, 1) := by decide +kernel
theorem dX12_place_78 : decode cX12_place 78 = .ok (.aload_n 0, 1) := by decide +kernel
theorem dX12_place_79 : decode cX12_place 79 = .ok (.getfield 16, 3) := by decide +kernel
theorem dX12_place_82 : decode cX12_place 82 = .ok (.aload_n 0, 1) := by decide +kernel
theorem dX12_place_83 : decode cX12_place 83 = .ok (.getfield 194, 3) := by decide +kernel
theorem dX12_place_86 : decode cX12_place 86 = .ok (.iload_n 3, 1) := by decide +kernel
theorem dX12_place_87 : decode cX12_place 87 = .ok (.iastore, 1) := by decide +kernel
theorem dX12_place_88 : decode cX12_place 88 = .ok (.aload_n 0, 1) := by decide +kernel
theorem dX12_place_89 : decode cX12_place 89 = .ok (.dup, 1) := by decide +kernel
theorem dX12_place_90 : decode cX12_place 90 = .ok (.getfield 194, 3) := by decide +kernel
theorem dX12_place_93 : decode cX12_place 93 = .ok (.iconst 1, 1) := by decide +kernel
theorem dX12_place_94 : decode cX12_place 94 = .ok (.iadd, 1) := by decide +kernel
theorem dX12_place_95 : decode cX12_place 95 = .ok (.putfield 194, 3) := by decide +kernel
theorem dX12_place_98 : decode cX12_place 98 = .ok (.aload_n 0, 1) := by decide +kernel
theorem dX12_place_99 : decode cX12_place 99 = .ok (.getfield 194, 3) := by decide +kernel
theorem dX12_place_102 : decode cX12_place 102 = .ok (.iconst 1, 1) := by decide +kernel
theorem dX12_place_103 : decode cX12_place 103 = .ok (.isub, 1) := by decide +kernel
theorem dX12_place_104 : decode cX12_place 104 = .ok (.ireturn, 1) := by decide +kernel
theorem dX12_mark_0 : decode cX12_mark 0 = .ok (.aload_n 0, 1) := by decide +kernel
theorem dX12_mark_1 : decode cX12_mark 1 = .ok (.iconst 0, 1) := by decide +kernel
theorem dX12_mark_2 : decode cX12_mark 2 = .ok (.putfield 185, 3) := by decide +kernel
theorem dX12_mark_5 : decode cX12_mark 5 = .ok (.aload_n 0, 1) := by decide +kernel
theorem dX12_mark_6 : decode cX12_mark 6 = .ok (.getfield 197, 3) := by decide +kernel
theorem dX12_mark_9 : decode cX12_mark 9 = .ok (.bipush 16, 2) := by decide +kernel
theorem dX12_mark_11 : decode cX12_mark 11 = .ok (.if_icmp .ne 5, 3) := by decide +kernel
theorem dX12_mark_14 : decode cX12_mark 14 = .ok (.iconst (-1), 1) := by decide +kernel
theorem dX12_mark_15 : decode cX12_mark 15 = .ok (.ireturn, 1) := by decide +kernel
theorem dX12_mark_16 : decode cX12_mark 16 = .ok (.aload_n 0, 1) := by decide +kernel
theorem dX12_mark_17 : decode cX12_mark 17 = .ok (.dup, 1) := by decide +kernel
theorem dX12_mark_18 : decode cX12_mark 18 = .ok (.getfield 197, 3) := by decide +kernel
theorem dX12_mark_21 : decode cX12_mark 21 = .ok (.iconst 1, 1) := by decide +kernel
theorem dX12_mark_22 : decode cX12_mark 22 = .ok (.iadd, 1) := by decide +kernel
theorem dX12_mark_23 : decode cX12_mark 23 = .ok (.putfield 197, 3) := by decide +kernel
theorem dX12_mark_26 : decode cX12_mark 26 = .ok (.aload_n 0, 1) := by decide +kernel
theorem dX12_mark_27 : decode cX12_mark 27 = .ok (.getfield 197, 3) := by decide +kernel
theorem dX12_mark_30 : decode cX12_mark 30 = .ok (.iconst 1, 1) := by decide +kernel
theorem dX12_mark_31 : decode cX12_mark 31 = .ok (.isub, 1) := by decide +kernel
theorem dX12_mark_32 : decode cX12_mark 32 = .ok (.ireturn, 1) := by decide +kernel
theorem dX12_hand_0 : decode cX12_hand 0 = .ok (.aload_n 0, 1) := by decide +kernel
theorem dX12_hand_1 : decode cX12_hand 1 = .ok (.iconst 0, 1) := by decide +kernel
theorem dX12_hand_2 : decode cX12_hand 2 = .ok (.putfield 185, 3) := by decide +kernel
theorem dX12_hand_5 : decode cX12_hand 5 = .ok (.iload_n 1, 1) := by decide +kernel
theorem dX12_hand_6 : decode cX12_hand 6 = .ok (.iconst (-1), 1) := by decide +kernel
theorem dX12_hand_7 : decode cX12_hand 7 = .ok (.if_icmp .eq 17, 3) := by decide +kernel
theorem dX12_hand_10 : decode cX12_hand 10 = .ok (.aload_n 0, 1) := by decide +kernel
theorem dX12_hand_11 : decode cX12_hand 11 = .ok (.iload_n 1, 1) := by decide +kernel
theorem dX12_hand_12 : decode cX12_hand 12 = .ok (.invokevirtual 229, 3) := by decide +kernel
theorem dX12_hand_15 : decode cX12_hand 15 = .ok (.ifCond .ne 9, 3) := by decide +kernel
theorem dX12_hand_18 : decode cX12_hand 18 = .ok (.aload_n 0, 1) := by decide +kernel
theorem dX12_hand_19 : decode cX12_hand 19 = .ok (.iconst 1, 1) := by decide +kernel
theorem dX12_hand_20 : decode cX12_hand 20 = .ok (.invokevirtual 226, 3) := by decide +kernel
theorem dX12_hand_23 : decode cX12_hand 23 = .ok (.ireturn, 1) := by decide +kernel
theorem dX12_hand_24 : decode cX12_hand 24 = .ok (.aload_n 0, 1) := by decide +kernel
theorem dX12_hand_25 : decode cX12_hand 25 = .ok (.getfield 200, 3) := by decide +kernel
theorem dX12_hand_28 : decode cX12_hand 28 = .ok (.bipush 20, 2) := by decide +kernel
theorem dX12_hand_30 : decode cX12_hand 30 = .ok (.if_icmp .ne 5, 3) := by decide +kernel
theorem dX12_hand_33 : decode cX12_hand 33 = .ok (.iconst (-1), 1) := by decide +kernel
theorem dX12_hand_34 : decode cX12_hand 34 = .ok (.ireturn, 1) := by decide +kernel
theorem dX12_hand_35 : decode cX12_hand 35 = .ok (.aload_n 0, 1) := by decide +kernel
theorem dX12_hand_36 : decode cX12_hand 36 = .ok (.getfield 19, 3) := by decide +kernel
theorem dX12_hand_39 : decode cX12_hand 39 = .ok (.aload_n 0, 1) := by decide +kernel
theorem dX12_hand_40 : decode cX12_hand 40 = .ok (.getfield 200, 3) := by decide +kernel
theorem dX12_hand_43 : decode cX12_hand 43 = .ok (.iload_n 1, 1) := by decide +kernel
theorem dX12_hand_44 : decode cX12_hand 44 = .ok (.iastore, 1) := by decide +kernel
theorem dX12_hand_45 : decode cX12_hand 45 = .ok (.aload_n 0, 1) := by decide +kernel
theorem dX12_hand_46 : decode cX12_hand 46 = .ok (.dup, 1) := by decide +kernel
theorem dX12_hand_47 : decode cX12_hand 47 = .ok (.getfield 200, 3) := by decide +kernel
theorem dX12_hand_50 : decode cX12_hand 50 = .ok (.iconst 1, 1) := by decide +kernel
theorem dX12_hand_51 : decode cX12_hand 51 = .ok (.iadd, 1) := by decide +kernel
theorem dX12_hand_52 : decode cX12_hand 52 = .ok (.putfield 200, 3) := by decide +kernel
theorem dX12_hand_55 : decode cX12_hand 55 = .ok (.aload_n 0, 1) := by decide +kernel
theorem dX12_hand_56 : decode cX12_hand 56 = .ok (.getfield 200, 3) := by decide +kernel
theorem dX12_hand_59 : decode cX12_hand 59 = .ok (.iconst 1, 1) := by decide +kernel
theorem dX12_hand_60 : decode cX12_hand 60 = .ok (.isub, 1) := by decide +kernel
theorem dX12_hand_61 : decode cX12_hand 61 = .ok (.ireturn, 1) := by decide +kernel
theorem dX12_officer_0 : decode cX12_officer 0 = .ok (.aload_n 0, 1) := by decide +kernel
theorem dX12_officer_1 : decode cX12_officer 1 = .ok (.iconst 0, 1) := by decide +kernel
theorem dX12_officer_2 : decode cX12_officer 2 = .ok (.putfield 185, 3) := by decide +kernel
theorem dX12_officer_5 : decode cX12_officer 5 = .ok (.iload_n 1, 1) := by decide +kernel
theorem dX12_officer_6 : decode cX12_officer 6 = .ok (.i2l, 1) := by decide +kernel
theorem dX12_officer_7 : decode cX12_officer 7 = .ok (.lconst 0, 1) := by decide +kernel
theorem dX12_officer_8 : decode cX12_officer 8 = .ok (.ldc2_w 224, 3) := by decide +kernel
theorem dX12_officer_11 : decode cX12_officer 11 = .ok (.invokestatic 190, 3) := by decide +kernel
theorem dX12_officer_14 : decode cX12_officer 14 = .ok (.ifCond .eq 15, 3) := by decide +kernel
theorem dX12_officer_17 : decode cX12_officer 17 = .ok (.iload_n 2, 1) := by decide +kernel
theorem dX12_officer_18 : decode cX12_officer 18 = .ok (.i2l, 1) := by decide +kernel
theorem dX12_officer_19 : decode cX12_officer 19 = .ok (.lconst 0, 1) := by decide +kernel
theorem dX12_officer_20 : decode cX12_officer 20 = .ok (.ldc2_w 232, 3) := by decide +kernel
theorem dX12_officer_23 : decode cX12_officer 23 = .ok (.invokestatic 190, 3) := by decide +kernel
theorem dX12_officer_26 : decode cX12_officer 26 = .ok (.ifCond .ne 9, 3) := by decide +kernel
theorem dX12_officer_29 : decode cX12_officer 29 = .ok (.aload_n 0, 1) := by decide +kernel
theorem dX12_officer_30 : decode cX12_officer 30 = .ok (.iconst 1, 1) := by decide +kernel
theorem dX12_officer_31 : decode cX12_officer 31 = .ok (.invokevirtual 226, 3) := by decide +kernel
theorem dX12_officer_34 : decode cX12_officer 34 = .ok (.ireturn, 1) := by decide +kernel
theorem dX12_officer_35 : decode cX12_officer 35 = .ok (.aload_n 0, 1) := by decide +kernel
theorem dX12_officer_36 : decode cX12_officer 36 = .ok (.getfield 234, 3) := by decide +kernel
theorem dX12_officer_39 : decode cX12_officer 39 = .ok (.bipush 10, 2) := by decide +kernel
theorem dX12_officer_41 : decode cX12_officer 41 = .ok (.if_icmp .ne 5, 3) := by decide +kernel
theorem dX12_officer_44 : decode cX12_officer 44 = .ok (.iconst (-1), 1) := by decide +kernel
theorem dX12_officer_45 : decode cX12_officer 45 = .ok (.ireturn, 1) := by decide +kernel
theorem dX12_officer_46 : decode cX12_officer 46 = .ok (.aload_n 0, 1) := by decide +kernel
theorem dX12_officer_47 : decode cX12_officer 47 = .ok (.getfield 22, 3) := by decide +kernel
theorem dX12_officer_50 : decode cX12_officer 50 = .ok (.aload_n 0, 1) := by decide +kernel
theorem dX12_officer_51 : decode cX12_officer 51 = .ok (.getfield 234, 3) := by decide +kernel
theorem dX12_officer_54 : decode cX12_officer 54 = .ok (.iload_n 1, 1) := by decide +kernel
theorem dX12_officer_55 : decode cX12_officer 55 = .ok (.iastore, 1) := by decide +kernel
theorem dX12_officer_56 : decode cX12_officer 56 = .ok (.aload_n 0, 1) := by decide +kernel
theorem dX12_officer_57 : decode cX12_officer 57 = .ok (.getfield 25, 3) := by decide +kernel
theorem dX12_officer_60 : decode cX12_officer 60 = .ok (.aload_n 0, 1) := by decide +kernel
theorem dX12_officer_61 : decode cX12_officer 61 = .ok (.getfield 234, 3) := by decide +kernel
theorem dX12_officer_64 : decode cX12_officer 64 = .ok (.iload_n 2, 1) := by decide +kernel
theorem dX12_officer_65 : decode cX12_officer 65 = .ok (.iastore, 1) := by decide +kernel
theorem dX12_officer_66 : decode cX12_officer 66 = .ok (.aload_n 0, 1) := by decide +kernel
theorem dX12_officer_67 : decode cX12_officer 67 = .ok (.dup, 1) := by decide +kernel
theorem dX12_officer_68 : decode cX12_officer 68 = .ok (.getfield 234, 3) := by decide +kernel
theorem dX12_officer_71 : decode cX12_officer 71 = .ok (.iconst 1, 1) := by decide +kernel
theorem dX12_officer_72 : decode cX12_officer 72 = .ok (.iadd, 1) := by decide +kernel
theorem dX12_officer_73 : decode cX12_officer 73 = .ok (.putfield 234, 3) := by decide +kernel
theorem dX12_officer_76 : decode cX12_officer 76 = .ok (.aload_n 0, 1) := by decide +kernel
theorem dX12_officer_77 : decode cX12_officer 77 = .ok (.getfield 234, 3) := by decide +kernel
theorem dX12_officer_80 : decode cX12_officer 80 = .ok (.iconst 1, 1) := by decide +kernel
theorem dX12_officer_81 : decode cX12_officer 81 = .ok (.isub, 1) := by decide +kernel
theorem dX12_officer_82 : decode cX12_officer 82 = .ok (.ireturn, 1) := by decide +kernel
theorem dX12_isOfficer_0 : decode cX12_isOfficer 0 = .ok (.iload_n 1, 1) := by decide +kernel
theorem dX12_isOfficer_1 : decode cX12_isOfficer 1 = .ok (.i2l, 1) := by decide +kernel
theorem dX12_isOfficer_2 : decode cX12_isOfficer 2 = .ok (.lconst 0, 1) := by decide +kernel
theorem dX12_isOfficer_3 : decode cX12_isOfficer 3 = .ok (.aload_n 0, 1) := by decide +kernel
theorem dX12_isOfficer_4 : decode cX12_isOfficer 4 = .ok (.getfield 234, 3) := by decide +kernel
theorem dX12_isOfficer_7 : decode cX12_isOfficer 7 = .ok (.iconst 1, 1) := by decide +kernel
theorem dX12_isOfficer_8 : decode cX12_isOfficer 8 = .ok (.isub, 1) := by decide +kernel
theorem dX12_isOfficer_9 : decode cX12_isOfficer 9 = .ok (.i2l, 1) := by decide +kernel
theorem dX12_isOfficer_10 : decode cX12_isOfficer 10 = .ok (.invokestatic 190, 3) := by decide +kernel
theorem dX12_isOfficer_13 : decode cX12_isOfficer 13 = .ok (.ireturn, 1) := by decide +kernel
theorem dX12_deed_0 : decode cX12_deed 0 = .ok (.aload_n 0, 1) := by decide +kernel
theorem dX12_deed_1 : decode cX12_deed 1 = .ok (.iconst 0, 1) := by decide +kernel
theorem dX12_deed_2 : decode cX12_deed 2 = .ok (.putfield 185, 3) := by decide +kernel
theorem dX12_deed_5 : decode cX12_deed 5 = .ok (.aload_n 0, 1) := by decide +kernel
theorem dX12_deed_6 : decode cX12_deed 6 = .ok (.iload_n 1, 1) := by decide +kernel
theorem dX12_deed_7 : decode cX12_deed 7 = .ok (.invokevirtual 229, 3) := by decide +kernel
theorem dX12_deed_10 : decode cX12_deed 10 = .ok (.ifCond .ne 9, 3) := by decide +kernel
theorem dX12_deed_13 : decode cX12_deed 13 = .ok (.aload_n 0, 1) := by decide +kernel
theorem dX12_deed_14 : decode cX12_deed 14 = .ok (.iconst 1, 1) := by decide +kernel
theorem dX12_deed_15 : decode cX12_deed 15 = .ok (.invokevirtual 226, 3) := by decide +kernel
theorem dX12_deed_18 : decode cX12_deed 18 = .ok (.ireturn, 1) := by decide +kernel
theorem dX12_deed_19 : decode cX12_deed 19 = .ok (.iload_n 2, 1) := by decide +kernel
theorem dX12_deed_20 : decode cX12_deed 20 = .ok (.invokestatic 237, 3) := by decide +kernel
theorem dX12_deed_23 : decode cX12_deed 23 = .ok (.ifCond .eq 18, 3) := by decide +kernel
theorem dX12_deed_26 : decode cX12_deed 26 = .ok (.iload_n 3, 1) := by decide +kernel
theorem dX12_deed_27 : decode cX12_deed 27 = .ok (.i2l, 1) := by decide +kernel
theorem dX12_deed_28 : decode cX12_deed 28 = .ok (.iload_n 2, 1) := by decide +kernel
theorem dX12_deed_29 : decode cX12_deed 29 = .ok (.i2l, 1) := by decide +kernel
theorem dX12_deed_30 : decode cX12_deed 30 = .ok (.aload_n 0, 1) := by decide +kernel
theorem dX12_deed_31 : decode cX12_deed 31 = .ok (.getfield 240, 3) := by decide +kernel
theorem dX12_deed_34 : decode cX12_deed 34 = .ok (.i2l, 1) := by decide +kernel
theorem dX12_deed_35 : decode cX12_deed 35 = .ok (.invokestatic 190, 3) := by decide +kernel
theorem dX12_deed_38 : decode cX12_deed 38 = .ok (.ifCond .ne 9, 3) := by decide +kernel
theorem dX12_deed_41 : decode cX12_deed 41 = .ok (.aload_n 0, 1) := by decide +kernel
theorem dX12_deed_42 : decode cX12_deed 42 = .ok (.iconst 2, 1) := by decide +kernel
theorem dX12_deed_43 : decode cX12_deed 43 = .ok (.invokevirtual 226, 3) := by decide +kernel
theorem dX12_deed_46 : decode cX12_deed 46 = .ok (.ireturn, 1) := by decide +kernel
theorem dX12_deed_47 : decode cX12_deed 47 = .ok (.aload_n 0, 1) := by decide +kernel
theorem dX12_deed_48 : decode cX12_deed 48 = .ok (.getfield 203, 3) := by decide +kernel
theorem dX12_deed_51 : decode cX12_deed 51 = .ok (.bipush 60, 2) := by decide +kernel
theorem dX12_deed_53 : decode cX12_deed 53 = .ok (.if_icmp .ne 5, 3) := by decide +kernel
theorem dX12_deed_56 : decode cX12_deed 56 = .ok (.iconst (-1), 1) := by decide +kernel
theorem dX12_deed_57 : decode cX12_deed 57 = .ok (.ireturn, 1) := by decide +kernel
theorem dX12_deed_58 : decode cX12_deed 58 = .ok (.aload_n 0, 1) := by decide +kernel
theorem dX12_deed_59 : decode cX12_deed 59 = .ok (.getfield 28, 3) := by decide +kernel
theorem dX12_deed_62 : decode cX12_deed 62 = .ok (.aload_n 0, 1) := by decide +kernel
theorem dX12_deed_63 : decode cX12_deed 63 = .ok (.getfield 203, 3) := by decide +kernel
theorem dX12_deed_66 : decode cX12_deed 66 = .ok (.iload_n 1, 1) := by decide +kernel
theorem dX12_deed_67 : decode cX12_deed 67 = .ok (.iastore, 1) := by decide +kernel
theorem dX12_deed_68 : decode cX12_deed 68 = .ok (.aload_n 0, 1) := by decide +kernel
theorem dX12_deed_69 : decode cX12_deed 69 = .ok (.getfield 31, 3) := by decide +kernel
theorem dX12_deed_72 : decode cX12_deed 72 = .ok (.aload_n 0, 1) := by decide +kernel
theorem dX12_deed_73 : decode cX12_deed 73 = .ok (.getfield 203, 3) := by decide +kernel
theorem dX12_deed_76 : decode cX12_deed 76 = .ok (.iload_n 2, 1) := by decide +kernel
theorem dX12_deed_77 : decode cX12_deed 77 = .ok (.iastore, 1) := by decide +kernel
theorem dX12_deed_78 : decode cX12_deed 78 = .ok (.aload_n 0, 1) := by decide +kernel
theorem dX12_deed_79 : decode cX12_deed 79 = .ok (.getfield 34, 3) := by decide +kernel
theorem dX12_deed_82 : decode cX12_deed 82 = .ok (.aload_n 0, 1) := by decide +kernel
theorem dX12_deed_83 : decode cX12_deed 83 = .ok (.getfield 203, 3) := by decide +kernel
theorem dX12_deed_86 : decode cX12_deed 86 = .ok (.iload_n 3, 1) := by decide +kernel
theorem dX12_deed_87 : decode cX12_deed 87 = .ok (.iastore, 1) := by decide +kernel
theorem dX12_deed_88 : decode cX12_deed 88 = .ok (.aload_n 0, 1) := by decide +kernel
theorem dX12_deed_89 : decode cX12_deed 89 = .ok (.getfield 37, 3) := by decide +kernel
theorem dX12_deed_92 : decode cX12_deed 92 = .ok (.aload_n 0, 1) := by decide +kernel
theorem dX12_deed_93 : decode cX12_deed 93 = .ok (.getfield 203, 3) := by decide +kernel
theorem dX12_deed_96 : decode cX12_deed 96 = .ok (.aload_n 0, 1) := by decide +kernel
theorem dX12_deed_97 : decode cX12_deed 97 = .ok (.getfield 240, 3) := by decide +kernel
theorem dX12_deed_100 : decode cX12_deed 100 = .ok (.iastore, 1) := by decide +kernel
theorem dX12_deed_101 : decode cX12_deed 101 = .ok (.aload_n 0, 1) := by decide +kernel
theorem dX12_deed_102 : decode cX12_deed 102 = .ok (.getfield 40, 3) := by decide +kernel
theorem dX12_deed_105 : decode cX12_deed 105 = .ok (.aload_n 0, 1) := by decide +kernel
theorem dX12_deed_106 : decode cX12_deed 106 = .ok (.getfield 203, 3) := by decide +kernel
theorem dX12_deed_109 : decode cX12_deed 109 = .ok (.iconst (-1), 1) := by decide +kernel
theorem dX12_deed_110 : decode cX12_deed 110 = .ok (.iastore, 1) := by decide +kernel
theorem dX12_deed_111 : decode cX12_deed 111 = .ok (.aload_n 0, 1) := by decide +kernel
theorem dX12_deed_112 : decode cX12_deed 112 = .ok (.getfield 43, 3) := by decide +kernel
theorem dX12_deed_115 : decode cX12_deed 115 = .ok (.aload_n 0, 1) := by decide +kernel
theorem dX12_deed_116 : decode cX12_deed 116 = .ok (.getfield 203, 3) := by decide +kernel
theorem dX12_deed_119 : decode cX12_deed 119 = .ok (.iconst (-1), 1) := by decide +kernel
theorem dX12_deed_120 : decode cX12_deed 120 = .ok (.iastore, 1) := by decide +kernel
theorem dX12_deed_121 : decode cX12_deed 121 = .ok (.aload_n 0, 1) := by decide +kernel
theorem dX12_deed_122 : decode cX12_deed 122 = .ok (.dup, 1) := by decide +kernel
theorem dX12_deed_123 : decode cX12_deed 123 = .ok (.getfield 203, 3) := by decide +kernel
theorem dX12_deed_126 : decode cX12_deed 126 = .ok (.iconst 1, 1) := by decide +kernel
theorem dX12_deed_127 : decode cX12_deed 127 = .ok (.iadd, 1) := by decide +kernel
theorem dX12_deed_128 : decode cX12_deed 128 = .ok (.putfield 203, 3) := by decide +kernel
theorem dX12_deed_131 : decode cX12_deed 131 = .ok (.aload_n 0, 1) := by decide +kernel
theorem dX12_deed_132 : decode cX12_deed 132 = .ok (.getfield 203, 3) := by decide +kernel
theorem dX12_deed_135 : decode cX12_deed 135 = .ok (.iconst 1, 1) := by decide +kernel
theorem dX12_deed_136 : decode cX12_deed 136 = .ok (.isub, 1) := by decide +kernel
theorem dX12_deed_137 : decode cX12_deed 137 = .ok (.ireturn, 1) := by decide +kernel
theorem dX12_linksOf_0 : decode cX12_linksOf 0 = .ok (.iconst 0, 1) := by decide +kernel
theorem dX12_linksOf_1 : decode cX12_linksOf 1 = .ok (.istore_n 2, 1) := by decide +kernel
theorem dX12_linksOf_2 : decode cX12_linksOf 2 = .ok (.iconst 0, 1) := by decide +kernel
theorem dX12_linksOf_3 : decode cX12_linksOf 3 = .ok (.istore_n 3, 1) := by decide +kernel
theorem dX12_linksOf_4 : decode cX12_linksOf 4 = .ok (.iload_n 3, 1) := by decide +kernel
theorem dX12_linksOf_5 : decode cX12_linksOf 5 = .ok (.aload_n 0, 1) := by decide +kernel
theorem dX12_linksOf_6 : decode cX12_linksOf 6 = .ok (.getfield 243, 3) := by decide +kernel
theorem dX12_linksOf_9 : decode cX12_linksOf 9 = .ok (.if_icmp .ge 37, 3) := by decide +kernel
theorem dX12_linksOf_12 : decode cX12_linksOf 12 = .ok (.iload_n 2, 1) := by decide +kernel
theorem dX12_linksOf_13 : decode cX12_linksOf 13 = .ok (.aload_n 0, 1) := by decide +kernel
theorem dX12_linksOf_14 : decode cX12_linksOf 14 = .ok (.getfield 65, 3) := by decide +kernel
theorem dX12_linksOf_17 : decode cX12_linksOf 17 = .ok (.iload_n 3, 1) := by decide +kernel
theorem dX12_linksOf_18 : decode cX12_linksOf 18 = .ok (.iaload, 1) := by decide +kernel
theorem dX12_linksOf_19 : decode cX12_linksOf 19 = .ok (.iload_n 1, 1) := by decide +kernel
theorem dX12_linksOf_20 : decode cX12_linksOf 20 = .ok (.if_icmp .eq 13, 3) := by decide +kernel
theorem dX12_linksOf_23 : decode cX12_linksOf 23 = .ok (.aload_n 0, 1) := by decide +kernel
theorem dX12_linksOf_24 : decode cX12_linksOf 24 = .ok (.getfield 68, 3) := by decide +kernel
theorem dX12_linksOf_27 : decode cX12_linksOf 27 = .ok (.iload_n 3, 1) := by decide +kernel
theorem dX12_linksOf_28 : decode cX12_linksOf 28 = .ok (.iaload, 1) := by decide +kernel
theorem dX12_linksOf_29 : decode cX12_linksOf 29 = .ok (.iload_n 1, 1) := by decide +kernel
theorem dX12_linksOf_30 : decode cX12_linksOf 30 = .ok (.if_icmp .ne 7, 3) := by decide +kernel
theorem dX12_linksOf_33 : decode cX12_linksOf 33 = .ok (.iconst 1, 1) := by decide +kernel
theorem dX12_linksOf_34 : decode cX12_linksOf 34 = .ok (.goto 4, 3) := by decide +kernel
theorem dX12_linksOf_37 : decode cX12_linksOf 37 = .ok (.iconst 0, 1) := by decide +kernel
theorem dX12_linksOf_38 : decode cX12_linksOf 38 = .ok (.iadd, 1) := by decide +kernel
theorem dX12_linksOf_39 : decode cX12_linksOf 39 = .ok (.istore_n 2, 1) := by decide +kernel
theorem dX12_linksOf_40 : decode cX12_linksOf 40 = .ok (.iinc 3 1, 3) := by decide +kernel
theorem dX12_linksOf_43 : decode cX12_linksOf 43 = .ok (.goto (-39), 3) := by decide +kernel
theorem dX12_linksOf_46 : decode cX12_linksOf 46 = .ok (.iload_n 2, 1) := by decide +kernel
theorem dX12_linksOf_47 : decode cX12_linksOf 47 = .ok (.ireturn, 1) := by decide +kernel
theorem dX12_tells_0 : decode cX12_tells 0 = .ok (.aload_n 0, 1) := by decide +kernel
theorem dX12_tells_1 : decode cX12_tells 1 = .ok (.getfield 56, 3) := by decide +kernel
theorem dX12_tells_4 : decode cX12_tells 4 = .ok (.bipush 16, 2) := by decide +kernel
theorem dX12_tells_6 : decode cX12_tells 6 = .ok (.iload_n 1, 1) := by decide +kernel
theorem dX12_tells_7 : decode cX12_tells 7 = .ok (.imul, 1) := by decide +kernel
theorem dX12_tells_8 : decode cX12_tells 8 = .ok (.iload_n 2, 1) := by decide +kernel
theorem dX12_tells_9 : decode cX12_tells 9 = .ok (.iadd, 1) := by decide +kernel
theorem dX12_tells_10 : decode cX12_tells 10 = .ok (.iload_n 3, 1) := by decide +kernel
theorem dX12_tells_11 : decode cX12_tells 11 = .ok (.iastore, 1) := by decide +kernel
theorem dX12_tells_12 : decode cX12_tells 12 = .ok (.aload_n 0, 1) := by decide +kernel
theorem dX12_tells_13 : decode cX12_tells 13 = .ok (.iload_n 1, 1) := by decide +kernel
theorem dX12_tells_14 : decode cX12_tells 14 = .ok (.invokevirtual 246, 3) := by decide +kernel
theorem dX12_tells_17 : decode cX12_tells 17 = .ok (.ifCond .ne 15, 3) := by decide +kernel
theorem dX12_tells_20 : decode cX12_tells 20 = .ok (.aload_n 0, 1) := by decide +kernel
theorem dX12_tells_21 : decode cX12_tells 21 = .ok (.getfield 59, 3) := by decide +kernel
theorem dX12_tells_24 : decode cX12_tells 24 = .ok (.bipush 16, 2) := by decide +kernel
theorem dX12_tells_26 : decode cX12_tells 26 = .ok (.iload_n 1, 1) := by decide +kernel
theorem dX12_tells_27 : decode cX12_tells 27 = .ok (.imul, 1) := by decide +kernel
theorem dX12_tells_28 : decode cX12_tells 28 = .ok (.iload_n 2, 1) := by decide +kernel
theorem dX12_tells_29 : decode cX12_tells 29 = .ok (.iadd, 1) := by decide +kernel
theorem dX12_tells_30 : decode cX12_tells 30 = .ok (.iload_n 3, 1) := by decide +kernel
theorem dX12_tells_31 : decode cX12_tells 31 = .ok (.iastore, 1) := by decide +kernel
theorem dX12_tells_32 : decode cX12_tells 32 = .ok (.return_, 1) := by decide +kernel
theorem dX12_tell_0 : decode cX12_tell 0 = .ok (.aload_n 0, 1) := by decide +kernel
theorem dX12_tell_1 : decode cX12_tell 1 = .ok (.iconst 0, 1) := by decide +kernel
theorem dX12_tell_2 : decode cX12_tell 2 = .ok (.putfield 185, 3) := by decide +kernel
theorem dX12_tell_5 : decode cX12_tell 5 = .ok (.aload_n 0, 1) := by decide +kernel
theorem dX12_tell_6 : decode cX12_tell 6 = .ok (.iload_n 1, 1) := by decide +kernel
theorem dX12_tell_7 : decode cX12_tell 7 = .ok (.invokevirtual 206, 3) := by decide +kernel
theorem dX12_tell_10 : decode cX12_tell 10 = .ok (.ifCond .eq 11, 3) := by decide +kernel
theorem dX12_tell_13 : decode cX12_tell 13 = .ok (.aload_n 0, 1) := by decide +kernel
theorem dX12_tell_14 : decode cX12_tell 14 = .ok (.iload_n 2, 1) := by decide +kernel
theorem dX12_tell_15 : decode cX12_tell 15 = .ok (.invokevirtual 249, 3) := by decide +kernel
theorem dX12_tell_18 : decode cX12_tell 18 = .ok (.ifCond .ne 9, 3) := by decide +kernel
theorem dX12_tell_21 : decode cX12_tell 21 = .ok (.aload_n 0, 1) := by decide +kernel
theorem dX12_tell_22 : decode cX12_tell 22 = .ok (.iconst 1, 1) := by decide +kernel
theorem dX12_tell_23 : decode cX12_tell 23 = .ok (.invokevirtual 226, 3) := by decide +kernel
theorem dX12_tell_26 : decode cX12_tell 26 = .ok (.ireturn, 1) := by decide +kernel
theorem dX12_tell_27 : decode cX12_tell 27 = .ok (.iload_n 3, 1) := by decide +kernel
theorem dX12_tell_28 : decode cX12_tell 28 = .ok (.i2l, 1) := by decide +kernel
theorem dX12_tell_29 : decode cX12_tell 29 = .ok (.lconst 0, 1) := by decide +kernel
theorem dX12_tell_30 : decode cX12_tell 30 = .ok (.ldc2_w 252, 3) := by decide +kernel
theorem dX12_tell_33 : decode cX12_tell 33 = .ok (.invokestatic 190, 3) := by decide +kernel
theorem dX12_tell_36 : decode cX12_tell 36 = .ok (.ifCond .ne 9, 3) := by decide +kernel
theorem dX12_tell_39 : decode cX12_tell 39 = .ok (.aload_n 0, 1) := by decide +kernel
theorem dX12_tell_40 : decode cX12_tell 40 = .ok (.iconst 2, 1) := by decide +kernel
theorem dX12_tell_41 : decode cX12_tell 41 = .ok (.invokevirtual 226, 3) := by decide +kernel
theorem dX12_tell_44 : decode cX12_tell 44 = .ok (.ireturn, 1) := by decide +kernel
theorem dX12_tell_45 : decode cX12_tell 45 = .ok (.aload_n 0, 1) := by decide +kernel
theorem dX12_tell_46 : decode cX12_tell 46 = .ok (.getfield 56, 3) := by decide +kernel
theorem dX12_tell_49 : decode cX12_tell 49 = .ok (.bipush 16, 2) := by decide +kernel
theorem dX12_tell_51 : decode cX12_tell 51 = .ok (.iload_n 1, 1) := by decide +kernel
theorem dX12_tell_52 : decode cX12_tell 52 = .ok (.imul, 1) := by decide +kernel
theorem dX12_tell_53 : decode cX12_tell 53 = .ok (.iload_n 2, 1) := by decide +kernel
theorem dX12_tell_54 : decode cX12_tell 54 = .ok (.iadd, 1) := by decide +kernel
theorem dX12_tell_55 : decode cX12_tell 55 = .ok (.iaload, 1) := by decide +kernel
theorem dX12_tell_56 : decode cX12_tell 56 = .ok (.istore 4, 2) := by decide +kernel
theorem dX12_tell_58 : decode cX12_tell 58 = .ok (.aload_n 0, 1) := by decide +kernel
theorem dX12_tell_59 : decode cX12_tell 59 = .ok (.iload_n 1, 1) := by decide +kernel
theorem dX12_tell_60 : decode cX12_tell 60 = .ok (.iload_n 2, 1) := by decide +kernel
theorem dX12_tell_61 : decode cX12_tell 61 = .ok (.iload_n 3, 1) := by decide +kernel
theorem dX12_tell_62 : decode cX12_tell 62 = .ok (.invokevirtual 254, 3) := by decide +kernel
theorem dX12_tell_65 : decode cX12_tell 65 = .ok (.iload 4, 2) := by decide +kernel
theorem dX12_tell_67 : decode cX12_tell 67 = .ok (.ireturn, 1) := by decide +kernel
theorem dX12_state_0 : decode cX12_state 0 = .ok (.aload_n 0, 1) := by decide +kernel
theorem dX12_state_1 : decode cX12_state 1 = .ok (.iconst 0, 1) := by decide +kernel
theorem dX12_state_2 : decode cX12_state 2 = .ok (.putfield 185, 3) := by decide +kernel
theorem dX12_state_5 : decode cX12_state 5 = .ok (.aload_n 0, 1) := by decide +kernel
theorem dX12_state_6 : decode cX12_state 6 = .ok (.iload_n 1, 1) := by decide +kernel
theorem dX12_state_7 : decode cX12_state 7 = .ok (.invokevirtual 206, 3) := by decide +kernel
theorem dX12_state_10 : decode cX12_state 10 = .ok (.ifCond .eq 11, 3) := by decide +kernel
theorem dX12_state_13 : decode cX12_state 13 = .ok (.aload_n 0, 1) := by decide +kernel
theorem dX12_state_14 : decode cX12_state 14 = .ok (.iload_n 2, 1) := by decide +kernel
theorem dX12_state_15 : decode cX12_state 15 = .ok (.invokevirtual 249, 3) := by decide +kernel
theorem dX12_state_18 : decode cX12_state 18 = .ok (.ifCond .ne 9, 3) := by decide +kernel
theorem dX12_state_21 : decode cX12_state 21 = .ok (.aload_n 0, 1) := by decide +kernel
theorem dX12_state_22 : decode cX12_state 22 = .ok (.iconst 1, 1) := by decide +kernel
theorem dX12_state_23 : decode cX12_state 23 = .ok (.invokevirtual 226, 3) := by decide +kernel
theorem dX12_state_26 : decode cX12_state 26 = .ok (.ireturn, 1) := by decide +kernel
theorem dX12_state_27 : decode cX12_state 27 = .ok (.iload_n 3, 1) := by decide +kernel
theorem dX12_state_28 : decode cX12_state 28 = .ok (.ifCond .eq 17, 3) := by decide +kernel
theorem dX12_state_31 : decode cX12_state 31 = .ok (.aload_n 0, 1) := by decide +kernel
theorem dX12_state_32 : decode cX12_state 32 = .ok (.getfield 56, 3) := by decide +kernel
theorem dX12_state_35 : decode cX12_state 35 = .ok (.bipush 16, 2) := by decide +kernel
theorem dX12_state_37 : decode cX12_state 37 = .ok (.iload_n 1, 1) := by decide +kernel
theorem dX12_state_38 : decode cX12_state 38 = .ok (.imul, 1) := by decide +kernel
theorem dX12_state_39 : decode cX12_state 39 = .ok (.iload_n 2, 1) := by decide +kernel
theorem dX12_state_40 : decode cX12_state 40 = .ok (.iadd, 1) := by decide +kernel
theorem dX12_state_41 : decode cX12_state 41 = .ok (.iaload, 1) := by decide +kernel
theorem dX12_state_42 : decode cX12_state 42 = .ok (.goto 14, 3) := by decide +kernel
theorem dX12_state_45 : decode cX12_state 45 = .ok (.aload_n 0, 1) := by decide +kernel
theorem dX12_state_46 : decode cX12_state 46 = .ok (.getfield 59, 3) := by decide +kernel
theorem dX12_state_49 : decode cX12_state 49 = .ok (.bipush 16, 2) := by decide +kernel
theorem dX12_state_51 : decode cX12_state 51 = .ok (.iload_n 1, 1) := by decide +kernel
theorem dX12_state_52 : decode cX12_state 52 = .ok (.imul, 1) := by decide +kernel
theorem dX12_state_53 : decode cX12_state 53 = .ok (.iload_n 2, 1) := by decide +kernel
theorem dX12_state_54 : decode cX12_state 54 = .ok (.iadd, 1) := by decide +kernel
theorem dX12_state_55 : decode cX12_state 55 = .ok (.iaload, 1) := by decide +kernel
theorem dX12_state_56 : decode cX12_state 56 = .ok (.ireturn, 1) := by decide +kernel
theorem dX12_doubt_0 : decode cX12_doubt 0 = .ok (.aload_n 0, 1) := by decide +kernel
theorem dX12_doubt_1 : decode cX12_doubt 1 = .ok (.iconst 0, 1) := by decide +kernel
theorem dX12_doubt_2 : decode cX12_doubt 2 = .ok (.putfield 185, 3) := by decide +kernel
theorem dX12_doubt_5 : decode cX12_doubt 5 = .ok (.aload_n 0, 1) := by decide +kernel
theorem dX12_doubt_6 : decode cX12_doubt 6 = .ok (.iload_n 1, 1) := by decide +kernel
theorem dX12_doubt_7 : decode cX12_doubt 7 = .ok (.invokevirtual 206, 3) := by decide +kernel
theorem dX12_doubt_10 : decode cX12_doubt 10 = .ok (.ifCond .ne 9, 3) := by decide +kernel
theorem dX12_doubt_13 : decode cX12_doubt 13 = .ok (.aload_n 0, 1) := by decide +kernel
theorem dX12_doubt_14 : decode cX12_doubt 14 = .ok (.iconst 1, 1) := by decide +kernel
theorem dX12_doubt_15 : decode cX12_doubt 15 = .ok (.invokevirtual 258, 3) := by decide +kernel
theorem dX12_doubt_18 : decode cX12_doubt 18 = .ok (.ireturn, 1) := by decide +kernel
theorem dX12_doubt_19 : decode cX12_doubt 19 = .ok (.aload_n 0, 1) := by decide +kernel
theorem dX12_doubt_20 : decode cX12_doubt 20 = .ok (.getfield 46, 3) := by decide +kernel
theorem dX12_doubt_23 : decode cX12_doubt 23 = .ok (.iload_n 1, 1) := by decide +kernel
theorem dX12_doubt_24 : decode cX12_doubt 24 = .ok (.baload, 1) := by decide +kernel
theorem dX12_doubt_25 : decode cX12_doubt 25 = .ok (.istore_n 3, 1) := by decide +kernel
theorem dX12_doubt_26 : decode cX12_doubt 26 = .ok (.aload_n 0, 1) := by decide +kernel
theorem dX12_doubt_27 : decode cX12_doubt 27 = .ok (.getfield 46, 3) := by decide +kernel
theorem dX12_doubt_30 : decode cX12_doubt 30 = .ok (.iload_n 1, 1) := by decide +kernel
theorem dX12_doubt_31 : decode cX12_doubt 31 = .ok (.iload_n 2, 1) := by decide +kernel
theorem dX12_doubt_32 : decode cX12_doubt 32 = .ok (.bastore, 1) := by decide +kernel
theorem dX12_doubt_33 : decode cX12_doubt 33 = .ok (.iload_n 3, 1) := by decide +kernel
theorem dX12_doubt_34 : decode cX12_doubt 34 = .ok (.ireturn, 1) := by decide +kernel
theorem dX12_solve_0 : decode cX12_solve 0 = .ok (.aload_n 0, 1) := by decide +kernel
theorem dX12_solve_1 : decode cX12_solve 1 = .ok (.aload_n 0, 1) := by decide +kernel
theorem dX12_solve_2 : decode cX12_solve 2 = .ok (.iload_n 1, 1) := by decide +kernel
theorem dX12_solve_3 : decode cX12_solve 3 = .ok (.invokevirtual 206, 3) := by decide +kernel
theorem dX12_solve_6 : decode cX12_solve 6 = .ok (.ifCond .eq 33, 3) := by decide +kernel
theorem dX12_solve_9 : decode cX12_solve 9 = .ok (.iload_n 2, 1) := by decide +kernel
theorem dX12_solve_10 : decode cX12_solve 10 = .ok (.iconst (-1), 1) := by decide +kernel
theorem dX12_solve_11 : decode cX12_solve 11 = .ok (.if_icmp .ne 8, 3) := by decide +kernel
theorem dX12_solve_14 : decode cX12_solve 14 = .ok (.iload_n 3, 1) := by decide +kernel
theorem dX12_solve_15 : decode cX12_solve 15 = .ok (.iconst (-1), 1) := by decide +kernel
theorem dX12_solve_16 : decode cX12_solve 16 = .ok (.if_icmp .eq 19, 3) := by decide +kernel
theorem dX12_solve_19 : decode cX12_solve 19 = .ok (.aload_n 0, 1) := by decide +kernel
theorem dX12_solve_20 : decode cX12_solve 20 = .ok (.iload_n 2, 1) := by decide +kernel
theorem dX12_solve_21 : decode cX12_solve 21 = .ok (.invokevirtual 261, 3) := by decide +kernel
theorem dX12_solve_24 : decode cX12_solve 24 = .ok (.ifCond .eq 15, 3) := by decide +kernel
theorem dX12_solve_27 : decode cX12_solve 27 = .ok (.aload_n 0, 1) := by decide +kernel
theorem dX12_solve_28 : decode cX12_solve 28 = .ok (.iload_n 3, 1) := by decide +kernel
theorem dX12_solve_29 : decode cX12_solve 29 = .ok (.invokevirtual 261, 3) := by decide +kernel
theorem dX12_solve_32 : decode cX12_solve 32 = .ok (.ifCond .eq 7, 3) := by decide +kernel
theorem dX12_solve_35 : decode cX12_solve 35 = .ok (.iconst 0, 1) := by decide +kernel
theorem dX12_solve_36 : decode cX12_solve 36 = .ok (.goto 4, 3) := by decide +kernel
theorem dX12_solve_39 : decode cX12_solve 39 = .ok (.iconst 1, 1) := by decide +kernel
theorem dX12_solve_40 : decode cX12_solve 40 = .ok (.putfield 185, 3) := by decide +kernel
theorem dX12_solve_43 : decode cX12_solve 43 = .ok (.aload_n 0, 1) := by decide +kernel
theorem dX12_solve_44 : decode cX12_solve 44 = .ok (.getfield 185, 3) := by decide +kernel
theorem dX12_solve_47 : decode cX12_solve 47 = .ok (.ifCond .le 4, 3) := by decide +kernel
theorem dX12_solve_50 : decode cX12_solve 50 = .ok (.return_, 1) := by decide +kernel
theorem dX12_solve_51 : decode cX12_solve 51 = .ok (.aload_n 0, 1) := by decide +kernel
theorem dX12_solve_52 : decode cX12_solve 52 = .ok (.getfield 40, 3) := by decide +kernel
theorem dX12_solve_55 : decode cX12_solve 55 = .ok (.iload_n 1, 1) := by decide +kernel
theorem dX12_solve_56 : decode cX12_solve 56 = .ok (.iload_n 2, 1) := by decide +kernel
theorem dX12_solve_57 : decode cX12_solve 57 = .ok (.iastore, 1) := by decide +kernel
theorem dX12_solve_58 : decode cX12_solve 58 = .ok (.aload_n 0, 1) := by decide +kernel
theorem dX12_solve_59 : decode cX12_solve 59 = .ok (.getfield 43, 3) := by decide +kernel
theorem dX12_solve_62 : decode cX12_solve 62 = .ok (.iload_n 1, 1) := by decide +kernel
theorem dX12_solve_63 : decode cX12_solve 63 = .ok (.iload_n 3, 1) := by decide +kernel
theorem dX12_solve_64 : decode cX12_solve 64 = .ok (.iastore, 1) := by decide +kernel
theorem dX12_solve_65 : decode cX12_solve 65 = .ok (.return_, 1) := by decide +kernel
theorem dX12_isSolved_0 : decode cX12_isSolved 0 = .ok (.aload_n 0, 1) := by decide +kernel
theorem dX12_isSolved_1 : decode cX12_isSolved 1 = .ok (.getfield 40, 3) := by decide +kernel
theorem dX12_isSolved_4 : decode cX12_isSolved 4 = .ok (.iload_n 1, 1) := by decide +kernel
theorem dX12_isSolved_5 : decode cX12_isSolved 5 = .ok (.iaload, 1) := by decide +kernel
theorem dX12_isSolved_6 : decode cX12_isSolved 6 = .ok (.iconst (-1), 1) := by decide +kernel
theorem dX12_isSolved_7 : decode cX12_isSolved 7 = .ok (.if_icmp .eq 7, 3) := by decide +kernel
theorem dX12_isSolved_10 : decode cX12_isSolved 10 = .ok (.iconst 1, 1) := by decide +kernel
theorem dX12_isSolved_11 : decode cX12_isSolved 11 = .ok (.goto 4, 3) := by decide +kernel
theorem dX12_isSolved_14 : decode cX12_isSolved 14 = .ok (.iconst 0, 1) := by decide +kernel
theorem dX12_isSolved_15 : decode cX12_isSolved 15 = .ok (.ireturn, 1) := by decide +kernel
theorem dX12_isOf_0 : decode cX12_isOf 0 = .ok (.aload_n 0, 1) := by decide +kernel
theorem dX12_isOf_1 : decode cX12_isOf 1 = .ok (.getfield 40, 3) := by decide +kernel
theorem dX12_isOf_4 : decode cX12_isOf 4 = .ok (.iload_n 1, 1) := by decide +kernel
theorem dX12_isOf_5 : decode cX12_isOf 5 = .ok (.iaload, 1) := by decide +kernel
theorem dX12_isOf_6 : decode cX12_isOf 6 = .ok (.iload_n 2, 1) := by decide +kernel
theorem dX12_isOf_7 : decode cX12_isOf 7 = .ok (.if_icmp .eq 13, 3) := by decide +kernel
theorem dX12_isOf_10 : decode cX12_isOf 10 = .ok (.aload_n 0, 1) := by decide +kernel
theorem dX12_isOf_11 : decode cX12_isOf 11 = .ok (.getfield 43, 3) := by decide +kernel
theorem dX12_isOf_14 : decode cX12_isOf 14 = .ok (.iload_n 1, 1) := by decide +kernel
theorem dX12_isOf_15 : decode cX12_isOf 15 = .ok (.iaload, 1) := by decide +kernel
theorem dX12_isOf_16 : decode cX12_isOf 16 = .ok (.iload_n 2, 1) := by decide +kernel
theorem dX12_isOf_17 : decode cX12_isOf 17 = .ok (.if_icmp .ne 7, 3) := by decide +kernel
theorem dX12_isOf_20 : decode cX12_isOf 20 = .ok (.iconst 1, 1) := by decide +kernel
theorem dX12_isOf_21 : decode cX12_isOf 21 = .ok (.goto 4, 3) := by decide +kernel
theorem dX12_isOf_24 : decode cX12_isOf 24 = .ok (.iconst 0, 1) := by decide +kernel
theorem dX12_isOf_25 : decode cX12_isOf 25 = .ok (.ireturn, 1) := by decide +kernel
theorem dX12_areOne_0 : decode cX12_areOne 0 = .ok (.aload_n 0, 1) := by decide +kernel
theorem dX12_areOne_1 : decode cX12_areOne 1 = .ok (.iload_n 1, 1) := by decide +kernel
theorem dX12_areOne_2 : decode cX12_areOne 2 = .ok (.invokevirtual 264, 3) := by decide +kernel
theorem dX12_areOne_5 : decode cX12_areOne 5 = .ok (.ifCond .eq 43, 3) := by decide +kernel
theorem dX12_areOne_8 : decode cX12_areOne 8 = .ok (.aload_n 0, 1) := by decide +kernel
theorem dX12_areOne_9 : decode cX12_areOne 9 = .ok (.iload_n 2, 1) := by decide +kernel
theorem dX12_areOne_10 : decode cX12_areOne 10 = .ok (.invokevirtual 264, 3) := by decide +kernel
theorem dX12_areOne_13 : decode cX12_areOne 13 = .ok (.ifCond .eq 35, 3) := by decide +kernel
theorem dX12_areOne_16 : decode cX12_areOne 16 = .ok (.aload_n 0, 1) := by decide +kernel
theorem dX12_areOne_17 : decode cX12_areOne 17 = .ok (.iload_n 2, 1) := by decide +kernel
theorem dX12_areOne_18 : decode cX12_areOne 18 = .ok (.aload_n 0, 1) := by decide +kernel
theorem dX12_areOne_19 : decode cX12_areOne 19 = .ok (.getfield 40, 3) := by decide +kernel
theorem dX12_areOne_22 : decode cX12_areOne 22 = .ok (.iload_n 1, 1) := by decide +kernel
theorem dX12_areOne_23 : decode cX12_areOne 23 = .ok (.iaload, 1) := by decide +kernel
theorem dX12_areOne_24 : decode cX12_areOne 24 = .ok (.invokevirtual 267, 3) := by decide +kernel
theorem dX12_areOne_27 : decode cX12_areOne 27 = .ok (.ifCond .ne 17, 3) := by decide +kernel
theorem dX12_areOne_30 : decode cX12_areOne 30 = .ok (.aload_n 0, 1) := by decide +kernel
theorem dX12_areOne_31 : decode cX12_areOne 31 = .ok (.iload_n 2, 1) := by decide +kernel
theorem dX12_areOne_32 : decode cX12_areOne 32 = .ok (.aload_n 0, 1) := by decide +kernel
theorem dX12_areOne_33 : decode cX12_areOne 33 = .ok (.getfield 43, 3) := by decide +kernel
theorem dX12_areOne_36 : decode cX12_areOne 36 = .ok (.iload_n 1, 1) := by decide +kernel
theorem dX12_areOne_37 : decode cX12_areOne 37 = .ok (.iaload, 1) := by decide +kernel
theorem dX12_areOne_38 : decode cX12_areOne 38 = .ok (.invokevirtual 267, 3) := by decide +kernel
theorem dX12_areOne_41 : decode cX12_areOne 41 = .ok (.ifCond .eq 7, 3) := by decide +kernel
theorem dX12_areOne_44 : decode cX12_areOne 44 = .ok (.iconst 1, 1) := by decide +kernel
theorem dX12_areOne_45 : decode cX12_areOne 45 = .ok (.goto 4, 3) := by decide +kernel
theorem dX12_areOne_48 : decode cX12_areOne 48 = .ok (.iconst 0, 1) := by decide +kernel
theorem dX12_areOne_49 : decode cX12_areOne 49 = .ok (.ireturn, 1) := by decide +kernel
theorem dX12_areBarred_0 : decode cX12_areBarred 0 = .ok (.aload_n 0, 1) := by decide +kernel
theorem dX12_areBarred_1 : decode cX12_areBarred 1 = .ok (.iload_n 1, 1) := by decide +kernel
theorem dX12_areBarred_2 : decode cX12_areBarred 2 = .ok (.iload_n 2, 1) := by decide +kernel
theorem dX12_areBarred_3 : decode cX12_areBarred 3 = .ok (.invokevirtual 271, 3) := by decide +kernel
theorem dX12_areBarred_6 : decode cX12_areBarred 6 = .ok (.ifCond .eq 5, 3) := by decide +kernel
theorem dX12_areBarred_9 : decode cX12_areBarred 9 = .ok (.iconst 0, 1) := by decide +kernel
theorem dX12_areBarred_10 : decode cX12_areBarred 10 = .ok (.ireturn, 1) := by decide +kernel
theorem dX12_areBarred_11 : decode cX12_areBarred 11 = .ok (.iconst 4, 1) := by decide +kernel
theorem dX12_areBarred_12 : decode cX12_areBarred 12 = .ok (.aload_n 0, 1) := by decide +kernel
theorem dX12_areBarred_13 : decode cX12_areBarred 13 = .ok (.getfield 34, 3) := by decide +kernel
theorem dX12_areBarred_16 : decode cX12_areBarred 16 = .ok (.iload_n 1, 1) := by decide +kernel
theorem dX12_areBarred_17 : decode cX12_areBarred 17 = .ok (.iaload, 1) := by decide +kernel
theorem dX12_areBarred_18 : decode cX12_areBarred 18 = .ok (.aload_n 0, 1) := by decide +kernel
theorem dX12_areBarred_19 : decode cX12_areBarred 19 = .ok (.getfield 31, 3) := by decide +kernel
theorem dX12_areBarred_22 : decode cX12_areBarred 22 = .ok (.iload_n 2, 1) := by decide +kernel
theorem dX12_areBarred_23 : decode cX12_areBarred 23 = .ok (.iaload, 1) := by decide +kernel
theorem dX12_areBarred_24 : decode cX12_areBarred 24 = .ok (.isub, 1) := by decide +kernel
theorem dX12_areBarred_25 : decode cX12_areBarred 25 = .ok (.aload_n 0, 1) := by decide +kernel
theorem dX12_areBarred_26 : decode cX12_areBarred 26 = .ok (.getfield 34, 3) := by decide +kernel
theorem dX12_areBarred_29 : decode cX12_areBarred 29 = .ok (.iload_n 2, 1) := by decide +kernel
theorem dX12_areBarred_30 : decode cX12_areBarred 30 = .ok (.iaload, 1) := by decide +kernel
theorem dX12_areBarred_31 : decode cX12_areBarred 31 = .ok (.aload_n 0, 1) := by decide +kernel
theorem dX12_areBarred_32 : decode cX12_areBarred 32 = .ok (.getfield 31, 3) := by decide +kernel
theorem dX12_areBarred_35 : decode cX12_areBarred 35 = .ok (.iload_n 1, 1) := by decide +kernel
theorem dX12_areBarred_36 : decode cX12_areBarred 36 = .ok (.iaload, 1) := by decide +kernel
theorem dX12_areBarred_37 : decode cX12_areBarred 37 = .ok (.isub, 1) := by decide +kernel
theorem dX12_areBarred_38 : decode cX12_areBarred 38 = .ok (.invokestatic 274, 3) := by decide +kernel
theorem dX12_areBarred_41 : decode cX12_areBarred 41 = .ok (.imul, 1) := by decide +kernel
theorem dX12_areBarred_42 : decode cX12_areBarred 42 = .ok (.aload_n 0, 1) := by decide +kernel
theorem dX12_areBarred_43 : decode cX12_areBarred 43 = .ok (.aload_n 0, 1) := by decide +kernel
theorem dX12_areBarred_44 : decode cX12_areBarred 44 = .ok (.getfield 28, 3) := by decide +kernel
theorem dX12_areBarred_47 : decode cX12_areBarred 47 = .ok (.iload_n 1, 1) := by decide +kernel
theorem dX12_areBarred_48 : decode cX12_areBarred 48 = .ok (.iaload, 1) := by decide +kernel
theorem dX12_areBarred_49 : decode cX12_areBarred 49 = .ok (.aload_n 0, 1) := by decide +kernel
theorem dX12_areBarred_50 : decode cX12_areBarred 50 = .ok (.getfield 28, 3) := by decide +kernel
theorem dX12_areBarred_53 : decode cX12_areBarred 53 = .ok (.iload_n 2, 1) := by decide +kernel
theorem dX12_areBarred_54 : decode cX12_areBarred 54 = .ok (.iaload, 1) := by decide +kernel
theorem dX12_areBarred_55 : decode cX12_areBarred 55 = .ok (.invokevirtual 278, 3) := by decide +kernel
theorem dX12_areBarred_58 : decode cX12_areBarred 58 = .ok (.if_icmp .ge 7, 3) := by decide +kernel
theorem dX12_areBarred_61 : decode cX12_areBarred 61 = .ok (.iconst 1, 1) := by decide +kernel
theorem dX12_areBarred_62 : decode cX12_areBarred 62 = .ok (.goto 4, 3) := by decide +kernel
theorem dX12_areBarred_65 : decode cX12_areBarred 65 = .ok (.iconst 0, 1) := by decide +kernel
theorem dX12_areBarred_66 : decode cX12_areBarred 66 = .ok (.istore_n 3, 1) := by decide +kernel
theorem dX12_areBarred_67 : decode cX12_areBarred 67 = .ok (.iload_n 3, 1) := by decide +kernel
theorem dX12_areBarred_68 : decode cX12_areBarred 68 = .ok (.ifCond .ne 33, 3) := by decide +kernel
theorem dX12_areBarred_71 : decode cX12_areBarred 71 = .ok (.aload_n 0, 1) := by decide +kernel
theorem dX12_areBarred_72 : decode cX12_areBarred 72 = .ok (.getfield 53, 3) := by decide +kernel
theorem dX12_areBarred_75 : decode cX12_areBarred 75 = .ok (.bipush 60, 2) := by decide +kernel
theorem dX12_areBarred_77 : decode cX12_areBarred 77 = .ok (.iload_n 1, 1) := by decide +kernel
theorem dX12_areBarred_78 : decode cX12_areBarred 78 = .ok (.imul, 1) := by decide +kernel
theorem dX12_areBarred_79 : decode cX12_areBarred 79 = .ok (.iload_n 2, 1) := by decide +kernel
theorem dX12_areBarred_80 : decode cX12_areBarred 80 = .ok (.iadd, 1) := by decide +kernel
theorem dX12_areBarred_81 : decode cX12_areBarred 81 = .ok (.baload, 1) := by decide +kernel
theorem dX12_areBarred_82 : decode cX12_areBarred 82 = .ok (.ifCond .ne 19, 3) := by decide +kernel
theorem dX12_areBarred_85 : decode cX12_areBarred 85 = .ok (.aload_n 0, 1) := by decide +kernel
theorem dX12_areBarred_86 : decode cX12_areBarred 86 = .ok (.iload_n 1, 1) := by decide +kernel
theorem dX12_areBarred_87 : decode cX12_areBarred 87 = .ok (.invokevirtual 264, 3) := by decide +kernel
theorem dX12_areBarred_90 : decode cX12_areBarred 90 = .ok (.ifCond .eq 15, 3) := by decide +kernel
theorem dX12_areBarred_93 : decode cX12_areBarred 93 = .ok (.aload_n 0, 1) := by decide +kernel
theorem dX12_areBarred_94 : decode cX12_areBarred 94 = .ok (.iload_n 2, 1) := by decide +kernel
theorem dX12_areBarred_95 : decode cX12_areBarred 95 = .ok (.invokevirtual 264, 3) := by decide +kernel
theorem dX12_areBarred_98 : decode cX12_areBarred 98 = .ok (.ifCond .eq 7, 3) := by decide +kernel
theorem dX12_areBarred_101 : decode cX12_areBarred 101 = .ok (.iconst 1, 1) := by decide +kernel
theorem dX12_areBarred_102 : decode cX12_areBarred 102 = .ok (.goto 4, 3) := by decide +kernel
theorem dX12_areBarred_105 : decode cX12_areBarred 105 = .ok (.iconst 0, 1) := by decide +kernel
theorem dX12_areBarred_106 : decode cX12_areBarred 106 = .ok (.ireturn, 1) := by decide +kernel
theorem dX12_bar_0 : decode cX12_bar 0 = .ok (.aload_n 0, 1) := by decide +kernel
theorem dX12_bar_1 : decode cX12_bar 1 = .ok (.iconst 0, 1) := by decide +kernel
theorem dX12_bar_2 : decode cX12_bar 2 = .ok (.putfield 185, 3) := by decide +kernel
theorem dX12_bar_5 : decode cX12_bar 5 = .ok (.aload_n 0, 1) := by decide +kernel
theorem dX12_bar_6 : decode cX12_bar 6 = .ok (.iload_n 1, 1) := by decide +kernel
theorem dX12_bar_7 : decode cX12_bar 7 = .ok (.invokevirtual 206, 3) := by decide +kernel
theorem dX12_bar_10 : decode cX12_bar 10 = .ok (.ifCond .eq 11, 3) := by decide +kernel
theorem dX12_bar_13 : decode cX12_bar 13 = .ok (.aload_n 0, 1) := by decide +kernel
theorem dX12_bar_14 : decode cX12_bar 14 = .ok (.iload_n 2, 1) := by decide +kernel
theorem dX12_bar_15 : decode cX12_bar 15 = .ok (.invokevirtual 206, 3) := by decide +kernel
theorem dX12_bar_18 : decode cX12_bar 18 = .ok (.ifCond .ne 9, 3) := by decide +kernel
theorem dX12_bar_21 : decode cX12_bar 21 = .ok (.aload_n 0, 1) := by decide +kernel
theorem dX12_bar_22 : decode cX12_bar 22 = .ok (.iconst 1, 1) := by decide +kernel
theorem dX12_bar_23 : decode cX12_bar 23 = .ok (.invokevirtual 258, 3) := by decide +kernel
theorem dX12_bar_26 : decode cX12_bar 26 = .ok (.ireturn, 1) := by decide +kernel
theorem dX12_bar_27 : decode cX12_bar 27 = .ok (.iload_n 1, 1) := by decide +kernel
theorem dX12_bar_28 : decode cX12_bar 28 = .ok (.iload_n 2, 1) := by decide +kernel
theorem dX12_bar_29 : decode cX12_bar 29 = .ok (.if_icmp .ne 9, 3) := by decide +kernel
theorem dX12_bar_32 : decode cX12_bar 32 = .ok (.aload_n 0, 1) := by decide +kernel
theorem dX12_bar_33 : decode cX12_bar 33 = .ok (.iconst 2, 1) := by decide +kernel
theorem dX12_bar_34 : decode cX12_bar 34 = .ok (.invokevirtual 258, 3) := by decide +kernel
theorem dX12_bar_37 : decode cX12_bar 37 = .ok (.ireturn, 1) := by decide +kernel
theorem dX12_bar_38 : decode cX12_bar 38 = .ok (.aload_n 0, 1) := by decide +kernel
theorem dX12_bar_39 : decode cX12_bar 39 = .ok (.getfield 53, 3) := by decide +kernel
theorem dX12_bar_42 : decode cX12_bar 42 = .ok (.bipush 60, 2) := by decide +kernel
theorem dX12_bar_44 : decode cX12_bar 44 = .ok (.iload_n 1, 1) := by decide +kernel
theorem dX12_bar_45 : decode cX12_bar 45 = .ok (.imul, 1) := by decide +kernel
theorem dX12_bar_46 : decode cX12_bar 46 = .ok (.iload_n 2, 1) := by decide +kernel
theorem dX12_bar_47 : decode cX12_bar 47 = .ok (.iadd, 1) := by decide +kernel
theorem dX12_bar_48 : decode cX12_bar 48 = .ok (.baload, 1) := by decide +kernel
theorem dX12_bar_49 : decode cX12_bar 49 = .ok (.istore_n 3, 1) := by decide +kernel
theorem dX12_bar_50 : decode cX12_bar 50 = .ok (.aload_n 0, 1) := by decide +kernel
theorem dX12_bar_51 : decode cX12_bar 51 = .ok (.getfield 53, 3) := by decide +kernel
theorem dX12_bar_54 : decode cX12_bar 54 = .ok (.bipush 60, 2) := by decide +kernel
theorem dX12_bar_56 : decode cX12_bar 56 = .ok (.iload_n 1, 1) := by decide +kernel
theorem dX12_bar_57 : decode cX12_bar 57 = .ok (.imul, 1) := by decide +kernel
theorem dX12_bar_58 : decode cX12_bar 58 = .ok (.iload_n 2, 1) := by decide +kernel
theorem dX12_bar_59 : decode cX12_bar 59 = .ok (.iadd, 1) := by decide +kernel
theorem dX12_bar_60 : decode cX12_bar 60 = .ok (.iconst 1, 1) := by decide +kernel
theorem dX12_bar_61 : decode cX12_bar 61 = .ok (.bastore, 1) := by decide +kernel
theorem dX12_bar_62 : decode cX12_bar 62 = .ok (.aload_n 0, 1) := by decide +kernel
theorem dX12_bar_63 : decode cX12_bar 63 = .ok (.getfield 53, 3) := by decide +kernel
theorem dX12_bar_66 : decode cX12_bar 66 = .ok (.bipush 60, 2) := by decide +kernel
theorem dX12_bar_68 : decode cX12_bar 68 = .ok (.iload_n 2, 1) := by decide +kernel
theorem dX12_bar_69 : decode cX12_bar 69 = .ok (.imul, 1) := by decide +kernel
theorem dX12_bar_70 : decode cX12_bar 70 = .ok (.iload_n 1, 1) := by decide +kernel
theorem dX12_bar_71 : decode cX12_bar 71 = .ok (.iadd, 1) := by decide +kernel
theorem dX12_bar_72 : decode cX12_bar 72 = .ok (.iconst 1, 1) := by decide +kernel
theorem dX12_bar_73 : decode cX12_bar 73 = .ok (.bastore, 1) := by decide +kernel
theorem dX12_bar_74 : decode cX12_bar 74 = .ok (.iload_n 3, 1) := by decide +kernel
theorem dX12_bar_75 : decode cX12_bar 75 = .ok (.ifCond .ne 7, 3) := by decide +kernel
theorem dX12_bar_78 : decode cX12_bar 78 = .ok (.iconst 1, 1) := by decide +kernel
theorem dX12_bar_79 : decode cX12_bar 79 = .ok (.goto 4, 3) := by decide +kernel
theorem dX12_bar_82 : decode cX12_bar 82 = .ok (.iconst 0, 1) := by decide +kernel
theorem dX12_bar_83 : decode cX12_bar 83 = .ok (.ireturn, 1) := by decide +kernel
theorem dX12_are_0 : decode cX12_are 0 = .ok (.aload_n 0, 1) := by decide +kernel
theorem dX12_are_1 : decode cX12_are 1 = .ok (.iconst 0, 1) := by decide +kernel
theorem dX12_are_2 : decode cX12_are 2 = .ok (.putfield 185, 3) := by decide +kernel
theorem dX12_are_5 : decode cX12_are 5 = .ok (.aload_n 0, 1) := by decide +kernel
theorem dX12_are_6 : decode cX12_are 6 = .ok (.iload_n 1, 1) := by decide +kernel
theorem dX12_are_7 : decode cX12_are 7 = .ok (.invokevirtual 206, 3) := by decide +kernel
theorem dX12_are_10 : decode cX12_are 10 = .ok (.ifCond .eq 11, 3) := by decide +kernel
theorem dX12_are_13 : decode cX12_are 13 = .ok (.aload_n 0, 1) := by decide +kernel
theorem dX12_are_14 : decode cX12_are 14 = .ok (.iload_n 2, 1) := by decide +kernel
theorem dX12_are_15 : decode cX12_are 15 = .ok (.invokevirtual 206, 3) := by decide +kernel
theorem dX12_are_18 : decode cX12_are 18 = .ok (.ifCond .ne 9, 3) := by decide +kernel
theorem dX12_are_21 : decode cX12_are 21 = .ok (.aload_n 0, 1) := by decide +kernel
theorem dX12_are_22 : decode cX12_are 22 = .ok (.iconst 1, 1) := by decide +kernel
theorem dX12_are_23 : decode cX12_are 23 = .ok (.invokevirtual 226, 3) := by decide +kernel
theorem dX12_are_26 : decode cX12_are 26 = .ok (.ireturn, 1) := by decide +kernel
theorem dX12_are_27 : decode cX12_are 27 = .ok (.iload_n 1, 1) := by decide +kernel
theorem dX12_are_28 : decode cX12_are 28 = .ok (.iload_n 2, 1) := by decide +kernel
theorem dX12_are_29 : decode cX12_are 29 = .ok (.if_icmp .ne 9, 3) := by decide +kernel
theorem dX12_are_32 : decode cX12_are 32 = .ok (.aload_n 0, 1) := by decide +kernel
theorem dX12_are_33 : decode cX12_are 33 = .ok (.iconst 2, 1) := by decide +kernel
theorem dX12_are_34 : decode cX12_are 34 = .ok (.invokevirtual 226, 3) := by decide +kernel
theorem dX12_are_37 : decode cX12_are 37 = .ok (.ireturn, 1) := by decide +kernel
theorem dX12_are_38 : decode cX12_are 38 = .ok (.aload_n 0, 1) := by decide +kernel
theorem dX12_are_39 : decode cX12_are 39 = .ok (.iload_n 1, 1) := by decide +kernel
theorem dX12_are_40 : decode cX12_are 40 = .ok (.iload_n 2, 1) := by decide +kernel
theorem dX12_are_41 : decode cX12_are 41 = .ok (.invokevirtual 271, 3) := by decide +kernel
theorem dX12_are_44 : decode cX12_are 44 = .ok (.ifCond .eq 7, 3) := by decide +kernel
theorem dX12_are_47 : decode cX12_are 47 = .ok (.iconst 1, 1) := by decide +kernel
theorem dX12_are_48 : decode cX12_are 48 = .ok (.goto 17, 3) := by decide +kernel
theorem dX12_are_51 : decode cX12_are 51 = .ok (.aload_n 0, 1) := by decide +kernel
theorem dX12_are_52 : decode cX12_are 52 = .ok (.iload_n 1, 1) := by decide +kernel
theorem dX12_are_53 : decode cX12_are 53 = .ok (.iload_n 2, 1) := by decide +kernel
theorem dX12_are_54 : decode cX12_are 54 = .ok (.invokevirtual 281, 3) := by decide +kernel
theorem dX12_are_57 : decode cX12_are 57 = .ok (.ifCond .eq 7, 3) := by decide +kernel
theorem dX12_are_60 : decode cX12_are 60 = .ok (.iconst 2, 1) := by decide +kernel
theorem dX12_are_61 : decode cX12_are 61 = .ok (.goto 4, 3) := by decide +kernel
theorem dX12_are_64 : decode cX12_are 64 = .ok (.iconst 0, 1) := by decide +kernel
theorem dX12_are_65 : decode cX12_are 65 = .ok (.ireturn, 1) := by decide +kernel
theorem dX12_link_0 : decode cX12_link 0 = .ok (.aload_n 0, 1) := by decide +kernel
theorem dX12_link_1 : decode cX12_link 1 = .ok (.iconst 0, 1) := by decide +kernel
theorem dX12_link_2 : decode cX12_link 2 = .ok (.putfield 185, 3) := by decide +kernel
theorem dX12_link_5 : decode cX12_link 5 = .ok (.aload_n 0, 1) := by decide +kernel
theorem dX12_link_6 : decode cX12_link 6 = .ok (.iload_n 1, 1) := by decide +kernel
theorem dX12_link_7 : decode cX12_link 7 = .ok (.invokevirtual 284, 3) := by decide +kernel
theorem dX12_link_10 : decode cX12_link 10 = .ok (.ifCond .eq 19, 3) := by decide +kernel
theorem dX12_link_13 : decode cX12_link 13 = .ok (.aload_n 0, 1) := by decide +kernel
theorem dX12_link_14 : decode cX12_link 14 = .ok (.iload_n 2, 1) := by decide +kernel
theorem dX12_link_15 : decode cX12_link 15 = .ok (.invokevirtual 206, 3) := by decide +kernel
theorem dX12_link_18 : decode cX12_link 18 = .ok (.ifCond .eq 11, 3) := by decide +kernel
theorem dX12_link_21 : decode cX12_link 21 = .ok (.aload_n 0, 1) := by decide +kernel
theorem dX12_link_22 : decode cX12_link 22 = .ok (.iload_n 3, 1) := by decide +kernel
theorem dX12_link_23 : decode cX12_link 23 = .ok (.invokevirtual 206, 3) := by decide +kernel
theorem dX12_link_26 : decode cX12_link 26 = .ok (.ifCond .ne 9, 3) := by decide +kernel
theorem dX12_link_29 : decode cX12_link 29 = .ok (.aload_n 0, 1) := by decide +kernel
theorem dX12_link_30 : decode cX12_link 30 = .ok (.iconst 1, 1) := by decide +kernel
theorem dX12_link_31 : decode cX12_link 31 = .ok (.invokevirtual 226, 3) := by decide +kernel
theorem dX12_link_34 : decode cX12_link 34 = .ok (.ireturn, 1) := by decide +kernel
theorem dX12_link_35 : decode cX12_link 35 = .ok (.iload_n 2, 1) := by decide +kernel
theorem dX12_link_36 : decode cX12_link 36 = .ok (.iload_n 3, 1) := by decide +kernel
theorem dX12_link_37 : decode cX12_link 37 = .ok (.if_icmp .ne 9, 3) := by decide +kernel
theorem dX12_link_40 : decode cX12_link 40 = .ok (.aload_n 0, 1) := by decide +kernel
theorem dX12_link_41 : decode cX12_link 41 = .ok (.iconst 2, 1) := by decide +kernel
theorem dX12_link_42 : decode cX12_link 42 = .ok (.invokevirtual 226, 3) := by decide +kernel
theorem dX12_link_45 : decode cX12_link 45 = .ok (.ireturn, 1) := by decide +kernel
theorem dX12_link_46 : decode cX12_link 46 = .ok (.aload_n 0, 1) := by decide +kernel
theorem dX12_link_47 : decode cX12_link 47 = .ok (.getfield 243, 3) := by decide +kernel
theorem dX12_link_50 : decode cX12_link 50 = .ok (.bipush 40, 2) := by decide +kernel
theorem dX12_link_52 : decode cX12_link 52 = .ok (.if_icmp .ne 5, 3) := by decide +kernel
theorem dX12_link_55 : decode cX12_link 55 = .ok (.iconst (-1), 1) := by decide +kernel
theorem dX12_link_56 : decode cX12_link 56 = .ok (.ireturn, 1) := by decide +kernel
theorem dX12_link_57 : decode cX12_link 57 = .ok (.aload_n 0, 1) := by decide +kernel
theorem dX12_link_58 : decode cX12_link 58 = .ok (.getfield 62, 3) := by decide +kernel
theorem dX12_link_61 : decode cX12_link 61 = .ok (.aload_n 0, 1) := by decide +kernel
theorem dX12_link_62 : decode cX12_link 62 = .ok (.getfield 243, 3) := by decide +kernel
theorem dX12_link_65 : decode cX12_link 65 = .ok (.iload_n 1, 1) := by decide +kernel
theorem dX12_link_66 : decode cX12_link 66 = .ok (.iastore, 1) := by decide +kernel
theorem dX12_link_67 : decode cX12_link 67 = .ok (.aload_n 0, 1) := by decide +kernel
theorem dX12_link_68 : decode cX12_link 68 = .ok (.getfield 65, 3) := by decide +kernel
theorem dX12_link_71 : decode cX12_link 71 = .ok (.aload_n 0, 1) := by decide +kernel
theorem dX12_link_72 : decode cX12_link 72 = .ok (.getfield 243, 3) := by decide +kernel
theorem dX12_link_75 : decode cX12_link 75 = .ok (.iload_n 2, 1) := by decide +kernel
theorem dX12_link_76 : decode cX12_link 76 = .ok (.iastore, 1) := by decide +kernel
theorem dX12_link_77 : decode cX12_link 77 = .ok (.aload_n 0, 1) := by decide +kernel
theorem dX12_link_78 : decode cX12_link 78 = .ok (.getfield 68, 3) := by decide +kernel
theorem dX12_link_81 : decode cX12_link 81 = .ok (.aload_n 0, 1) := by decide +kernel
theorem dX12_link_82 : decode cX12_link 82 = .ok (.getfield 243, 3) := by decide +kernel
theorem dX12_link_85 : decode cX12_link 85 = .ok (.iload_n 3, 1) := by decide +kernel
theorem dX12_link_86 : decode cX12_link 86 = .ok (.iastore, 1) := by decide +kernel
theorem dX12_link_87 : decode cX12_link 87 = .ok (.aload_n 0, 1) := by decide +kernel
theorem dX12_link_88 : decode cX12_link 88 = .ok (.dup, 1) := by decide +kernel
theorem dX12_link_89 : decode cX12_link 89 = .ok (.getfield 243, 3) := by decide +kernel
theorem dX12_link_92 : decode cX12_link 92 = .ok (.iconst 1, 1) := by decide +kernel
theorem dX12_link_93 : decode cX12_link 93 = .ok (.iadd, 1) := by decide +kernel
theorem dX12_link_94 : decode cX12_link 94 = .ok (.putfield 243, 3) := by decide +kernel
theorem dX12_link_97 : decode cX12_link 97 = .ok (.aload_n 0, 1) := by decide +kernel
theorem dX12_link_98 : decode cX12_link 98 = .ok (.getfield 243, 3) := by decide +kernel
theorem dX12_link_101 : decode cX12_link 101 = .ok (.ireturn, 1) := by decide +kernel
theorem dX12_right_0 : decode cX12_right 0 = .ok (.aload_n 0, 1) := by decide +kernel
theorem dX12_right_1 : decode cX12_right 1 = .ok (.iconst 0, 1) := by decide +kernel
theorem dX12_right_2 : decode cX12_right 2 = .ok (.putfield 185, 3) := by decide +kernel
theorem dX12_right_5 : decode cX12_right 5 = .ok (.aload_n 0, 1) := by decide +kernel
theorem dX12_right_6 : decode cX12_right 6 = .ok (.iload_n 1, 1) := by decide +kernel
theorem dX12_right_7 : decode cX12_right 7 = .ok (.invokevirtual 284, 3) := by decide +kernel
theorem dX12_right_10 : decode cX12_right 10 = .ok (.ifCond .ne 9, 3) := by decide +kernel
theorem dX12_right_13 : decode cX12_right 13 = .ok (.aload_n 0, 1) := by decide +kernel
theorem dX12_right_14 : decode cX12_right 14 = .ok (.iconst 1, 1) := by decide +kernel
theorem dX12_right_15 : decode cX12_right 15 = .ok (.invokevirtual 226, 3) := by decide +kernel
theorem dX12_right_18 : decode cX12_right 18 = .ok (.ireturn, 1) := by decide +kernel
theorem dX12_right_19 : decode cX12_right 19 = .ok (.iconst 0, 1) := by decide +kernel
theorem dX12_right_20 : decode cX12_right 20 = .ok (.istore_n 3, 1) := by decide +kernel
theorem dX12_right_21 : decode cX12_right 21 = .ok (.iconst 0, 1) := by decide +kernel
theorem dX12_right_22 : decode cX12_right 22 = .ok (.istore 4, 2) := by decide +kernel
theorem dX12_right_24 : decode cX12_right 24 = .ok (.iload 4, 2) := by decide +kernel
theorem dX12_right_26 : decode cX12_right 26 = .ok (.aload_n 0, 1) := by decide +kernel
theorem dX12_right_27 : decode cX12_right 27 = .ok (.getfield 243, 3) := by decide +kernel
theorem dX12_right_30 : decode cX12_right 30 = .ok (.if_icmp .ge 81, 3) := by decide +kernel
theorem dX12_right_33 : decode cX12_right 33 = .ok (.aload_n 0, 1) := by decide +kernel
theorem dX12_right_34 : decode cX12_right 34 = .ok (.getfield 62, 3) := by decide +kernel
theorem dX12_right_37 : decode cX12_right 37 = .ok (.iload 4, 2) := by decide +kernel
theorem dX12_right_39 : decode cX12_right 39 = .ok (.iaload, 1) := by decide +kernel
theorem dX12_right_40 : decode cX12_right 40 = .ok (.iload_n 1, 1) := by decide +kernel
theorem dX12_right_41 : decode cX12_right 41 = .ok (.if_icmp .ne 64, 3) := by decide +kernel
theorem dX12_right_44 : decode cX12_right 44 = .ok (.aload_n 0, 1) := by decide +kernel
theorem dX12_right_45 : decode cX12_right 45 = .ok (.aload_n 0, 1) := by decide +kernel
theorem dX12_right_46 : decode cX12_right 46 = .ok (.getfield 65, 3) := by decide +kernel
theorem dX12_right_49 : decode cX12_right 49 = .ok (.iload 4, 2) := by decide +kernel
theorem dX12_right_51 : decode cX12_right 51 = .ok (.iaload, 1) := by decide +kernel
