theorem dX0_init_0 : decode cX0_init 0 = .ok (.aload_n 0, 1) := by decide +kernel
theorem dX0_init_1 : decode cX0_init 1 = .ok (.invokespecial 3, 3) := by decide +kernel
theorem dX0_init_4 : decode cX0_init 4 = .ok (.aload_n 0, 1) := by decide +kernel
theorem dX0_init_5 : decode cX0_init 5 = .ok (.iconst 0, 1) := by decide +kernel
theorem dX0_init_6 : decode cX0_init 6 = .ok (.putfield 9, 3) := by decide +kernel
theorem dX0_init_9 : decode cX0_init 9 = .ok (.aload_n 0, 1) := by decide +kernel
theorem dX0_init_10 : decode cX0_init 10 = .ok (.bipush 60, 2) := by decide +kernel
theorem dX0_init_12 : decode cX0_init 12 = .ok (.newarray .int, 2) := by decide +kernel
theorem dX0_init_14 : decode cX0_init 14 = .ok (.putfield 15, 3) := by decide +kernel
theorem dX0_init_17 : decode cX0_init 17 = .ok (.aload_n 0, 1) := by decide +kernel
theorem dX0_init_18 : decode cX0_init 18 = .ok (.bipush 60, 2) := by decide +kernel
theorem dX0_init_20 : decode cX0_init 20 = .ok (.newarray .int, 2) := by decide +kernel
theorem dX0_init_22 : decode cX0_init 22 = .ok (.putfield 19, 3) := by decide +kernel
theorem dX0_init_25 : decode cX0_init 25 = .ok (.aload_n 0, 1) := by decide +kernel
theorem dX0_init_26 : decode cX0_init 26 = .ok (.bipush 60, 2) := by decide +kernel
theorem dX0_init_28 : decode cX0_init 28 = .ok (.newarray .int, 2) := by decide +kernel
theorem dX0_init_30 : decode cX0_init 30 = .ok (.putfield 22, 3) := by decide +kernel
theorem dX0_init_33 : decode cX0_init 33 = .ok (.aload_n 0, 1) := by decide +kernel
theorem dX0_init_34 : decode cX0_init 34 = .ok (.bipush 60, 2) := by decide +kernel
theorem dX0_init_36 : decode cX0_init 36 = .ok (.newarray .int, 2) := by decide +kernel
theorem dX0_init_38 : decode cX0_init 38 = .ok (.putfield 25, 3) := by decide +kernel
theorem dX0_init_41 : decode cX0_init 41 = .ok (.aload_n 0, 1) := by decide +kernel
theorem dX0_init_42 : decode cX0_init 42 = .ok (.bipush 60, 2) := by decide +kernel
theorem dX0_init_44 : decode cX0_init 44 = .ok (.newarray .int, 2) := by decide +kernel
theorem dX0_init_46 : decode cX0_init 46 = .ok (.putfield 28, 3) := by decide +kernel
theorem dX0_init_49 : decode cX0_init 49 = .ok (.aload_n 0, 1) := by decide +kernel
theorem dX0_init_50 : decode cX0_init 50 = .ok (.bipush 60, 2) := by decide +kernel
theorem dX0_init_52 : decode cX0_init 52 = .ok (.newarray .int, 2) := by decide +kernel
theorem dX0_init_54 : decode cX0_init 54 = .ok (.putfield 31, 3) := by decide +kernel
theorem dX0_init_57 : decode cX0_init 57 = .ok (.aload_n 0, 1) := by decide +kernel
theorem dX0_init_58 : decode cX0_init 58 = .ok (.bipush 60, 2) := by decide +kernel
theorem dX0_init_60 : decode cX0_init 60 = .ok (.newarray .long, 2) := by decide +kernel
theorem dX0_init_62 : decode cX0_init 62 = .ok (.putfield 34, 3) := by decide +kernel
theorem dX0_init_65 : decode cX0_init 65 = .ok (.aload_n 0, 1) := by decide +kernel
theorem dX0_init_66 : decode cX0_init 66 = .ok (.bipush 60, 2) := by decide +kernel
theorem dX0_init_68 : decode cX0_init 68 = .ok (.newarray .long, 2) := by decide +kernel
theorem dX0_init_70 : decode cX0_init 70 = .ok (.putfield 38, 3) := by decide +kernel
theorem dX0_init_73 : decode cX0_init 73 = .ok (.aload_n 0, 1) := by decide +kernel
theorem dX0_init_74 : decode cX0_init 74 = .ok (.bipush 20, 2) := by decide +kernel
theorem dX0_init_76 : decode cX0_init 76 = .ok (.newarray .long, 2) := by decide +kernel
theorem dX0_init_78 : decode cX0_init 78 = .ok (.putfield 41, 3) := by decide +kernel
theorem dX0_init_81 : decode cX0_init 81 = .ok (.aload_n 0, 1) := by decide +kernel
theorem dX0_init_82 : decode cX0_init 82 = .ok (.lconst 0, 1) := by decide +kernel
theorem dX0_init_83 : decode cX0_init 83 = .ok (.putfield 44, 3) := by decide +kernel
theorem dX0_init_86 : decode cX0_init 86 = .ok (.aload_n 0, 1) := by decide +kernel
theorem dX0_init_87 : decode cX0_init 87 = .ok (.lconst 0, 1) := by decide +kernel
theorem dX0_init_88 : decode cX0_init 88 = .ok (.putfield 48, 3) := by decide +kernel
theorem dX0_init_91 : decode cX0_init 91 = .ok (.aload_n 0, 1) := by decide +kernel
theorem dX0_init_92 : decode cX0_init 92 = .ok (.lconst 0, 1) := by decide +kernel
theorem dX0_init_93 : decode cX0_init 93 = .ok (.putfield 51, 3) := by decide +kernel
theorem dX0_init_96 : decode cX0_init 96 = .ok (.aload_n 0, 1) := by decide +kernel
theorem dX0_init_97 : decode cX0_init 97 = .ok (.iconst 0, 1) := by decide +kernel
theorem dX0_init_98 : decode cX0_init 98 = .ok (.putfield 54, 3) := by decide +kernel
theorem dX0_init_101 : decode cX0_init 101 = .ok (.aload_n 0, 1) := by decide +kernel
theorem dX0_init_102 : decode cX0_init 102 = .ok (.ldc 57, 2) := by decide +kernel
theorem dX0_init_104 : decode cX0_init 104 = .ok (.putfield 58, 3) := by decide +kernel
theorem dX0_init_107 : decode cX0_init 107 = .ok (.aload_n 0, 1) := by decide +kernel
theorem dX0_init_108 : decode cX0_init 108 = .ok (.aload_n 1, 1) := by decide +kernel
theorem dX0_init_109 : decode cX0_init 109 = .ok (.putfield 61, 3) := by decide +kernel
theorem dX0_init_112 : decode cX0_init 112 = .ok (.return_, 1) := by decide +kernel
theorem dX0_add_0 : decode cX0_add 0 = .ok (.aload_n 0, 1) := by decide +kernel
theorem dX0_add_1 : decode cX0_add 1 = .ok (.getfield 9, 3) := by decide +kernel
theorem dX0_add_4 : decode cX0_add 4 = .ok (.bipush 60, 2) := by decide +kernel
theorem dX0_add_6 : decode cX0_add 6 = .ok (.if_icmp .lt 5, 3) := by decide +kernel
theorem dX0_add_9 : decode cX0_add 9 = .ok (.iconst (-1), 1) := by decide +kernel
theorem dX0_add_10 : decode cX0_add 10 = .ok (.ireturn, 1) := by decide +kernel
theorem dX0_add_11 : decode cX0_add 11 = .ok (.aload_n 0, 1) := by decide +kernel
theorem dX0_add_12 : decode cX0_add 12 = .ok (.getfield 15, 3) := by decide +kernel
theorem dX0_add_15 : decode cX0_add 15 = .ok (.aload_n 0, 1) := by decide +kernel
theorem dX0_add_16 : decode cX0_add 16 = .ok (.getfield 9, 3) := by decide +kernel
theorem dX0_add_19 : decode cX0_add 19 = .ok (.iload_n 1, 1) := by decide +kernel
theorem dX0_add_20 : decode cX0_add 20 = .ok (.iastore, 1) := by decide +kernel
theorem dX0_add_21 : decode cX0_add 21 = .ok (.aload_n 0, 1) := by decide +kernel
theorem dX0_add_22 : decode cX0_add 22 = .ok (.getfield 19, 3) := by decide +kernel
theorem dX0_add_25 : decode cX0_add 25 = .ok (.aload_n 0, 1) := by decide +kernel
theorem dX0_add_26 : decode cX0_add 26 = .ok (.getfield 9, 3) := by decide +kernel
theorem dX0_add_29 : decode cX0_add 29 = .ok (.iload_n 2, 1) := by decide +kernel
theorem dX0_add_30 : decode cX0_add 30 = .ok (.iastore, 1) := by decide +kernel
theorem dX0_add_31 : decode cX0_add 31 = .ok (.aload_n 0, 1) := by decide +kernel
theorem dX0_add_32 : decode cX0_add 32 = .ok (.getfield 22, 3) := by decide +kernel
theorem dX0_add_35 : decode cX0_add 35 = .ok (.aload_n 0, 1) := by decide +kernel
theorem dX0_add_36 : decode cX0_add 36 = .ok (.getfield 9, 3) := by decide +kernel
theorem dX0_add_39 : decode cX0_add 39 = .ok (.iload_n 3, 1) := by decide +kernel
theorem dX0_add_40 : decode cX0_add 40 = .ok (.iastore, 1) := by decide +kernel
theorem dX0_add_41 : decode cX0_add 41 = .ok (.aload_n 0, 1) := by decide +kernel
theorem dX0_add_42 : decode cX0_add 42 = .ok (.getfield 25, 3) := by decide +kernel
theorem dX0_add_45 : decode cX0_add 45 = .ok (.aload_n 0, 1) := by decide +kernel
theorem dX0_add_46 : decode cX0_add 46 = .ok (.getfield 9, 3) := by decide +kernel
theorem dX0_add_49 : decode cX0_add 49 = .ok (.aload_n 0, 1) := by decide +kernel
theorem dX0_add_50 : decode cX0_add 50 = .ok (.getfield 61, 3) := by decide +kernel
theorem dX0_add_53 : decode cX0_add 53 = .ok (.getfield 65, 3) := by decide +kernel
theorem dX0_add_56 : decode cX0_add 56 = .ok (.iastore, 1) := by decide +kernel
theorem dX0_add_57 : decode cX0_add 57 = .ok (.aload_n 0, 1) := by decide +kernel
theorem dX0_add_58 : decode cX0_add 58 = .ok (.getfield 28, 3) := by decide +kernel
theorem dX0_add_61 : decode cX0_add 61 = .ok (.aload_n 0, 1) := by decide +kernel
theorem dX0_add_62 : decode cX0_add 62 = .ok (.getfield 9, 3) := by decide +kernel
theorem dX0_add_65 : decode cX0_add 65 = .ok (.iconst (-1), 1) := by decide +kernel
theorem dX0_add_66 : decode cX0_add 66 = .ok (.iastore, 1) := by decide +kernel
theorem dX0_add_67 : decode cX0_add 67 = .ok (.aload_n 0, 1) := by decide +kernel
theorem dX0_add_68 : decode cX0_add 68 = .ok (.getfield 31, 3) := by decide +kernel
theorem dX0_add_71 : decode cX0_add 71 = .ok (.aload_n 0, 1) := by decide +kernel
theorem dX0_add_72 : decode cX0_add 72 = .ok (.getfield 9, 3) := by decide +kernel
theorem dX0_add_75 : decode cX0_add 75 = .ok (.iconst (-1), 1) := by decide +kernel
theorem dX0_add_76 : decode cX0_add 76 = .ok (.iastore, 1) := by decide +kernel
theorem dX0_add_77 : decode cX0_add 77 = .ok (.iconst 0, 1) := by decide +kernel
theorem dX0_add_78 : decode cX0_add 78 = .ok (.istore 4, 2) := by decide +kernel
theorem dX0_add_80 : decode cX0_add 80 = .ok (.iload 4, 2) := by decide +kernel
theorem dX0_add_82 : decode cX0_add 82 = .ok (.aload_n 0, 1) := by decide +kernel
theorem dX0_add_83 : decode cX0_add 83 = .ok (.getfield 9, 3) := by decide +kernel
theorem dX0_add_86 : decode cX0_add 86 = .ok (.if_icmp .ge 56, 3) := by decide +kernel
theorem dX0_add_89 : decode cX0_add 89 = .ok (.aload_n 0, 1) := by decide +kernel
theorem dX0_add_90 : decode cX0_add 90 = .ok (.aload_n 0, 1) := by decide +kernel
theorem dX0_add_91 : decode cX0_add 91 = .ok (.getfield 9, 3) := by decide +kernel
theorem dX0_add_94 : decode cX0_add 94 = .ok (.iload 4, 2) := by decide +kernel
theorem dX0_add_96 : decode cX0_add 96 = .ok (.invokevirtual 70, 3) := by decide +kernel
theorem dX0_add_99 : decode cX0_add 99 = .ok (.ifCond .eq 37, 3) := by decide +kernel
theorem dX0_add_102 : decode cX0_add 102 = .ok (.aload_n 0, 1) := by decide +kernel
theorem dX0_add_103 : decode cX0_add 103 = .ok (.getfield 34, 3) := by decide +kernel
theorem dX0_add_106 : decode cX0_add 106 = .ok (.aload_n 0, 1) := by decide +kernel
theorem dX0_add_107 : decode cX0_add 107 = .ok (.getfield 9, 3) := by decide +kernel
theorem dX0_add_110 : decode cX0_add 110 = .ok (.dup2, 1) := by decide +kernel
theorem dX0_add_111 : decode cX0_add 111 = .ok (.laload, 1) := by decide +kernel
theorem dX0_add_112 : decode cX0_add 112 = .ok (.iload 4, 2) := by decide +kernel
theorem dX0_add_114 : decode cX0_add 114 = .ok (.invokestatic 74, 3) := by decide +kernel
theorem dX0_add_117 : decode cX0_add 117 = .ok (.lor, 1) := by decide +kernel
theorem dX0_add_118 : decode cX0_add 118 = .ok (.lastore, 1) := by decide +kernel
theorem dX0_add_119 : decode cX0_add 119 = .ok (.aload_n 0, 1) := by decide +kernel
theorem dX0_add_120 : decode cX0_add 120 = .ok (.getfield 34, 3) := by decide +kernel
theorem dX0_add_123 : decode cX0_add 123 = .ok (.iload 4, 2) := by decide +kernel
theorem dX0_add_125 : decode cX0_add 125 = .ok (.dup2, 1) := by decide +kernel
theorem dX0_add_126 : decode cX0_add 126 = .ok (.laload, 1) := by decide +kernel
theorem dX0_add_127 : decode cX0_add 127 = .ok (.aload_n 0, 1) := by decide +kernel
theorem dX0_add_128 : decode cX0_add 128 = .ok (.getfield 9, 3) := by decide +kernel
theorem dX0_add_131 : decode cX0_add 131 = .ok (.invokestatic 74, 3) := by decide +kernel
theorem dX0_add_134 : decode cX0_add 134 = .ok (.lor, 1) := by decide +kernel
theorem dX0_add_135 : decode cX0_add 135 = .ok (.lastore, 1) := by decide +kernel
theorem dX0_add_136 : decode cX0_add 136 = .ok (.iinc 4 1, 3) := by decide +kernel
theorem dX0_add_139 : decode cX0_add 139 = .ok (.goto (-59), 3) := by decide +kernel
theorem dX0_add_142 : decode cX0_add 142 = .ok (.aload_n 0, 1) := by decide +kernel
theorem dX0_add_143 : decode cX0_add 143 = .ok (.dup, 1) := by decide +kernel
theorem dX0_add_144 : decode cX0_add 144 = .ok (.getfield 9, 3) := by decide +kernel
theorem dX0_add_147 : decode cX0_add 147 = .ok (.dup_x1, 1) := by decide +kernel
theorem dX0_add_148 : decode cX0_add 148 = .ok (.iconst 1, 1) := by decide +kernel
theorem dX0_add_149 : decode cX0_add 149 = .ok (.iadd, 1) := by decide +kernel
theorem dX0_add_150 : decode cX0_add 150 = .ok (.putfield 9, 3) := by decide +kernel
theorem dX0_add_153 : decode cX0_add 153 = .ok (.ireturn, 1) := by decide +kernel
theorem dX0_areApart_0 : decode cX0_areApart 0 = .ok (.aload_n 0, 1) := by decide +kernel
theorem dX0_areApart_1 : decode cX0_areApart 1 = .ok (.getfield 22, 3) := by decide +kernel
theorem dX0_areApart_4 : decode cX0_areApart 4 = .ok (.iload_n 1, 1) := by decide +kernel
theorem dX0_areApart_5 : decode cX0_areApart 5 = .ok (.iaload, 1) := by decide +kernel
theorem dX0_areApart_6 : decode cX0_areApart 6 = .ok (.aload_n 0, 1) := by decide +kernel
theorem dX0_areApart_7 : decode cX0_areApart 7 = .ok (.getfield 19, 3) := by decide +kernel
theorem dX0_areApart_10 : decode cX0_areApart 10 = .ok (.iload_n 2, 1) := by decide +kernel
theorem dX0_areApart_11 : decode cX0_areApart 11 = .ok (.iaload, 1) := by decide +kernel
theorem dX0_areApart_12 : decode cX0_areApart 12 = .ok (.isub, 1) := by decide +kernel
theorem dX0_areApart_13 : decode cX0_areApart 13 = .ok (.aload_n 0, 1) := by decide +kernel
theorem dX0_areApart_14 : decode cX0_areApart 14 = .ok (.getfield 22, 3) := by decide +kernel
theorem dX0_areApart_17 : decode cX0_areApart 17 = .ok (.iload_n 2, 1) := by decide +kernel
theorem dX0_areApart_18 : decode cX0_areApart 18 = .ok (.iaload, 1) := by decide +kernel
theorem dX0_areApart_19 : decode cX0_areApart 19 = .ok (.aload_n 0, 1) := by decide +kernel
theorem dX0_areApart_20 : decode cX0_areApart 20 = .ok (.getfield 19, 3) := by decide +kernel
theorem dX0_areApart_23 : decode cX0_areApart 23 = .ok (.iload_n 1, 1) := by decide +kernel
theorem dX0_areApart_24 : decode cX0_areApart 24 = .ok (.iaload, 1) := by decide +kernel
theorem dX0_areApart_25 : decode cX0_areApart 25 = .ok (.isub, 1) := by decide +kernel
theorem dX0_areApart_26 : decode cX0_areApart 26 = .ok (.invokestatic 78, 3) := by decide +kernel
theorem dX0_areApart_29 : decode cX0_areApart 29 = .ok (.istore_n 3, 1) := by decide +kernel
theorem dX0_areApart_30 : decode cX0_areApart 30 = .ok (.iload_n 3, 1) := by decide +kernel
theorem dX0_areApart_31 : decode cX0_areApart 31 = .ok (.iconst 4, 1) := by decide +kernel
theorem dX0_areApart_32 : decode cX0_areApart 32 = .ok (.imul, 1) := by decide +kernel
theorem dX0_areApart_33 : decode cX0_areApart 33 = .ok (.aload_n 0, 1) := by decide +kernel
theorem dX0_areApart_34 : decode cX0_areApart 34 = .ok (.getfield 61, 3) := by decide +kernel
theorem dX0_areApart_37 : decode cX0_areApart 37 = .ok (.aload_n 0, 1) := by decide +kernel
theorem dX0_areApart_38 : decode cX0_areApart 38 = .ok (.getfield 15, 3) := by decide +kernel
theorem dX0_areApart_41 : decode cX0_areApart 41 = .ok (.iload_n 1, 1) := by decide +kernel
theorem dX0_areApart_42 : decode cX0_areApart 42 = .ok (.iaload, 1) := by decide +kernel
theorem dX0_areApart_43 : decode cX0_areApart 43 = .ok (.aload_n 0, 1) := by decide +kernel
theorem dX0_areApart_44 : decode cX0_areApart 44 = .ok (.getfield 15, 3) := by decide +kernel
theorem dX0_areApart_47 : decode cX0_areApart 47 = .ok (.iload_n 2, 1) := by decide +kernel
theorem dX0_areApart_48 : decode cX0_areApart 48 = .ok (.iaload, 1) := by decide +kernel
theorem dX0_areApart_49 : decode cX0_areApart 49 = .ok (.invokevirtual 84, 3) := by decide +kernel
theorem dX0_areApart_52 : decode cX0_areApart 52 = .ok (.if_icmp .ge 7, 3) := by decide +kernel
theorem dX0_areApart_55 : decode cX0_areApart 55 = .ok (.iconst 1, 1) := by decide +kernel
theorem dX0_areApart_56 : decode cX0_areApart 56 = .ok (.goto 4, 3) := by decide +kernel
theorem dX0_areApart_59 : decode cX0_areApart 59 = .ok (.iconst 0, 1) := by decide +kernel
theorem dX0_areApart_60 : decode cX0_areApart 60 = .ok (.ireturn, 1) := by decide +kernel
theorem dX0_solveBy_0 : decode cX0_solveBy 0 = .ok (.iload_n 1, 1) := by decide +kernel
theorem dX0_solveBy_1 : decode cX0_solveBy 1 = .ok (.invokestatic 74, 3) := by decide +kernel
theorem dX0_solveBy_4 : decode cX0_solveBy 4 = .ok (.ldc2_w 87, 3) := by decide +kernel
theorem dX0_solveBy_7 : decode cX0_solveBy 7 = .ok (.lxor, 1) := by decide +kernel
theorem dX0_solveBy_8 : decode cX0_solveBy 8 = .ok (.lstore 4, 2) := by decide +kernel
theorem dX0_solveBy_10 : decode cX0_solveBy 10 = .ok (.iconst 0, 1) := by decide +kernel
theorem dX0_solveBy_11 : decode cX0_solveBy 11 = .ok (.istore 6, 2) := by decide +kernel
theorem dX0_solveBy_13 : decode cX0_solveBy 13 = .ok (.iload 6, 2) := by decide +kernel
theorem dX0_solveBy_15 : decode cX0_solveBy 15 = .ok (.bipush 20, 2) := by decide +kernel
theorem dX0_solveBy_17 : decode cX0_solveBy 17 = .ok (.if_icmp .ge 21, 3) := by decide +kernel
theorem dX0_solveBy_20 : decode cX0_solveBy 20 = .ok (.aload_n 0, 1) := by decide +kernel
theorem dX0_solveBy_21 : decode cX0_solveBy 21 = .ok (.getfield 41, 3) := by decide +kernel
theorem dX0_solveBy_24 : decode cX0_solveBy 24 = .ok (.iload 6, 2) := by decide +kernel
theorem dX0_solveBy_26 : decode cX0_solveBy 26 = .ok (.dup2, 1) := by decide +kernel
theorem dX0_solveBy_27 : decode cX0_solveBy 27 = .ok (.laload, 1) := by decide +kernel
theorem dX0_solveBy_28 : decode cX0_solveBy 28 = .ok (.lload 4, 2) := by decide +kernel
theorem dX0_solveBy_30 : decode cX0_solveBy 30 = .ok (.land, 1) := by decide +kernel
theorem dX0_solveBy_31 : decode cX0_solveBy 31 = .ok (.lastore, 1) := by decide +kernel
theorem dX0_solveBy_32 : decode cX0_solveBy 32 = .ok (.iinc 6 1, 3) := by decide +kernel
theorem dX0_solveBy_35 : decode cX0_solveBy 35 = .ok (.goto (-22), 3) := by decide +kernel
theorem dX0_solveBy_38 : decode cX0_solveBy 38 = .ok (.aload_n 0, 1) := by decide +kernel
theorem dX0_solveBy_39 : decode cX0_solveBy 39 = .ok (.dup, 1) := by decide +kernel
theorem dX0_solveBy_40 : decode cX0_solveBy 40 = .ok (.getfield 44, 3) := by decide +kernel
theorem dX0_solveBy_43 : decode cX0_solveBy 43 = .ok (.lload 4, 2) := by decide +kernel
theorem dX0_solveBy_45 : decode cX0_solveBy 45 = .ok (.land, 1) := by decide +kernel
theorem dX0_solveBy_46 : decode cX0_solveBy 46 = .ok (.putfield 44, 3) := by decide +kernel
theorem dX0_solveBy_49 : decode cX0_solveBy 49 = .ok (.aload_n 0, 1) := by decide +kernel
theorem dX0_solveBy_50 : decode cX0_solveBy 50 = .ok (.getfield 28, 3) := by decide +kernel
theorem dX0_solveBy_53 : decode cX0_solveBy 53 = .ok (.iload_n 1, 1) := by decide +kernel
theorem dX0_solveBy_54 : decode cX0_solveBy 54 = .ok (.iload_n 2, 1) := by decide +kernel
theorem dX0_solveBy_55 : decode cX0_solveBy 55 = .ok (.iastore, 1) := by decide +kernel
theorem dX0_solveBy_56 : decode cX0_solveBy 56 = .ok (.aload_n 0, 1) := by decide +kernel
theorem dX0_solveBy_57 : decode cX0_solveBy 57 = .ok (.getfield 31, 3) := by decide +kernel
theorem dX0_solveBy_60 : decode cX0_solveBy 60 = .ok (.iload_n 1, 1) := by decide +kernel
theorem dX0_solveBy_61 : decode cX0_solveBy 61 = .ok (.iload_n 3, 1) := by decide +kernel
theorem dX0_solveBy_62 : decode cX0_solveBy 62 = .ok (.iastore, 1) := by decide +kernel
theorem dX0_solveBy_63 : decode cX0_solveBy 63 = .ok (.iload_n 2, 1) := by decide +kernel
theorem dX0_solveBy_64 : decode cX0_solveBy 64 = .ok (.iconst (-1), 1) := by decide +kernel
theorem dX0_solveBy_65 : decode cX0_solveBy 65 = .ok (.if_icmp .eq 47, 3) := by decide +kernel
theorem dX0_solveBy_68 : decode cX0_solveBy 68 = .ok (.iload_n 3, 1) := by decide +kernel
theorem dX0_solveBy_69 : decode cX0_solveBy 69 = .ok (.iconst (-1), 1) := by decide +kernel
theorem dX0_solveBy_70 : decode cX0_solveBy 70 = .ok (.if_icmp .eq 42, 3) := by decide +kernel
theorem dX0_solveBy_73 : decode cX0_solveBy 73 = .ok (.aload_n 0, 1) := by decide +kernel
theorem dX0_solveBy_74 : decode cX0_solveBy 74 = .ok (.getfield 41, 3) := by decide +kernel
theorem dX0_solveBy_77 : decode cX0_solveBy 77 = .ok (.iload_n 2, 1) := by decide +kernel
theorem dX0_solveBy_78 : decode cX0_solveBy 78 = .ok (.dup2, 1) := by decide +kernel
theorem dX0_solveBy_79 : decode cX0_solveBy 79 = .ok (.laload, 1) := by decide +kernel
theorem dX0_solveBy_80 : decode cX0_solveBy 80 = .ok (.iload_n 1, 1) := by decide +kernel
theorem dX0_solveBy_81 : decode cX0_solveBy 81 = .ok (.invokestatic 74, 3) := by decide +kernel
theorem dX0_solveBy_84 : decode cX0_solveBy 84 = .ok (.lor, 1) := by decide +kernel
theorem dX0_solveBy_85 : decode cX0_solveBy 85 = .ok (.lastore, 1) := by decide +kernel
theorem dX0_solveBy_86 : decode cX0_solveBy 86 = .ok (.aload_n 0, 1) := by decide +kernel
theorem dX0_solveBy_87 : decode cX0_solveBy 87 = .ok (.getfield 41, 3) := by decide +kernel
theorem dX0_solveBy_90 : decode cX0_solveBy 90 = .ok (.iload_n 3, 1) := by decide +kernel
theorem dX0_solveBy_91 : decode cX0_solveBy 91 = .ok (.dup2, 1) := by decide +kernel
theorem dX0_solveBy_92 : decode cX0_solveBy 92 = .ok (.laload, 1) := by decide +kernel
theorem dX0_solveBy_93 : decode cX0_solveBy 93 = .ok (.iload_n 1, 1) := by decide +kernel
theorem dX0_solveBy_94 : decode cX0_solveBy 94 = .ok (.invokestatic 74, 3) := by decide +kernel
theorem dX0_solveBy_97 : decode cX0_solveBy 97 = .ok (.lor, 1) := by decide +kernel
theorem dX0_solveBy_98 : decode cX0_solveBy 98 = .ok (.lastore, 1) := by decide +kernel
theorem dX0_solveBy_99 : decode cX0_solveBy 99 = .ok (.aload_n 0, 1) := by decide +kernel
theorem dX0_solveBy_100 : decode cX0_solveBy 100 = .ok (.dup, 1) := by decide +kernel
theorem dX0_solveBy_101 : decode cX0_solveBy 101 = .ok (.getfield 44, 3) := by decide +kernel
theorem dX0_solveBy_104 : decode cX0_solveBy 104 = .ok (.iload_n 1, 1) := by decide +kernel
theorem dX0_solveBy_105 : decode cX0_solveBy 105 = .ok (.invokestatic 74, 3) := by decide +kernel
theorem dX0_solveBy_108 : decode cX0_solveBy 108 = .ok (.lor, 1) := by decide +kernel
theorem dX0_solveBy_109 : decode cX0_solveBy 109 = .ok (.putfield 44, 3) := by decide +kernel
theorem dX0_solveBy_112 : decode cX0_solveBy 112 = .ok (.return_, 1) := by decide +kernel
theorem dX0_drop_0 : decode cX0_drop 0 = .ok (.aload_n 0, 1) := by decide +kernel
theorem dX0_drop_1 : decode cX0_drop 1 = .ok (.iload_n 1, 1) := by decide +kernel
theorem dX0_drop_2 : decode cX0_drop 2 = .ok (.iconst (-1), 1) := by decide +kernel
theorem dX0_drop_3 : decode cX0_drop 3 = .ok (.iconst (-1), 1) := by decide +kernel
theorem dX0_drop_4 : decode cX0_drop 4 = .ok (.invokevirtual 89, 3) := by decide +kernel
theorem dX0_drop_7 : decode cX0_drop 7 = .ok (.aload_n 0, 1) := by decide +kernel
theorem dX0_drop_8 : decode cX0_drop 8 = .ok (.dup, 1) := by decide +kernel
theorem dX0_drop_9 : decode cX0_drop 9 = .ok (.getfield 51, 3) := by decide +kernel
theorem dX0_drop_12 : decode cX0_drop 12 = .ok (.iload_n 1, 1) := by decide +kernel
theorem dX0_drop_13 : decode cX0_drop 13 = .ok (.invokestatic 74, 3) := by decide +kernel
theorem dX0_drop_16 : decode cX0_drop 16 = .ok (.lor, 1) := by decide +kernel
theorem dX0_drop_17 : decode cX0_drop 17 = .ok (.putfield 51, 3) := by decide +kernel
theorem dX0_drop_20 : decode cX0_drop 20 = .ok (.return_, 1) := by decide +kernel
theorem dX0_tellBarred_0 : decode cX0_tellBarred 0 = .ok (.aload_n 0, 1) := by decide +kernel
theorem dX0_tellBarred_1 : decode cX0_tellBarred 1 = .ok (.getfield 38, 3) := by decide +kernel
theorem dX0_tellBarred_4 : decode cX0_tellBarred 4 = .ok (.iload_n 1, 1) := by decide +kernel
theorem dX0_tellBarred_5 : decode cX0_tellBarred 5 = .ok (.laload, 1) := by decide +kernel
theorem dX0_tellBarred_6 : decode cX0_tellBarred 6 = .ok (.iload_n 2, 1) := by decide +kernel
theorem dX0_tellBarred_7 : decode cX0_tellBarred 7 = .ok (.invokestatic 93, 3) := by decide +kernel
theorem dX0_tellBarred_10 : decode cX0_tellBarred 10 = .ok (.ifCond .ne 7, 3) := by decide +kernel
theorem dX0_tellBarred_13 : decode cX0_tellBarred 13 = .ok (.iconst 1, 1) := by decide +kernel
theorem dX0_tellBarred_14 : decode cX0_tellBarred 14 = .ok (.goto 4, 3) := by decide +kernel
theorem dX0_tellBarred_17 : decode cX0_tellBarred 17 = .ok (.iconst 0, 1) := by decide +kernel
theorem dX0_tellBarred_18 : decode cX0_tellBarred 18 = .ok (.istore_n 3, 1) := by decide +kernel
theorem dX0_tellBarred_19 : decode cX0_tellBarred 19 = .ok (.aload_n 0, 1) := by decide +kernel
theorem dX0_tellBarred_20 : decode cX0_tellBarred 20 = .ok (.getfield 38, 3) := by decide +kernel
theorem dX0_tellBarred_23 : decode cX0_tellBarred 23 = .ok (.iload_n 1, 1) := by decide +kernel
theorem dX0_tellBarred_24 : decode cX0_tellBarred 24 = .ok (.dup2, 1) := by decide +kernel
theorem dX0_tellBarred_25 : decode cX0_tellBarred 25 = .ok (.laload, 1) := by decide +kernel
theorem dX0_tellBarred_26 : decode cX0_tellBarred 26 = .ok (.iload_n 2, 1) := by decide +kernel
theorem dX0_tellBarred_27 : decode cX0_tellBarred 27 = .ok (.invokestatic 74, 3) := by decide +kernel
theorem dX0_tellBarred_30 : decode cX0_tellBarred 30 = .ok (.lor, 1) := by decide +kernel
theorem dX0_tellBarred_31 : decode cX0_tellBarred 31 = .ok (.lastore, 1) := by decide +kernel
theorem dX0_tellBarred_32 : decode cX0_tellBarred 32 = .ok (.aload_n 0, 1) := by decide +kernel
theorem dX0_tellBarred_33 : decode cX0_tellBarred 33 = .ok (.getfield 38, 3) := by decide +kernel
theorem dX0_tellBarred_36 : decode cX0_tellBarred 36 = .ok (.iload_n 2, 1) := by decide +kernel
theorem dX0_tellBarred_37 : decode cX0_tellBarred 37 = .ok (.dup2, 1) := by decide +kernel
theorem dX0_tellBarred_38 : decode cX0_tellBarred 38 = .ok (.laload, 1) := by decide +kernel
theorem dX0_tellBarred_39 : decode cX0_tellBarred 39 = .ok (.iload_n 1, 1) := by decide +kernel
theorem dX0_tellBarred_40 : decode cX0_tellBarred 40 = .ok (.invokestatic 74, 3) := by decide +kernel
theorem dX0_tellBarred_43 : decode cX0_tellBarred 43 = .ok (.lor, 1) := by decide +kernel
theorem dX0_tellBarred_44 : decode cX0_tellBarred 44 = .ok (.lastore, 1) := by decide +kernel
theorem dX0_tellBarred_45 : decode cX0_tellBarred 45 = .ok (.iload_n 3, 1) := by decide +kernel
theorem dX0_tellBarred_46 : decode cX0_tellBarred 46 = .ok (.ireturn, 1) := by decide +kernel
theorem dX0_oneWith_0 : decode cX0_oneWith 0 = .ok (.aload_n 0, 1) := by decide +kernel
theorem dX0_oneWith_1 : decode cX0_oneWith 1 = .ok (.aload_n 0, 1) := by decide +kernel
theorem dX0_oneWith_2 : decode cX0_oneWith 2 = .ok (.getfield 28, 3) := by decide +kernel
theorem dX0_oneWith_5 : decode cX0_oneWith 5 = .ok (.iload_n 1, 1) := by decide +kernel
theorem dX0_oneWith_6 : decode cX0_oneWith 6 = .ok (.iaload, 1) := by decide +kernel
theorem dX0_oneWith_7 : decode cX0_oneWith 7 = .ok (.invokevirtual 97, 3) := by decide +kernel
theorem dX0_oneWith_10 : decode cX0_oneWith 10 = .ok (.aload_n 0, 1) := by decide +kernel
theorem dX0_oneWith_11 : decode cX0_oneWith 11 = .ok (.aload_n 0, 1) := by decide +kernel
theorem dX0_oneWith_12 : decode cX0_oneWith 12 = .ok (.getfield 31, 3) := by decide +kernel
theorem dX0_oneWith_15 : decode cX0_oneWith 15 = .ok (.iload_n 1, 1) := by decide +kernel
theorem dX0_oneWith_16 : decode cX0_oneWith 16 = .ok (.iaload, 1) := by decide +kernel
theorem dX0_oneWith_17 : decode cX0_oneWith 17 = .ok (.invokevirtual 97, 3) := by decide +kernel
theorem dX0_oneWith_20 : decode cX0_oneWith 20 = .ok (.lor, 1) := by decide +kernel
theorem dX0_oneWith_21 : decode cX0_oneWith 21 = .ok (.iload_n 1, 1) := by decide +kernel
theorem dX0_oneWith_22 : decode cX0_oneWith 22 = .ok (.invokestatic 74, 3) := by decide +kernel
theorem dX0_oneWith_25 : decode cX0_oneWith 25 = .ok (.ldc2_w 87, 3) := by decide +kernel
theorem dX0_oneWith_28 : decode cX0_oneWith 28 = .ok (.lxor, 1) := by decide +kernel
theorem dX0_oneWith_29 : decode cX0_oneWith 29 = .ok (.land, 1) := by decide +kernel
theorem dX0_oneWith_30 : decode cX0_oneWith 30 = .ok (.lreturn, 1) := by decide +kernel
theorem dX0_setOf_0 : decode cX0_setOf 0 = .ok (.iload_n 1, 1) := by decide +kernel
theorem dX0_setOf_1 : decode cX0_setOf 1 = .ok (.ifCond .lt 18, 3) := by decide +kernel
theorem dX0_setOf_4 : decode cX0_setOf 4 = .ok (.iload_n 1, 1) := by decide +kernel
theorem dX0_setOf_5 : decode cX0_setOf 5 = .ok (.bipush 20, 2) := by decide +kernel
theorem dX0_setOf_7 : decode cX0_setOf 7 = .ok (.if_icmp .ge 12, 3) := by decide +kernel
theorem dX0_setOf_10 : decode cX0_setOf 10 = .ok (.aload_n 0, 1) := by decide +kernel
theorem dX0_setOf_11 : decode cX0_setOf 11 = .ok (.getfield 41, 3) := by decide +kernel
theorem dX0_setOf_14 : decode cX0_setOf 14 = .ok (.iload_n 1, 1) := by decide +kernel
theorem dX0_setOf_15 : decode cX0_setOf 15 = .ok (.laload, 1) := by decide +kernel
theorem dX0_setOf_16 : decode cX0_setOf 16 = .ok (.goto 4, 3) := by decide +kernel
theorem dX0_setOf_19 : decode cX0_setOf 19 = .ok (.lconst 0, 1) := by decide +kernel
theorem dX0_setOf_20 : decode cX0_setOf 20 = .ok (.lreturn, 1) := by decide +kernel
theorem dX0_barredFrom_0 : decode cX0_barredFrom 0 = .ok (.aload_n 0, 1) := by decide +kernel
theorem dX0_barredFrom_1 : decode cX0_barredFrom 1 = .ok (.getfield 34, 3) := by decide +kernel
theorem dX0_barredFrom_4 : decode cX0_barredFrom 4 = .ok (.iload_n 1, 1) := by decide +kernel
theorem dX0_barredFrom_5 : decode cX0_barredFrom 5 = .ok (.laload, 1) := by decide +kernel
theorem dX0_barredFrom_6 : decode cX0_barredFrom 6 = .ok (.aload_n 0, 1) := by decide +kernel
theorem dX0_barredFrom_7 : decode cX0_barredFrom 7 = .ok (.getfield 38, 3) := by decide +kernel
theorem dX0_barredFrom_10 : decode cX0_barredFrom 10 = .ok (.iload_n 1, 1) := by decide +kernel
theorem dX0_barredFrom_11 : decode cX0_barredFrom 11 = .ok (.laload, 1) := by decide +kernel
theorem dX0_barredFrom_12 : decode cX0_barredFrom 12 = .ok (.lor, 1) := by decide +kernel
theorem dX0_barredFrom_13 : decode cX0_barredFrom 13 = .ok (.lstore_n 2, 1) := by decide +kernel
theorem dX0_barredFrom_14 : decode cX0_barredFrom 14 = .ok (.aload_n 0, 1) := by decide +kernel
theorem dX0_barredFrom_15 : decode cX0_barredFrom 15 = .ok (.getfield 44, 3) := by decide +kernel
theorem dX0_barredFrom_18 : decode cX0_barredFrom 18 = .ok (.iload_n 1, 1) := by decide +kernel
theorem dX0_barredFrom_19 : decode cX0_barredFrom 19 = .ok (.invokestatic 93, 3) := by decide +kernel
theorem dX0_barredFrom_22 : decode cX0_barredFrom 22 = .ok (.ifCond .eq 10, 3) := by decide +kernel
theorem dX0_barredFrom_25 : decode cX0_barredFrom 25 = .ok (.lload_n 2, 1) := by decide +kernel
theorem dX0_barredFrom_26 : decode cX0_barredFrom 26 = .ok (.aload_n 0, 1) := by decide +kernel
theorem dX0_barredFrom_27 : decode cX0_barredFrom 27 = .ok (.getfield 44, 3) := by decide +kernel
theorem dX0_barredFrom_30 : decode cX0_barredFrom 30 = .ok (.lor, 1) := by decide +kernel
theorem dX0_barredFrom_31 : decode cX0_barredFrom 31 = .ok (.lstore_n 2, 1) := by decide +kernel
theorem dX0_barredFrom_32 : decode cX0_barredFrom 32 = .ok (.lload_n 2, 1) := by decide +kernel
theorem dX0_barredFrom_33 : decode cX0_barredFrom 33 = .ok (.aload_n 0, 1) := by decide +kernel
theorem dX0_barredFrom_34 : decode cX0_barredFrom 34 = .ok (.iload_n 1, 1) := by decide +kernel
theorem dX0_barredFrom_35 : decode cX0_barredFrom 35 = .ok (.invokevirtual 100, 3) := by decide +kernel
theorem dX0_barredFrom_38 : decode cX0_barredFrom 38 = .ok (.ldc2_w 87, 3) := by decide +kernel
theorem dX0_barredFrom_41 : decode cX0_barredFrom 41 = .ok (.lxor, 1) := by decide +kernel
theorem dX0_barredFrom_42 : decode cX0_barredFrom 42 = .ok (.land, 1) := by decide +kernel
theorem dX0_barredFrom_43 : decode cX0_barredFrom 43 = .ok (.iload_n 1, 1) := by decide +kernel
theorem dX0_barredFrom_44 : decode cX0_barredFrom 44 = .ok (.invokestatic 74, 3) := by decide +kernel
theorem dX0_barredFrom_47 : decode cX0_barredFrom 47 = .ok (.ldc2_w 87, 3) := by decide +kernel
theorem dX0_barredFrom_50 : decode cX0_barredFrom 50 = .ok (.lxor, 1) := by decide +kernel
theorem dX0_barredFrom_51 : decode cX0_barredFrom 51 = .ok (.land, 1) := by decide +kernel
theorem dX0_barredFrom_52 : decode cX0_barredFrom 52 = .ok (.aload_n 0, 1) := by decide +kernel
theorem dX0_barredFrom_53 : decode cX0_barredFrom 53 = .ok (.getfield 51, 3) := by decide +kernel
theorem dX0_barredFrom_56 : decode cX0_barredFrom 56 = .ok (.ldc2_w 87, 3) := by decide +kernel
theorem dX0_barredFrom_59 : decode cX0_barredFrom 59 = .ok (.lxor, 1) := by decide +kernel
theorem dX0_barredFrom_60 : decode cX0_barredFrom 60 = .ok (.land, 1) := by decide +kernel
theorem dX0_barredFrom_61 : decode cX0_barredFrom 61 = .ok (.lreturn, 1) := by decide +kernel
theorem dX0_standing_0 : decode cX0_standing 0 = .ok (.aload_n 0, 1) := by decide +kernel
theorem dX0_standing_1 : decode cX0_standing 1 = .ok (.getfield 9, 3) := by decide +kernel
theorem dX0_standing_4 : decode cX0_standing 4 = .ok (.invokestatic 74, 3) := by decide +kernel
theorem dX0_standing_7 : decode cX0_standing 7 = .ok (.lconst 1, 1) := by decide +kernel
theorem dX0_standing_8 : decode cX0_standing 8 = .ok (.lsub, 1) := by decide +kernel
theorem dX0_standing_9 : decode cX0_standing 9 = .ok (.aload_n 0, 1) := by decide +kernel
theorem dX0_standing_10 : decode cX0_standing 10 = .ok (.getfield 51, 3) := by decide +kernel
theorem dX0_standing_13 : decode cX0_standing 13 = .ok (.ldc2_w 87, 3) := by decide +kernel
theorem dX0_standing_16 : decode cX0_standing 16 = .ok (.lxor, 1) := by decide +kernel
theorem dX0_standing_17 : decode cX0_standing 17 = .ok (.land, 1) := by decide +kernel
theorem dX0_standing_18 : decode cX0_standing 18 = .ok (.aload_n 0, 1) := by decide +kernel
theorem dX0_standing_19 : decode cX0_standing 19 = .ok (.getfield 48, 3) := by decide +kernel
theorem dX0_standing_22 : decode cX0_standing 22 = .ok (.ldc2_w 87, 3) := by decide +kernel
theorem dX0_standing_25 : decode cX0_standing 25 = .ok (.lxor, 1) := by decide +kernel
theorem dX0_standing_26 : decode cX0_standing 26 = .ok (.land, 1) := by decide +kernel
theorem dX0_standing_27 : decode cX0_standing 27 = .ok (.lreturn, 1) := by decide +kernel
theorem dX0_counting_0 : decode cX0_counting 0 = .ok (.aload_n 0, 1) := by decide +kernel
theorem dX0_counting_1 : decode cX0_counting 1 = .ok (.invokevirtual 103, 3) := by decide +kernel
theorem dX0_counting_4 : decode cX0_counting 4 = .ok (.lstore_n 1, 1) := by decide +kernel
theorem dX0_counting_5 : decode cX0_counting 5 = .ok (.lconst 0, 1) := by decide +kernel
theorem dX0_counting_6 : decode cX0_counting 6 = .ok (.lstore_n 3, 1) := by decide +kernel
theorem dX0_counting_7 : decode cX0_counting 7 = .ok (.iconst 0, 1) := by decide +kernel
theorem dX0_counting_8 : decode cX0_counting 8 = .ok (.istore 5, 2) := by decide +kernel
theorem dX0_counting_10 : decode cX0_counting 10 = .ok (.iload 5, 2) := by decide +kernel
theorem dX0_counting_12 : decode cX0_counting 12 = .ok (.aload_n 0, 1) := by decide +kernel
theorem dX0_counting_13 : decode cX0_counting 13 = .ok (.getfield 9, 3) := by decide +kernel
theorem dX0_counting_16 : decode cX0_counting 16 = .ok (.if_icmp .ge 54, 3) := by decide +kernel
theorem dX0_counting_19 : decode cX0_counting 19 = .ok (.lload_n 1, 1) := by decide +kernel
theorem dX0_counting_20 : decode cX0_counting 20 = .ok (.iload 5, 2) := by decide +kernel
theorem dX0_counting_22 : decode cX0_counting 22 = .ok (.invokestatic 93, 3) := by decide +kernel
theorem dX0_counting_25 : decode cX0_counting 25 = .ok (.ifCond .eq 39, 3) := by decide +kernel
theorem dX0_counting_28 : decode cX0_counting 28 = .ok (.aload_n 0, 1) := by decide +kernel
theorem dX0_counting_29 : decode cX0_counting 29 = .ok (.getfield 19, 3) := by decide +kernel
theorem dX0_counting_32 : decode cX0_counting 32 = .ok (.iload 5, 2) := by decide +kernel
theorem dX0_counting_34 : decode cX0_counting 34 = .ok (.iaload, 1) := by decide +kernel
theorem dX0_counting_35 : decode cX0_counting 35 = .ok (.aload_n 0, 1) := by decide +kernel
theorem dX0_counting_36 : decode cX0_counting 36 = .ok (.getfield 54, 3) := by decide +kernel
theorem dX0_counting_39 : decode cX0_counting 39 = .ok (.if_icmp .lt 25, 3) := by decide +kernel
theorem dX0_counting_42 : decode cX0_counting 42 = .ok (.aload_n 0, 1) := by decide +kernel
theorem dX0_counting_43 : decode cX0_counting 43 = .ok (.getfield 19, 3) := by decide +kernel
theorem dX0_counting_46 : decode cX0_counting 46 = .ok (.iload 5, 2) := by decide +kernel
theorem dX0_counting_48 : decode cX0_counting 48 = .ok (.iaload, 1) := by decide +kernel
theorem dX0_counting_49 : decode cX0_counting 49 = .ok (.aload_n 0, 1) := by decide +kernel
theorem dX0_counting_50 : decode cX0_counting 50 = .ok (.getfield 58, 3) := by decide +kernel
theorem dX0_counting_53 : decode cX0_counting 53 = .ok (.if_icmp .gt 11, 3) := by decide +kernel
theorem dX0_counting_56 : decode cX0_counting 56 = .ok (.lload_n 3, 1) := by decide +kernel
theorem dX0_counting_57 : decode cX0_counting 57 = .ok (.iload 5, 2) := by decide +kernel
theorem dX0_counting_59 : decode cX0_counting 59 = .ok (.invokestatic 74, 3) := by decide +kernel
theorem dX0_counting_62 : decode cX0_counting 62 = .ok (.lor, 1) := by decide +kernel
theorem dX0_counting_63 : decode cX0_counting 63 = .ok (.lstore_n 3, 1) := by decide +kernel
theorem dX0_counting_64 : decode cX0_counting 64 = .ok (.iinc 5 1, 3) := by decide +kernel
theorem dX0_counting_67 : decode cX0_counting 67 = .ok (.goto (-57), 3) := by decide +kernel
theorem dX0_counting_70 : decode cX0_counting 70 = .ok (.lload_n 3, 1) := by decide +kernel
theorem dX0_counting_71 : decode cX0_counting 71 = .ok (.lreturn, 1) := by decide +kernel
theorem dX0_pairs_0 : decode cX0_pairs 0 = .ok (.aload_n 0, 1) := by decide +kernel
theorem dX0_pairs_1 : decode cX0_pairs 1 = .ok (.invokevirtual 107, 3) := by decide +kernel
theorem dX0_pairs_4 : decode cX0_pairs 4 = .ok (.lstore_n 2, 1) := by decide +kernel
theorem dX0_pairs_5 : decode cX0_pairs 5 = .ok (.iconst 0, 1) := by decide +kernel
theorem dX0_pairs_6 : decode cX0_pairs 6 = .ok (.istore 4, 2) := by decide +kernel
theorem dX0_pairs_8 : decode cX0_pairs 8 = .ok (.iconst 0, 1) := by decide +kernel
theorem dX0_pairs_9 : decode cX0_pairs 9 = .ok (.istore 5, 2) := by decide +kernel
theorem dX0_pairs_11 : decode cX0_pairs 11 = .ok (.iload 5, 2) := by decide +kernel
theorem dX0_pairs_13 : decode cX0_pairs 13 = .ok (.aload_n 0, 1) := by decide +kernel
theorem dX0_pairs_14 : decode cX0_pairs 14 = .ok (.getfield 9, 3) := by decide +kernel
theorem dX0_pairs_17 : decode cX0_pairs 17 = .ok (.if_icmp .ge 57, 3) := by decide +kernel
theorem dX0_pairs_20 : decode cX0_pairs 20 = .ok (.lload_n 2, 1) := by decide +kernel
theorem dX0_pairs_21 : decode cX0_pairs 21 = .ok (.iload 5, 2) := by decide +kernel
theorem dX0_pairs_23 : decode cX0_pairs 23 = .ok (.invokestatic 93, 3) := by decide +kernel
theorem dX0_pairs_26 : decode cX0_pairs 26 = .ok (.ifCond .eq 42, 3) := by decide +kernel
theorem dX0_pairs_29 : decode cX0_pairs 29 = .ok (.iload_n 1, 1) := by decide +kernel
theorem dX0_pairs_30 : decode cX0_pairs 30 = .ok (.ifCond .eq 12, 3) := by decide +kernel
theorem dX0_pairs_33 : decode cX0_pairs 33 = .ok (.aload_n 0, 1) := by decide +kernel
theorem dX0_pairs_34 : decode cX0_pairs 34 = .ok (.iload 5, 2) := by decide +kernel
theorem dX0_pairs_36 : decode cX0_pairs 36 = .ok (.invokevirtual 100, 3) := by decide +kernel
theorem dX0_pairs_39 : decode cX0_pairs 39 = .ok (.goto 9, 3) := by decide +kernel
theorem dX0_pairs_42 : decode cX0_pairs 42 = .ok (.aload_n 0, 1) := by decide +kernel
theorem dX0_pairs_43 : decode cX0_pairs 43 = .ok (.iload 5, 2) := by decide +kernel
theorem dX0_pairs_45 : decode cX0_pairs 45 = .ok (.invokevirtual 110, 3) := by decide +kernel
theorem dX0_pairs_48 : decode cX0_pairs 48 = .ok (.lstore 6, 2) := by decide +kernel
theorem dX0_pairs_50 : decode cX0_pairs 50 = .ok (.iload 4, 2) := by decide +kernel
theorem dX0_pairs_52 : decode cX0_pairs 52 = .ok (.lload 6, 2) := by decide +kernel
theorem dX0_pairs_54 : decode cX0_pairs 54 = .ok (.lload_n 2, 1) := by decide +kernel
theorem dX0_pairs_55 : decode cX0_pairs 55 = .ok (.land, 1) := by decide +kernel
theorem dX0_pairs_56 : decode cX0_pairs 56 = .ok (.iload 5, 2) := by decide +kernel
theorem dX0_pairs_58 : decode cX0_pairs 58 = .ok (.invokestatic 113, 3) := by decide +kernel
theorem dX0_pairs_61 : decode cX0_pairs 61 = .ok (.land, 1) := by decide +kernel
theorem dX0_pairs_62 : decode cX0_pairs 62 = .ok (.invokestatic 116, 3) := by decide +kernel
theorem dX0_pairs_65 : decode cX0_pairs 65 = .ok (.iadd, 1) := by decide +kernel
theorem dX0_pairs_66 : decode cX0_pairs 66 = .ok (.istore 4, 2) := by decide +kernel
theorem dX0_pairs_68 : decode cX0_pairs 68 = .ok (.iinc 5 1, 3) := by decide +kernel
theorem dX0_pairs_71 : decode cX0_pairs 71 = .ok (.goto (-60), 3) := by decide +kernel
theorem dX0_pairs_74 : decode cX0_pairs 74 = .ok (.iload 4, 2) := by decide +kernel
theorem dX0_pairs_76 : decode cX0_pairs 76 = .ok (.ireturn, 1) := by decide +kernel
theorem dX0_latestFrom_0 : decode cX0_latestFrom 0 = .ok (.iconst 0, 1) := by decide +kernel
theorem dX0_latestFrom_1 : decode cX0_latestFrom 1 = .ok (.istore_n 3, 1) := by decide +kernel
theorem dX0_latestFrom_2 : decode cX0_latestFrom 2 = .ok (.iconst 0, 1) := by decide +kernel
theorem dX0_latestFrom_3 : decode cX0_latestFrom 3 = .ok (.istore 4, 2) := by decide +kernel
theorem dX0_latestFrom_5 : decode cX0_latestFrom 5 = .ok (.iload 4, 2) := by decide +kernel
theorem dX0_latestFrom_7 : decode cX0_latestFrom 7 = .ok (.aload_n 0, 1) := by decide +kernel
theorem dX0_latestFrom_8 : decode cX0_latestFrom 8 = .ok (.getfield 9, 3) := by decide +kernel
theorem dX0_latestFrom_11 : decode cX0_latestFrom 11 = .ok (.if_icmp .ge 30, 3) := by decide +kernel
theorem dX0_latestFrom_14 : decode cX0_latestFrom 14 = .ok (.lload_n 1, 1) := by decide +kernel
theorem dX0_latestFrom_15 : decode cX0_latestFrom 15 = .ok (.iload 4, 2) := by decide +kernel
theorem dX0_latestFrom_17 : decode cX0_latestFrom 17 = .ok (.invokestatic 93, 3) := by decide +kernel
theorem dX0_latestFrom_20 : decode cX0_latestFrom 20 = .ok (.ifCond .eq 15, 3) := by decide +kernel
theorem dX0_latestFrom_23 : decode cX0_latestFrom 23 = .ok (.iload_n 3, 1) := by decide +kernel
theorem dX0_latestFrom_24 : decode cX0_latestFrom 24 = .ok (.aload_n 0, 1) := by decide +kernel
theorem dX0_latestFrom_25 : decode cX0_latestFrom 25 = .ok (.getfield 19, 3) := by decide +kernel
theorem dX0_latestFrom_28 : decode cX0_latestFrom 28 = .ok (.iload 4, 2) := by decide +kernel
theorem dX0_latestFrom_30 : decode cX0_latestFrom 30 = .ok (.iaload, 1) := by decide +kernel
theorem dX0_latestFrom_31 : decode cX0_latestFrom 31 = .ok (.invokestatic 78, 3) := by decide +kernel
theorem dX0_latestFrom_34 : decode cX0_latestFrom 34 = .ok (.istore_n 3, 1) := by decide +kernel
theorem dX0_latestFrom_35 : decode cX0_latestFrom 35 = .ok (.iinc 4 1, 3) := by decide +kernel
theorem dX0_latestFrom_38 : decode cX0_latestFrom 38 = .ok (.goto (-33), 3) := by decide +kernel
theorem dX0_latestFrom_41 : decode cX0_latestFrom 41 = .ok (.iload_n 3, 1) := by decide +kernel
theorem dX0_latestFrom_42 : decode cX0_latestFrom 42 = .ok (.ireturn, 1) := by decide +kernel
theorem dX1_init_0 : decode cX1_init 0 = .ok (.aload_n 0, 1) := by decide +kernel
theorem dX1_init_1 : decode cX1_init 1 = .ok (.invokespecial 3, 3) := by decide +kernel
theorem dX1_init_4 : decode cX1_init 4 = .ok (.aload_n 0, 1) := by decide +kernel
theorem dX1_init_5 : decode cX1_init 5 = .ok (.iconst 0, 1) := by decide +kernel
theorem dX1_init_6 : decode cX1_init 6 = .ok (.putfield 9, 3) := by decide +kernel
theorem dX1_init_9 : decode cX1_init 9 = .ok (.aload_n 0, 1) := by decide +kernel
theorem dX1_init_10 : decode cX1_init 10 = .ok (.lconst 0, 1) := by decide +kernel
theorem dX1_init_11 : decode cX1_init 11 = .ok (.putfield 15, 3) := by decide +kernel
theorem dX1_init_14 : decode cX1_init 14 = .ok (.aload_n 0, 1) := by decide +kernel
theorem dX1_init_15 : decode cX1_init 15 = .ok (.bipush 60, 2) := by decide +kernel
theorem dX1_init_17 : decode cX1_init 17 = .ok (.newarray .long, 2) := by decide +kernel
theorem dX1_init_19 : decode cX1_init 19 = .ok (.putfield 19, 3) := by decide +kernel
theorem dX1_init_22 : decode cX1_init 22 = .ok (.aload_n 0, 1) := by decide +kernel
theorem dX1_init_23 : decode cX1_init 23 = .ok (.bipush 60, 2) := by decide +kernel
theorem dX1_init_25 : decode cX1_init 25 = .ok (.newarray .long, 2) := by decide +kernel
theorem dX1_init_27 : decode cX1_init 27 = .ok (.putfield 23, 3) := by decide +kernel
theorem dX1_init_30 : decode cX1_init 30 = .ok (.aload_n 0, 1) := by decide +kernel
theorem dX1_init_31 : decode cX1_init 31 = .ok (.sipush 3600, 3) := by decide +kernel
theorem dX1_init_34 : decode cX1_init 34 = .ok (.newarray .int, 2) := by decide +kernel
theorem dX1_init_36 : decode cX1_init 36 = .ok (.putfield 26, 3) := by decide +kernel
theorem dX1_init_39 : decode cX1_init 39 = .ok (.return_, 1) := by decide +kernel
theorem dX1_load_0 : decode cX1_load 0 = .ok (.aload_n 0, 1) := by decide +kernel
theorem dX1_load_1 : decode cX1_load 1 = .ok (.aload_n 1, 1) := by decide +kernel
theorem dX1_load_2 : decode cX1_load 2 = .ok (.getfield 30, 3) := by decide +kernel
theorem dX1_load_5 : decode cX1_load 5 = .ok (.putfield 9, 3) := by decide +kernel
theorem dX1_load_8 : decode cX1_load 8 = .ok (.aload_n 0, 1) := by decide +kernel
theorem dX1_load_9 : decode cX1_load 9 = .ok (.aload_n 1, 1) := by decide +kernel
theorem dX1_load_10 : decode cX1_load 10 = .ok (.invokevirtual 35, 3) := by decide +kernel
theorem dX1_load_13 : decode cX1_load 13 = .ok (.putfield 15, 3) := by decide +kernel
theorem dX1_load_16 : decode cX1_load 16 = .ok (.iconst 0, 1) := by decide +kernel
theorem dX1_load_17 : decode cX1_load 17 = .ok (.istore 4, 2) := by decide +kernel
theorem dX1_load_19 : decode cX1_load 19 = .ok (.iload 4, 2) := by decide +kernel
theorem dX1_load_21 : decode cX1_load 21 = .ok (.aload_n 0, 1) := by decide +kernel
theorem dX1_load_22 : decode cX1_load 22 = .ok (.getfield 9, 3) := by decide +kernel
theorem dX1_load_25 : decode cX1_load 25 = .ok (.if_icmp .ge 136, 3) := by decide +kernel
theorem dX1_load_28 : decode cX1_load 28 = .ok (.aload_n 0, 1) := by decide +kernel
theorem dX1_load_29 : decode cX1_load 29 = .ok (.getfield 19, 3) := by decide +kernel
theorem dX1_load_32 : decode cX1_load 32 = .ok (.iload 4, 2) := by decide +kernel
theorem dX1_load_34 : decode cX1_load 34 = .ok (.aload_n 0, 1) := by decide +kernel
theorem dX1_load_35 : decode cX1_load 35 = .ok (.getfield 15, 3) := by decide +kernel
theorem dX1_load_38 : decode cX1_load 38 = .ok (.iload 4, 2) := by decide +kernel
theorem dX1_load_40 : decode cX1_load 40 = .ok (.invokestatic 39, 3) := by decide +kernel
theorem dX1_load_43 : decode cX1_load 43 = .ok (.ifCond .eq 11, 3) := by decide +kernel
theorem dX1_load_46 : decode cX1_load 46 = .ok (.iload 4, 2) := by decide +kernel
theorem dX1_load_48 : decode cX1_load 48 = .ok (.invokestatic 43, 3) := by decide +kernel
theorem dX1_load_51 : decode cX1_load 51 = .ok (.goto 4, 3) := by decide +kernel
theorem dX1_load_54 : decode cX1_load 54 = .ok (.lconst 0, 1) := by decide +kernel
theorem dX1_load_55 : decode cX1_load 55 = .ok (.lastore, 1) := by decide +kernel
theorem dX1_load_56 : decode cX1_load 56 = .ok (.aload_n 0, 1) := by decide +kernel
theorem dX1_load_57 : decode cX1_load 57 = .ok (.getfield 23, 3) := by decide +kernel
theorem dX1_load_60 : decode cX1_load 60 = .ok (.iload 4, 2) := by decide +kernel
theorem dX1_load_62 : decode cX1_load 62 = .ok (.aload_n 1, 1) := by decide +kernel
theorem dX1_load_63 : decode cX1_load 63 = .ok (.iload 4, 2) := by decide +kernel
theorem dX1_load_65 : decode cX1_load 65 = .ok (.invokevirtual 47, 3) := by decide +kernel
theorem dX1_load_68 : decode cX1_load 68 = .ok (.lastore, 1) := by decide +kernel
theorem dX1_load_69 : decode cX1_load 69 = .ok (.iload 4, 2) := by decide +kernel
theorem dX1_load_71 : decode cX1_load 71 = .ok (.iconst 1, 1) := by decide +kernel
theorem dX1_load_72 : decode cX1_load 72 = .ok (.iadd, 1) := by decide +kernel
theorem dX1_load_73 : decode cX1_load 73 = .ok (.istore 5, 2) := by decide +kernel
theorem dX1_load_75 : decode cX1_load 75 = .ok (.iload 5, 2) := by decide +kernel
theorem dX1_load_77 : decode cX1_load 77 = .ok (.aload_n 0, 1) := by decide +kernel
theorem dX1_load_78 : decode cX1_load 78 = .ok (.getfield 9, 3) := by decide +kernel
theorem dX1_load_81 : decode cX1_load 81 = .ok (.if_icmp .ge 74, 3) := by decide +kernel
theorem dX1_load_84 : decode cX1_load 84 = .ok (.aload_n 0, 1) := by decide +kernel
theorem dX1_load_85 : decode cX1_load 85 = .ok (.getfield 15, 3) := by decide +kernel
theorem dX1_load_88 : decode cX1_load 88 = .ok (.iload 4, 2) := by decide +kernel
theorem dX1_load_90 : decode cX1_load 90 = .ok (.invokestatic 39, 3) := by decide +kernel
theorem dX1_load_93 : decode cX1_load 93 = .ok (.ifCond .eq 56, 3) := by decide +kernel
theorem dX1_load_96 : decode cX1_load 96 = .ok (.aload_n 0, 1) := by decide +kernel
theorem dX1_load_97 : decode cX1_load 97 = .ok (.getfield 15, 3) := by decide +kernel
theorem dX1_load_100 : decode cX1_load 100 = .ok (.iload 5, 2) := by decide +kernel
theorem dX1_load_102 : decode cX1_load 102 = .ok (.invokestatic 39, 3) := by decide +kernel
theorem dX1_load_105 : decode cX1_load 105 = .ok (.ifCond .eq 44, 3) := by decide +kernel
theorem dX1_load_108 : decode cX1_load 108 = .ok (.aload_n 2, 1) := by decide +kernel
theorem dX1_load_109 : decode cX1_load 109 = .ok (.aload_n 3, 1) := by decide +kernel
theorem dX1_load_110 : decode cX1_load 110 = .ok (.iload 4, 2) := by decide +kernel
theorem dX1_load_112 : decode cX1_load 112 = .ok (.iload 5, 2) := by decide +kernel
theorem dX1_load_114 : decode cX1_load 114 = .ok (.invokevirtual 50, 3) := by decide +kernel
theorem dX1_load_117 : decode cX1_load 117 = .ok (.istore 6, 2) := by decide +kernel
theorem dX1_load_119 : decode cX1_load 119 = .ok (.aload_n 0, 1) := by decide +kernel
theorem dX1_load_120 : decode cX1_load 120 = .ok (.getfield 26, 3) := by decide +kernel
theorem dX1_load_123 : decode cX1_load 123 = .ok (.iload 4, 2) := by decide +kernel
theorem dX1_load_125 : decode cX1_load 125 = .ok (.bipush 60, 2) := by decide +kernel
theorem dX1_load_127 : decode cX1_load 127 = .ok (.imul, 1) := by decide +kernel
theorem dX1_load_128 : decode cX1_load 128 = .ok (.iload 5, 2) := by decide +kernel
theorem dX1_load_130 : decode cX1_load 130 = .ok (.iadd, 1) := by decide +kernel
theorem dX1_load_131 : decode cX1_load 131 = .ok (.iload 6, 2) := by decide +kernel
theorem dX1_load_133 : decode cX1_load 133 = .ok (.iastore, 1) := by decide +kernel
theorem dX1_load_134 : decode cX1_load 134 = .ok (.aload_n 0, 1) := by decide +kernel
theorem dX1_load_135 : decode cX1_load 135 = .ok (.getfield 26, 3) := by decide +kernel
theorem dX1_load_138 : decode cX1_load 138 = .ok (.iload 5, 2) := by decide +kernel
theorem dX1_load_140 : decode cX1_load 140 = .ok (.bipush 60, 2) := by decide +kernel
theorem dX1_load_142 : decode cX1_load 142 = .ok (.imul, 1) := by decide +kernel
theorem dX1_load_143 : decode cX1_load 143 = .ok (.iload 4, 2) := by decide +kernel
theorem dX1_load_145 : decode cX1_load 145 = .ok (.iadd, 1) := by decide +kernel
theorem dX1_load_146 : decode cX1_load 146 = .ok (.iload 6, 2) := by decide +kernel
theorem dX1_load_148 : decode cX1_load 148 = .ok (.iastore, 1) := by decide +kernel
theorem dX1_load_149 : decode cX1_load 149 = .ok (.iinc 5 1, 3) := by decide +kernel
theorem dX1_load_152 : decode cX1_load 152 = .ok (.goto (-77), 3) := by decide +kernel
theorem dX1_load_155 : decode cX1_load 155 = .ok (.iinc 4 1, 3) := by decide +kernel
theorem dX1_load_158 : decode cX1_load 158 = .ok (.goto (-139), 3) := by decide +kernel
theorem dX1_load_161 : decode cX1_load 161 = .ok (.return_, 1) := by decide +kernel
theorem dX1_joinAll_0 : decode cX1_joinAll 0 = .ok (.aload_n 0, 1) := by decide +kernel
theorem dX1_joinAll_1 : decode cX1_joinAll 1 = .ok (.invokevirtual 56, 3) := by decide +kernel
theorem dX1_joinAll_4 : decode cX1_joinAll 4 = .ok (.istore_n 1, 1) := by decide +kernel
theorem dX1_joinAll_5 : decode cX1_joinAll 5 = .ok (.iconst 0, 1) := by decide +kernel
theorem dX1_joinAll_6 : decode cX1_joinAll 6 = .ok (.istore_n 2, 1) := by decide +kernel
theorem dX1_joinAll_7 : decode cX1_joinAll 7 = .ok (.iload_n 2, 1) := by decide +kernel
theorem dX1_joinAll_8 : decode cX1_joinAll 8 = .ok (.bipush 60, 2) := by decide +kernel
theorem dX1_joinAll_10 : decode cX1_joinAll 10 = .ok (.if_icmp .ge 31, 3) := by decide +kernel
theorem dX1_joinAll_13 : decode cX1_joinAll 13 = .ok (.iload_n 1, 1) := by decide +kernel
theorem dX1_joinAll_14 : decode cX1_joinAll 14 = .ok (.iconst (-1), 1) := by decide +kernel
theorem dX1_joinAll_15 : decode cX1_joinAll 15 = .ok (.if_icmp .eq 26, 3) := by decide +kernel
theorem dX1_joinAll_18 : decode cX1_joinAll 18 = .ok (.aload_n 0, 1) := by decide +kernel
theorem dX1_joinAll_19 : decode cX1_joinAll 19 = .ok (.iload_n 1, 1) := by decide +kernel
theorem dX1_joinAll_20 : decode cX1_joinAll 20 = .ok (.bipush 60, 2) := by decide +kernel
theorem dX1_joinAll_22 : decode cX1_joinAll 22 = .ok (.idiv, 1) := by decide +kernel
theorem dX1_joinAll_23 : decode cX1_joinAll 23 = .ok (.iload_n 1, 1) := by decide +kernel
theorem dX1_joinAll_24 : decode cX1_joinAll 24 = .ok (.bipush 60, 2) := by decide +kernel
theorem dX1_joinAll_26 : decode cX1_joinAll 26 = .ok (.irem, 1) := by decide +kernel
theorem dX1_joinAll_27 : decode cX1_joinAll 27 = .ok (.invokevirtual 60, 3) := by decide +kernel
theorem dX1_joinAll_30 : decode cX1_joinAll 30 = .ok (.aload_n 0, 1) := by decide +kernel
theorem dX1_joinAll_31 : decode cX1_joinAll 31 = .ok (.invokevirtual 56, 3) := by decide +kernel
theorem dX1_joinAll_34 : decode cX1_joinAll 34 = .ok (.istore_n 1, 1) := by decide +kernel
theorem dX1_joinAll_35 : decode cX1_joinAll 35 = .ok (.iinc 2 1, 3) := by decide +kernel
theorem dX1_joinAll_38 : decode cX1_joinAll 38 = .ok (.goto (-31), 3) := by decide +kernel
theorem dX1_joinAll_41 : decode cX1_joinAll 41 = .ok (.return_, 1) := by decide +kernel
theorem dX1_likest_0 : decode cX1_likest 0 = .ok (.iconst (-1), 1) := by decide +kernel
theorem dX1_likest_1 : decode cX1_likest 1 = .ok (.istore_n 1, 1) := by decide +kernel
theorem dX1_likest_2 : decode cX1_likest 2 = .ok (.iconst 0, 1) := by decide +kernel
theorem dX1_likest_3 : decode cX1_likest 3 = .ok (.istore_n 2, 1) := by decide +kernel
theorem dX1_likest_4 : decode cX1_likest 4 = .ok (.iconst 0, 1) := by decide +kernel
theorem dX1_likest_5 : decode cX1_likest 5 = .ok (.istore_n 3, 1) := by decide +kernel
theorem dX1_likest_6 : decode cX1_likest 6 = .ok (.iload_n 3, 1) := by decide +kernel
theorem dX1_likest_7 : decode cX1_likest 7 = .ok (.aload_n 0, 1) := by decide +kernel
theorem dX1_likest_8 : decode cX1_likest 8 = .ok (.getfield 9, 3) := by decide +kernel
theorem dX1_likest_11 : decode cX1_likest 11 = .ok (.if_icmp .ge 102, 3) := by decide +kernel
theorem dX1_likest_14 : decode cX1_likest 14 = .ok (.iload_n 3, 1) := by decide +kernel
theorem dX1_likest_15 : decode cX1_likest 15 = .ok (.iconst 1, 1) := by decide +kernel
theorem dX1_likest_16 : decode cX1_likest 16 = .ok (.iadd, 1) := by decide +kernel
theorem dX1_likest_17 : decode cX1_likest 17 = .ok (.istore 4, 2) := by decide +kernel
theorem dX1_likest_19 : decode cX1_likest 19 = .ok (.iload 4, 2) := by decide +kernel
theorem dX1_likest_21 : decode cX1_likest 21 = .ok (.aload_n 0, 1) := by decide +kernel
theorem dX1_likest_22 : decode cX1_likest 22 = .ok (.getfield 9, 3) := by decide +kernel
theorem dX1_likest_25 : decode cX1_likest 25 = .ok (.if_icmp .ge 82, 3) := by decide +kernel
theorem dX1_likest_28 : decode cX1_likest 28 = .ok (.aload_n 0, 1) := by decide +kernel
theorem dX1_likest_29 : decode cX1_likest 29 = .ok (.getfield 15, 3) := by decide +kernel
theorem dX1_likest_32 : decode cX1_likest 32 = .ok (.iload_n 3, 1) := by decide +kernel
theorem dX1_likest_33 : decode cX1_likest 33 = .ok (.invokestatic 39, 3) := by decide +kernel
theorem dX1_likest_36 : decode cX1_likest 36 = .ok (.ifCond .eq 71, 3) := by decide +kernel
theorem dX1_likest_39 : decode cX1_likest 39 = .ok (.iload_n 3, 1) := by decide +kernel
theorem dX1_likest_40 : decode cX1_likest 40 = .ok (.bipush 60, 2) := by decide +kernel
theorem dX1_likest_42 : decode cX1_likest 42 = .ok (.imul, 1) := by decide +kernel
theorem dX1_likest_43 : decode cX1_likest 43 = .ok (.iload 4, 2) := by decide +kernel
theorem dX1_likest_45 : decode cX1_likest 45 = .ok (.iadd, 1) := by decide +kernel
theorem dX1_likest_46 : decode cX1_likest 46 = .ok (.istore 5, 2) := by decide +kernel
theorem dX1_likest_48 : decode cX1_likest 48 = .ok (.aload_n 0, 1) := by decide +kernel
theorem dX1_likest_49 : decode cX1_likest 49 = .ok (.getfield 15, 3) := by decide +kernel
theorem dX1_likest_52 : decode cX1_likest 52 = .ok (.iload 4, 2) := by decide +kernel
theorem dX1_likest_54 : decode cX1_likest 54 = .ok (.invokestatic 39, 3) := by decide +kernel
theorem dX1_likest_57 : decode cX1_likest 57 = .ok (.ifCond .eq 44, 3) := by decide +kernel
theorem dX1_likest_60 : decode cX1_likest 60 = .ok (.aload_n 0, 1) := by decide +kernel
theorem dX1_likest_61 : decode cX1_likest 61 = .ok (.getfield 26, 3) := by decide +kernel
theorem dX1_likest_64 : decode cX1_likest 64 = .ok (.iload 5, 2) := by decide +kernel
theorem dX1_likest_66 : decode cX1_likest 66 = .ok (.iaload, 1) := by decide +kernel
theorem dX1_likest_67 : decode cX1_likest 67 = .ok (.iload_n 2, 1) := by decide +kernel
theorem dX1_likest_68 : decode cX1_likest 68 = .ok (.if_icmp .le 33, 3) := by decide +kernel
theorem dX1_likest_71 : decode cX1_likest 71 = .ok (.aload_n 0, 1) := by decide +kernel
theorem dX1_likest_72 : decode cX1_likest 72 = .ok (.getfield 23, 3) := by decide +kernel
theorem dX1_likest_75 : decode cX1_likest 75 = .ok (.iload_n 3, 1) := by decide +kernel
theorem dX1_likest_76 : decode cX1_likest 76 = .ok (.laload, 1) := by decide +kernel
theorem dX1_likest_77 : decode cX1_likest 77 = .ok (.aload_n 0, 1) := by decide +kernel
theorem dX1_likest_78 : decode cX1_likest 78 = .ok (.getfield 19, 3) := by decide +kernel
theorem dX1_likest_81 : decode cX1_likest 81 = .ok (.iload 4, 2) := by decide +kernel
theorem dX1_likest_83 : decode cX1_likest 83 = .ok (.laload, 1) := by decide +kernel
theorem dX1_likest_84 : decode cX1_likest 84 = .ok (.land, 1) := by decide +kernel
theorem dX1_likest_85 : decode cX1_likest 85 = .ok (.lconst 0, 1) := by decide +kernel
theorem dX1_likest_86 : decode cX1_likest 86 = .ok (.lcmp, 1) := by decide +kernel
theorem dX1_likest_87 : decode cX1_likest 87 = .ok (.ifCond .ne 14, 3) := by decide +kernel
theorem dX1_likest_90 : decode cX1_likest 90 = .ok (.iload 5, 2) := by decide +kernel
theorem dX1_likest_92 : decode cX1_likest 92 = .ok (.istore_n 1, 1) := by decide +kernel
theorem dX1_likest_93 : decode cX1_likest 93 = .ok (.aload_n 0, 1) := by decide +kernel
theorem dX1_likest_94 : decode cX1_likest 94 = .ok (.getfield 26, 3) := by decide +kernel
theorem dX1_likest_97 : decode cX1_likest 97 = .ok (.iload 5, 2) := by decide +kernel
theorem dX1_likest_99 : decode cX1_likest 99 = .ok (.iaload, 1) := by decide +kernel
theorem dX1_likest_100 : decode cX1_likest 100 = .ok (.istore_n 2, 1) := by decide +kernel
theorem dX1_likest_101 : decode cX1_likest 101 = .ok (.iinc 4 1, 3) := by decide +kernel
theorem dX1_likest_104 : decode cX1_likest 104 = .ok (.goto (-85), 3) := by decide +kernel
theorem dX1_likest_107 : decode cX1_likest 107 = .ok (.iinc 3 1, 3) := by decide +kernel
theorem dX1_likest_110 : decode cX1_likest 110 = .ok (.goto (-104), 3) := by decide +kernel
theorem dX1_likest_113 : decode cX1_likest 113 = .ok (.iload_n 1, 1) := by decide +kernel
theorem dX1_likest_114 : decode cX1_likest 114 = .ok (.ireturn, 1) := by decide +kernel
theorem dX1_unite_0 : decode cX1_unite 0 = .ok (.aload_n 0, 1) := by decide +kernel
theorem dX1_unite_1 : decode cX1_unite 1 = .ok (.dup, 1) := by decide +kernel
theorem dX1_unite_2 : decode cX1_unite 2 = .ok (.getfield 15, 3) := by decide +kernel
theorem dX1_unite_5 : decode cX1_unite 5 = .ok (.iload_n 2, 1) := by decide +kernel
theorem dX1_unite_6 : decode cX1_unite 6 = .ok (.invokestatic 43, 3) := by decide +kernel
theorem dX1_unite_9 : decode cX1_unite 9 = .ok (.ldc2_w 64, 3) := by decide +kernel
theorem dX1_unite_12 : decode cX1_unite 12 = .ok (.lxor, 1) := by decide +kernel
theorem dX1_unite_13 : decode cX1_unite 13 = .ok (.land, 1) := by decide +kernel
theorem dX1_unite_14 : decode cX1_unite 14 = .ok (.putfield 15, 3) := by decide +kernel
theorem dX1_unite_17 : decode cX1_unite 17 = .ok (.aload_n 0, 1) := by decide +kernel
theorem dX1_unite_18 : decode cX1_unite 18 = .ok (.getfield 19, 3) := by decide +kernel
theorem dX1_unite_21 : decode cX1_unite 21 = .ok (.iload_n 1, 1) := by decide +kernel
theorem dX1_unite_22 : decode cX1_unite 22 = .ok (.dup2, 1) := by decide +kernel
theorem dX1_unite_23 : decode cX1_unite 23 = .ok (.laload, 1) := by decide +kernel
theorem dX1_unite_24 : decode cX1_unite 24 = .ok (.aload_n 0, 1) := by decide +kernel
theorem dX1_unite_25 : decode cX1_unite 25 = .ok (.getfield 19, 3) := by decide +kernel
theorem dX1_unite_28 : decode cX1_unite 28 = .ok (.iload_n 2, 1) := by decide +kernel
theorem dX1_unite_29 : decode cX1_unite 29 = .ok (.laload, 1) := by decide +kernel
theorem dX1_unite_30 : decode cX1_unite 30 = .ok (.lor, 1) := by decide +kernel
theorem dX1_unite_31 : decode cX1_unite 31 = .ok (.lastore, 1) := by decide +kernel
theorem dX1_unite_32 : decode cX1_unite 32 = .ok (.aload_n 0, 1) := by decide +kernel
theorem dX1_unite_33 : decode cX1_unite 33 = .ok (.getfield 23, 3) := by decide +kernel
theorem dX1_unite_36 : decode cX1_unite 36 = .ok (.iload_n 1, 1) := by decide +kernel
theorem dX1_unite_37 : decode cX1_unite 37 = .ok (.dup2, 1) := by decide +kernel
theorem dX1_unite_38 : decode cX1_unite 38 = .ok (.laload, 1) := by decide +kernel
theorem dX1_unite_39 : decode cX1_unite 39 = .ok (.aload_n 0, 1) := by decide +kernel
theorem dX1_unite_40 : decode cX1_unite 40 = .ok (.getfield 23, 3) := by decide +kernel
theorem dX1_unite_43 : decode cX1_unite 43 = .ok (.iload_n 2, 1) := by decide +kernel
theorem dX1_unite_44 : decode cX1_unite 44 = .ok (.laload, 1) := by decide +kernel
theorem dX1_unite_45 : decode cX1_unite 45 = .ok (.lor, 1) := by decide +kernel
theorem dX1_unite_46 : decode cX1_unite 46 = .ok (.lastore, 1) := by decide +kernel
theorem dX1_unite_47 : decode cX1_unite 47 = .ok (.iconst 0, 1) := by decide +kernel
theorem dX1_unite_48 : decode cX1_unite 48 = .ok (.istore_n 3, 1) := by decide +kernel
theorem dX1_unite_49 : decode cX1_unite 49 = .ok (.iload_n 3, 1) := by decide +kernel
theorem dX1_unite_50 : decode cX1_unite 50 = .ok (.aload_n 0, 1) := by decide +kernel
theorem dX1_unite_51 : decode cX1_unite 51 = .ok (.getfield 9, 3) := by decide +kernel
theorem dX1_unite_54 : decode cX1_unite 54 = .ok (.if_icmp .ge 76, 3) := by decide +kernel
theorem dX1_unite_57 : decode cX1_unite 57 = .ok (.iload_n 3, 1) := by decide +kernel
theorem dX1_unite_58 : decode cX1_unite 58 = .ok (.iload_n 1, 1) := by decide +kernel
theorem dX1_unite_59 : decode cX1_unite 59 = .ok (.if_icmp .eq 65, 3) := by decide +kernel
theorem dX1_unite_62 : decode cX1_unite 62 = .ok (.aload_n 0, 1) := by decide +kernel
theorem dX1_unite_63 : decode cX1_unite 63 = .ok (.getfield 15, 3) := by decide +kernel
theorem dX1_unite_66 : decode cX1_unite 66 = .ok (.iload_n 3, 1) := by decide +kernel
theorem dX1_unite_67 : decode cX1_unite 67 = .ok (.invokestatic 39, 3) := by decide +kernel
theorem dX1_unite_70 : decode cX1_unite 70 = .ok (.ifCond .eq 54, 3) := by decide +kernel
theorem dX1_unite_73 : decode cX1_unite 73 = .ok (.aload_n 0, 1) := by decide +kernel
theorem dX1_unite_74 : decode cX1_unite 74 = .ok (.getfield 26, 3) := by decide +kernel
theorem dX1_unite_77 : decode cX1_unite 77 = .ok (.iload_n 1, 1) := by decide +kernel
theorem dX1_unite_78 : decode cX1_unite 78 = .ok (.bipush 60, 2) := by decide +kernel
theorem dX1_unite_80 : decode cX1_unite 80 = .ok (.imul, 1) := by decide +kernel
theorem dX1_unite_81 : decode cX1_unite 81 = .ok (.iload_n 3, 1) := by decide +kernel
theorem dX1_unite_82 : decode cX1_unite 82 = .ok (.iadd, 1) := by decide +kernel
theorem dX1_unite_83 : decode cX1_unite 83 = .ok (.iaload, 1) := by decide +kernel
theorem dX1_unite_84 : decode cX1_unite 84 = .ok (.aload_n 0, 1) := by decide +kernel
theorem dX1_unite_85 : decode cX1_unite 85 = .ok (.getfield 26, 3) := by decide +kernel
theorem dX1_unite_88 : decode cX1_unite 88 = .ok (.iload_n 2, 1) := by decide +kernel
theorem dX1_unite_89 : decode cX1_unite 89 = .ok (.bipush 60, 2) := by decide +kernel
theorem dX1_unite_91 : decode cX1_unite 91 = .ok (.imul, 1) := by decide +kernel
theorem dX1_unite_92 : decode cX1_unite 92 = .ok (.iload_n 3, 1) := by decide +kernel
theorem dX1_unite_93 : decode cX1_unite 93 = .ok (.iadd, 1) := by decide +kernel
theorem dX1_unite_94 : decode cX1_unite 94 = .ok (.iaload, 1) := by decide +kernel
theorem dX1_unite_95 : decode cX1_unite 95 = .ok (.iadd, 1) := by decide +kernel
theorem dX1_unite_96 : decode cX1_unite 96 = .ok (.istore 4, 2) := by decide +kernel
theorem dX1_unite_98 : decode cX1_unite 98 = .ok (.aload_n 0, 1) := by decide +kernel
theorem dX1_unite_99 : decode cX1_unite 99 = .ok (.getfield 26, 3) := by decide +kernel
theorem dX1_unite_102 : decode cX1_unite 102 = .ok (.iload_n 1, 1) := by decide +kernel
theorem dX1_unite_103 : decode cX1_unite 103 = .ok (.bipush 60, 2) := by decide +kernel
theorem dX1_unite_105 : decode cX1_unite 105 = .ok (.imul, 1) := by decide +kernel
theorem dX1_unite_106 : decode cX1_unite 106 = .ok (.iload_n 3, 1) := by decide +kernel
theorem dX1_unite_107 : decode cX1_unite 107 = .ok (.iadd, 1) := by decide +kernel
theorem dX1_unite_108 : decode cX1_unite 108 = .ok (.iload 4, 2) := by decide +kernel
theorem dX1_unite_110 : decode cX1_unite 110 = .ok (.iastore, 1) := by decide +kernel
theorem dX1_unite_111 : decode cX1_unite 111 = .ok (.aload_n 0, 1) := by decide +kernel
theorem dX1_unite_112 : decode cX1_unite 112 = .ok (.getfield 26, 3) := by decide +kernel
theorem dX1_unite_115 : decode cX1_unite 115 = .ok (.iload_n 3, 1) := by decide +kernel
theorem dX1_unite_116 : decode cX1_unite 116 = .ok (.bipush 60, 2) := by decide +kernel
theorem dX1_unite_118 : decode cX1_unite 118 = .ok (.imul, 1) := by decide +kernel
theorem dX1_unite_119 : decode cX1_unite 119 = .ok (.iload_n 1, 1) := by decide +kernel
theorem dX1_unite_120 : decode cX1_unite 120 = .ok (.iadd, 1) := by decide +kernel
theorem dX1_unite_121 : decode cX1_unite 121 = .ok (.iload 4, 2) := by decide +kernel
theorem dX1_unite_123 : decode cX1_unite 123 = .ok (.iastore, 1) := by decide +kernel
theorem dX1_unite_124 : decode cX1_unite 124 = .ok (.iinc 3 1, 3) := by decide +kernel
theorem dX1_unite_127 : decode cX1_unite 127 = .ok (.goto (-78), 3) := by decide +kernel
theorem dX1_unite_130 : decode cX1_unite 130 = .ok (.return_, 1) := by decide +kernel
theorem dX1_headOf_0 : decode cX1_headOf 0 = .ok (.iconst 0, 1) := by decide +kernel
theorem dX1_headOf_1 : decode cX1_headOf 1 = .ok (.istore_n 2, 1) := by decide +kernel
theorem dX1_headOf_2 : decode cX1_headOf 2 = .ok (.iload_n 2, 1) := by decide +kernel
theorem dX1_headOf_3 : decode cX1_headOf 3 = .ok (.aload_n 0, 1) := by decide +kernel
theorem dX1_headOf_4 : decode cX1_headOf 4 = .ok (.getfield 9, 3) := by decide +kernel
theorem dX1_headOf_7 : decode cX1_headOf 7 = .ok (.if_icmp .ge 35, 3) := by decide +kernel
theorem dX1_headOf_10 : decode cX1_headOf 10 = .ok (.aload_n 0, 1) := by decide +kernel
theorem dX1_headOf_11 : decode cX1_headOf 11 = .ok (.getfield 15, 3) := by decide +kernel
theorem dX1_headOf_14 : decode cX1_headOf 14 = .ok (.iload_n 2, 1) := by decide +kernel
theorem dX1_headOf_15 : decode cX1_headOf 15 = .ok (.invokestatic 39, 3) := by decide +kernel
theorem dX1_headOf_18 : decode cX1_headOf 18 = .ok (.ifCond .eq 18, 3) := by decide +kernel
theorem dX1_headOf_21 : decode cX1_headOf 21 = .ok (.aload_n 0, 1) := by decide +kernel
theorem dX1_headOf_22 : decode cX1_headOf 22 = .ok (.getfield 19, 3) := by decide +kernel
theorem dX1_headOf_25 : decode cX1_headOf 25 = .ok (.iload_n 2, 1) := by decide +kernel
theorem dX1_headOf_26 : decode cX1_headOf 26 = .ok (.laload, 1) := by decide +kernel
theorem dX1_headOf_27 : decode cX1_headOf 27 = .ok (.iload_n 1, 1) := by decide +kernel
theorem dX1_headOf_28 : decode cX1_headOf 28 = .ok (.invokestatic 39, 3) := by decide +kernel
theorem dX1_headOf_31 : decode cX1_headOf 31 = .ok (.ifCond .eq 5, 3) := by decide +kernel
theorem dX1_headOf_34 : decode cX1_headOf 34 = .ok (.iload_n 2, 1) := by decide +kernel
theorem dX1_headOf_35 : decode cX1_headOf 35 = .ok (.ireturn, 1) := by decide +kernel
theorem dX1_headOf_36 : decode cX1_headOf 36 = .ok (.iinc 2 1, 3) := by decide +kernel
theorem dX1_headOf_39 : decode cX1_headOf 39 = .ok (.goto (-37), 3) := by decide +kernel
theorem dX1_headOf_42 : decode cX1_headOf 42 = .ok (.iload_n 1, 1) := by decide +kernel
theorem dX1_headOf_43 : decode cX1_headOf 43 = .ok (.ireturn, 1) := by decide +kernel
theorem dX2_init_0 : decode cX2_init 0 = .ok (.aload_n 0, 1) := by decide +kernel
theorem dX2_init_1 : decode cX2_init 1 = .ok (.invokespecial 3, 3) := by decide +kernel
theorem dX2_init_4 : decode cX2_init 4 = .ok (.aload_n 0, 1) := by decide +kernel
theorem dX2_init_5 : decode cX2_init 5 = .ok (.iconst 0, 1) := by decide +kernel
theorem dX2_init_6 : decode cX2_init 6 = .ok (.putfield 9, 3) := by decide +kernel
theorem dX2_init_9 : decode cX2_init 9 = .ok (.aload_n 0, 1) := by decide +kernel
theorem dX2_init_10 : decode cX2_init 10 = .ok (.iconst 0, 1) := by decide +kernel
theorem dX2_init_11 : decode cX2_init 11 = .ok (.putfield 15, 3) := by decide +kernel
theorem dX2_init_14 : decode cX2_init 14 = .ok (.aload_n 0, 1) := by decide +kernel
theorem dX2_init_15 : decode cX2_init 15 = .ok (.bipush 30, 2) := by decide +kernel
theorem dX2_init_17 : decode cX2_init 17 = .ok (.newarray .int, 2) := by decide +kernel
theorem dX2_init_19 : decode cX2_init 19 = .ok (.putfield 18, 3) := by decide +kernel
theorem dX2_init_22 : decode cX2_init 22 = .ok (.aload_n 0, 1) := by decide +kernel
theorem dX2_init_23 : decode cX2_init 23 = .ok (.bipush 30, 2) := by decide +kernel
theorem dX2_init_25 : decode cX2_init 25 = .ok (.newarray .int, 2) := by decide +kernel
theorem dX2_init_27 : decode cX2_init 27 = .ok (.putfield 22, 3) := by decide +kernel
theorem dX2_init_30 : decode cX2_init 30 = .ok (.aload_n 0, 1) := by decide +kernel
theorem dX2_init_31 : decode cX2_init 31 = .ok (.bipush 30, 2) := by decide +kernel
theorem dX2_init_33 : decode cX2_init 33 = .ok (.newarray .int, 2) := by decide +kernel
theorem dX2_init_35 : decode cX2_init 35 = .ok (.putfield 25, 3) := by decide +kernel
theorem dX2_init_38 : decode cX2_init 38 = .ok (.aload_n 0, 1) := by decide +kernel
theorem dX2_init_39 : decode cX2_init 39 = .ok (.iconst 0, 1) := by decide +kernel
theorem dX2_init_40 : decode cX2_init 40 = .ok (.putfield 28, 3) := by decide +kernel
theorem dX2_init_43 : decode cX2_init 43 = .ok (.aload_n 0, 1) := by decide +kernel
theorem dX2_init_44 : decode cX2_init 44 = .ok (.iconst 0, 1) := by decide +kernel
theorem dX2_init_45 : decode cX2_init 45 = .ok (.putfield 31, 3) := by decide +kernel
theorem dX2_init_48 : decode cX2_init 48 = .ok (.aload_n 0, 1) := by decide +kernel
theorem dX2_init_49 : decode cX2_init 49 = .ok (.bipush 20, 2) := by decide +kernel
theorem dX2_init_51 : decode cX2_init 51 = .ok (.newarray .int, 2) := by decide +kernel
theorem dX2_init_53 : decode cX2_init 53 = .ok (.putfield 34, 3) := by decide +kernel
theorem dX2_init_56 : decode cX2_init 56 = .ok (.aload_n 0, 1) := by decide +kernel
theorem dX2_init_57 : decode cX2_init 57 = .ok (.iconst 0, 1) := by decide +kernel
theorem dX2_init_58 : decode cX2_init 58 = .ok (.putfield 37, 3) := by decide +kernel
theorem dX2_init_61 : decode cX2_init 61 = .ok (.aload_n 0, 1) := by decide +kernel
theorem dX2_init_62 : decode cX2_init 62 = .ok (.bipush 10, 2) := by decide +kernel
theorem dX2_init_64 : decode cX2_init 64 = .ok (.newarray .int, 2) := by decide +kernel
theorem dX2_init_66 : decode cX2_init 66 = .ok (.putfield 40, 3) := by decide +kernel
theorem dX2_init_69 : decode cX2_init 69 = .ok (.aload_n 0, 1) := by decide +kernel
theorem dX2_init_70 : decode cX2_init 70 = .ok (.bipush 10, 2) := by decide +kernel
theorem dX2_init_72 : decode cX2_init 72 = .ok (.newarray .int, 2) := by decide +kernel
theorem dX2_init_74 : decode cX2_init 74 = .ok (.putfield 43, 3) := by decide +kernel
theorem dX2_init_77 : decode cX2_init 77 = .ok (.return_, 1) := by decide +kernel
theorem dX2_addPlace_0 : decode cX2_addPlace 0 = .ok (.aload_n 0, 1) := by decide +kernel
theorem dX2_addPlace_1 : decode cX2_addPlace 1 = .ok (.getfield 15, 3) := by decide +kernel
theorem dX2_addPlace_4 : decode cX2_addPlace 4 = .ok (.bipush 30, 2) := by decide +kernel
theorem dX2_addPlace_6 : decode cX2_addPlace 6 = .ok (.if_icmp .lt 5, 3) := by decide +kernel
theorem dX2_addPlace_9 : decode cX2_addPlace 9 = .ok (.iconst (-1), 1) := by decide +kernel
theorem dX2_addPlace_10 : decode cX2_addPlace 10 = .ok (.ireturn, 1) := by decide +kernel
theorem dX2_addPlace_11 : decode cX2_addPlace 11 = .ok (.aload_n 0, 1) := by decide +kernel
theorem dX2_addPlace_12 : decode cX2_addPlace 12 = .ok (.getfield 18, 3) := by decide +kernel
theorem dX2_addPlace_15 : decode cX2_addPlace 15 = .ok (.aload_n 0, 1) := by decide +kernel
theorem dX2_addPlace_16 : decode cX2_addPlace 16 = .ok (.getfield 15, 3) := by decide +kernel
theorem dX2_addPlace_19 : decode cX2_addPlace 19 = .ok (.iload_n 1, 1) := by decide +kernel
theorem dX2_addPlace_20 : decode cX2_addPlace 20 = .ok (.iastore, 1) := by decide +kernel
theorem dX2_addPlace_21 : decode cX2_addPlace 21 = .ok (.aload_n 0, 1) := by decide +kernel
theorem dX2_addPlace_22 : decode cX2_addPlace 22 = .ok (.getfield 22, 3) := by decide +kernel
theorem dX2_addPlace_25 : decode cX2_addPlace 25 = .ok (.aload_n 0, 1) := by decide +kernel
theorem dX2_addPlace_26 : decode cX2_addPlace 26 = .ok (.getfield 15, 3) := by decide +kernel
theorem dX2_addPlace_29 : decode cX2_addPlace 29 = .ok (.iload_n 2, 1) := by decide +kernel
theorem dX2_addPlace_30 : decode cX2_addPlace 30 = .ok (.iastore, 1) := by decide +kernel
theorem dX2_addPlace_31 : decode cX2_addPlace 31 = .ok (.aload_n 0, 1) := by decide +kernel
theorem dX2_addPlace_32 : decode cX2_addPlace 32 = .ok (.getfield 25, 3) := by decide +kernel
theorem dX2_addPlace_35 : decode cX2_addPlace 35 = .ok (.aload_n 0, 1) := by decide +kernel
theorem dX2_addPlace_36 : decode cX2_addPlace 36 = .ok (.getfield 15, 3) := by decide +kernel
theorem dX2_addPlace_39 : decode cX2_addPlace 39 = .ok (.iload_n 3, 1) := by decide +kernel
theorem dX2_addPlace_40 : decode cX2_addPlace 40 = .ok (.iastore, 1) := by decide +kernel
theorem dX2_addPlace_41 : decode cX2_addPlace 41 = .ok (.aload_n 0, 1) := by decide +kernel
theorem dX2_addPlace_42 : decode cX2_addPlace 42 = .ok (.dup, 1) := by decide +kernel
theorem dX2_addPlace_43 : decode cX2_addPlace 43 = .ok (.getfield 15, 3) := by decide +kernel
theorem dX2_addPlace_46 : decode cX2_addPlace 46 = .ok (.dup_x1, 1) := by decide +kernel
theorem dX2_addPlace_47 : decode cX2_addPlace 47 = .ok (.iconst 1, 1) := by decide +kernel
theorem dX2_addPlace_48 : decode cX2_addPlace 48 = .ok (.iadd, 1) := by decide +kernel
theorem dX2_addPlace_49 : decode cX2_addPlace 49 = .ok (.putfield 15, 3) := by decide +kernel
theorem dX2_addPlace_52 : decode cX2_addPlace 52 = .ok (.ireturn, 1) := by decide +kernel
theorem dX2_addMark_0 : decode cX2_addMark 0 = .ok (.aload_n 0, 1) := by decide +kernel
theorem dX2_addMark_1 : decode cX2_addMark 1 = .ok (.getfield 28, 3) := by decide +kernel
theorem dX2_addMark_4 : decode cX2_addMark 4 = .ok (.bipush 16, 2) := by decide +kernel
theorem dX2_addMark_6 : decode cX2_addMark 6 = .ok (.if_icmp .lt 7, 3) := by decide +kernel
theorem dX2_addMark_9 : decode cX2_addMark 9 = .ok (.iconst (-1), 1) := by decide +kernel
theorem dX2_addMark_10 : decode cX2_addMark 10 = .ok (.goto 14, 3) := by decide +kernel
theorem dX2_addMark_13 : decode cX2_addMark 13 = .ok (.aload_n 0, 1) := by decide +kernel
theorem dX2_addMark_14 : decode cX2_addMark 14 = .ok (.dup, 1) := by decide +kernel
theorem dX2_addMark_15 : decode cX2_addMark 15 = .ok (.getfield 28, 3) := by decide +kernel
theorem dX2_addMark_18 : decode cX2_addMark 18 = .ok (.dup_x1, 1) := by decide +kernel
theorem dX2_addMark_19 : decode cX2_addMark 19 = .ok (.iconst 1, 1) := by decide +kernel
theorem dX2_addMark_20 : decode cX2_addMark 20 = .ok (.iadd, 1) := by decide +kernel
theorem dX2_addMark_21 : decode cX2_addMark 21 = .ok (.putfield 28, 3) := by decide +kernel
theorem dX2_addMark_24 : decode cX2_addMark 24 = .ok (.ireturn, 1) := by decide +kernel
theorem dX2_addHand_0 : decode cX2_addHand 0 = .ok (.aload_n 0, 1) := by decide +kernel
theorem dX2_addHand_1 : decode cX2_addHand 1 = .ok (.getfield 31, 3) := by decide +kernel
theorem dX2_addHand_4 : decode cX2_addHand 4 = .ok (.bipush 20, 2) := by decide +kernel
theorem dX2_addHand_6 : decode cX2_addHand 6 = .ok (.if_icmp .lt 5, 3) := by decide +kernel
theorem dX2_addHand_9 : decode cX2_addHand 9 = .ok (.iconst (-1), 1) := by decide +kernel
theorem dX2_addHand_10 : decode cX2_addHand 10 = .ok (.ireturn, 1) := by decide +kernel
theorem dX2_addHand_11 : decode cX2_addHand 11 = .ok (.aload_n 0, 1) := by decide +kernel
theorem dX2_addHand_12 : decode cX2_addHand 12 = .ok (.getfield 34, 3) := by decide +kernel
theorem dX2_addHand_15 : decode cX2_addHand 15 = .ok (.aload_n 0, 1) := by decide +kernel
theorem dX2_addHand_16 : decode cX2_addHand 16 = .ok (.getfield 31, 3) := by decide +kernel
theorem dX2_addHand_19 : decode cX2_addHand 19 = .ok (.iload_n 1, 1) := by decide +kernel
theorem dX2_addHand_20 : decode cX2_addHand 20 = .ok (.iastore, 1) := by decide +kernel
theorem dX2_addHand_21 : decode cX2_addHand 21 = .ok (.aload_n 0, 1) := by decide +kernel
theorem dX2_addHand_22 : decode cX2_addHand 22 = .ok (.dup, 1) := by decide +kernel
theorem dX2_addHand_23 : decode cX2_addHand 23 = .ok (.getfield 31, 3) := by decide +kernel
theorem dX2_addHand_26 : decode cX2_addHand 26 = .ok (.dup_x1, 1) := by decide +kernel
theorem dX2_addHand_27 : decode cX2_addHand 27 = .ok (.iconst 1, 1) := by decide +kernel
theorem dX2_addHand_28 : decode cX2_addHand 28 = .ok (.iadd, 1) := by decide +kernel
theorem dX2_addHand_29 : decode cX2_addHand 29 = .ok (.putfield 31, 3) := by decide +kernel
theorem dX2_addHand_32 : decode cX2_addHand 32 = .ok (.ireturn, 1) := by decide +kernel
theorem dX2_addOfficer_0 : decode cX2_addOfficer 0 = .ok (.aload_n 0, 1) := by decide +kernel
theorem dX2_addOfficer_1 : decode cX2_addOfficer 1 = .ok (.getfield 37, 3) := by decide +kernel
theorem dX2_addOfficer_4 : decode cX2_addOfficer 4 = .ok (.bipush 10, 2) := by decide +kernel
theorem dX2_addOfficer_6 : decode cX2_addOfficer 6 = .ok (.if_icmp .lt 5, 3) := by decide +kernel
theorem dX2_addOfficer_9 : decode cX2_addOfficer 9 = .ok (.iconst (-1), 1) := by decide +kernel
theorem dX2_addOfficer_10 : decode cX2_addOfficer 10 = .ok (.ireturn, 1) := by decide +kernel
theorem dX2_addOfficer_11 : decode cX2_addOfficer 11 = .ok (.aload_n 0, 1) := by decide +kernel
theorem dX2_addOfficer_12 : decode cX2_addOfficer 12 = .ok (.getfield 40, 3) := by decide +kernel
theorem dX2_addOfficer_15 : decode cX2_addOfficer 15 = .ok (.aload_n 0, 1) := by decide +kernel
theorem dX2_addOfficer_16 : decode cX2_addOfficer 16 = .ok (.getfield 37, 3) := by decide +kernel
theorem dX2_addOfficer_19 : decode cX2_addOfficer 19 = .ok (.iload_n 1, 1) := by decide +kernel
theorem dX2_addOfficer_20 : decode cX2_addOfficer 20 = .ok (.iastore, 1) := by decide +kernel
theorem dX2_addOfficer_21 : decode cX2_addOfficer 21 = .ok (.aload_n 0, 1) := by decide +kernel
theorem dX2_addOfficer_22 : decode cX2_addOfficer 22 = .ok (.getfield 43, 3) := by decide +kernel
theorem dX2_addOfficer_25 : decode cX2_addOfficer 25 = .ok (.aload_n 0, 1) := by decide +kernel
theorem dX2_addOfficer_26 : decode cX2_addOfficer 26 = .ok (.getfield 37, 3) := by decide +kernel
theorem dX2_addOfficer_29 : decode cX2_addOfficer 29 = .ok (.iload_n 2, 1) := by decide +kernel
theorem dX2_addOfficer_30 : decode cX2_addOfficer 30 = .ok (.iastore, 1) := by decide +kernel
theorem dX2_addOfficer_31 : decode cX2_addOfficer 31 = .ok (.aload_n 0, 1) := by decide +kernel
theorem dX2_addOfficer_32 : decode cX2_addOfficer 32 = .ok (.dup, 1) := by decide +kernel
theorem dX2_addOfficer_33 : decode cX2_addOfficer 33 = .ok (.getfield 37, 3) := by decide +kernel
theorem dX2_addOfficer_36 : decode cX2_addOfficer 36 = .ok (.dup_x1, 1) := by decide +kernel
theorem dX2_addOfficer_37 : decode cX2_addOfficer 37 = .ok (.iconst 1, 1) := by decide +kernel
theorem dX2_addOfficer_38 : decode cX2_addOfficer 38 = .ok (.iadd, 1) := by decide +kernel
theorem dX2_addOfficer_39 : decode cX2_addOfficer 39 = .ok (.putfield 37, 3) := by decide +kernel
theorem dX2_addOfficer_42 : decode cX2_addOfficer 42 = .ok (.ireturn, 1) := by decide +kernel
theorem dX2_distance_0 : decode cX2_distance 0 = .ok (.aload_n 0, 1) := by decide +kernel
theorem dX2_distance_1 : decode cX2_distance 1 = .ok (.getfield 18, 3) := by decide +kernel
theorem dX2_distance_4 : decode cX2_distance 4 = .ok (.iload_n 1, 1) := by decide +kernel
theorem dX2_distance_5 : decode cX2_distance 5 = .ok (.iaload, 1) := by decide +kernel
theorem dX2_distance_6 : decode cX2_distance 6 = .ok (.aload_n 0, 1) := by decide +kernel
theorem dX2_distance_7 : decode cX2_distance 7 = .ok (.getfield 18, 3) := by decide +kernel
theorem dX2_distance_10 : decode cX2_distance 10 = .ok (.iload_n 2, 1) := by decide +kernel
theorem dX2_distance_11 : decode cX2_distance 11 = .ok (.iaload, 1) := by decide +kernel
theorem dX2_distance_12 : decode cX2_distance 12 = .ok (.isub, 1) := by decide +kernel
theorem dX2_distance_13 : decode cX2_distance 13 = .ok (.invokestatic 46, 3) := by decide +kernel
theorem dX2_distance_16 : decode cX2_distance 16 = .ok (.aload_n 0, 1) := by decide +kernel
theorem dX2_distance_17 : decode cX2_distance 17 = .ok (.getfield 22, 3) := by decide +kernel
theorem dX2_distance_20 : decode cX2_distance 20 = .ok (.iload_n 1, 1) := by decide +kernel
theorem dX2_distance_21 : decode cX2_distance 21 = .ok (.iaload, 1) := by decide +kernel
theorem dX2_distance_22 : decode cX2_distance 22 = .ok (.aload_n 0, 1) := by decide +kernel
theorem dX2_distance_23 : decode cX2_distance 23 = .ok (.getfield 22, 3) := by decide +kernel
theorem dX2_distance_26 : decode cX2_distance 26 = .ok (.iload_n 2, 1) := by decide +kernel
theorem dX2_distance_27 : decode cX2_distance 27 = .ok (.iaload, 1) := by decide +kernel
theorem dX2_distance_28 : decode cX2_distance 28 = .ok (.isub, 1) := by decide +kernel
theorem dX2_distance_29 : decode cX2_distance 29 = .ok (.invokestatic 46, 3) := by decide +kernel
theorem dX2_distance_32 : decode cX2_distance 32 = .ok (.iadd, 1) := by decide +kernel
theorem dX2_distance_33 : decode cX2_distance 33 = .ok (.ireturn, 1) := by decide +kernel
theorem dX3_init_0 : decode cX3_init 0 = .ok (.aload_n 0, 1) := by decide +kernel
theorem dX3_init_1 : decode cX3_init 1 = .ok (.invokespecial 3, 3) := by decide +kernel
theorem dX3_init_4 : decode cX3_init 4 = .ok (.aload_n 0, 1) := by decide +kernel
theorem dX3_init_5 : decode cX3_init 5 = .ok (.lconst 0, 1) := by decide +kernel
theorem dX3_init_6 : decode cX3_init 6 = .ok (.putfield 9, 3) := by decide +kernel
theorem dX3_init_9 : decode cX3_init 9 = .ok (.aload_n 0, 1) := by decide +kernel
theorem dX3_init_10 : decode cX3_init 10 = .ok (.bipush 60, 2) := by decide +kernel
theorem dX3_init_12 : decode cX3_init 12 = .ok (.newarray .long, 2) := by decide +kernel
theorem dX3_init_14 : decode cX3_init 14 = .ok (.putfield 15, 3) := by decide +kernel
theorem dX3_init_17 : decode cX3_init 17 = .ok (.aload_n 0, 1) := by decide +kernel
theorem dX3_init_18 : decode cX3_init 18 = .ok (.bipush 60, 2) := by decide +kernel
theorem dX3_init_20 : decode cX3_init 20 = .ok (.newarray .long, 2) := by decide +kernel
theorem dX3_init_22 : decode cX3_init 22 = .ok (.putfield 19, 3) := by decide +kernel
theorem dX3_init_25 : decode cX3_init 25 = .ok (.aload_n 0, 1) := by decide +kernel
theorem dX3_init_26 : decode cX3_init 26 = .ok (.bipush 16, 2) := by decide +kernel
theorem dX3_init_28 : decode cX3_init 28 = .ok (.newarray .int, 2) := by decide +kernel
theorem dX3_init_30 : decode cX3_init 30 = .ok (.putfield 22, 3) := by decide +kernel
theorem dX3_init_33 : decode cX3_init 33 = .ok (.aload_n 0, 1) := by decide +kernel
theorem dX3_init_34 : decode cX3_init 34 = .ok (.sipush 256, 3) := by decide +kernel
theorem dX3_init_37 : decode cX3_init 37 = .ok (.newarray .int, 2) := by decide +kernel
theorem dX3_init_39 : decode cX3_init 39 = .ok (.putfield 26, 3) := by decide +kernel
theorem dX3_init_42 : decode cX3_init 42 = .ok (.aload_n 0, 1) := by decide +kernel
theorem dX3_init_43 : decode cX3_init 43 = .ok (.bipush 16, 2) := by decide +kernel
theorem dX3_init_45 : decode cX3_init 45 = .ok (.newarray .int, 2) := by decide +kernel
theorem dX3_init_47 : decode cX3_init 47 = .ok (.putfield 29, 3) := by decide +kernel
theorem dX3_init_50 : decode cX3_init 50 = .ok (.aload_n 0, 1) := by decide +kernel
theorem dX3_init_51 : decode cX3_init 51 = .ok (.bipush 16, 2) := by decide +kernel
theorem dX3_init_53 : decode cX3_init 53 = .ok (.newarray .int, 2) := by decide +kernel
theorem dX3_init_55 : decode cX3_init 55 = .ok (.putfield 32, 3) := by decide +kernel
theorem dX3_init_58 : decode cX3_init 58 = .ok (.aload_n 0, 1) := by decide +kernel
theorem dX3_init_59 : decode cX3_init 59 = .ok (.bipush 16, 2) := by decide +kernel
theorem dX3_init_61 : decode cX3_init 61 = .ok (.newarray .int, 2) := by decide +kernel
theorem dX3_init_63 : decode cX3_init 63 = .ok (.putfield 35, 3) := by decide +kernel
theorem dX3_init_66 : decode cX3_init 66 = .ok (.aload_n 0, 1) := by decide +kernel
theorem dX3_init_67 : decode cX3_init 67 = .ok (.sipush 512, 3) := by decide +kernel
theorem dX3_init_70 : decode cX3_init 70 = .ok (.newarray .int, 2) := by decide +kernel
theorem dX3_init_72 : decode cX3_init 72 = .ok (.putfield 38, 3) := by decide +kernel
theorem dX3_init_75 : decode cX3_init 75 = .ok (.aload_n 0, 1) := by decide +kernel
theorem dX3_init_76 : decode cX3_init 76 = .ok (.sipush 256, 3) := by decide +kernel
theorem dX3_init_79 : decode cX3_init 79 = .ok (.newarray .int, 2) := by decide +kernel
theorem dX3_init_81 : decode cX3_init 81 = .ok (.putfield 41, 3) := by decide +kernel
theorem dX3_init_84 : decode cX3_init 84 = .ok (.aload_n 0, 1) := by decide +kernel
theorem dX3_init_85 : decode cX3_init 85 = .ok (.bipush 64, 2) := by decide +kernel
theorem dX3_init_87 : decode cX3_init 87 = .ok (.newarray .boolean, 2) := by decide +kernel
theorem dX3_init_89 : decode cX3_init 89 = .ok (.putfield 44, 3) := by decide +kernel
theorem dX3_init_92 : decode cX3_init 92 = .ok (.aload_n 0, 1) := by decide +kernel
theorem dX3_init_93 : decode cX3_init 93 = .ok (.aload_n 1, 1) := by decide +kernel
theorem dX3_init_94 : decode cX3_init 94 = .ok (.putfield 48, 3) := by decide +kernel
theorem dX3_init_97 : decode cX3_init 97 = .ok (.aload_n 0, 1) := by decide +kernel
theorem dX3_init_98 : decode cX3_init 98 = .ok (.aload_n 2, 1) := by decide +kernel
theorem dX3_init_99 : decode cX3_init 99 = .ok (.putfield 52, 3) := by decide +kernel
theorem dX3_init_102 : decode cX3_init 102 = .ok (.aload_n 0, 1) := by decide +kernel
theorem dX3_init_103 : decode cX3_init 103 = .ok (.aload_n 3, 1) := by decide +kernel
theorem dX3_init_104 : decode cX3_init 104 = .ok (.putfield 56, 3) := by decide +kernel
theorem dX3_init_107 : decode cX3_init 107 = .ok (.return_, 1) := by decide +kernel
theorem dX3_lay_0 : decode cX3_lay 0 = .ok (.aload_n 0, 1) := by decide +kernel
theorem dX3_lay_1 : decode cX3_lay 1 = .ok (.aload_n 1, 1) := by decide +kernel
theorem dX3_lay_2 : decode cX3_lay 2 = .ok (.putfield 56, 3) := by decide +kernel
theorem dX3_lay_5 : decode cX3_lay 5 = .ok (.aload_n 0, 1) := by decide +kernel
theorem dX3_lay_6 : decode cX3_lay 6 = .ok (.aload_n 0, 1) := by decide +kernel
theorem dX3_lay_7 : decode cX3_lay 7 = .ok (.getfield 52, 3) := by decide +kernel
theorem dX3_lay_10 : decode cX3_lay 10 = .ok (.invokevirtual 60, 3) := by decide +kernel
theorem dX3_lay_13 : decode cX3_lay 13 = .ok (.putfield 9, 3) := by decide +kernel
theorem dX3_lay_16 : decode cX3_lay 16 = .ok (.iconst 0, 1) := by decide +kernel
theorem dX3_lay_17 : decode cX3_lay 17 = .ok (.istore_n 2, 1) := by decide +kernel
theorem dX3_lay_18 : decode cX3_lay 18 = .ok (.iload_n 2, 1) := by decide +kernel
theorem dX3_lay_19 : decode cX3_lay 19 = .ok (.aload_n 0, 1) := by decide +kernel
theorem dX3_lay_20 : decode cX3_lay 20 = .ok (.getfield 52, 3) := by decide +kernel
theorem dX3_lay_23 : decode cX3_lay 23 = .ok (.getfield 66, 3) := by decide +kernel
theorem dX3_lay_26 : decode cX3_lay 26 = .ok (.if_icmp .ge 79, 3) := by decide +kernel
theorem dX3_lay_29 : decode cX3_lay 29 = .ok (.aload_n 0, 1) := by decide +kernel
theorem dX3_lay_30 : decode cX3_lay 30 = .ok (.getfield 9, 3) := by decide +kernel
theorem dX3_lay_33 : decode cX3_lay 33 = .ok (.iload_n 2, 1) := by decide +kernel
theorem dX3_lay_34 : decode cX3_lay 34 = .ok (.invokestatic 70, 3) := by decide +kernel
theorem dX3_lay_37 : decode cX3_lay 37 = .ok (.istore_n 3, 1) := by decide +kernel
theorem dX3_lay_38 : decode cX3_lay 38 = .ok (.aload_n 0, 1) := by decide +kernel
theorem dX3_lay_39 : decode cX3_lay 39 = .ok (.getfield 9, 3) := by decide +kernel
theorem dX3_lay_42 : decode cX3_lay 42 = .ok (.iload_n 2, 1) := by decide +kernel
theorem dX3_lay_43 : decode cX3_lay 43 = .ok (.invokestatic 74, 3) := by decide +kernel
theorem dX3_lay_46 : decode cX3_lay 46 = .ok (.land, 1) := by decide +kernel
theorem dX3_lay_47 : decode cX3_lay 47 = .ok (.lstore 4, 2) := by decide +kernel
theorem dX3_lay_49 : decode cX3_lay 49 = .ok (.aload_n 0, 1) := by decide +kernel
theorem dX3_lay_50 : decode cX3_lay 50 = .ok (.getfield 15, 3) := by decide +kernel
theorem dX3_lay_53 : decode cX3_lay 53 = .ok (.iload_n 2, 1) := by decide +kernel
theorem dX3_lay_54 : decode cX3_lay 54 = .ok (.iload_n 3, 1) := by decide +kernel
theorem dX3_lay_55 : decode cX3_lay 55 = .ok (.ifCond .eq 17, 3) := by decide +kernel
theorem dX3_lay_58 : decode cX3_lay 58 = .ok (.aload_n 0, 1) := by decide +kernel
theorem dX3_lay_59 : decode cX3_lay 59 = .ok (.getfield 52, 3) := by decide +kernel
theorem dX3_lay_62 : decode cX3_lay 62 = .ok (.iload_n 2, 1) := by decide +kernel
theorem dX3_lay_63 : decode cX3_lay 63 = .ok (.invokevirtual 78, 3) := by decide +kernel
theorem dX3_lay_66 : decode cX3_lay 66 = .ok (.lload 4, 2) := by decide +kernel
theorem dX3_lay_68 : decode cX3_lay 68 = .ok (.land, 1) := by decide +kernel
theorem dX3_lay_69 : decode cX3_lay 69 = .ok (.goto 4, 3) := by decide +kernel
theorem dX3_lay_72 : decode cX3_lay 72 = .ok (.lconst 0, 1) := by decide +kernel
theorem dX3_lay_73 : decode cX3_lay 73 = .ok (.lastore, 1) := by decide +kernel
theorem dX3_lay_74 : decode cX3_lay 74 = .ok (.aload_n 0, 1) := by decide +kernel
theorem dX3_lay_75 : decode cX3_lay 75 = .ok (.getfield 19, 3) := by decide +kernel
theorem dX3_lay_78 : decode cX3_lay 78 = .ok (.iload_n 2, 1) := by decide +kernel
theorem dX3_lay_79 : decode cX3_lay 79 = .ok (.iload_n 3, 1) := by decide +kernel
theorem dX3_lay_80 : decode cX3_lay 80 = .ok (.ifCond .eq 17, 3) := by decide +kernel
theorem dX3_lay_83 : decode cX3_lay 83 = .ok (.aload_n 0, 1) := by decide +kernel
theorem dX3_lay_84 : decode cX3_lay 84 = .ok (.getfield 52, 3) := by decide +kernel
theorem dX3_lay_87 : decode cX3_lay 87 = .ok (.iload_n 2, 1) := by decide +kernel
theorem dX3_lay_88 : decode cX3_lay 88 = .ok (.invokevirtual 81, 3) := by decide +kernel
theorem dX3_lay_91 : decode cX3_lay 91 = .ok (.lload 4, 2) := by decide +kernel
theorem dX3_lay_93 : decode cX3_lay 93 = .ok (.land, 1) := by decide +kernel
theorem dX3_lay_94 : decode cX3_lay 94 = .ok (.goto 4, 3) := by decide +kernel
theorem dX3_lay_97 : decode cX3_lay 97 = .ok (.lconst 0, 1) := by decide +kernel
theorem dX3_lay_98 : decode cX3_lay 98 = .ok (.lastore, 1) := by decide +kernel
theorem dX3_lay_99 : decode cX3_lay 99 = .ok (.iinc 2 1, 3) := by decide +kernel
theorem dX3_lay_102 : decode cX3_lay 102 = .ok (.goto (-84), 3) := by decide +kernel
theorem dX3_lay_105 : decode cX3_lay 105 = .ok (.iconst 0, 1) := by decide +kernel
theorem dX3_lay_106 : decode cX3_lay 106 = .ok (.istore_n 2, 1) := by decide +kernel
theorem dX3_lay_107 : decode cX3_lay 107 = .ok (.iload_n 2, 1) := by decide +kernel
theorem dX3_lay_108 : decode cX3_lay 108 = .ok (.aload_n 0, 1) := by decide +kernel
theorem dX3_lay_109 : decode cX3_lay 109 = .ok (.getfield 44, 3) := by decide +kernel
theorem dX3_lay_112 : decode cX3_lay 112 = .ok (.arraylength, 1) := by decide +kernel
theorem dX3_lay_113 : decode cX3_lay 113 = .ok (.if_icmp .ge 16, 3) := by decide +kernel
theorem dX3_lay_116 : decode cX3_lay 116 = .ok (.aload_n 0, 1) := by decide +kernel
theorem dX3_lay_117 : decode cX3_lay 117 = .ok (.getfield 44, 3) := by decide +kernel
theorem dX3_lay_120 : decode cX3_lay 120 = .ok (.iload_n 2, 1) := by decide +kernel
theorem dX3_lay_121 : decode cX3_lay 121 = .ok (.iconst 0, 1) := by decide +kernel
theorem dX3_lay_122 : decode cX3_lay 122 = .ok (.bastore, 1) := by decide +kernel
theorem dX3_lay_123 : decode cX3_lay 123 = .ok (.iinc 2 1, 3) := by decide +kernel
theorem dX3_lay_126 : decode cX3_lay 126 = .ok (.goto (-19), 3) := by decide +kernel
theorem dX3_lay_129 : decode cX3_lay 129 = .ok (.aload_n 0, 1) := by decide +kernel
theorem dX3_lay_130 : decode cX3_lay 130 = .ok (.invokevirtual 84, 3) := by decide +kernel
theorem dX3_lay_133 : decode cX3_lay 133 = .ok (.aload_n 0, 1) := by decide +kernel
theorem dX3_lay_134 : decode cX3_lay 134 = .ok (.invokevirtual 87, 3) := by decide +kernel
theorem dX3_lay_137 : decode cX3_lay 137 = .ok (.aload_n 0, 1) := by decide +kernel
theorem dX3_lay_138 : decode cX3_lay 138 = .ok (.invokevirtual 90, 3) := by decide +kernel
theorem dX3_lay_141 : decode cX3_lay 141 = .ok (.return_, 1) := by decide +kernel
theorem dX3_weightOf_0 : decode cX3_weightOf 0 = .ok (.aload_n 0, 1) := by decide +kernel
theorem dX3_weightOf_1 : decode cX3_weightOf 1 = .ok (.getfield 9, 3) := by decide +kernel
theorem dX3_weightOf_4 : decode cX3_weightOf 4 = .ok (.aload_n 0, 1) := by decide +kernel
theorem dX3_weightOf_5 : decode cX3_weightOf 5 = .ok (.getfield 56, 3) := by decide +kernel
theorem dX3_weightOf_8 : decode cX3_weightOf 8 = .ok (.getfield 93, 3) := by decide +kernel
theorem dX3_weightOf_11 : decode cX3_weightOf 11 = .ok (.iload_n 1, 1) := by decide +kernel
theorem dX3_weightOf_12 : decode cX3_weightOf 12 = .ok (.laload, 1) := by decide +kernel
theorem dX3_weightOf_13 : decode cX3_weightOf 13 = .ok (.land, 1) := by decide +kernel
theorem dX3_weightOf_14 : decode cX3_weightOf 14 = .ok (.aload_n 0, 1) := by decide +kernel
theorem dX3_weightOf_15 : decode cX3_weightOf 15 = .ok (.getfield 56, 3) := by decide +kernel
theorem dX3_weightOf_18 : decode cX3_weightOf 18 = .ok (.getfield 93, 3) := by decide +kernel
theorem dX3_weightOf_21 : decode cX3_weightOf 21 = .ok (.iload_n 2, 1) := by decide +kernel
theorem dX3_weightOf_22 : decode cX3_weightOf 22 = .ok (.laload, 1) := by decide +kernel
theorem dX3_weightOf_23 : decode cX3_weightOf 23 = .ok (.land, 1) := by decide +kernel
theorem dX3_weightOf_24 : decode cX3_weightOf 24 = .ok (.lstore_n 3, 1) := by decide +kernel
theorem dX3_weightOf_25 : decode cX3_weightOf 25 = .ok (.aload_n 0, 1) := by decide +kernel
theorem dX3_weightOf_26 : decode cX3_weightOf 26 = .ok (.getfield 56, 3) := by decide +kernel
theorem dX3_weightOf_29 : decode cX3_weightOf 29 = .ok (.getfield 98, 3) := by decide +kernel
theorem dX3_weightOf_32 : decode cX3_weightOf 32 = .ok (.iload_n 1, 1) := by decide +kernel
theorem dX3_weightOf_33 : decode cX3_weightOf 33 = .ok (.laload, 1) := by decide +kernel
theorem dX3_weightOf_34 : decode cX3_weightOf 34 = .ok (.lstore 5, 2) := by decide +kernel
theorem dX3_weightOf_36 : decode cX3_weightOf 36 = .ok (.aload_n 0, 1) := by decide +kernel
theorem dX3_weightOf_37 : decode cX3_weightOf 37 = .ok (.getfield 56, 3) := by decide +kernel
theorem dX3_weightOf_40 : decode cX3_weightOf 40 = .ok (.getfield 98, 3) := by decide +kernel
theorem dX3_weightOf_43 : decode cX3_weightOf 43 = .ok (.iload_n 2, 1) := by decide +kernel
theorem dX3_weightOf_44 : decode cX3_weightOf 44 = .ok (.laload, 1) := by decide +kernel
theorem dX3_weightOf_45 : decode cX3_weightOf 45 = .ok (.lstore 7, 2) := by decide +kernel
theorem dX3_weightOf_47 : decode cX3_weightOf 47 = .ok (.lload_n 3, 1) := by decide +kernel
theorem dX3_weightOf_48 : decode cX3_weightOf 48 = .ok (.lload 5, 2) := by decide +kernel
theorem dX3_weightOf_50 : decode cX3_weightOf 50 = .ok (.land, 1) := by decide +kernel
theorem dX3_weightOf_51 : decode cX3_weightOf 51 = .ok (.lload 7, 2) := by decide +kernel
theorem dX3_weightOf_53 : decode cX3_weightOf 53 = .ok (.land, 1) := by decide +kernel
theorem dX3_weightOf_54 : decode cX3_weightOf 54 = .ok (.invokestatic 101, 3) := by decide +kernel
theorem dX3_weightOf_57 : decode cX3_weightOf 57 = .ok (.istore 9, 2) := by decide +kernel
theorem dX3_weightOf_59 : decode cX3_weightOf 59 = .ok (.lload_n 3, 1) := by decide +kernel
theorem dX3_weightOf_60 : decode cX3_weightOf 60 = .ok (.lload 5, 2) := by decide +kernel
theorem dX3_weightOf_62 : decode cX3_weightOf 62 = .ok (.land, 1) := by decide +kernel
theorem dX3_weightOf_63 : decode cX3_weightOf 63 = .ok (.lload 7, 2) := by decide +kernel
theorem dX3_weightOf_65 : decode cX3_weightOf 65 = .ok (.ldc2_w 107, 3) := by decide +kernel
theorem dX3_weightOf_68 : decode cX3_weightOf 68 = .ok (.lxor, 1) := by decide +kernel
theorem dX3_weightOf_69 : decode cX3_weightOf 69 = .ok (.land, 1) := by decide +kernel
theorem dX3_weightOf_70 : decode cX3_weightOf 70 = .ok (.invokestatic 101, 3) := by decide +kernel
theorem dX3_weightOf_73 : decode cX3_weightOf 73 = .ok (.istore 10, 2) := by decide +kernel
theorem dX3_weightOf_75 : decode cX3_weightOf 75 = .ok (.lload_n 3, 1) := by decide +kernel
theorem dX3_weightOf_76 : decode cX3_weightOf 76 = .ok (.lload 5, 2) := by decide +kernel
theorem dX3_weightOf_78 : decode cX3_weightOf 78 = .ok (.ldc2_w 107, 3) := by decide +kernel
theorem dX3_weightOf_81 : decode cX3_weightOf 81 = .ok (.lxor, 1) := by decide +kernel
theorem dX3_weightOf_82 : decode cX3_weightOf 82 = .ok (.land, 1) := by decide +kernel
theorem dX3_weightOf_83 : decode cX3_weightOf 83 = .ok (.lload 7, 2) := by decide +kernel
theorem dX3_weightOf_85 : decode cX3_weightOf 85 = .ok (.land, 1) := by decide +kernel
theorem dX3_weightOf_86 : decode cX3_weightOf 86 = .ok (.invokestatic 101, 3) := by decide +kernel
theorem dX3_weightOf_89 : decode cX3_weightOf 89 = .ok (.istore 11, 2) := by decide +kernel
theorem dX3_weightOf_91 : decode cX3_weightOf 91 = .ok (.lload_n 3, 1) := by decide +kernel
theorem dX3_weightOf_92 : decode cX3_weightOf 92 = .ok (.lload 5, 2) := by decide +kernel
theorem dX3_weightOf_94 : decode cX3_weightOf 94 = .ok (.ldc2_w 107, 3) := by decide +kernel
theorem dX3_weightOf_97 : decode cX3_weightOf 97 = .ok (.lxor, 1) := by decide +kernel
theorem dX3_weightOf_98 : decode cX3_weightOf 98 = .ok (.land, 1) := by decide +kernel
theorem dX3_weightOf_99 : decode cX3_weightOf 99 = .ok (.lload 7, 2) := by decide +kernel
theorem dX3_weightOf_101 : decode cX3_weightOf 101 = .ok (.ldc2_w 107, 3) := by decide +kernel
theorem dX3_weightOf_104 : decode cX3_weightOf 104 = .ok (.lxor, 1) := by decide +kernel
theorem dX3_weightOf_105 : decode cX3_weightOf 105 = .ok (.land, 1) := by decide +kernel
theorem dX3_weightOf_106 : decode cX3_weightOf 106 = .ok (.invokestatic 101, 3) := by decide +kernel
theorem dX3_weightOf_109 : decode cX3_weightOf 109 = .ok (.istore 12, 2) := by decide +kernel
theorem dX3_weightOf_111 : decode cX3_weightOf 111 = .ok (.iload 9, 2) := by decide +kernel
theorem dX3_weightOf_113 : decode cX3_weightOf 113 = .ok (.iload 12, 2) := by decide +kernel
theorem dX3_weightOf_115 : decode cX3_weightOf 115 = .ok (.imul, 1) := by decide +kernel
theorem dX3_weightOf_116 : decode cX3_weightOf 116 = .ok (.iload 10, 2) := by decide +kernel
theorem dX3_weightOf_118 : decode cX3_weightOf 118 = .ok (.iload 11, 2) := by decide +kernel
theorem dX3_weightOf_120 : decode cX3_weightOf 120 = .ok (.imul, 1) := by decide +kernel
theorem dX3_weightOf_121 : decode cX3_weightOf 121 = .ok (.isub, 1) := by decide +kernel
theorem dX3_weightOf_122 : decode cX3_weightOf 122 = .ok (.invokestatic 109, 3) := by decide +kernel
theorem dX3_weightOf_125 : decode cX3_weightOf 125 = .ok (.ireturn, 1) := by decide +kernel
theorem dX3_weighAll_0 : decode cX3_weighAll 0 = .ok (.iconst 0, 1) := by decide +kernel
theorem dX3_weighAll_1 : decode cX3_weighAll 1 = .ok (.istore_n 1, 1) := by decide +kernel
theorem dX3_weighAll_2 : decode cX3_weighAll 2 = .ok (.iload_n 1, 1) := by decide +kernel
theorem dX3_weighAll_3 : decode cX3_weighAll 3 = .ok (.aload_n 0, 1) := by decide +kernel
theorem dX3_weighAll_4 : decode cX3_weighAll 4 = .ok (.getfield 48, 3) := by decide +kernel
theorem dX3_weighAll_7 : decode cX3_weighAll 7 = .ok (.getfield 115, 3) := by decide +kernel
theorem dX3_weighAll_10 : decode cX3_weighAll 10 = .ok (.if_icmp .ge 70, 3) := by decide +kernel
theorem dX3_weighAll_13 : decode cX3_weighAll 13 = .ok (.aload_n 0, 1) := by decide +kernel
theorem dX3_weighAll_14 : decode cX3_weighAll 14 = .ok (.getfield 29, 3) := by decide +kernel
theorem dX3_weighAll_17 : decode cX3_weighAll 17 = .ok (.iload_n 1, 1) := by decide +kernel
theorem dX3_weighAll_18 : decode cX3_weighAll 18 = .ok (.iconst 1, 1) := by decide +kernel
theorem dX3_weighAll_19 : decode cX3_weighAll 19 = .ok (.iload_n 1, 1) := by decide +kernel
theorem dX3_weighAll_20 : decode cX3_weighAll 20 = .ok (.ishl, 1) := by decide +kernel
theorem dX3_weighAll_21 : decode cX3_weighAll 21 = .ok (.iastore, 1) := by decide +kernel
theorem dX3_weighAll_22 : decode cX3_weighAll 22 = .ok (.aload_n 0, 1) := by decide +kernel
theorem dX3_weighAll_23 : decode cX3_weighAll 23 = .ok (.getfield 32, 3) := by decide +kernel
theorem dX3_weighAll_26 : decode cX3_weighAll 26 = .ok (.iload_n 1, 1) := by decide +kernel
theorem dX3_weighAll_27 : decode cX3_weighAll 27 = .ok (.iconst 0, 1) := by decide +kernel
theorem dX3_weighAll_28 : decode cX3_weighAll 28 = .ok (.iastore, 1) := by decide +kernel
theorem dX3_weighAll_29 : decode cX3_weighAll 29 = .ok (.aload_n 0, 1) := by decide +kernel
theorem dX3_weighAll_30 : decode cX3_weighAll 30 = .ok (.getfield 22, 3) := by decide +kernel
theorem dX3_weighAll_33 : decode cX3_weighAll 33 = .ok (.iload_n 1, 1) := by decide +kernel
theorem dX3_weighAll_34 : decode cX3_weighAll 34 = .ok (.iconst (-1), 1) := by decide +kernel
theorem dX3_weighAll_35 : decode cX3_weighAll 35 = .ok (.iastore, 1) := by decide +kernel
theorem dX3_weighAll_36 : decode cX3_weighAll 36 = .ok (.iload_n 1, 1) := by decide +kernel
theorem dX3_weighAll_37 : decode cX3_weighAll 37 = .ok (.iconst 1, 1) := by decide +kernel
theorem dX3_weighAll_38 : decode cX3_weighAll 38 = .ok (.iadd, 1) := by decide +kernel
theorem dX3_weighAll_39 : decode cX3_weighAll 39 = .ok (.istore_n 2, 1) := by decide +kernel
theorem dX3_weighAll_40 : decode cX3_weighAll 40 = .ok (.iload_n 2, 1) := by decide +kernel
theorem dX3_weighAll_41 : decode cX3_weighAll 41 = .ok (.aload_n 0, 1) := by decide +kernel
theorem dX3_weighAll_42 : decode cX3_weighAll 42 = .ok (.getfield 48, 3) := by decide +kernel
theorem dX3_weighAll_45 : decode cX3_weighAll 45 = .ok (.getfield 115, 3) := by decide +kernel
theorem dX3_weighAll_48 : decode cX3_weighAll 48 = .ok (.if_icmp .ge 26, 3) := by decide +kernel
theorem dX3_weighAll_51 : decode cX3_weighAll 51 = .ok (.aload_n 0, 1) := by decide +kernel
theorem dX3_weighAll_52 : decode cX3_weighAll 52 = .ok (.getfield 26, 3) := by decide +kernel
theorem dX3_weighAll_55 : decode cX3_weighAll 55 = .ok (.iload_n 1, 1) := by decide +kernel
theorem dX3_weighAll_56 : decode cX3_weighAll 56 = .ok (.bipush 16, 2) := by decide +kernel
theorem dX3_weighAll_58 : decode cX3_weighAll 58 = .ok (.imul, 1) := by decide +kernel
theorem dX3_weighAll_59 : decode cX3_weighAll 59 = .ok (.iload_n 2, 1) := by decide +kernel
theorem dX3_weighAll_60 : decode cX3_weighAll 60 = .ok (.iadd, 1) := by decide +kernel
theorem dX3_weighAll_61 : decode cX3_weighAll 61 = .ok (.aload_n 0, 1) := by decide +kernel
theorem dX3_weighAll_62 : decode cX3_weighAll 62 = .ok (.iload_n 1, 1) := by decide +kernel
theorem dX3_weighAll_63 : decode cX3_weighAll 63 = .ok (.iload_n 2, 1) := by decide +kernel
theorem dX3_weighAll_64 : decode cX3_weighAll 64 = .ok (.invokevirtual 120, 3) := by decide +kernel
theorem dX3_weighAll_67 : decode cX3_weighAll 67 = .ok (.iastore, 1) := by decide +kernel
theorem dX3_weighAll_68 : decode cX3_weighAll 68 = .ok (.iinc 2 1, 3) := by decide +kernel
theorem dX3_weighAll_71 : decode cX3_weighAll 71 = .ok (.goto (-31), 3) := by decide +kernel
theorem dX3_weighAll_74 : decode cX3_weighAll 74 = .ok (.iinc 1 1, 3) := by decide +kernel
theorem dX3_weighAll_77 : decode cX3_weighAll 77 = .ok (.goto (-75), 3) := by decide +kernel
theorem dX3_weighAll_80 : decode cX3_weighAll 80 = .ok (.return_, 1) := by decide +kernel
theorem dX3_tieAll_0 : decode cX3_tieAll 0 = .ok (.aload_n 0, 1) := by decide +kernel
theorem dX3_tieAll_1 : decode cX3_tieAll 1 = .ok (.invokevirtual 124, 3) := by decide +kernel
theorem dX3_tieAll_4 : decode cX3_tieAll 4 = .ok (.istore_n 1, 1) := by decide +kernel
theorem dX3_tieAll_5 : decode cX3_tieAll 5 = .ok (.iconst 0, 1) := by decide +kernel
theorem dX3_tieAll_6 : decode cX3_tieAll 6 = .ok (.istore_n 2, 1) := by decide +kernel
theorem dX3_tieAll_7 : decode cX3_tieAll 7 = .ok (.iload_n 2, 1) := by decide +kernel
theorem dX3_tieAll_8 : decode cX3_tieAll 8 = .ok (.bipush 16, 2) := by decide +kernel
theorem dX3_tieAll_10 : decode cX3_tieAll 10 = .ok (.if_icmp .ge 31, 3) := by decide +kernel
theorem dX3_tieAll_13 : decode cX3_tieAll 13 = .ok (.iload_n 1, 1) := by decide +kernel
theorem dX3_tieAll_14 : decode cX3_tieAll 14 = .ok (.iconst (-1), 1) := by decide +kernel
theorem dX3_tieAll_15 : decode cX3_tieAll 15 = .ok (.if_icmp .eq 26, 3) := by decide +kernel
theorem dX3_tieAll_18 : decode cX3_tieAll 18 = .ok (.aload_n 0, 1) := by decide +kernel
theorem dX3_tieAll_19 : decode cX3_tieAll 19 = .ok (.iload_n 1, 1) := by decide +kernel
theorem dX3_tieAll_20 : decode cX3_tieAll 20 = .ok (.bipush 16, 2) := by decide +kernel
theorem dX3_tieAll_22 : decode cX3_tieAll 22 = .ok (.idiv, 1) := by decide +kernel
theorem dX3_tieAll_23 : decode cX3_tieAll 23 = .ok (.iload_n 1, 1) := by decide +kernel
theorem dX3_tieAll_24 : decode cX3_tieAll 24 = .ok (.bipush 16, 2) := by decide +kernel
theorem dX3_tieAll_26 : decode cX3_tieAll 26 = .ok (.irem, 1) := by decide +kernel
theorem dX3_tieAll_27 : decode cX3_tieAll 27 = .ok (.invokevirtual 128, 3) := by decide +kernel
theorem dX3_tieAll_30 : decode cX3_tieAll 30 = .ok (.aload_n 0, 1) := by decide +kernel
theorem dX3_tieAll_31 : decode cX3_tieAll 31 = .ok (.invokevirtual 124, 3) := by decide +kernel
theorem dX3_tieAll_34 : decode cX3_tieAll 34 = .ok (.istore_n 1, 1) := by decide +kernel
theorem dX3_tieAll_35 : decode cX3_tieAll 35 = .ok (.iinc 2 1, 3) := by decide +kernel
theorem dX3_tieAll_38 : decode cX3_tieAll 38 = .ok (.goto (-31), 3) := by decide +kernel
theorem dX3_tieAll_41 : decode cX3_tieAll 41 = .ok (.return_, 1) := by decide +kernel
theorem dX3_heaviest_0 : decode cX3_heaviest 0 = .ok (.iconst (-1), 1) := by decide +kernel
theorem dX3_heaviest_1 : decode cX3_heaviest 1 = .ok (.istore_n 1, 1) := by decide +kernel
theorem dX3_heaviest_2 : decode cX3_heaviest 2 = .ok (.iconst 0, 1) := by decide +kernel
theorem dX3_heaviest_3 : decode cX3_heaviest 3 = .ok (.istore_n 2, 1) := by decide +kernel
theorem dX3_heaviest_4 : decode cX3_heaviest 4 = .ok (.iconst 0, 1) := by decide +kernel
theorem dX3_heaviest_5 : decode cX3_heaviest 5 = .ok (.istore_n 3, 1) := by decide +kernel
theorem dX3_heaviest_6 : decode cX3_heaviest 6 = .ok (.iload_n 3, 1) := by decide +kernel
theorem dX3_heaviest_7 : decode cX3_heaviest 7 = .ok (.aload_n 0, 1) := by decide +kernel
theorem dX3_heaviest_8 : decode cX3_heaviest 8 = .ok (.getfield 48, 3) := by decide +kernel
theorem dX3_heaviest_11 : decode cX3_heaviest 11 = .ok (.getfield 115, 3) := by decide +kernel
theorem dX3_heaviest_14 : decode cX3_heaviest 14 = .ok (.if_icmp .ge 77, 3) := by decide +kernel
theorem dX3_heaviest_17 : decode cX3_heaviest 17 = .ok (.iload_n 3, 1) := by decide +kernel
theorem dX3_heaviest_18 : decode cX3_heaviest 18 = .ok (.iconst 1, 1) := by decide +kernel
theorem dX3_heaviest_19 : decode cX3_heaviest 19 = .ok (.iadd, 1) := by decide +kernel
theorem dX3_heaviest_20 : decode cX3_heaviest 20 = .ok (.istore 4, 2) := by decide +kernel
theorem dX3_heaviest_22 : decode cX3_heaviest 22 = .ok (.iload 4, 2) := by decide +kernel
theorem dX3_heaviest_24 : decode cX3_heaviest 24 = .ok (.aload_n 0, 1) := by decide +kernel
theorem dX3_heaviest_25 : decode cX3_heaviest 25 = .ok (.getfield 48, 3) := by decide +kernel
theorem dX3_heaviest_28 : decode cX3_heaviest 28 = .ok (.getfield 115, 3) := by decide +kernel
theorem dX3_heaviest_31 : decode cX3_heaviest 31 = .ok (.if_icmp .ge 54, 3) := by decide +kernel
theorem dX3_heaviest_34 : decode cX3_heaviest 34 = .ok (.iload_n 3, 1) := by decide +kernel
theorem dX3_heaviest_35 : decode cX3_heaviest 35 = .ok (.bipush 16, 2) := by decide +kernel
theorem dX3_heaviest_37 : decode cX3_heaviest 37 = .ok (.imul, 1) := by decide +kernel
theorem dX3_heaviest_38 : decode cX3_heaviest 38 = .ok (.iload 4, 2) := by decide +kernel
theorem dX3_heaviest_40 : decode cX3_heaviest 40 = .ok (.iadd, 1) := by decide +kernel
theorem dX3_heaviest_41 : decode cX3_heaviest 41 = .ok (.istore 5, 2) := by decide +kernel
theorem dX3_heaviest_43 : decode cX3_heaviest 43 = .ok (.aload_n 0, 1) := by decide +kernel
theorem dX3_heaviest_44 : decode cX3_heaviest 44 = .ok (.getfield 26, 3) := by decide +kernel
theorem dX3_heaviest_47 : decode cX3_heaviest 47 = .ok (.iload 5, 2) := by decide +kernel
theorem dX3_heaviest_49 : decode cX3_heaviest 49 = .ok (.iaload, 1) := by decide +kernel
theorem dX3_heaviest_50 : decode cX3_heaviest 50 = .ok (.iload_n 2, 1) := by decide +kernel
theorem dX3_heaviest_51 : decode cX3_heaviest 51 = .ok (.if_icmp .le 28, 3) := by decide +kernel
theorem dX3_heaviest_54 : decode cX3_heaviest 54 = .ok (.aload_n 0, 1) := by decide +kernel
theorem dX3_heaviest_55 : decode cX3_heaviest 55 = .ok (.getfield 29, 3) := by decide +kernel
theorem dX3_heaviest_58 : decode cX3_heaviest 58 = .ok (.iload_n 3, 1) := by decide +kernel
theorem dX3_heaviest_59 : decode cX3_heaviest 59 = .ok (.iaload, 1) := by decide +kernel
theorem dX3_heaviest_60 : decode cX3_heaviest 60 = .ok (.iload 4, 2) := by decide +kernel
theorem dX3_heaviest_62 : decode cX3_heaviest 62 = .ok (.ishr, 1) := by decide +kernel
theorem dX3_heaviest_63 : decode cX3_heaviest 63 = .ok (.iconst 1, 1) := by decide +kernel
theorem dX3_heaviest_64 : decode cX3_heaviest 64 = .ok (.iand, 1) := by decide +kernel
theorem dX3_heaviest_65 : decode cX3_heaviest 65 = .ok (.ifCond .ne 14, 3) := by decide +kernel
theorem dX3_heaviest_68 : decode cX3_heaviest 68 = .ok (.iload 5, 2) := by decide +kernel
theorem dX3_heaviest_70 : decode cX3_heaviest 70 = .ok (.istore_n 1, 1) := by decide +kernel
theorem dX3_heaviest_71 : decode cX3_heaviest 71 = .ok (.aload_n 0, 1) := by decide +kernel
theorem dX3_heaviest_72 : decode cX3_heaviest 72 = .ok (.getfield 26, 3) := by decide +kernel
theorem dX3_heaviest_75 : decode cX3_heaviest 75 = .ok (.iload 5, 2) := by decide +kernel
theorem dX3_heaviest_77 : decode cX3_heaviest 77 = .ok (.iaload, 1) := by decide +kernel
theorem dX3_heaviest_78 : decode cX3_heaviest 78 = .ok (.istore_n 2, 1) := by decide +kernel
theorem dX3_heaviest_79 : decode cX3_heaviest 79 = .ok (.iinc 4 1, 3) := by decide +kernel
theorem dX3_heaviest_82 : decode cX3_heaviest 82 = .ok (.goto (-60), 3) := by decide +kernel
theorem dX3_heaviest_85 : decode cX3_heaviest 85 = .ok (.iinc 3 1, 3) := by decide +kernel
theorem dX3_heaviest_88 : decode cX3_heaviest 88 = .ok (.goto (-82), 3) := by decide +kernel
theorem dX3_heaviest_91 : decode cX3_heaviest 91 = .ok (.iload_n 1, 1) := by decide +kernel
theorem dX3_heaviest_92 : decode cX3_heaviest 92 = .ok (.ireturn, 1) := by decide +kernel
theorem dX3_tie_0 : decode cX3_tie 0 = .ok (.aload_n 0, 1) := by decide +kernel
theorem dX3_tie_1 : decode cX3_tie 1 = .ok (.getfield 32, 3) := by decide +kernel
theorem dX3_tie_4 : decode cX3_tie 4 = .ok (.iload_n 1, 1) := by decide +kernel
theorem dX3_tie_5 : decode cX3_tie 5 = .ok (.dup2, 1) := by decide +kernel
theorem dX3_tie_6 : decode cX3_tie 6 = .ok (.iaload, 1) := by decide +kernel
theorem dX3_tie_7 : decode cX3_tie 7 = .ok (.iconst 1, 1) := by decide +kernel
theorem dX3_tie_8 : decode cX3_tie 8 = .ok (.iload_n 2, 1) := by decide +kernel
theorem dX3_tie_9 : decode cX3_tie 9 = .ok (.ishl, 1) := by decide +kernel
theorem dX3_tie_10 : decode cX3_tie 10 = .ok (.ior, 1) := by decide +kernel
theorem dX3_tie_11 : decode cX3_tie 11 = .ok (.iastore, 1) := by decide +kernel
theorem dX3_tie_12 : decode cX3_tie 12 = .ok (.aload_n 0, 1) := by decide +kernel
theorem dX3_tie_13 : decode cX3_tie 13 = .ok (.getfield 32, 3) := by decide +kernel
theorem dX3_tie_16 : decode cX3_tie 16 = .ok (.iload_n 2, 1) := by decide +kernel
theorem dX3_tie_17 : decode cX3_tie 17 = .ok (.dup2, 1) := by decide +kernel
theorem dX3_tie_18 : decode cX3_tie 18 = .ok (.iaload, 1) := by decide +kernel
theorem dX3_tie_19 : decode cX3_tie 19 = .ok (.iconst 1, 1) := by decide +kernel
theorem dX3_tie_20 : decode cX3_tie 20 = .ok (.iload_n 1, 1) := by decide +kernel
theorem dX3_tie_21 : decode cX3_tie 21 = .ok (.ishl, 1) := by decide +kernel
theorem dX3_tie_22 : decode cX3_tie 22 = .ok (.ior, 1) := by decide +kernel
theorem dX3_tie_23 : decode cX3_tie 23 = .ok (.iastore, 1) := by decide +kernel
theorem dX3_tie_24 : decode cX3_tie 24 = .ok (.aload_n 0, 1) := by decide +kernel
theorem dX3_tie_25 : decode cX3_tie 25 = .ok (.getfield 29, 3) := by decide +kernel
theorem dX3_tie_28 : decode cX3_tie 28 = .ok (.iload_n 1, 1) := by decide +kernel
theorem dX3_tie_29 : decode cX3_tie 29 = .ok (.iaload, 1) := by decide +kernel
theorem dX3_tie_30 : decode cX3_tie 30 = .ok (.aload_n 0, 1) := by decide +kernel
theorem dX3_tie_31 : decode cX3_tie 31 = .ok (.getfield 29, 3) := by decide +kernel
theorem dX3_tie_34 : decode cX3_tie 34 = .ok (.iload_n 2, 1) := by decide +kernel
theorem dX3_tie_35 : decode cX3_tie 35 = .ok (.iaload, 1) := by decide +kernel
theorem dX3_tie_36 : decode cX3_tie 36 = .ok (.ior, 1) := by decide +kernel
theorem dX3_tie_37 : decode cX3_tie 37 = .ok (.istore_n 3, 1) := by decide +kernel
theorem dX3_tie_38 : decode cX3_tie 38 = .ok (.iconst 0, 1) := by decide +kernel
theorem dX3_tie_39 : decode cX3_tie 39 = .ok (.istore 4, 2) := by decide +kernel
theorem dX3_tie_41 : decode cX3_tie 41 = .ok (.iload 4, 2) := by decide +kernel
theorem dX3_tie_43 : decode cX3_tie 43 = .ok (.aload_n 0, 1) := by decide +kernel
theorem dX3_tie_44 : decode cX3_tie 44 = .ok (.getfield 48, 3) := by decide +kernel
theorem dX3_tie_47 : decode cX3_tie 47 = .ok (.getfield 115, 3) := by decide +kernel
theorem dX3_tie_50 : decode cX3_tie 50 = .ok (.if_icmp .ge 26, 3) := by decide +kernel
theorem dX3_tie_53 : decode cX3_tie 53 = .ok (.iload_n 3, 1) := by decide +kernel
theorem dX3_tie_54 : decode cX3_tie 54 = .ok (.iload 4, 2) := by decide +kernel
theorem dX3_tie_56 : decode cX3_tie 56 = .ok (.ishr, 1) := by decide +kernel
theorem dX3_tie_57 : decode cX3_tie 57 = .ok (.iconst 1, 1) := by decide +kernel
theorem dX3_tie_58 : decode cX3_tie 58 = .ok (.iand, 1) := by decide +kernel
theorem dX3_tie_59 : decode cX3_tie 59 = .ok (.ifCond .eq 11, 3) := by decide +kernel
theorem dX3_tie_62 : decode cX3_tie 62 = .ok (.aload_n 0, 1) := by decide +kernel
theorem dX3_tie_63 : decode cX3_tie 63 = .ok (.getfield 29, 3) := by decide +kernel
theorem dX3_tie_66 : decode cX3_tie 66 = .ok (.iload 4, 2) := by decide +kernel
theorem dX3_tie_68 : decode cX3_tie 68 = .ok (.iload_n 3, 1) := by decide +kernel
theorem dX3_tie_69 : decode cX3_tie 69 = .ok (.iastore, 1) := by decide +kernel
theorem dX3_tie_70 : decode cX3_tie 70 = .ok (.iinc 4 1, 3) := by decide +kernel
theorem dX3_tie_73 : decode cX3_tie 73 = .ok (.goto (-32), 3) := by decide +kernel
theorem dX3_tie_76 : decode cX3_tie 76 = .ok (.return_, 1) := by decide +kernel
theorem dX3_hangAll_0 : decode cX3_hangAll 0 = .ok (.iconst 0, 1) := by decide +kernel
theorem dX3_hangAll_1 : decode cX3_hangAll 1 = .ok (.istore_n 1, 1) := by decide +kernel
theorem dX3_hangAll_2 : decode cX3_hangAll 2 = .ok (.iconst 0, 1) := by decide +kernel
theorem dX3_hangAll_3 : decode cX3_hangAll 3 = .ok (.istore_n 2, 1) := by decide +kernel
theorem dX3_hangAll_4 : decode cX3_hangAll 4 = .ok (.iload_n 2, 1) := by decide +kernel
theorem dX3_hangAll_5 : decode cX3_hangAll 5 = .ok (.aload_n 0, 1) := by decide +kernel
theorem dX3_hangAll_6 : decode cX3_hangAll 6 = .ok (.getfield 48, 3) := by decide +kernel
theorem dX3_hangAll_9 : decode cX3_hangAll 9 = .ok (.getfield 115, 3) := by decide +kernel
theorem dX3_hangAll_12 : decode cX3_hangAll 12 = .ok (.if_icmp .ge 25, 3) := by decide +kernel
theorem dX3_hangAll_15 : decode cX3_hangAll 15 = .ok (.iload_n 1, 1) := by decide +kernel
theorem dX3_hangAll_16 : decode cX3_hangAll 16 = .ok (.iload_n 2, 1) := by decide +kernel
theorem dX3_hangAll_17 : decode cX3_hangAll 17 = .ok (.ishr, 1) := by decide +kernel
theorem dX3_hangAll_18 : decode cX3_hangAll 18 = .ok (.iconst 1, 1) := by decide +kernel
theorem dX3_hangAll_19 : decode cX3_hangAll 19 = .ok (.iand, 1) := by decide +kernel
theorem dX3_hangAll_20 : decode cX3_hangAll 20 = .ok (.ifCond .ne 11, 3) := by decide +kernel
theorem dX3_hangAll_23 : decode cX3_hangAll 23 = .ok (.iload_n 1, 1) := by decide +kernel
theorem dX3_hangAll_24 : decode cX3_hangAll 24 = .ok (.aload_n 0, 1) := by decide +kernel
theorem dX3_hangAll_25 : decode cX3_hangAll 25 = .ok (.iload_n 2, 1) := by decide +kernel
theorem dX3_hangAll_26 : decode cX3_hangAll 26 = .ok (.invokevirtual 132, 3) := by decide +kernel
theorem dX3_hangAll_29 : decode cX3_hangAll 29 = .ok (.ior, 1) := by decide +kernel
theorem dX3_hangAll_30 : decode cX3_hangAll 30 = .ok (.istore_n 1, 1) := by decide +kernel
theorem dX3_hangAll_31 : decode cX3_hangAll 31 = .ok (.iinc 2 1, 3) := by decide +kernel
theorem dX3_hangAll_34 : decode cX3_hangAll 34 = .ok (.goto (-30), 3) := by decide +kernel
theorem dX3_hangAll_37 : decode cX3_hangAll 37 = .ok (.return_, 1) := by decide +kernel
theorem dX3_hangOn_0 : decode cX3_hangOn 0 = .ok (.iconst 1, 1) := by decide +kernel
theorem dX3_hangOn_1 : decode cX3_hangOn 1 = .ok (.iload_n 1, 1) := by decide +kernel
theorem dX3_hangOn_2 : decode cX3_hangOn 2 = .ok (.ishl, 1) := by decide +kernel
theorem dX3_hangOn_3 : decode cX3_hangOn 3 = .ok (.istore_n 2, 1) := by decide +kernel
theorem dX3_hangOn_4 : decode cX3_hangOn 4 = .ok (.iconst 1, 1) := by decide +kernel
theorem dX3_hangOn_5 : decode cX3_hangOn 5 = .ok (.istore_n 3, 1) := by decide +kernel
theorem dX3_hangOn_6 : decode cX3_hangOn 6 = .ok (.aload_n 0, 1) := by decide +kernel
theorem dX3_hangOn_7 : decode cX3_hangOn 7 = .ok (.getfield 35, 3) := by decide +kernel
theorem dX3_hangOn_10 : decode cX3_hangOn 10 = .ok (.iconst 0, 1) := by decide +kernel
theorem dX3_hangOn_11 : decode cX3_hangOn 11 = .ok (.iload_n 1, 1) := by decide +kernel
theorem dX3_hangOn_12 : decode cX3_hangOn 12 = .ok (.iastore, 1) := by decide +kernel
theorem dX3_hangOn_13 : decode cX3_hangOn 13 = .ok (.iconst 0, 1) := by decide +kernel
theorem dX3_hangOn_14 : decode cX3_hangOn 14 = .ok (.istore 4, 2) := by decide +kernel
theorem dX3_hangOn_16 : decode cX3_hangOn 16 = .ok (.iload 4, 2) := by decide +kernel
theorem dX3_hangOn_18 : decode cX3_hangOn 18 = .ok (.bipush 16, 2) := by decide +kernel
theorem dX3_hangOn_20 : decode cX3_hangOn 20 = .ok (.if_icmp .ge 102, 3) := by decide +kernel
theorem dX3_hangOn_23 : decode cX3_hangOn 23 = .ok (.iload 4, 2) := by decide +kernel
theorem dX3_hangOn_25 : decode cX3_hangOn 25 = .ok (.iload_n 3, 1) := by decide +kernel
theorem dX3_hangOn_26 : decode cX3_hangOn 26 = .ok (.if_icmp .ge 96, 3) := by decide +kernel
theorem dX3_hangOn_29 : decode cX3_hangOn 29 = .ok (.aload_n 0, 1) := by decide +kernel
theorem dX3_hangOn_30 : decode cX3_hangOn 30 = .ok (.getfield 35, 3) := by decide +kernel
theorem dX3_hangOn_33 : decode cX3_hangOn 33 = .ok (.iload 4, 2) := by decide +kernel
theorem dX3_hangOn_35 : decode cX3_hangOn 35 = .ok (.iaload, 1) := by decide +kernel
theorem dX3_hangOn_36 : decode cX3_hangOn 36 = .ok (.istore 5, 2) := by decide +kernel
theorem dX3_hangOn_38 : decode cX3_hangOn 38 = .ok (.iconst 0, 1) := by decide +kernel
theorem dX3_hangOn_39 : decode cX3_hangOn 39 = .ok (.istore 6, 2) := by decide +kernel
theorem dX3_hangOn_41 : decode cX3_hangOn 41 = .ok (.iload 6, 2) := by decide +kernel
theorem dX3_hangOn_43 : decode cX3_hangOn 43 = .ok (.aload_n 0, 1) := by decide +kernel
theorem dX3_hangOn_44 : decode cX3_hangOn 44 = .ok (.getfield 48, 3) := by decide +kernel
theorem dX3_hangOn_47 : decode cX3_hangOn 47 = .ok (.getfield 115, 3) := by decide +kernel
theorem dX3_hangOn_50 : decode cX3_hangOn 50 = .ok (.if_icmp .ge 66, 3) := by decide +kernel
theorem dX3_hangOn_53 : decode cX3_hangOn 53 = .ok (.iload_n 3, 1) := by decide +kernel
theorem dX3_hangOn_54 : decode cX3_hangOn 54 = .ok (.bipush 16, 2) := by decide +kernel
theorem dX3_hangOn_56 : decode cX3_hangOn 56 = .ok (.if_icmp .ge 60, 3) := by decide +kernel
theorem dX3_hangOn_59 : decode cX3_hangOn 59 = .ok (.aload_n 0, 1) := by decide +kernel
theorem dX3_hangOn_60 : decode cX3_hangOn 60 = .ok (.getfield 32, 3) := by decide +kernel
theorem dX3_hangOn_63 : decode cX3_hangOn 63 = .ok (.iload 5, 2) := by decide +kernel
theorem dX3_hangOn_65 : decode cX3_hangOn 65 = .ok (.iaload, 1) := by decide +kernel
theorem dX3_hangOn_66 : decode cX3_hangOn 66 = .ok (.iload 6, 2) := by decide +kernel
theorem dX3_hangOn_68 : decode cX3_hangOn 68 = .ok (.ishr, 1) := by decide +kernel
theorem dX3_hangOn_69 : decode cX3_hangOn 69 = .ok (.iconst 1, 1) := by decide +kernel
theorem dX3_hangOn_70 : decode cX3_hangOn 70 = .ok (.iand, 1) := by decide +kernel
theorem dX3_hangOn_71 : decode cX3_hangOn 71 = .ok (.ifCond .eq 39, 3) := by decide +kernel
theorem dX3_hangOn_74 : decode cX3_hangOn 74 = .ok (.iload_n 2, 1) := by decide +kernel
theorem dX3_hangOn_75 : decode cX3_hangOn 75 = .ok (.iload 6, 2) := by decide +kernel
theorem dX3_hangOn_77 : decode cX3_hangOn 77 = .ok (.ishr, 1) := by decide +kernel
theorem dX3_hangOn_78 : decode cX3_hangOn 78 = .ok (.iconst 1, 1) := by decide +kernel
theorem dX3_hangOn_79 : decode cX3_hangOn 79 = .ok (.iand, 1) := by decide +kernel
theorem dX3_hangOn_80 : decode cX3_hangOn 80 = .ok (.ifCond .ne 30, 3) := by decide +kernel
theorem dX3_hangOn_83 : decode cX3_hangOn 83 = .ok (.aload_n 0, 1) := by decide +kernel
theorem dX3_hangOn_84 : decode cX3_hangOn 84 = .ok (.getfield 22, 3) := by decide +kernel
theorem dX3_hangOn_87 : decode cX3_hangOn 87 = .ok (.iload 6, 2) := by decide +kernel
theorem dX3_hangOn_89 : decode cX3_hangOn 89 = .ok (.iload 5, 2) := by decide +kernel
theorem dX3_hangOn_91 : decode cX3_hangOn 91 = .ok (.iastore, 1) := by decide +kernel
theorem dX3_hangOn_92 : decode cX3_hangOn 92 = .ok (.iload_n 2, 1) := by decide +kernel
theorem dX3_hangOn_93 : decode cX3_hangOn 93 = .ok (.iconst 1, 1) := by decide +kernel
theorem dX3_hangOn_94 : decode cX3_hangOn 94 = .ok (.iload 6, 2) := by decide +kernel
theorem dX3_hangOn_96 : decode cX3_hangOn 96 = .ok (.ishl, 1) := by decide +kernel
theorem dX3_hangOn_97 : decode cX3_hangOn 97 = .ok (.ior, 1) := by decide +kernel
theorem dX3_hangOn_98 : decode cX3_hangOn 98 = .ok (.istore_n 2, 1) := by decide +kernel
theorem dX3_hangOn_99 : decode cX3_hangOn 99 = .ok (.aload_n 0, 1) := by decide +kernel
theorem dX3_hangOn_100 : decode cX3_hangOn 100 = .ok (.getfield 35, 3) := by decide +kernel
theorem dX3_hangOn_103 : decode cX3_hangOn 103 = .ok (.iload_n 3, 1) := by decide +kernel
theorem dX3_hangOn_104 : decode cX3_hangOn 104 = .ok (.iload 6, 2) := by decide +kernel
theorem dX3_hangOn_106 : decode cX3_hangOn 106 = .ok (.iastore, 1) := by decide +kernel
theorem dX3_hangOn_107 : decode cX3_hangOn 107 = .ok (.iinc 3 1, 3) := by decide +kernel
theorem dX3_hangOn_110 : decode cX3_hangOn 110 = .ok (.iinc 6 1, 3) := by decide +kernel
theorem dX3_hangOn_113 : decode cX3_hangOn 113 = .ok (.goto (-72), 3) := by decide +kernel
theorem dX3_hangOn_116 : decode cX3_hangOn 116 = .ok (.iinc 4 1, 3) := by decide +kernel
theorem dX3_hangOn_119 : decode cX3_hangOn 119 = .ok (.goto (-103), 3) := by decide +kernel
theorem dX3_hangOn_122 : decode cX3_hangOn 122 = .ok (.iload_n 2, 1) := by decide +kernel
theorem dX3_hangOn_123 : decode cX3_hangOn 123 = .ok (.ireturn, 1) := by decide +kernel
theorem dX3_tallied_0 : decode cX3_tallied 0 = .ok (.aload_n 0, 1) := by decide +kernel
theorem dX3_tallied_1 : decode cX3_tallied 1 = .ok (.iload_n 1, 1) := by decide +kernel
theorem dX3_tallied_2 : decode cX3_tallied 2 = .ok (.iconst 3, 1) := by decide +kernel
theorem dX3_tallied_3 : decode cX3_tallied 3 = .ok (.invokevirtual 135, 3) := by decide +kernel
theorem dX3_tallied_6 : decode cX3_tallied 6 = .ok (.aload_n 0, 1) := by decide +kernel
theorem dX3_tallied_7 : decode cX3_tallied 7 = .ok (.getfield 38, 3) := by decide +kernel
theorem dX3_tallied_10 : decode cX3_tallied 10 = .ok (.iload_n 2, 1) := by decide +kernel
theorem dX3_tallied_11 : decode cX3_tallied 11 = .ok (.ifCond .eq 7, 3) := by decide +kernel
theorem dX3_tallied_14 : decode cX3_tallied 14 = .ok (.iconst 0, 1) := by decide +kernel
theorem dX3_tallied_15 : decode cX3_tallied 15 = .ok (.goto 6, 3) := by decide +kernel
theorem dX3_tallied_18 : decode cX3_tallied 18 = .ok (.sipush 256, 3) := by decide +kernel
theorem dX3_tallied_21 : decode cX3_tallied 21 = .ok (.iload_n 1, 1) := by decide +kernel
theorem dX3_tallied_22 : decode cX3_tallied 22 = .ok (.bipush 16, 2) := by decide +kernel
theorem dX3_tallied_24 : decode cX3_tallied 24 = .ok (.imul, 1) := by decide +kernel
theorem dX3_tallied_25 : decode cX3_tallied 25 = .ok (.iadd, 1) := by decide +kernel
theorem dX3_tallied_26 : decode cX3_tallied 26 = .ok (.bipush 12, 2) := by decide +kernel
theorem dX3_tallied_28 : decode cX3_tallied 28 = .ok (.iadd, 1) := by decide +kernel
theorem dX3_tallied_29 : decode cX3_tallied 29 = .ok (.iload_n 3, 1) := by decide +kernel
theorem dX3_tallied_30 : decode cX3_tallied 30 = .ok (.iadd, 1) := by decide +kernel
theorem dX3_tallied_31 : decode cX3_tallied 31 = .ok (.iaload, 1) := by decide +kernel
theorem dX3_tallied_32 : decode cX3_tallied 32 = .ok (.ireturn, 1) := by decide +kernel
theorem dX3_tallyWith_0 : decode cX3_tallyWith 0 = .ok (.aload_n 0, 1) := by decide +kernel
theorem dX3_tallyWith_1 : decode cX3_tallyWith 1 = .ok (.getfield 44, 3) := by decide +kernel
theorem dX3_tallyWith_4 : decode cX3_tallyWith 4 = .ok (.iload_n 1, 1) := by decide +kernel
theorem dX3_tallyWith_5 : decode cX3_tallyWith 5 = .ok (.iconst 4, 1) := by decide +kernel
theorem dX3_tallyWith_6 : decode cX3_tallyWith 6 = .ok (.imul, 1) := by decide +kernel
theorem dX3_tallyWith_7 : decode cX3_tallyWith 7 = .ok (.iload_n 2, 1) := by decide +kernel
theorem dX3_tallyWith_8 : decode cX3_tallyWith 8 = .ok (.iadd, 1) := by decide +kernel
theorem dX3_tallyWith_9 : decode cX3_tallyWith 9 = .ok (.baload, 1) := by decide +kernel
theorem dX3_tallyWith_10 : decode cX3_tallyWith 10 = .ok (.ifCond .eq 4, 3) := by decide +kernel
theorem dX3_tallyWith_13 : decode cX3_tallyWith 13 = .ok (.return_, 1) := by decide +kernel
theorem dX3_tallyWith_14 : decode cX3_tallyWith 14 = .ok (.aload_n 0, 1) := by decide +kernel
theorem dX3_tallyWith_15 : decode cX3_tallyWith 15 = .ok (.getfield 44, 3) := by decide +kernel
theorem dX3_tallyWith_18 : decode cX3_tallyWith 18 = .ok (.iload_n 1, 1) := by decide +kernel
theorem dX3_tallyWith_19 : decode cX3_tallyWith 19 = .ok (.iconst 4, 1) := by decide +kernel
theorem dX3_tallyWith_20 : decode cX3_tallyWith 20 = .ok (.imul, 1) := by decide +kernel
theorem dX3_tallyWith_21 : decode cX3_tallyWith 21 = .ok (.iload_n 2, 1) := by decide +kernel
theorem dX3_tallyWith_22 : decode cX3_tallyWith 22 = .ok (.iadd, 1) := by decide +kernel
theorem dX3_tallyWith_23 : decode cX3_tallyWith 23 = .ok (.iconst 1, 1) := by decide +kernel
theorem dX3_tallyWith_24 : decode cX3_tallyWith 24 = .ok (.bastore, 1) := by decide +kernel
theorem dX3_tallyWith_25 : decode cX3_tallyWith 25 = .ok (.iload_n 1, 1) := by decide +kernel
theorem dX3_tallyWith_26 : decode cX3_tallyWith 26 = .ok (.bipush 16, 2) := by decide +kernel
theorem dX3_tallyWith_28 : decode cX3_tallyWith 28 = .ok (.imul, 1) := by decide +kernel
theorem dX3_tallyWith_29 : decode cX3_tallyWith 29 = .ok (.iload_n 2, 1) := by decide +kernel
theorem dX3_tallyWith_30 : decode cX3_tallyWith 30 = .ok (.iconst 4, 1) := by decide +kernel
theorem dX3_tallyWith_31 : decode cX3_tallyWith 31 = .ok (.imul, 1) := by decide +kernel
theorem dX3_tallyWith_32 : decode cX3_tallyWith 32 = .ok (.iadd, 1) := by decide +kernel
theorem dX3_tallyWith_33 : decode cX3_tallyWith 33 = .ok (.istore_n 3, 1) := by decide +kernel
theorem dX3_tallyWith_34 : decode cX3_tallyWith 34 = .ok (.iconst 0, 1) := by decide +kernel
theorem dX3_tallyWith_35 : decode cX3_tallyWith 35 = .ok (.istore 4, 2) := by decide +kernel
theorem dX3_tallyWith_37 : decode cX3_tallyWith 37 = .ok (.iload 4, 2) := by decide +kernel
theorem dX3_tallyWith_39 : decode cX3_tallyWith 39 = .ok (.iconst 4, 1) := by decide +kernel
theorem dX3_tallyWith_40 : decode cX3_tallyWith 40 = .ok (.if_icmp .ge 33, 3) := by decide +kernel
theorem dX3_tallyWith_43 : decode cX3_tallyWith 43 = .ok (.aload_n 0, 1) := by decide +kernel
theorem dX3_tallyWith_44 : decode cX3_tallyWith 44 = .ok (.getfield 38, 3) := by decide +kernel
theorem dX3_tallyWith_47 : decode cX3_tallyWith 47 = .ok (.iload_n 3, 1) := by decide +kernel
theorem dX3_tallyWith_48 : decode cX3_tallyWith 48 = .ok (.iload 4, 2) := by decide +kernel
theorem dX3_tallyWith_50 : decode cX3_tallyWith 50 = .ok (.iadd, 1) := by decide +kernel
theorem dX3_tallyWith_51 : decode cX3_tallyWith 51 = .ok (.iconst 0, 1) := by decide +kernel
theorem dX3_tallyWith_52 : decode cX3_tallyWith 52 = .ok (.iastore, 1) := by decide +kernel
theorem dX3_tallyWith_53 : decode cX3_tallyWith 53 = .ok (.aload_n 0, 1) := by decide +kernel
theorem dX3_tallyWith_54 : decode cX3_tallyWith 54 = .ok (.getfield 38, 3) := by decide +kernel
theorem dX3_tallyWith_57 : decode cX3_tallyWith 57 = .ok (.sipush 256, 3) := by decide +kernel
theorem dX3_tallyWith_60 : decode cX3_tallyWith 60 = .ok (.iload_n 3, 1) := by decide +kernel
theorem dX3_tallyWith_61 : decode cX3_tallyWith 61 = .ok (.iadd, 1) := by decide +kernel
theorem dX3_tallyWith_62 : decode cX3_tallyWith 62 = .ok (.iload 4, 2) := by decide +kernel
theorem dX3_tallyWith_64 : decode cX3_tallyWith 64 = .ok (.iadd, 1) := by decide +kernel
theorem dX3_tallyWith_65 : decode cX3_tallyWith 65 = .ok (.iconst 0, 1) := by decide +kernel
theorem dX3_tallyWith_66 : decode cX3_tallyWith 66 = .ok (.iastore, 1) := by decide +kernel
theorem dX3_tallyWith_67 : decode cX3_tallyWith 67 = .ok (.iinc 4 1, 3) := by decide +kernel
theorem dX3_tallyWith_70 : decode cX3_tallyWith 70 = .ok (.goto (-33), 3) := by decide +kernel
theorem dX3_tallyWith_73 : decode cX3_tallyWith 73 = .ok (.aload_n 0, 1) := by decide +kernel
theorem dX3_tallyWith_74 : decode cX3_tallyWith 74 = .ok (.getfield 9, 3) := by decide +kernel
theorem dX3_tallyWith_77 : decode cX3_tallyWith 77 = .ok (.aload_n 0, 1) := by decide +kernel
theorem dX3_tallyWith_78 : decode cX3_tallyWith 78 = .ok (.getfield 56, 3) := by decide +kernel
theorem dX3_tallyWith_81 : decode cX3_tallyWith 81 = .ok (.getfield 93, 3) := by decide +kernel
theorem dX3_tallyWith_84 : decode cX3_tallyWith 84 = .ok (.iload_n 1, 1) := by decide +kernel
theorem dX3_tallyWith_85 : decode cX3_tallyWith 85 = .ok (.laload, 1) := by decide +kernel
theorem dX3_tallyWith_86 : decode cX3_tallyWith 86 = .ok (.land, 1) := by decide +kernel
theorem dX3_tallyWith_87 : decode cX3_tallyWith 87 = .ok (.lstore 4, 2) := by decide +kernel
theorem dX3_tallyWith_89 : decode cX3_tallyWith 89 = .ok (.iconst 0, 1) := by decide +kernel
theorem dX3_tallyWith_90 : decode cX3_tallyWith 90 = .ok (.istore 6, 2) := by decide +kernel
theorem dX3_tallyWith_92 : decode cX3_tallyWith 92 = .ok (.iload 6, 2) := by decide +kernel
theorem dX3_tallyWith_94 : decode cX3_tallyWith 94 = .ok (.aload_n 0, 1) := by decide +kernel
theorem dX3_tallyWith_95 : decode cX3_tallyWith 95 = .ok (.getfield 52, 3) := by decide +kernel
theorem dX3_tallyWith_98 : decode cX3_tallyWith 98 = .ok (.getfield 66, 3) := by decide +kernel
theorem dX3_tallyWith_101 : decode cX3_tallyWith 101 = .ok (.if_icmp .ge 104, 3) := by decide +kernel
theorem dX3_tallyWith_104 : decode cX3_tallyWith 104 = .ok (.lload 4, 2) := by decide +kernel
theorem dX3_tallyWith_106 : decode cX3_tallyWith 106 = .ok (.iload 6, 2) := by decide +kernel
theorem dX3_tallyWith_108 : decode cX3_tallyWith 108 = .ok (.invokestatic 70, 3) := by decide +kernel
theorem dX3_tallyWith_111 : decode cX3_tallyWith 111 = .ok (.ifCond .eq 88, 3) := by decide +kernel
theorem dX3_tallyWith_114 : decode cX3_tallyWith 114 = .ok (.lload 4, 2) := by decide +kernel
theorem dX3_tallyWith_116 : decode cX3_tallyWith 116 = .ok (.aload_n 0, 1) := by decide +kernel
theorem dX3_tallyWith_117 : decode cX3_tallyWith 117 = .ok (.iload_n 1, 1) := by decide +kernel
theorem dX3_tallyWith_118 : decode cX3_tallyWith 118 = .ok (.iload_n 2, 1) := by decide +kernel
theorem dX3_tallyWith_119 : decode cX3_tallyWith 119 = .ok (.iload 6, 2) := by decide +kernel
theorem dX3_tallyWith_121 : decode cX3_tallyWith 121 = .ok (.invokevirtual 138, 3) := by decide +kernel
theorem dX3_tallyWith_124 : decode cX3_tallyWith 124 = .ok (.land, 1) := by decide +kernel
theorem dX3_tallyWith_125 : decode cX3_tallyWith 125 = .ok (.lstore 7, 2) := by decide +kernel
theorem dX3_tallyWith_127 : decode cX3_tallyWith 127 = .ok (.aload_n 0, 1) := by decide +kernel
theorem dX3_tallyWith_128 : decode cX3_tallyWith 128 = .ok (.getfield 56, 3) := by decide +kernel
theorem dX3_tallyWith_131 : decode cX3_tallyWith 131 = .ok (.getfield 98, 3) := by decide +kernel
theorem dX3_tallyWith_134 : decode cX3_tallyWith 134 = .ok (.iload_n 1, 1) := by decide +kernel
theorem dX3_tallyWith_135 : decode cX3_tallyWith 135 = .ok (.laload, 1) := by decide +kernel
theorem dX3_tallyWith_136 : decode cX3_tallyWith 136 = .ok (.iload 6, 2) := by decide +kernel
theorem dX3_tallyWith_138 : decode cX3_tallyWith 138 = .ok (.invokestatic 70, 3) := by decide +kernel
theorem dX3_tallyWith_141 : decode cX3_tallyWith 141 = .ok (.istore 9, 2) := by decide +kernel
theorem dX3_tallyWith_143 : decode cX3_tallyWith 143 = .ok (.aload_n 0, 1) := by decide +kernel
theorem dX3_tallyWith_144 : decode cX3_tallyWith 144 = .ok (.iload_n 3, 1) := by decide +kernel
theorem dX3_tallyWith_145 : decode cX3_tallyWith 145 = .ok (.iload 9, 2) := by decide +kernel
theorem dX3_tallyWith_147 : decode cX3_tallyWith 147 = .ok (.aload_n 0, 1) := by decide +kernel
theorem dX3_tallyWith_148 : decode cX3_tallyWith 148 = .ok (.getfield 15, 3) := by decide +kernel
theorem dX3_tallyWith_151 : decode cX3_tallyWith 151 = .ok (.iload 6, 2) := by decide +kernel
theorem dX3_tallyWith_153 : decode cX3_tallyWith 153 = .ok (.laload, 1) := by decide +kernel
theorem dX3_tallyWith_154 : decode cX3_tallyWith 154 = .ok (.lload 7, 2) := by decide +kernel
theorem dX3_tallyWith_156 : decode cX3_tallyWith 156 = .ok (.land, 1) := by decide +kernel
theorem dX3_tallyWith_157 : decode cX3_tallyWith 157 = .ok (.aload_n 0, 1) := by decide +kernel
theorem dX3_tallyWith_158 : decode cX3_tallyWith 158 = .ok (.getfield 56, 3) := by decide +kernel
theorem dX3_tallyWith_161 : decode cX3_tallyWith 161 = .ok (.getfield 98, 3) := by decide +kernel
theorem dX3_tallyWith_164 : decode cX3_tallyWith 164 = .ok (.iload_n 1, 1) := by decide +kernel
theorem dX3_tallyWith_165 : decode cX3_tallyWith 165 = .ok (.laload, 1) := by decide +kernel
theorem dX3_tallyWith_166 : decode cX3_tallyWith 166 = .ok (.invokevirtual 142, 3) := by decide +kernel
theorem dX3_tallyWith_169 : decode cX3_tallyWith 169 = .ok (.aload_n 0, 1) := by decide +kernel
theorem dX3_tallyWith_170 : decode cX3_tallyWith 170 = .ok (.sipush 256, 3) := by decide +kernel
theorem dX3_tallyWith_173 : decode cX3_tallyWith 173 = .ok (.iload_n 3, 1) := by decide +kernel
theorem dX3_tallyWith_174 : decode cX3_tallyWith 174 = .ok (.iadd, 1) := by decide +kernel
theorem dX3_tallyWith_175 : decode cX3_tallyWith 175 = .ok (.iload 9, 2) := by decide +kernel
theorem dX3_tallyWith_177 : decode cX3_tallyWith 177 = .ok (.aload_n 0, 1) := by decide +kernel
theorem dX3_tallyWith_178 : decode cX3_tallyWith 178 = .ok (.getfield 19, 3) := by decide +kernel
theorem dX3_tallyWith_181 : decode cX3_tallyWith 181 = .ok (.iload 6, 2) := by decide +kernel
theorem dX3_tallyWith_183 : decode cX3_tallyWith 183 = .ok (.laload, 1) := by decide +kernel
theorem dX3_tallyWith_184 : decode cX3_tallyWith 184 = .ok (.lload 7, 2) := by decide +kernel
theorem dX3_tallyWith_186 : decode cX3_tallyWith 186 = .ok (.land, 1) := by decide +kernel
theorem dX3_tallyWith_187 : decode cX3_tallyWith 187 = .ok (.aload_n 0, 1) := by decide +kernel
theorem dX3_tallyWith_188 : decode cX3_tallyWith 188 = .ok (.getfield 56, 3) := by decide +kernel
theorem dX3_tallyWith_191 : decode cX3_tallyWith 191 = .ok (.getfield 98, 3) := by decide +kernel
theorem dX3_tallyWith_194 : decode cX3_tallyWith 194 = .ok (.iload_n 1, 1) := by decide +kernel
theorem dX3_tallyWith_195 : decode cX3_tallyWith 195 = .ok (.laload, 1) := by decide +kernel
theorem dX3_tallyWith_196 : decode cX3_tallyWith 196 = .ok (.invokevirtual 142, 3) := by decide +kernel
theorem dX3_tallyWith_199 : decode cX3_tallyWith 199 = .ok (.iinc 6 1, 3) := by decide +kernel
theorem dX3_tallyWith_202 : decode cX3_tallyWith 202 = .ok (.goto (-110), 3) := by decide +kernel
theorem dX3_tallyWith_205 : decode cX3_tallyWith 205 = .ok (.iconst 0, 1) := by decide +kernel
theorem dX3_tallyWith_206 : decode cX3_tallyWith 206 = .ok (.istore 6, 2) := by decide +kernel
theorem dX3_tallyWith_208 : decode cX3_tallyWith 208 = .ok (.iload 6, 2) := by decide +kernel
theorem dX3_tallyWith_210 : decode cX3_tallyWith 210 = .ok (.iconst 3, 1) := by decide +kernel
theorem dX3_tallyWith_211 : decode cX3_tallyWith 211 = .ok (.if_icmp .ge 27, 3) := by decide +kernel
theorem dX3_tallyWith_214 : decode cX3_tallyWith 214 = .ok (.aload_n 0, 1) := by decide +kernel
theorem dX3_tallyWith_215 : decode cX3_tallyWith 215 = .ok (.getfield 41, 3) := by decide +kernel
theorem dX3_tallyWith_218 : decode cX3_tallyWith 218 = .ok (.iload_n 3, 1) := by decide +kernel
theorem dX3_tallyWith_219 : decode cX3_tallyWith 219 = .ok (.iload 6, 2) := by decide +kernel
theorem dX3_tallyWith_221 : decode cX3_tallyWith 221 = .ok (.iadd, 1) := by decide +kernel
theorem dX3_tallyWith_222 : decode cX3_tallyWith 222 = .ok (.aload_n 0, 1) := by decide +kernel
theorem dX3_tallyWith_223 : decode cX3_tallyWith 223 = .ok (.iload_n 3, 1) := by decide +kernel
theorem dX3_tallyWith_224 : decode cX3_tallyWith 224 = .ok (.iload_n 3, 1) := by decide +kernel
theorem dX3_tallyWith_225 : decode cX3_tallyWith 225 = .ok (.iload 6, 2) := by decide +kernel
theorem dX3_tallyWith_227 : decode cX3_tallyWith 227 = .ok (.iadd, 1) := by decide +kernel
theorem dX3_tallyWith_228 : decode cX3_tallyWith 228 = .ok (.invokevirtual 146, 3) := by decide +kernel
theorem dX3_tallyWith_231 : decode cX3_tallyWith 231 = .ok (.iastore, 1) := by decide +kernel
theorem dX3_tallyWith_232 : decode cX3_tallyWith 232 = .ok (.iinc 6 1, 3) := by decide +kernel
theorem dX3_tallyWith_235 : decode cX3_tallyWith 235 = .ok (.goto (-27), 3) := by decide +kernel
theorem dX3_tallyWith_238 : decode cX3_tallyWith 238 = .ok (.return_, 1) := by decide +kernel
theorem dX3_worthOf_0 : decode cX3_worthOf 0 = .ok (.aload_n 0, 1) := by decide +kernel
theorem dX3_worthOf_1 : decode cX3_worthOf 1 = .ok (.getfield 38, 3) := by decide +kernel
theorem dX3_worthOf_4 : decode cX3_worthOf 4 = .ok (.iload_n 2, 1) := by decide +kernel
theorem dX3_worthOf_5 : decode cX3_worthOf 5 = .ok (.iaload, 1) := by decide +kernel
theorem dX3_worthOf_6 : decode cX3_worthOf 6 = .ok (.iconst 1, 1) := by decide +kernel
theorem dX3_worthOf_7 : decode cX3_worthOf 7 = .ok (.iadd, 1) := by decide +kernel
theorem dX3_worthOf_8 : decode cX3_worthOf 8 = .ok (.invokestatic 149, 3) := by decide +kernel
theorem dX3_worthOf_11 : decode cX3_worthOf 11 = .ok (.aload_n 0, 1) := by decide +kernel
theorem dX3_worthOf_12 : decode cX3_worthOf 12 = .ok (.getfield 38, 3) := by decide +kernel
theorem dX3_worthOf_15 : decode cX3_worthOf 15 = .ok (.iload_n 1, 1) := by decide +kernel
theorem dX3_worthOf_16 : decode cX3_worthOf 16 = .ok (.iconst 3, 1) := by decide +kernel
theorem dX3_worthOf_17 : decode cX3_worthOf 17 = .ok (.iadd, 1) := by decide +kernel
theorem dX3_worthOf_18 : decode cX3_worthOf 18 = .ok (.iaload, 1) := by decide +kernel
theorem dX3_worthOf_19 : decode cX3_worthOf 19 = .ok (.iconst 3, 1) := by decide +kernel
theorem dX3_worthOf_20 : decode cX3_worthOf 20 = .ok (.iadd, 1) := by decide +kernel
theorem dX3_worthOf_21 : decode cX3_worthOf 21 = .ok (.invokestatic 149, 3) := by decide +kernel
theorem dX3_worthOf_24 : decode cX3_worthOf 24 = .ok (.isub, 1) := by decide +kernel
theorem dX3_worthOf_25 : decode cX3_worthOf 25 = .ok (.aload_n 0, 1) := by decide +kernel
theorem dX3_worthOf_26 : decode cX3_worthOf 26 = .ok (.getfield 38, 3) := by decide +kernel
theorem dX3_worthOf_29 : decode cX3_worthOf 29 = .ok (.sipush 256, 3) := by decide +kernel
theorem dX3_worthOf_32 : decode cX3_worthOf 32 = .ok (.iload_n 2, 1) := by decide +kernel
theorem dX3_worthOf_33 : decode cX3_worthOf 33 = .ok (.iadd, 1) := by decide +kernel
theorem dX3_worthOf_34 : decode cX3_worthOf 34 = .ok (.iaload, 1) := by decide +kernel
theorem dX3_worthOf_35 : decode cX3_worthOf 35 = .ok (.iconst 1, 1) := by decide +kernel
theorem dX3_worthOf_36 : decode cX3_worthOf 36 = .ok (.iadd, 1) := by decide +kernel
theorem dX3_worthOf_37 : decode cX3_worthOf 37 = .ok (.invokestatic 149, 3) := by decide +kernel
theorem dX3_worthOf_40 : decode cX3_worthOf 40 = .ok (.isub, 1) := by decide +kernel
theorem dX3_worthOf_41 : decode cX3_worthOf 41 = .ok (.aload_n 0, 1) := by decide +kernel
theorem dX3_worthOf_42 : decode cX3_worthOf 42 = .ok (.getfield 38, 3) := by decide +kernel
theorem dX3_worthOf_45 : decode cX3_worthOf 45 = .ok (.sipush 256, 3) := by decide +kernel
theorem dX3_worthOf_48 : decode cX3_worthOf 48 = .ok (.iload_n 1, 1) := by decide +kernel
theorem dX3_worthOf_49 : decode cX3_worthOf 49 = .ok (.iadd, 1) := by decide +kernel
theorem dX3_worthOf_50 : decode cX3_worthOf 50 = .ok (.iconst 3, 1) := by decide +kernel
theorem dX3_worthOf_51 : decode cX3_worthOf 51 = .ok (.iadd, 1) := by decide +kernel
theorem dX3_worthOf_52 : decode cX3_worthOf 52 = .ok (.iaload, 1) := by decide +kernel
theorem dX3_worthOf_53 : decode cX3_worthOf 53 = .ok (.iconst 3, 1) := by decide +kernel
theorem dX3_worthOf_54 : decode cX3_worthOf 54 = .ok (.iadd, 1) := by decide +kernel
theorem dX3_worthOf_55 : decode cX3_worthOf 55 = .ok (.invokestatic 149, 3) := by decide +kernel
theorem dX3_worthOf_58 : decode cX3_worthOf 58 = .ok (.iadd, 1) := by decide +kernel
theorem dX3_worthOf_59 : decode cX3_worthOf 59 = .ok (.ireturn, 1) := by decide +kernel
theorem dX3_tallyPairs_0 : decode cX3_tallyPairs 0 = .ok (.lload_n 3, 1) := by decide +kernel
theorem dX3_tallyPairs_1 : decode cX3_tallyPairs 1 = .ok (.lload 5, 2) := by decide +kernel
theorem dX3_tallyPairs_3 : decode cX3_tallyPairs 3 = .ok (.land, 1) := by decide +kernel
theorem dX3_tallyPairs_4 : decode cX3_tallyPairs 4 = .ok (.invokestatic 101, 3) := by decide +kernel
theorem dX3_tallyPairs_7 : decode cX3_tallyPairs 7 = .ok (.istore 7, 2) := by decide +kernel
theorem dX3_tallyPairs_9 : decode cX3_tallyPairs 9 = .ok (.lload_n 3, 1) := by decide +kernel
theorem dX3_tallyPairs_10 : decode cX3_tallyPairs 10 = .ok (.lload 5, 2) := by decide +kernel
theorem dX3_tallyPairs_12 : decode cX3_tallyPairs 12 = .ok (.ldc2_w 107, 3) := by decide +kernel
theorem dX3_tallyPairs_15 : decode cX3_tallyPairs 15 = .ok (.lxor, 1) := by decide +kernel
theorem dX3_tallyPairs_16 : decode cX3_tallyPairs 16 = .ok (.land, 1) := by decide +kernel
theorem dX3_tallyPairs_17 : decode cX3_tallyPairs 17 = .ok (.invokestatic 101, 3) := by decide +kernel
theorem dX3_tallyPairs_20 : decode cX3_tallyPairs 20 = .ok (.istore 8, 2) := by decide +kernel
theorem dX3_tallyPairs_22 : decode cX3_tallyPairs 22 = .ok (.iload_n 2, 1) := by decide +kernel
theorem dX3_tallyPairs_23 : decode cX3_tallyPairs 23 = .ok (.ifCond .eq 7, 3) := by decide +kernel
theorem dX3_tallyPairs_26 : decode cX3_tallyPairs 26 = .ok (.iconst 1, 1) := by decide +kernel
theorem dX3_tallyPairs_27 : decode cX3_tallyPairs 27 = .ok (.goto 4, 3) := by decide +kernel
theorem dX3_tallyPairs_30 : decode cX3_tallyPairs 30 = .ok (.iconst 0, 1) := by decide +kernel
theorem dX3_tallyPairs_31 : decode cX3_tallyPairs 31 = .ok (.istore 9, 2) := by decide +kernel
theorem dX3_tallyPairs_33 : decode cX3_tallyPairs 33 = .ok (.aload_n 0, 1) := by decide +kernel
theorem dX3_tallyPairs_34 : decode cX3_tallyPairs 34 = .ok (.getfield 38, 3) := by decide +kernel
theorem dX3_tallyPairs_37 : decode cX3_tallyPairs 37 = .ok (.iload_n 1, 1) := by decide +kernel
theorem dX3_tallyPairs_38 : decode cX3_tallyPairs 38 = .ok (.iload 9, 2) := by decide +kernel
theorem dX3_tallyPairs_40 : decode cX3_tallyPairs 40 = .ok (.iadd, 1) := by decide +kernel
theorem dX3_tallyPairs_41 : decode cX3_tallyPairs 41 = .ok (.dup2, 1) := by decide +kernel
theorem dX3_tallyPairs_42 : decode cX3_tallyPairs 42 = .ok (.iaload, 1) := by decide +kernel
theorem dX3_tallyPairs_43 : decode cX3_tallyPairs 43 = .ok (.iload 8, 2) := by decide +kernel
theorem dX3_tallyPairs_45 : decode cX3_tallyPairs 45 = .ok (.iadd, 1) := by decide +kernel
theorem dX3_tallyPairs_46 : decode cX3_tallyPairs 46 = .ok (.iastore, 1) := by decide +kernel
theorem dX3_tallyPairs_47 : decode cX3_tallyPairs 47 = .ok (.aload_n 0, 1) := by decide +kernel
theorem dX3_tallyPairs_48 : decode cX3_tallyPairs 48 = .ok (.getfield 38, 3) := by decide +kernel
theorem dX3_tallyPairs_51 : decode cX3_tallyPairs 51 = .ok (.iload_n 1, 1) := by decide +kernel
theorem dX3_tallyPairs_52 : decode cX3_tallyPairs 52 = .ok (.iload 9, 2) := by decide +kernel
theorem dX3_tallyPairs_54 : decode cX3_tallyPairs 54 = .ok (.iadd, 1) := by decide +kernel
theorem dX3_tallyPairs_55 : decode cX3_tallyPairs 55 = .ok (.iconst 1, 1) := by decide +kernel
theorem dX3_tallyPairs_56 : decode cX3_tallyPairs 56 = .ok (.iadd, 1) := by decide +kernel
theorem dX3_tallyPairs_57 : decode cX3_tallyPairs 57 = .ok (.dup2, 1) := by decide +kernel
theorem dX3_tallyPairs_58 : decode cX3_tallyPairs 58 = .ok (.iaload, 1) := by decide +kernel
theorem dX3_tallyPairs_59 : decode cX3_tallyPairs 59 = .ok (.iload 7, 2) := by decide +kernel
theorem dX3_tallyPairs_61 : decode cX3_tallyPairs 61 = .ok (.iadd, 1) := by decide +kernel
theorem dX3_tallyPairs_62 : decode cX3_tallyPairs 62 = .ok (.iastore, 1) := by decide +kernel
theorem dX3_tallyPairs_63 : decode cX3_tallyPairs 63 = .ok (.aload_n 0, 1) := by decide +kernel
theorem dX3_tallyPairs_64 : decode cX3_tallyPairs 64 = .ok (.getfield 38, 3) := by decide +kernel
theorem dX3_tallyPairs_67 : decode cX3_tallyPairs 67 = .ok (.iload_n 1, 1) := by decide +kernel
theorem dX3_tallyPairs_68 : decode cX3_tallyPairs 68 = .ok (.iconst 3, 1) := by decide +kernel
theorem dX3_tallyPairs_69 : decode cX3_tallyPairs 69 = .ok (.iadd, 1) := by decide +kernel
theorem dX3_tallyPairs_70 : decode cX3_tallyPairs 70 = .ok (.dup2, 1) := by decide +kernel
theorem dX3_tallyPairs_71 : decode cX3_tallyPairs 71 = .ok (.iaload, 1) := by decide +kernel
theorem dX3_tallyPairs_72 : decode cX3_tallyPairs 72 = .ok (.iload 8, 2) := by decide +kernel
theorem dX3_tallyPairs_74 : decode cX3_tallyPairs 74 = .ok (.iload 7, 2) := by decide +kernel
theorem dX3_tallyPairs_76 : decode cX3_tallyPairs 76 = .ok (.iadd, 1) := by decide +kernel
theorem dX3_tallyPairs_77 : decode cX3_tallyPairs 77 = .ok (.iadd, 1) := by decide +kernel
theorem dX3_tallyPairs_78 : decode cX3_tallyPairs 78 = .ok (.iastore, 1) := by decide +kernel
theorem dX3_tallyPairs_79 : decode cX3_tallyPairs 79 = .ok (.return_, 1) := by decide +kernel
theorem dX3_matching_0 : decode cX3_matching 0 = .ok (.aload_n 0, 1) := by decide +kernel
theorem dX3_matching_1 : decode cX3_matching 1 = .ok (.getfield 22, 3) := by decide +kernel
theorem dX3_matching_4 : decode cX3_matching 4 = .ok (.iload_n 1, 1) := by decide +kernel
theorem dX3_matching_5 : decode cX3_matching 5 = .ok (.iaload, 1) := by decide +kernel
theorem dX3_matching_6 : decode cX3_matching 6 = .ok (.istore 4, 2) := by decide +kernel
theorem dX3_matching_8 : decode cX3_matching 8 = .ok (.iload_n 2, 1) := by decide +kernel
theorem dX3_matching_9 : decode cX3_matching 9 = .ok (.iconst 3, 1) := by decide +kernel
theorem dX3_matching_10 : decode cX3_matching 10 = .ok (.if_icmp .eq 9, 3) := by decide +kernel
theorem dX3_matching_13 : decode cX3_matching 13 = .ok (.iload 4, 2) := by decide +kernel
theorem dX3_matching_15 : decode cX3_matching 15 = .ok (.iconst (-1), 1) := by decide +kernel
theorem dX3_matching_16 : decode cX3_matching 16 = .ok (.if_icmp .ne 7, 3) := by decide +kernel
theorem dX3_matching_19 : decode cX3_matching 19 = .ok (.ldc2_w 107, 3) := by decide +kernel
theorem dX3_matching_22 : decode cX3_matching 22 = .ok (.lreturn, 1) := by decide +kernel
theorem dX3_matching_23 : decode cX3_matching 23 = .ok (.aload_n 0, 1) := by decide +kernel
theorem dX3_matching_24 : decode cX3_matching 24 = .ok (.getfield 56, 3) := by decide +kernel
theorem dX3_matching_27 : decode cX3_matching 27 = .ok (.getfield 93, 3) := by decide +kernel
theorem dX3_matching_30 : decode cX3_matching 30 = .ok (.iload 4, 2) := by decide +kernel
theorem dX3_matching_32 : decode cX3_matching 32 = .ok (.laload, 1) := by decide +kernel
theorem dX3_matching_33 : decode cX3_matching 33 = .ok (.iload_n 3, 1) := by decide +kernel
theorem dX3_matching_34 : decode cX3_matching 34 = .ok (.invokestatic 70, 3) := by decide +kernel
theorem dX3_matching_37 : decode cX3_matching 37 = .ok (.ifCond .ne 5, 3) := by decide +kernel
theorem dX3_matching_40 : decode cX3_matching 40 = .ok (.lconst 0, 1) := by decide +kernel
theorem dX3_matching_41 : decode cX3_matching 41 = .ok (.lreturn, 1) := by decide +kernel
theorem dX3_matching_42 : decode cX3_matching 42 = .ok (.aload_n 0, 1) := by decide +kernel
theorem dX3_matching_43 : decode cX3_matching 43 = .ok (.getfield 56, 3) := by decide +kernel
theorem dX3_matching_46 : decode cX3_matching 46 = .ok (.getfield 98, 3) := by decide +kernel
theorem dX3_matching_49 : decode cX3_matching 49 = .ok (.iload 4, 2) := by decide +kernel
theorem dX3_matching_51 : decode cX3_matching 51 = .ok (.laload, 1) := by decide +kernel
theorem dX3_matching_52 : decode cX3_matching 52 = .ok (.iload_n 3, 1) := by decide +kernel
theorem dX3_matching_53 : decode cX3_matching 53 = .ok (.invokestatic 70, 3) := by decide +kernel
theorem dX3_matching_56 : decode cX3_matching 56 = .ok (.ifCond .eq 9, 3) := by decide +kernel
theorem dX3_matching_59 : decode cX3_matching 59 = .ok (.iload_n 2, 1) := by decide +kernel
theorem dX3_matching_60 : decode cX3_matching 60 = .ok (.iconst 1, 1) := by decide +kernel
theorem dX3_matching_61 : decode cX3_matching 61 = .ok (.isub, 1) := by decide +kernel
theorem dX3_matching_62 : decode cX3_matching 62 = .ok (.goto 4, 3) := by decide +kernel
theorem dX3_matching_65 : decode cX3_matching 65 = .ok (.iload_n 2, 1) := by decide +kernel
theorem dX3_matching_66 : decode cX3_matching 66 = .ok (.istore 5, 2) := by decide +kernel
theorem dX3_matching_68 : decode cX3_matching 68 = .ok (.iload 5, 2) := by decide +kernel
theorem dX3_matching_70 : decode cX3_matching 70 = .ok (.iconst 1, 1) := by decide +kernel
theorem dX3_matching_71 : decode cX3_matching 71 = .ok (.if_icmp .ne 25, 3) := by decide +kernel
theorem dX3_matching_74 : decode cX3_matching 74 = .ok (.aload_n 0, 1) := by decide +kernel
theorem dX3_matching_75 : decode cX3_matching 75 = .ok (.getfield 56, 3) := by decide +kernel
theorem dX3_matching_78 : decode cX3_matching 78 = .ok (.getfield 93, 3) := by decide +kernel
theorem dX3_matching_81 : decode cX3_matching 81 = .ok (.iload 4, 2) := by decide +kernel
theorem dX3_matching_83 : decode cX3_matching 83 = .ok (.laload, 1) := by decide +kernel
theorem dX3_matching_84 : decode cX3_matching 84 = .ok (.aload_n 0, 1) := by decide +kernel
theorem dX3_matching_85 : decode cX3_matching 85 = .ok (.getfield 56, 3) := by decide +kernel
theorem dX3_matching_88 : decode cX3_matching 88 = .ok (.getfield 98, 3) := by decide +kernel
theorem dX3_matching_91 : decode cX3_matching 91 = .ok (.iload 4, 2) := by decide +kernel
theorem dX3_matching_93 : decode cX3_matching 93 = .ok (.laload, 1) := by decide +kernel
theorem dX3_matching_94 : decode cX3_matching 94 = .ok (.land, 1) := by decide +kernel
theorem dX3_matching_95 : decode cX3_matching 95 = .ok (.lreturn, 1) := by decide +kernel
theorem dX3_matching_96 : decode cX3_matching 96 = .ok (.iload 5, 2) := by decide +kernel
theorem dX3_matching_98 : decode cX3_matching 98 = .ok (.ifCond .ne 31, 3) := by decide +kernel
theorem dX3_matching_101 : decode cX3_matching 101 = .ok (.aload_n 0, 1) := by decide +kernel
theorem dX3_matching_102 : decode cX3_matching 102 = .ok (.getfield 56, 3) := by decide +kernel
theorem dX3_matching_105 : decode cX3_matching 105 = .ok (.getfield 93, 3) := by decide +kernel
theorem dX3_matching_108 : decode cX3_matching 108 = .ok (.iload 4, 2) := by decide +kernel
theorem dX3_matching_110 : decode cX3_matching 110 = .ok (.laload, 1) := by decide +kernel
theorem dX3_matching_111 : decode cX3_matching 111 = .ok (.aload_n 0, 1) := by decide +kernel
theorem dX3_matching_112 : decode cX3_matching 112 = .ok (.getfield 56, 3) := by decide +kernel
theorem dX3_matching_115 : decode cX3_matching 115 = .ok (.getfield 98, 3) := by decide +kernel
theorem dX3_matching_118 : decode cX3_matching 118 = .ok (.iload 4, 2) := by decide +kernel
theorem dX3_matching_120 : decode cX3_matching 120 = .ok (.laload, 1) := by decide +kernel
theorem dX3_matching_121 : decode cX3_matching 121 = .ok (.ldc2_w 107, 3) := by decide +kernel
theorem dX3_matching_124 : decode cX3_matching 124 = .ok (.lxor, 1) := by decide +kernel
theorem dX3_matching_125 : decode cX3_matching 125 = .ok (.land, 1) := by decide +kernel
theorem dX3_matching_126 : decode cX3_matching 126 = .ok (.goto 4, 3) := by decide +kernel
theorem dX3_matching_129 : decode cX3_matching 129 = .ok (.lconst 0, 1) := by decide +kernel
theorem dX3_matching_130 : decode cX3_matching 130 = .ok (.lreturn, 1) := by decide +kernel
theorem dX3_markWorth_0 : decode cX3_markWorth 0 = .ok (.aload_n 1, 1) := by decide +kernel
theorem dX3_markWorth_1 : decode cX3_markWorth 1 = .ok (.iload 4, 2) := by decide +kernel
theorem dX3_markWorth_3 : decode cX3_markWorth 3 = .ok (.iload_n 2, 1) := by decide +kernel
theorem dX3_markWorth_4 : decode cX3_markWorth 4 = .ok (.iload_n 3, 1) := by decide +kernel
theorem dX3_markWorth_5 : decode cX3_markWorth 5 = .ok (.invokevirtual 152, 3) := by decide +kernel
theorem dX3_markWorth_8 : decode cX3_markWorth 8 = .ok (.istore 5, 2) := by decide +kernel
theorem dX3_markWorth_10 : decode cX3_markWorth 10 = .ok (.iload 5, 2) := by decide +kernel
theorem dX3_markWorth_12 : decode cX3_markWorth 12 = .ok (.iconst 3, 1) := by decide +kernel
theorem dX3_markWorth_13 : decode cX3_markWorth 13 = .ok (.if_icmp .ne 5, 3) := by decide +kernel
theorem dX3_markWorth_16 : decode cX3_markWorth 16 = .ok (.iconst 0, 1) := by decide +kernel
theorem dX3_markWorth_17 : decode cX3_markWorth 17 = .ok (.ireturn, 1) := by decide +kernel
theorem dX3_markWorth_18 : decode cX3_markWorth 18 = .ok (.aload_n 0, 1) := by decide +kernel
theorem dX3_markWorth_19 : decode cX3_markWorth 19 = .ok (.getfield 22, 3) := by decide +kernel
theorem dX3_markWorth_22 : decode cX3_markWorth 22 = .ok (.iload 4, 2) := by decide +kernel
theorem dX3_markWorth_24 : decode cX3_markWorth 24 = .ok (.iaload, 1) := by decide +kernel
theorem dX3_markWorth_25 : decode cX3_markWorth 25 = .ok (.istore 6, 2) := by decide +kernel
theorem dX3_markWorth_27 : decode cX3_markWorth 27 = .ok (.iload 6, 2) := by decide +kernel
theorem dX3_markWorth_29 : decode cX3_markWorth 29 = .ok (.iconst (-1), 1) := by decide +kernel
theorem dX3_markWorth_30 : decode cX3_markWorth 30 = .ok (.if_icmp .ne 7, 3) := by decide +kernel
theorem dX3_markWorth_33 : decode cX3_markWorth 33 = .ok (.iconst 3, 1) := by decide +kernel
theorem dX3_markWorth_34 : decode cX3_markWorth 34 = .ok (.goto 11, 3) := by decide +kernel
theorem dX3_markWorth_37 : decode cX3_markWorth 37 = .ok (.aload_n 1, 1) := by decide +kernel
theorem dX3_markWorth_38 : decode cX3_markWorth 38 = .ok (.iload 6, 2) := by decide +kernel
theorem dX3_markWorth_40 : decode cX3_markWorth 40 = .ok (.iload_n 2, 1) := by decide +kernel
theorem dX3_markWorth_41 : decode cX3_markWorth 41 = .ok (.iload_n 3, 1) := by decide +kernel
theorem dX3_markWorth_42 : decode cX3_markWorth 42 = .ok (.invokevirtual 152, 3) := by decide +kernel
theorem dX3_markWorth_45 : decode cX3_markWorth 45 = .ok (.istore 7, 2) := by decide +kernel
theorem dX3_markWorth_47 : decode cX3_markWorth 47 = .ok (.aload_n 0, 1) := by decide +kernel
theorem dX3_markWorth_48 : decode cX3_markWorth 48 = .ok (.iload 4, 2) := by decide +kernel
theorem dX3_markWorth_50 : decode cX3_markWorth 50 = .ok (.iload 7, 2) := by decide +kernel
theorem dX3_markWorth_52 : decode cX3_markWorth 52 = .ok (.invokevirtual 135, 3) := by decide +kernel
theorem dX3_markWorth_55 : decode cX3_markWorth 55 = .ok (.aload_n 0, 1) := by decide +kernel
theorem dX3_markWorth_56 : decode cX3_markWorth 56 = .ok (.getfield 41, 3) := by decide +kernel
theorem dX3_markWorth_59 : decode cX3_markWorth 59 = .ok (.iload 4, 2) := by decide +kernel
theorem dX3_markWorth_61 : decode cX3_markWorth 61 = .ok (.bipush 16, 2) := by decide +kernel
theorem dX3_markWorth_63 : decode cX3_markWorth 63 = .ok (.imul, 1) := by decide +kernel
theorem dX3_markWorth_64 : decode cX3_markWorth 64 = .ok (.iload 7, 2) := by decide +kernel
theorem dX3_markWorth_66 : decode cX3_markWorth 66 = .ok (.iconst 4, 1) := by decide +kernel
theorem dX3_markWorth_67 : decode cX3_markWorth 67 = .ok (.imul, 1) := by decide +kernel
theorem dX3_markWorth_68 : decode cX3_markWorth 68 = .ok (.iadd, 1) := by decide +kernel
theorem dX3_markWorth_69 : decode cX3_markWorth 69 = .ok (.iload 5, 2) := by decide +kernel
theorem dX3_markWorth_71 : decode cX3_markWorth 71 = .ok (.iadd, 1) := by decide +kernel
theorem dX3_markWorth_72 : decode cX3_markWorth 72 = .ok (.iaload, 1) := by decide +kernel
theorem dX3_markWorth_73 : decode cX3_markWorth 73 = .ok (.ireturn, 1) := by decide +kernel
theorem dX3_pairWorth_0 : decode cX3_pairWorth 0 = .ok (.iconst 0, 1) := by decide +kernel
theorem dX3_pairWorth_1 : decode cX3_pairWorth 1 = .ok (.istore 4, 2) := by decide +kernel
theorem dX3_pairWorth_3 : decode cX3_pairWorth 3 = .ok (.iconst 0, 1) := by decide +kernel
theorem dX3_pairWorth_4 : decode cX3_pairWorth 4 = .ok (.istore 5, 2) := by decide +kernel
theorem dX3_pairWorth_6 : decode cX3_pairWorth 6 = .ok (.iload 5, 2) := by decide +kernel
theorem dX3_pairWorth_8 : decode cX3_pairWorth 8 = .ok (.aload_n 0, 1) := by decide +kernel
theorem dX3_pairWorth_9 : decode cX3_pairWorth 9 = .ok (.getfield 48, 3) := by decide +kernel
theorem dX3_pairWorth_12 : decode cX3_pairWorth 12 = .ok (.getfield 115, 3) := by decide +kernel
theorem dX3_pairWorth_15 : decode cX3_pairWorth 15 = .ok (.if_icmp .ge 23, 3) := by decide +kernel
theorem dX3_pairWorth_18 : decode cX3_pairWorth 18 = .ok (.iload 4, 2) := by decide +kernel
theorem dX3_pairWorth_20 : decode cX3_pairWorth 20 = .ok (.aload_n 0, 1) := by decide +kernel
theorem dX3_pairWorth_21 : decode cX3_pairWorth 21 = .ok (.aload_n 1, 1) := by decide +kernel
theorem dX3_pairWorth_22 : decode cX3_pairWorth 22 = .ok (.iload_n 2, 1) := by decide +kernel
theorem dX3_pairWorth_23 : decode cX3_pairWorth 23 = .ok (.iload_n 3, 1) := by decide +kernel
theorem dX3_pairWorth_24 : decode cX3_pairWorth 24 = .ok (.iload 5, 2) := by decide +kernel
theorem dX3_pairWorth_26 : decode cX3_pairWorth 26 = .ok (.invokevirtual 156, 3) := by decide +kernel
theorem dX3_pairWorth_29 : decode cX3_pairWorth 29 = .ok (.iadd, 1) := by decide +kernel
theorem dX3_pairWorth_30 : decode cX3_pairWorth 30 = .ok (.istore 4, 2) := by decide +kernel
theorem dX3_pairWorth_32 : decode cX3_pairWorth 32 = .ok (.iinc 5 1, 3) := by decide +kernel
theorem dX3_pairWorth_35 : decode cX3_pairWorth 35 = .ok (.goto (-29), 3) := by decide +kernel
theorem dX3_pairWorth_38 : decode cX3_pairWorth 38 = .ok (.iload 4, 2) := by decide +kernel
theorem dX3_pairWorth_40 : decode cX3_pairWorth 40 = .ok (.ireturn, 1) := by decide +kernel
theorem dX4_init_0 : decode cX4_init 0 = .ok (.aload_n 0, 1) := by decide +kernel
theorem dX4_init_1 : decode cX4_init 1 = .ok (.invokespecial 3, 3) := by decide +kernel
theorem dX4_init_4 : decode cX4_init 4 = .ok (.aload_n 0, 1) := by decide +kernel
theorem dX4_init_5 : decode cX4_init 5 = .ok (.iconst 0, 1) := by decide +kernel
theorem dX4_init_6 : decode cX4_init 6 = .ok (.putfield 9, 3) := by decide +kernel
theorem dX4_init_9 : decode cX4_init 9 = .ok (.aload_n 0, 1) := by decide +kernel
theorem dX4_init_10 : decode cX4_init 10 = .ok (.bipush 40, 2) := by decide +kernel
theorem dX4_init_12 : decode cX4_init 12 = .ok (.newarray .int, 2) := by decide +kernel
theorem dX4_init_14 : decode cX4_init 14 = .ok (.putfield 15, 3) := by decide +kernel
theorem dX4_init_17 : decode cX4_init 17 = .ok (.aload_n 0, 1) := by decide +kernel
theorem dX4_init_18 : decode cX4_init 18 = .ok (.bipush 40, 2) := by decide +kernel
theorem dX4_init_20 : decode cX4_init 20 = .ok (.newarray .int, 2) := by decide +kernel
theorem dX4_init_22 : decode cX4_init 22 = .ok (.putfield 19, 3) := by decide +kernel
theorem dX4_init_25 : decode cX4_init 25 = .ok (.aload_n 0, 1) := by decide +kernel
theorem dX4_init_26 : decode cX4_init 26 = .ok (.bipush 40, 2) := by decide +kernel
theorem dX4_init_28 : decode cX4_init 28 = .ok (.newarray .int, 2) := by decide +kernel
theorem dX4_init_30 : decode cX4_init 30 = .ok (.putfield 22, 3) := by decide +kernel
theorem dX4_init_33 : decode cX4_init 33 = .ok (.return_, 1) := by decide +kernel
theorem dX4_add_0 : decode cX4_add 0 = .ok (.aload_n 0, 1) := by decide +kernel
theorem dX4_add_1 : decode cX4_add 1 = .ok (.getfield 9, 3) := by decide +kernel
theorem dX4_add_4 : decode cX4_add 4 = .ok (.bipush 40, 2) := by decide +kernel
theorem dX4_add_6 : decode cX4_add 6 = .ok (.if_icmp .lt 5, 3) := by decide +kernel
theorem dX4_add_9 : decode cX4_add 9 = .ok (.iconst (-1), 1) := by decide +kernel
theorem dX4_add_10 : decode cX4_add 10 = .ok (.ireturn, 1) := by decide +kernel
theorem dX4_add_11 : decode cX4_add 11 = .ok (.aload_n 0, 1) := by decide +kernel
theorem dX4_add_12 : decode cX4_add 12 = .ok (.getfield 15, 3) := by decide +kernel
theorem dX4_add_15 : decode cX4_add 15 = .ok (.aload_n 0, 1) := by decide +kernel
theorem dX4_add_16 : decode cX4_add 16 = .ok (.getfield 9, 3) := by decide +kernel
theorem dX4_add_19 : decode cX4_add 19 = .ok (.iload_n 1, 1) := by decide +kernel
theorem dX4_add_20 : decode cX4_add 20 = .ok (.iastore, 1) := by decide +kernel
theorem dX4_add_21 : decode cX4_add 21 = .ok (.aload_n 0, 1) := by decide +kernel
theorem dX4_add_22 : decode cX4_add 22 = .ok (.getfield 19, 3) := by decide +kernel
theorem dX4_add_25 : decode cX4_add 25 = .ok (.aload_n 0, 1) := by decide +kernel
theorem dX4_add_26 : decode cX4_add 26 = .ok (.getfield 9, 3) := by decide +kernel
theorem dX4_add_29 : decode cX4_add 29 = .ok (.iload_n 2, 1) := by decide +kernel
theorem dX4_add_30 : decode cX4_add 30 = .ok (.iastore, 1) := by decide +kernel
theorem dX4_add_31 : decode cX4_add 31 = .ok (.aload_n 0, 1) := by decide +kernel
theorem dX4_add_32 : decode cX4_add 32 = .ok (.getfield 22, 3) := by decide +kernel
theorem dX4_add_35 : decode cX4_add 35 = .ok (.aload_n 0, 1) := by decide +kernel
theorem dX4_add_36 : decode cX4_add 36 = .ok (.getfield 9, 3) := by decide +kernel
theorem dX4_add_39 : decode cX4_add 39 = .ok (.iload_n 3, 1) := by decide +kernel
theorem dX4_add_40 : decode cX4_add 40 = .ok (.iastore, 1) := by decide +kernel
theorem dX4_add_41 : decode cX4_add 41 = .ok (.aload_n 0, 1) := by decide +kernel
theorem dX4_add_42 : decode cX4_add 42 = .ok (.dup, 1) := by decide +kernel
theorem dX4_add_43 : decode cX4_add 43 = .ok (.getfield 9, 3) := by decide +kernel
theorem dX4_add_46 : decode cX4_add 46 = .ok (.iconst 1, 1) := by decide +kernel
theorem dX4_add_47 : decode cX4_add 47 = .ok (.iadd, 1) := by decide +kernel
theorem dX4_add_48 : decode cX4_add 48 = .ok (.putfield 9, 3) := by decide +kernel
theorem dX4_add_51 : decode cX4_add 51 = .ok (.aload_n 0, 1) := by decide +kernel
theorem dX4_add_52 : decode cX4_add 52 = .ok (.getfield 9, 3) := by decide +kernel
theorem dX4_add_55 : decode cX4_add 55 = .ok (.ireturn, 1) := by decide +kernel
theorem dX4_with_0 : decode cX4_with 0 = .ok (.iconst 0, 1) := by decide +kernel
theorem dX4_with_1 : decode cX4_with 1 = .ok (.istore_n 2, 1) := by decide +kernel
theorem dX4_with_2 : decode cX4_with 2 = .ok (.iconst 0, 1) := by decide +kernel
theorem dX4_with_3 : decode cX4_with 3 = .ok (.istore_n 3, 1) := by decide +kernel
theorem dX4_with_4 : decode cX4_with 4 = .ok (.iload_n 3, 1) := by decide +kernel
theorem dX4_with_5 : decode cX4_with 5 = .ok (.aload_n 0, 1) := by decide +kernel
theorem dX4_with_6 : decode cX4_with 6 = .ok (.getfield 9, 3) := by decide +kernel
theorem dX4_with_9 : decode cX4_with 9 = .ok (.if_icmp .ge 32, 3) := by decide +kernel
theorem dX4_with_12 : decode cX4_with 12 = .ok (.aload_n 0, 1) := by decide +kernel
theorem dX4_with_13 : decode cX4_with 13 = .ok (.getfield 19, 3) := by decide +kernel
theorem dX4_with_16 : decode cX4_with 16 = .ok (.iload_n 3, 1) := by decide +kernel
theorem dX4_with_17 : decode cX4_with 17 = .ok (.iaload, 1) := by decide +kernel
theorem dX4_with_18 : decode cX4_with 18 = .ok (.iload_n 1, 1) := by decide +kernel
theorem dX4_with_19 : decode cX4_with 19 = .ok (.if_icmp .eq 13, 3) := by decide +kernel
theorem dX4_with_22 : decode cX4_with 22 = .ok (.aload_n 0, 1) := by decide +kernel
theorem dX4_with_23 : decode cX4_with 23 = .ok (.getfield 22, 3) := by decide +kernel
theorem dX4_with_26 : decode cX4_with 26 = .ok (.iload_n 3, 1) := by decide +kernel
theorem dX4_with_27 : decode cX4_with 27 = .ok (.iaload, 1) := by decide +kernel
theorem dX4_with_28 : decode cX4_with 28 = .ok (.iload_n 1, 1) := by decide +kernel
theorem dX4_with_29 : decode cX4_with 29 = .ok (.if_icmp .ne 6, 3) := by decide +kernel
theorem dX4_with_32 : decode cX4_with 32 = .ok (.iinc 2 1, 3) := by decide +kernel
theorem dX4_with_35 : decode cX4_with 35 = .ok (.iinc 3 1, 3) := by decide +kernel
theorem dX4_with_38 : decode cX4_with 38 = .ok (.goto (-34), 3) := by decide +kernel
theorem dX4_with_41 : decode cX4_with 41 = .ok (.iload_n 2, 1) := by decide +kernel
theorem dX4_with_42 : decode cX4_with 42 = .ok (.ireturn, 1) := by decide +kernel
theorem dX4_dropWith_0 : decode cX4_dropWith 0 = .ok (.iconst 0, 1) := by decide +kernel
theorem dX4_dropWith_1 : decode cX4_dropWith 1 = .ok (.istore_n 2, 1) := by decide +kernel
theorem dX4_dropWith_2 : decode cX4_dropWith 2 = .ok (.iconst 0, 1) := by decide +kernel
theorem dX4_dropWith_3 : decode cX4_dropWith 3 = .ok (.istore_n 3, 1) := by decide +kernel
theorem dX4_dropWith_4 : decode cX4_dropWith 4 = .ok (.iload_n 3, 1) := by decide +kernel
theorem dX4_dropWith_5 : decode cX4_dropWith 5 = .ok (.aload_n 0, 1) := by decide +kernel
theorem dX4_dropWith_6 : decode cX4_dropWith 6 = .ok (.getfield 9, 3) := by decide +kernel
theorem dX4_dropWith_9 : decode cX4_dropWith 9 = .ok (.if_icmp .ge 68, 3) := by decide +kernel
theorem dX4_dropWith_12 : decode cX4_dropWith 12 = .ok (.aload_n 0, 1) := by decide +kernel
theorem dX4_dropWith_13 : decode cX4_dropWith 13 = .ok (.getfield 19, 3) := by decide +kernel
theorem dX4_dropWith_16 : decode cX4_dropWith 16 = .ok (.iload_n 3, 1) := by decide +kernel
theorem dX4_dropWith_17 : decode cX4_dropWith 17 = .ok (.iaload, 1) := by decide +kernel
theorem dX4_dropWith_18 : decode cX4_dropWith 18 = .ok (.iload_n 1, 1) := by decide +kernel
theorem dX4_dropWith_19 : decode cX4_dropWith 19 = .ok (.if_icmp .eq 52, 3) := by decide +kernel
theorem dX4_dropWith_22 : decode cX4_dropWith 22 = .ok (.aload_n 0, 1) := by decide +kernel
theorem dX4_dropWith_23 : decode cX4_dropWith 23 = .ok (.getfield 22, 3) := by decide +kernel
theorem dX4_dropWith_26 : decode cX4_dropWith 26 = .ok (.iload_n 3, 1) := by decide +kernel
theorem dX4_dropWith_27 : decode cX4_dropWith 27 = .ok (.iaload, 1) := by decide +kernel
theorem dX4_dropWith_28 : decode cX4_dropWith 28 = .ok (.iload_n 1, 1) := by decide +kernel
theorem dX4_dropWith_29 : decode cX4_dropWith 29 = .ok (.if_icmp .eq 42, 3) := by decide +kernel
theorem dX4_dropWith_32 : decode cX4_dropWith 32 = .ok (.aload_n 0, 1) := by decide +kernel
theorem dX4_dropWith_33 : decode cX4_dropWith 33 = .ok (.getfield 15, 3) := by decide +kernel
theorem dX4_dropWith_36 : decode cX4_dropWith 36 = .ok (.iload_n 2, 1) := by decide +kernel
theorem dX4_dropWith_37 : decode cX4_dropWith 37 = .ok (.aload_n 0, 1) := by decide +kernel
theorem dX4_dropWith_38 : decode cX4_dropWith 38 = .ok (.getfield 15, 3) := by decide +kernel
theorem dX4_dropWith_41 : decode cX4_dropWith 41 = .ok (.iload_n 3, 1) := by decide +kernel
theorem dX4_dropWith_42 : decode cX4_dropWith 42 = .ok (.iaload, 1) := by decide +kernel
theorem dX4_dropWith_43 : decode cX4_dropWith 43 = .ok (.iastore, 1) := by decide +kernel
theorem dX4_dropWith_44 : decode cX4_dropWith 44 = .ok (.aload_n 0, 1) := by decide +kernel
theorem dX4_dropWith_45 : decode cX4_dropWith 45 = .ok (.getfield 19, 3) := by decide +kernel
theorem dX4_dropWith_48 : decode cX4_dropWith 48 = .ok (.iload_n 2, 1) := by decide +kernel
theorem dX4_dropWith_49 : decode cX4_dropWith 49 = .ok (.aload_n 0, 1) := by decide +kernel
theorem dX4_dropWith_50 : decode cX4_dropWith 50 = .ok (.getfield 19, 3) := by decide +kernel
theorem dX4_dropWith_53 : decode cX4_dropWith 53 = .ok (.iload_n 3, 1) := by decide +kernel
theorem dX4_dropWith_54 : decode cX4_dropWith 54 = .ok (.iaload, 1) := by decide +kernel
theorem dX4_dropWith_55 : decode cX4_dropWith 55 = .ok (.iastore, 1) := by decide +kernel
theorem dX4_dropWith_56 : decode cX4_dropWith 56 = .ok (.aload_n 0, 1) := by decide +kernel
theorem dX4_dropWith_57 : decode cX4_dropWith 57 = .ok (.getfield 22, 3) := by decide +kernel
theorem dX4_dropWith_60 : decode cX4_dropWith 60 = .ok (.iload_n 2, 1) := by decide +kernel
theorem dX4_dropWith_61 : decode cX4_dropWith 61 = .ok (.aload_n 0, 1) := by decide +kernel
theorem dX4_dropWith_62 : decode cX4_dropWith 62 = .ok (.getfield 22, 3) := by decide +kernel
theorem dX4_dropWith_65 : decode cX4_dropWith 65 = .ok (.iload_n 3, 1) := by decide +kernel
theorem dX4_dropWith_66 : decode cX4_dropWith 66 = .ok (.iaload, 1) := by decide +kernel
theorem dX4_dropWith_67 : decode cX4_dropWith 67 = .ok (.iastore, 1) := by decide +kernel
theorem dX4_dropWith_68 : decode cX4_dropWith 68 = .ok (.iinc 2 1, 3) := by decide +kernel
theorem dX4_dropWith_71 : decode cX4_dropWith 71 = .ok (.iinc 3 1, 3) := by decide +kernel
theorem dX4_dropWith_74 : decode cX4_dropWith 74 = .ok (.goto (-70), 3) := by decide +kernel
theorem dX4_dropWith_77 : decode cX4_dropWith 77 = .ok (.aload_n 0, 1) := by decide +kernel
theorem dX4_dropWith_78 : decode cX4_dropWith 78 = .ok (.iload_n 2, 1) := by decide +kernel
theorem dX4_dropWith_79 : decode cX4_dropWith 79 = .ok (.putfield 9, 3) := by decide +kernel
theorem dX4_dropWith_82 : decode cX4_dropWith 82 = .ok (.return_, 1) := by decide +kernel
theorem dX5_init_0 : decode cX5_init 0 = .ok (.aload_n 0, 1) := by decide +kernel
theorem dX5_init_1 : decode cX5_init 1 = .ok (.invokespecial 3, 3) := by decide +kernel
theorem dX5_init_4 : decode cX5_init 4 = .ok (.aload_n 0, 1) := by decide +kernel
theorem dX5_init_5 : decode cX5_init 5 = .ok (.bipush 9, 2) := by decide +kernel
theorem dX5_init_7 : decode cX5_init 7 = .ok (.newarray .int, 2) := by decide +kernel
theorem dX5_init_9 : decode cX5_init 9 = .ok (.putfield 9, 3) := by decide +kernel
theorem dX5_init_12 : decode cX5_init 12 = .ok (.aload_n 0, 1) := by decide +kernel
theorem dX5_init_13 : decode cX5_init 13 = .ok (.iconst 0, 1) := by decide +kernel
theorem dX5_init_14 : decode cX5_init 14 = .ok (.putfield 15, 3) := by decide +kernel
theorem dX5_init_17 : decode cX5_init 17 = .ok (.aload_n 0, 1) := by decide +kernel
theorem dX5_init_18 : decode cX5_init 18 = .ok (.bipush 9, 2) := by decide +kernel
theorem dX5_init_20 : decode cX5_init 20 = .ok (.newarray .int, 2) := by decide +kernel
theorem dX5_init_22 : decode cX5_init 22 = .ok (.putfield 19, 3) := by decide +kernel
theorem dX5_init_25 : decode cX5_init 25 = .ok (.aload_n 0, 1) := by decide +kernel
theorem dX5_init_26 : decode cX5_init 26 = .ok (.bipush 9, 2) := by decide +kernel
theorem dX5_init_28 : decode cX5_init 28 = .ok (.newarray .int, 2) := by decide +kernel
theorem dX5_init_30 : decode cX5_init 30 = .ok (.putfield 22, 3) := by decide +kernel
theorem dX5_init_33 : decode cX5_init 33 = .ok (.aload_n 0, 1) := by decide +kernel
theorem dX5_init_34 : decode cX5_init 34 = .ok (.sipush 512, 3) := by decide +kernel
theorem dX5_init_37 : decode cX5_init 37 = .ok (.newarray .int, 2) := by decide +kernel
theorem dX5_init_39 : decode cX5_init 39 = .ok (.putfield 25, 3) := by decide +kernel
theorem dX5_init_42 : decode cX5_init 42 = .ok (.aload_n 0, 1) := by decide +kernel
theorem dX5_init_43 : decode cX5_init 43 = .ok (.bipush 9, 2) := by decide +kernel
theorem dX5_init_45 : decode cX5_init 45 = .ok (.newarray .int, 2) := by decide +kernel
theorem dX5_init_47 : decode cX5_init 47 = .ok (.putfield 28, 3) := by decide +kernel
theorem dX5_init_50 : decode cX5_init 50 = .ok (.aload_n 0, 1) := by decide +kernel
theorem dX5_init_51 : decode cX5_init 51 = .ok (.bipush 9, 2) := by decide +kernel
theorem dX5_init_53 : decode cX5_init 53 = .ok (.newarray .int, 2) := by decide +kernel
theorem dX5_init_55 : decode cX5_init 55 = .ok (.putfield 31, 3) := by decide +kernel
theorem dX5_init_58 : decode cX5_init 58 = .ok (.aload_n 0, 1) := by decide +kernel
theorem dX5_init_59 : decode cX5_init 59 = .ok (.bipush 9, 2) := by decide +kernel
theorem dX5_init_61 : decode cX5_init 61 = .ok (.newarray .int, 2) := by decide +kernel
theorem dX5_init_63 : decode cX5_init 63 = .ok (.putfield 34, 3) := by decide +kernel
theorem dX5_init_66 : decode cX5_init 66 = .ok (.aload_n 0, 1) := by decide +kernel
theorem dX5_init_67 : decode cX5_init 67 = .ok (.iconst 0, 1) := by decide +kernel
theorem dX5_init_68 : decode cX5_init 68 = .ok (.putfield 37, 3) := by decide +kernel
theorem dX5_init_71 : decode cX5_init 71 = .ok (.aload_n 0, 1) := by decide +kernel
theorem dX5_init_72 : decode cX5_init 72 = .ok (.iconst 0, 1) := by decide +kernel
theorem dX5_init_73 : decode cX5_init 73 = .ok (.putfield 41, 3) := by decide +kernel
theorem dX5_init_76 : decode cX5_init 76 = .ok (.aload_n 0, 1) := by decide +kernel
theorem dX5_init_77 : decode cX5_init 77 = .ok (.iconst 0, 1) := by decide +kernel
theorem dX5_init_78 : decode cX5_init 78 = .ok (.putfield 44, 3) := by decide +kernel
theorem dX5_init_81 : decode cX5_init 81 = .ok (.aload_n 0, 1) := by decide +kernel
theorem dX5_init_82 : decode cX5_init 82 = .ok (.iconst 0, 1) := by decide +kernel
theorem dX5_init_83 : decode cX5_init 83 = .ok (.putfield 47, 3) := by decide +kernel
theorem dX5_init_86 : decode cX5_init 86 = .ok (.aload_n 0, 1) := by decide +kernel
theorem dX5_init_87 : decode cX5_init 87 = .ok (.lconst 0, 1) := by decide +kernel
theorem dX5_init_88 : decode cX5_init 88 = .ok (.putfield 50, 3) := by decide +kernel
theorem dX5_init_91 : decode cX5_init 91 = .ok (.aload_n 0, 1) := by decide +kernel
theorem dX5_init_92 : decode cX5_init 92 = .ok (.lconst 0, 1) := by decide +kernel
theorem dX5_init_93 : decode cX5_init 93 = .ok (.putfield 54, 3) := by decide +kernel
theorem dX5_init_96 : decode cX5_init 96 = .ok (.return_, 1) := by decide +kernel
theorem dX5_load_0 : decode cX5_load 0 = .ok (.aload_n 0, 1) := by decide +kernel
theorem dX5_load_1 : decode cX5_load 1 = .ok (.iconst 0, 1) := by decide +kernel
theorem dX5_load_2 : decode cX5_load 2 = .ok (.putfield 15, 3) := by decide +kernel
theorem dX5_load_5 : decode cX5_load 5 = .ok (.iconst 0, 1) := by decide +kernel
theorem dX5_load_6 : decode cX5_load 6 = .ok (.istore 6, 2) := by decide +kernel
theorem dX5_load_8 : decode cX5_load 8 = .ok (.iload 6, 2) := by decide +kernel
theorem dX5_load_10 : decode cX5_load 10 = .ok (.bipush 60, 2) := by decide +kernel
theorem dX5_load_12 : decode cX5_load 12 = .ok (.if_icmp .ge 48, 3) := by decide +kernel
theorem dX5_load_15 : decode cX5_load 15 = .ok (.aload_n 0, 1) := by decide +kernel
theorem dX5_load_16 : decode cX5_load 16 = .ok (.getfield 15, 3) := by decide +kernel
theorem dX5_load_19 : decode cX5_load 19 = .ok (.bipush 9, 2) := by decide +kernel
theorem dX5_load_21 : decode cX5_load 21 = .ok (.if_icmp .ge 39, 3) := by decide +kernel
theorem dX5_load_24 : decode cX5_load 24 = .ok (.lload_n 1, 1) := by decide +kernel
