theorem dX12_right_52 : decode cX12_right 52 = .ok (.invokevirtual 264, 3) := by decide +kernel
theorem dX12_right_55 : decode cX12_right 55 = .ok (.ifCond .eq 50, 3) := by decide +kernel
theorem dX12_right_58 : decode cX12_right 58 = .ok (.aload_n 0, 1) := by decide +kernel
theorem dX12_right_59 : decode cX12_right 59 = .ok (.aload_n 0, 1) := by decide +kernel
theorem dX12_right_60 : decode cX12_right 60 = .ok (.getfield 68, 3) := by decide +kernel
theorem dX12_right_63 : decode cX12_right 63 = .ok (.iload 4, 2) := by decide +kernel
theorem dX12_right_65 : decode cX12_right 65 = .ok (.iaload, 1) := by decide +kernel
theorem dX12_right_66 : decode cX12_right 66 = .ok (.invokevirtual 264, 3) := by decide +kernel
theorem dX12_right_69 : decode cX12_right 69 = .ok (.ifCond .ne 6, 3) := by decide +kernel
theorem dX12_right_72 : decode cX12_right 72 = .ok (.goto 33, 3) := by decide +kernel
theorem dX12_right_75 : decode cX12_right 75 = .ok (.iload_n 3, 1) := by decide +kernel
theorem dX12_right_76 : decode cX12_right 76 = .ok (.aload_n 0, 1) := by decide +kernel
theorem dX12_right_77 : decode cX12_right 77 = .ok (.aload_n 0, 1) := by decide +kernel
theorem dX12_right_78 : decode cX12_right 78 = .ok (.getfield 65, 3) := by decide +kernel
theorem dX12_right_81 : decode cX12_right 81 = .ok (.iload 4, 2) := by decide +kernel
theorem dX12_right_83 : decode cX12_right 83 = .ok (.iaload, 1) := by decide +kernel
theorem dX12_right_84 : decode cX12_right 84 = .ok (.aload_n 0, 1) := by decide +kernel
theorem dX12_right_85 : decode cX12_right 85 = .ok (.getfield 68, 3) := by decide +kernel
theorem dX12_right_88 : decode cX12_right 88 = .ok (.iload 4, 2) := by decide +kernel
theorem dX12_right_90 : decode cX12_right 90 = .ok (.iaload, 1) := by decide +kernel
theorem dX12_right_91 : decode cX12_right 91 = .ok (.invokevirtual 271, 3) := by decide +kernel
theorem dX12_right_94 : decode cX12_right 94 = .ok (.iload_n 2, 1) := by decide +kernel
theorem dX12_right_95 : decode cX12_right 95 = .ok (.if_icmp .ne 7, 3) := by decide +kernel
theorem dX12_right_98 : decode cX12_right 98 = .ok (.iconst 1, 1) := by decide +kernel
theorem dX12_right_99 : decode cX12_right 99 = .ok (.goto 4, 3) := by decide +kernel
theorem dX12_right_102 : decode cX12_right 102 = .ok (.iconst 0, 1) := by decide +kernel
theorem dX12_right_103 : decode cX12_right 103 = .ok (.iadd, 1) := by decide +kernel
theorem dX12_right_104 : decode cX12_right 104 = .ok (.istore_n 3, 1) := by decide +kernel
theorem dX12_right_105 : decode cX12_right 105 = .ok (.iinc 4 1, 3) := by decide +kernel
theorem dX12_right_108 : decode cX12_right 108 = .ok (.goto (-84), 3) := by decide +kernel
theorem dX12_right_111 : decode cX12_right 111 = .ok (.iload_n 3, 1) := by decide +kernel
theorem dX12_right_112 : decode cX12_right 112 = .ok (.ireturn, 1) := by decide +kernel
theorem dX12_forgets_0 : decode cX12_forgets 0 = .ok (.aload_n 0, 1) := by decide +kernel
theorem dX12_forgets_1 : decode cX12_forgets 1 = .ok (.getfield 50, 3) := by decide +kernel
theorem dX12_forgets_4 : decode cX12_forgets 4 = .ok (.iload_n 1, 1) := by decide +kernel
theorem dX12_forgets_5 : decode cX12_forgets 5 = .ok (.iconst 1, 1) := by decide +kernel
theorem dX12_forgets_6 : decode cX12_forgets 6 = .ok (.bastore, 1) := by decide +kernel
theorem dX12_forgets_7 : decode cX12_forgets 7 = .ok (.iconst 0, 1) := by decide +kernel
theorem dX12_forgets_8 : decode cX12_forgets 8 = .ok (.istore_n 2, 1) := by decide +kernel
theorem dX12_forgets_9 : decode cX12_forgets 9 = .ok (.iconst 0, 1) := by decide +kernel
theorem dX12_forgets_10 : decode cX12_forgets 10 = .ok (.istore_n 3, 1) := by decide +kernel
theorem dX12_forgets_11 : decode cX12_forgets 11 = .ok (.iload_n 3, 1) := by decide +kernel
theorem dX12_forgets_12 : decode cX12_forgets 12 = .ok (.aload_n 0, 1) := by decide +kernel
theorem dX12_forgets_13 : decode cX12_forgets 13 = .ok (.getfield 243, 3) := by decide +kernel
theorem dX12_forgets_16 : decode cX12_forgets 16 = .ok (.if_icmp .ge 71, 3) := by decide +kernel
theorem dX12_forgets_19 : decode cX12_forgets 19 = .ok (.aload_n 0, 1) := by decide +kernel
theorem dX12_forgets_20 : decode cX12_forgets 20 = .ok (.getfield 65, 3) := by decide +kernel
theorem dX12_forgets_23 : decode cX12_forgets 23 = .ok (.iload_n 3, 1) := by decide +kernel
theorem dX12_forgets_24 : decode cX12_forgets 24 = .ok (.iaload, 1) := by decide +kernel
theorem dX12_forgets_25 : decode cX12_forgets 25 = .ok (.iload_n 1, 1) := by decide +kernel
theorem dX12_forgets_26 : decode cX12_forgets 26 = .ok (.if_icmp .eq 55, 3) := by decide +kernel
theorem dX12_forgets_29 : decode cX12_forgets 29 = .ok (.aload_n 0, 1) := by decide +kernel
theorem dX12_forgets_30 : decode cX12_forgets 30 = .ok (.getfield 68, 3) := by decide +kernel
theorem dX12_forgets_33 : decode cX12_forgets 33 = .ok (.iload_n 3, 1) := by decide +kernel
theorem dX12_forgets_34 : decode cX12_forgets 34 = .ok (.iaload, 1) := by decide +kernel
theorem dX12_forgets_35 : decode cX12_forgets 35 = .ok (.iload_n 1, 1) := by decide +kernel
theorem dX12_forgets_36 : decode cX12_forgets 36 = .ok (.if_icmp .ne 6, 3) := by decide +kernel
theorem dX12_forgets_39 : decode cX12_forgets 39 = .ok (.goto 42, 3) := by decide +kernel
theorem dX12_forgets_42 : decode cX12_forgets 42 = .ok (.aload_n 0, 1) := by decide +kernel
theorem dX12_forgets_43 : decode cX12_forgets 43 = .ok (.getfield 62, 3) := by decide +kernel
theorem dX12_forgets_46 : decode cX12_forgets 46 = .ok (.iload_n 2, 1) := by decide +kernel
theorem dX12_forgets_47 : decode cX12_forgets 47 = .ok (.aload_n 0, 1) := by decide +kernel
theorem dX12_forgets_48 : decode cX12_forgets 48 = .ok (.getfield 62, 3) := by decide +kernel
theorem dX12_forgets_51 : decode cX12_forgets 51 = .ok (.iload_n 3, 1) := by decide +kernel
theorem dX12_forgets_52 : decode cX12_forgets 52 = .ok (.iaload, 1) := by decide +kernel
theorem dX12_forgets_53 : decode cX12_forgets 53 = .ok (.iastore, 1) := by decide +kernel
theorem dX12_forgets_54 : decode cX12_forgets 54 = .ok (.aload_n 0, 1) := by decide +kernel
theorem dX12_forgets_55 : decode cX12_forgets 55 = .ok (.getfield 65, 3) := by decide +kernel
theorem dX12_forgets_58 : decode cX12_forgets 58 = .ok (.iload_n 2, 1) := by decide +kernel
theorem dX12_forgets_59 : decode cX12_forgets 59 = .ok (.aload_n 0, 1) := by decide +kernel
theorem dX12_forgets_60 : decode cX12_forgets 60 = .ok (.getfield 65, 3) := by decide +kernel
theorem dX12_forgets_63 : decode cX12_forgets 63 = .ok (.iload_n 3, 1) := by decide +kernel
theorem dX12_forgets_64 : decode cX12_forgets 64 = .ok (.iaload, 1) := by decide +kernel
theorem dX12_forgets_65 : decode cX12_forgets 65 = .ok (.iastore, 1) := by decide +kernel
theorem dX12_forgets_66 : decode cX12_forgets 66 = .ok (.aload_n 0, 1) := by decide +kernel
theorem dX12_forgets_67 : decode cX12_forgets 67 = .ok (.getfield 68, 3) := by decide +kernel
theorem dX12_forgets_70 : decode cX12_forgets 70 = .ok (.iload_n 2, 1) := by decide +kernel
theorem dX12_forgets_71 : decode cX12_forgets 71 = .ok (.aload_n 0, 1) := by decide +kernel
theorem dX12_forgets_72 : decode cX12_forgets 72 = .ok (.getfield 68, 3) := by decide +kernel
theorem dX12_forgets_75 : decode cX12_forgets 75 = .ok (.iload_n 3, 1) := by decide +kernel
theorem dX12_forgets_76 : decode cX12_forgets 76 = .ok (.iaload, 1) := by decide +kernel
theorem dX12_forgets_77 : decode cX12_forgets 77 = .ok (.iastore, 1) := by decide +kernel
theorem dX12_forgets_78 : decode cX12_forgets 78 = .ok (.iinc 2 1, 3) := by decide +kernel
theorem dX12_forgets_81 : decode cX12_forgets 81 = .ok (.iinc 3 1, 3) := by decide +kernel
theorem dX12_forgets_84 : decode cX12_forgets 84 = .ok (.goto (-73), 3) := by decide +kernel
theorem dX12_forgets_87 : decode cX12_forgets 87 = .ok (.aload_n 0, 1) := by decide +kernel
theorem dX12_forgets_88 : decode cX12_forgets 88 = .ok (.iload_n 2, 1) := by decide +kernel
theorem dX12_forgets_89 : decode cX12_forgets 89 = .ok (.putfield 243, 3) := by decide +kernel
theorem dX12_forgets_92 : decode cX12_forgets 92 = .ok (.return_, 1) := by decide +kernel
theorem dX12_forget_0 : decode cX12_forget 0 = .ok (.aload_n 0, 1) := by decide +kernel
theorem dX12_forget_1 : decode cX12_forget 1 = .ok (.aload_n 0, 1) := by decide +kernel
theorem dX12_forget_2 : decode cX12_forget 2 = .ok (.iload_n 1, 1) := by decide +kernel
theorem dX12_forget_3 : decode cX12_forget 3 = .ok (.invokevirtual 206, 3) := by decide +kernel
theorem dX12_forget_6 : decode cX12_forget 6 = .ok (.ifCond .eq 7, 3) := by decide +kernel
theorem dX12_forget_9 : decode cX12_forget 9 = .ok (.iconst 0, 1) := by decide +kernel
theorem dX12_forget_10 : decode cX12_forget 10 = .ok (.goto 4, 3) := by decide +kernel
theorem dX12_forget_13 : decode cX12_forget 13 = .ok (.iconst 1, 1) := by decide +kernel
theorem dX12_forget_14 : decode cX12_forget 14 = .ok (.putfield 185, 3) := by decide +kernel
theorem dX12_forget_17 : decode cX12_forget 17 = .ok (.aload_n 0, 1) := by decide +kernel
theorem dX12_forget_18 : decode cX12_forget 18 = .ok (.getfield 185, 3) := by decide +kernel
theorem dX12_forget_21 : decode cX12_forget 21 = .ok (.ifCond .ne 8, 3) := by decide +kernel
theorem dX12_forget_24 : decode cX12_forget 24 = .ok (.aload_n 0, 1) := by decide +kernel
theorem dX12_forget_25 : decode cX12_forget 25 = .ok (.iload_n 1, 1) := by decide +kernel
theorem dX12_forget_26 : decode cX12_forget 26 = .ok (.invokevirtual 287, 3) := by decide +kernel
theorem dX12_forget_29 : decode cX12_forget 29 = .ok (.return_, 1) := by decide +kernel
theorem dX12_window_0 : decode cX12_window 0 = .ok (.aload_n 0, 1) := by decide +kernel
theorem dX12_window_1 : decode cX12_window 1 = .ok (.iload_n 1, 1) := by decide +kernel
theorem dX12_window_2 : decode cX12_window 2 = .ok (.invokestatic 237, 3) := by decide +kernel
theorem dX12_window_5 : decode cX12_window 5 = .ok (.ifCond .eq 19, 3) := by decide +kernel
theorem dX12_window_8 : decode cX12_window 8 = .ok (.iload_n 2, 1) := by decide +kernel
theorem dX12_window_9 : decode cX12_window 9 = .ok (.invokestatic 237, 3) := by decide +kernel
theorem dX12_window_12 : decode cX12_window 12 = .ok (.ifCond .eq 12, 3) := by decide +kernel
theorem dX12_window_15 : decode cX12_window 15 = .ok (.iload_n 1, 1) := by decide +kernel
theorem dX12_window_16 : decode cX12_window 16 = .ok (.iload_n 2, 1) := by decide +kernel
theorem dX12_window_17 : decode cX12_window 17 = .ok (.if_icmp .gt 7, 3) := by decide +kernel
theorem dX12_window_20 : decode cX12_window 20 = .ok (.iconst 0, 1) := by decide +kernel
theorem dX12_window_21 : decode cX12_window 21 = .ok (.goto 4, 3) := by decide +kernel
theorem dX12_window_24 : decode cX12_window 24 = .ok (.iconst 1, 1) := by decide +kernel
theorem dX12_window_25 : decode cX12_window 25 = .ok (.putfield 185, 3) := by decide +kernel
theorem dX12_window_28 : decode cX12_window 28 = .ok (.aload_n 0, 1) := by decide +kernel
theorem dX12_window_29 : decode cX12_window 29 = .ok (.getfield 185, 3) := by decide +kernel
theorem dX12_window_32 : decode cX12_window 32 = .ok (.ifCond .le 4, 3) := by decide +kernel
theorem dX12_window_35 : decode cX12_window 35 = .ok (.return_, 1) := by decide +kernel
theorem dX12_window_36 : decode cX12_window 36 = .ok (.aload_n 0, 1) := by decide +kernel
theorem dX12_window_37 : decode cX12_window 37 = .ok (.iload_n 1, 1) := by decide +kernel
theorem dX12_window_38 : decode cX12_window 38 = .ok (.putfield 213, 3) := by decide +kernel
theorem dX12_window_41 : decode cX12_window 41 = .ok (.aload_n 0, 1) := by decide +kernel
theorem dX12_window_42 : decode cX12_window 42 = .ok (.iload_n 2, 1) := by decide +kernel
theorem dX12_window_43 : decode cX12_window 43 = .ok (.putfield 72, 3) := by decide +kernel
theorem dX12_window_46 : decode cX12_window 46 = .ok (.return_, 1) := by decide +kernel
theorem dX12_go_0 : decode cX12_go 0 = .ok (.aload_n 0, 1) := by decide +kernel
theorem dX12_go_1 : decode cX12_go 1 = .ok (.iconst 0, 1) := by decide +kernel
theorem dX12_go_2 : decode cX12_go 2 = .ok (.putfield 185, 3) := by decide +kernel
theorem dX12_go_5 : decode cX12_go 5 = .ok (.iload_n 1, 1) := by decide +kernel
theorem dX12_go_6 : decode cX12_go 6 = .ok (.i2l, 1) := by decide +kernel
theorem dX12_go_7 : decode cX12_go 7 = .ok (.lconst 1, 1) := by decide +kernel
theorem dX12_go_8 : decode cX12_go 8 = .ok (.ldc2_w 291, 3) := by decide +kernel
theorem dX12_go_11 : decode cX12_go 11 = .ok (.invokestatic 190, 3) := by decide +kernel
theorem dX12_go_14 : decode cX12_go 14 = .ok (.ifCond .ne 9, 3) := by decide +kernel
theorem dX12_go_17 : decode cX12_go 17 = .ok (.aload_n 0, 1) := by decide +kernel
theorem dX12_go_18 : decode cX12_go 18 = .ok (.iconst 1, 1) := by decide +kernel
theorem dX12_go_19 : decode cX12_go 19 = .ok (.invokevirtual 226, 3) := by decide +kernel
theorem dX12_go_22 : decode cX12_go 22 = .ok (.ireturn, 1) := by decide +kernel
theorem dX12_go_23 : decode cX12_go 23 = .ok (.aload_n 0, 1) := by decide +kernel
theorem dX12_go_24 : decode cX12_go 24 = .ok (.getfield 240, 3) := by decide +kernel
theorem dX12_go_27 : decode cX12_go 27 = .ok (.iload_n 1, 1) := by decide +kernel
theorem dX12_go_28 : decode cX12_go 28 = .ok (.iadd, 1) := by decide +kernel
theorem dX12_go_29 : decode cX12_go 29 = .ok (.ldc 71, 2) := by decide +kernel
theorem dX12_go_31 : decode cX12_go 31 = .ok (.if_icmp .le 9, 3) := by decide +kernel
theorem dX12_go_34 : decode cX12_go 34 = .ok (.aload_n 0, 1) := by decide +kernel
theorem dX12_go_35 : decode cX12_go 35 = .ok (.iconst 2, 1) := by decide +kernel
theorem dX12_go_36 : decode cX12_go 36 = .ok (.invokevirtual 226, 3) := by decide +kernel
theorem dX12_go_39 : decode cX12_go 39 = .ok (.ireturn, 1) := by decide +kernel
theorem dX12_go_40 : decode cX12_go 40 = .ok (.aload_n 0, 1) := by decide +kernel
theorem dX12_go_41 : decode cX12_go 41 = .ok (.dup, 1) := by decide +kernel
theorem dX12_go_42 : decode cX12_go 42 = .ok (.getfield 240, 3) := by decide +kernel
theorem dX12_go_45 : decode cX12_go 45 = .ok (.iload_n 1, 1) := by decide +kernel
theorem dX12_go_46 : decode cX12_go 46 = .ok (.iadd, 1) := by decide +kernel
theorem dX12_go_47 : decode cX12_go 47 = .ok (.putfield 240, 3) := by decide +kernel
theorem dX12_go_50 : decode cX12_go 50 = .ok (.iconst 0, 1) := by decide +kernel
theorem dX12_go_51 : decode cX12_go 51 = .ok (.istore_n 2, 1) := by decide +kernel
theorem dX12_go_52 : decode cX12_go 52 = .ok (.iconst 0, 1) := by decide +kernel
theorem dX12_go_53 : decode cX12_go 53 = .ok (.istore_n 3, 1) := by decide +kernel
theorem dX12_go_54 : decode cX12_go 54 = .ok (.iload_n 3, 1) := by decide +kernel
theorem dX12_go_55 : decode cX12_go 55 = .ok (.aload_n 0, 1) := by decide +kernel
theorem dX12_go_56 : decode cX12_go 56 = .ok (.getfield 203, 3) := by decide +kernel
theorem dX12_go_59 : decode cX12_go 59 = .ok (.if_icmp .ge 61, 3) := by decide +kernel
theorem dX12_go_62 : decode cX12_go 62 = .ok (.aload_n 0, 1) := by decide +kernel
theorem dX12_go_63 : decode cX12_go 63 = .ok (.getfield 50, 3) := by decide +kernel
theorem dX12_go_66 : decode cX12_go 66 = .ok (.iload_n 3, 1) := by decide +kernel
theorem dX12_go_67 : decode cX12_go 67 = .ok (.baload, 1) := by decide +kernel
theorem dX12_go_68 : decode cX12_go 68 = .ok (.ifCond .eq 6, 3) := by decide +kernel
theorem dX12_go_71 : decode cX12_go 71 = .ok (.goto 43, 3) := by decide +kernel
theorem dX12_go_74 : decode cX12_go 74 = .ok (.aload_n 0, 1) := by decide +kernel
theorem dX12_go_75 : decode cX12_go 75 = .ok (.iload_n 3, 1) := by decide +kernel
theorem dX12_go_76 : decode cX12_go 76 = .ok (.invokevirtual 293, 3) := by decide +kernel
theorem dX12_go_79 : decode cX12_go 79 = .ok (.istore 4, 2) := by decide +kernel
theorem dX12_go_81 : decode cX12_go 81 = .ok (.iload 4, 2) := by decide +kernel
theorem dX12_go_83 : decode cX12_go 83 = .ok (.iconst (-1), 1) := by decide +kernel
theorem dX12_go_84 : decode cX12_go 84 = .ok (.if_icmp .eq 30, 3) := by decide +kernel
theorem dX12_go_87 : decode cX12_go 87 = .ok (.iload 4, 2) := by decide +kernel
theorem dX12_go_89 : decode cX12_go 89 = .ok (.aload_n 0, 1) := by decide +kernel
theorem dX12_go_90 : decode cX12_go 90 = .ok (.getfield 240, 3) := by decide +kernel
theorem dX12_go_93 : decode cX12_go 93 = .ok (.aload_n 0, 1) := by decide +kernel
theorem dX12_go_94 : decode cX12_go 94 = .ok (.getfield 37, 3) := by decide +kernel
theorem dX12_go_97 : decode cX12_go 97 = .ok (.iload_n 3, 1) := by decide +kernel
theorem dX12_go_98 : decode cX12_go 98 = .ok (.iaload, 1) := by decide +kernel
theorem dX12_go_99 : decode cX12_go 99 = .ok (.isub, 1) := by decide +kernel
theorem dX12_go_100 : decode cX12_go 100 = .ok (.if_icmp .le 6, 3) := by decide +kernel
theorem dX12_go_103 : decode cX12_go 103 = .ok (.goto 11, 3) := by decide +kernel
theorem dX12_go_106 : decode cX12_go 106 = .ok (.aload_n 0, 1) := by decide +kernel
theorem dX12_go_107 : decode cX12_go 107 = .ok (.iload_n 3, 1) := by decide +kernel
theorem dX12_go_108 : decode cX12_go 108 = .ok (.invokevirtual 287, 3) := by decide +kernel
theorem dX12_go_111 : decode cX12_go 111 = .ok (.iinc 2 1, 3) := by decide +kernel
theorem dX12_go_114 : decode cX12_go 114 = .ok (.iinc 3 1, 3) := by decide +kernel
theorem dX12_go_117 : decode cX12_go 117 = .ok (.goto (-63), 3) := by decide +kernel
theorem dX12_go_120 : decode cX12_go 120 = .ok (.iload_n 2, 1) := by decide +kernel
theorem dX12_go_121 : decode cX12_go 121 = .ok (.ireturn, 1) := by decide +kernel
theorem dX12_isLooked_0 : decode cX12_isLooked 0 = .ok (.iload_n 0, 1) := by decide +kernel
theorem dX12_isLooked_1 : decode cX12_isLooked 1 = .ok (.iconst 1, 1) := by decide +kernel
theorem dX12_isLooked_2 : decode cX12_isLooked 2 = .ok (.if_icmp .eq 8, 3) := by decide +kernel
theorem dX12_isLooked_5 : decode cX12_isLooked 5 = .ok (.iload_n 0, 1) := by decide +kernel
theorem dX12_isLooked_6 : decode cX12_isLooked 6 = .ok (.iconst 2, 1) := by decide +kernel
theorem dX12_isLooked_7 : decode cX12_isLooked 7 = .ok (.if_icmp .ne 7, 3) := by decide +kernel
theorem dX12_isLooked_10 : decode cX12_isLooked 10 = .ok (.iconst 1, 1) := by decide +kernel
theorem dX12_isLooked_11 : decode cX12_isLooked 11 = .ok (.goto 4, 3) := by decide +kernel
theorem dX12_isLooked_14 : decode cX12_isLooked 14 = .ok (.iconst 0, 1) := by decide +kernel
theorem dX12_isLooked_15 : decode cX12_isLooked 15 = .ok (.ireturn, 1) := by decide +kernel
theorem dX12_outcome_0 : decode cX12_outcome 0 = .ok (.iload_n 0, 1) := by decide +kernel
theorem dX12_outcome_1 : decode cX12_outcome 1 = .ok (.invokestatic 296, 3) := by decide +kernel
theorem dX12_outcome_4 : decode cX12_outcome 4 = .ok (.ifCond .eq 10, 3) := by decide +kernel
theorem dX12_outcome_7 : decode cX12_outcome 7 = .ok (.iload_n 1, 1) := by decide +kernel
theorem dX12_outcome_8 : decode cX12_outcome 8 = .ok (.invokestatic 296, 3) := by decide +kernel
theorem dX12_outcome_11 : decode cX12_outcome 11 = .ok (.ifCond .ne 7, 3) := by decide +kernel
theorem dX12_outcome_14 : decode cX12_outcome 14 = .ok (.iconst 3, 1) := by decide +kernel
theorem dX12_outcome_15 : decode cX12_outcome 15 = .ok (.goto 8, 3) := by decide +kernel
theorem dX12_outcome_18 : decode cX12_outcome 18 = .ok (.iload_n 0, 1) := by decide +kernel
theorem dX12_outcome_19 : decode cX12_outcome 19 = .ok (.iload_n 1, 1) := by decide +kernel
theorem dX12_outcome_20 : decode cX12_outcome 20 = .ok (.iadd, 1) := by decide +kernel
theorem dX12_outcome_21 : decode cX12_outcome 21 = .ok (.iconst 2, 1) := by decide +kernel
theorem dX12_outcome_22 : decode cX12_outcome 22 = .ok (.isub, 1) := by decide +kernel
theorem dX12_outcome_23 : decode cX12_outcome 23 = .ok (.ireturn, 1) := by decide +kernel
theorem dX12_layStates_0 : decode cX12_layStates 0 = .ok (.iconst 0, 1) := by decide +kernel
theorem dX12_layStates_1 : decode cX12_layStates 1 = .ok (.istore_n 2, 1) := by decide +kernel
theorem dX12_layStates_2 : decode cX12_layStates 2 = .ok (.iload_n 2, 1) := by decide +kernel
theorem dX12_layStates_3 : decode cX12_layStates 3 = .ok (.sipush 960, 3) := by decide +kernel
theorem dX12_layStates_6 : decode cX12_layStates 6 = .ok (.if_icmp .ge 34, 3) := by decide +kernel
theorem dX12_layStates_9 : decode cX12_layStates 9 = .ok (.aload_n 0, 1) := by decide +kernel
theorem dX12_layStates_10 : decode cX12_layStates 10 = .ok (.getfield 76, 3) := by decide +kernel
theorem dX12_layStates_13 : decode cX12_layStates 13 = .ok (.iload_n 2, 1) := by decide +kernel
theorem dX12_layStates_14 : decode cX12_layStates 14 = .ok (.iload_n 1, 1) := by decide +kernel
theorem dX12_layStates_15 : decode cX12_layStates 15 = .ok (.ifCond .eq 12, 3) := by decide +kernel
theorem dX12_layStates_18 : decode cX12_layStates 18 = .ok (.aload_n 0, 1) := by decide +kernel
theorem dX12_layStates_19 : decode cX12_layStates 19 = .ok (.getfield 56, 3) := by decide +kernel
theorem dX12_layStates_22 : decode cX12_layStates 22 = .ok (.iload_n 2, 1) := by decide +kernel
theorem dX12_layStates_23 : decode cX12_layStates 23 = .ok (.iaload, 1) := by decide +kernel
theorem dX12_layStates_24 : decode cX12_layStates 24 = .ok (.goto 9, 3) := by decide +kernel
theorem dX12_layStates_27 : decode cX12_layStates 27 = .ok (.aload_n 0, 1) := by decide +kernel
theorem dX12_layStates_28 : decode cX12_layStates 28 = .ok (.getfield 59, 3) := by decide +kernel
theorem dX12_layStates_31 : decode cX12_layStates 31 = .ok (.iload_n 2, 1) := by decide +kernel
theorem dX12_layStates_32 : decode cX12_layStates 32 = .ok (.iaload, 1) := by decide +kernel
theorem dX12_layStates_33 : decode cX12_layStates 33 = .ok (.iastore, 1) := by decide +kernel
theorem dX12_layStates_34 : decode cX12_layStates 34 = .ok (.iinc 2 1, 3) := by decide +kernel
theorem dX12_layStates_37 : decode cX12_layStates 37 = .ok (.goto (-35), 3) := by decide +kernel
theorem dX12_layStates_40 : decode cX12_layStates 40 = .ok (.aload_n 0, 1) := by decide +kernel
theorem dX12_layStates_41 : decode cX12_layStates 41 = .ok (.getfield 91, 3) := by decide +kernel
theorem dX12_layStates_44 : decode cX12_layStates 44 = .ok (.iconst (-1), 1) := by decide +kernel
theorem dX12_layStates_45 : decode cX12_layStates 45 = .ok (.if_icmp .eq 24, 3) := by decide +kernel
theorem dX12_layStates_48 : decode cX12_layStates 48 = .ok (.aload_n 0, 1) := by decide +kernel
theorem dX12_layStates_49 : decode cX12_layStates 49 = .ok (.getfield 76, 3) := by decide +kernel
theorem dX12_layStates_52 : decode cX12_layStates 52 = .ok (.bipush 16, 2) := by decide +kernel
theorem dX12_layStates_54 : decode cX12_layStates 54 = .ok (.aload_n 0, 1) := by decide +kernel
theorem dX12_layStates_55 : decode cX12_layStates 55 = .ok (.getfield 91, 3) := by decide +kernel
theorem dX12_layStates_58 : decode cX12_layStates 58 = .ok (.imul, 1) := by decide +kernel
theorem dX12_layStates_59 : decode cX12_layStates 59 = .ok (.aload_n 0, 1) := by decide +kernel
theorem dX12_layStates_60 : decode cX12_layStates 60 = .ok (.getfield 299, 3) := by decide +kernel
theorem dX12_layStates_63 : decode cX12_layStates 63 = .ok (.iadd, 1) := by decide +kernel
theorem dX12_layStates_64 : decode cX12_layStates 64 = .ok (.aload_n 0, 1) := by decide +kernel
theorem dX12_layStates_65 : decode cX12_layStates 65 = .ok (.getfield 302, 3) := by decide +kernel
theorem dX12_layStates_68 : decode cX12_layStates 68 = .ok (.iastore, 1) := by decide +kernel
theorem dX12_layStates_69 : decode cX12_layStates 69 = .ok (.iconst 0, 1) := by decide +kernel
theorem dX12_layStates_70 : decode cX12_layStates 70 = .ok (.istore_n 2, 1) := by decide +kernel
theorem dX12_layStates_71 : decode cX12_layStates 71 = .ok (.iload_n 2, 1) := by decide +kernel
theorem dX12_layStates_72 : decode cX12_layStates 72 = .ok (.aload_n 0, 1) := by decide +kernel
theorem dX12_layStates_73 : decode cX12_layStates 73 = .ok (.getfield 203, 3) := by decide +kernel
theorem dX12_layStates_76 : decode cX12_layStates 76 = .ok (.if_icmp .ge 99, 3) := by decide +kernel
theorem dX12_layStates_79 : decode cX12_layStates 79 = .ok (.iconst 0, 1) := by decide +kernel
theorem dX12_layStates_80 : decode cX12_layStates 80 = .ok (.istore_n 3, 1) := by decide +kernel
theorem dX12_layStates_81 : decode cX12_layStates 81 = .ok (.iload_n 3, 1) := by decide +kernel
theorem dX12_layStates_82 : decode cX12_layStates 82 = .ok (.iload_n 2, 1) := by decide +kernel
theorem dX12_layStates_83 : decode cX12_layStates 83 = .ok (.if_icmp .ge 86, 3) := by decide +kernel
theorem dX12_layStates_86 : decode cX12_layStates 86 = .ok (.aload_n 0, 1) := by decide +kernel
theorem dX12_layStates_87 : decode cX12_layStates 87 = .ok (.getfield 50, 3) := by decide +kernel
theorem dX12_layStates_90 : decode cX12_layStates 90 = .ok (.iload_n 2, 1) := by decide +kernel
theorem dX12_layStates_91 : decode cX12_layStates 91 = .ok (.baload, 1) := by decide +kernel
theorem dX12_layStates_92 : decode cX12_layStates 92 = .ok (.ifCond .ne 12, 3) := by decide +kernel
theorem dX12_layStates_95 : decode cX12_layStates 95 = .ok (.aload_n 0, 1) := by decide +kernel
theorem dX12_layStates_96 : decode cX12_layStates 96 = .ok (.getfield 50, 3) := by decide +kernel
theorem dX12_layStates_99 : decode cX12_layStates 99 = .ok (.iload_n 3, 1) := by decide +kernel
theorem dX12_layStates_100 : decode cX12_layStates 100 = .ok (.baload, 1) := by decide +kernel
theorem dX12_layStates_101 : decode cX12_layStates 101 = .ok (.ifCond .eq 7, 3) := by decide +kernel
theorem dX12_layStates_104 : decode cX12_layStates 104 = .ok (.iconst 0, 1) := by decide +kernel
theorem dX12_layStates_105 : decode cX12_layStates 105 = .ok (.goto 30, 3) := by decide +kernel
theorem dX12_layStates_108 : decode cX12_layStates 108 = .ok (.aload_n 0, 1) := by decide +kernel
theorem dX12_layStates_109 : decode cX12_layStates 109 = .ok (.iload_n 2, 1) := by decide +kernel
theorem dX12_layStates_110 : decode cX12_layStates 110 = .ok (.iload_n 3, 1) := by decide +kernel
theorem dX12_layStates_111 : decode cX12_layStates 111 = .ok (.invokevirtual 271, 3) := by decide +kernel
theorem dX12_layStates_114 : decode cX12_layStates 114 = .ok (.ifCond .eq 7, 3) := by decide +kernel
theorem dX12_layStates_117 : decode cX12_layStates 117 = .ok (.iconst 1, 1) := by decide +kernel
theorem dX12_layStates_118 : decode cX12_layStates 118 = .ok (.goto 17, 3) := by decide +kernel
theorem dX12_layStates_121 : decode cX12_layStates 121 = .ok (.aload_n 0, 1) := by decide +kernel
theorem dX12_layStates_122 : decode cX12_layStates 122 = .ok (.iload_n 2, 1) := by decide +kernel
theorem dX12_layStates_123 : decode cX12_layStates 123 = .ok (.iload_n 3, 1) := by decide +kernel
theorem dX12_layStates_124 : decode cX12_layStates 124 = .ok (.invokevirtual 281, 3) := by decide +kernel
theorem dX12_layStates_127 : decode cX12_layStates 127 = .ok (.ifCond .eq 7, 3) := by decide +kernel
theorem dX12_layStates_130 : decode cX12_layStates 130 = .ok (.iconst 2, 1) := by decide +kernel
theorem dX12_layStates_131 : decode cX12_layStates 131 = .ok (.goto 4, 3) := by decide +kernel
theorem dX12_layStates_134 : decode cX12_layStates 134 = .ok (.iconst 0, 1) := by decide +kernel
theorem dX12_layStates_135 : decode cX12_layStates 135 = .ok (.istore 4, 2) := by decide +kernel
theorem dX12_layStates_137 : decode cX12_layStates 137 = .ok (.aload_n 0, 1) := by decide +kernel
theorem dX12_layStates_138 : decode cX12_layStates 138 = .ok (.getfield 79, 3) := by decide +kernel
theorem dX12_layStates_141 : decode cX12_layStates 141 = .ok (.bipush 60, 2) := by decide +kernel
theorem dX12_layStates_143 : decode cX12_layStates 143 = .ok (.iload_n 2, 1) := by decide +kernel
theorem dX12_layStates_144 : decode cX12_layStates 144 = .ok (.imul, 1) := by decide +kernel
theorem dX12_layStates_145 : decode cX12_layStates 145 = .ok (.iload_n 3, 1) := by decide +kernel
theorem dX12_layStates_146 : decode cX12_layStates 146 = .ok (.iadd, 1) := by decide +kernel
theorem dX12_layStates_147 : decode cX12_layStates 147 = .ok (.iload 4, 2) := by decide +kernel
theorem dX12_layStates_149 : decode cX12_layStates 149 = .ok (.iastore, 1) := by decide +kernel
theorem dX12_layStates_150 : decode cX12_layStates 150 = .ok (.aload_n 0, 1) := by decide +kernel
theorem dX12_layStates_151 : decode cX12_layStates 151 = .ok (.getfield 79, 3) := by decide +kernel
theorem dX12_layStates_154 : decode cX12_layStates 154 = .ok (.bipush 60, 2) := by decide +kernel
theorem dX12_layStates_156 : decode cX12_layStates 156 = .ok (.iload_n 3, 1) := by decide +kernel
theorem dX12_layStates_157 : decode cX12_layStates 157 = .ok (.imul, 1) := by decide +kernel
theorem dX12_layStates_158 : decode cX12_layStates 158 = .ok (.iload_n 2, 1) := by decide +kernel
theorem dX12_layStates_159 : decode cX12_layStates 159 = .ok (.iadd, 1) := by decide +kernel
theorem dX12_layStates_160 : decode cX12_layStates 160 = .ok (.iload 4, 2) := by decide +kernel
theorem dX12_layStates_162 : decode cX12_layStates 162 = .ok (.iastore, 1) := by decide +kernel
theorem dX12_layStates_163 : decode cX12_layStates 163 = .ok (.iinc 3 1, 3) := by decide +kernel
theorem dX12_layStates_166 : decode cX12_layStates 166 = .ok (.goto (-85), 3) := by decide +kernel
theorem dX12_layStates_169 : decode cX12_layStates 169 = .ok (.iinc 2 1, 3) := by decide +kernel
theorem dX12_layStates_172 : decode cX12_layStates 172 = .ok (.goto (-101), 3) := by decide +kernel
theorem dX12_layStates_175 : decode cX12_layStates 175 = .ok (.return_, 1) := by decide +kernel
theorem dX12_weighs_0 : decode cX12_weighs 0 = .ok (.iconst 0, 1) := by decide +kernel
theorem dX12_weighs_1 : decode cX12_weighs 1 = .ok (.istore_n 3, 1) := by decide +kernel
theorem dX12_weighs_2 : decode cX12_weighs 2 = .ok (.iconst 0, 1) := by decide +kernel
theorem dX12_weighs_3 : decode cX12_weighs 3 = .ok (.istore 4, 2) := by decide +kernel
theorem dX12_weighs_5 : decode cX12_weighs 5 = .ok (.iconst 0, 1) := by decide +kernel
theorem dX12_weighs_6 : decode cX12_weighs 6 = .ok (.istore 5, 2) := by decide +kernel
theorem dX12_weighs_8 : decode cX12_weighs 8 = .ok (.iconst 0, 1) := by decide +kernel
theorem dX12_weighs_9 : decode cX12_weighs 9 = .ok (.istore 6, 2) := by decide +kernel
theorem dX12_weighs_11 : decode cX12_weighs 11 = .ok (.iconst 0, 1) := by decide +kernel
theorem dX12_weighs_12 : decode cX12_weighs 12 = .ok (.istore 7, 2) := by decide +kernel
theorem dX12_weighs_14 : decode cX12_weighs 14 = .ok (.iload 7, 2) := by decide +kernel
theorem dX12_weighs_16 : decode cX12_weighs 16 = .ok (.aload_n 0, 1) := by decide +kernel
theorem dX12_weighs_17 : decode cX12_weighs 17 = .ok (.getfield 203, 3) := by decide +kernel
theorem dX12_weighs_20 : decode cX12_weighs 20 = .ok (.if_icmp .ge 151, 3) := by decide +kernel
theorem dX12_weighs_23 : decode cX12_weighs 23 = .ok (.aload_n 0, 1) := by decide +kernel
theorem dX12_weighs_24 : decode cX12_weighs 24 = .ok (.getfield 76, 3) := by decide +kernel
theorem dX12_weighs_27 : decode cX12_weighs 27 = .ok (.bipush 16, 2) := by decide +kernel
theorem dX12_weighs_29 : decode cX12_weighs 29 = .ok (.iload 7, 2) := by decide +kernel
theorem dX12_weighs_31 : decode cX12_weighs 31 = .ok (.imul, 1) := by decide +kernel
theorem dX12_weighs_32 : decode cX12_weighs 32 = .ok (.iload_n 1, 1) := by decide +kernel
theorem dX12_weighs_33 : decode cX12_weighs 33 = .ok (.iadd, 1) := by decide +kernel
theorem dX12_weighs_34 : decode cX12_weighs 34 = .ok (.iaload, 1) := by decide +kernel
theorem dX12_weighs_35 : decode cX12_weighs 35 = .ok (.istore 8, 2) := by decide +kernel
theorem dX12_weighs_37 : decode cX12_weighs 37 = .ok (.aload_n 0, 1) := by decide +kernel
theorem dX12_weighs_38 : decode cX12_weighs 38 = .ok (.getfield 76, 3) := by decide +kernel
theorem dX12_weighs_41 : decode cX12_weighs 41 = .ok (.bipush 16, 2) := by decide +kernel
theorem dX12_weighs_43 : decode cX12_weighs 43 = .ok (.iload 7, 2) := by decide +kernel
theorem dX12_weighs_45 : decode cX12_weighs 45 = .ok (.imul, 1) := by decide +kernel
theorem dX12_weighs_46 : decode cX12_weighs 46 = .ok (.iload_n 2, 1) := by decide +kernel
theorem dX12_weighs_47 : decode cX12_weighs 47 = .ok (.iadd, 1) := by decide +kernel
theorem dX12_weighs_48 : decode cX12_weighs 48 = .ok (.iaload, 1) := by decide +kernel
theorem dX12_weighs_49 : decode cX12_weighs 49 = .ok (.istore 9, 2) := by decide +kernel
theorem dX12_weighs_51 : decode cX12_weighs 51 = .ok (.aload_n 0, 1) := by decide +kernel
theorem dX12_weighs_52 : decode cX12_weighs 52 = .ok (.iload 7, 2) := by decide +kernel
theorem dX12_weighs_54 : decode cX12_weighs 54 = .ok (.invokevirtual 305, 3) := by decide +kernel
theorem dX12_weighs_57 : decode cX12_weighs 57 = .ok (.ifCond .eq 108, 3) := by decide +kernel
theorem dX12_weighs_60 : decode cX12_weighs 60 = .ok (.iload 8, 2) := by decide +kernel
theorem dX12_weighs_62 : decode cX12_weighs 62 = .ok (.invokestatic 296, 3) := by decide +kernel
theorem dX12_weighs_65 : decode cX12_weighs 65 = .ok (.ifCond .eq 100, 3) := by decide +kernel
theorem dX12_weighs_68 : decode cX12_weighs 68 = .ok (.iload 9, 2) := by decide +kernel
theorem dX12_weighs_70 : decode cX12_weighs 70 = .ok (.invokestatic 296, 3) := by decide +kernel
theorem dX12_weighs_73 : decode cX12_weighs 73 = .ok (.ifCond .ne 6, 3) := by decide +kernel
theorem dX12_weighs_76 : decode cX12_weighs 76 = .ok (.goto 89, 3) := by decide +kernel
theorem dX12_weighs_79 : decode cX12_weighs 79 = .ok (.iload_n 3, 1) := by decide +kernel
theorem dX12_weighs_80 : decode cX12_weighs 80 = .ok (.iload 8, 2) := by decide +kernel
theorem dX12_weighs_82 : decode cX12_weighs 82 = .ok (.iconst 2, 1) := by decide +kernel
theorem dX12_weighs_83 : decode cX12_weighs 83 = .ok (.if_icmp .ne 13, 3) := by decide +kernel
theorem dX12_weighs_86 : decode cX12_weighs 86 = .ok (.iload 9, 2) := by decide +kernel
theorem dX12_weighs_88 : decode cX12_weighs 88 = .ok (.iconst 2, 1) := by decide +kernel
theorem dX12_weighs_89 : decode cX12_weighs 89 = .ok (.if_icmp .ne 7, 3) := by decide +kernel
theorem dX12_weighs_92 : decode cX12_weighs 92 = .ok (.iconst 1, 1) := by decide +kernel
theorem dX12_weighs_93 : decode cX12_weighs 93 = .ok (.goto 4, 3) := by decide +kernel
theorem dX12_weighs_96 : decode cX12_weighs 96 = .ok (.iconst 0, 1) := by decide +kernel
theorem dX12_weighs_97 : decode cX12_weighs 97 = .ok (.iadd, 1) := by decide +kernel
theorem dX12_weighs_98 : decode cX12_weighs 98 = .ok (.istore_n 3, 1) := by decide +kernel
theorem dX12_weighs_99 : decode cX12_weighs 99 = .ok (.iload 4, 2) := by decide +kernel
theorem dX12_weighs_101 : decode cX12_weighs 101 = .ok (.iload 8, 2) := by decide +kernel
theorem dX12_weighs_103 : decode cX12_weighs 103 = .ok (.iconst 2, 1) := by decide +kernel
theorem dX12_weighs_104 : decode cX12_weighs 104 = .ok (.if_icmp .ne 13, 3) := by decide +kernel
theorem dX12_weighs_107 : decode cX12_weighs 107 = .ok (.iload 9, 2) := by decide +kernel
theorem dX12_weighs_109 : decode cX12_weighs 109 = .ok (.iconst 1, 1) := by decide +kernel
theorem dX12_weighs_110 : decode cX12_weighs 110 = .ok (.if_icmp .ne 7, 3) := by decide +kernel
theorem dX12_weighs_113 : decode cX12_weighs 113 = .ok (.iconst 1, 1) := by decide +kernel
theorem dX12_weighs_114 : decode cX12_weighs 114 = .ok (.goto 4, 3) := by decide +kernel
theorem dX12_weighs_117 : decode cX12_weighs 117 = .ok (.iconst 0, 1) := by decide +kernel
theorem dX12_weighs_118 : decode cX12_weighs 118 = .ok (.iadd, 1) := by decide +kernel
theorem dX12_weighs_119 : decode cX12_weighs 119 = .ok (.istore 4, 2) := by decide +kernel
theorem dX12_weighs_121 : decode cX12_weighs 121 = .ok (.iload 5, 2) := by decide +kernel
theorem dX12_weighs_123 : decode cX12_weighs 123 = .ok (.iload 8, 2) := by decide +kernel
theorem dX12_weighs_125 : decode cX12_weighs 125 = .ok (.iconst 1, 1) := by decide +kernel
theorem dX12_weighs_126 : decode cX12_weighs 126 = .ok (.if_icmp .ne 13, 3) := by decide +kernel
theorem dX12_weighs_129 : decode cX12_weighs 129 = .ok (.iload 9, 2) := by decide +kernel
theorem dX12_weighs_131 : decode cX12_weighs 131 = .ok (.iconst 2, 1) := by decide +kernel
theorem dX12_weighs_132 : decode cX12_weighs 132 = .ok (.if_icmp .ne 7, 3) := by decide +kernel
theorem dX12_weighs_135 : decode cX12_weighs 135 = .ok (.iconst 1, 1) := by decide +kernel
theorem dX12_weighs_136 : decode cX12_weighs 136 = .ok (.goto 4, 3) := by decide +kernel
theorem dX12_weighs_139 : decode cX12_weighs 139 = .ok (.iconst 0, 1) := by decide +kernel
theorem dX12_weighs_140 : decode cX12_weighs 140 = .ok (.iadd, 1) := by decide +kernel
theorem dX12_weighs_141 : decode cX12_weighs 141 = .ok (.istore 5, 2) := by decide +kernel
theorem dX12_weighs_143 : decode cX12_weighs 143 = .ok (.iload 6, 2) := by decide +kernel
theorem dX12_weighs_145 : decode cX12_weighs 145 = .ok (.iload 8, 2) := by decide +kernel
theorem dX12_weighs_147 : decode cX12_weighs 147 = .ok (.iconst 1, 1) := by decide +kernel
theorem dX12_weighs_148 : decode cX12_weighs 148 = .ok (.if_icmp .ne 13, 3) := by decide +kernel
theorem dX12_weighs_151 : decode cX12_weighs 151 = .ok (.iload 9, 2) := by decide +kernel
theorem dX12_weighs_153 : decode cX12_weighs 153 = .ok (.iconst 1, 1) := by decide +kernel
theorem dX12_weighs_154 : decode cX12_weighs 154 = .ok (.if_icmp .ne 7, 3) := by decide +kernel
theorem dX12_weighs_157 : decode cX12_weighs 157 = .ok (.iconst 1, 1) := by decide +kernel
theorem dX12_weighs_158 : decode cX12_weighs 158 = .ok (.goto 4, 3) := by decide +kernel
theorem dX12_weighs_161 : decode cX12_weighs 161 = .ok (.iconst 0, 1) := by decide +kernel
theorem dX12_weighs_162 : decode cX12_weighs 162 = .ok (.iadd, 1) := by decide +kernel
theorem dX12_weighs_163 : decode cX12_weighs 163 = .ok (.istore 6, 2) := by decide +kernel
theorem dX12_weighs_165 : decode cX12_weighs 165 = .ok (.iinc 7 1, 3) := by decide +kernel
theorem dX12_weighs_168 : decode cX12_weighs 168 = .ok (.goto (-154), 3) := by decide +kernel
theorem dX12_weighs_171 : decode cX12_weighs 171 = .ok (.iload_n 3, 1) := by decide +kernel
theorem dX12_weighs_172 : decode cX12_weighs 172 = .ok (.iload 6, 2) := by decide +kernel
theorem dX12_weighs_174 : decode cX12_weighs 174 = .ok (.imul, 1) := by decide +kernel
theorem dX12_weighs_175 : decode cX12_weighs 175 = .ok (.iload 4, 2) := by decide +kernel
theorem dX12_weighs_177 : decode cX12_weighs 177 = .ok (.iload 5, 2) := by decide +kernel
theorem dX12_weighs_179 : decode cX12_weighs 179 = .ok (.imul, 1) := by decide +kernel
theorem dX12_weighs_180 : decode cX12_weighs 180 = .ok (.isub, 1) := by decide +kernel
theorem dX12_weighs_181 : decode cX12_weighs 181 = .ok (.invokestatic 216, 3) := by decide +kernel
theorem dX12_weighs_184 : decode cX12_weighs 184 = .ok (.ireturn, 1) := by decide +kernel
theorem dX12_layTree_0 : decode cX12_layTree 0 = .ok (.iconst 0, 1) := by decide +kernel
theorem dX12_layTree_1 : decode cX12_layTree 1 = .ok (.istore_n 1, 1) := by decide +kernel
theorem dX12_layTree_2 : decode cX12_layTree 2 = .ok (.iload_n 1, 1) := by decide +kernel
theorem dX12_layTree_3 : decode cX12_layTree 3 = .ok (.aload_n 0, 1) := by decide +kernel
theorem dX12_layTree_4 : decode cX12_layTree 4 = .ok (.getfield 197, 3) := by decide +kernel
theorem dX12_layTree_7 : decode cX12_layTree 7 = .ok (.if_icmp .ge 65, 3) := by decide +kernel
theorem dX12_layTree_10 : decode cX12_layTree 10 = .ok (.aload_n 0, 1) := by decide +kernel
theorem dX12_layTree_11 : decode cX12_layTree 11 = .ok (.getfield 82, 3) := by decide +kernel
theorem dX12_layTree_14 : decode cX12_layTree 14 = .ok (.iload_n 1, 1) := by decide +kernel
theorem dX12_layTree_15 : decode cX12_layTree 15 = .ok (.iconst (-1), 1) := by decide +kernel
theorem dX12_layTree_16 : decode cX12_layTree 16 = .ok (.iastore, 1) := by decide +kernel
theorem dX12_layTree_17 : decode cX12_layTree 17 = .ok (.aload_n 0, 1) := by decide +kernel
theorem dX12_layTree_18 : decode cX12_layTree 18 = .ok (.getfield 97, 3) := by decide +kernel
theorem dX12_layTree_21 : decode cX12_layTree 21 = .ok (.iload_n 1, 1) := by decide +kernel
theorem dX12_layTree_22 : decode cX12_layTree 22 = .ok (.iload_n 1, 1) := by decide +kernel
theorem dX12_layTree_23 : decode cX12_layTree 23 = .ok (.iastore, 1) := by decide +kernel
theorem dX12_layTree_24 : decode cX12_layTree 24 = .ok (.aload_n 0, 1) := by decide +kernel
theorem dX12_layTree_25 : decode cX12_layTree 25 = .ok (.getfield 100, 3) := by decide +kernel
theorem dX12_layTree_28 : decode cX12_layTree 28 = .ok (.iload_n 1, 1) := by decide +kernel
theorem dX12_layTree_29 : decode cX12_layTree 29 = .ok (.iconst 0, 1) := by decide +kernel
theorem dX12_layTree_30 : decode cX12_layTree 30 = .ok (.iastore, 1) := by decide +kernel
theorem dX12_layTree_31 : decode cX12_layTree 31 = .ok (.iload_n 1, 1) := by decide +kernel
theorem dX12_layTree_32 : decode cX12_layTree 32 = .ok (.iconst 1, 1) := by decide +kernel
theorem dX12_layTree_33 : decode cX12_layTree 33 = .ok (.iadd, 1) := by decide +kernel
theorem dX12_layTree_34 : decode cX12_layTree 34 = .ok (.istore_n 2, 1) := by decide +kernel
theorem dX12_layTree_35 : decode cX12_layTree 35 = .ok (.iload_n 2, 1) := by decide +kernel
theorem dX12_layTree_36 : decode cX12_layTree 36 = .ok (.aload_n 0, 1) := by decide +kernel
theorem dX12_layTree_37 : decode cX12_layTree 37 = .ok (.getfield 197, 3) := by decide +kernel
theorem dX12_layTree_40 : decode cX12_layTree 40 = .ok (.if_icmp .ge 26, 3) := by decide +kernel
theorem dX12_layTree_43 : decode cX12_layTree 43 = .ok (.aload_n 0, 1) := by decide +kernel
theorem dX12_layTree_44 : decode cX12_layTree 44 = .ok (.getfield 94, 3) := by decide +kernel
theorem dX12_layTree_47 : decode cX12_layTree 47 = .ok (.bipush 16, 2) := by decide +kernel
theorem dX12_layTree_49 : decode cX12_layTree 49 = .ok (.iload_n 1, 1) := by decide +kernel
theorem dX12_layTree_50 : decode cX12_layTree 50 = .ok (.imul, 1) := by decide +kernel
theorem dX12_layTree_51 : decode cX12_layTree 51 = .ok (.iload_n 2, 1) := by decide +kernel
theorem dX12_layTree_52 : decode cX12_layTree 52 = .ok (.iadd, 1) := by decide +kernel
theorem dX12_layTree_53 : decode cX12_layTree 53 = .ok (.aload_n 0, 1) := by decide +kernel
theorem dX12_layTree_54 : decode cX12_layTree 54 = .ok (.iload_n 1, 1) := by decide +kernel
theorem dX12_layTree_55 : decode cX12_layTree 55 = .ok (.iload_n 2, 1) := by decide +kernel
theorem dX12_layTree_56 : decode cX12_layTree 56 = .ok (.invokevirtual 308, 3) := by decide +kernel
theorem dX12_layTree_59 : decode cX12_layTree 59 = .ok (.iastore, 1) := by decide +kernel
theorem dX12_layTree_60 : decode cX12_layTree 60 = .ok (.iinc 2 1, 3) := by decide +kernel
theorem dX12_layTree_63 : decode cX12_layTree 63 = .ok (.goto (-28), 3) := by decide +kernel
theorem dX12_layTree_66 : decode cX12_layTree 66 = .ok (.iinc 1 1, 3) := by decide +kernel
theorem dX12_layTree_69 : decode cX12_layTree 69 = .ok (.goto (-67), 3) := by decide +kernel
theorem dX12_layTree_72 : decode cX12_layTree 72 = .ok (.iconst 1, 1) := by decide +kernel
theorem dX12_layTree_73 : decode cX12_layTree 73 = .ok (.istore_n 1, 1) := by decide +kernel
theorem dX12_layTree_74 : decode cX12_layTree 74 = .ok (.iload_n 1, 1) := by decide +kernel
theorem dX12_layTree_75 : decode cX12_layTree 75 = .ok (.ifCond .eq 249, 3) := by decide +kernel
theorem dX12_layTree_78 : decode cX12_layTree 78 = .ok (.iconst (-1), 1) := by decide +kernel
theorem dX12_layTree_79 : decode cX12_layTree 79 = .ok (.istore_n 2, 1) := by decide +kernel
theorem dX12_layTree_80 : decode cX12_layTree 80 = .ok (.iconst 0, 1) := by decide +kernel
theorem dX12_layTree_81 : decode cX12_layTree 81 = .ok (.istore_n 3, 1) := by decide +kernel
theorem dX12_layTree_82 : decode cX12_layTree 82 = .ok (.iload_n 3, 1) := by decide +kernel
theorem dX12_layTree_83 : decode cX12_layTree 83 = .ok (.aload_n 0, 1) := by decide +kernel
theorem dX12_layTree_84 : decode cX12_layTree 84 = .ok (.getfield 197, 3) := by decide +kernel
theorem dX12_layTree_87 : decode cX12_layTree 87 = .ok (.if_icmp .ge 94, 3) := by decide +kernel
theorem dX12_layTree_90 : decode cX12_layTree 90 = .ok (.iload_n 3, 1) := by decide +kernel
theorem dX12_layTree_91 : decode cX12_layTree 91 = .ok (.iconst 1, 1) := by decide +kernel
theorem dX12_layTree_92 : decode cX12_layTree 92 = .ok (.iadd, 1) := by decide +kernel
theorem dX12_layTree_93 : decode cX12_layTree 93 = .ok (.istore 4, 2) := by decide +kernel
theorem dX12_layTree_95 : decode cX12_layTree 95 = .ok (.iload 4, 2) := by decide +kernel
theorem dX12_layTree_97 : decode cX12_layTree 97 = .ok (.aload_n 0, 1) := by decide +kernel
theorem dX12_layTree_98 : decode cX12_layTree 98 = .ok (.getfield 197, 3) := by decide +kernel
theorem dX12_layTree_101 : decode cX12_layTree 101 = .ok (.if_icmp .ge 74, 3) := by decide +kernel
theorem dX12_layTree_104 : decode cX12_layTree 104 = .ok (.aload_n 0, 1) := by decide +kernel
theorem dX12_layTree_105 : decode cX12_layTree 105 = .ok (.getfield 97, 3) := by decide +kernel
theorem dX12_layTree_108 : decode cX12_layTree 108 = .ok (.iload_n 3, 1) := by decide +kernel
theorem dX12_layTree_109 : decode cX12_layTree 109 = .ok (.iaload, 1) := by decide +kernel
theorem dX12_layTree_110 : decode cX12_layTree 110 = .ok (.aload_n 0, 1) := by decide +kernel
theorem dX12_layTree_111 : decode cX12_layTree 111 = .ok (.getfield 97, 3) := by decide +kernel
theorem dX12_layTree_114 : decode cX12_layTree 114 = .ok (.iload 4, 2) := by decide +kernel
theorem dX12_layTree_116 : decode cX12_layTree 116 = .ok (.iaload, 1) := by decide +kernel
theorem dX12_layTree_117 : decode cX12_layTree 117 = .ok (.if_icmp .eq 52, 3) := by decide +kernel
theorem dX12_layTree_120 : decode cX12_layTree 120 = .ok (.aload_n 0, 1) := by decide +kernel
theorem dX12_layTree_121 : decode cX12_layTree 121 = .ok (.getfield 94, 3) := by decide +kernel
theorem dX12_layTree_124 : decode cX12_layTree 124 = .ok (.bipush 16, 2) := by decide +kernel
theorem dX12_layTree_126 : decode cX12_layTree 126 = .ok (.iload_n 3, 1) := by decide +kernel
theorem dX12_layTree_127 : decode cX12_layTree 127 = .ok (.imul, 1) := by decide +kernel
theorem dX12_layTree_128 : decode cX12_layTree 128 = .ok (.iload 4, 2) := by decide +kernel
theorem dX12_layTree_130 : decode cX12_layTree 130 = .ok (.iadd, 1) := by decide +kernel
theorem dX12_layTree_131 : decode cX12_layTree 131 = .ok (.iaload, 1) := by decide +kernel
theorem dX12_layTree_132 : decode cX12_layTree 132 = .ok (.ifCond .le 37, 3) := by decide +kernel
theorem dX12_layTree_135 : decode cX12_layTree 135 = .ok (.iload_n 2, 1) := by decide +kernel
theorem dX12_layTree_136 : decode cX12_layTree 136 = .ok (.iconst (-1), 1) := by decide +kernel
theorem dX12_layTree_137 : decode cX12_layTree 137 = .ok (.if_icmp .eq 24, 3) := by decide +kernel
theorem dX12_layTree_140 : decode cX12_layTree 140 = .ok (.aload_n 0, 1) := by decide +kernel
theorem dX12_layTree_141 : decode cX12_layTree 141 = .ok (.getfield 94, 3) := by decide +kernel
theorem dX12_layTree_144 : decode cX12_layTree 144 = .ok (.bipush 16, 2) := by decide +kernel
theorem dX12_layTree_146 : decode cX12_layTree 146 = .ok (.iload_n 3, 1) := by decide +kernel
theorem dX12_layTree_147 : decode cX12_layTree 147 = .ok (.imul, 1) := by decide +kernel
theorem dX12_layTree_148 : decode cX12_layTree 148 = .ok (.iload 4, 2) := by decide +kernel
theorem dX12_layTree_150 : decode cX12_layTree 150 = .ok (.iadd, 1) := by decide +kernel
theorem dX12_layTree_151 : decode cX12_layTree 151 = .ok (.iaload, 1) := by decide +kernel
theorem dX12_layTree_152 : decode cX12_layTree 152 = .ok (.aload_n 0, 1) := by decide +kernel
theorem dX12_layTree_153 : decode cX12_layTree 153 = .ok (.getfield 94, 3) := by decide +kernel
theorem dX12_layTree_156 : decode cX12_layTree 156 = .ok (.iload_n 2, 1) := by decide +kernel
theorem dX12_layTree_157 : decode cX12_layTree 157 = .ok (.iaload, 1) := by decide +kernel
theorem dX12_layTree_158 : decode cX12_layTree 158 = .ok (.if_icmp .le 11, 3) := by decide +kernel
theorem dX12_layTree_161 : decode cX12_layTree 161 = .ok (.bipush 16, 2) := by decide +kernel
theorem dX12_layTree_163 : decode cX12_layTree 163 = .ok (.iload_n 3, 1) := by decide +kernel
theorem dX12_layTree_164 : decode cX12_layTree 164 = .ok (.imul, 1) := by decide +kernel
theorem dX12_layTree_165 : decode cX12_layTree 165 = .ok (.iload 4, 2) := by decide +kernel
theorem dX12_layTree_167 : decode cX12_layTree 167 = .ok (.iadd, 1) := by decide +kernel
theorem dX12_layTree_168 : decode cX12_layTree 168 = .ok (.istore_n 2, 1) := by decide +kernel
theorem dX12_layTree_169 : decode cX12_layTree 169 = .ok (.iinc 4 1, 3) := by decide +kernel
theorem dX12_layTree_172 : decode cX12_layTree 172 = .ok (.goto (-77), 3) := by decide +kernel
theorem dX12_layTree_175 : decode cX12_layTree 175 = .ok (.iinc 3 1, 3) := by decide +kernel
theorem dX12_layTree_178 : decode cX12_layTree 178 = .ok (.goto (-96), 3) := by decide +kernel
theorem dX12_layTree_181 : decode cX12_layTree 181 = .ok (.iload_n 2, 1) := by decide +kernel
theorem dX12_layTree_182 : decode cX12_layTree 182 = .ok (.iconst (-1), 1) := by decide +kernel
theorem dX12_layTree_183 : decode cX12_layTree 183 = .ok (.if_icmp .eq 7, 3) := by decide +kernel
theorem dX12_layTree_186 : decode cX12_layTree 186 = .ok (.iconst 1, 1) := by decide +kernel
theorem dX12_layTree_187 : decode cX12_layTree 187 = .ok (.goto 4, 3) := by decide +kernel
theorem dX12_layTree_190 : decode cX12_layTree 190 = .ok (.iconst 0, 1) := by decide +kernel
theorem dX12_layTree_191 : decode cX12_layTree 191 = .ok (.istore_n 1, 1) := by decide +kernel
theorem dX12_layTree_192 : decode cX12_layTree 192 = .ok (.iload_n 1, 1) := by decide +kernel
theorem dX12_layTree_193 : decode cX12_layTree 193 = .ok (.ifCond .ne 6, 3) := by decide +kernel
theorem dX12_layTree_196 : decode cX12_layTree 196 = .ok (.goto (-122), 3) := by decide +kernel
theorem dX12_layTree_199 : decode cX12_layTree 199 = .ok (.iload_n 2, 1) := by decide +kernel
theorem dX12_layTree_200 : decode cX12_layTree 200 = .ok (.bipush 16, 2) := by decide +kernel
theorem dX12_layTree_202 : decode cX12_layTree 202 = .ok (.idiv, 1) := by decide +kernel
theorem dX12_layTree_203 : decode cX12_layTree 203 = .ok (.istore_n 3, 1) := by decide +kernel
theorem dX12_layTree_204 : decode cX12_layTree 204 = .ok (.iload_n 2, 1) := by decide +kernel
theorem dX12_layTree_205 : decode cX12_layTree 205 = .ok (.bipush 16, 2) := by decide +kernel
theorem dX12_layTree_207 : decode cX12_layTree 207 = .ok (.irem, 1) := by decide +kernel
theorem dX12_layTree_208 : decode cX12_layTree 208 = .ok (.istore 4, 2) := by decide +kernel
theorem dX12_layTree_210 : decode cX12_layTree 210 = .ok (.aload_n 0, 1) := by decide +kernel
theorem dX12_layTree_211 : decode cX12_layTree 211 = .ok (.getfield 100, 3) := by decide +kernel
theorem dX12_layTree_214 : decode cX12_layTree 214 = .ok (.iload_n 3, 1) := by decide +kernel
theorem dX12_layTree_215 : decode cX12_layTree 215 = .ok (.dup2, 1) := by decide +kernel
theorem dX12_layTree_216 : decode cX12_layTree 216 = .ok (.iaload, 1) := by decide +kernel
theorem dX12_layTree_217 : decode cX12_layTree 217 = .ok (.iconst 1, 1) := by decide +kernel
theorem dX12_layTree_218 : decode cX12_layTree 218 = .ok (.iload 4, 2) := by decide +kernel
theorem dX12_layTree_220 : decode cX12_layTree 220 = .ok (.ishl, 1) := by decide +kernel
theorem dX12_layTree_221 : decode cX12_layTree 221 = .ok (.ior, 1) := by decide +kernel
theorem dX12_layTree_222 : decode cX12_layTree 222 = .ok (.iastore, 1) := by decide +kernel
theorem dX12_layTree_223 : decode cX12_layTree 223 = .ok (.aload_n 0, 1) := by decide +kernel
theorem dX12_layTree_224 : decode cX12_layTree 224 = .ok (.getfield 100, 3) := by decide +kernel
theorem dX12_layTree_227 : decode cX12_layTree 227 = .ok (.iload 4, 2) := by decide +kernel
theorem dX12_layTree_229 : decode cX12_layTree 229 = .ok (.dup2, 1) := by decide +kernel
theorem dX12_layTree_230 : decode cX12_layTree 230 = .ok (.iaload, 1) := by decide +kernel
theorem dX12_layTree_231 : decode cX12_layTree 231 = .ok (.iconst 1, 1) := by decide +kernel
theorem dX12_layTree_232 : decode cX12_layTree 232 = .ok (.iload_n 3, 1) := by decide +kernel
theorem dX12_layTree_233 : decode cX12_layTree 233 = .ok (.ishl, 1) := by decide +kernel
theorem dX12_layTree_234 : decode cX12_layTree 234 = .ok (.ior, 1) := by decide +kernel
theorem dX12_layTree_235 : decode cX12_layTree 235 = .ok (.iastore, 1) := by decide +kernel
theorem dX12_layTree_236 : decode cX12_layTree 236 = .ok (.aload_n 0, 1) := by decide +kernel
theorem dX12_layTree_237 : decode cX12_layTree 237 = .ok (.getfield 97, 3) := by decide +kernel
theorem dX12_layTree_240 : decode cX12_layTree 240 = .ok (.iload_n 3, 1) := by decide +kernel
theorem dX12_layTree_241 : decode cX12_layTree 241 = .ok (.iaload, 1) := by decide +kernel
theorem dX12_layTree_242 : decode cX12_layTree 242 = .ok (.aload_n 0, 1) := by decide +kernel
theorem dX12_layTree_243 : decode cX12_layTree 243 = .ok (.getfield 97, 3) := by decide +kernel
theorem dX12_layTree_246 : decode cX12_layTree 246 = .ok (.iload 4, 2) := by decide +kernel
theorem dX12_layTree_248 : decode cX12_layTree 248 = .ok (.iaload, 1) := by decide +kernel
theorem dX12_layTree_249 : decode cX12_layTree 249 = .ok (.invokestatic 274, 3) := by decide +kernel
theorem dX12_layTree_252 : decode cX12_layTree 252 = .ok (.istore 5, 2) := by decide +kernel
theorem dX12_layTree_254 : decode cX12_layTree 254 = .ok (.aload_n 0, 1) := by decide +kernel
theorem dX12_layTree_255 : decode cX12_layTree 255 = .ok (.getfield 97, 3) := by decide +kernel
theorem dX12_layTree_258 : decode cX12_layTree 258 = .ok (.iload_n 3, 1) := by decide +kernel
theorem dX12_layTree_259 : decode cX12_layTree 259 = .ok (.iaload, 1) := by decide +kernel
theorem dX12_layTree_260 : decode cX12_layTree 260 = .ok (.aload_n 0, 1) := by decide +kernel
theorem dX12_layTree_261 : decode cX12_layTree 261 = .ok (.getfield 97, 3) := by decide +kernel
theorem dX12_layTree_264 : decode cX12_layTree 264 = .ok (.iload 4, 2) := by decide +kernel
theorem dX12_layTree_266 : decode cX12_layTree 266 = .ok (.iaload, 1) := by decide +kernel
theorem dX12_layTree_267 : decode cX12_layTree 267 = .ok (.invokestatic 311, 3) := by decide +kernel
theorem dX12_layTree_270 : decode cX12_layTree 270 = .ok (.istore 6, 2) := by decide +kernel
theorem dX12_layTree_272 : decode cX12_layTree 272 = .ok (.iconst 0, 1) := by decide +kernel
theorem dX12_layTree_273 : decode cX12_layTree 273 = .ok (.istore 7, 2) := by decide +kernel
theorem dX12_layTree_275 : decode cX12_layTree 275 = .ok (.iload 7, 2) := by decide +kernel
theorem dX12_layTree_277 : decode cX12_layTree 277 = .ok (.aload_n 0, 1) := by decide +kernel
theorem dX12_layTree_278 : decode cX12_layTree 278 = .ok (.getfield 197, 3) := by decide +kernel
theorem dX12_layTree_281 : decode cX12_layTree 281 = .ok (.if_icmp .ge 40, 3) := by decide +kernel
theorem dX12_layTree_284 : decode cX12_layTree 284 = .ok (.aload_n 0, 1) := by decide +kernel
theorem dX12_layTree_285 : decode cX12_layTree 285 = .ok (.getfield 97, 3) := by decide +kernel
theorem dX12_layTree_288 : decode cX12_layTree 288 = .ok (.iload 7, 2) := by decide +kernel
theorem dX12_layTree_290 : decode cX12_layTree 290 = .ok (.aload_n 0, 1) := by decide +kernel
theorem dX12_layTree_291 : decode cX12_layTree 291 = .ok (.getfield 97, 3) := by decide +kernel
theorem dX12_layTree_294 : decode cX12_layTree 294 = .ok (.iload 7, 2) := by decide +kernel
theorem dX12_layTree_296 : decode cX12_layTree 296 = .ok (.iaload, 1) := by decide +kernel
theorem dX12_layTree_297 : decode cX12_layTree 297 = .ok (.iload 5, 2) := by decide +kernel
theorem dX12_layTree_299 : decode cX12_layTree 299 = .ok (.if_icmp .ne 8, 3) := by decide +kernel
theorem dX12_layTree_302 : decode cX12_layTree 302 = .ok (.iload 6, 2) := by decide +kernel
theorem dX12_layTree_304 : decode cX12_layTree 304 = .ok (.goto 10, 3) := by decide +kernel
theorem dX12_layTree_307 : decode cX12_layTree 307 = .ok (.aload_n 0, 1) := by decide +kernel
theorem dX12_layTree_308 : decode cX12_layTree 308 = .ok (.getfield 97, 3) := by decide +kernel
theorem dX12_layTree_311 : decode cX12_layTree 311 = .ok (.iload 7, 2) := by decide +kernel
theorem dX12_layTree_313 : decode cX12_layTree 313 = .ok (.iaload, 1) := by decide +kernel
theorem dX12_layTree_314 : decode cX12_layTree 314 = .ok (.iastore, 1) := by decide +kernel
theorem dX12_layTree_315 : decode cX12_layTree 315 = .ok (.iinc 7 1, 3) := by decide +kernel
theorem dX12_layTree_318 : decode cX12_layTree 318 = .ok (.goto (-43), 3) := by decide +kernel
theorem dX12_layTree_321 : decode cX12_layTree 321 = .ok (.goto (-247), 3) := by decide +kernel
theorem dX12_layTree_324 : decode cX12_layTree 324 = .ok (.iconst 0, 1) := by decide +kernel
theorem dX12_layTree_325 : decode cX12_layTree 325 = .ok (.istore_n 2, 1) := by decide +kernel
theorem dX12_layTree_326 : decode cX12_layTree 326 = .ok (.iconst 0, 1) := by decide +kernel
theorem dX12_layTree_327 : decode cX12_layTree 327 = .ok (.istore_n 3, 1) := by decide +kernel
theorem dX12_layTree_328 : decode cX12_layTree 328 = .ok (.iload_n 3, 1) := by decide +kernel
theorem dX12_layTree_329 : decode cX12_layTree 329 = .ok (.aload_n 0, 1) := by decide +kernel
theorem dX12_layTree_330 : decode cX12_layTree 330 = .ok (.getfield 197, 3) := by decide +kernel
theorem dX12_layTree_333 : decode cX12_layTree 333 = .ok (.if_icmp .ge 29, 3) := by decide +kernel
theorem dX12_layTree_336 : decode cX12_layTree 336 = .ok (.iload_n 2, 1) := by decide +kernel
theorem dX12_layTree_337 : decode cX12_layTree 337 = .ok (.aload_n 0, 1) := by decide +kernel
theorem dX12_layTree_338 : decode cX12_layTree 338 = .ok (.getfield 97, 3) := by decide +kernel
theorem dX12_layTree_341 : decode cX12_layTree 341 = .ok (.iload_n 3, 1) := by decide +kernel
theorem dX12_layTree_342 : decode cX12_layTree 342 = .ok (.iaload, 1) := by decide +kernel
theorem dX12_layTree_343 : decode cX12_layTree 343 = .ok (.iload_n 3, 1) := by decide +kernel
theorem dX12_layTree_344 : decode cX12_layTree 344 = .ok (.if_icmp .ne 9, 3) := by decide +kernel
theorem dX12_layTree_347 : decode cX12_layTree 347 = .ok (.iconst 1, 1) := by decide +kernel
theorem dX12_layTree_348 : decode cX12_layTree 348 = .ok (.iload_n 3, 1) := by decide +kernel
theorem dX12_layTree_349 : decode cX12_layTree 349 = .ok (.ishl, 1) := by decide +kernel
theorem dX12_layTree_350 : decode cX12_layTree 350 = .ok (.goto 4, 3) := by decide +kernel
theorem dX12_layTree_353 : decode cX12_layTree 353 = .ok (.iconst 0, 1) := by decide +kernel
theorem dX12_layTree_354 : decode cX12_layTree 354 = .ok (.ior, 1) := by decide +kernel
theorem dX12_layTree_355 : decode cX12_layTree 355 = .ok (.istore_n 2, 1) := by decide +kernel
theorem dX12_layTree_356 : decode cX12_layTree 356 = .ok (.iinc 3 1, 3) := by decide +kernel
theorem dX12_layTree_359 : decode cX12_layTree 359 = .ok (.goto (-31), 3) := by decide +kernel
theorem dX12_layTree_362 : decode cX12_layTree 362 = .ok (.iconst 0, 1) := by decide +kernel
theorem dX12_layTree_363 : decode cX12_layTree 363 = .ok (.istore_n 3, 1) := by decide +kernel
theorem dX12_layTree_364 : decode cX12_layTree 364 = .ok (.iload_n 3, 1) := by decide +kernel
theorem dX12_layTree_365 : decode cX12_layTree 365 = .ok (.aload_n 0, 1) := by decide +kernel
theorem dX12_layTree_366 : decode cX12_layTree 366 = .ok (.getfield 197, 3) := by decide +kernel
theorem dX12_layTree_369 : decode cX12_layTree 369 = .ok (.if_icmp .ge 108, 3) := by decide +kernel
theorem dX12_layTree_372 : decode cX12_layTree 372 = .ok (.iload_n 2, 1) := by decide +kernel
theorem dX12_layTree_373 : decode cX12_layTree 373 = .ok (.istore 4, 2) := by decide +kernel
theorem dX12_layTree_375 : decode cX12_layTree 375 = .ok (.iconst 0, 1) := by decide +kernel
theorem dX12_layTree_376 : decode cX12_layTree 376 = .ok (.istore 5, 2) := by decide +kernel
theorem dX12_layTree_378 : decode cX12_layTree 378 = .ok (.iload 5, 2) := by decide +kernel
theorem dX12_layTree_380 : decode cX12_layTree 380 = .ok (.aload_n 0, 1) := by decide +kernel
theorem dX12_layTree_381 : decode cX12_layTree 381 = .ok (.getfield 197, 3) := by decide +kernel
theorem dX12_layTree_384 : decode cX12_layTree 384 = .ok (.if_icmp .ge 84, 3) := by decide +kernel
theorem dX12_layTree_387 : decode cX12_layTree 387 = .ok (.aload_n 0, 1) := by decide +kernel
theorem dX12_layTree_388 : decode cX12_layTree 388 = .ok (.getfield 100, 3) := by decide +kernel
theorem dX12_layTree_391 : decode cX12_layTree 391 = .ok (.iload 5, 2) := by decide +kernel
theorem dX12_layTree_393 : decode cX12_layTree 393 = .ok (.iaload, 1) := by decide +kernel
theorem dX12_layTree_394 : decode cX12_layTree 394 = .ok (.iload_n 2, 1) := by decide +kernel
theorem dX12_layTree_395 : decode cX12_layTree 395 = .ok (.iand, 1) := by decide +kernel
theorem dX12_layTree_396 : decode cX12_layTree 396 = .ok (.istore 6, 2) := by decide +kernel
theorem dX12_layTree_398 : decode cX12_layTree 398 = .ok (.iload_n 2, 1) := by decide +kernel
theorem dX12_layTree_399 : decode cX12_layTree 399 = .ok (.iload 5, 2) := by decide +kernel
theorem dX12_layTree_401 : decode cX12_layTree 401 = .ok (.ishr, 1) := by decide +kernel
theorem dX12_layTree_402 : decode cX12_layTree 402 = .ok (.iconst 1, 1) := by decide +kernel
theorem dX12_layTree_403 : decode cX12_layTree 403 = .ok (.iand, 1) := by decide +kernel
theorem dX12_layTree_404 : decode cX12_layTree 404 = .ok (.iconst 1, 1) := by decide +kernel
theorem dX12_layTree_405 : decode cX12_layTree 405 = .ok (.if_icmp .eq 57, 3) := by decide +kernel
theorem dX12_layTree_408 : decode cX12_layTree 408 = .ok (.iload 6, 2) := by decide +kernel
theorem dX12_layTree_410 : decode cX12_layTree 410 = .ok (.ifCond .ne 6, 3) := by decide +kernel
theorem dX12_layTree_413 : decode cX12_layTree 413 = .ok (.goto 49, 3) := by decide +kernel
theorem dX12_layTree_416 : decode cX12_layTree 416 = .ok (.aload_n 0, 1) := by decide +kernel
theorem dX12_layTree_417 : decode cX12_layTree 417 = .ok (.getfield 82, 3) := by decide +kernel
theorem dX12_layTree_420 : decode cX12_layTree 420 = .ok (.iload 5, 2) := by decide +kernel
theorem dX12_layTree_422 : decode cX12_layTree 422 = .ok (.iconst 0, 1) := by decide +kernel
theorem dX12_layTree_423 : decode cX12_layTree 423 = .ok (.iastore, 1) := by decide +kernel
theorem dX12_layTree_424 : decode cX12_layTree 424 = .ok (.iload 6, 2) := by decide +kernel
theorem dX12_layTree_426 : decode cX12_layTree 426 = .ok (.aload_n 0, 1) := by decide +kernel
theorem dX12_layTree_427 : decode cX12_layTree 427 = .ok (.getfield 82, 3) := by decide +kernel
theorem dX12_layTree_430 : decode cX12_layTree 430 = .ok (.iload 5, 2) := by decide +kernel
theorem dX12_layTree_432 : decode cX12_layTree 432 = .ok (.iaload, 1) := by decide +kernel
theorem dX12_layTree_433 : decode cX12_layTree 433 = .ok (.ishr, 1) := by decide +kernel
theorem dX12_layTree_434 : decode cX12_layTree 434 = .ok (.iconst 1, 1) := by decide +kernel
theorem dX12_layTree_435 : decode cX12_layTree 435 = .ok (.iand, 1) := by decide +kernel
theorem dX12_layTree_436 : decode cX12_layTree 436 = .ok (.ifCond .ne 17, 3) := by decide +kernel
theorem dX12_layTree_439 : decode cX12_layTree 439 = .ok (.aload_n 0, 1) := by decide +kernel
theorem dX12_layTree_440 : decode cX12_layTree 440 = .ok (.getfield 82, 3) := by decide +kernel
theorem dX12_layTree_443 : decode cX12_layTree 443 = .ok (.iload 5, 2) := by decide +kernel
theorem dX12_layTree_445 : decode cX12_layTree 445 = .ok (.dup2, 1) := by decide +kernel
theorem dX12_layTree_446 : decode cX12_layTree 446 = .ok (.iaload, 1) := by decide +kernel
theorem dX12_layTree_447 : decode cX12_layTree 447 = .ok (.iconst 1, 1) := by decide +kernel
theorem dX12_layTree_448 : decode cX12_layTree 448 = .ok (.iadd, 1) := by decide +kernel
theorem dX12_layTree_449 : decode cX12_layTree 449 = .ok (.iastore, 1) := by decide +kernel
theorem dX12_layTree_450 : decode cX12_layTree 450 = .ok (.goto (-26), 3) := by decide +kernel
theorem dX12_layTree_453 : decode cX12_layTree 453 = .ok (.iload 4, 2) := by decide +kernel
theorem dX12_layTree_455 : decode cX12_layTree 455 = .ok (.iconst 1, 1) := by decide +kernel
theorem dX12_layTree_456 : decode cX12_layTree 456 = .ok (.iload 5, 2) := by decide +kernel
theorem dX12_layTree_458 : decode cX12_layTree 458 = .ok (.ishl, 1) := by decide +kernel
theorem dX12_layTree_459 : decode cX12_layTree 459 = .ok (.ior, 1) := by decide +kernel
theorem dX12_layTree_460 : decode cX12_layTree 460 = .ok (.istore 4, 2) := by decide +kernel
theorem dX12_layTree_462 : decode cX12_layTree 462 = .ok (.iinc 5 1, 3) := by decide +kernel
theorem dX12_layTree_465 : decode cX12_layTree 465 = .ok (.goto (-87), 3) := by decide +kernel
theorem dX12_layTree_468 : decode cX12_layTree 468 = .ok (.iload 4, 2) := by decide +kernel
theorem dX12_layTree_470 : decode cX12_layTree 470 = .ok (.istore_n 2, 1) := by decide +kernel
theorem dX12_layTree_471 : decode cX12_layTree 471 = .ok (.iinc 3 1, 3) := by decide +kernel
theorem dX12_layTree_474 : decode cX12_layTree 474 = .ok (.goto (-110), 3) := by decide +kernel
theorem dX12_layTree_477 : decode cX12_layTree 477 = .ok (.return_, 1) := by decide +kernel
theorem dX12_at_0 : decode cX12_at 0 = .ok (.sipush 192, 3) := by decide +kernel
theorem dX12_at_3 : decode cX12_at 3 = .ok (.iload_n 0, 1) := by decide +kernel
theorem dX12_at_4 : decode cX12_at 4 = .ok (.imul, 1) := by decide +kernel
theorem dX12_at_5 : decode cX12_at 5 = .ok (.bipush 12, 2) := by decide +kernel
theorem dX12_at_7 : decode cX12_at 7 = .ok (.iload_n 1, 1) := by decide +kernel
theorem dX12_at_8 : decode cX12_at 8 = .ok (.imul, 1) := by decide +kernel
theorem dX12_at_9 : decode cX12_at 9 = .ok (.iadd, 1) := by decide +kernel
theorem dX12_at_10 : decode cX12_at 10 = .ok (.iconst 4, 1) := by decide +kernel
theorem dX12_at_11 : decode cX12_at 11 = .ok (.iload_n 2, 1) := by decide +kernel
theorem dX12_at_12 : decode cX12_at 12 = .ok (.imul, 1) := by decide +kernel
theorem dX12_at_13 : decode cX12_at 13 = .ok (.iadd, 1) := by decide +kernel
theorem dX12_at_14 : decode cX12_at 14 = .ok (.iload_n 3, 1) := by decide +kernel
theorem dX12_at_15 : decode cX12_at 15 = .ok (.iadd, 1) := by decide +kernel
theorem dX12_at_16 : decode cX12_at 16 = .ok (.ireturn, 1) := by decide +kernel
theorem dX12_over_0 : decode cX12_over 0 = .ok (.aload_n 0, 1) := by decide +kernel
theorem dX12_over_1 : decode cX12_over 1 = .ok (.getfield 82, 3) := by decide +kernel
theorem dX12_over_4 : decode cX12_over 4 = .ok (.iload_n 1, 1) := by decide +kernel
theorem dX12_over_5 : decode cX12_over 5 = .ok (.iaload, 1) := by decide +kernel
theorem dX12_over_6 : decode cX12_over 6 = .ok (.iconst (-1), 1) := by decide +kernel
theorem dX12_over_7 : decode cX12_over 7 = .ok (.if_icmp .ne 7, 3) := by decide +kernel
theorem dX12_over_10 : decode cX12_over 10 = .ok (.iconst 3, 1) := by decide +kernel
theorem dX12_over_11 : decode cX12_over 11 = .ok (.goto 38, 3) := by decide +kernel
theorem dX12_over_14 : decode cX12_over 14 = .ok (.aload_n 0, 1) := by decide +kernel
theorem dX12_over_15 : decode cX12_over 15 = .ok (.getfield 76, 3) := by decide +kernel
theorem dX12_over_18 : decode cX12_over 18 = .ok (.bipush 16, 2) := by decide +kernel
theorem dX12_over_20 : decode cX12_over 20 = .ok (.iload_n 2, 1) := by decide +kernel
theorem dX12_over_21 : decode cX12_over 21 = .ok (.imul, 1) := by decide +kernel
theorem dX12_over_22 : decode cX12_over 22 = .ok (.aload_n 0, 1) := by decide +kernel
theorem dX12_over_23 : decode cX12_over 23 = .ok (.getfield 82, 3) := by decide +kernel
theorem dX12_over_26 : decode cX12_over 26 = .ok (.iload_n 1, 1) := by decide +kernel
theorem dX12_over_27 : decode cX12_over 27 = .ok (.iaload, 1) := by decide +kernel
theorem dX12_over_28 : decode cX12_over 28 = .ok (.iadd, 1) := by decide +kernel
theorem dX12_over_29 : decode cX12_over 29 = .ok (.iaload, 1) := by decide +kernel
theorem dX12_over_30 : decode cX12_over 30 = .ok (.aload_n 0, 1) := by decide +kernel
theorem dX12_over_31 : decode cX12_over 31 = .ok (.getfield 76, 3) := by decide +kernel
theorem dX12_over_34 : decode cX12_over 34 = .ok (.bipush 16, 2) := by decide +kernel
theorem dX12_over_36 : decode cX12_over 36 = .ok (.iload_n 3, 1) := by decide +kernel
theorem dX12_over_37 : decode cX12_over 37 = .ok (.imul, 1) := by decide +kernel
theorem dX12_over_38 : decode cX12_over 38 = .ok (.aload_n 0, 1) := by decide +kernel
theorem dX12_over_39 : decode cX12_over 39 = .ok (.getfield 82, 3) := by decide +kernel
theorem dX12_over_42 : decode cX12_over 42 = .ok (.iload_n 1, 1) := by decide +kernel
theorem dX12_over_43 : decode cX12_over 43 = .ok (.iaload, 1) := by decide +kernel
theorem dX12_over_44 : decode cX12_over 44 = .ok (.iadd, 1) := by decide +kernel
theorem dX12_over_45 : decode cX12_over 45 = .ok (.iaload, 1) := by decide +kernel
theorem dX12_over_46 : decode cX12_over 46 = .ok (.invokestatic 314, 3) := by decide +kernel
theorem dX12_over_49 : decode cX12_over 49 = .ok (.ireturn, 1) := by decide +kernel
theorem dX12_layPairs_0 : decode cX12_layPairs 0 = .ok (.iconst 0, 1) := by decide +kernel
theorem dX12_layPairs_1 : decode cX12_layPairs 1 = .ok (.istore_n 1, 1) := by decide +kernel
theorem dX12_layPairs_2 : decode cX12_layPairs 2 = .ok (.iload_n 1, 1) := by decide +kernel
theorem dX12_layPairs_3 : decode cX12_layPairs 3 = .ok (.aload_n 0, 1) := by decide +kernel
theorem dX12_layPairs_4 : decode cX12_layPairs 4 = .ok (.getfield 85, 3) := by decide +kernel
theorem dX12_layPairs_7 : decode cX12_layPairs 7 = .ok (.arraylength, 1) := by decide +kernel
theorem dX12_layPairs_8 : decode cX12_layPairs 8 = .ok (.if_icmp .ge 16, 3) := by decide +kernel
theorem dX12_layPairs_11 : decode cX12_layPairs 11 = .ok (.aload_n 0, 1) := by decide +kernel
theorem dX12_layPairs_12 : decode cX12_layPairs 12 = .ok (.getfield 85, 3) := by decide +kernel
theorem dX12_layPairs_15 : decode cX12_layPairs 15 = .ok (.iload_n 1, 1) := by decide +kernel
theorem dX12_layPairs_16 : decode cX12_layPairs 16 = .ok (.iconst 0, 1) := by decide +kernel
theorem dX12_layPairs_17 : decode cX12_layPairs 17 = .ok (.iastore, 1) := by decide +kernel
theorem dX12_layPairs_18 : decode cX12_layPairs 18 = .ok (.iinc 1 1, 3) := by decide +kernel
theorem dX12_layPairs_21 : decode cX12_layPairs 21 = .ok (.goto (-19), 3) := by decide +kernel
theorem dX12_layPairs_24 : decode cX12_layPairs 24 = .ok (.iconst 0, 1) := by decide +kernel
theorem dX12_layPairs_25 : decode cX12_layPairs 25 = .ok (.istore_n 1, 1) := by decide +kernel
theorem dX12_layPairs_26 : decode cX12_layPairs 26 = .ok (.iload_n 1, 1) := by decide +kernel
theorem dX12_layPairs_27 : decode cX12_layPairs 27 = .ok (.aload_n 0, 1) := by decide +kernel
theorem dX12_layPairs_28 : decode cX12_layPairs 28 = .ok (.getfield 203, 3) := by decide +kernel
theorem dX12_layPairs_31 : decode cX12_layPairs 31 = .ok (.if_icmp .ge 145, 3) := by decide +kernel
theorem dX12_layPairs_34 : decode cX12_layPairs 34 = .ok (.aload_n 0, 1) := by decide +kernel
theorem dX12_layPairs_35 : decode cX12_layPairs 35 = .ok (.iload_n 1, 1) := by decide +kernel
theorem dX12_layPairs_36 : decode cX12_layPairs 36 = .ok (.invokevirtual 305, 3) := by decide +kernel
theorem dX12_layPairs_39 : decode cX12_layPairs 39 = .ok (.ifCond .ne 6, 3) := by decide +kernel
theorem dX12_layPairs_42 : decode cX12_layPairs 42 = .ok (.goto 128, 3) := by decide +kernel
theorem dX12_layPairs_45 : decode cX12_layPairs 45 = .ok (.iload_n 1, 1) := by decide +kernel
theorem dX12_layPairs_46 : decode cX12_layPairs 46 = .ok (.iconst 1, 1) := by decide +kernel
theorem dX12_layPairs_47 : decode cX12_layPairs 47 = .ok (.iadd, 1) := by decide +kernel
theorem dX12_layPairs_48 : decode cX12_layPairs 48 = .ok (.istore_n 2, 1) := by decide +kernel
theorem dX12_layPairs_49 : decode cX12_layPairs 49 = .ok (.iload_n 2, 1) := by decide +kernel
theorem dX12_layPairs_50 : decode cX12_layPairs 50 = .ok (.aload_n 0, 1) := by decide +kernel
theorem dX12_layPairs_51 : decode cX12_layPairs 51 = .ok (.getfield 203, 3) := by decide +kernel
theorem dX12_layPairs_54 : decode cX12_layPairs 54 = .ok (.if_icmp .ge 116, 3) := by decide +kernel
theorem dX12_layPairs_57 : decode cX12_layPairs 57 = .ok (.aload_n 0, 1) := by decide +kernel
theorem dX12_layPairs_58 : decode cX12_layPairs 58 = .ok (.getfield 79, 3) := by decide +kernel
theorem dX12_layPairs_61 : decode cX12_layPairs 61 = .ok (.bipush 60, 2) := by decide +kernel
theorem dX12_layPairs_63 : decode cX12_layPairs 63 = .ok (.iload_n 1, 1) := by decide +kernel
theorem dX12_layPairs_64 : decode cX12_layPairs 64 = .ok (.imul, 1) := by decide +kernel
theorem dX12_layPairs_65 : decode cX12_layPairs 65 = .ok (.iload_n 2, 1) := by decide +kernel
theorem dX12_layPairs_66 : decode cX12_layPairs 66 = .ok (.iadd, 1) := by decide +kernel
theorem dX12_layPairs_67 : decode cX12_layPairs 67 = .ok (.iaload, 1) := by decide +kernel
theorem dX12_layPairs_68 : decode cX12_layPairs 68 = .ok (.istore_n 3, 1) := by decide +kernel
theorem dX12_layPairs_69 : decode cX12_layPairs 69 = .ok (.iload_n 3, 1) := by decide +kernel
theorem dX12_layPairs_70 : decode cX12_layPairs 70 = .ok (.ifCond .eq 94, 3) := by decide +kernel
theorem dX12_layPairs_73 : decode cX12_layPairs 73 = .ok (.aload_n 0, 1) := by decide +kernel
theorem dX12_layPairs_74 : decode cX12_layPairs 74 = .ok (.iload_n 2, 1) := by decide +kernel
theorem dX12_layPairs_75 : decode cX12_layPairs 75 = .ok (.invokevirtual 305, 3) := by decide +kernel
theorem dX12_layPairs_78 : decode cX12_layPairs 78 = .ok (.ifCond .ne 6, 3) := by decide +kernel
theorem dX12_layPairs_81 : decode cX12_layPairs 81 = .ok (.goto 83, 3) := by decide +kernel
theorem dX12_layPairs_84 : decode cX12_layPairs 84 = .ok (.iconst 0, 1) := by decide +kernel
theorem dX12_layPairs_85 : decode cX12_layPairs 85 = .ok (.istore 4, 2) := by decide +kernel
theorem dX12_layPairs_87 : decode cX12_layPairs 87 = .ok (.iload 4, 2) := by decide +kernel
theorem dX12_layPairs_89 : decode cX12_layPairs 89 = .ok (.aload_n 0, 1) := by decide +kernel
theorem dX12_layPairs_90 : decode cX12_layPairs 90 = .ok (.getfield 197, 3) := by decide +kernel
theorem dX12_layPairs_93 : decode cX12_layPairs 93 = .ok (.if_icmp .ge 71, 3) := by decide +kernel
theorem dX12_layPairs_96 : decode cX12_layPairs 96 = .ok (.aload_n 0, 1) := by decide +kernel
theorem dX12_layPairs_97 : decode cX12_layPairs 97 = .ok (.getfield 76, 3) := by decide +kernel
theorem dX12_layPairs_100 : decode cX12_layPairs 100 = .ok (.bipush 16, 2) := by decide +kernel
theorem dX12_layPairs_102 : decode cX12_layPairs 102 = .ok (.iload_n 1, 1) := by decide +kernel
theorem dX12_layPairs_103 : decode cX12_layPairs 103 = .ok (.imul, 1) := by decide +kernel
theorem dX12_layPairs_104 : decode cX12_layPairs 104 = .ok (.iload 4, 2) := by decide +kernel
theorem dX12_layPairs_106 : decode cX12_layPairs 106 = .ok (.iadd, 1) := by decide +kernel
theorem dX12_layPairs_107 : decode cX12_layPairs 107 = .ok (.iaload, 1) := by decide +kernel
theorem dX12_layPairs_108 : decode cX12_layPairs 108 = .ok (.aload_n 0, 1) := by decide +kernel
theorem dX12_layPairs_109 : decode cX12_layPairs 109 = .ok (.getfield 76, 3) := by decide +kernel
theorem dX12_layPairs_112 : decode cX12_layPairs 112 = .ok (.bipush 16, 2) := by decide +kernel
theorem dX12_layPairs_114 : decode cX12_layPairs 114 = .ok (.iload_n 2, 1) := by decide +kernel
theorem dX12_layPairs_115 : decode cX12_layPairs 115 = .ok (.imul, 1) := by decide +kernel
theorem dX12_layPairs_116 : decode cX12_layPairs 116 = .ok (.iload 4, 2) := by decide +kernel
theorem dX12_layPairs_118 : decode cX12_layPairs 118 = .ok (.iadd, 1) := by decide +kernel
theorem dX12_layPairs_119 : decode cX12_layPairs 119 = .ok (.iaload, 1) := by decide +kernel
theorem dX12_layPairs_120 : decode cX12_layPairs 120 = .ok (.invokestatic 314, 3) := by decide +kernel
theorem dX12_layPairs_123 : decode cX12_layPairs 123 = .ok (.istore 5, 2) := by decide +kernel
theorem dX12_layPairs_125 : decode cX12_layPairs 125 = .ok (.iload 5, 2) := by decide +kernel
theorem dX12_layPairs_127 : decode cX12_layPairs 127 = .ok (.iconst 3, 1) := by decide +kernel
theorem dX12_layPairs_128 : decode cX12_layPairs 128 = .ok (.if_icmp .eq 30, 3) := by decide +kernel
theorem dX12_layPairs_131 : decode cX12_layPairs 131 = .ok (.aload_n 0, 1) := by decide +kernel
theorem dX12_layPairs_132 : decode cX12_layPairs 132 = .ok (.getfield 85, 3) := by decide +kernel
theorem dX12_layPairs_135 : decode cX12_layPairs 135 = .ok (.iload_n 3, 1) := by decide +kernel
theorem dX12_layPairs_136 : decode cX12_layPairs 136 = .ok (.iconst 1, 1) := by decide +kernel
theorem dX12_layPairs_137 : decode cX12_layPairs 137 = .ok (.isub, 1) := by decide +kernel
theorem dX12_layPairs_138 : decode cX12_layPairs 138 = .ok (.iload 4, 2) := by decide +kernel
theorem dX12_layPairs_140 : decode cX12_layPairs 140 = .ok (.iload 5, 2) := by decide +kernel
theorem dX12_layPairs_142 : decode cX12_layPairs 142 = .ok (.aload_n 0, 1) := by decide +kernel
theorem dX12_layPairs_143 : decode cX12_layPairs 143 = .ok (.iload 4, 2) := by decide +kernel
theorem dX12_layPairs_145 : decode cX12_layPairs 145 = .ok (.iload_n 1, 1) := by decide +kernel
theorem dX12_layPairs_146 : decode cX12_layPairs 146 = .ok (.iload_n 2, 1) := by decide +kernel
theorem dX12_layPairs_147 : decode cX12_layPairs 147 = .ok (.invokevirtual 317, 3) := by decide +kernel
theorem dX12_layPairs_150 : decode cX12_layPairs 150 = .ok (.invokestatic 321, 3) := by decide +kernel
theorem dX12_layPairs_153 : decode cX12_layPairs 153 = .ok (.dup2, 1) := by decide +kernel
theorem dX12_layPairs_154 : decode cX12_layPairs 154 = .ok (.iaload, 1) := by decide +kernel
theorem dX12_layPairs_155 : decode cX12_layPairs 155 = .ok (.iconst 1, 1) := by decide +kernel
theorem dX12_layPairs_156 : decode cX12_layPairs 156 = .ok (.iadd, 1) := by decide +kernel
theorem dX12_layPairs_157 : decode cX12_layPairs 157 = .ok (.iastore, 1) := by decide +kernel
theorem dX12_layPairs_158 : decode cX12_layPairs 158 = .ok (.iinc 4 1, 3) := by decide +kernel
theorem dX12_layPairs_161 : decode cX12_layPairs 161 = .ok (.goto (-74), 3) := by decide +kernel
theorem dX12_layPairs_164 : decode cX12_layPairs 164 = .ok (.iinc 2 1, 3) := by decide +kernel
theorem dX12_layPairs_167 : decode cX12_layPairs 167 = .ok (.goto (-118), 3) := by decide +kernel
theorem dX12_layPairs_170 : decode cX12_layPairs 170 = .ok (.iinc 1 1, 3) := by decide +kernel
theorem dX12_layPairs_173 : decode cX12_layPairs 173 = .ok (.goto (-147), 3) := by decide +kernel
theorem dX12_layPairs_176 : decode cX12_layPairs 176 = .ok (.return_, 1) := by decide +kernel
theorem dX12_pairsOf_0 : decode cX12_pairsOf 0 = .ok (.iconst 0, 1) := by decide +kernel
theorem dX12_pairsOf_1 : decode cX12_pairsOf 1 = .ok (.istore 5, 2) := by decide +kernel
theorem dX12_pairsOf_3 : decode cX12_pairsOf 3 = .ok (.iconst 0, 1) := by decide +kernel
theorem dX12_pairsOf_4 : decode cX12_pairsOf 4 = .ok (.istore 6, 2) := by decide +kernel
theorem dX12_pairsOf_6 : decode cX12_pairsOf 6 = .ok (.iload 6, 2) := by decide +kernel
theorem dX12_pairsOf_8 : decode cX12_pairsOf 8 = .ok (.iconst 3, 1) := by decide +kernel
theorem dX12_pairsOf_9 : decode cX12_pairsOf 9 = .ok (.if_icmp .ge 67, 3) := by decide +kernel
theorem dX12_pairsOf_12 : decode cX12_pairsOf 12 = .ok (.iconst 0, 1) := by decide +kernel
theorem dX12_pairsOf_13 : decode cX12_pairsOf 13 = .ok (.istore 7, 2) := by decide +kernel
theorem dX12_pairsOf_15 : decode cX12_pairsOf 15 = .ok (.iload 7, 2) := by decide +kernel
theorem dX12_pairsOf_17 : decode cX12_pairsOf 17 = .ok (.iconst 4, 1) := by decide +kernel
theorem dX12_pairsOf_18 : decode cX12_pairsOf 18 = .ok (.if_icmp .ge 52, 3) := by decide +kernel
theorem dX12_pairsOf_21 : decode cX12_pairsOf 21 = .ok (.iload_n 3, 1) := by decide +kernel
theorem dX12_pairsOf_22 : decode cX12_pairsOf 22 = .ok (.iconst 3, 1) := by decide +kernel
theorem dX12_pairsOf_23 : decode cX12_pairsOf 23 = .ok (.if_icmp .eq 9, 3) := by decide +kernel
theorem dX12_pairsOf_26 : decode cX12_pairsOf 26 = .ok (.iload_n 3, 1) := by decide +kernel
theorem dX12_pairsOf_27 : decode cX12_pairsOf 27 = .ok (.iload 6, 2) := by decide +kernel
theorem dX12_pairsOf_29 : decode cX12_pairsOf 29 = .ok (.if_icmp .ne 35, 3) := by decide +kernel
theorem dX12_pairsOf_32 : decode cX12_pairsOf 32 = .ok (.iload 4, 2) := by decide +kernel
theorem dX12_pairsOf_34 : decode cX12_pairsOf 34 = .ok (.iconst 3, 1) := by decide +kernel
theorem dX12_pairsOf_35 : decode cX12_pairsOf 35 = .ok (.if_icmp .eq 10, 3) := by decide +kernel
theorem dX12_pairsOf_38 : decode cX12_pairsOf 38 = .ok (.iload 4, 2) := by decide +kernel
theorem dX12_pairsOf_40 : decode cX12_pairsOf 40 = .ok (.iload 7, 2) := by decide +kernel
theorem dX12_pairsOf_42 : decode cX12_pairsOf 42 = .ok (.if_icmp .ne 22, 3) := by decide +kernel
theorem dX12_pairsOf_45 : decode cX12_pairsOf 45 = .ok (.iload 5, 2) := by decide +kernel
theorem dX12_pairsOf_47 : decode cX12_pairsOf 47 = .ok (.aload_n 0, 1) := by decide +kernel
theorem dX12_pairsOf_48 : decode cX12_pairsOf 48 = .ok (.getfield 85, 3) := by decide +kernel
theorem dX12_pairsOf_51 : decode cX12_pairsOf 51 = .ok (.iload_n 1, 1) := by decide +kernel
theorem dX12_pairsOf_52 : decode cX12_pairsOf 52 = .ok (.iload_n 2, 1) := by decide +kernel
theorem dX12_pairsOf_53 : decode cX12_pairsOf 53 = .ok (.iload 6, 2) := by decide +kernel
theorem dX12_pairsOf_55 : decode cX12_pairsOf 55 = .ok (.iload 7, 2) := by decide +kernel
theorem dX12_pairsOf_57 : decode cX12_pairsOf 57 = .ok (.invokestatic 321, 3) := by decide +kernel
theorem dX12_pairsOf_60 : decode cX12_pairsOf 60 = .ok (.iaload, 1) := by decide +kernel
theorem dX12_pairsOf_61 : decode cX12_pairsOf 61 = .ok (.iadd, 1) := by decide +kernel
theorem dX12_pairsOf_62 : decode cX12_pairsOf 62 = .ok (.istore 5, 2) := by decide +kernel
theorem dX12_pairsOf_64 : decode cX12_pairsOf 64 = .ok (.iinc 7 1, 3) := by decide +kernel
theorem dX12_pairsOf_67 : decode cX12_pairsOf 67 = .ok (.goto (-52), 3) := by decide +kernel
theorem dX12_pairsOf_70 : decode cX12_pairsOf 70 = .ok (.iinc 6 1, 3) := by decide +kernel
theorem dX12_pairsOf_73 : decode cX12_pairsOf 73 = .ok (.goto (-67), 3) := by decide +kernel
theorem dX12_pairsOf_76 : decode cX12_pairsOf 76 = .ok (.iload 5, 2) := by decide +kernel
theorem dX12_pairsOf_78 : decode cX12_pairsOf 78 = .ok (.ireturn, 1) := by decide +kernel
theorem dX12_log_0 : decode cX12_log 0 = .ok (.iconst 0, 1) := by decide +kernel
theorem dX12_log_1 : decode cX12_log 1 = .ok (.istore_n 1, 1) := by decide +kernel
theorem dX12_log_2 : decode cX12_log 2 = .ok (.iload_n 0, 1) := by decide +kernel
theorem dX12_log_3 : decode cX12_log 3 = .ok (.iload_n 1, 1) := by decide +kernel
theorem dX12_log_4 : decode cX12_log 4 = .ok (.iconst 1, 1) := by decide +kernel
theorem dX12_log_5 : decode cX12_log 5 = .ok (.iadd, 1) := by decide +kernel
theorem dX12_log_6 : decode cX12_log 6 = .ok (.ishr, 1) := by decide +kernel
theorem dX12_log_7 : decode cX12_log 7 = .ok (.ifCond .le 9, 3) := by decide +kernel
theorem dX12_log_10 : decode cX12_log 10 = .ok (.iinc 1 1, 3) := by decide +kernel
theorem dX12_log_13 : decode cX12_log 13 = .ok (.goto (-11), 3) := by decide +kernel
theorem dX12_log_16 : decode cX12_log 16 = .ok (.bipush 64, 2) := by decide +kernel
theorem dX12_log_18 : decode cX12_log 18 = .ok (.iload_n 1, 1) := by decide +kernel
theorem dX12_log_19 : decode cX12_log 19 = .ok (.imul, 1) := by decide +kernel
theorem dX12_log_20 : decode cX12_log 20 = .ok (.bipush 64, 2) := by decide +kernel
theorem dX12_log_22 : decode cX12_log 22 = .ok (.iload_n 0, 1) := by decide +kernel
theorem dX12_log_23 : decode cX12_log 23 = .ok (.iconst 1, 1) := by decide +kernel
theorem dX12_log_24 : decode cX12_log 24 = .ok (.iload_n 1, 1) := by decide +kernel
theorem dX12_log_25 : decode cX12_log 25 = .ok (.ishl, 1) := by decide +kernel
theorem dX12_log_26 : decode cX12_log 26 = .ok (.isub, 1) := by decide +kernel
theorem dX12_log_27 : decode cX12_log 27 = .ok (.imul, 1) := by decide +kernel
theorem dX12_log_28 : decode cX12_log 28 = .ok (.iconst 1, 1) := by decide +kernel
theorem dX12_log_29 : decode cX12_log 29 = .ok (.iload_n 1, 1) := by decide +kernel
theorem dX12_log_30 : decode cX12_log 30 = .ok (.ishl, 1) := by decide +kernel
theorem dX12_log_31 : decode cX12_log 31 = .ok (.idiv, 1) := by decide +kernel
theorem dX12_log_32 : decode cX12_log 32 = .ok (.iadd, 1) := by decide +kernel
theorem dX12_log_33 : decode cX12_log 33 = .ok (.ireturn, 1) := by decide +kernel
theorem dX12_lay_0 : decode cX12_lay 0 = .ok (.aload_n 0, 1) := by decide +kernel
theorem dX12_lay_1 : decode cX12_lay 1 = .ok (.iload_n 1, 1) := by decide +kernel
theorem dX12_lay_2 : decode cX12_lay 2 = .ok (.invokevirtual 325, 3) := by decide +kernel
theorem dX12_lay_5 : decode cX12_lay 5 = .ok (.aload_n 0, 1) := by decide +kernel
theorem dX12_lay_6 : decode cX12_lay 6 = .ok (.invokevirtual 329, 3) := by decide +kernel
theorem dX12_lay_9 : decode cX12_lay 9 = .ok (.aload_n 0, 1) := by decide +kernel
theorem dX12_lay_10 : decode cX12_lay 10 = .ok (.invokevirtual 332, 3) := by decide +kernel
theorem dX12_lay_13 : decode cX12_lay 13 = .ok (.iconst 0, 1) := by decide +kernel
theorem dX12_lay_14 : decode cX12_lay 14 = .ok (.istore_n 2, 1) := by decide +kernel
theorem dX12_lay_15 : decode cX12_lay 15 = .ok (.iload_n 2, 1) := by decide +kernel
theorem dX12_lay_16 : decode cX12_lay 16 = .ok (.aload_n 0, 1) := by decide +kernel
theorem dX12_lay_17 : decode cX12_lay 17 = .ok (.getfield 197, 3) := by decide +kernel
theorem dX12_lay_20 : decode cX12_lay 20 = .ok (.if_icmp .ge 112, 3) := by decide +kernel
theorem dX12_lay_23 : decode cX12_lay 23 = .ok (.iconst 0, 1) := by decide +kernel
theorem dX12_lay_24 : decode cX12_lay 24 = .ok (.istore_n 3, 1) := by decide +kernel
theorem dX12_lay_25 : decode cX12_lay 25 = .ok (.iload_n 3, 1) := by decide +kernel
theorem dX12_lay_26 : decode cX12_lay 26 = .ok (.iconst 3, 1) := by decide +kernel
theorem dX12_lay_27 : decode cX12_lay 27 = .ok (.if_icmp .ge 99, 3) := by decide +kernel
theorem dX12_lay_30 : decode cX12_lay 30 = .ok (.iconst 0, 1) := by decide +kernel
theorem dX12_lay_31 : decode cX12_lay 31 = .ok (.istore 4, 2) := by decide +kernel
theorem dX12_lay_33 : decode cX12_lay 33 = .ok (.iload 4, 2) := by decide +kernel
theorem dX12_lay_35 : decode cX12_lay 35 = .ok (.iconst 4, 1) := by decide +kernel
theorem dX12_lay_36 : decode cX12_lay 36 = .ok (.if_icmp .ge 84, 3) := by decide +kernel
theorem dX12_lay_39 : decode cX12_lay 39 = .ok (.aload_n 0, 1) := by decide +kernel
theorem dX12_lay_40 : decode cX12_lay 40 = .ok (.getfield 88, 3) := by decide +kernel
theorem dX12_lay_43 : decode cX12_lay 43 = .ok (.bipush 12, 2) := by decide +kernel
theorem dX12_lay_45 : decode cX12_lay 45 = .ok (.iload_n 2, 1) := by decide +kernel
theorem dX12_lay_46 : decode cX12_lay 46 = .ok (.imul, 1) := by decide +kernel
theorem dX12_lay_47 : decode cX12_lay 47 = .ok (.iconst 4, 1) := by decide +kernel
theorem dX12_lay_48 : decode cX12_lay 48 = .ok (.iload_n 3, 1) := by decide +kernel
theorem dX12_lay_49 : decode cX12_lay 49 = .ok (.imul, 1) := by decide +kernel
theorem dX12_lay_50 : decode cX12_lay 50 = .ok (.iadd, 1) := by decide +kernel
theorem dX12_lay_51 : decode cX12_lay 51 = .ok (.iload 4, 2) := by decide +kernel
theorem dX12_lay_53 : decode cX12_lay 53 = .ok (.iadd, 1) := by decide +kernel
theorem dX12_lay_54 : decode cX12_lay 54 = .ok (.aload_n 0, 1) := by decide +kernel
theorem dX12_lay_55 : decode cX12_lay 55 = .ok (.iconst 0, 1) := by decide +kernel
theorem dX12_lay_56 : decode cX12_lay 56 = .ok (.iload_n 2, 1) := by decide +kernel
theorem dX12_lay_57 : decode cX12_lay 57 = .ok (.iload_n 3, 1) := by decide +kernel
theorem dX12_lay_58 : decode cX12_lay 58 = .ok (.iload 4, 2) := by decide +kernel
theorem dX12_lay_60 : decode cX12_lay 60 = .ok (.invokevirtual 335, 3) := by decide +kernel
theorem dX12_lay_63 : decode cX12_lay 63 = .ok (.iconst 1, 1) := by decide +kernel
theorem dX12_lay_64 : decode cX12_lay 64 = .ok (.iadd, 1) := by decide +kernel
theorem dX12_lay_65 : decode cX12_lay 65 = .ok (.invokestatic 338, 3) := by decide +kernel
theorem dX12_lay_68 : decode cX12_lay 68 = .ok (.aload_n 0, 1) := by decide +kernel
theorem dX12_lay_69 : decode cX12_lay 69 = .ok (.iconst 0, 1) := by decide +kernel
theorem dX12_lay_70 : decode cX12_lay 70 = .ok (.iload_n 2, 1) := by decide +kernel
theorem dX12_lay_71 : decode cX12_lay 71 = .ok (.iconst 3, 1) := by decide +kernel
theorem dX12_lay_72 : decode cX12_lay 72 = .ok (.iload 4, 2) := by decide +kernel
theorem dX12_lay_74 : decode cX12_lay 74 = .ok (.invokevirtual 335, 3) := by decide +kernel
theorem dX12_lay_77 : decode cX12_lay 77 = .ok (.iconst 3, 1) := by decide +kernel
theorem dX12_lay_78 : decode cX12_lay 78 = .ok (.iadd, 1) := by decide +kernel
theorem dX12_lay_79 : decode cX12_lay 79 = .ok (.invokestatic 338, 3) := by decide +kernel
theorem dX12_lay_82 : decode cX12_lay 82 = .ok (.isub, 1) := by decide +kernel
theorem dX12_lay_83 : decode cX12_lay 83 = .ok (.aload_n 0, 1) := by decide +kernel
theorem dX12_lay_84 : decode cX12_lay 84 = .ok (.iconst 1, 1) := by decide +kernel
theorem dX12_lay_85 : decode cX12_lay 85 = .ok (.iload_n 2, 1) := by decide +kernel
theorem dX12_lay_86 : decode cX12_lay 86 = .ok (.iload_n 3, 1) := by decide +kernel
theorem dX12_lay_87 : decode cX12_lay 87 = .ok (.iload 4, 2) := by decide +kernel
theorem dX12_lay_89 : decode cX12_lay 89 = .ok (.invokevirtual 335, 3) := by decide +kernel
theorem dX12_lay_92 : decode cX12_lay 92 = .ok (.iconst 1, 1) := by decide +kernel
theorem dX12_lay_93 : decode cX12_lay 93 = .ok (.iadd, 1) := by decide +kernel
theorem dX12_lay_94 : decode cX12_lay 94 = .ok (.invokestatic 338, 3) := by decide +kernel
theorem dX12_lay_97 : decode cX12_lay 97 = .ok (.isub, 1) := by decide +kernel
theorem dX12_lay_98 : decode cX12_lay 98 = .ok (.aload_n 0, 1) := by decide +kernel
theorem dX12_lay_99 : decode cX12_lay 99 = .ok (.iconst 1, 1) := by decide +kernel
theorem dX12_lay_100 : decode cX12_lay 100 = .ok (.iload_n 2, 1) := by decide +kernel
theorem dX12_lay_101 : decode cX12_lay 101 = .ok (.iconst 3, 1) := by decide +kernel
theorem dX12_lay_102 : decode cX12_lay 102 = .ok (.iload 4, 2) := by decide +kernel
theorem dX12_lay_104 : decode cX12_lay 104 = .ok (.invokevirtual 335, 3) := by decide +kernel
theorem dX12_lay_107 : decode cX12_lay 107 = .ok (.iconst 3, 1) := by decide +kernel
theorem dX12_lay_108 : decode cX12_lay 108 = .ok (.iadd, 1) := by decide +kernel
theorem dX12_lay_109 : decode cX12_lay 109 = .ok (.invokestatic 338, 3) := by decide +kernel
theorem dX12_lay_112 : decode cX12_lay 112 = .ok (.iadd, 1) := by decide +kernel
theorem dX12_lay_113 : decode cX12_lay 113 = .ok (.iastore, 1) := by decide +kernel
theorem dX12_lay_114 : decode cX12_lay 114 = .ok (.iinc 4 1, 3) := by decide +kernel
theorem dX12_lay_117 : decode cX12_lay 117 = .ok (.goto (-84), 3) := by decide +kernel
theorem dX12_lay_120 : decode cX12_lay 120 = .ok (.iinc 3 1, 3) := by decide +kernel
theorem dX12_lay_123 : decode cX12_lay 123 = .ok (.goto (-98), 3) := by decide +kernel
theorem dX12_lay_126 : decode cX12_lay 126 = .ok (.iinc 2 1, 3) := by decide +kernel
theorem dX12_lay_129 : decode cX12_lay 129 = .ok (.goto (-114), 3) := by decide +kernel
theorem dX12_lay_132 : decode cX12_lay 132 = .ok (.return_, 1) := by decide +kernel
theorem dX12_worthBy_0 : decode cX12_worthBy 0 = .ok (.aload_n 2, 1) := by decide +kernel
theorem dX12_worthBy_1 : decode cX12_worthBy 1 = .ok (.bipush 16, 2) := by decide +kernel
theorem dX12_worthBy_3 : decode cX12_worthBy 3 = .ok (.iload_n 3, 1) := by decide +kernel
theorem dX12_worthBy_4 : decode cX12_worthBy 4 = .ok (.imul, 1) := by decide +kernel
theorem dX12_worthBy_5 : decode cX12_worthBy 5 = .ok (.iload_n 1, 1) := by decide +kernel
theorem dX12_worthBy_6 : decode cX12_worthBy 6 = .ok (.iadd, 1) := by decide +kernel
theorem dX12_worthBy_7 : decode cX12_worthBy 7 = .ok (.iaload, 1) := by decide +kernel
theorem dX12_worthBy_8 : decode cX12_worthBy 8 = .ok (.aload 4, 2) := by decide +kernel
theorem dX12_worthBy_10 : decode cX12_worthBy 10 = .ok (.bipush 16, 2) := by decide +kernel
theorem dX12_worthBy_12 : decode cX12_worthBy 12 = .ok (.iload 5, 2) := by decide +kernel
theorem dX12_worthBy_14 : decode cX12_worthBy 14 = .ok (.imul, 1) := by decide +kernel
theorem dX12_worthBy_15 : decode cX12_worthBy 15 = .ok (.iload_n 1, 1) := by decide +kernel
theorem dX12_worthBy_16 : decode cX12_worthBy 16 = .ok (.iadd, 1) := by decide +kernel
theorem dX12_worthBy_17 : decode cX12_worthBy 17 = .ok (.iaload, 1) := by decide +kernel
theorem dX12_worthBy_18 : decode cX12_worthBy 18 = .ok (.invokestatic 314, 3) := by decide +kernel
theorem dX12_worthBy_21 : decode cX12_worthBy 21 = .ok (.istore 6, 2) := by decide +kernel
theorem dX12_worthBy_23 : decode cX12_worthBy 23 = .ok (.iload 6, 2) := by decide +kernel
theorem dX12_worthBy_25 : decode cX12_worthBy 25 = .ok (.iconst 3, 1) := by decide +kernel
theorem dX12_worthBy_26 : decode cX12_worthBy 26 = .ok (.if_icmp .ne 5, 3) := by decide +kernel
theorem dX12_worthBy_29 : decode cX12_worthBy 29 = .ok (.iconst 0, 1) := by decide +kernel
theorem dX12_worthBy_30 : decode cX12_worthBy 30 = .ok (.ireturn, 1) := by decide +kernel
theorem dX12_worthBy_31 : decode cX12_worthBy 31 = .ok (.aload_n 0, 1) := by decide +kernel
theorem dX12_worthBy_32 : decode cX12_worthBy 32 = .ok (.getfield 82, 3) := by decide +kernel
theorem dX12_worthBy_35 : decode cX12_worthBy 35 = .ok (.iload_n 1, 1) := by decide +kernel
theorem dX12_worthBy_36 : decode cX12_worthBy 36 = .ok (.iaload, 1) := by decide +kernel
theorem dX12_worthBy_37 : decode cX12_worthBy 37 = .ok (.istore 7, 2) := by decide +kernel
theorem dX12_worthBy_39 : decode cX12_worthBy 39 = .ok (.aload_n 0, 1) := by decide +kernel
theorem dX12_worthBy_40 : decode cX12_worthBy 40 = .ok (.getfield 88, 3) := by decide +kernel
theorem dX12_worthBy_43 : decode cX12_worthBy 43 = .ok (.bipush 12, 2) := by decide +kernel
theorem dX12_worthBy_45 : decode cX12_worthBy 45 = .ok (.iload_n 1, 1) := by decide +kernel
theorem dX12_worthBy_46 : decode cX12_worthBy 46 = .ok (.imul, 1) := by decide +kernel
theorem dX12_worthBy_47 : decode cX12_worthBy 47 = .ok (.iconst 4, 1) := by decide +kernel
theorem dX12_worthBy_48 : decode cX12_worthBy 48 = .ok (.iload 6, 2) := by decide +kernel
theorem dX12_worthBy_50 : decode cX12_worthBy 50 = .ok (.imul, 1) := by decide +kernel
theorem dX12_worthBy_51 : decode cX12_worthBy 51 = .ok (.iadd, 1) := by decide +kernel
theorem dX12_worthBy_52 : decode cX12_worthBy 52 = .ok (.iload 7, 2) := by decide +kernel
theorem dX12_worthBy_54 : decode cX12_worthBy 54 = .ok (.iconst (-1), 1) := by decide +kernel
theorem dX12_worthBy_55 : decode cX12_worthBy 55 = .ok (.if_icmp .ne 7, 3) := by decide +kernel
theorem dX12_worthBy_58 : decode cX12_worthBy 58 = .ok (.iconst 3, 1) := by decide +kernel
theorem dX12_worthBy_59 : decode cX12_worthBy 59 = .ok (.goto 26, 3) := by decide +kernel
theorem dX12_worthBy_62 : decode cX12_worthBy 62 = .ok (.aload_n 2, 1) := by decide +kernel
theorem dX12_worthBy_63 : decode cX12_worthBy 63 = .ok (.bipush 16, 2) := by decide +kernel
theorem dX12_worthBy_65 : decode cX12_worthBy 65 = .ok (.iload_n 3, 1) := by decide +kernel
theorem dX12_worthBy_66 : decode cX12_worthBy 66 = .ok (.imul, 1) := by decide +kernel
theorem dX12_worthBy_67 : decode cX12_worthBy 67 = .ok (.iload 7, 2) := by decide +kernel
theorem dX12_worthBy_69 : decode cX12_worthBy 69 = .ok (.iadd, 1) := by decide +kernel
theorem dX12_worthBy_70 : decode cX12_worthBy 70 = .ok (.iaload, 1) := by decide +kernel
theorem dX12_worthBy_71 : decode cX12_worthBy 71 = .ok (.aload 4, 2) := by decide +kernel
theorem dX12_worthBy_73 : decode cX12_worthBy 73 = .ok (.bipush 16, 2) := by decide +kernel
theorem dX12_worthBy_75 : decode cX12_worthBy 75 = .ok (.iload 5, 2) := by decide +kernel
theorem dX12_worthBy_77 : decode cX12_worthBy 77 = .ok (.imul, 1) := by decide +kernel
theorem dX12_worthBy_78 : decode cX12_worthBy 78 = .ok (.iload 7, 2) := by decide +kernel
theorem dX12_worthBy_80 : decode cX12_worthBy 80 = .ok (.iadd, 1) := by decide +kernel
theorem dX12_worthBy_81 : decode cX12_worthBy 81 = .ok (.iaload, 1) := by decide +kernel
theorem dX12_worthBy_82 : decode cX12_worthBy 82 = .ok (.invokestatic 314, 3) := by decide +kernel
theorem dX12_worthBy_85 : decode cX12_worthBy 85 = .ok (.iadd, 1) := by decide +kernel
theorem dX12_worthBy_86 : decode cX12_worthBy 86 = .ok (.iaload, 1) := by decide +kernel
theorem dX12_worthBy_87 : decode cX12_worthBy 87 = .ok (.ireturn, 1) := by decide +kernel
theorem dX12_worthOf_0 : decode cX12_worthOf 0 = .ok (.iconst 0, 1) := by decide +kernel
theorem dX12_worthOf_1 : decode cX12_worthOf 1 = .ok (.istore 5, 2) := by decide +kernel
theorem dX12_worthOf_3 : decode cX12_worthOf 3 = .ok (.iconst 0, 1) := by decide +kernel
theorem dX12_worthOf_4 : decode cX12_worthOf 4 = .ok (.istore 6, 2) := by decide +kernel
theorem dX12_worthOf_6 : decode cX12_worthOf 6 = .ok (.iload 6, 2) := by decide +kernel
theorem dX12_worthOf_8 : decode cX12_worthOf 8 = .ok (.aload_n 0, 1) := by decide +kernel
theorem dX12_worthOf_9 : decode cX12_worthOf 9 = .ok (.getfield 197, 3) := by decide +kernel
theorem dX12_worthOf_12 : decode cX12_worthOf 12 = .ok (.if_icmp .ge 25, 3) := by decide +kernel
theorem dX12_worthOf_15 : decode cX12_worthOf 15 = .ok (.iload 5, 2) := by decide +kernel
theorem dX12_worthOf_17 : decode cX12_worthOf 17 = .ok (.aload_n 0, 1) := by decide +kernel
theorem dX12_worthOf_18 : decode cX12_worthOf 18 = .ok (.iload 6, 2) := by decide +kernel
theorem dX12_worthOf_20 : decode cX12_worthOf 20 = .ok (.aload_n 1, 1) := by decide +kernel
theorem dX12_worthOf_21 : decode cX12_worthOf 21 = .ok (.iload_n 2, 1) := by decide +kernel
theorem dX12_worthOf_22 : decode cX12_worthOf 22 = .ok (.aload_n 3, 1) := by decide +kernel
theorem dX12_worthOf_23 : decode cX12_worthOf 23 = .ok (.iload 4, 2) := by decide +kernel
theorem dX12_worthOf_25 : decode cX12_worthOf 25 = .ok (.invokevirtual 341, 3) := by decide +kernel
theorem dX12_worthOf_28 : decode cX12_worthOf 28 = .ok (.iadd, 1) := by decide +kernel
theorem dX12_worthOf_29 : decode cX12_worthOf 29 = .ok (.istore 5, 2) := by decide +kernel
theorem dX12_worthOf_31 : decode cX12_worthOf 31 = .ok (.iinc 6 1, 3) := by decide +kernel
theorem dX12_worthOf_34 : decode cX12_worthOf 34 = .ok (.goto (-28), 3) := by decide +kernel
theorem dX12_worthOf_37 : decode cX12_worthOf 37 = .ok (.iload 5, 2) := by decide +kernel
theorem dX12_worthOf_39 : decode cX12_worthOf 39 = .ok (.ireturn, 1) := by decide +kernel
theorem dX12_worthOf__0 : decode cX12_worthOf_ 0 = .ok (.aload_n 0, 1) := by decide +kernel
theorem dX12_worthOf__1 : decode cX12_worthOf_ 1 = .ok (.aload_n 0, 1) := by decide +kernel
theorem dX12_worthOf__2 : decode cX12_worthOf_ 2 = .ok (.getfield 76, 3) := by decide +kernel
theorem dX12_worthOf__5 : decode cX12_worthOf_ 5 = .ok (.iload_n 1, 1) := by decide +kernel
theorem dX12_worthOf__6 : decode cX12_worthOf_ 6 = .ok (.aload_n 0, 1) := by decide +kernel
theorem dX12_worthOf__7 : decode cX12_worthOf_ 7 = .ok (.getfield 76, 3) := by decide +kernel
theorem dX12_worthOf__10 : decode cX12_worthOf_ 10 = .ok (.iload_n 2, 1) := by decide +kernel
theorem dX12_worthOf__11 : decode cX12_worthOf_ 11 = .ok (.invokevirtual 345, 3) := by decide +kernel
theorem dX12_worthOf__14 : decode cX12_worthOf_ 14 = .ok (.ireturn, 1) := by decide +kernel
theorem dX12_count_0 : decode cX12_count 0 = .ok (.aload_n 0, 1) := by decide +kernel
theorem dX12_count_1 : decode cX12_count 1 = .ok (.iconst 0, 1) := by decide +kernel
theorem dX12_count_2 : decode cX12_count 2 = .ok (.putfield 185, 3) := by decide +kernel
theorem dX12_count_5 : decode cX12_count 5 = .ok (.aload_n 0, 1) := by decide +kernel
theorem dX12_count_6 : decode cX12_count 6 = .ok (.iload_n 1, 1) := by decide +kernel
theorem dX12_count_7 : decode cX12_count 7 = .ok (.invokevirtual 249, 3) := by decide +kernel
theorem dX12_count_10 : decode cX12_count 10 = .ok (.ifCond .ne 9, 3) := by decide +kernel
theorem dX12_count_13 : decode cX12_count 13 = .ok (.aload_n 0, 1) := by decide +kernel
theorem dX12_count_14 : decode cX12_count 14 = .ok (.iconst 1, 1) := by decide +kernel
theorem dX12_count_15 : decode cX12_count 15 = .ok (.invokevirtual 226, 3) := by decide +kernel
theorem dX12_count_18 : decode cX12_count 18 = .ok (.ireturn, 1) := by decide +kernel
theorem dX12_count_19 : decode cX12_count 19 = .ok (.iload_n 3, 1) := by decide +kernel
theorem dX12_count_20 : decode cX12_count 20 = .ok (.i2l, 1) := by decide +kernel
theorem dX12_count_21 : decode cX12_count 21 = .ok (.lconst 0, 1) := by decide +kernel
theorem dX12_count_22 : decode cX12_count 22 = .ok (.ldc2_w 252, 3) := by decide +kernel
theorem dX12_count_25 : decode cX12_count 25 = .ok (.invokestatic 190, 3) := by decide +kernel
theorem dX12_count_28 : decode cX12_count 28 = .ok (.ifCond .ne 9, 3) := by decide +kernel
theorem dX12_count_31 : decode cX12_count 31 = .ok (.aload_n 0, 1) := by decide +kernel
theorem dX12_count_32 : decode cX12_count 32 = .ok (.iconst 2, 1) := by decide +kernel
theorem dX12_count_33 : decode cX12_count 33 = .ok (.invokevirtual 226, 3) := by decide +kernel
theorem dX12_count_36 : decode cX12_count 36 = .ok (.ireturn, 1) := by decide +kernel
theorem dX12_count_37 : decode cX12_count 37 = .ok (.aload_n 0, 1) := by decide +kernel
theorem dX12_count_38 : decode cX12_count 38 = .ok (.iload 4, 2) := by decide +kernel
theorem dX12_count_40 : decode cX12_count 40 = .ok (.invokevirtual 349, 3) := by decide +kernel
theorem dX12_count_43 : decode cX12_count 43 = .ok (.aload_n 0, 1) := by decide +kernel
theorem dX12_count_44 : decode cX12_count 44 = .ok (.iload_n 2, 1) := by decide +kernel
theorem dX12_count_45 : decode cX12_count 45 = .ok (.ifCond .eq 7, 3) := by decide +kernel
theorem dX12_count_48 : decode cX12_count 48 = .ok (.iconst 0, 1) := by decide +kernel
theorem dX12_count_49 : decode cX12_count 49 = .ok (.goto 4, 3) := by decide +kernel
theorem dX12_count_52 : decode cX12_count 52 = .ok (.iconst 1, 1) := by decide +kernel
theorem dX12_count_53 : decode cX12_count 53 = .ok (.iload_n 1, 1) := by decide +kernel
theorem dX12_count_54 : decode cX12_count 54 = .ok (.iload_n 3, 1) := by decide +kernel
theorem dX12_count_55 : decode cX12_count 55 = .ok (.iconst 3, 1) := by decide +kernel
theorem dX12_count_56 : decode cX12_count 56 = .ok (.invokevirtual 335, 3) := by decide +kernel
theorem dX12_count_59 : decode cX12_count 59 = .ok (.ireturn, 1) := by decide +kernel
theorem dX12_span_0 : decode cX12_span 0 = .ok (.aload_n 0, 1) := by decide +kernel
theorem dX12_span_1 : decode cX12_span 1 = .ok (.iconst 0, 1) := by decide +kernel
theorem dX12_span_2 : decode cX12_span 2 = .ok (.putfield 185, 3) := by decide +kernel
theorem dX12_span_5 : decode cX12_span 5 = .ok (.aload_n 0, 1) := by decide +kernel
theorem dX12_span_6 : decode cX12_span 6 = .ok (.iload_n 1, 1) := by decide +kernel
theorem dX12_span_7 : decode cX12_span 7 = .ok (.invokevirtual 249, 3) := by decide +kernel
theorem dX12_span_10 : decode cX12_span 10 = .ok (.ifCond .ne 9, 3) := by decide +kernel
theorem dX12_span_13 : decode cX12_span 13 = .ok (.aload_n 0, 1) := by decide +kernel
theorem dX12_span_14 : decode cX12_span 14 = .ok (.iconst 1, 1) := by decide +kernel
theorem dX12_span_15 : decode cX12_span 15 = .ok (.invokevirtual 226, 3) := by decide +kernel
theorem dX12_span_18 : decode cX12_span 18 = .ok (.ireturn, 1) := by decide +kernel
theorem dX12_span_19 : decode cX12_span 19 = .ok (.iload_n 3, 1) := by decide +kernel
theorem dX12_span_20 : decode cX12_span 20 = .ok (.i2l, 1) := by decide +kernel
theorem dX12_span_21 : decode cX12_span 21 = .ok (.lconst 0, 1) := by decide +kernel
theorem dX12_span_22 : decode cX12_span 22 = .ok (.ldc2_w 352, 3) := by decide +kernel
theorem dX12_span_25 : decode cX12_span 25 = .ok (.invokestatic 190, 3) := by decide +kernel
theorem dX12_span_28 : decode cX12_span 28 = .ok (.ifCond .ne 9, 3) := by decide +kernel
theorem dX12_span_31 : decode cX12_span 31 = .ok (.aload_n 0, 1) := by decide +kernel
theorem dX12_span_32 : decode cX12_span 32 = .ok (.iconst 2, 1) := by decide +kernel
theorem dX12_span_33 : decode cX12_span 33 = .ok (.invokevirtual 226, 3) := by decide +kernel
theorem dX12_span_36 : decode cX12_span 36 = .ok (.ireturn, 1) := by decide +kernel
theorem dX12_span_37 : decode cX12_span 37 = .ok (.aload_n 0, 1) := by decide +kernel
theorem dX12_span_38 : decode cX12_span 38 = .ok (.iload 4, 2) := by decide +kernel
theorem dX12_span_40 : decode cX12_span 40 = .ok (.invokevirtual 349, 3) := by decide +kernel
theorem dX12_span_43 : decode cX12_span 43 = .ok (.aload_n 0, 1) := by decide +kernel
theorem dX12_span_44 : decode cX12_span 44 = .ok (.iload_n 2, 1) := by decide +kernel
theorem dX12_span_45 : decode cX12_span 45 = .ok (.ifCond .eq 7, 3) := by decide +kernel
theorem dX12_span_48 : decode cX12_span 48 = .ok (.iconst 0, 1) := by decide +kernel
theorem dX12_span_49 : decode cX12_span 49 = .ok (.goto 4, 3) := by decide +kernel
theorem dX12_span_52 : decode cX12_span 52 = .ok (.iconst 1, 1) := by decide +kernel
theorem dX12_span_53 : decode cX12_span 53 = .ok (.iload_n 1, 1) := by decide +kernel
theorem dX12_span_54 : decode cX12_span 54 = .ok (.iload_n 3, 1) := by decide +kernel
theorem dX12_span_55 : decode cX12_span 55 = .ok (.iconst 3, 1) := by decide +kernel
theorem dX12_span_56 : decode cX12_span 56 = .ok (.invokevirtual 335, 3) := by decide +kernel
theorem dX12_span_59 : decode cX12_span 59 = .ok (.istore 6, 2) := by decide +kernel
theorem dX12_span_61 : decode cX12_span 61 = .ok (.aload_n 0, 1) := by decide +kernel
theorem dX12_span_62 : decode cX12_span 62 = .ok (.iload_n 2, 1) := by decide +kernel
theorem dX12_span_63 : decode cX12_span 63 = .ok (.ifCond .eq 7, 3) := by decide +kernel
theorem dX12_span_66 : decode cX12_span 66 = .ok (.iconst 0, 1) := by decide +kernel
theorem dX12_span_67 : decode cX12_span 67 = .ok (.goto 4, 3) := by decide +kernel
theorem dX12_span_70 : decode cX12_span 70 = .ok (.iconst 1, 1) := by decide +kernel
theorem dX12_span_71 : decode cX12_span 71 = .ok (.iload_n 1, 1) := by decide +kernel
theorem dX12_span_72 : decode cX12_span 72 = .ok (.iconst 3, 1) := by decide +kernel
theorem dX12_span_73 : decode cX12_span 73 = .ok (.iconst 3, 1) := by decide +kernel
theorem dX12_span_74 : decode cX12_span 74 = .ok (.invokevirtual 335, 3) := by decide +kernel
theorem dX12_span_77 : decode cX12_span 77 = .ok (.iconst 2, 1) := by decide +kernel
theorem dX12_span_78 : decode cX12_span 78 = .ok (.iadd, 1) := by decide +kernel
theorem dX12_span_79 : decode cX12_span 79 = .ok (.istore 7, 2) := by decide +kernel
theorem dX12_span_81 : decode cX12_span 81 = .ok (.iload 5, 2) := by decide +kernel
theorem dX12_span_83 : decode cX12_span 83 = .ok (.ifCond .eq 22, 3) := by decide +kernel
theorem dX12_span_86 : decode cX12_span 86 = .ok (.sipush 1000, 3) := by decide +kernel
theorem dX12_span_89 : decode cX12_span 89 = .ok (.iload 6, 2) := by decide +kernel
theorem dX12_span_91 : decode cX12_span 91 = .ok (.iconst 2, 1) := by decide +kernel
theorem dX12_span_92 : decode cX12_span 92 = .ok (.iadd, 1) := by decide +kernel
theorem dX12_span_93 : decode cX12_span 93 = .ok (.imul, 1) := by decide +kernel
theorem dX12_span_94 : decode cX12_span 94 = .ok (.iload 7, 2) := by decide +kernel
theorem dX12_span_96 : decode cX12_span 96 = .ok (.iadd, 1) := by decide +kernel
theorem dX12_span_97 : decode cX12_span 97 = .ok (.iconst 1, 1) := by decide +kernel
theorem dX12_span_98 : decode cX12_span 98 = .ok (.isub, 1) := by decide +kernel
theorem dX12_span_99 : decode cX12_span 99 = .ok (.iload 7, 2) := by decide +kernel
theorem dX12_span_101 : decode cX12_span 101 = .ok (.idiv, 1) := by decide +kernel
theorem dX12_span_102 : decode cX12_span 102 = .ok (.goto 12, 3) := by decide +kernel
theorem dX12_span_105 : decode cX12_span 105 = .ok (.sipush 1000, 3) := by decide +kernel
theorem dX12_span_108 : decode cX12_span 108 = .ok (.iload 6, 2) := by decide +kernel
theorem dX12_span_110 : decode cX12_span 110 = .ok (.imul, 1) := by decide +kernel
theorem dX12_span_111 : decode cX12_span 111 = .ok (.iload 7, 2) := by decide +kernel
theorem dX12_span_113 : decode cX12_span 113 = .ok (.idiv, 1) := by decide +kernel
theorem dX12_span_114 : decode cX12_span 114 = .ok (.ireturn, 1) := by decide +kernel
theorem dX12_weight_0 : decode cX12_weight 0 = .ok (.aload_n 0, 1) := by decide +kernel
theorem dX12_weight_1 : decode cX12_weight 1 = .ok (.iconst 0, 1) := by decide +kernel
theorem dX12_weight_2 : decode cX12_weight 2 = .ok (.putfield 185, 3) := by decide +kernel
theorem dX12_weight_5 : decode cX12_weight 5 = .ok (.aload_n 0, 1) := by decide +kernel
theorem dX12_weight_6 : decode cX12_weight 6 = .ok (.iload_n 1, 1) := by decide +kernel
theorem dX12_weight_7 : decode cX12_weight 7 = .ok (.invokevirtual 249, 3) := by decide +kernel
theorem dX12_weight_10 : decode cX12_weight 10 = .ok (.ifCond .eq 11, 3) := by decide +kernel
theorem dX12_weight_13 : decode cX12_weight 13 = .ok (.aload_n 0, 1) := by decide +kernel
theorem dX12_weight_14 : decode cX12_weight 14 = .ok (.iload_n 2, 1) := by decide +kernel
theorem dX12_weight_15 : decode cX12_weight 15 = .ok (.invokevirtual 249, 3) := by decide +kernel
theorem dX12_weight_18 : decode cX12_weight 18 = .ok (.ifCond .ne 9, 3) := by decide +kernel
theorem dX12_weight_21 : decode cX12_weight 21 = .ok (.aload_n 0, 1) := by decide +kernel
theorem dX12_weight_22 : decode cX12_weight 22 = .ok (.iconst 1, 1) := by decide +kernel
theorem dX12_weight_23 : decode cX12_weight 23 = .ok (.invokevirtual 226, 3) := by decide +kernel
theorem dX12_weight_26 : decode cX12_weight 26 = .ok (.ireturn, 1) := by decide +kernel
theorem dX12_weight_27 : decode cX12_weight 27 = .ok (.iload_n 1, 1) := by decide +kernel
theorem dX12_weight_28 : decode cX12_weight 28 = .ok (.iload_n 2, 1) := by decide +kernel
theorem dX12_weight_29 : decode cX12_weight 29 = .ok (.if_icmp .ne 9, 3) := by decide +kernel
theorem dX12_weight_32 : decode cX12_weight 32 = .ok (.aload_n 0, 1) := by decide +kernel
theorem dX12_weight_33 : decode cX12_weight 33 = .ok (.iconst 2, 1) := by decide +kernel
theorem dX12_weight_34 : decode cX12_weight 34 = .ok (.invokevirtual 226, 3) := by decide +kernel
theorem dX12_weight_37 : decode cX12_weight 37 = .ok (.ireturn, 1) := by decide +kernel
theorem dX12_weight_38 : decode cX12_weight 38 = .ok (.aload_n 0, 1) := by decide +kernel
theorem dX12_weight_39 : decode cX12_weight 39 = .ok (.iload_n 3, 1) := by decide +kernel
theorem dX12_weight_40 : decode cX12_weight 40 = .ok (.invokevirtual 325, 3) := by decide +kernel
theorem dX12_weight_43 : decode cX12_weight 43 = .ok (.aload_n 0, 1) := by decide +kernel
theorem dX12_weight_44 : decode cX12_weight 44 = .ok (.iload_n 1, 1) := by decide +kernel
theorem dX12_weight_45 : decode cX12_weight 45 = .ok (.iload_n 2, 1) := by decide +kernel
theorem dX12_weight_46 : decode cX12_weight 46 = .ok (.invokevirtual 308, 3) := by decide +kernel
theorem dX12_weight_49 : decode cX12_weight 49 = .ok (.ireturn, 1) := by decide +kernel
theorem dX12_parent_0 : decode cX12_parent 0 = .ok (.aload_n 0, 1) := by decide +kernel
theorem dX12_parent_1 : decode cX12_parent 1 = .ok (.iconst 0, 1) := by decide +kernel
theorem dX12_parent_2 : decode cX12_parent 2 = .ok (.putfield 185, 3) := by decide +kernel
theorem dX12_parent_5 : decode cX12_parent 5 = .ok (.aload_n 0, 1) := by decide +kernel
theorem dX12_parent_6 : decode cX12_parent 6 = .ok (.iload_n 1, 1) := by decide +kernel
theorem dX12_parent_7 : decode cX12_parent 7 = .ok (.invokevirtual 249, 3) := by decide +kernel
theorem dX12_parent_10 : decode cX12_parent 10 = .ok (.ifCond .ne 9, 3) := by decide +kernel
theorem dX12_parent_13 : decode cX12_parent 13 = .ok (.aload_n 0, 1) := by decide +kernel
theorem dX12_parent_14 : decode cX12_parent 14 = .ok (.iconst 1, 1) := by decide +kernel
theorem dX12_parent_15 : decode cX12_parent 15 = .ok (.invokevirtual 226, 3) := by decide +kernel
theorem dX12_parent_18 : decode cX12_parent 18 = .ok (.ireturn, 1) := by decide +kernel
theorem dX12_parent_19 : decode cX12_parent 19 = .ok (.aload_n 0, 1) := by decide +kernel
theorem dX12_parent_20 : decode cX12_parent 20 = .ok (.iload_n 2, 1) := by decide +kernel
theorem dX12_parent_21 : decode cX12_parent 21 = .ok (.invokevirtual 349, 3) := by decide +kernel
theorem dX12_parent_24 : decode cX12_parent 24 = .ok (.aload_n 0, 1) := by decide +kernel
theorem dX12_parent_25 : decode cX12_parent 25 = .ok (.getfield 82, 3) := by decide +kernel
theorem dX12_parent_28 : decode cX12_parent 28 = .ok (.iload_n 1, 1) := by decide +kernel
theorem dX12_parent_29 : decode cX12_parent 29 = .ok (.iaload, 1) := by decide +kernel
theorem dX12_parent_30 : decode cX12_parent 30 = .ok (.ireturn, 1) := by decide +kernel
theorem dX12_worth_0 : decode cX12_worth 0 = .ok (.aload_n 0, 1) := by decide +kernel
theorem dX12_worth_1 : decode cX12_worth 1 = .ok (.iconst 0, 1) := by decide +kernel
theorem dX12_worth_2 : decode cX12_worth 2 = .ok (.putfield 185, 3) := by decide +kernel
theorem dX12_worth_5 : decode cX12_worth 5 = .ok (.aload_n 0, 1) := by decide +kernel
theorem dX12_worth_6 : decode cX12_worth 6 = .ok (.iload_n 1, 1) := by decide +kernel
theorem dX12_worth_7 : decode cX12_worth 7 = .ok (.invokevirtual 206, 3) := by decide +kernel
theorem dX12_worth_10 : decode cX12_worth 10 = .ok (.ifCond .eq 11, 3) := by decide +kernel
theorem dX12_worth_13 : decode cX12_worth 13 = .ok (.aload_n 0, 1) := by decide +kernel
theorem dX12_worth_14 : decode cX12_worth 14 = .ok (.iload_n 2, 1) := by decide +kernel
theorem dX12_worth_15 : decode cX12_worth 15 = .ok (.invokevirtual 206, 3) := by decide +kernel
theorem dX12_worth_18 : decode cX12_worth 18 = .ok (.ifCond .ne 9, 3) := by decide +kernel
theorem dX12_worth_21 : decode cX12_worth 21 = .ok (.aload_n 0, 1) := by decide +kernel
theorem dX12_worth_22 : decode cX12_worth 22 = .ok (.iconst 1, 1) := by decide +kernel
theorem dX12_worth_23 : decode cX12_worth 23 = .ok (.invokevirtual 226, 3) := by decide +kernel
theorem dX12_worth_26 : decode cX12_worth 26 = .ok (.ireturn, 1) := by decide +kernel
theorem dX12_worth_27 : decode cX12_worth 27 = .ok (.iload_n 1, 1) := by decide +kernel
theorem dX12_worth_28 : decode cX12_worth 28 = .ok (.iload_n 2, 1) := by decide +kernel
theorem dX12_worth_29 : decode cX12_worth 29 = .ok (.if_icmp .ne 9, 3) := by decide +kernel
theorem dX12_worth_32 : decode cX12_worth 32 = .ok (.aload_n 0, 1) := by decide +kernel
theorem dX12_worth_33 : decode cX12_worth 33 = .ok (.iconst 2, 1) := by decide +kernel
theorem dX12_worth_34 : decode cX12_worth 34 = .ok (.invokevirtual 226, 3) := by decide +kernel
theorem dX12_worth_37 : decode cX12_worth 37 = .ok (.ireturn, 1) := by decide +kernel
theorem dX12_worth_38 : decode cX12_worth 38 = .ok (.aload_n 0, 1) := by decide +kernel
theorem dX12_worth_39 : decode cX12_worth 39 = .ok (.iload_n 3, 1) := by decide +kernel
theorem dX12_worth_40 : decode cX12_worth 40 = .ok (.invokevirtual 349, 3) := by decide +kernel
theorem dX12_worth_43 : decode cX12_worth 43 = .ok (.aload_n 0, 1) := by decide +kernel
theorem dX12_worth_44 : decode cX12_worth 44 = .ok (.iload_n 1, 1) := by decide +kernel
theorem dX12_worth_45 : decode cX12_worth 45 = .ok (.iload_n 2, 1) := by decide +kernel
theorem dX12_worth_46 : decode cX12_worth 46 = .ok (.invokevirtual 354, 3) := by decide +kernel
theorem dX12_worth_49 : decode cX12_worth 49 = .ok (.ireturn, 1) := by decide +kernel
theorem dX12_by_0 : decode cX12_by 0 = .ok (.aload_n 0, 1) := by decide +kernel
theorem dX12_by_1 : decode cX12_by 1 = .ok (.iconst 0, 1) := by decide +kernel
theorem dX12_by_2 : decode cX12_by 2 = .ok (.putfield 185, 3) := by decide +kernel
theorem dX12_by_5 : decode cX12_by 5 = .ok (.aload_n 0, 1) := by decide +kernel
theorem dX12_by_6 : decode cX12_by 6 = .ok (.iload_n 1, 1) := by decide +kernel
theorem dX12_by_7 : decode cX12_by 7 = .ok (.invokevirtual 206, 3) := by decide +kernel
theorem dX12_by_10 : decode cX12_by 10 = .ok (.ifCond .eq 19, 3) := by decide +kernel
theorem dX12_by_13 : decode cX12_by 13 = .ok (.aload_n 0, 1) := by decide +kernel
theorem dX12_by_14 : decode cX12_by 14 = .ok (.iload_n 2, 1) := by decide +kernel
theorem dX12_by_15 : decode cX12_by 15 = .ok (.invokevirtual 206, 3) := by decide +kernel
theorem dX12_by_18 : decode cX12_by 18 = .ok (.ifCond .eq 11, 3) := by decide +kernel
theorem dX12_by_21 : decode cX12_by 21 = .ok (.aload_n 0, 1) := by decide +kernel
theorem dX12_by_22 : decode cX12_by 22 = .ok (.iload_n 3, 1) := by decide +kernel
theorem dX12_by_23 : decode cX12_by 23 = .ok (.invokevirtual 249, 3) := by decide +kernel
theorem dX12_by_26 : decode cX12_by 26 = .ok (.ifCond .ne 9, 3) := by decide +kernel
theorem dX12_by_29 : decode cX12_by 29 = .ok (.aload_n 0, 1) := by decide +kernel
theorem dX12_by_30 : decode cX12_by 30 = .ok (.iconst 1, 1) := by decide +kernel
theorem dX12_by_31 : decode cX12_by 31 = .ok (.invokevirtual 226, 3) := by decide +kernel
theorem dX12_by_34 : decode cX12_by 34 = .ok (.ireturn, 1) := by decide +kernel
theorem dX12_by_35 : decode cX12_by 35 = .ok (.iload_n 1, 1) := by decide +kernel
theorem dX12_by_36 : decode cX12_by 36 = .ok (.iload_n 2, 1) := by decide +kernel
theorem dX12_by_37 : decode cX12_by 37 = .ok (.if_icmp .ne 9, 3) := by decide +kernel
theorem dX12_by_40 : decode cX12_by 40 = .ok (.aload_n 0, 1) := by decide +kernel
theorem dX12_by_41 : decode cX12_by 41 = .ok (.iconst 2, 1) := by decide +kernel
theorem dX12_by_42 : decode cX12_by 42 = .ok (.invokevirtual 226, 3) := by decide +kernel
theorem dX12_by_45 : decode cX12_by 45 = .ok (.ireturn, 1) := by decide +kernel
theorem dX12_by_46 : decode cX12_by 46 = .ok (.aload_n 0, 1) := by decide +kernel
theorem dX12_by_47 : decode cX12_by 47 = .ok (.iload 4, 2) := by decide +kernel
theorem dX12_by_49 : decode cX12_by 49 = .ok (.invokevirtual 349, 3) := by decide +kernel
theorem dX12_by_52 : decode cX12_by 52 = .ok (.aload_n 0, 1) := by decide +kernel
theorem dX12_by_53 : decode cX12_by 53 = .ok (.iload_n 3, 1) := by decide +kernel
theorem dX12_by_54 : decode cX12_by 54 = .ok (.aload_n 0, 1) := by decide +kernel
theorem dX12_by_55 : decode cX12_by 55 = .ok (.getfield 76, 3) := by decide +kernel
theorem dX12_by_58 : decode cX12_by 58 = .ok (.iload_n 1, 1) := by decide +kernel
theorem dX12_by_59 : decode cX12_by 59 = .ok (.aload_n 0, 1) := by decide +kernel
theorem dX12_by_60 : decode cX12_by 60 = .ok (.getfield 76, 3) := by decide +kernel
theorem dX12_by_63 : decode cX12_by 63 = .ok (.iload_n 2, 1) := by decide +kernel
theorem dX12_by_64 : decode cX12_by 64 = .ok (.invokevirtual 341, 3) := by decide +kernel
theorem dX12_by_67 : decode cX12_by 67 = .ok (.ireturn, 1) := by decide +kernel
theorem dX12_gathers_0 : decode cX12_gathers 0 = .ok (.aload_n 0, 1) := by decide +kernel
theorem dX12_gathers_1 : decode cX12_gathers 1 = .ok (.iconst 0, 1) := by decide +kernel
theorem dX12_gathers_2 : decode cX12_gathers 2 = .ok (.putfield 356, 3) := by decide +kernel
theorem dX12_gathers_5 : decode cX12_gathers 5 = .ok (.lload_n 1, 1) := by decide +kernel
theorem dX12_gathers_6 : decode cX12_gathers 6 = .ok (.lconst 0, 1) := by decide +kernel
theorem dX12_gathers_7 : decode cX12_gathers 7 = .ok (.lcmp, 1) := by decide +kernel
theorem dX12_gathers_8 : decode cX12_gathers 8 = .ok (.ifCond .lt 14, 3) := by decide +kernel
theorem dX12_gathers_11 : decode cX12_gathers 11 = .ok (.lload_n 1, 1) := by decide +kernel
theorem dX12_gathers_12 : decode cX12_gathers 12 = .ok (.aload_n 0, 1) := by decide +kernel
theorem dX12_gathers_13 : decode cX12_gathers 13 = .ok (.getfield 203, 3) := by decide +kernel
theorem dX12_gathers_16 : decode cX12_gathers 16 = .ok (.lshr, 1) := by decide +kernel
theorem dX12_gathers_17 : decode cX12_gathers 17 = .ok (.lconst 0, 1) := by decide +kernel
theorem dX12_gathers_18 : decode cX12_gathers 18 = .ok (.lcmp, 1) := by decide +kernel
theorem dX12_gathers_19 : decode cX12_gathers 19 = .ok (.ifCond .eq 5, 3) := by decide +kernel
theorem dX12_gathers_22 : decode cX12_gathers 22 = .ok (.iconst 0, 1) := by decide +kernel
theorem dX12_gathers_23 : decode cX12_gathers 23 = .ok (.ireturn, 1) := by decide +kernel
theorem dX12_gathers_24 : decode cX12_gathers 24 = .ok (.iconst 0, 1) := by decide +kernel
theorem dX12_gathers_25 : decode cX12_gathers 25 = .ok (.istore 5, 2) := by decide +kernel
theorem dX12_gathers_27 : decode cX12_gathers 27 = .ok (.iload 5, 2) := by decide +kernel
theorem dX12_gathers_29 : decode cX12_gathers 29 = .ok (.aload_n 0, 1) := by decide +kernel
theorem dX12_gathers_30 : decode cX12_gathers 30 = .ok (.getfield 203, 3) := by decide +kernel
theorem dX12_gathers_33 : decode cX12_gathers 33 = .ok (.if_icmp .ge 64, 3) := by decide +kernel
theorem dX12_gathers_36 : decode cX12_gathers 36 = .ok (.lload_n 1, 1) := by decide +kernel
theorem dX12_gathers_37 : decode cX12_gathers 37 = .ok (.iload 5, 2) := by decide +kernel
theorem dX12_gathers_39 : decode cX12_gathers 39 = .ok (.lshr, 1) := by decide +kernel
theorem dX12_gathers_40 : decode cX12_gathers 40 = .ok (.lconst 1, 1) := by decide +kernel
theorem dX12_gathers_41 : decode cX12_gathers 41 = .ok (.land, 1) := by decide +kernel
theorem dX12_gathers_42 : decode cX12_gathers 42 = .ok (.lconst 0, 1) := by decide +kernel
theorem dX12_gathers_43 : decode cX12_gathers 43 = .ok (.lcmp, 1) := by decide +kernel
theorem dX12_gathers_44 : decode cX12_gathers 44 = .ok (.ifCond .ne 6, 3) := by decide +kernel
theorem dX12_gathers_47 : decode cX12_gathers 47 = .ok (.goto 44, 3) := by decide +kernel
theorem dX12_gathers_50 : decode cX12_gathers 50 = .ok (.aload_n 0, 1) := by decide +kernel
theorem dX12_gathers_51 : decode cX12_gathers 51 = .ok (.iload 5, 2) := by decide +kernel
theorem dX12_gathers_53 : decode cX12_gathers 53 = .ok (.invokevirtual 210, 3) := by decide +kernel
theorem dX12_gathers_56 : decode cX12_gathers 56 = .ok (.ifCond .eq 12, 3) := by decide +kernel
theorem dX12_gathers_59 : decode cX12_gathers 59 = .ok (.aload_n 0, 1) := by decide +kernel
theorem dX12_gathers_60 : decode cX12_gathers 60 = .ok (.getfield 356, 3) := by decide +kernel
theorem dX12_gathers_63 : decode cX12_gathers 63 = .ok (.iload 4, 2) := by decide +kernel
theorem dX12_gathers_65 : decode cX12_gathers 65 = .ok (.if_icmp .ne 5, 3) := by decide +kernel
theorem dX12_gathers_68 : decode cX12_gathers 68 = .ok (.iconst 0, 1) := by decide +kernel
theorem dX12_gathers_69 : decode cX12_gathers 69 = .ok (.ireturn, 1) := by decide +kernel
theorem dX12_gathers_70 : decode cX12_gathers 70 = .ok (.aload_n 0, 1) := by decide +kernel
theorem dX12_gathers_71 : decode cX12_gathers 71 = .ok (.getfield 103, 3) := by decide +kernel
theorem dX12_gathers_74 : decode cX12_gathers 74 = .ok (.aload_n 0, 1) := by decide +kernel
theorem dX12_gathers_75 : decode cX12_gathers 75 = .ok (.getfield 356, 3) := by decide +kernel
theorem dX12_gathers_78 : decode cX12_gathers 78 = .ok (.iload 5, 2) := by decide +kernel
theorem dX12_gathers_80 : decode cX12_gathers 80 = .ok (.iastore, 1) := by decide +kernel
theorem dX12_gathers_81 : decode cX12_gathers 81 = .ok (.aload_n 0, 1) := by decide +kernel
theorem dX12_gathers_82 : decode cX12_gathers 82 = .ok (.dup, 1) := by decide +kernel
theorem dX12_gathers_83 : decode cX12_gathers 83 = .ok (.getfield 356, 3) := by decide +kernel
theorem dX12_gathers_86 : decode cX12_gathers 86 = .ok (.iconst 1, 1) := by decide +kernel
theorem dX12_gathers_87 : decode cX12_gathers 87 = .ok (.iadd, 1) := by decide +kernel
theorem dX12_gathers_88 : decode cX12_gathers 88 = .ok (.putfield 356, 3) := by decide +kernel
theorem dX12_gathers_91 : decode cX12_gathers 91 = .ok (.iinc 5 1, 3) := by decide +kernel
theorem dX12_gathers_94 : decode cX12_gathers 94 = .ok (.goto (-67), 3) := by decide +kernel
theorem dX12_gathers_97 : decode cX12_gathers 97 = .ok (.aload_n 0, 1) := by decide +kernel
theorem dX12_gathers_98 : decode cX12_gathers 98 = .ok (.getfield 356, 3) := by decide +kernel
theorem dX12_gathers_101 : decode cX12_gathers 101 = .ok (.iload_n 3, 1) := by decide +kernel
theorem dX12_gathers_102 : decode cX12_gathers 102 = .ok (.if_icmp .lt 7, 3) := by decide +kernel
theorem dX12_gathers_105 : decode cX12_gathers 105 = .ok (.iconst 1, 1) := by decide +kernel
theorem dX12_gathers_106 : decode cX12_gathers 106 = .ok (.goto 4, 3) := by decide +kernel
theorem dX12_gathers_109 : decode cX12_gathers 109 = .ok (.iconst 0, 1) := by decide +kernel
theorem dX12_gathers_110 : decode cX12_gathers 110 = .ok (.ireturn, 1) := by decide +kernel
theorem dX12_isParting_0 : decode cX12_isParting 0 = .ok (.aload_n 0, 1) := by decide +kernel
theorem dX12_isParting_1 : decode cX12_isParting 1 = .ok (.iconst 0, 1) := by decide +kernel
theorem dX12_isParting_2 : decode cX12_isParting 2 = .ok (.putfield 359, 3) := by decide +kernel
theorem dX12_isParting_5 : decode cX12_isParting 5 = .ok (.iconst 0, 1) := by decide +kernel
theorem dX12_isParting_6 : decode cX12_isParting 6 = .ok (.istore_n 1, 1) := by decide +kernel
theorem dX12_isParting_7 : decode cX12_isParting 7 = .ok (.iload_n 1, 1) := by decide +kernel
theorem dX12_isParting_8 : decode cX12_isParting 8 = .ok (.aload_n 0, 1) := by decide +kernel
theorem dX12_isParting_9 : decode cX12_isParting 9 = .ok (.getfield 356, 3) := by decide +kernel
theorem dX12_isParting_12 : decode cX12_isParting 12 = .ok (.if_icmp .ge 115, 3) := by decide +kernel
theorem dX12_isParting_15 : decode cX12_isParting 15 = .ok (.iconst 0, 1) := by decide +kernel
theorem dX12_isParting_16 : decode cX12_isParting 16 = .ok (.istore_n 2, 1) := by decide +kernel
theorem dX12_isParting_17 : decode cX12_isParting 17 = .ok (.iload_n 2, 1) := by decide +kernel
theorem dX12_isParting_18 : decode cX12_isParting 18 = .ok (.iload_n 1, 1) := by decide +kernel
theorem dX12_isParting_19 : decode cX12_isParting 19 = .ok (.if_icmp .ge 102, 3) := by decide +kernel
theorem dX12_isParting_22 : decode cX12_isParting 22 = .ok (.aload_n 0, 1) := by decide +kernel
theorem dX12_isParting_23 : decode cX12_isParting 23 = .ok (.getfield 106, 3) := by decide +kernel
theorem dX12_isParting_26 : decode cX12_isParting 26 = .ok (.iload_n 1, 1) := by decide +kernel
theorem dX12_isParting_27 : decode cX12_isParting 27 = .ok (.iaload, 1) := by decide +kernel
theorem dX12_isParting_28 : decode cX12_isParting 28 = .ok (.aload_n 0, 1) := by decide +kernel
theorem dX12_isParting_29 : decode cX12_isParting 29 = .ok (.getfield 106, 3) := by decide +kernel
theorem dX12_isParting_32 : decode cX12_isParting 32 = .ok (.iload_n 2, 1) := by decide +kernel
theorem dX12_isParting_33 : decode cX12_isParting 33 = .ok (.iaload, 1) := by decide +kernel
theorem dX12_isParting_34 : decode cX12_isParting 34 = .ok (.if_icmp .ne 7, 3) := by decide +kernel
theorem dX12_isParting_37 : decode cX12_isParting 37 = .ok (.iconst 1, 1) := by decide +kernel
theorem dX12_isParting_38 : decode cX12_isParting 38 = .ok (.goto 4, 3) := by decide +kernel
theorem dX12_isParting_41 : decode cX12_isParting 41 = .ok (.iconst 0, 1) := by decide +kernel
theorem dX12_isParting_42 : decode cX12_isParting 42 = .ok (.istore_n 3, 1) := by decide +kernel
theorem dX12_isParting_43 : decode cX12_isParting 43 = .ok (.aload_n 0, 1) := by decide +kernel
theorem dX12_isParting_44 : decode cX12_isParting 44 = .ok (.getfield 79, 3) := by decide +kernel
theorem dX12_isParting_47 : decode cX12_isParting 47 = .ok (.bipush 60, 2) := by decide +kernel
theorem dX12_isParting_49 : decode cX12_isParting 49 = .ok (.aload_n 0, 1) := by decide +kernel
theorem dX12_isParting_50 : decode cX12_isParting 50 = .ok (.getfield 103, 3) := by decide +kernel
theorem dX12_isParting_53 : decode cX12_isParting 53 = .ok (.iload_n 1, 1) := by decide +kernel
theorem dX12_isParting_54 : decode cX12_isParting 54 = .ok (.iaload, 1) := by decide +kernel
theorem dX12_isParting_55 : decode cX12_isParting 55 = .ok (.imul, 1) := by decide +kernel
theorem dX12_isParting_56 : decode cX12_isParting 56 = .ok (.aload_n 0, 1) := by decide +kernel
theorem dX12_isParting_57 : decode cX12_isParting 57 = .ok (.getfield 103, 3) := by decide +kernel
theorem dX12_isParting_60 : decode cX12_isParting 60 = .ok (.iload_n 2, 1) := by decide +kernel
theorem dX12_isParting_61 : decode cX12_isParting 61 = .ok (.iaload, 1) := by decide +kernel
theorem dX12_isParting_62 : decode cX12_isParting 62 = .ok (.iadd, 1) := by decide +kernel
theorem dX12_isParting_63 : decode cX12_isParting 63 = .ok (.iaload, 1) := by decide +kernel
theorem dX12_isParting_64 : decode cX12_isParting 64 = .ok (.istore 4, 2) := by decide +kernel
theorem dX12_isParting_66 : decode cX12_isParting 66 = .ok (.iload_n 3, 1) := by decide +kernel
theorem dX12_isParting_67 : decode cX12_isParting 67 = .ok (.ifCond .eq 12, 3) := by decide +kernel
theorem dX12_isParting_70 : decode cX12_isParting 70 = .ok (.iload 4, 2) := by decide +kernel
theorem dX12_isParting_72 : decode cX12_isParting 72 = .ok (.iconst 2, 1) := by decide +kernel
theorem dX12_isParting_73 : decode cX12_isParting 73 = .ok (.if_icmp .ne 14, 3) := by decide +kernel
theorem dX12_isParting_76 : decode cX12_isParting 76 = .ok (.goto 9, 3) := by decide +kernel
theorem dX12_isParting_79 : decode cX12_isParting 79 = .ok (.iload 4, 2) := by decide +kernel
theorem dX12_isParting_81 : decode cX12_isParting 81 = .ok (.iconst 1, 1) := by decide +kernel
theorem dX12_isParting_82 : decode cX12_isParting 82 = .ok (.if_icmp .ne 5, 3) := by decide +kernel
theorem dX12_isParting_85 : decode cX12_isParting 85 = .ok (.iconst 0, 1) := by decide +kernel
theorem dX12_isParting_86 : decode cX12_isParting 86 = .ok (.ireturn, 1) := by decide +kernel
theorem dX12_isParting_87 : decode cX12_isParting 87 = .ok (.aload_n 0, 1) := by decide +kernel
theorem dX12_isParting_88 : decode cX12_isParting 88 = .ok (.dup, 1) := by decide +kernel
theorem dX12_isParting_89 : decode cX12_isParting 89 = .ok (.getfield 359, 3) := by decide +kernel
theorem dX12_isParting_92 : decode cX12_isParting 92 = .ok (.iload_n 3, 1) := by decide +kernel
theorem dX12_isParting_93 : decode cX12_isParting 93 = .ok (.ifCond .eq 17, 3) := by decide +kernel
theorem dX12_isParting_96 : decode cX12_isParting 96 = .ok (.aload_n 0, 1) := by decide +kernel
theorem dX12_isParting_97 : decode cX12_isParting 97 = .ok (.getfield 115, 3) := by decide +kernel
theorem dX12_isParting_100 : decode cX12_isParting 100 = .ok (.bipush 9, 2) := by decide +kernel
theorem dX12_isParting_102 : decode cX12_isParting 102 = .ok (.iload_n 1, 1) := by decide +kernel
theorem dX12_isParting_103 : decode cX12_isParting 103 = .ok (.imul, 1) := by decide +kernel
theorem dX12_isParting_104 : decode cX12_isParting 104 = .ok (.iload_n 2, 1) := by decide +kernel
theorem dX12_isParting_105 : decode cX12_isParting 105 = .ok (.iadd, 1) := by decide +kernel
theorem dX12_isParting_106 : decode cX12_isParting 106 = .ok (.iaload, 1) := by decide +kernel
theorem dX12_isParting_107 : decode cX12_isParting 107 = .ok (.goto 4, 3) := by decide +kernel
theorem dX12_isParting_110 : decode cX12_isParting 110 = .ok (.iconst 0, 1) := by decide +kernel
theorem dX12_isParting_111 : decode cX12_isParting 111 = .ok (.iadd, 1) := by decide +kernel
theorem dX12_isParting_112 : decode cX12_isParting 112 = .ok (.putfield 359, 3) := by decide +kernel
theorem dX12_isParting_115 : decode cX12_isParting 115 = .ok (.iinc 2 1, 3) := by decide +kernel
theorem dX12_isParting_118 : decode cX12_isParting 118 = .ok (.goto (-101), 3) := by decide +kernel
theorem dX12_isParting_121 : decode cX12_isParting 121 = .ok (.iinc 1 1, 3) := by decide +kernel
theorem dX12_isParting_124 : decode cX12_isParting 124 = .ok (.goto (-117), 3) := by decide +kernel
theorem dX12_isParting_127 : decode cX12_isParting 127 = .ok (.iconst 1, 1) := by decide +kernel
theorem dX12_isParting_128 : decode cX12_isParting 128 = .ok (.ireturn, 1) := by decide +kernel
theorem dX12_goesOn_0 : decode cX12_goesOn 0 = .ok (.aload_n 0, 1) := by decide +kernel
theorem dX12_goesOn_1 : decode cX12_goesOn 1 = .ok (.getfield 356, 3) := by decide +kernel
theorem dX12_goesOn_4 : decode cX12_goesOn 4 = .ok (.iconst 1, 1) := by decide +kernel
theorem dX12_goesOn_5 : decode cX12_goesOn 5 = .ok (.isub, 1) := by decide +kernel
theorem dX12_goesOn_6 : decode cX12_goesOn 6 = .ok (.istore_n 1, 1) := by decide +kernel
theorem dX12_goesOn_7 : decode cX12_goesOn 7 = .ok (.iload_n 1, 1) := by decide +kernel
theorem dX12_goesOn_8 : decode cX12_goesOn 8 = .ok (.ifCond .le 67, 3) := by decide +kernel
theorem dX12_goesOn_11 : decode cX12_goesOn 11 = .ok (.iconst 0, 1) := by decide +kernel
theorem dX12_goesOn_12 : decode cX12_goesOn 12 = .ok (.istore_n 2, 1) := by decide +kernel
theorem dX12_goesOn_13 : decode cX12_goesOn 13 = .ok (.iconst 0, 1) := by decide +kernel
theorem dX12_goesOn_14 : decode cX12_goesOn 14 = .ok (.istore_n 3, 1) := by decide +kernel
theorem dX12_goesOn_15 : decode cX12_goesOn 15 = .ok (.iload_n 3, 1) := by decide +kernel
theorem dX12_goesOn_16 : decode cX12_goesOn 16 = .ok (.iload_n 1, 1) := by decide +kernel
theorem dX12_goesOn_17 : decode cX12_goesOn 17 = .ok (.if_icmp .ge 20, 3) := by decide +kernel
theorem dX12_goesOn_20 : decode cX12_goesOn 20 = .ok (.iload_n 2, 1) := by decide +kernel
theorem dX12_goesOn_21 : decode cX12_goesOn 21 = .ok (.aload_n 0, 1) := by decide +kernel
theorem dX12_goesOn_22 : decode cX12_goesOn 22 = .ok (.getfield 106, 3) := by decide +kernel
theorem dX12_goesOn_25 : decode cX12_goesOn 25 = .ok (.iload_n 3, 1) := by decide +kernel
theorem dX12_goesOn_26 : decode cX12_goesOn 26 = .ok (.iaload, 1) := by decide +kernel
theorem dX12_goesOn_27 : decode cX12_goesOn 27 = .ok (.invokestatic 274, 3) := by decide +kernel
theorem dX12_goesOn_30 : decode cX12_goesOn 30 = .ok (.istore_n 2, 1) := by decide +kernel
theorem dX12_goesOn_31 : decode cX12_goesOn 31 = .ok (.iinc 3 1, 3) := by decide +kernel
theorem dX12_goesOn_34 : decode cX12_goesOn 34 = .ok (.goto (-19), 3) := by decide +kernel
theorem dX12_goesOn_37 : decode cX12_goesOn 37 = .ok (.aload_n 0, 1) := by decide +kernel
theorem dX12_goesOn_38 : decode cX12_goesOn 38 = .ok (.getfield 106, 3) := by decide +kernel
theorem dX12_goesOn_41 : decode cX12_goesOn 41 = .ok (.iload_n 1, 1) := by decide +kernel
theorem dX12_goesOn_42 : decode cX12_goesOn 42 = .ok (.iaload, 1) := by decide +kernel
theorem dX12_goesOn_43 : decode cX12_goesOn 43 = .ok (.iload_n 2, 1) := by decide +kernel
theorem dX12_goesOn_44 : decode cX12_goesOn 44 = .ok (.if_icmp .le 13, 3) := by decide +kernel
theorem dX12_goesOn_47 : decode cX12_goesOn 47 = .ok (.aload_n 0, 1) := by decide +kernel
theorem dX12_goesOn_48 : decode cX12_goesOn 48 = .ok (.getfield 106, 3) := by decide +kernel
theorem dX12_goesOn_51 : decode cX12_goesOn 51 = .ok (.iload_n 1, 1) := by decide +kernel
theorem dX12_goesOn_52 : decode cX12_goesOn 52 = .ok (.iconst 0, 1) := by decide +kernel
theorem dX12_goesOn_53 : decode cX12_goesOn 53 = .ok (.iastore, 1) := by decide +kernel
theorem dX12_goesOn_54 : decode cX12_goesOn 54 = .ok (.goto 15, 3) := by decide +kernel
theorem dX12_goesOn_57 : decode cX12_goesOn 57 = .ok (.aload_n 0, 1) := by decide +kernel
theorem dX12_goesOn_58 : decode cX12_goesOn 58 = .ok (.getfield 106, 3) := by decide +kernel
theorem dX12_goesOn_61 : decode cX12_goesOn 61 = .ok (.iload_n 1, 1) := by decide +kernel
theorem dX12_goesOn_62 : decode cX12_goesOn 62 = .ok (.dup2, 1) := by decide +kernel
theorem dX12_goesOn_63 : decode cX12_goesOn 63 = .ok (.iaload, 1) := by decide +kernel
theorem dX12_goesOn_64 : decode cX12_goesOn 64 = .ok (.iconst 1, 1) := by decide +kernel
theorem dX12_goesOn_65 : decode cX12_goesOn 65 = .ok (.iadd, 1) := by decide +kernel
theorem dX12_goesOn_66 : decode cX12_goesOn 66 = .ok (.iastore, 1) := by decide +kernel
theorem dX12_goesOn_67 : decode cX12_goesOn 67 = .ok (.iconst 1, 1) := by decide +kernel
theorem dX12_goesOn_68 : decode cX12_goesOn 68 = .ok (.ireturn, 1) := by decide +kernel
theorem dX12_goesOn_69 : decode cX12_goesOn 69 = .ok (.iinc 1 (-1), 3) := by decide +kernel
theorem dX12_goesOn_72 : decode cX12_goesOn 72 = .ok (.goto (-65), 3) := by decide +kernel
theorem dX12_goesOn_75 : decode cX12_goesOn 75 = .ok (.iconst 0, 1) := by decide +kernel
theorem dX12_goesOn_76 : decode cX12_goesOn 76 = .ok (.ireturn, 1) := by decide +kernel
theorem dX12_begins_0 : decode cX12_begins 0 = .ok (.iconst 0, 1) := by decide +kernel
theorem dX12_begins_1 : decode cX12_begins 1 = .ok (.istore_n 1, 1) := by decide +kernel
theorem dX12_begins_2 : decode cX12_begins 2 = .ok (.iload_n 1, 1) := by decide +kernel
theorem dX12_begins_3 : decode cX12_begins 3 = .ok (.bipush 9, 2) := by decide +kernel
theorem dX12_begins_5 : decode cX12_begins 5 = .ok (.if_icmp .ge 16, 3) := by decide +kernel
theorem dX12_begins_8 : decode cX12_begins 8 = .ok (.aload_n 0, 1) := by decide +kernel
theorem dX12_begins_9 : decode cX12_begins 9 = .ok (.getfield 106, 3) := by decide +kernel
theorem dX12_begins_12 : decode cX12_begins 12 = .ok (.iload_n 1, 1) := by decide +kernel
theorem dX12_begins_13 : decode cX12_begins 13 = .ok (.iconst 0, 1) := by decide +kernel
theorem dX12_begins_14 : decode cX12_begins 14 = .ok (.iastore, 1) := by decide +kernel
theorem dX12_begins_15 : decode cX12_begins 15 = .ok (.iinc 1 1, 3) := by decide +kernel
theorem dX12_begins_18 : decode cX12_begins 18 = .ok (.goto (-16), 3) := by decide +kernel
theorem dX12_begins_21 : decode cX12_begins 21 = .ok (.return_, 1) := by decide +kernel
theorem dX12_seekBest_0 : decode cX12_seekBest 0 = .ok (.iconst 0, 1) := by decide +kernel
theorem dX12_seekBest_1 : decode cX12_seekBest 1 = .ok (.istore_n 1, 1) := by decide +kernel
theorem dX12_seekBest_2 : decode cX12_seekBest 2 = .ok (.iload_n 1, 1) := by decide +kernel
theorem dX12_seekBest_3 : decode cX12_seekBest 3 = .ok (.aload_n 0, 1) := by decide +kernel
theorem dX12_seekBest_4 : decode cX12_seekBest 4 = .ok (.getfield 356, 3) := by decide +kernel
theorem dX12_seekBest_7 : decode cX12_seekBest 7 = .ok (.if_icmp .ge 49, 3) := by decide +kernel
theorem dX12_seekBest_10 : decode cX12_seekBest 10 = .ok (.iconst 0, 1) := by decide +kernel
theorem dX12_seekBest_11 : decode cX12_seekBest 11 = .ok (.istore_n 2, 1) := by decide +kernel
theorem dX12_seekBest_12 : decode cX12_seekBest 12 = .ok (.iload_n 2, 1) := by decide +kernel
theorem dX12_seekBest_13 : decode cX12_seekBest 13 = .ok (.iload_n 1, 1) := by decide +kernel
theorem dX12_seekBest_14 : decode cX12_seekBest 14 = .ok (.if_icmp .ge 36, 3) := by decide +kernel
theorem dX12_seekBest_17 : decode cX12_seekBest 17 = .ok (.aload_n 0, 1) := by decide +kernel
theorem dX12_seekBest_18 : decode cX12_seekBest 18 = .ok (.getfield 115, 3) := by decide +kernel
theorem dX12_seekBest_21 : decode cX12_seekBest 21 = .ok (.bipush 9, 2) := by decide +kernel
theorem dX12_seekBest_23 : decode cX12_seekBest 23 = .ok (.iload_n 1, 1) := by decide +kernel
theorem dX12_seekBest_24 : decode cX12_seekBest 24 = .ok (.imul, 1) := by decide +kernel
theorem dX12_seekBest_25 : decode cX12_seekBest 25 = .ok (.iload_n 2, 1) := by decide +kernel
theorem dX12_seekBest_26 : decode cX12_seekBest 26 = .ok (.iadd, 1) := by decide +kernel
theorem dX12_seekBest_27 : decode cX12_seekBest 27 = .ok (.aload_n 0, 1) := by decide +kernel
theorem dX12_seekBest_28 : decode cX12_seekBest 28 = .ok (.aload_n 0, 1) := by decide +kernel
theorem dX12_seekBest_29 : decode cX12_seekBest 29 = .ok (.getfield 103, 3) := by decide +kernel
theorem dX12_seekBest_32 : decode cX12_seekBest 32 = .ok (.iload_n 1, 1) := by decide +kernel
theorem dX12_seekBest_33 : decode cX12_seekBest 33 = .ok (.iaload, 1) := by decide +kernel
theorem dX12_seekBest_34 : decode cX12_seekBest 34 = .ok (.aload_n 0, 1) := by decide +kernel
theorem dX12_seekBest_35 : decode cX12_seekBest 35 = .ok (.getfield 103, 3) := by decide +kernel
theorem dX12_seekBest_38 : decode cX12_seekBest 38 = .ok (.iload_n 2, 1) := by decide +kernel
theorem dX12_seekBest_39 : decode cX12_seekBest 39 = .ok (.iaload, 1) := by decide +kernel
theorem dX12_seekBest_40 : decode cX12_seekBest 40 = .ok (.invokevirtual 354, 3) := by decide +kernel
theorem dX12_seekBest_43 : decode cX12_seekBest 43 = .ok (.iastore, 1) := by decide +kernel
theorem dX12_seekBest_44 : decode cX12_seekBest 44 = .ok (.iinc 2 1, 3) := by decide +kernel
theorem dX12_seekBest_47 : decode cX12_seekBest 47 = .ok (.goto (-35), 3) := by decide +kernel
theorem dX12_seekBest_50 : decode cX12_seekBest 50 = .ok (.iinc 1 1, 3) := by decide +kernel
theorem dX12_seekBest_53 : decode cX12_seekBest 53 = .ok (.goto (-51), 3) := by decide +kernel
theorem dX12_seekBest_56 : decode cX12_seekBest 56 = .ok (.aload_n 0, 1) := by decide +kernel
theorem dX12_seekBest_57 : decode cX12_seekBest 57 = .ok (.iconst 0, 1) := by decide +kernel
theorem dX12_seekBest_58 : decode cX12_seekBest 58 = .ok (.putfield 362, 3) := by decide +kernel
theorem dX12_seekBest_61 : decode cX12_seekBest 61 = .ok (.aload_n 0, 1) := by decide +kernel
theorem dX12_seekBest_62 : decode cX12_seekBest 62 = .ok (.invokevirtual 366, 3) := by decide +kernel
theorem dX12_seekBest_65 : decode cX12_seekBest 65 = .ok (.iconst 1, 1) := by decide +kernel
theorem dX12_seekBest_66 : decode cX12_seekBest 66 = .ok (.istore_n 1, 1) := by decide +kernel
theorem dX12_seekBest_67 : decode cX12_seekBest 67 = .ok (.iload_n 1, 1) := by decide +kernel
theorem dX12_seekBest_68 : decode cX12_seekBest 68 = .ok (.ifCond .eq 77, 3) := by decide +kernel
theorem dX12_seekBest_71 : decode cX12_seekBest 71 = .ok (.aload_n 0, 1) := by decide +kernel
theorem dX12_seekBest_72 : decode cX12_seekBest 72 = .ok (.invokevirtual 369, 3) := by decide +kernel
theorem dX12_seekBest_75 : decode cX12_seekBest 75 = .ok (.ifCond .eq 62, 3) := by decide +kernel
theorem dX12_seekBest_78 : decode cX12_seekBest 78 = .ok (.aload_n 0, 1) := by decide +kernel
theorem dX12_seekBest_79 : decode cX12_seekBest 79 = .ok (.getfield 362, 3) := by decide +kernel
theorem dX12_seekBest_82 : decode cX12_seekBest 82 = .ok (.ifCond .eq 14, 3) := by decide +kernel
theorem dX12_seekBest_85 : decode cX12_seekBest 85 = .ok (.aload_n 0, 1) := by decide +kernel
theorem dX12_seekBest_86 : decode cX12_seekBest 86 = .ok (.getfield 359, 3) := by decide +kernel
theorem dX12_seekBest_89 : decode cX12_seekBest 89 = .ok (.aload_n 0, 1) := by decide +kernel
theorem dX12_seekBest_90 : decode cX12_seekBest 90 = .ok (.getfield 373, 3) := by decide +kernel
theorem dX12_seekBest_93 : decode cX12_seekBest 93 = .ok (.if_icmp .le 44, 3) := by decide +kernel
theorem dX12_seekBest_96 : decode cX12_seekBest 96 = .ok (.aload_n 0, 1) := by decide +kernel
theorem dX12_seekBest_97 : decode cX12_seekBest 97 = .ok (.iconst 1, 1) := by decide +kernel
theorem dX12_seekBest_98 : decode cX12_seekBest 98 = .ok (.putfield 362, 3) := by decide +kernel
theorem dX12_seekBest_101 : decode cX12_seekBest 101 = .ok (.aload_n 0, 1) := by decide +kernel
theorem dX12_seekBest_102 : decode cX12_seekBest 102 = .ok (.aload_n 0, 1) := by decide +kernel
theorem dX12_seekBest_103 : decode cX12_seekBest 103 = .ok (.getfield 359, 3) := by decide +kernel
theorem dX12_seekBest_106 : decode cX12_seekBest 106 = .ok (.putfield 373, 3) := by decide +kernel
theorem dX12_seekBest_109 : decode cX12_seekBest 109 = .ok (.iconst 0, 1) := by decide +kernel
theorem dX12_seekBest_110 : decode cX12_seekBest 110 = .ok (.istore_n 2, 1) := by decide +kernel
theorem dX12_seekBest_111 : decode cX12_seekBest 111 = .ok (.iload_n 2, 1) := by decide +kernel
theorem dX12_seekBest_112 : decode cX12_seekBest 112 = .ok (.aload_n 0, 1) := by decide +kernel
theorem dX12_seekBest_113 : decode cX12_seekBest 113 = .ok (.getfield 356, 3) := by decide +kernel
theorem dX12_seekBest_116 : decode cX12_seekBest 116 = .ok (.if_icmp .ge 21, 3) := by decide +kernel
theorem dX12_seekBest_119 : decode cX12_seekBest 119 = .ok (.aload_n 0, 1) := by decide +kernel
theorem dX12_seekBest_120 : decode cX12_seekBest 120 = .ok (.getfield 109, 3) := by decide +kernel
theorem dX12_seekBest_123 : decode cX12_seekBest 123 = .ok (.iload_n 2, 1) := by decide +kernel
theorem dX12_seekBest_124 : decode cX12_seekBest 124 = .ok (.aload_n 0, 1) := by decide +kernel
theorem dX12_seekBest_125 : decode cX12_seekBest 125 = .ok (.getfield 106, 3) := by decide +kernel
theorem dX12_seekBest_128 : decode cX12_seekBest 128 = .ok (.iload_n 2, 1) := by decide +kernel
theorem dX12_seekBest_129 : decode cX12_seekBest 129 = .ok (.iaload, 1) := by decide +kernel
theorem dX12_seekBest_130 : decode cX12_seekBest 130 = .ok (.iastore, 1) := by decide +kernel
theorem dX12_seekBest_131 : decode cX12_seekBest 131 = .ok (.iinc 2 1, 3) := by decide +kernel
theorem dX12_seekBest_134 : decode cX12_seekBest 134 = .ok (.goto (-23), 3) := by decide +kernel
theorem dX12_seekBest_137 : decode cX12_seekBest 137 = .ok (.aload_n 0, 1) := by decide +kernel
theorem dX12_seekBest_138 : decode cX12_seekBest 138 = .ok (.invokevirtual 376, 3) := by decide +kernel
theorem dX12_seekBest_141 : decode cX12_seekBest 141 = .ok (.istore_n 1, 1) := by decide +kernel
theorem dX12_seekBest_142 : decode cX12_seekBest 142 = .ok (.goto (-75), 3) := by decide +kernel
theorem dX12_seekBest_145 : decode cX12_seekBest 145 = .ok (.return_, 1) := by decide +kernel
theorem dX12_seekNear_0 : decode cX12_seekNear 0 = .ok (.aload_n 0, 1) := by decide +kernel
theorem dX12_seekNear_1 : decode cX12_seekNear 1 = .ok (.iconst 0, 1) := by decide +kernel
theorem dX12_seekNear_2 : decode cX12_seekNear 2 = .ok (.putfield 379, 3) := by decide +kernel
theorem dX12_seekNear_5 : decode cX12_seekNear 5 = .ok (.iconst 0, 1) := by decide +kernel
theorem dX12_seekNear_6 : decode cX12_seekNear 6 = .ok (.istore_n 2, 1) := by decide +kernel
theorem dX12_seekNear_7 : decode cX12_seekNear 7 = .ok (.iload_n 2, 1) := by decide +kernel
theorem dX12_seekNear_8 : decode cX12_seekNear 8 = .ok (.bipush 81, 2) := by decide +kernel
theorem dX12_seekNear_10 : decode cX12_seekNear 10 = .ok (.if_icmp .ge 16, 3) := by decide +kernel
theorem dX12_seekNear_13 : decode cX12_seekNear 13 = .ok (.aload_n 0, 1) := by decide +kernel
theorem dX12_seekNear_14 : decode cX12_seekNear 14 = .ok (.getfield 112, 3) := by decide +kernel
theorem dX12_seekNear_17 : decode cX12_seekNear 17 = .ok (.iload_n 2, 1) := by decide +kernel
theorem dX12_seekNear_18 : decode cX12_seekNear 18 = .ok (.iconst 0, 1) := by decide +kernel
theorem dX12_seekNear_19 : decode cX12_seekNear 19 = .ok (.iastore, 1) := by decide +kernel
theorem dX12_seekNear_20 : decode cX12_seekNear 20 = .ok (.iinc 2 1, 3) := by decide +kernel
theorem dX12_seekNear_23 : decode cX12_seekNear 23 = .ok (.goto (-16), 3) := by decide +kernel
theorem dX12_seekNear_26 : decode cX12_seekNear 26 = .ok (.aload_n 0, 1) := by decide +kernel
theorem dX12_seekNear_27 : decode cX12_seekNear 27 = .ok (.invokevirtual 366, 3) := by decide +kernel
theorem dX12_seekNear_30 : decode cX12_seekNear 30 = .ok (.iconst 1, 1) := by decide +kernel
theorem dX12_seekNear_31 : decode cX12_seekNear 31 = .ok (.istore_n 2, 1) := by decide +kernel
theorem dX12_seekNear_32 : decode cX12_seekNear 32 = .ok (.iload_n 2, 1) := by decide +kernel
theorem dX12_seekNear_33 : decode cX12_seekNear 33 = .ok (.ifCond .eq 108, 3) := by decide +kernel
theorem dX12_seekNear_36 : decode cX12_seekNear 36 = .ok (.aload_n 0, 1) := by decide +kernel
theorem dX12_seekNear_37 : decode cX12_seekNear 37 = .ok (.invokevirtual 369, 3) := by decide +kernel
theorem dX12_seekNear_40 : decode cX12_seekNear 40 = .ok (.ifCond .eq 93, 3) := by decide +kernel
theorem dX12_seekNear_43 : decode cX12_seekNear 43 = .ok (.aload_n 0, 1) := by decide +kernel
theorem dX12_seekNear_44 : decode cX12_seekNear 44 = .ok (.getfield 359, 3) := by decide +kernel
theorem dX12_seekNear_47 : decode cX12_seekNear 47 = .ok (.aload_n 0, 1) := by decide +kernel
theorem dX12_seekNear_48 : decode cX12_seekNear 48 = .ok (.getfield 373, 3) := by decide +kernel
theorem dX12_seekNear_51 : decode cX12_seekNear 51 = .ok (.iload_n 1, 1) := by decide +kernel
theorem dX12_seekNear_52 : decode cX12_seekNear 52 = .ok (.isub, 1) := by decide +kernel
theorem dX12_seekNear_53 : decode cX12_seekNear 53 = .ok (.if_icmp .lt 80, 3) := by decide +kernel
theorem dX12_seekNear_56 : decode cX12_seekNear 56 = .ok (.aload_n 0, 1) := by decide +kernel
theorem dX12_seekNear_57 : decode cX12_seekNear 57 = .ok (.dup, 1) := by decide +kernel
theorem dX12_seekNear_58 : decode cX12_seekNear 58 = .ok (.getfield 379, 3) := by decide +kernel
theorem dX12_seekNear_61 : decode cX12_seekNear 61 = .ok (.iconst 1, 1) := by decide +kernel
theorem dX12_seekNear_62 : decode cX12_seekNear 62 = .ok (.iadd, 1) := by decide +kernel
theorem dX12_seekNear_63 : decode cX12_seekNear 63 = .ok (.putfield 379, 3) := by decide +kernel
theorem dX12_seekNear_66 : decode cX12_seekNear 66 = .ok (.iconst 0, 1) := by decide +kernel
theorem dX12_seekNear_67 : decode cX12_seekNear 67 = .ok (.istore_n 3, 1) := by decide +kernel
theorem dX12_seekNear_68 : decode cX12_seekNear 68 = .ok (.iload_n 3, 1) := by decide +kernel
theorem dX12_seekNear_69 : decode cX12_seekNear 69 = .ok (.aload_n 0, 1) := by decide +kernel
theorem dX12_seekNear_70 : decode cX12_seekNear 70 = .ok (.getfield 356, 3) := by decide +kernel
theorem dX12_seekNear_73 : decode cX12_seekNear 73 = .ok (.if_icmp .ge 60, 3) := by decide +kernel
theorem dX12_seekNear_76 : decode cX12_seekNear 76 = .ok (.iconst 0, 1) := by decide +kernel
theorem dX12_seekNear_77 : decode cX12_seekNear 77 = .ok (.istore 4, 2) := by decide +kernel
theorem dX12_seekNear_79 : decode cX12_seekNear 79 = .ok (.iload 4, 2) := by decide +kernel
theorem dX12_seekNear_81 : decode cX12_seekNear 81 = .ok (.iload_n 3, 1) := by decide +kernel
theorem dX12_seekNear_82 : decode cX12_seekNear 82 = .ok (.if_icmp .ge 45, 3) := by decide +kernel
theorem dX12_seekNear_85 : decode cX12_seekNear 85 = .ok (.aload_n 0, 1) := by decide +kernel
theorem dX12_seekNear_86 : decode cX12_seekNear 86 = .ok (.getfield 112, 3) := by decide +kernel
theorem dX12_seekNear_89 : decode cX12_seekNear 89 = .ok (.bipush 9, 2) := by decide +kernel
theorem dX12_seekNear_91 : decode cX12_seekNear 91 = .ok (.iload_n 3, 1) := by decide +kernel
theorem dX12_seekNear_92 : decode cX12_seekNear 92 = .ok (.imul, 1) := by decide +kernel
theorem dX12_seekNear_93 : decode cX12_seekNear 93 = .ok (.iload 4, 2) := by decide +kernel
theorem dX12_seekNear_95 : decode cX12_seekNear 95 = .ok (.iadd, 1) := by decide +kernel
theorem dX12_seekNear_96 : decode cX12_seekNear 96 = .ok (.dup2, 1) := by decide +kernel
theorem dX12_seekNear_97 : decode cX12_seekNear 97 = .ok (.iaload, 1) := by decide +kernel
theorem dX12_seekNear_98 : decode cX12_seekNear 98 = .ok (.aload_n 0, 1) := by decide +kernel
theorem dX12_seekNear_99 : decode cX12_seekNear 99 = .ok (.getfield 106, 3) := by decide +kernel
theorem dX12_seekNear_102 : decode cX12_seekNear 102 = .ok (.iload_n 3, 1) := by decide +kernel
theorem dX12_seekNear_103 : decode cX12_seekNear 103 = .ok (.iaload, 1) := by decide +kernel
theorem dX12_seekNear_104 : decode cX12_seekNear 104 = .ok (.aload_n 0, 1) := by decide +kernel
theorem dX12_seekNear_105 : decode cX12_seekNear 105 = .ok (.getfield 106, 3) := by decide +kernel
theorem dX12_seekNear_108 : decode cX12_seekNear 108 = .ok (.iload 4, 2) := by decide +kernel
theorem dX12_seekNear_110 : decode cX12_seekNear 110 = .ok (.iaload, 1) := by decide +kernel
theorem dX12_seekNear_111 : decode cX12_seekNear 111 = .ok (.if_icmp .ne 7, 3) := by decide +kernel
theorem dX12_seekNear_114 : decode cX12_seekNear 114 = .ok (.iconst 1, 1) := by decide +kernel
theorem dX12_seekNear_115 : decode cX12_seekNear 115 = .ok (.goto 4, 3) := by decide +kernel
theorem dX12_seekNear_118 : decode cX12_seekNear 118 = .ok (.iconst 0, 1) := by decide +kernel
theorem dX12_seekNear_119 : decode cX12_seekNear 119 = .ok (.iadd, 1) := by decide +kernel
theorem dX12_seekNear_120 : decode cX12_seekNear 120 = .ok (.iastore, 1) := by decide +kernel
theorem dX12_seekNear_121 : decode cX12_seekNear 121 = .ok (.iinc 4 1, 3) := by decide +kernel
theorem dX12_seekNear_124 : decode cX12_seekNear 124 = .ok (.goto (-45), 3) := by decide +kernel
theorem dX12_seekNear_127 : decode cX12_seekNear 127 = .ok (.iinc 3 1, 3) := by decide +kernel
theorem dX12_seekNear_130 : decode cX12_seekNear 130 = .ok (.goto (-62), 3) := by decide +kernel
theorem dX12_seekNear_133 : decode cX12_seekNear 133 = .ok (.aload_n 0, 1) := by decide +kernel
theorem dX12_seekNear_134 : decode cX12_seekNear 134 = .ok (.invokevirtual 376, 3) := by decide +kernel
theorem dX12_seekNear_137 : decode cX12_seekNear 137 = .ok (.istore_n 2, 1) := by decide +kernel
theorem dX12_seekNear_138 : decode cX12_seekNear 138 = .ok (.goto (-106), 3) := by decide +kernel
theorem dX12_seekNear_141 : decode cX12_seekNear 141 = .ok (.return_, 1) := by decide +kernel
theorem dX12_parts_0 : decode cX12_parts 0 = .ok (.aload_n 0, 1) := by decide +kernel
theorem dX12_parts_1 : decode cX12_parts 1 = .ok (.lload_n 1, 1) := by decide +kernel
theorem dX12_parts_2 : decode cX12_parts 2 = .ok (.iconst 2, 1) := by decide +kernel
theorem dX12_parts_3 : decode cX12_parts 3 = .ok (.iload 4, 2) := by decide +kernel
theorem dX12_parts_5 : decode cX12_parts 5 = .ok (.invokevirtual 382, 3) := by decide +kernel
theorem dX12_parts_8 : decode cX12_parts 8 = .ok (.ifCond .ne 5, 3) := by decide +kernel
theorem dX12_parts_11 : decode cX12_parts 11 = .ok (.iconst 1, 1) := by decide +kernel
theorem dX12_parts_12 : decode cX12_parts 12 = .ok (.ireturn, 1) := by decide +kernel
theorem dX12_parts_13 : decode cX12_parts 13 = .ok (.aload_n 0, 1) := by decide +kernel
theorem dX12_parts_14 : decode cX12_parts 14 = .ok (.iload_n 3, 1) := by decide +kernel
theorem dX12_parts_15 : decode cX12_parts 15 = .ok (.invokevirtual 349, 3) := by decide +kernel
theorem dX12_parts_18 : decode cX12_parts 18 = .ok (.aload_n 0, 1) := by decide +kernel
theorem dX12_parts_19 : decode cX12_parts 19 = .ok (.invokevirtual 386, 3) := by decide +kernel
theorem dX12_parts_22 : decode cX12_parts 22 = .ok (.aload_n 0, 1) := by decide +kernel
theorem dX12_parts_23 : decode cX12_parts 23 = .ok (.getfield 362, 3) := by decide +kernel
theorem dX12_parts_26 : decode cX12_parts 26 = .ok (.ifCond .eq 7, 3) := by decide +kernel
theorem dX12_parts_29 : decode cX12_parts 29 = .ok (.iconst 0, 1) := by decide +kernel
theorem dX12_parts_30 : decode cX12_parts 30 = .ok (.goto 4, 3) := by decide +kernel
theorem dX12_parts_33 : decode cX12_parts 33 = .ok (.iconst 2, 1) := by decide +kernel
theorem dX12_parts_34 : decode cX12_parts 34 = .ok (.ireturn, 1) := by decide +kernel
theorem dX12_best_0 : decode cX12_best 0 = .ok (.aload_n 0, 1) := by decide +kernel
theorem dX12_best_1 : decode cX12_best 1 = .ok (.aload_n 0, 1) := by decide +kernel
theorem dX12_best_2 : decode cX12_best 2 = .ok (.lload_n 1, 1) := by decide +kernel
theorem dX12_best_3 : decode cX12_best 3 = .ok (.iload_n 3, 1) := by decide +kernel
theorem dX12_best_4 : decode cX12_best 4 = .ok (.bipush 9, 2) := by decide +kernel
theorem dX12_best_6 : decode cX12_best 6 = .ok (.invokevirtual 389, 3) := by decide +kernel
theorem dX12_best_9 : decode cX12_best 9 = .ok (.putfield 185, 3) := by decide +kernel
theorem dX12_best_12 : decode cX12_best 12 = .ok (.aload_n 0, 1) := by decide +kernel
theorem dX12_best_13 : decode cX12_best 13 = .ok (.getfield 185, 3) := by decide +kernel
theorem dX12_best_16 : decode cX12_best 16 = .ok (.ifCond .le 7, 3) := by decide +kernel
theorem dX12_best_19 : decode cX12_best 19 = .ok (.iconst 0, 1) := by decide +kernel
theorem dX12_best_20 : decode cX12_best 20 = .ok (.goto 7, 3) := by decide +kernel
theorem dX12_best_23 : decode cX12_best 23 = .ok (.aload_n 0, 1) := by decide +kernel
theorem dX12_best_24 : decode cX12_best 24 = .ok (.getfield 373, 3) := by decide +kernel
theorem dX12_best_27 : decode cX12_best 27 = .ok (.ireturn, 1) := by decide +kernel
theorem dX12_placeOf_0 : decode cX12_placeOf 0 = .ok (.iconst 0, 1) := by decide +kernel
theorem dX12_placeOf_1 : decode cX12_placeOf 1 = .ok (.istore_n 2, 1) := by decide +kernel
theorem dX12_placeOf_2 : decode cX12_placeOf 2 = .ok (.iload_n 2, 1) := by decide +kernel
theorem dX12_placeOf_3 : decode cX12_placeOf 3 = .ok (.aload_n 0, 1) := by decide +kernel
theorem dX12_placeOf_4 : decode cX12_placeOf 4 = .ok (.getfield 356, 3) := by decide +kernel
theorem dX12_placeOf_7 : decode cX12_placeOf 7 = .ok (.if_icmp .ge 21, 3) := by decide +kernel
theorem dX12_placeOf_10 : decode cX12_placeOf 10 = .ok (.aload_n 0, 1) := by decide +kernel
theorem dX12_placeOf_11 : decode cX12_placeOf 11 = .ok (.getfield 103, 3) := by decide +kernel
theorem dX12_placeOf_14 : decode cX12_placeOf 14 = .ok (.iload_n 2, 1) := by decide +kernel
theorem dX12_placeOf_15 : decode cX12_placeOf 15 = .ok (.iaload, 1) := by decide +kernel
theorem dX12_placeOf_16 : decode cX12_placeOf 16 = .ok (.iload_n 1, 1) := by decide +kernel
theorem dX12_placeOf_17 : decode cX12_placeOf 17 = .ok (.if_icmp .ne 5, 3) := by decide +kernel
theorem dX12_placeOf_20 : decode cX12_placeOf 20 = .ok (.iload_n 2, 1) := by decide +kernel
theorem dX12_placeOf_21 : decode cX12_placeOf 21 = .ok (.ireturn, 1) := by decide +kernel
theorem dX12_placeOf_22 : decode cX12_placeOf 22 = .ok (.iinc 2 1, 3) := by decide +kernel
theorem dX12_placeOf_25 : decode cX12_placeOf 25 = .ok (.goto (-23), 3) := by decide +kernel
theorem dX12_placeOf_28 : decode cX12_placeOf 28 = .ok (.iconst (-1), 1) := by decide +kernel
theorem dX12_placeOf_29 : decode cX12_placeOf 29 = .ok (.ireturn, 1) := by decide +kernel
theorem dX12_part_0 : decode cX12_part 0 = .ok (.aload_n 0, 1) := by decide +kernel
theorem dX12_part_1 : decode cX12_part 1 = .ok (.aload_n 0, 1) := by decide +kernel
theorem dX12_part_2 : decode cX12_part 2 = .ok (.lload_n 1, 1) := by decide +kernel
theorem dX12_part_3 : decode cX12_part 3 = .ok (.iload_n 3, 1) := by decide +kernel
theorem dX12_part_4 : decode cX12_part 4 = .ok (.bipush 9, 2) := by decide +kernel
theorem dX12_part_6 : decode cX12_part 6 = .ok (.invokevirtual 389, 3) := by decide +kernel
theorem dX12_part_9 : decode cX12_part 9 = .ok (.putfield 185, 3) := by decide +kernel
theorem dX12_part_12 : decode cX12_part 12 = .ok (.aload_n 0, 1) := by decide +kernel
theorem dX12_part_13 : decode cX12_part 13 = .ok (.getfield 185, 3) := by decide +kernel
theorem dX12_part_16 : decode cX12_part 16 = .ok (.ifCond .le 5, 3) := by decide +kernel
theorem dX12_part_19 : decode cX12_part 19 = .ok (.iconst 0, 1) := by decide +kernel
theorem dX12_part_20 : decode cX12_part 20 = .ok (.ireturn, 1) := by decide +kernel
theorem dX12_part_21 : decode cX12_part 21 = .ok (.aload_n 0, 1) := by decide +kernel
theorem dX12_part_22 : decode cX12_part 22 = .ok (.iload 4, 2) := by decide +kernel
theorem dX12_part_24 : decode cX12_part 24 = .ok (.invokevirtual 393, 3) := by decide +kernel
theorem dX12_part_27 : decode cX12_part 27 = .ok (.istore 5, 2) := by decide +kernel
theorem dX12_part_29 : decode cX12_part 29 = .ok (.iload 5, 2) := by decide +kernel
theorem dX12_part_31 : decode cX12_part 31 = .ok (.iconst (-1), 1) := by decide +kernel
theorem dX12_part_32 : decode cX12_part 32 = .ok (.if_icmp .ne 7, 3) := by decide +kernel
theorem dX12_part_35 : decode cX12_part 35 = .ok (.iconst (-1), 1) := by decide +kernel
theorem dX12_part_36 : decode cX12_part 36 = .ok (.goto 10, 3) := by decide +kernel
theorem dX12_part_39 : decode cX12_part 39 = .ok (.aload_n 0, 1) := by decide +kernel
theorem dX12_part_40 : decode cX12_part 40 = .ok (.getfield 109, 3) := by decide +kernel
theorem dX12_part_43 : decode cX12_part 43 = .ok (.iload 5, 2) := by decide +kernel
theorem dX12_part_45 : decode cX12_part 45 = .ok (.iaload, 1) := by decide +kernel
theorem dX12_part_46 : decode cX12_part 46 = .ok (.ireturn, 1) := by decide +kernel
theorem dX12_isNear_0 : decode cX12_isNear 0 = .ok (.iload_n 0, 1) := by decide +kernel
theorem dX12_isNear_1 : decode cX12_isNear 1 = .ok (.i2l, 1) := by decide +kernel
theorem dX12_isNear_2 : decode cX12_isNear 2 = .ok (.lconst 0, 1) := by decide +kernel
theorem dX12_isNear_3 : decode cX12_isNear 3 = .ok (.ldc2_w 396, 3) := by decide +kernel
theorem dX12_isNear_6 : decode cX12_isNear 6 = .ok (.invokestatic 190, 3) := by decide +kernel
theorem dX12_isNear_9 : decode cX12_isNear 9 = .ok (.ireturn, 1) := by decide +kernel
theorem dX12_near_0 : decode cX12_near 0 = .ok (.aload_n 0, 1) := by decide +kernel
theorem dX12_near_1 : decode cX12_near 1 = .ok (.iload 4, 2) := by decide +kernel
theorem dX12_near_3 : decode cX12_near 3 = .ok (.invokestatic 398, 3) := by decide +kernel
theorem dX12_near_6 : decode cX12_near 6 = .ok (.ifCond .eq 14, 3) := by decide +kernel
theorem dX12_near_9 : decode cX12_near 9 = .ok (.aload_n 0, 1) := by decide +kernel
theorem dX12_near_10 : decode cX12_near 10 = .ok (.lload_n 1, 1) := by decide +kernel
theorem dX12_near_11 : decode cX12_near 11 = .ok (.iload_n 3, 1) := by decide +kernel
theorem dX12_near_12 : decode cX12_near 12 = .ok (.bipush 9, 2) := by decide +kernel
theorem dX12_near_14 : decode cX12_near 14 = .ok (.invokevirtual 389, 3) := by decide +kernel
theorem dX12_near_17 : decode cX12_near 17 = .ok (.goto 4, 3) := by decide +kernel
theorem dX12_near_20 : decode cX12_near 20 = .ok (.iconst 1, 1) := by decide +kernel
theorem dX12_near_21 : decode cX12_near 21 = .ok (.putfield 185, 3) := by decide +kernel
theorem dX12_near_24 : decode cX12_near 24 = .ok (.aload_n 0, 1) := by decide +kernel
theorem dX12_near_25 : decode cX12_near 25 = .ok (.getfield 185, 3) := by decide +kernel
theorem dX12_near_28 : decode cX12_near 28 = .ok (.ifCond .le 5, 3) := by decide +kernel
theorem dX12_near_31 : decode cX12_near 31 = .ok (.iconst 0, 1) := by decide +kernel
theorem dX12_near_32 : decode cX12_near 32 = .ok (.ireturn, 1) := by decide +kernel
theorem dX12_near_33 : decode cX12_near 33 = .ok (.aload_n 0, 1) := by decide +kernel
theorem dX12_near_34 : decode cX12_near 34 = .ok (.iload 4, 2) := by decide +kernel
theorem dX12_near_36 : decode cX12_near 36 = .ok (.invokevirtual 401, 3) := by decide +kernel
theorem dX12_near_39 : decode cX12_near 39 = .ok (.aload_n 0, 1) := by decide +kernel
theorem dX12_near_40 : decode cX12_near 40 = .ok (.getfield 379, 3) := by decide +kernel
theorem dX12_near_43 : decode cX12_near 43 = .ok (.sipush 20000, 3) := by decide +kernel
theorem dX12_near_46 : decode cX12_near 46 = .ok (.if_icmp .le 8, 3) := by decide +kernel
theorem dX12_near_49 : decode cX12_near 49 = .ok (.bipush (-3), 2) := by decide +kernel
theorem dX12_near_51 : decode cX12_near 51 = .ok (.goto 7, 3) := by decide +kernel
theorem dX12_near_54 : decode cX12_near 54 = .ok (.aload_n 0, 1) := by decide +kernel
theorem dX12_near_55 : decode cX12_near 55 = .ok (.getfield 379, 3) := by decide +kernel
theorem dX12_near_58 : decode cX12_near 58 = .ok (.ireturn, 1) := by decide +kernel
theorem dX12_sureOf_0 : decode cX12_sureOf 0 = .ok (.aload_n 0, 1) := by decide +kernel
theorem dX12_sureOf_1 : decode cX12_sureOf 1 = .ok (.getfield 112, 3) := by decide +kernel
theorem dX12_sureOf_4 : decode cX12_sureOf 4 = .ok (.bipush 9, 2) := by decide +kernel
theorem dX12_sureOf_6 : decode cX12_sureOf 6 = .ok (.iload_n 1, 1) := by decide +kernel
theorem dX12_sureOf_7 : decode cX12_sureOf 7 = .ok (.iload_n 2, 1) := by decide +kernel
theorem dX12_sureOf_8 : decode cX12_sureOf 8 = .ok (.invokestatic 274, 3) := by decide +kernel
theorem dX12_sureOf_11 : decode cX12_sureOf 11 = .ok (.imul, 1) := by decide +kernel
theorem dX12_sureOf_12 : decode cX12_sureOf 12 = .ok (.iload_n 1, 1) := by decide +kernel
theorem dX12_sureOf_13 : decode cX12_sureOf 13 = .ok (.iload_n 2, 1) := by decide +kernel
theorem dX12_sureOf_14 : decode cX12_sureOf 14 = .ok (.invokestatic 311, 3) := by decide +kernel
theorem dX12_sureOf_17 : decode cX12_sureOf 17 = .ok (.iadd, 1) := by decide +kernel
theorem dX12_sureOf_18 : decode cX12_sureOf 18 = .ok (.iaload, 1) := by decide +kernel
theorem dX12_sureOf_19 : decode cX12_sureOf 19 = .ok (.istore_n 3, 1) := by decide +kernel
theorem dX12_sureOf_20 : decode cX12_sureOf 20 = .ok (.iload_n 3, 1) := by decide +kernel
theorem dX12_sureOf_21 : decode cX12_sureOf 21 = .ok (.aload_n 0, 1) := by decide +kernel
theorem dX12_sureOf_22 : decode cX12_sureOf 22 = .ok (.getfield 379, 3) := by decide +kernel
theorem dX12_sureOf_25 : decode cX12_sureOf 25 = .ok (.if_icmp .ne 7, 3) := by decide +kernel
theorem dX12_sureOf_28 : decode cX12_sureOf 28 = .ok (.iconst 1, 1) := by decide +kernel
theorem dX12_sureOf_29 : decode cX12_sureOf 29 = .ok (.goto 12, 3) := by decide +kernel
theorem dX12_sureOf_32 : decode cX12_sureOf 32 = .ok (.iload_n 3, 1) := by decide +kernel
theorem dX12_sureOf_33 : decode cX12_sureOf 33 = .ok (.ifCond .ne 7, 3) := by decide +kernel
theorem dX12_sureOf_36 : decode cX12_sureOf 36 = .ok (.iconst 2, 1) := by decide +kernel
theorem dX12_sureOf_37 : decode cX12_sureOf 37 = .ok (.goto 4, 3) := by decide +kernel
theorem dX12_sureOf_40 : decode cX12_sureOf 40 = .ok (.iconst 0, 1) := by decide +kernel
theorem dX12_sureOf_41 : decode cX12_sureOf 41 = .ok (.ireturn, 1) := by decide +kernel
theorem dX12_sure_0 : decode cX12_sure 0 = .ok (.aload_n 0, 1) := by decide +kernel
theorem dX12_sure_1 : decode cX12_sure 1 = .ok (.iload 4, 2) := by decide +kernel
theorem dX12_sure_3 : decode cX12_sure 3 = .ok (.invokestatic 398, 3) := by decide +kernel
theorem dX12_sure_6 : decode cX12_sure 6 = .ok (.ifCond .eq 14, 3) := by decide +kernel
theorem dX12_sure_9 : decode cX12_sure 9 = .ok (.aload_n 0, 1) := by decide +kernel
theorem dX12_sure_10 : decode cX12_sure 10 = .ok (.lload_n 1, 1) := by decide +kernel
theorem dX12_sure_11 : decode cX12_sure 11 = .ok (.iload_n 3, 1) := by decide +kernel
theorem dX12_sure_12 : decode cX12_sure 12 = .ok (.bipush 9, 2) := by decide +kernel
theorem dX12_sure_14 : decode cX12_sure 14 = .ok (.invokevirtual 389, 3) := by decide +kernel
theorem dX12_sure_17 : decode cX12_sure 17 = .ok (.goto 4, 3) := by decide +kernel
theorem dX12_sure_20 : decode cX12_sure 20 = .ok (.iconst 1, 1) := by decide +kernel
theorem dX12_sure_21 : decode cX12_sure 21 = .ok (.putfield 185, 3) := by decide +kernel
theorem dX12_sure_24 : decode cX12_sure 24 = .ok (.aload_n 0, 1) := by decide +kernel
theorem dX12_sure_25 : decode cX12_sure 25 = .ok (.getfield 185, 3) := by decide +kernel
theorem dX12_sure_28 : decode cX12_sure 28 = .ok (.iconst 1, 1) := by decide +kernel
theorem dX12_sure_29 : decode cX12_sure 29 = .ok (.if_icmp .eq 30, 3) := by decide +kernel
theorem dX12_sure_32 : decode cX12_sure 32 = .ok (.iload 5, 2) := by decide +kernel
theorem dX12_sure_34 : decode cX12_sure 34 = .ok (.iload 6, 2) := by decide +kernel
theorem dX12_sure_36 : decode cX12_sure 36 = .ok (.if_icmp .eq 23, 3) := by decide +kernel
theorem dX12_sure_39 : decode cX12_sure 39 = .ok (.aload_n 0, 1) := by decide +kernel
theorem dX12_sure_40 : decode cX12_sure 40 = .ok (.iload 5, 2) := by decide +kernel
theorem dX12_sure_42 : decode cX12_sure 42 = .ok (.invokevirtual 393, 3) := by decide +kernel
theorem dX12_sure_45 : decode cX12_sure 45 = .ok (.iconst (-1), 1) := by decide +kernel
theorem dX12_sure_46 : decode cX12_sure 46 = .ok (.if_icmp .eq 13, 3) := by decide +kernel
theorem dX12_sure_49 : decode cX12_sure 49 = .ok (.aload_n 0, 1) := by decide +kernel
theorem dX12_sure_50 : decode cX12_sure 50 = .ok (.iload 6, 2) := by decide +kernel
theorem dX12_sure_52 : decode cX12_sure 52 = .ok (.invokevirtual 393, 3) := by decide +kernel
theorem dX12_sure_55 : decode cX12_sure 55 = .ok (.iconst (-1), 1) := by decide +kernel
theorem dX12_sure_56 : decode cX12_sure 56 = .ok (.if_icmp .ne 9, 3) := by decide +kernel
theorem dX12_sure_59 : decode cX12_sure 59 = .ok (.aload_n 0, 1) := by decide +kernel
theorem dX12_sure_60 : decode cX12_sure 60 = .ok (.iconst 1, 1) := by decide +kernel
theorem dX12_sure_61 : decode cX12_sure 61 = .ok (.invokevirtual 226, 3) := by decide +kernel
theorem dX12_sure_64 : decode cX12_sure 64 = .ok (.ireturn, 1) := by decide +kernel
theorem dX12_sure_65 : decode cX12_sure 65 = .ok (.aload_n 0, 1) := by decide +kernel
theorem dX12_sure_66 : decode cX12_sure 66 = .ok (.getfield 185, 3) := by decide +kernel
theorem dX12_sure_69 : decode cX12_sure 69 = .ok (.ifCond .le 5, 3) := by decide +kernel
theorem dX12_sure_72 : decode cX12_sure 72 = .ok (.iconst 0, 1) := by decide +kernel
theorem dX12_sure_73 : decode cX12_sure 73 = .ok (.ireturn, 1) := by decide +kernel
theorem dX12_sure_74 : decode cX12_sure 74 = .ok (.aload_n 0, 1) := by decide +kernel
theorem dX12_sure_75 : decode cX12_sure 75 = .ok (.iload 4, 2) := by decide +kernel
theorem dX12_sure_77 : decode cX12_sure 77 = .ok (.invokevirtual 401, 3) := by decide +kernel
theorem dX12_sure_80 : decode cX12_sure 80 = .ok (.aload_n 0, 1) := by decide +kernel
theorem dX12_sure_81 : decode cX12_sure 81 = .ok (.getfield 379, 3) := by decide +kernel
theorem dX12_sure_84 : decode cX12_sure 84 = .ok (.sipush 20000, 3) := by decide +kernel
theorem dX12_sure_87 : decode cX12_sure 87 = .ok (.if_icmp .le 8, 3) := by decide +kernel
theorem dX12_sure_90 : decode cX12_sure 90 = .ok (.bipush (-3), 2) := by decide +kernel
theorem dX12_sure_92 : decode cX12_sure 92 = .ok (.goto 19, 3) := by decide +kernel
theorem dX12_sure_95 : decode cX12_sure 95 = .ok (.aload_n 0, 1) := by decide +kernel
theorem dX12_sure_96 : decode cX12_sure 96 = .ok (.aload_n 0, 1) := by decide +kernel
theorem dX12_sure_97 : decode cX12_sure 97 = .ok (.iload 5, 2) := by decide +kernel
theorem dX12_sure_99 : decode cX12_sure 99 = .ok (.invokevirtual 393, 3) := by decide +kernel
theorem dX12_sure_102 : decode cX12_sure 102 = .ok (.aload_n 0, 1) := by decide +kernel
theorem dX12_sure_103 : decode cX12_sure 103 = .ok (.iload 6, 2) := by decide +kernel
theorem dX12_sure_105 : decode cX12_sure 105 = .ok (.invokevirtual 393, 3) := by decide +kernel
theorem dX12_sure_108 : decode cX12_sure 108 = .ok (.invokevirtual 404, 3) := by decide +kernel
theorem dX12_sure_111 : decode cX12_sure 111 = .ok (.ireturn, 1) := by decide +kernel
theorem dX12_joins_0 : decode cX12_joins 0 = .ok (.aload_n 0, 1) := by decide +kernel
theorem dX12_joins_1 : decode cX12_joins 1 = .ok (.iload_n 1, 1) := by decide +kernel
theorem dX12_joins_2 : decode cX12_joins 2 = .ok (.invokevirtual 349, 3) := by decide +kernel
theorem dX12_joins_5 : decode cX12_joins 5 = .ok (.iconst 0, 1) := by decide +kernel
theorem dX12_joins_6 : decode cX12_joins 6 = .ok (.istore_n 2, 1) := by decide +kernel
theorem dX12_joins_7 : decode cX12_joins 7 = .ok (.iload_n 2, 1) := by decide +kernel
theorem dX12_joins_8 : decode cX12_joins 8 = .ok (.aload_n 0, 1) := by decide +kernel
theorem dX12_joins_9 : decode cX12_joins 9 = .ok (.getfield 203, 3) := by decide +kernel
theorem dX12_joins_12 : decode cX12_joins 12 = .ok (.if_icmp .ge 112, 3) := by decide +kernel
theorem dX12_joins_15 : decode cX12_joins 15 = .ok (.aload_n 0, 1) := by decide +kernel
theorem dX12_joins_16 : decode cX12_joins 16 = .ok (.getfield 118, 3) := by decide +kernel
theorem dX12_joins_19 : decode cX12_joins 19 = .ok (.iload_n 2, 1) := by decide +kernel
theorem dX12_joins_20 : decode cX12_joins 20 = .ok (.aload_n 0, 1) := by decide +kernel
theorem dX12_joins_21 : decode cX12_joins 21 = .ok (.iload_n 2, 1) := by decide +kernel
theorem dX12_joins_22 : decode cX12_joins 22 = .ok (.invokevirtual 210, 3) := by decide +kernel
theorem dX12_joins_25 : decode cX12_joins 25 = .ok (.ifCond .eq 7, 3) := by decide +kernel
theorem dX12_joins_28 : decode cX12_joins 28 = .ok (.iload_n 2, 1) := by decide +kernel
theorem dX12_joins_29 : decode cX12_joins 29 = .ok (.goto 4, 3) := by decide +kernel
theorem dX12_joins_32 : decode cX12_joins 32 = .ok (.iconst (-1), 1) := by decide +kernel
theorem dX12_joins_33 : decode cX12_joins 33 = .ok (.iastore, 1) := by decide +kernel
theorem dX12_joins_34 : decode cX12_joins 34 = .ok (.iconst 0, 1) := by decide +kernel
theorem dX12_joins_35 : decode cX12_joins 35 = .ok (.istore_n 3, 1) := by decide +kernel
theorem dX12_joins_36 : decode cX12_joins 36 = .ok (.iload_n 3, 1) := by decide +kernel
theorem dX12_joins_37 : decode cX12_joins 37 = .ok (.iload_n 2, 1) := by decide +kernel
theorem dX12_joins_38 : decode cX12_joins 38 = .ok (.if_icmp .ge 80, 3) := by decide +kernel
theorem dX12_joins_41 : decode cX12_joins 41 = .ok (.aload_n 0, 1) := by decide +kernel
theorem dX12_joins_42 : decode cX12_joins 42 = .ok (.iload_n 2, 1) := by decide +kernel
theorem dX12_joins_43 : decode cX12_joins 43 = .ok (.invokevirtual 210, 3) := by decide +kernel
theorem dX12_joins_46 : decode cX12_joins 46 = .ok (.ifCond .eq 35, 3) := by decide +kernel
theorem dX12_joins_49 : decode cX12_joins 49 = .ok (.aload_n 0, 1) := by decide +kernel
theorem dX12_joins_50 : decode cX12_joins 50 = .ok (.iload_n 3, 1) := by decide +kernel
theorem dX12_joins_51 : decode cX12_joins 51 = .ok (.invokevirtual 210, 3) := by decide +kernel
theorem dX12_joins_54 : decode cX12_joins 54 = .ok (.ifCond .eq 27, 3) := by decide +kernel
theorem dX12_joins_57 : decode cX12_joins 57 = .ok (.aload_n 0, 1) := by decide +kernel
theorem dX12_joins_58 : decode cX12_joins 58 = .ok (.getfield 79, 3) := by decide +kernel
theorem dX12_joins_61 : decode cX12_joins 61 = .ok (.bipush 60, 2) := by decide +kernel
theorem dX12_joins_63 : decode cX12_joins 63 = .ok (.iload_n 2, 1) := by decide +kernel
theorem dX12_joins_64 : decode cX12_joins 64 = .ok (.imul, 1) := by decide +kernel
theorem dX12_joins_65 : decode cX12_joins 65 = .ok (.iload_n 3, 1) := by decide +kernel
theorem dX12_joins_66 : decode cX12_joins 66 = .ok (.iadd, 1) := by decide +kernel
theorem dX12_joins_67 : decode cX12_joins 67 = .ok (.iaload, 1) := by decide +kernel
theorem dX12_joins_68 : decode cX12_joins 68 = .ok (.iconst 2, 1) := by decide +kernel
theorem dX12_joins_69 : decode cX12_joins 69 = .ok (.if_icmp .eq 12, 3) := by decide +kernel
theorem dX12_joins_72 : decode cX12_joins 72 = .ok (.aload_n 0, 1) := by decide +kernel
theorem dX12_joins_73 : decode cX12_joins 73 = .ok (.iload_n 2, 1) := by decide +kernel
theorem dX12_joins_74 : decode cX12_joins 74 = .ok (.iload_n 3, 1) := by decide +kernel
theorem dX12_joins_75 : decode cX12_joins 75 = .ok (.invokevirtual 354, 3) := by decide +kernel
theorem dX12_joins_78 : decode cX12_joins 78 = .ok (.goto 6, 3) := by decide +kernel
theorem dX12_joins_81 : decode cX12_joins 81 = .ok (.ldc_w 409, 3) := by decide +kernel
theorem dX12_joins_84 : decode cX12_joins 84 = .ok (.istore 4, 2) := by decide +kernel
theorem dX12_joins_86 : decode cX12_joins 86 = .ok (.aload_n 0, 1) := by decide +kernel
theorem dX12_joins_87 : decode cX12_joins 87 = .ok (.getfield 121, 3) := by decide +kernel
theorem dX12_joins_90 : decode cX12_joins 90 = .ok (.bipush 60, 2) := by decide +kernel
theorem dX12_joins_92 : decode cX12_joins 92 = .ok (.iload_n 2, 1) := by decide +kernel
theorem dX12_joins_93 : decode cX12_joins 93 = .ok (.imul, 1) := by decide +kernel
theorem dX12_joins_94 : decode cX12_joins 94 = .ok (.iload_n 3, 1) := by decide +kernel
theorem dX12_joins_95 : decode cX12_joins 95 = .ok (.iadd, 1) := by decide +kernel
theorem dX12_joins_96 : decode cX12_joins 96 = .ok (.iload 4, 2) := by decide +kernel
theorem dX12_joins_98 : decode cX12_joins 98 = .ok (.iastore, 1) := by decide +kernel
theorem dX12_joins_99 : decode cX12_joins 99 = .ok (.aload_n 0, 1) := by decide +kernel
theorem dX12_joins_100 : decode cX12_joins 100 = .ok (.getfield 121, 3) := by decide +kernel
theorem dX12_joins_103 : decode cX12_joins 103 = .ok (.bipush 60, 2) := by decide +kernel
theorem dX12_joins_105 : decode cX12_joins 105 = .ok (.iload_n 3, 1) := by decide +kernel
theorem dX12_joins_106 : decode cX12_joins 106 = .ok (.imul, 1) := by decide +kernel
theorem dX12_joins_107 : decode cX12_joins 107 = .ok (.iload_n 2, 1) := by decide +kernel
theorem dX12_joins_108 : decode cX12_joins 108 = .ok (.iadd, 1) := by decide +kernel
theorem dX12_joins_109 : decode cX12_joins 109 = .ok (.iload 4, 2) := by decide +kernel
theorem dX12_joins_111 : decode cX12_joins 111 = .ok (.iastore, 1) := by decide +kernel
theorem dX12_joins_112 : decode cX12_joins 112 = .ok (.iinc 3 1, 3) := by decide +kernel
theorem dX12_joins_115 : decode cX12_joins 115 = .ok (.goto (-79), 3) := by decide +kernel
theorem dX12_joins_118 : decode cX12_joins 118 = .ok (.iinc 2 1, 3) := by decide +kernel
theorem dX12_joins_121 : decode cX12_joins 121 = .ok (.goto (-114), 3) := by decide +kernel
theorem dX12_joins_124 : decode cX12_joins 124 = .ok (.iconst 1, 1) := by decide +kernel
theorem dX12_joins_125 : decode cX12_joins 125 = .ok (.istore_n 2, 1) := by decide +kernel
theorem dX12_joins_126 : decode cX12_joins 126 = .ok (.iload_n 2, 1) := by decide +kernel
theorem dX12_joins_127 : decode cX12_joins 127 = .ok (.ifCond .eq 145, 3) := by decide +kernel
theorem dX12_joins_130 : decode cX12_joins 130 = .ok (.iconst (-1), 1) := by decide +kernel
theorem dX12_joins_131 : decode cX12_joins 131 = .ok (.istore_n 3, 1) := by decide +kernel
theorem dX12_joins_132 : decode cX12_joins 132 = .ok (.iconst (-1), 1) := by decide +kernel
theorem dX12_joins_133 : decode cX12_joins 133 = .ok (.istore 4, 2) := by decide +kernel
theorem dX12_joins_135 : decode cX12_joins 135 = .ok (.iconst 0, 1) := by decide +kernel
theorem dX12_joins_136 : decode cX12_joins 136 = .ok (.istore 5, 2) := by decide +kernel
theorem dX12_joins_138 : decode cX12_joins 138 = .ok (.iconst 0, 1) := by decide +kernel
theorem dX12_joins_139 : decode cX12_joins 139 = .ok (.istore 6, 2) := by decide +kernel
theorem dX12_joins_141 : decode cX12_joins 141 = .ok (.iload 6, 2) := by decide +kernel
theorem dX12_joins_143 : decode cX12_joins 143 = .ok (.aload_n 0, 1) := by decide +kernel
theorem dX12_joins_144 : decode cX12_joins 144 = .ok (.getfield 203, 3) := by decide +kernel
theorem dX12_joins_147 : decode cX12_joins 147 = .ok (.if_icmp .ge 100, 3) := by decide +kernel
theorem dX12_joins_150 : decode cX12_joins 150 = .ok (.aload_n 0, 1) := by decide +kernel
theorem dX12_joins_151 : decode cX12_joins 151 = .ok (.getfield 118, 3) := by decide +kernel
theorem dX12_joins_154 : decode cX12_joins 154 = .ok (.iload 6, 2) := by decide +kernel
theorem dX12_joins_156 : decode cX12_joins 156 = .ok (.iaload, 1) := by decide +kernel
theorem dX12_joins_157 : decode cX12_joins 157 = .ok (.iload 6, 2) := by decide +kernel
theorem dX12_joins_159 : decode cX12_joins 159 = .ok (.if_icmp .eq 6, 3) := by decide +kernel
theorem dX12_joins_162 : decode cX12_joins 162 = .ok (.goto 79, 3) := by decide +kernel
theorem dX12_joins_165 : decode cX12_joins 165 = .ok (.iload 6, 2) := by decide +kernel
theorem dX12_joins_167 : decode cX12_joins 167 = .ok (.iconst 1, 1) := by decide +kernel
theorem dX12_joins_168 : decode cX12_joins 168 = .ok (.iadd, 1) := by decide +kernel
theorem dX12_joins_169 : decode cX12_joins 169 = .ok (.istore 7, 2) := by decide +kernel
theorem dX12_joins_171 : decode cX12_joins 171 = .ok (.iload 7, 2) := by decide +kernel
theorem dX12_joins_173 : decode cX12_joins 173 = .ok (.aload_n 0, 1) := by decide +kernel
theorem dX12_joins_174 : decode cX12_joins 174 = .ok (.getfield 203, 3) := by decide +kernel
theorem dX12_joins_177 : decode cX12_joins 177 = .ok (.if_icmp .ge 64, 3) := by decide +kernel
theorem dX12_joins_180 : decode cX12_joins 180 = .ok (.aload_n 0, 1) := by decide +kernel
theorem dX12_joins_181 : decode cX12_joins 181 = .ok (.getfield 118, 3) := by decide +kernel
theorem dX12_joins_184 : decode cX12_joins 184 = .ok (.iload 7, 2) := by decide +kernel
theorem dX12_joins_186 : decode cX12_joins 186 = .ok (.iaload, 1) := by decide +kernel
theorem dX12_joins_187 : decode cX12_joins 187 = .ok (.iload 7, 2) := by decide +kernel
theorem dX12_joins_189 : decode cX12_joins 189 = .ok (.if_icmp .ne 46, 3) := by decide +kernel
theorem dX12_joins_192 : decode cX12_joins 192 = .ok (.aload_n 0, 1) := by decide +kernel
theorem dX12_joins_193 : decode cX12_joins 193 = .ok (.getfield 121, 3) := by decide +kernel
theorem dX12_joins_196 : decode cX12_joins 196 = .ok (.bipush 60, 2) := by decide +kernel
theorem dX12_joins_198 : decode cX12_joins 198 = .ok (.iload 6, 2) := by decide +kernel
theorem dX12_joins_200 : decode cX12_joins 200 = .ok (.imul, 1) := by decide +kernel
theorem dX12_joins_201 : decode cX12_joins 201 = .ok (.iload 7, 2) := by decide +kernel
theorem dX12_joins_203 : decode cX12_joins 203 = .ok (.iadd, 1) := by decide +kernel
theorem dX12_joins_204 : decode cX12_joins 204 = .ok (.iaload, 1) := by decide +kernel
theorem dX12_joins_205 : decode cX12_joins 205 = .ok (.iload 5, 2) := by decide +kernel
theorem dX12_joins_207 : decode cX12_joins 207 = .ok (.if_icmp .gt 6, 3) := by decide +kernel
theorem dX12_joins_210 : decode cX12_joins 210 = .ok (.goto 25, 3) := by decide +kernel
theorem dX12_joins_213 : decode cX12_joins 213 = .ok (.aload_n 0, 1) := by decide +kernel
theorem dX12_joins_214 : decode cX12_joins 214 = .ok (.getfield 121, 3) := by decide +kernel
theorem dX12_joins_217 : decode cX12_joins 217 = .ok (.bipush 60, 2) := by decide +kernel
theorem dX12_joins_219 : decode cX12_joins 219 = .ok (.iload 6, 2) := by decide +kernel
theorem dX12_joins_221 : decode cX12_joins 221 = .ok (.imul, 1) := by decide +kernel
theorem dX12_joins_222 : decode cX12_joins 222 = .ok (.iload 7, 2) := by decide +kernel
theorem dX12_joins_224 : decode cX12_joins 224 = .ok (.iadd, 1) := by decide +kernel
theorem dX12_joins_225 : decode cX12_joins 225 = .ok (.iaload, 1) := by decide +kernel
theorem dX12_joins_226 : decode cX12_joins 226 = .ok (.istore 5, 2) := by decide +kernel
theorem dX12_joins_228 : decode cX12_joins 228 = .ok (.iload 6, 2) := by decide +kernel
theorem dX12_joins_230 : decode cX12_joins 230 = .ok (.istore_n 3, 1) := by decide +kernel
