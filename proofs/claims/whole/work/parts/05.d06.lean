theorem dX12_nameNow_24 : decode cX12_nameNow 24 = .ok (.iconst 1, 1) := by decide +kernel
theorem dX12_nameNow_25 : decode cX12_nameNow 25 = .ok (.goto 75, 3) := by decide +kernel
theorem dX12_nameNow_28 : decode cX12_nameNow 28 = .ok (.aload_n 0, 1) := by decide +kernel
theorem dX12_nameNow_29 : decode cX12_nameNow 29 = .ok (.ldc_w 527, 3) := by decide +kernel
theorem dX12_nameNow_32 : decode cX12_nameNow 32 = .ok (.invokevirtual 521, 3) := by decide +kernel
theorem dX12_nameNow_35 : decode cX12_nameNow 35 = .ok (.ifCond .eq 7, 3) := by decide +kernel
theorem dX12_nameNow_38 : decode cX12_nameNow 38 = .ok (.iconst 2, 1) := by decide +kernel
theorem dX12_nameNow_39 : decode cX12_nameNow 39 = .ok (.goto 61, 3) := by decide +kernel
theorem dX12_nameNow_42 : decode cX12_nameNow 42 = .ok (.aload_n 0, 1) := by decide +kernel
theorem dX12_nameNow_43 : decode cX12_nameNow 43 = .ok (.ldc_w 529, 3) := by decide +kernel
theorem dX12_nameNow_46 : decode cX12_nameNow 46 = .ok (.invokevirtual 521, 3) := by decide +kernel
theorem dX12_nameNow_49 : decode cX12_nameNow 49 = .ok (.ifCond .eq 7, 3) := by decide +kernel
theorem dX12_nameNow_52 : decode cX12_nameNow 52 = .ok (.iconst 3, 1) := by decide +kernel
theorem dX12_nameNow_53 : decode cX12_nameNow 53 = .ok (.goto 47, 3) := by decide +kernel
theorem dX12_nameNow_56 : decode cX12_nameNow 56 = .ok (.aload_n 0, 1) := by decide +kernel
theorem dX12_nameNow_57 : decode cX12_nameNow 57 = .ok (.ldc_w 531, 3) := by decide +kernel
theorem dX12_nameNow_60 : decode cX12_nameNow 60 = .ok (.invokevirtual 521, 3) := by decide +kernel
theorem dX12_nameNow_63 : decode cX12_nameNow 63 = .ok (.ifCond .eq 7, 3) := by decide +kernel
theorem dX12_nameNow_66 : decode cX12_nameNow 66 = .ok (.iconst 4, 1) := by decide +kernel
theorem dX12_nameNow_67 : decode cX12_nameNow 67 = .ok (.goto 33, 3) := by decide +kernel
theorem dX12_nameNow_70 : decode cX12_nameNow 70 = .ok (.aload_n 0, 1) := by decide +kernel
theorem dX12_nameNow_71 : decode cX12_nameNow 71 = .ok (.ldc_w 533, 3) := by decide +kernel
theorem dX12_nameNow_74 : decode cX12_nameNow 74 = .ok (.invokevirtual 521, 3) := by decide +kernel
theorem dX12_nameNow_77 : decode cX12_nameNow 77 = .ok (.ifCond .eq 7, 3) := by decide +kernel
theorem dX12_nameNow_80 : decode cX12_nameNow 80 = .ok (.iconst 5, 1) := by decide +kernel
theorem dX12_nameNow_81 : decode cX12_nameNow 81 = .ok (.goto 19, 3) := by decide +kernel
theorem dX12_nameNow_84 : decode cX12_nameNow 84 = .ok (.aload_n 0, 1) := by decide +kernel
theorem dX12_nameNow_85 : decode cX12_nameNow 85 = .ok (.ldc_w 535, 3) := by decide +kernel
theorem dX12_nameNow_88 : decode cX12_nameNow 88 = .ok (.invokevirtual 521, 3) := by decide +kernel
theorem dX12_nameNow_91 : decode cX12_nameNow 91 = .ok (.ifCond .eq 8, 3) := by decide +kernel
theorem dX12_nameNow_94 : decode cX12_nameNow 94 = .ok (.bipush 6, 2) := by decide +kernel
theorem dX12_nameNow_96 : decode cX12_nameNow 96 = .ok (.goto 4, 3) := by decide +kernel
theorem dX12_nameNow_99 : decode cX12_nameNow 99 = .ok (.iconst (-1), 1) := by decide +kernel
theorem dX12_nameNow_100 : decode cX12_nameNow 100 = .ok (.ireturn, 1) := by decide +kernel
theorem dX12_saysNow_0 : decode cX12_saysNow 0 = .ok (.aload_n 0, 1) := by decide +kernel
theorem dX12_saysNow_1 : decode cX12_saysNow 1 = .ok (.ldc_w 536, 3) := by decide +kernel
theorem dX12_saysNow_4 : decode cX12_saysNow 4 = .ok (.invokevirtual 521, 3) := by decide +kernel
theorem dX12_saysNow_7 : decode cX12_saysNow 7 = .ok (.ifCond .eq 7, 3) := by decide +kernel
theorem dX12_saysNow_10 : decode cX12_saysNow 10 = .ok (.iconst 0, 1) := by decide +kernel
theorem dX12_saysNow_11 : decode cX12_saysNow 11 = .ok (.goto 32, 3) := by decide +kernel
theorem dX12_saysNow_14 : decode cX12_saysNow 14 = .ok (.aload_n 0, 1) := by decide +kernel
theorem dX12_saysNow_15 : decode cX12_saysNow 15 = .ok (.ldc_w 538, 3) := by decide +kernel
theorem dX12_saysNow_18 : decode cX12_saysNow 18 = .ok (.invokevirtual 521, 3) := by decide +kernel
theorem dX12_saysNow_21 : decode cX12_saysNow 21 = .ok (.ifCond .eq 7, 3) := by decide +kernel
theorem dX12_saysNow_24 : decode cX12_saysNow 24 = .ok (.iconst 1, 1) := by decide +kernel
theorem dX12_saysNow_25 : decode cX12_saysNow 25 = .ok (.goto 18, 3) := by decide +kernel
theorem dX12_saysNow_28 : decode cX12_saysNow 28 = .ok (.aload_n 0, 1) := by decide +kernel
theorem dX12_saysNow_29 : decode cX12_saysNow 29 = .ok (.ldc_w 540, 3) := by decide +kernel
theorem dX12_saysNow_32 : decode cX12_saysNow 32 = .ok (.invokevirtual 521, 3) := by decide +kernel
theorem dX12_saysNow_35 : decode cX12_saysNow 35 = .ok (.ifCond .eq 7, 3) := by decide +kernel
theorem dX12_saysNow_38 : decode cX12_saysNow 38 = .ok (.iconst 2, 1) := by decide +kernel
theorem dX12_saysNow_39 : decode cX12_saysNow 39 = .ok (.goto 4, 3) := by decide +kernel
theorem dX12_saysNow_42 : decode cX12_saysNow 42 = .ok (.iconst (-1), 1) := by decide +kernel
theorem dX12_saysNow_43 : decode cX12_saysNow 43 = .ok (.ireturn, 1) := by decide +kernel
theorem dX12_opens_0 : decode cX12_opens 0 = .ok (.aload_n 0, 1) := by decide +kernel
theorem dX12_opens_1 : decode cX12_opens 1 = .ok (.getfield 542, 3) := by decide +kernel
theorem dX12_opens_4 : decode cX12_opens 4 = .ok (.iconst 5, 1) := by decide +kernel
theorem dX12_opens_5 : decode cX12_opens 5 = .ok (.if_icmp .ne 10, 3) := by decide +kernel
theorem dX12_opens_8 : decode cX12_opens 8 = .ok (.aload_n 0, 1) := by decide +kernel
theorem dX12_opens_9 : decode cX12_opens 9 = .ok (.iconst 4, 1) := by decide +kernel
theorem dX12_opens_10 : decode cX12_opens 10 = .ok (.invokevirtual 513, 3) := by decide +kernel
theorem dX12_opens_13 : decode cX12_opens 13 = .ok (.iconst 0, 1) := by decide +kernel
theorem dX12_opens_14 : decode cX12_opens 14 = .ok (.ireturn, 1) := by decide +kernel
theorem dX12_opens_15 : decode cX12_opens 15 = .ok (.aload_n 0, 1) := by decide +kernel
theorem dX12_opens_16 : decode cX12_opens 16 = .ok (.dup, 1) := by decide +kernel
theorem dX12_opens_17 : decode cX12_opens 17 = .ok (.getfield 542, 3) := by decide +kernel
theorem dX12_opens_20 : decode cX12_opens 20 = .ok (.iconst 1, 1) := by decide +kernel
theorem dX12_opens_21 : decode cX12_opens 21 = .ok (.iadd, 1) := by decide +kernel
theorem dX12_opens_22 : decode cX12_opens 22 = .ok (.putfield 542, 3) := by decide +kernel
theorem dX12_opens_25 : decode cX12_opens 25 = .ok (.aload_n 0, 1) := by decide +kernel
theorem dX12_opens_26 : decode cX12_opens 26 = .ok (.invokevirtual 510, 3) := by decide +kernel
theorem dX12_opens_29 : decode cX12_opens 29 = .ok (.iconst 1, 1) := by decide +kernel
theorem dX12_opens_30 : decode cX12_opens 30 = .ok (.ireturn, 1) := by decide +kernel
theorem dX12_readAtom_0 : decode cX12_readAtom 0 = .ok (.aload_n 0, 1) := by decide +kernel
theorem dX12_readAtom_1 : decode cX12_readAtom 1 = .ok (.getfield 492, 3) := by decide +kernel
theorem dX12_readAtom_4 : decode cX12_readAtom 4 = .ok (.ifCond .eq 4, 3) := by decide +kernel
theorem dX12_readAtom_7 : decode cX12_readAtom 7 = .ok (.return_, 1) := by decide +kernel
theorem dX12_readAtom_8 : decode cX12_readAtom 8 = .ok (.aload_n 0, 1) := by decide +kernel
theorem dX12_readAtom_9 : decode cX12_readAtom 9 = .ok (.invokevirtual 544, 3) := by decide +kernel
theorem dX12_readAtom_12 : decode cX12_readAtom 12 = .ok (.istore_n 1, 1) := by decide +kernel
theorem dX12_readAtom_13 : decode cX12_readAtom 13 = .ok (.aload_n 0, 1) := by decide +kernel
theorem dX12_readAtom_14 : decode cX12_readAtom 14 = .ok (.getfield 474, 3) := by decide +kernel
theorem dX12_readAtom_17 : decode cX12_readAtom 17 = .ok (.iconst 2, 1) := by decide +kernel
theorem dX12_readAtom_18 : decode cX12_readAtom 18 = .ok (.if_icmp .ne 23, 3) := by decide +kernel
theorem dX12_readAtom_21 : decode cX12_readAtom 21 = .ok (.aload_n 0, 1) := by decide +kernel
theorem dX12_readAtom_22 : decode cX12_readAtom 22 = .ok (.iconst 0, 1) := by decide +kernel
theorem dX12_readAtom_23 : decode cX12_readAtom 23 = .ok (.invokevirtual 547, 3) := by decide +kernel
theorem dX12_readAtom_26 : decode cX12_readAtom 26 = .ok (.aload_n 0, 1) := by decide +kernel
theorem dX12_readAtom_27 : decode cX12_readAtom 27 = .ok (.aload_n 0, 1) := by decide +kernel
theorem dX12_readAtom_28 : decode cX12_readAtom 28 = .ok (.getfield 486, 3) := by decide +kernel
theorem dX12_readAtom_31 : decode cX12_readAtom 31 = .ok (.invokevirtual 547, 3) := by decide +kernel
theorem dX12_readAtom_34 : decode cX12_readAtom 34 = .ok (.aload_n 0, 1) := by decide +kernel
theorem dX12_readAtom_35 : decode cX12_readAtom 35 = .ok (.invokevirtual 510, 3) := by decide +kernel
theorem dX12_readAtom_38 : decode cX12_readAtom 38 = .ok (.goto 68, 3) := by decide +kernel
theorem dX12_readAtom_41 : decode cX12_readAtom 41 = .ok (.iload_n 1, 1) := by decide +kernel
theorem dX12_readAtom_42 : decode cX12_readAtom 42 = .ok (.iconst (-1), 1) := by decide +kernel
theorem dX12_readAtom_43 : decode cX12_readAtom 43 = .ok (.if_icmp .eq 18, 3) := by decide +kernel
theorem dX12_readAtom_46 : decode cX12_readAtom 46 = .ok (.aload_n 0, 1) := by decide +kernel
theorem dX12_readAtom_47 : decode cX12_readAtom 47 = .ok (.bipush 20, 2) := by decide +kernel
theorem dX12_readAtom_49 : decode cX12_readAtom 49 = .ok (.iload_n 1, 1) := by decide +kernel
theorem dX12_readAtom_50 : decode cX12_readAtom 50 = .ok (.iadd, 1) := by decide +kernel
theorem dX12_readAtom_51 : decode cX12_readAtom 51 = .ok (.invokevirtual 547, 3) := by decide +kernel
theorem dX12_readAtom_54 : decode cX12_readAtom 54 = .ok (.aload_n 0, 1) := by decide +kernel
theorem dX12_readAtom_55 : decode cX12_readAtom 55 = .ok (.invokevirtual 510, 3) := by decide +kernel
theorem dX12_readAtom_58 : decode cX12_readAtom 58 = .ok (.goto 48, 3) := by decide +kernel
theorem dX12_readAtom_61 : decode cX12_readAtom 61 = .ok (.aload_n 0, 1) := by decide +kernel
theorem dX12_readAtom_62 : decode cX12_readAtom 62 = .ok (.bipush 40, 2) := by decide +kernel
theorem dX12_readAtom_64 : decode cX12_readAtom 64 = .ok (.invokevirtual 507, 3) := by decide +kernel
theorem dX12_readAtom_67 : decode cX12_readAtom 67 = .ok (.ifCond .eq 34, 3) := by decide +kernel
theorem dX12_readAtom_70 : decode cX12_readAtom 70 = .ok (.aload_n 0, 1) := by decide +kernel
theorem dX12_readAtom_71 : decode cX12_readAtom 71 = .ok (.invokevirtual 550, 3) := by decide +kernel
theorem dX12_readAtom_74 : decode cX12_readAtom 74 = .ok (.ifCond .ne 4, 3) := by decide +kernel
theorem dX12_readAtom_77 : decode cX12_readAtom 77 = .ok (.return_, 1) := by decide +kernel
theorem dX12_readAtom_78 : decode cX12_readAtom 78 = .ok (.aload_n 0, 1) := by decide +kernel
theorem dX12_readAtom_79 : decode cX12_readAtom 79 = .ok (.invokevirtual 553, 3) := by decide +kernel
theorem dX12_readAtom_82 : decode cX12_readAtom 82 = .ok (.aload_n 0, 1) := by decide +kernel
theorem dX12_readAtom_83 : decode cX12_readAtom 83 = .ok (.bipush 41, 2) := by decide +kernel
theorem dX12_readAtom_85 : decode cX12_readAtom 85 = .ok (.invokevirtual 556, 3) := by decide +kernel
theorem dX12_readAtom_88 : decode cX12_readAtom 88 = .ok (.aload_n 0, 1) := by decide +kernel
theorem dX12_readAtom_89 : decode cX12_readAtom 89 = .ok (.dup, 1) := by decide +kernel
theorem dX12_readAtom_90 : decode cX12_readAtom 90 = .ok (.getfield 542, 3) := by decide +kernel
theorem dX12_readAtom_93 : decode cX12_readAtom 93 = .ok (.iconst 1, 1) := by decide +kernel
theorem dX12_readAtom_94 : decode cX12_readAtom 94 = .ok (.isub, 1) := by decide +kernel
theorem dX12_readAtom_95 : decode cX12_readAtom 95 = .ok (.putfield 542, 3) := by decide +kernel
theorem dX12_readAtom_98 : decode cX12_readAtom 98 = .ok (.goto 8, 3) := by decide +kernel
theorem dX12_readAtom_101 : decode cX12_readAtom 101 = .ok (.aload_n 0, 1) := by decide +kernel
theorem dX12_readAtom_102 : decode cX12_readAtom 102 = .ok (.iconst 2, 1) := by decide +kernel
theorem dX12_readAtom_103 : decode cX12_readAtom 103 = .ok (.invokevirtual 513, 3) := by decide +kernel
theorem dX12_readAtom_106 : decode cX12_readAtom 106 = .ok (.return_, 1) := by decide +kernel
theorem dX12_readItem_0 : decode cX12_readItem 0 = .ok (.aload_n 0, 1) := by decide +kernel
theorem dX12_readItem_1 : decode cX12_readItem 1 = .ok (.invokevirtual 559, 3) := by decide +kernel
theorem dX12_readItem_4 : decode cX12_readItem 4 = .ok (.aload_n 0, 1) := by decide +kernel
theorem dX12_readItem_5 : decode cX12_readItem 5 = .ok (.bipush 42, 2) := by decide +kernel
theorem dX12_readItem_7 : decode cX12_readItem 7 = .ok (.invokevirtual 507, 3) := by decide +kernel
theorem dX12_readItem_10 : decode cX12_readItem 10 = .ok (.ifCond .eq 20, 3) := by decide +kernel
theorem dX12_readItem_13 : decode cX12_readItem 13 = .ok (.aload_n 0, 1) := by decide +kernel
theorem dX12_readItem_14 : decode cX12_readItem 14 = .ok (.invokevirtual 510, 3) := by decide +kernel
theorem dX12_readItem_17 : decode cX12_readItem 17 = .ok (.aload_n 0, 1) := by decide +kernel
theorem dX12_readItem_18 : decode cX12_readItem 18 = .ok (.invokevirtual 559, 3) := by decide +kernel
theorem dX12_readItem_21 : decode cX12_readItem 21 = .ok (.aload_n 0, 1) := by decide +kernel
theorem dX12_readItem_22 : decode cX12_readItem 22 = .ok (.bipush 6, 2) := by decide +kernel
theorem dX12_readItem_24 : decode cX12_readItem 24 = .ok (.invokevirtual 547, 3) := by decide +kernel
theorem dX12_readItem_27 : decode cX12_readItem 27 = .ok (.goto (-23), 3) := by decide +kernel
theorem dX12_readItem_30 : decode cX12_readItem 30 = .ok (.return_, 1) := by decide +kernel
theorem dX12_readSum_0 : decode cX12_readSum 0 = .ok (.aload_n 0, 1) := by decide +kernel
theorem dX12_readSum_1 : decode cX12_readSum 1 = .ok (.invokevirtual 562, 3) := by decide +kernel
theorem dX12_readSum_4 : decode cX12_readSum 4 = .ok (.aload_n 0, 1) := by decide +kernel
theorem dX12_readSum_5 : decode cX12_readSum 5 = .ok (.bipush 43, 2) := by decide +kernel
theorem dX12_readSum_7 : decode cX12_readSum 7 = .ok (.invokevirtual 507, 3) := by decide +kernel
theorem dX12_readSum_10 : decode cX12_readSum 10 = .ok (.ifCond .ne 12, 3) := by decide +kernel
theorem dX12_readSum_13 : decode cX12_readSum 13 = .ok (.aload_n 0, 1) := by decide +kernel
theorem dX12_readSum_14 : decode cX12_readSum 14 = .ok (.bipush 45, 2) := by decide +kernel
theorem dX12_readSum_16 : decode cX12_readSum 16 = .ok (.invokevirtual 507, 3) := by decide +kernel
theorem dX12_readSum_19 : decode cX12_readSum 19 = .ok (.ifCond .eq 34, 3) := by decide +kernel
theorem dX12_readSum_22 : decode cX12_readSum 22 = .ok (.aload_n 0, 1) := by decide +kernel
theorem dX12_readSum_23 : decode cX12_readSum 23 = .ok (.bipush 43, 2) := by decide +kernel
theorem dX12_readSum_25 : decode cX12_readSum 25 = .ok (.invokevirtual 507, 3) := by decide +kernel
theorem dX12_readSum_28 : decode cX12_readSum 28 = .ok (.ifCond .eq 7, 3) := by decide +kernel
theorem dX12_readSum_31 : decode cX12_readSum 31 = .ok (.iconst 4, 1) := by decide +kernel
theorem dX12_readSum_32 : decode cX12_readSum 32 = .ok (.goto 4, 3) := by decide +kernel
theorem dX12_readSum_35 : decode cX12_readSum 35 = .ok (.iconst 5, 1) := by decide +kernel
theorem dX12_readSum_36 : decode cX12_readSum 36 = .ok (.istore_n 1, 1) := by decide +kernel
theorem dX12_readSum_37 : decode cX12_readSum 37 = .ok (.aload_n 0, 1) := by decide +kernel
theorem dX12_readSum_38 : decode cX12_readSum 38 = .ok (.invokevirtual 510, 3) := by decide +kernel
theorem dX12_readSum_41 : decode cX12_readSum 41 = .ok (.aload_n 0, 1) := by decide +kernel
theorem dX12_readSum_42 : decode cX12_readSum 42 = .ok (.invokevirtual 562, 3) := by decide +kernel
theorem dX12_readSum_45 : decode cX12_readSum 45 = .ok (.aload_n 0, 1) := by decide +kernel
theorem dX12_readSum_46 : decode cX12_readSum 46 = .ok (.iload_n 1, 1) := by decide +kernel
theorem dX12_readSum_47 : decode cX12_readSum 47 = .ok (.invokevirtual 547, 3) := by decide +kernel
theorem dX12_readSum_50 : decode cX12_readSum 50 = .ok (.goto (-46), 3) := by decide +kernel
theorem dX12_readSum_53 : decode cX12_readSum 53 = .ok (.return_, 1) := by decide +kernel
theorem dX12_readOne_0 : decode cX12_readOne 0 = .ok (.aload_n 0, 1) := by decide +kernel
theorem dX12_readOne_1 : decode cX12_readOne 1 = .ok (.getfield 492, 3) := by decide +kernel
theorem dX12_readOne_4 : decode cX12_readOne 4 = .ok (.ifCond .eq 4, 3) := by decide +kernel
theorem dX12_readOne_7 : decode cX12_readOne 7 = .ok (.return_, 1) := by decide +kernel
theorem dX12_readOne_8 : decode cX12_readOne 8 = .ok (.aload_n 0, 1) := by decide +kernel
theorem dX12_readOne_9 : decode cX12_readOne 9 = .ok (.ldc_w 565, 3) := by decide +kernel
theorem dX12_readOne_12 : decode cX12_readOne 12 = .ok (.invokevirtual 521, 3) := by decide +kernel
theorem dX12_readOne_15 : decode cX12_readOne 15 = .ok (.ifCond .eq 31, 3) := by decide +kernel
theorem dX12_readOne_18 : decode cX12_readOne 18 = .ok (.aload_n 0, 1) := by decide +kernel
theorem dX12_readOne_19 : decode cX12_readOne 19 = .ok (.invokevirtual 550, 3) := by decide +kernel
theorem dX12_readOne_22 : decode cX12_readOne 22 = .ok (.ifCond .ne 4, 3) := by decide +kernel
theorem dX12_readOne_25 : decode cX12_readOne 25 = .ok (.return_, 1) := by decide +kernel
theorem dX12_readOne_26 : decode cX12_readOne 26 = .ok (.aload_n 0, 1) := by decide +kernel
theorem dX12_readOne_27 : decode cX12_readOne 27 = .ok (.invokevirtual 567, 3) := by decide +kernel
theorem dX12_readOne_30 : decode cX12_readOne 30 = .ok (.aload_n 0, 1) := by decide +kernel
theorem dX12_readOne_31 : decode cX12_readOne 31 = .ok (.iconst 3, 1) := by decide +kernel
theorem dX12_readOne_32 : decode cX12_readOne 32 = .ok (.invokevirtual 547, 3) := by decide +kernel
theorem dX12_readOne_35 : decode cX12_readOne 35 = .ok (.aload_n 0, 1) := by decide +kernel
theorem dX12_readOne_36 : decode cX12_readOne 36 = .ok (.dup, 1) := by decide +kernel
theorem dX12_readOne_37 : decode cX12_readOne 37 = .ok (.getfield 542, 3) := by decide +kernel
theorem dX12_readOne_40 : decode cX12_readOne 40 = .ok (.iconst 1, 1) := by decide +kernel
theorem dX12_readOne_41 : decode cX12_readOne 41 = .ok (.isub, 1) := by decide +kernel
theorem dX12_readOne_42 : decode cX12_readOne 42 = .ok (.putfield 542, 3) := by decide +kernel
theorem dX12_readOne_45 : decode cX12_readOne 45 = .ok (.return_, 1) := by decide +kernel
theorem dX12_readOne_46 : decode cX12_readOne 46 = .ok (.aload_n 0, 1) := by decide +kernel
theorem dX12_readOne_47 : decode cX12_readOne 47 = .ok (.bipush 91, 2) := by decide +kernel
theorem dX12_readOne_49 : decode cX12_readOne 49 = .ok (.invokevirtual 507, 3) := by decide +kernel
theorem dX12_readOne_52 : decode cX12_readOne 52 = .ok (.ifCond .eq 32, 3) := by decide +kernel
theorem dX12_readOne_55 : decode cX12_readOne 55 = .ok (.aload_n 0, 1) := by decide +kernel
theorem dX12_readOne_56 : decode cX12_readOne 56 = .ok (.invokevirtual 550, 3) := by decide +kernel
theorem dX12_readOne_59 : decode cX12_readOne 59 = .ok (.ifCond .ne 4, 3) := by decide +kernel
theorem dX12_readOne_62 : decode cX12_readOne 62 = .ok (.return_, 1) := by decide +kernel
theorem dX12_readOne_63 : decode cX12_readOne 63 = .ok (.aload_n 0, 1) := by decide +kernel
theorem dX12_readOne_64 : decode cX12_readOne 64 = .ok (.invokevirtual 570, 3) := by decide +kernel
theorem dX12_readOne_67 : decode cX12_readOne 67 = .ok (.aload_n 0, 1) := by decide +kernel
theorem dX12_readOne_68 : decode cX12_readOne 68 = .ok (.bipush 93, 2) := by decide +kernel
theorem dX12_readOne_70 : decode cX12_readOne 70 = .ok (.invokevirtual 556, 3) := by decide +kernel
theorem dX12_readOne_73 : decode cX12_readOne 73 = .ok (.aload_n 0, 1) := by decide +kernel
theorem dX12_readOne_74 : decode cX12_readOne 74 = .ok (.dup, 1) := by decide +kernel
theorem dX12_readOne_75 : decode cX12_readOne 75 = .ok (.getfield 542, 3) := by decide +kernel
theorem dX12_readOne_78 : decode cX12_readOne 78 = .ok (.iconst 1, 1) := by decide +kernel
theorem dX12_readOne_79 : decode cX12_readOne 79 = .ok (.isub, 1) := by decide +kernel
theorem dX12_readOne_80 : decode cX12_readOne 80 = .ok (.putfield 542, 3) := by decide +kernel
theorem dX12_readOne_83 : decode cX12_readOne 83 = .ok (.return_, 1) := by decide +kernel
theorem dX12_readOne_84 : decode cX12_readOne 84 = .ok (.aload_n 0, 1) := by decide +kernel
theorem dX12_readOne_85 : decode cX12_readOne 85 = .ok (.invokevirtual 553, 3) := by decide +kernel
theorem dX12_readOne_88 : decode cX12_readOne 88 = .ok (.aload_n 0, 1) := by decide +kernel
theorem dX12_readOne_89 : decode cX12_readOne 89 = .ok (.bipush 60, 2) := by decide +kernel
theorem dX12_readOne_91 : decode cX12_readOne 91 = .ok (.invokevirtual 507, 3) := by decide +kernel
theorem dX12_readOne_94 : decode cX12_readOne 94 = .ok (.ifCond .eq 8, 3) := by decide +kernel
theorem dX12_readOne_97 : decode cX12_readOne 97 = .ok (.bipush 7, 2) := by decide +kernel
theorem dX12_readOne_99 : decode cX12_readOne 99 = .ok (.goto 32, 3) := by decide +kernel
theorem dX12_readOne_102 : decode cX12_readOne 102 = .ok (.aload_n 0, 1) := by decide +kernel
theorem dX12_readOne_103 : decode cX12_readOne 103 = .ok (.bipush 62, 2) := by decide +kernel
theorem dX12_readOne_105 : decode cX12_readOne 105 = .ok (.invokevirtual 507, 3) := by decide +kernel
theorem dX12_readOne_108 : decode cX12_readOne 108 = .ok (.ifCond .eq 8, 3) := by decide +kernel
theorem dX12_readOne_111 : decode cX12_readOne 111 = .ok (.bipush 8, 2) := by decide +kernel
theorem dX12_readOne_113 : decode cX12_readOne 113 = .ok (.goto 18, 3) := by decide +kernel
theorem dX12_readOne_116 : decode cX12_readOne 116 = .ok (.aload_n 0, 1) := by decide +kernel
theorem dX12_readOne_117 : decode cX12_readOne 117 = .ok (.bipush 61, 2) := by decide +kernel
theorem dX12_readOne_119 : decode cX12_readOne 119 = .ok (.invokevirtual 507, 3) := by decide +kernel
theorem dX12_readOne_122 : decode cX12_readOne 122 = .ok (.ifCond .eq 8, 3) := by decide +kernel
theorem dX12_readOne_125 : decode cX12_readOne 125 = .ok (.bipush 9, 2) := by decide +kernel
theorem dX12_readOne_127 : decode cX12_readOne 127 = .ok (.goto 4, 3) := by decide +kernel
theorem dX12_readOne_130 : decode cX12_readOne 130 = .ok (.iconst (-1), 1) := by decide +kernel
theorem dX12_readOne_131 : decode cX12_readOne 131 = .ok (.istore_n 1, 1) := by decide +kernel
theorem dX12_readOne_132 : decode cX12_readOne 132 = .ok (.iload_n 1, 1) := by decide +kernel
theorem dX12_readOne_133 : decode cX12_readOne 133 = .ok (.iconst (-1), 1) := by decide +kernel
theorem dX12_readOne_134 : decode cX12_readOne 134 = .ok (.if_icmp .ne 8, 3) := by decide +kernel
theorem dX12_readOne_137 : decode cX12_readOne 137 = .ok (.aload_n 0, 1) := by decide +kernel
theorem dX12_readOne_138 : decode cX12_readOne 138 = .ok (.iconst 2, 1) := by decide +kernel
theorem dX12_readOne_139 : decode cX12_readOne 139 = .ok (.invokevirtual 513, 3) := by decide +kernel
theorem dX12_readOne_142 : decode cX12_readOne 142 = .ok (.aload_n 0, 1) := by decide +kernel
theorem dX12_readOne_143 : decode cX12_readOne 143 = .ok (.getfield 492, 3) := by decide +kernel
theorem dX12_readOne_146 : decode cX12_readOne 146 = .ok (.ifCond .eq 4, 3) := by decide +kernel
theorem dX12_readOne_149 : decode cX12_readOne 149 = .ok (.return_, 1) := by decide +kernel
theorem dX12_readOne_150 : decode cX12_readOne 150 = .ok (.aload_n 0, 1) := by decide +kernel
theorem dX12_readOne_151 : decode cX12_readOne 151 = .ok (.invokevirtual 510, 3) := by decide +kernel
theorem dX12_readOne_154 : decode cX12_readOne 154 = .ok (.aload_n 0, 1) := by decide +kernel
theorem dX12_readOne_155 : decode cX12_readOne 155 = .ok (.invokevirtual 553, 3) := by decide +kernel
theorem dX12_readOne_158 : decode cX12_readOne 158 = .ok (.aload_n 0, 1) := by decide +kernel
theorem dX12_readOne_159 : decode cX12_readOne 159 = .ok (.iload_n 1, 1) := by decide +kernel
theorem dX12_readOne_160 : decode cX12_readOne 160 = .ok (.invokevirtual 547, 3) := by decide +kernel
theorem dX12_readOne_163 : decode cX12_readOne 163 = .ok (.return_, 1) := by decide +kernel
theorem dX12_readBoth_0 : decode cX12_readBoth 0 = .ok (.aload_n 0, 1) := by decide +kernel
theorem dX12_readBoth_1 : decode cX12_readBoth 1 = .ok (.invokevirtual 567, 3) := by decide +kernel
theorem dX12_readBoth_4 : decode cX12_readBoth 4 = .ok (.aload_n 0, 1) := by decide +kernel
theorem dX12_readBoth_5 : decode cX12_readBoth 5 = .ok (.ldc_w 573, 3) := by decide +kernel
theorem dX12_readBoth_8 : decode cX12_readBoth 8 = .ok (.invokevirtual 521, 3) := by decide +kernel
theorem dX12_readBoth_11 : decode cX12_readBoth 11 = .ok (.ifCond .eq 46, 3) := by decide +kernel
theorem dX12_readBoth_14 : decode cX12_readBoth 14 = .ok (.aload_n 0, 1) := by decide +kernel
theorem dX12_readBoth_15 : decode cX12_readBoth 15 = .ok (.invokevirtual 510, 3) := by decide +kernel
theorem dX12_readBoth_18 : decode cX12_readBoth 18 = .ok (.aload_n 0, 1) := by decide +kernel
theorem dX12_readBoth_19 : decode cX12_readBoth 19 = .ok (.iconst 2, 1) := by decide +kernel
theorem dX12_readBoth_20 : decode cX12_readBoth 20 = .ok (.invokevirtual 547, 3) := by decide +kernel
theorem dX12_readBoth_23 : decode cX12_readBoth 23 = .ok (.aload_n 0, 1) := by decide +kernel
theorem dX12_readBoth_24 : decode cX12_readBoth 24 = .ok (.getfield 516, 3) := by decide +kernel
theorem dX12_readBoth_27 : decode cX12_readBoth 27 = .ok (.istore_n 1, 1) := by decide +kernel
theorem dX12_readBoth_28 : decode cX12_readBoth 28 = .ok (.aload_n 0, 1) := by decide +kernel
theorem dX12_readBoth_29 : decode cX12_readBoth 29 = .ok (.iconst 0, 1) := by decide +kernel
theorem dX12_readBoth_30 : decode cX12_readBoth 30 = .ok (.invokevirtual 547, 3) := by decide +kernel
theorem dX12_readBoth_33 : decode cX12_readBoth 33 = .ok (.aload_n 0, 1) := by decide +kernel
theorem dX12_readBoth_34 : decode cX12_readBoth 34 = .ok (.invokevirtual 567, 3) := by decide +kernel
theorem dX12_readBoth_37 : decode cX12_readBoth 37 = .ok (.aload_n 0, 1) := by decide +kernel
theorem dX12_readBoth_38 : decode cX12_readBoth 38 = .ok (.getfield 492, 3) := by decide +kernel
theorem dX12_readBoth_41 : decode cX12_readBoth 41 = .ok (.ifCond .ne 13, 3) := by decide +kernel
theorem dX12_readBoth_44 : decode cX12_readBoth 44 = .ok (.aload_n 0, 1) := by decide +kernel
theorem dX12_readBoth_45 : decode cX12_readBoth 45 = .ok (.getfield 154, 3) := by decide +kernel
theorem dX12_readBoth_48 : decode cX12_readBoth 48 = .ok (.iload_n 1, 1) := by decide +kernel
theorem dX12_readBoth_49 : decode cX12_readBoth 49 = .ok (.aload_n 0, 1) := by decide +kernel
theorem dX12_readBoth_50 : decode cX12_readBoth 50 = .ok (.getfield 516, 3) := by decide +kernel
theorem dX12_readBoth_53 : decode cX12_readBoth 53 = .ok (.iastore, 1) := by decide +kernel
theorem dX12_readBoth_54 : decode cX12_readBoth 54 = .ok (.goto (-50), 3) := by decide +kernel
theorem dX12_readBoth_57 : decode cX12_readBoth 57 = .ok (.return_, 1) := by decide +kernel
theorem dX12_readTest_0 : decode cX12_readTest 0 = .ok (.aload_n 0, 1) := by decide +kernel
theorem dX12_readTest_1 : decode cX12_readTest 1 = .ok (.invokevirtual 575, 3) := by decide +kernel
theorem dX12_readTest_4 : decode cX12_readTest 4 = .ok (.aload_n 0, 1) := by decide +kernel
theorem dX12_readTest_5 : decode cX12_readTest 5 = .ok (.ldc_w 578, 3) := by decide +kernel
theorem dX12_readTest_8 : decode cX12_readTest 8 = .ok (.invokevirtual 521, 3) := by decide +kernel
theorem dX12_readTest_11 : decode cX12_readTest 11 = .ok (.ifCond .eq 46, 3) := by decide +kernel
theorem dX12_readTest_14 : decode cX12_readTest 14 = .ok (.aload_n 0, 1) := by decide +kernel
theorem dX12_readTest_15 : decode cX12_readTest 15 = .ok (.invokevirtual 510, 3) := by decide +kernel
theorem dX12_readTest_18 : decode cX12_readTest 18 = .ok (.aload_n 0, 1) := by decide +kernel
theorem dX12_readTest_19 : decode cX12_readTest 19 = .ok (.iconst 1, 1) := by decide +kernel
theorem dX12_readTest_20 : decode cX12_readTest 20 = .ok (.invokevirtual 547, 3) := by decide +kernel
theorem dX12_readTest_23 : decode cX12_readTest 23 = .ok (.aload_n 0, 1) := by decide +kernel
theorem dX12_readTest_24 : decode cX12_readTest 24 = .ok (.getfield 516, 3) := by decide +kernel
theorem dX12_readTest_27 : decode cX12_readTest 27 = .ok (.istore_n 1, 1) := by decide +kernel
theorem dX12_readTest_28 : decode cX12_readTest 28 = .ok (.aload_n 0, 1) := by decide +kernel
theorem dX12_readTest_29 : decode cX12_readTest 29 = .ok (.iconst 0, 1) := by decide +kernel
theorem dX12_readTest_30 : decode cX12_readTest 30 = .ok (.invokevirtual 547, 3) := by decide +kernel
theorem dX12_readTest_33 : decode cX12_readTest 33 = .ok (.aload_n 0, 1) := by decide +kernel
theorem dX12_readTest_34 : decode cX12_readTest 34 = .ok (.invokevirtual 575, 3) := by decide +kernel
theorem dX12_readTest_37 : decode cX12_readTest 37 = .ok (.aload_n 0, 1) := by decide +kernel
theorem dX12_readTest_38 : decode cX12_readTest 38 = .ok (.getfield 492, 3) := by decide +kernel
theorem dX12_readTest_41 : decode cX12_readTest 41 = .ok (.ifCond .ne 13, 3) := by decide +kernel
theorem dX12_readTest_44 : decode cX12_readTest 44 = .ok (.aload_n 0, 1) := by decide +kernel
theorem dX12_readTest_45 : decode cX12_readTest 45 = .ok (.getfield 154, 3) := by decide +kernel
theorem dX12_readTest_48 : decode cX12_readTest 48 = .ok (.iload_n 1, 1) := by decide +kernel
theorem dX12_readTest_49 : decode cX12_readTest 49 = .ok (.aload_n 0, 1) := by decide +kernel
theorem dX12_readTest_50 : decode cX12_readTest 50 = .ok (.getfield 516, 3) := by decide +kernel
theorem dX12_readTest_53 : decode cX12_readTest 53 = .ok (.iastore, 1) := by decide +kernel
theorem dX12_readTest_54 : decode cX12_readTest 54 = .ok (.goto (-50), 3) := by decide +kernel
theorem dX12_readTest_57 : decode cX12_readTest 57 = .ok (.return_, 1) := by decide +kernel
theorem dX12_readLine_0 : decode cX12_readLine 0 = .ok (.aload_n 0, 1) := by decide +kernel
theorem dX12_readLine_1 : decode cX12_readLine 1 = .ok (.invokevirtual 580, 3) := by decide +kernel
theorem dX12_readLine_4 : decode cX12_readLine 4 = .ok (.istore_n 2, 1) := by decide +kernel
theorem dX12_readLine_5 : decode cX12_readLine 5 = .ok (.iload_n 2, 1) := by decide +kernel
theorem dX12_readLine_6 : decode cX12_readLine 6 = .ok (.iconst (-1), 1) := by decide +kernel
theorem dX12_readLine_7 : decode cX12_readLine 7 = .ok (.if_icmp .ne 11, 3) := by decide +kernel
theorem dX12_readLine_10 : decode cX12_readLine 10 = .ok (.aload_n 0, 1) := by decide +kernel
theorem dX12_readLine_11 : decode cX12_readLine 11 = .ok (.iconst 2, 1) := by decide +kernel
theorem dX12_readLine_12 : decode cX12_readLine 12 = .ok (.invokevirtual 513, 3) := by decide +kernel
theorem dX12_readLine_15 : decode cX12_readLine 15 = .ok (.goto 14, 3) := by decide +kernel
theorem dX12_readLine_18 : decode cX12_readLine 18 = .ok (.iload_n 1, 1) := by decide +kernel
theorem dX12_readLine_19 : decode cX12_readLine 19 = .ok (.bipush 12, 2) := by decide +kernel
theorem dX12_readLine_21 : decode cX12_readLine 21 = .ok (.if_icmp .ne 8, 3) := by decide +kernel
theorem dX12_readLine_24 : decode cX12_readLine 24 = .ok (.aload_n 0, 1) := by decide +kernel
theorem dX12_readLine_25 : decode cX12_readLine 25 = .ok (.iconst 3, 1) := by decide +kernel
theorem dX12_readLine_26 : decode cX12_readLine 26 = .ok (.invokevirtual 513, 3) := by decide +kernel
theorem dX12_readLine_29 : decode cX12_readLine 29 = .ok (.aload_n 0, 1) := by decide +kernel
theorem dX12_readLine_30 : decode cX12_readLine 30 = .ok (.getfield 492, 3) := by decide +kernel
theorem dX12_readLine_33 : decode cX12_readLine 33 = .ok (.ifCond .eq 4, 3) := by decide +kernel
theorem dX12_readLine_36 : decode cX12_readLine 36 = .ok (.return_, 1) := by decide +kernel
theorem dX12_readLine_37 : decode cX12_readLine 37 = .ok (.aload_n 0, 1) := by decide +kernel
theorem dX12_readLine_38 : decode cX12_readLine 38 = .ok (.invokevirtual 510, 3) := by decide +kernel
theorem dX12_readLine_41 : decode cX12_readLine 41 = .ok (.aload_n 0, 1) := by decide +kernel
theorem dX12_readLine_42 : decode cX12_readLine 42 = .ok (.getfield 163, 3) := by decide +kernel
theorem dX12_readLine_45 : decode cX12_readLine 45 = .ok (.iconst 4, 1) := by decide +kernel
theorem dX12_readLine_46 : decode cX12_readLine 46 = .ok (.iload_n 1, 1) := by decide +kernel
theorem dX12_readLine_47 : decode cX12_readLine 47 = .ok (.imul, 1) := by decide +kernel
theorem dX12_readLine_48 : decode cX12_readLine 48 = .ok (.iload_n 2, 1) := by decide +kernel
theorem dX12_readLine_49 : decode cX12_readLine 49 = .ok (.iastore, 1) := by decide +kernel
theorem dX12_readLine_50 : decode cX12_readLine 50 = .ok (.aload_n 0, 1) := by decide +kernel
theorem dX12_readLine_51 : decode cX12_readLine 51 = .ok (.getfield 163, 3) := by decide +kernel
theorem dX12_readLine_54 : decode cX12_readLine 54 = .ok (.iconst 4, 1) := by decide +kernel
theorem dX12_readLine_55 : decode cX12_readLine 55 = .ok (.iload_n 1, 1) := by decide +kernel
theorem dX12_readLine_56 : decode cX12_readLine 56 = .ok (.imul, 1) := by decide +kernel
theorem dX12_readLine_57 : decode cX12_readLine 57 = .ok (.iconst 1, 1) := by decide +kernel
theorem dX12_readLine_58 : decode cX12_readLine 58 = .ok (.iadd, 1) := by decide +kernel
theorem dX12_readLine_59 : decode cX12_readLine 59 = .ok (.aload_n 0, 1) := by decide +kernel
theorem dX12_readLine_60 : decode cX12_readLine 60 = .ok (.getfield 516, 3) := by decide +kernel
theorem dX12_readLine_63 : decode cX12_readLine 63 = .ok (.iastore, 1) := by decide +kernel
theorem dX12_readLine_64 : decode cX12_readLine 64 = .ok (.iload_n 2, 1) := by decide +kernel
theorem dX12_readLine_65 : decode cX12_readLine 65 = .ok (.iconst 2, 1) := by decide +kernel
theorem dX12_readLine_66 : decode cX12_readLine 66 = .ok (.if_icmp .ne 7, 3) := by decide +kernel
theorem dX12_readLine_69 : decode cX12_readLine 69 = .ok (.aload_n 0, 1) := by decide +kernel
theorem dX12_readLine_70 : decode cX12_readLine 70 = .ok (.invokevirtual 553, 3) := by decide +kernel
theorem dX12_readLine_73 : decode cX12_readLine 73 = .ok (.aload_n 0, 1) := by decide +kernel
theorem dX12_readLine_74 : decode cX12_readLine 74 = .ok (.getfield 163, 3) := by decide +kernel
theorem dX12_readLine_77 : decode cX12_readLine 77 = .ok (.iconst 4, 1) := by decide +kernel
theorem dX12_readLine_78 : decode cX12_readLine 78 = .ok (.iload_n 1, 1) := by decide +kernel
theorem dX12_readLine_79 : decode cX12_readLine 79 = .ok (.imul, 1) := by decide +kernel
theorem dX12_readLine_80 : decode cX12_readLine 80 = .ok (.iconst 2, 1) := by decide +kernel
theorem dX12_readLine_81 : decode cX12_readLine 81 = .ok (.iadd, 1) := by decide +kernel
theorem dX12_readLine_82 : decode cX12_readLine 82 = .ok (.aload_n 0, 1) := by decide +kernel
theorem dX12_readLine_83 : decode cX12_readLine 83 = .ok (.getfield 516, 3) := by decide +kernel
theorem dX12_readLine_86 : decode cX12_readLine 86 = .ok (.iastore, 1) := by decide +kernel
theorem dX12_readLine_87 : decode cX12_readLine 87 = .ok (.aload_n 0, 1) := by decide +kernel
theorem dX12_readLine_88 : decode cX12_readLine 88 = .ok (.ldc_w 583, 3) := by decide +kernel
theorem dX12_readLine_91 : decode cX12_readLine 91 = .ok (.invokevirtual 521, 3) := by decide +kernel
theorem dX12_readLine_94 : decode cX12_readLine 94 = .ok (.ifCond .eq 11, 3) := by decide +kernel
theorem dX12_readLine_97 : decode cX12_readLine 97 = .ok (.aload_n 0, 1) := by decide +kernel
theorem dX12_readLine_98 : decode cX12_readLine 98 = .ok (.invokevirtual 510, 3) := by decide +kernel
theorem dX12_readLine_101 : decode cX12_readLine 101 = .ok (.aload_n 0, 1) := by decide +kernel
theorem dX12_readLine_102 : decode cX12_readLine 102 = .ok (.invokevirtual 570, 3) := by decide +kernel
theorem dX12_readLine_105 : decode cX12_readLine 105 = .ok (.aload_n 0, 1) := by decide +kernel
theorem dX12_readLine_106 : decode cX12_readLine 106 = .ok (.getfield 163, 3) := by decide +kernel
theorem dX12_readLine_109 : decode cX12_readLine 109 = .ok (.iconst 4, 1) := by decide +kernel
theorem dX12_readLine_110 : decode cX12_readLine 110 = .ok (.iload_n 1, 1) := by decide +kernel
theorem dX12_readLine_111 : decode cX12_readLine 111 = .ok (.imul, 1) := by decide +kernel
theorem dX12_readLine_112 : decode cX12_readLine 112 = .ok (.iconst 3, 1) := by decide +kernel
theorem dX12_readLine_113 : decode cX12_readLine 113 = .ok (.iadd, 1) := by decide +kernel
theorem dX12_readLine_114 : decode cX12_readLine 114 = .ok (.aload_n 0, 1) := by decide +kernel
theorem dX12_readLine_115 : decode cX12_readLine 115 = .ok (.getfield 516, 3) := by decide +kernel
theorem dX12_readLine_118 : decode cX12_readLine 118 = .ok (.iastore, 1) := by decide +kernel
theorem dX12_readLine_119 : decode cX12_readLine 119 = .ok (.aload_n 0, 1) := by decide +kernel
theorem dX12_readLine_120 : decode cX12_readLine 120 = .ok (.bipush 59, 2) := by decide +kernel
theorem dX12_readLine_122 : decode cX12_readLine 122 = .ok (.invokevirtual 556, 3) := by decide +kernel
theorem dX12_readLine_125 : decode cX12_readLine 125 = .ok (.return_, 1) := by decide +kernel
theorem dX12_text_0 : decode cX12_text 0 = .ok (.aload_n 0, 1) := by decide +kernel
theorem dX12_text_1 : decode cX12_text 1 = .ok (.iconst 0, 1) := by decide +kernel
theorem dX12_text_2 : decode cX12_text 2 = .ok (.putfield 185, 3) := by decide +kernel
theorem dX12_text_5 : decode cX12_text 5 = .ok (.iload_n 1, 1) := by decide +kernel
theorem dX12_text_6 : decode cX12_text 6 = .ok (.i2l, 1) := by decide +kernel
theorem dX12_text_7 : decode cX12_text 7 = .ok (.lconst 0, 1) := by decide +kernel
theorem dX12_text_8 : decode cX12_text 8 = .ok (.aload_n 0, 1) := by decide +kernel
theorem dX12_text_9 : decode cX12_text 9 = .ok (.getfield 463, 3) := by decide +kernel
theorem dX12_text_12 : decode cX12_text 12 = .ok (.i2l, 1) := by decide +kernel
theorem dX12_text_13 : decode cX12_text 13 = .ok (.invokestatic 190, 3) := by decide +kernel
theorem dX12_text_16 : decode cX12_text 16 = .ok (.ifCond .ne 9, 3) := by decide +kernel
theorem dX12_text_19 : decode cX12_text 19 = .ok (.aload_n 0, 1) := by decide +kernel
theorem dX12_text_20 : decode cX12_text 20 = .ok (.iconst 1, 1) := by decide +kernel
theorem dX12_text_21 : decode cX12_text 21 = .ok (.invokevirtual 226, 3) := by decide +kernel
theorem dX12_text_24 : decode cX12_text 24 = .ok (.ireturn, 1) := by decide +kernel
theorem dX12_text_25 : decode cX12_text 25 = .ok (.aload_n 0, 1) := by decide +kernel
theorem dX12_text_26 : decode cX12_text 26 = .ok (.iload_n 1, 1) := by decide +kernel
theorem dX12_text_27 : decode cX12_text 27 = .ok (.putfield 466, 3) := by decide +kernel
theorem dX12_text_30 : decode cX12_text 30 = .ok (.aload_n 0, 1) := by decide +kernel
theorem dX12_text_31 : decode cX12_text 31 = .ok (.iconst 0, 1) := by decide +kernel
theorem dX12_text_32 : decode cX12_text 32 = .ok (.putfield 463, 3) := by decide +kernel
theorem dX12_text_35 : decode cX12_text 35 = .ok (.aload_n 0, 1) := by decide +kernel
theorem dX12_text_36 : decode cX12_text 36 = .ok (.iconst 0, 1) := by decide +kernel
theorem dX12_text_37 : decode cX12_text 37 = .ok (.putfield 469, 3) := by decide +kernel
theorem dX12_text_40 : decode cX12_text 40 = .ok (.aload_n 0, 1) := by decide +kernel
theorem dX12_text_41 : decode cX12_text 41 = .ok (.iconst 0, 1) := by decide +kernel
theorem dX12_text_42 : decode cX12_text 42 = .ok (.putfield 492, 3) := by decide +kernel
theorem dX12_text_45 : decode cX12_text 45 = .ok (.aload_n 0, 1) := by decide +kernel
theorem dX12_text_46 : decode cX12_text 46 = .ok (.iconst 0, 1) := by decide +kernel
theorem dX12_text_47 : decode cX12_text 47 = .ok (.putfield 516, 3) := by decide +kernel
theorem dX12_text_50 : decode cX12_text 50 = .ok (.aload_n 0, 1) := by decide +kernel
theorem dX12_text_51 : decode cX12_text 51 = .ok (.iconst 0, 1) := by decide +kernel
theorem dX12_text_52 : decode cX12_text 52 = .ok (.putfield 542, 3) := by decide +kernel
theorem dX12_text_55 : decode cX12_text 55 = .ok (.iconst 0, 1) := by decide +kernel
theorem dX12_text_56 : decode cX12_text 56 = .ok (.istore_n 2, 1) := by decide +kernel
theorem dX12_text_57 : decode cX12_text 57 = .ok (.aload_n 0, 1) := by decide +kernel
theorem dX12_text_58 : decode cX12_text 58 = .ok (.invokevirtual 510, 3) := by decide +kernel
theorem dX12_text_61 : decode cX12_text 61 = .ok (.aload_n 0, 1) := by decide +kernel
theorem dX12_text_62 : decode cX12_text 62 = .ok (.getfield 492, 3) := by decide +kernel
theorem dX12_text_65 : decode cX12_text 65 = .ok (.ifCond .ne 21, 3) := by decide +kernel
theorem dX12_text_68 : decode cX12_text 68 = .ok (.aload_n 0, 1) := by decide +kernel
theorem dX12_text_69 : decode cX12_text 69 = .ok (.getfield 474, 3) := by decide +kernel
theorem dX12_text_72 : decode cX12_text 72 = .ok (.ifCond .eq 14, 3) := by decide +kernel
theorem dX12_text_75 : decode cX12_text 75 = .ok (.aload_n 0, 1) := by decide +kernel
theorem dX12_text_76 : decode cX12_text 76 = .ok (.iload_n 2, 1) := by decide +kernel
theorem dX12_text_77 : decode cX12_text 77 = .ok (.invokevirtual 585, 3) := by decide +kernel
theorem dX12_text_80 : decode cX12_text 80 = .ok (.iinc 2 1, 3) := by decide +kernel
theorem dX12_text_83 : decode cX12_text 83 = .ok (.goto (-22), 3) := by decide +kernel
theorem dX12_text_86 : decode cX12_text 86 = .ok (.aload_n 0, 1) := by decide +kernel
theorem dX12_text_87 : decode cX12_text 87 = .ok (.aload_n 0, 1) := by decide +kernel
theorem dX12_text_88 : decode cX12_text 88 = .ok (.getfield 492, 3) := by decide +kernel
theorem dX12_text_91 : decode cX12_text 91 = .ok (.putfield 588, 3) := by decide +kernel
theorem dX12_text_94 : decode cX12_text 94 = .ok (.aload_n 0, 1) := by decide +kernel
theorem dX12_text_95 : decode cX12_text 95 = .ok (.aload_n 0, 1) := by decide +kernel
theorem dX12_text_96 : decode cX12_text 96 = .ok (.getfield 492, 3) := by decide +kernel
theorem dX12_text_99 : decode cX12_text 99 = .ok (.ifCond .ne 7, 3) := by decide +kernel
theorem dX12_text_102 : decode cX12_text 102 = .ok (.iconst (-1), 1) := by decide +kernel
theorem dX12_text_103 : decode cX12_text 103 = .ok (.goto 7, 3) := by decide +kernel
theorem dX12_text_106 : decode cX12_text 106 = .ok (.aload_n 0, 1) := by decide +kernel
theorem dX12_text_107 : decode cX12_text 107 = .ok (.getfield 495, 3) := by decide +kernel
theorem dX12_text_110 : decode cX12_text 110 = .ok (.putfield 160, 3) := by decide +kernel
theorem dX12_text_113 : decode cX12_text 113 = .ok (.aload_n 0, 1) := by decide +kernel
theorem dX12_text_114 : decode cX12_text 114 = .ok (.getfield 492, 3) := by decide +kernel
theorem dX12_text_117 : decode cX12_text 117 = .ok (.ifCond .eq 11, 3) := by decide +kernel
theorem dX12_text_120 : decode cX12_text 120 = .ok (.bipush (-10), 2) := by decide +kernel
theorem dX12_text_122 : decode cX12_text 122 = .ok (.aload_n 0, 1) := by decide +kernel
theorem dX12_text_123 : decode cX12_text 123 = .ok (.getfield 492, 3) := by decide +kernel
theorem dX12_text_126 : decode cX12_text 126 = .ok (.isub, 1) := by decide +kernel
theorem dX12_text_127 : decode cX12_text 127 = .ok (.ireturn, 1) := by decide +kernel
theorem dX12_text_128 : decode cX12_text 128 = .ok (.aload_n 0, 1) := by decide +kernel
theorem dX12_text_129 : decode cX12_text 129 = .ok (.iload_n 2, 1) := by decide +kernel
theorem dX12_text_130 : decode cX12_text 130 = .ok (.putfield 591, 3) := by decide +kernel
theorem dX12_text_133 : decode cX12_text 133 = .ok (.iconst 0, 1) := by decide +kernel
theorem dX12_text_134 : decode cX12_text 134 = .ok (.istore_n 3, 1) := by decide +kernel
theorem dX12_text_135 : decode cX12_text 135 = .ok (.iload_n 3, 1) := by decide +kernel
theorem dX12_text_136 : decode cX12_text 136 = .ok (.aload_n 0, 1) := by decide +kernel
theorem dX12_text_137 : decode cX12_text 137 = .ok (.getfield 516, 3) := by decide +kernel
theorem dX12_text_140 : decode cX12_text 140 = .ok (.if_icmp .ge 21, 3) := by decide +kernel
theorem dX12_text_143 : decode cX12_text 143 = .ok (.aload_n 0, 1) := by decide +kernel
theorem dX12_text_144 : decode cX12_text 144 = .ok (.getfield 157, 3) := by decide +kernel
theorem dX12_text_147 : decode cX12_text 147 = .ok (.iload_n 3, 1) := by decide +kernel
theorem dX12_text_148 : decode cX12_text 148 = .ok (.aload_n 0, 1) := by decide +kernel
theorem dX12_text_149 : decode cX12_text 149 = .ok (.getfield 154, 3) := by decide +kernel
theorem dX12_text_152 : decode cX12_text 152 = .ok (.iload_n 3, 1) := by decide +kernel
theorem dX12_text_153 : decode cX12_text 153 = .ok (.iaload, 1) := by decide +kernel
theorem dX12_text_154 : decode cX12_text 154 = .ok (.iastore, 1) := by decide +kernel
theorem dX12_text_155 : decode cX12_text 155 = .ok (.iinc 3 1, 3) := by decide +kernel
theorem dX12_text_158 : decode cX12_text 158 = .ok (.goto (-23), 3) := by decide +kernel
theorem dX12_text_161 : decode cX12_text 161 = .ok (.iconst 0, 1) := by decide +kernel
theorem dX12_text_162 : decode cX12_text 162 = .ok (.istore_n 3, 1) := by decide +kernel
theorem dX12_text_163 : decode cX12_text 163 = .ok (.iload_n 3, 1) := by decide +kernel
theorem dX12_text_164 : decode cX12_text 164 = .ok (.iconst 4, 1) := by decide +kernel
theorem dX12_text_165 : decode cX12_text 165 = .ok (.iload_n 2, 1) := by decide +kernel
theorem dX12_text_166 : decode cX12_text 166 = .ok (.imul, 1) := by decide +kernel
theorem dX12_text_167 : decode cX12_text 167 = .ok (.if_icmp .ge 21, 3) := by decide +kernel
theorem dX12_text_170 : decode cX12_text 170 = .ok (.aload_n 0, 1) := by decide +kernel
theorem dX12_text_171 : decode cX12_text 171 = .ok (.getfield 166, 3) := by decide +kernel
theorem dX12_text_174 : decode cX12_text 174 = .ok (.iload_n 3, 1) := by decide +kernel
theorem dX12_text_175 : decode cX12_text 175 = .ok (.aload_n 0, 1) := by decide +kernel
theorem dX12_text_176 : decode cX12_text 176 = .ok (.getfield 163, 3) := by decide +kernel
theorem dX12_text_179 : decode cX12_text 179 = .ok (.iload_n 3, 1) := by decide +kernel
theorem dX12_text_180 : decode cX12_text 180 = .ok (.iaload, 1) := by decide +kernel
theorem dX12_text_181 : decode cX12_text 181 = .ok (.iastore, 1) := by decide +kernel
theorem dX12_text_182 : decode cX12_text 182 = .ok (.iinc 3 1, 3) := by decide +kernel
theorem dX12_text_185 : decode cX12_text 185 = .ok (.goto (-22), 3) := by decide +kernel
theorem dX12_text_188 : decode cX12_text 188 = .ok (.iload_n 2, 1) := by decide +kernel
theorem dX12_text_189 : decode cX12_text 189 = .ok (.ireturn, 1) := by decide +kernel
theorem dX12_fault_0 : decode cX12_fault 0 = .ok (.aload_n 0, 1) := by decide +kernel
theorem dX12_fault_1 : decode cX12_fault 1 = .ok (.iconst 0, 1) := by decide +kernel
theorem dX12_fault_2 : decode cX12_fault 2 = .ok (.putfield 185, 3) := by decide +kernel
theorem dX12_fault_5 : decode cX12_fault 5 = .ok (.iload_n 1, 1) := by decide +kernel
theorem dX12_fault_6 : decode cX12_fault 6 = .ok (.ifCond .ne 10, 3) := by decide +kernel
theorem dX12_fault_9 : decode cX12_fault 9 = .ok (.aload_n 0, 1) := by decide +kernel
theorem dX12_fault_10 : decode cX12_fault 10 = .ok (.getfield 588, 3) := by decide +kernel
theorem dX12_fault_13 : decode cX12_fault 13 = .ok (.goto 16, 3) := by decide +kernel
theorem dX12_fault_16 : decode cX12_fault 16 = .ok (.iload_n 1, 1) := by decide +kernel
theorem dX12_fault_17 : decode cX12_fault 17 = .ok (.iconst 1, 1) := by decide +kernel
theorem dX12_fault_18 : decode cX12_fault 18 = .ok (.if_icmp .ne 10, 3) := by decide +kernel
theorem dX12_fault_21 : decode cX12_fault 21 = .ok (.aload_n 0, 1) := by decide +kernel
theorem dX12_fault_22 : decode cX12_fault 22 = .ok (.getfield 160, 3) := by decide +kernel
theorem dX12_fault_25 : decode cX12_fault 25 = .ok (.goto 4, 3) := by decide +kernel
theorem dX12_fault_28 : decode cX12_fault 28 = .ok (.iconst (-1), 1) := by decide +kernel
theorem dX12_fault_29 : decode cX12_fault 29 = .ok (.ireturn, 1) := by decide +kernel
theorem dX12_worked_0 : decode cX12_worked 0 = .ok (.iconst 0, 1) := by decide +kernel
theorem dX12_worked_1 : decode cX12_worked 1 = .ok (.istore_n 3, 1) := by decide +kernel
theorem dX12_worked_2 : decode cX12_worked 2 = .ok (.iload_n 1, 1) := by decide +kernel
theorem dX12_worked_3 : decode cX12_worked 3 = .ok (.istore 4, 2) := by decide +kernel
theorem dX12_worked_5 : decode cX12_worked 5 = .ok (.iload 4, 2) := by decide +kernel
theorem dX12_worked_7 : decode cX12_worked 7 = .ok (.iload_n 2, 1) := by decide +kernel
theorem dX12_worked_8 : decode cX12_worked 8 = .ok (.if_icmp .ge 220, 3) := by decide +kernel
theorem dX12_worked_11 : decode cX12_worked 11 = .ok (.aload_n 0, 1) := by decide +kernel
theorem dX12_worked_12 : decode cX12_worked 12 = .ok (.getfield 157, 3) := by decide +kernel
theorem dX12_worked_15 : decode cX12_worked 15 = .ok (.iload 4, 2) := by decide +kernel
theorem dX12_worked_17 : decode cX12_worked 17 = .ok (.iaload, 1) := by decide +kernel
theorem dX12_worked_18 : decode cX12_worked 18 = .ok (.istore 5, 2) := by decide +kernel
theorem dX12_worked_20 : decode cX12_worked 20 = .ok (.iinc 4 1, 3) := by decide +kernel
theorem dX12_worked_23 : decode cX12_worked 23 = .ok (.iload 5, 2) := by decide +kernel
theorem dX12_worked_25 : decode cX12_worked 25 = .ok (.bipush 20, 2) := by decide +kernel
theorem dX12_worked_27 : decode cX12_worked 27 = .ok (.if_icmp .lt 25, 3) := by decide +kernel
theorem dX12_worked_30 : decode cX12_worked 30 = .ok (.aload_n 0, 1) := by decide +kernel
theorem dX12_worked_31 : decode cX12_worked 31 = .ok (.getfield 173, 3) := by decide +kernel
theorem dX12_worked_34 : decode cX12_worked 34 = .ok (.iload_n 3, 1) := by decide +kernel
theorem dX12_worked_35 : decode cX12_worked 35 = .ok (.aload_n 0, 1) := by decide +kernel
theorem dX12_worked_36 : decode cX12_worked 36 = .ok (.getfield 169, 3) := by decide +kernel
theorem dX12_worked_39 : decode cX12_worked 39 = .ok (.iload 5, 2) := by decide +kernel
theorem dX12_worked_41 : decode cX12_worked 41 = .ok (.bipush 20, 2) := by decide +kernel
theorem dX12_worked_43 : decode cX12_worked 43 = .ok (.isub, 1) := by decide +kernel
theorem dX12_worked_44 : decode cX12_worked 44 = .ok (.laload, 1) := by decide +kernel
theorem dX12_worked_45 : decode cX12_worked 45 = .ok (.lastore, 1) := by decide +kernel
theorem dX12_worked_46 : decode cX12_worked 46 = .ok (.iinc 3 1, 3) := by decide +kernel
theorem dX12_worked_49 : decode cX12_worked 49 = .ok (.goto 176, 3) := by decide +kernel
theorem dX12_worked_52 : decode cX12_worked 52 = .ok (.iload 5, 2) := by decide +kernel
theorem dX12_worked_54 : decode cX12_worked 54 = .ok (.ifCond .ne 26, 3) := by decide +kernel
theorem dX12_worked_57 : decode cX12_worked 57 = .ok (.aload_n 0, 1) := by decide +kernel
theorem dX12_worked_58 : decode cX12_worked 58 = .ok (.getfield 173, 3) := by decide +kernel
theorem dX12_worked_61 : decode cX12_worked 61 = .ok (.iload_n 3, 1) := by decide +kernel
theorem dX12_worked_62 : decode cX12_worked 62 = .ok (.aload_n 0, 1) := by decide +kernel
theorem dX12_worked_63 : decode cX12_worked 63 = .ok (.getfield 157, 3) := by decide +kernel
theorem dX12_worked_66 : decode cX12_worked 66 = .ok (.iload 4, 2) := by decide +kernel
theorem dX12_worked_68 : decode cX12_worked 68 = .ok (.iaload, 1) := by decide +kernel
theorem dX12_worked_69 : decode cX12_worked 69 = .ok (.i2l, 1) := by decide +kernel
theorem dX12_worked_70 : decode cX12_worked 70 = .ok (.lastore, 1) := by decide +kernel
theorem dX12_worked_71 : decode cX12_worked 71 = .ok (.iinc 3 1, 3) := by decide +kernel
theorem dX12_worked_74 : decode cX12_worked 74 = .ok (.iinc 4 1, 3) := by decide +kernel
theorem dX12_worked_77 : decode cX12_worked 77 = .ok (.goto 148, 3) := by decide +kernel
theorem dX12_worked_80 : decode cX12_worked 80 = .ok (.iload 5, 2) := by decide +kernel
theorem dX12_worked_82 : decode cX12_worked 82 = .ok (.iconst 1, 1) := by decide +kernel
theorem dX12_worked_83 : decode cX12_worked 83 = .ok (.if_icmp .eq 9, 3) := by decide +kernel
theorem dX12_worked_86 : decode cX12_worked 86 = .ok (.iload 5, 2) := by decide +kernel
theorem dX12_worked_88 : decode cX12_worked 88 = .ok (.iconst 2, 1) := by decide +kernel
theorem dX12_worked_89 : decode cX12_worked 89 = .ok (.if_icmp .ne 79, 3) := by decide +kernel
theorem dX12_worked_92 : decode cX12_worked 92 = .ok (.aload_n 0, 1) := by decide +kernel
theorem dX12_worked_93 : decode cX12_worked 93 = .ok (.getfield 173, 3) := by decide +kernel
theorem dX12_worked_96 : decode cX12_worked 96 = .ok (.iload_n 3, 1) := by decide +kernel
theorem dX12_worked_97 : decode cX12_worked 97 = .ok (.iconst 1, 1) := by decide +kernel
theorem dX12_worked_98 : decode cX12_worked 98 = .ok (.isub, 1) := by decide +kernel
theorem dX12_worked_99 : decode cX12_worked 99 = .ok (.laload, 1) := by decide +kernel
theorem dX12_worked_100 : decode cX12_worked 100 = .ok (.lconst 0, 1) := by decide +kernel
theorem dX12_worked_101 : decode cX12_worked 101 = .ok (.lcmp, 1) := by decide +kernel
theorem dX12_worked_102 : decode cX12_worked 102 = .ok (.ifCond .eq 7, 3) := by decide +kernel
theorem dX12_worked_105 : decode cX12_worked 105 = .ok (.iconst 1, 1) := by decide +kernel
theorem dX12_worked_106 : decode cX12_worked 106 = .ok (.goto 4, 3) := by decide +kernel
theorem dX12_worked_109 : decode cX12_worked 109 = .ok (.iconst 0, 1) := by decide +kernel
theorem dX12_worked_110 : decode cX12_worked 110 = .ok (.iload 5, 2) := by decide +kernel
theorem dX12_worked_112 : decode cX12_worked 112 = .ok (.iconst 1, 1) := by decide +kernel
theorem dX12_worked_113 : decode cX12_worked 113 = .ok (.if_icmp .ne 7, 3) := by decide +kernel
theorem dX12_worked_116 : decode cX12_worked 116 = .ok (.iconst 1, 1) := by decide +kernel
theorem dX12_worked_117 : decode cX12_worked 117 = .ok (.goto 4, 3) := by decide +kernel
theorem dX12_worked_120 : decode cX12_worked 120 = .ok (.iconst 0, 1) := by decide +kernel
theorem dX12_worked_121 : decode cX12_worked 121 = .ok (.if_icmp .ne 7, 3) := by decide +kernel
theorem dX12_worked_124 : decode cX12_worked 124 = .ok (.iconst 1, 1) := by decide +kernel
theorem dX12_worked_125 : decode cX12_worked 125 = .ok (.goto 4, 3) := by decide +kernel
theorem dX12_worked_128 : decode cX12_worked 128 = .ok (.iconst 0, 1) := by decide +kernel
theorem dX12_worked_129 : decode cX12_worked 129 = .ok (.istore 6, 2) := by decide +kernel
theorem dX12_worked_131 : decode cX12_worked 131 = .ok (.iload_n 3, 1) := by decide +kernel
theorem dX12_worked_132 : decode cX12_worked 132 = .ok (.iload 6, 2) := by decide +kernel
theorem dX12_worked_134 : decode cX12_worked 134 = .ok (.ifCond .eq 7, 3) := by decide +kernel
theorem dX12_worked_137 : decode cX12_worked 137 = .ok (.iconst 0, 1) := by decide +kernel
theorem dX12_worked_138 : decode cX12_worked 138 = .ok (.goto 4, 3) := by decide +kernel
theorem dX12_worked_141 : decode cX12_worked 141 = .ok (.iconst 1, 1) := by decide +kernel
theorem dX12_worked_142 : decode cX12_worked 142 = .ok (.isub, 1) := by decide +kernel
theorem dX12_worked_143 : decode cX12_worked 143 = .ok (.istore_n 3, 1) := by decide +kernel
theorem dX12_worked_144 : decode cX12_worked 144 = .ok (.iload 6, 2) := by decide +kernel
theorem dX12_worked_146 : decode cX12_worked 146 = .ok (.ifCond .eq 13, 3) := by decide +kernel
theorem dX12_worked_149 : decode cX12_worked 149 = .ok (.aload_n 0, 1) := by decide +kernel
theorem dX12_worked_150 : decode cX12_worked 150 = .ok (.getfield 157, 3) := by decide +kernel
theorem dX12_worked_153 : decode cX12_worked 153 = .ok (.iload 4, 2) := by decide +kernel
theorem dX12_worked_155 : decode cX12_worked 155 = .ok (.iaload, 1) := by decide +kernel
theorem dX12_worked_156 : decode cX12_worked 156 = .ok (.goto 7, 3) := by decide +kernel
theorem dX12_worked_159 : decode cX12_worked 159 = .ok (.iload 4, 2) := by decide +kernel
theorem dX12_worked_161 : decode cX12_worked 161 = .ok (.iconst 1, 1) := by decide +kernel
theorem dX12_worked_162 : decode cX12_worked 162 = .ok (.iadd, 1) := by decide +kernel
theorem dX12_worked_163 : decode cX12_worked 163 = .ok (.istore 4, 2) := by decide +kernel
theorem dX12_worked_165 : decode cX12_worked 165 = .ok (.goto 60, 3) := by decide +kernel
theorem dX12_worked_168 : decode cX12_worked 168 = .ok (.iload 5, 2) := by decide +kernel
theorem dX12_worked_170 : decode cX12_worked 170 = .ok (.iconst 3, 1) := by decide +kernel
theorem dX12_worked_171 : decode cX12_worked 171 = .ok (.if_icmp .ne 24, 3) := by decide +kernel
theorem dX12_worked_174 : decode cX12_worked 174 = .ok (.aload_n 0, 1) := by decide +kernel
theorem dX12_worked_175 : decode cX12_worked 175 = .ok (.getfield 173, 3) := by decide +kernel
theorem dX12_worked_178 : decode cX12_worked 178 = .ok (.iload_n 3, 1) := by decide +kernel
theorem dX12_worked_179 : decode cX12_worked 179 = .ok (.iconst 1, 1) := by decide +kernel
theorem dX12_worked_180 : decode cX12_worked 180 = .ok (.isub, 1) := by decide +kernel
theorem dX12_worked_181 : decode cX12_worked 181 = .ok (.lconst 1, 1) := by decide +kernel
theorem dX12_worked_182 : decode cX12_worked 182 = .ok (.aload_n 0, 1) := by decide +kernel
theorem dX12_worked_183 : decode cX12_worked 183 = .ok (.getfield 173, 3) := by decide +kernel
theorem dX12_worked_186 : decode cX12_worked 186 = .ok (.iload_n 3, 1) := by decide +kernel
theorem dX12_worked_187 : decode cX12_worked 187 = .ok (.iconst 1, 1) := by decide +kernel
theorem dX12_worked_188 : decode cX12_worked 188 = .ok (.isub, 1) := by decide +kernel
theorem dX12_worked_189 : decode cX12_worked 189 = .ok (.laload, 1) := by decide +kernel
theorem dX12_worked_190 : decode cX12_worked 190 = .ok (.lsub, 1) := by decide +kernel
theorem dX12_worked_191 : decode cX12_worked 191 = .ok (.lastore, 1) := by decide +kernel
theorem dX12_worked_192 : decode cX12_worked 192 = .ok (.goto 33, 3) := by decide +kernel
theorem dX12_worked_195 : decode cX12_worked 195 = .ok (.iinc 3 (-1), 3) := by decide +kernel
theorem dX12_worked_198 : decode cX12_worked 198 = .ok (.aload_n 0, 1) := by decide +kernel
theorem dX12_worked_199 : decode cX12_worked 199 = .ok (.getfield 173, 3) := by decide +kernel
theorem dX12_worked_202 : decode cX12_worked 202 = .ok (.iload_n 3, 1) := by decide +kernel
theorem dX12_worked_203 : decode cX12_worked 203 = .ok (.iconst 1, 1) := by decide +kernel
theorem dX12_worked_204 : decode cX12_worked 204 = .ok (.isub, 1) := by decide +kernel
theorem dX12_worked_205 : decode cX12_worked 205 = .ok (.iload 5, 2) := by decide +kernel
theorem dX12_worked_207 : decode cX12_worked 207 = .ok (.aload_n 0, 1) := by decide +kernel
theorem dX12_worked_208 : decode cX12_worked 208 = .ok (.getfield 173, 3) := by decide +kernel
theorem dX12_worked_211 : decode cX12_worked 211 = .ok (.iload_n 3, 1) := by decide +kernel
theorem dX12_worked_212 : decode cX12_worked 212 = .ok (.iconst 1, 1) := by decide +kernel
theorem dX12_worked_213 : decode cX12_worked 213 = .ok (.isub, 1) := by decide +kernel
theorem dX12_worked_214 : decode cX12_worked 214 = .ok (.laload, 1) := by decide +kernel
theorem dX12_worked_215 : decode cX12_worked 215 = .ok (.aload_n 0, 1) := by decide +kernel
theorem dX12_worked_216 : decode cX12_worked 216 = .ok (.getfield 173, 3) := by decide +kernel
theorem dX12_worked_219 : decode cX12_worked 219 = .ok (.iload_n 3, 1) := by decide +kernel
theorem dX12_worked_220 : decode cX12_worked 220 = .ok (.laload, 1) := by decide +kernel
theorem dX12_worked_221 : decode cX12_worked 221 = .ok (.invokestatic 594, 3) := by decide +kernel
theorem dX12_worked_224 : decode cX12_worked 224 = .ok (.lastore, 1) := by decide +kernel
theorem dX12_worked_225 : decode cX12_worked 225 = .ok (.goto (-220), 3) := by decide +kernel
theorem dX12_worked_228 : decode cX12_worked 228 = .ok (.aload_n 0, 1) := by decide +kernel
theorem dX12_worked_229 : decode cX12_worked 229 = .ok (.getfield 173, 3) := by decide +kernel
theorem dX12_worked_232 : decode cX12_worked 232 = .ok (.iconst 0, 1) := by decide +kernel
theorem dX12_worked_233 : decode cX12_worked 233 = .ok (.laload, 1) := by decide +kernel
theorem dX12_worked_234 : decode cX12_worked 234 = .ok (.lreturn, 1) := by decide +kernel
theorem dX12_two_0 : decode cX12_two 0 = .ok (.iload_n 0, 1) := by decide +kernel
theorem dX12_two_1 : decode cX12_two 1 = .ok (.tableswitch 71 4 8 #[35, 39, 43, 47, 59], 35) := by decide +kernel
theorem dX12_two_36 : decode cX12_two 36 = .ok (.lload_n 1, 1) := by decide +kernel
theorem dX12_two_37 : decode cX12_two 37 = .ok (.lload_n 3, 1) := by decide +kernel
theorem dX12_two_38 : decode cX12_two 38 = .ok (.ladd, 1) := by decide +kernel
theorem dX12_two_39 : decode cX12_two 39 = .ok (.lreturn, 1) := by decide +kernel
theorem dX12_two_40 : decode cX12_two 40 = .ok (.lload_n 1, 1) := by decide +kernel
theorem dX12_two_41 : decode cX12_two 41 = .ok (.lload_n 3, 1) := by decide +kernel
theorem dX12_two_42 : decode cX12_two 42 = .ok (.lsub, 1) := by decide +kernel
theorem dX12_two_43 : decode cX12_two 43 = .ok (.lreturn, 1) := by decide +kernel
theorem dX12_two_44 : decode cX12_two 44 = .ok (.lload_n 1, 1) := by decide +kernel
theorem dX12_two_45 : decode cX12_two 45 = .ok (.lload_n 3, 1) := by decide +kernel
theorem dX12_two_46 : decode cX12_two 46 = .ok (.lmul, 1) := by decide +kernel
theorem dX12_two_47 : decode cX12_two 47 = .ok (.lreturn, 1) := by decide +kernel
theorem dX12_two_48 : decode cX12_two 48 = .ok (.lload_n 1, 1) := by decide +kernel
theorem dX12_two_49 : decode cX12_two 49 = .ok (.lload_n 3, 1) := by decide +kernel
theorem dX12_two_50 : decode cX12_two 50 = .ok (.lcmp, 1) := by decide +kernel
theorem dX12_two_51 : decode cX12_two 51 = .ok (.ifCond .ge 7, 3) := by decide +kernel
theorem dX12_two_54 : decode cX12_two 54 = .ok (.lconst 1, 1) := by decide +kernel
theorem dX12_two_55 : decode cX12_two 55 = .ok (.goto 4, 3) := by decide +kernel
theorem dX12_two_58 : decode cX12_two 58 = .ok (.lconst 0, 1) := by decide +kernel
theorem dX12_two_59 : decode cX12_two 59 = .ok (.lreturn, 1) := by decide +kernel
theorem dX12_two_60 : decode cX12_two 60 = .ok (.lload_n 1, 1) := by decide +kernel
theorem dX12_two_61 : decode cX12_two 61 = .ok (.lload_n 3, 1) := by decide +kernel
theorem dX12_two_62 : decode cX12_two 62 = .ok (.lcmp, 1) := by decide +kernel
theorem dX12_two_63 : decode cX12_two 63 = .ok (.ifCond .le 7, 3) := by decide +kernel
theorem dX12_two_66 : decode cX12_two 66 = .ok (.lconst 1, 1) := by decide +kernel
theorem dX12_two_67 : decode cX12_two 67 = .ok (.goto 4, 3) := by decide +kernel
theorem dX12_two_70 : decode cX12_two 70 = .ok (.lconst 0, 1) := by decide +kernel
theorem dX12_two_71 : decode cX12_two 71 = .ok (.lreturn, 1) := by decide +kernel
theorem dX12_two_72 : decode cX12_two 72 = .ok (.lload_n 1, 1) := by decide +kernel
theorem dX12_two_73 : decode cX12_two 73 = .ok (.lload_n 3, 1) := by decide +kernel
theorem dX12_two_74 : decode cX12_two 74 = .ok (.lcmp, 1) := by decide +kernel
theorem dX12_two_75 : decode cX12_two 75 = .ok (.ifCond .ne 7, 3) := by decide +kernel
theorem dX12_two_78 : decode cX12_two 78 = .ok (.lconst 1, 1) := by decide +kernel
theorem dX12_two_79 : decode cX12_two 79 = .ok (.goto 4, 3) := by decide +kernel
theorem dX12_two_82 : decode cX12_two 82 = .ok (.lconst 0, 1) := by decide +kernel
theorem dX12_two_83 : decode cX12_two 83 = .ok (.lreturn, 1) := by decide +kernel
theorem dX12_names_0 : decode cX12_names 0 = .ok (.aload_n 0, 1) := by decide +kernel
theorem dX12_names_1 : decode cX12_names 1 = .ok (.getfield 169, 3) := by decide +kernel
theorem dX12_names_4 : decode cX12_names 4 = .ok (.iconst 0, 1) := by decide +kernel
theorem dX12_names_5 : decode cX12_names 5 = .ok (.iload_n 1, 1) := by decide +kernel
theorem dX12_names_6 : decode cX12_names 6 = .ok (.iconst (-1), 1) := by decide +kernel
theorem dX12_names_7 : decode cX12_names 7 = .ok (.if_icmp .ne 7, 3) := by decide +kernel
theorem dX12_names_10 : decode cX12_names 10 = .ok (.lconst 0, 1) := by decide +kernel
theorem dX12_names_11 : decode cX12_names 11 = .ok (.goto 10, 3) := by decide +kernel
theorem dX12_names_14 : decode cX12_names 14 = .ok (.aload_n 0, 1) := by decide +kernel
theorem dX12_names_15 : decode cX12_names 15 = .ok (.getfield 25, 3) := by decide +kernel
theorem dX12_names_18 : decode cX12_names 18 = .ok (.iload_n 1, 1) := by decide +kernel
theorem dX12_names_19 : decode cX12_names 19 = .ok (.iaload, 1) := by decide +kernel
theorem dX12_names_20 : decode cX12_names 20 = .ok (.i2l, 1) := by decide +kernel
theorem dX12_names_21 : decode cX12_names 21 = .ok (.lastore, 1) := by decide +kernel
theorem dX12_names_22 : decode cX12_names 22 = .ok (.aload_n 0, 1) := by decide +kernel
theorem dX12_names_23 : decode cX12_names 23 = .ok (.getfield 169, 3) := by decide +kernel
theorem dX12_names_26 : decode cX12_names 26 = .ok (.iconst 1, 1) := by decide +kernel
theorem dX12_names_27 : decode cX12_names 27 = .ok (.iload_n 1, 1) := by decide +kernel
theorem dX12_names_28 : decode cX12_names 28 = .ok (.iconst (-1), 1) := by decide +kernel
theorem dX12_names_29 : decode cX12_names 29 = .ok (.if_icmp .eq 27, 3) := by decide +kernel
theorem dX12_names_32 : decode cX12_names 32 = .ok (.aload_n 0, 1) := by decide +kernel
theorem dX12_names_33 : decode cX12_names 33 = .ok (.getfield 22, 3) := by decide +kernel
theorem dX12_names_36 : decode cX12_names 36 = .ok (.iload_n 1, 1) := by decide +kernel
theorem dX12_names_37 : decode cX12_names 37 = .ok (.iaload, 1) := by decide +kernel
theorem dX12_names_38 : decode cX12_names 38 = .ok (.aload_n 0, 1) := by decide +kernel
theorem dX12_names_39 : decode cX12_names 39 = .ok (.getfield 16, 3) := by decide +kernel
theorem dX12_names_42 : decode cX12_names 42 = .ok (.aload_n 0, 1) := by decide +kernel
theorem dX12_names_43 : decode cX12_names 43 = .ok (.getfield 28, 3) := by decide +kernel
theorem dX12_names_46 : decode cX12_names 46 = .ok (.iload_n 2, 1) := by decide +kernel
theorem dX12_names_47 : decode cX12_names 47 = .ok (.iaload, 1) := by decide +kernel
theorem dX12_names_48 : decode cX12_names 48 = .ok (.iaload, 1) := by decide +kernel
theorem dX12_names_49 : decode cX12_names 49 = .ok (.if_icmp .ne 7, 3) := by decide +kernel
theorem dX12_names_52 : decode cX12_names 52 = .ok (.lconst 1, 1) := by decide +kernel
theorem dX12_names_53 : decode cX12_names 53 = .ok (.goto 4, 3) := by decide +kernel
theorem dX12_names_56 : decode cX12_names 56 = .ok (.lconst 0, 1) := by decide +kernel
theorem dX12_names_57 : decode cX12_names 57 = .ok (.lastore, 1) := by decide +kernel
theorem dX12_names_58 : decode cX12_names 58 = .ok (.aload_n 0, 1) := by decide +kernel
theorem dX12_names_59 : decode cX12_names 59 = .ok (.getfield 169, 3) := by decide +kernel
theorem dX12_names_62 : decode cX12_names 62 = .ok (.iconst 2, 1) := by decide +kernel
theorem dX12_names_63 : decode cX12_names 63 = .ok (.aload_n 0, 1) := by decide +kernel
theorem dX12_names_64 : decode cX12_names 64 = .ok (.getfield 240, 3) := by decide +kernel
theorem dX12_names_67 : decode cX12_names 67 = .ok (.aload_n 0, 1) := by decide +kernel
theorem dX12_names_68 : decode cX12_names 68 = .ok (.getfield 37, 3) := by decide +kernel
theorem dX12_names_71 : decode cX12_names 71 = .ok (.iload_n 2, 1) := by decide +kernel
theorem dX12_names_72 : decode cX12_names 72 = .ok (.iaload, 1) := by decide +kernel
theorem dX12_names_73 : decode cX12_names 73 = .ok (.isub, 1) := by decide +kernel
theorem dX12_names_74 : decode cX12_names 74 = .ok (.i2l, 1) := by decide +kernel
theorem dX12_names_75 : decode cX12_names 75 = .ok (.lastore, 1) := by decide +kernel
theorem dX12_names_76 : decode cX12_names 76 = .ok (.aload_n 0, 1) := by decide +kernel
theorem dX12_names_77 : decode cX12_names 77 = .ok (.getfield 169, 3) := by decide +kernel
theorem dX12_names_80 : decode cX12_names 80 = .ok (.iconst 3, 1) := by decide +kernel
theorem dX12_names_81 : decode cX12_names 81 = .ok (.aload_n 0, 1) := by decide +kernel
theorem dX12_names_82 : decode cX12_names 82 = .ok (.iload_n 2, 1) := by decide +kernel
theorem dX12_names_83 : decode cX12_names 83 = .ok (.invokevirtual 264, 3) := by decide +kernel
theorem dX12_names_86 : decode cX12_names 86 = .ok (.ifCond .eq 7, 3) := by decide +kernel
theorem dX12_names_89 : decode cX12_names 89 = .ok (.lconst 1, 1) := by decide +kernel
theorem dX12_names_90 : decode cX12_names 90 = .ok (.goto 4, 3) := by decide +kernel
theorem dX12_names_93 : decode cX12_names 93 = .ok (.lconst 0, 1) := by decide +kernel
theorem dX12_names_94 : decode cX12_names 94 = .ok (.lastore, 1) := by decide +kernel
theorem dX12_names_95 : decode cX12_names 95 = .ok (.aload_n 0, 1) := by decide +kernel
theorem dX12_names_96 : decode cX12_names 96 = .ok (.getfield 169, 3) := by decide +kernel
theorem dX12_names_99 : decode cX12_names 99 = .ok (.iconst 4, 1) := by decide +kernel
theorem dX12_names_100 : decode cX12_names 100 = .ok (.aload_n 0, 1) := by decide +kernel
theorem dX12_names_101 : decode cX12_names 101 = .ok (.getfield 46, 3) := by decide +kernel
theorem dX12_names_104 : decode cX12_names 104 = .ok (.iload_n 2, 1) := by decide +kernel
theorem dX12_names_105 : decode cX12_names 105 = .ok (.baload, 1) := by decide +kernel
theorem dX12_names_106 : decode cX12_names 106 = .ok (.ifCond .eq 7, 3) := by decide +kernel
theorem dX12_names_109 : decode cX12_names 109 = .ok (.lconst 1, 1) := by decide +kernel
theorem dX12_names_110 : decode cX12_names 110 = .ok (.goto 4, 3) := by decide +kernel
theorem dX12_names_113 : decode cX12_names 113 = .ok (.lconst 0, 1) := by decide +kernel
theorem dX12_names_114 : decode cX12_names 114 = .ok (.lastore, 1) := by decide +kernel
theorem dX12_names_115 : decode cX12_names 115 = .ok (.aload_n 0, 1) := by decide +kernel
theorem dX12_names_116 : decode cX12_names 116 = .ok (.getfield 169, 3) := by decide +kernel
theorem dX12_names_119 : decode cX12_names 119 = .ok (.iconst 5, 1) := by decide +kernel
theorem dX12_names_120 : decode cX12_names 120 = .ok (.lconst 0, 1) := by decide +kernel
theorem dX12_names_121 : decode cX12_names 121 = .ok (.lastore, 1) := by decide +kernel
theorem dX12_names_122 : decode cX12_names 122 = .ok (.iconst 0, 1) := by decide +kernel
theorem dX12_names_123 : decode cX12_names 123 = .ok (.istore_n 3, 1) := by decide +kernel
theorem dX12_names_124 : decode cX12_names 124 = .ok (.iload_n 3, 1) := by decide +kernel
theorem dX12_names_125 : decode cX12_names 125 = .ok (.aload_n 0, 1) := by decide +kernel
theorem dX12_names_126 : decode cX12_names 126 = .ok (.getfield 197, 3) := by decide +kernel
theorem dX12_names_129 : decode cX12_names 129 = .ok (.if_icmp .ge 38, 3) := by decide +kernel
theorem dX12_names_132 : decode cX12_names 132 = .ok (.aload_n 0, 1) := by decide +kernel
theorem dX12_names_133 : decode cX12_names 133 = .ok (.getfield 169, 3) := by decide +kernel
theorem dX12_names_136 : decode cX12_names 136 = .ok (.iconst 5, 1) := by decide +kernel
theorem dX12_names_137 : decode cX12_names 137 = .ok (.dup2, 1) := by decide +kernel
theorem dX12_names_138 : decode cX12_names 138 = .ok (.laload, 1) := by decide +kernel
theorem dX12_names_139 : decode cX12_names 139 = .ok (.aload_n 0, 1) := by decide +kernel
theorem dX12_names_140 : decode cX12_names 140 = .ok (.getfield 56, 3) := by decide +kernel
theorem dX12_names_143 : decode cX12_names 143 = .ok (.bipush 16, 2) := by decide +kernel
theorem dX12_names_145 : decode cX12_names 145 = .ok (.iload_n 2, 1) := by decide +kernel
theorem dX12_names_146 : decode cX12_names 146 = .ok (.imul, 1) := by decide +kernel
theorem dX12_names_147 : decode cX12_names 147 = .ok (.iload_n 3, 1) := by decide +kernel
theorem dX12_names_148 : decode cX12_names 148 = .ok (.iadd, 1) := by decide +kernel
theorem dX12_names_149 : decode cX12_names 149 = .ok (.iaload, 1) := by decide +kernel
theorem dX12_names_150 : decode cX12_names 150 = .ok (.iconst 2, 1) := by decide +kernel
theorem dX12_names_151 : decode cX12_names 151 = .ok (.if_icmp .ne 7, 3) := by decide +kernel
theorem dX12_names_154 : decode cX12_names 154 = .ok (.lconst 1, 1) := by decide +kernel
theorem dX12_names_155 : decode cX12_names 155 = .ok (.goto 4, 3) := by decide +kernel
theorem dX12_names_158 : decode cX12_names 158 = .ok (.lconst 0, 1) := by decide +kernel
theorem dX12_names_159 : decode cX12_names 159 = .ok (.ladd, 1) := by decide +kernel
theorem dX12_names_160 : decode cX12_names 160 = .ok (.lastore, 1) := by decide +kernel
theorem dX12_names_161 : decode cX12_names 161 = .ok (.iinc 3 1, 3) := by decide +kernel
theorem dX12_names_164 : decode cX12_names 164 = .ok (.goto (-40), 3) := by decide +kernel
theorem dX12_names_167 : decode cX12_names 167 = .ok (.aload_n 0, 1) := by decide +kernel
theorem dX12_names_168 : decode cX12_names 168 = .ok (.getfield 169, 3) := by decide +kernel
theorem dX12_names_171 : decode cX12_names 171 = .ok (.bipush 6, 2) := by decide +kernel
theorem dX12_names_173 : decode cX12_names 173 = .ok (.aload_n 0, 1) := by decide +kernel
theorem dX12_names_174 : decode cX12_names 174 = .ok (.iload_n 2, 1) := by decide +kernel
theorem dX12_names_175 : decode cX12_names 175 = .ok (.invokevirtual 246, 3) := by decide +kernel
theorem dX12_names_178 : decode cX12_names 178 = .ok (.i2l, 1) := by decide +kernel
theorem dX12_names_179 : decode cX12_names 179 = .ok (.lastore, 1) := by decide +kernel
theorem dX12_names_180 : decode cX12_names 180 = .ok (.return_, 1) := by decide +kernel
theorem dX12_lineOf_0 : decode cX12_lineOf 0 = .ok (.aload_n 0, 1) := by decide +kernel
theorem dX12_lineOf_1 : decode cX12_lineOf 1 = .ok (.getfield 591, 3) := by decide +kernel
theorem dX12_lineOf_4 : decode cX12_lineOf 4 = .ok (.iconst 1, 1) := by decide +kernel
theorem dX12_lineOf_5 : decode cX12_lineOf 5 = .ok (.isub, 1) := by decide +kernel
theorem dX12_lineOf_6 : decode cX12_lineOf 6 = .ok (.istore_n 3, 1) := by decide +kernel
theorem dX12_lineOf_7 : decode cX12_lineOf 7 = .ok (.iload_n 3, 1) := by decide +kernel
theorem dX12_lineOf_8 : decode cX12_lineOf 8 = .ok (.ifCond .lt 90, 3) := by decide +kernel
theorem dX12_lineOf_11 : decode cX12_lineOf 11 = .ok (.aload_n 0, 1) := by decide +kernel
theorem dX12_lineOf_12 : decode cX12_lineOf 12 = .ok (.getfield 166, 3) := by decide +kernel
theorem dX12_lineOf_15 : decode cX12_lineOf 15 = .ok (.iconst 4, 1) := by decide +kernel
theorem dX12_lineOf_16 : decode cX12_lineOf 16 = .ok (.iload_n 3, 1) := by decide +kernel
theorem dX12_lineOf_17 : decode cX12_lineOf 17 = .ok (.imul, 1) := by decide +kernel
theorem dX12_lineOf_18 : decode cX12_lineOf 18 = .ok (.iaload, 1) := by decide +kernel
theorem dX12_lineOf_19 : decode cX12_lineOf 19 = .ok (.iload_n 1, 1) := by decide +kernel
theorem dX12_lineOf_20 : decode cX12_lineOf 20 = .ok (.if_icmp .eq 18, 3) := by decide +kernel
theorem dX12_lineOf_23 : decode cX12_lineOf 23 = .ok (.aload_n 0, 1) := by decide +kernel
theorem dX12_lineOf_24 : decode cX12_lineOf 24 = .ok (.getfield 166, 3) := by decide +kernel
theorem dX12_lineOf_27 : decode cX12_lineOf 27 = .ok (.iconst 4, 1) := by decide +kernel
theorem dX12_lineOf_28 : decode cX12_lineOf 28 = .ok (.iload_n 3, 1) := by decide +kernel
theorem dX12_lineOf_29 : decode cX12_lineOf 29 = .ok (.imul, 1) := by decide +kernel
theorem dX12_lineOf_30 : decode cX12_lineOf 30 = .ok (.iaload, 1) := by decide +kernel
theorem dX12_lineOf_31 : decode cX12_lineOf 31 = .ok (.iload_n 2, 1) := by decide +kernel
theorem dX12_lineOf_32 : decode cX12_lineOf 32 = .ok (.if_icmp .eq 6, 3) := by decide +kernel
theorem dX12_lineOf_35 : decode cX12_lineOf 35 = .ok (.goto 57, 3) := by decide +kernel
theorem dX12_lineOf_38 : decode cX12_lineOf 38 = .ok (.aload_n 0, 1) := by decide +kernel
theorem dX12_lineOf_39 : decode cX12_lineOf 39 = .ok (.getfield 166, 3) := by decide +kernel
theorem dX12_lineOf_42 : decode cX12_lineOf 42 = .ok (.iconst 4, 1) := by decide +kernel
theorem dX12_lineOf_43 : decode cX12_lineOf 43 = .ok (.iload_n 3, 1) := by decide +kernel
theorem dX12_lineOf_44 : decode cX12_lineOf 44 = .ok (.imul, 1) := by decide +kernel
theorem dX12_lineOf_45 : decode cX12_lineOf 45 = .ok (.iconst 3, 1) := by decide +kernel
theorem dX12_lineOf_46 : decode cX12_lineOf 46 = .ok (.iadd, 1) := by decide +kernel
theorem dX12_lineOf_47 : decode cX12_lineOf 47 = .ok (.iaload, 1) := by decide +kernel
theorem dX12_lineOf_48 : decode cX12_lineOf 48 = .ok (.aload_n 0, 1) := by decide +kernel
theorem dX12_lineOf_49 : decode cX12_lineOf 49 = .ok (.getfield 166, 3) := by decide +kernel
theorem dX12_lineOf_52 : decode cX12_lineOf 52 = .ok (.iconst 4, 1) := by decide +kernel
theorem dX12_lineOf_53 : decode cX12_lineOf 53 = .ok (.iload_n 3, 1) := by decide +kernel
theorem dX12_lineOf_54 : decode cX12_lineOf 54 = .ok (.imul, 1) := by decide +kernel
theorem dX12_lineOf_55 : decode cX12_lineOf 55 = .ok (.iconst 2, 1) := by decide +kernel
theorem dX12_lineOf_56 : decode cX12_lineOf 56 = .ok (.iadd, 1) := by decide +kernel
theorem dX12_lineOf_57 : decode cX12_lineOf 57 = .ok (.iaload, 1) := by decide +kernel
theorem dX12_lineOf_58 : decode cX12_lineOf 58 = .ok (.if_icmp .eq 32, 3) := by decide +kernel
theorem dX12_lineOf_61 : decode cX12_lineOf 61 = .ok (.aload_n 0, 1) := by decide +kernel
theorem dX12_lineOf_62 : decode cX12_lineOf 62 = .ok (.aload_n 0, 1) := by decide +kernel
theorem dX12_lineOf_63 : decode cX12_lineOf 63 = .ok (.getfield 166, 3) := by decide +kernel
theorem dX12_lineOf_66 : decode cX12_lineOf 66 = .ok (.iconst 4, 1) := by decide +kernel
theorem dX12_lineOf_67 : decode cX12_lineOf 67 = .ok (.iload_n 3, 1) := by decide +kernel
theorem dX12_lineOf_68 : decode cX12_lineOf 68 = .ok (.imul, 1) := by decide +kernel
theorem dX12_lineOf_69 : decode cX12_lineOf 69 = .ok (.iconst 2, 1) := by decide +kernel
theorem dX12_lineOf_70 : decode cX12_lineOf 70 = .ok (.iadd, 1) := by decide +kernel
theorem dX12_lineOf_71 : decode cX12_lineOf 71 = .ok (.iaload, 1) := by decide +kernel
theorem dX12_lineOf_72 : decode cX12_lineOf 72 = .ok (.aload_n 0, 1) := by decide +kernel
theorem dX12_lineOf_73 : decode cX12_lineOf 73 = .ok (.getfield 166, 3) := by decide +kernel
theorem dX12_lineOf_76 : decode cX12_lineOf 76 = .ok (.iconst 4, 1) := by decide +kernel
theorem dX12_lineOf_77 : decode cX12_lineOf 77 = .ok (.iload_n 3, 1) := by decide +kernel
theorem dX12_lineOf_78 : decode cX12_lineOf 78 = .ok (.imul, 1) := by decide +kernel
theorem dX12_lineOf_79 : decode cX12_lineOf 79 = .ok (.iconst 3, 1) := by decide +kernel
theorem dX12_lineOf_80 : decode cX12_lineOf 80 = .ok (.iadd, 1) := by decide +kernel
theorem dX12_lineOf_81 : decode cX12_lineOf 81 = .ok (.iaload, 1) := by decide +kernel
theorem dX12_lineOf_82 : decode cX12_lineOf 82 = .ok (.invokevirtual 598, 3) := by decide +kernel
theorem dX12_lineOf_85 : decode cX12_lineOf 85 = .ok (.lconst 0, 1) := by decide +kernel
theorem dX12_lineOf_86 : decode cX12_lineOf 86 = .ok (.lcmp, 1) := by decide +kernel
theorem dX12_lineOf_87 : decode cX12_lineOf 87 = .ok (.ifCond .eq 5, 3) := by decide +kernel
theorem dX12_lineOf_90 : decode cX12_lineOf 90 = .ok (.iload_n 3, 1) := by decide +kernel
theorem dX12_lineOf_91 : decode cX12_lineOf 91 = .ok (.ireturn, 1) := by decide +kernel
theorem dX12_lineOf_92 : decode cX12_lineOf 92 = .ok (.iinc 3 (-1), 3) := by decide +kernel
theorem dX12_lineOf_95 : decode cX12_lineOf 95 = .ok (.goto (-88), 3) := by decide +kernel
theorem dX12_lineOf_98 : decode cX12_lineOf 98 = .ok (.iconst (-1), 1) := by decide +kernel
theorem dX12_lineOf_99 : decode cX12_lineOf 99 = .ok (.ireturn, 1) := by decide +kernel
theorem dX12_isLet_0 : decode cX12_isLet 0 = .ok (.aload_n 0, 1) := by decide +kernel
theorem dX12_isLet_1 : decode cX12_isLet 1 = .ok (.iload_n 1, 1) := by decide +kernel
theorem dX12_isLet_2 : decode cX12_isLet 2 = .ok (.iload_n 2, 1) := by decide +kernel
theorem dX12_isLet_3 : decode cX12_isLet 3 = .ok (.invokevirtual 602, 3) := by decide +kernel
theorem dX12_isLet_6 : decode cX12_isLet 6 = .ok (.aload_n 0, 1) := by decide +kernel
theorem dX12_isLet_7 : decode cX12_isLet 7 = .ok (.iconst 0, 1) := by decide +kernel
theorem dX12_isLet_8 : decode cX12_isLet 8 = .ok (.iconst 1, 1) := by decide +kernel
theorem dX12_isLet_9 : decode cX12_isLet 9 = .ok (.invokevirtual 605, 3) := by decide +kernel
theorem dX12_isLet_12 : decode cX12_isLet 12 = .ok (.istore_n 3, 1) := by decide +kernel
theorem dX12_isLet_13 : decode cX12_isLet 13 = .ok (.iload_n 3, 1) := by decide +kernel
theorem dX12_isLet_14 : decode cX12_isLet 14 = .ok (.iconst (-1), 1) := by decide +kernel
theorem dX12_isLet_15 : decode cX12_isLet 15 = .ok (.if_icmp .eq 18, 3) := by decide +kernel
theorem dX12_isLet_18 : decode cX12_isLet 18 = .ok (.aload_n 0, 1) := by decide +kernel
theorem dX12_isLet_19 : decode cX12_isLet 19 = .ok (.getfield 166, 3) := by decide +kernel
theorem dX12_isLet_22 : decode cX12_isLet 22 = .ok (.iconst 4, 1) := by decide +kernel
theorem dX12_isLet_23 : decode cX12_isLet 23 = .ok (.iload_n 3, 1) := by decide +kernel
theorem dX12_isLet_24 : decode cX12_isLet 24 = .ok (.imul, 1) := by decide +kernel
theorem dX12_isLet_25 : decode cX12_isLet 25 = .ok (.iaload, 1) := by decide +kernel
theorem dX12_isLet_26 : decode cX12_isLet 26 = .ok (.ifCond .ne 7, 3) := by decide +kernel
theorem dX12_isLet_29 : decode cX12_isLet 29 = .ok (.iconst 1, 1) := by decide +kernel
theorem dX12_isLet_30 : decode cX12_isLet 30 = .ok (.goto 4, 3) := by decide +kernel
theorem dX12_isLet_33 : decode cX12_isLet 33 = .ok (.iconst 0, 1) := by decide +kernel
theorem dX12_isLet_34 : decode cX12_isLet 34 = .ok (.ireturn, 1) := by decide +kernel
theorem dX12_keepOf_0 : decode cX12_keepOf 0 = .ok (.aload_n 0, 1) := by decide +kernel
theorem dX12_keepOf_1 : decode cX12_keepOf 1 = .ok (.iconst (-1), 1) := by decide +kernel
theorem dX12_keepOf_2 : decode cX12_keepOf 2 = .ok (.iload_n 1, 1) := by decide +kernel
theorem dX12_keepOf_3 : decode cX12_keepOf 3 = .ok (.invokevirtual 602, 3) := by decide +kernel
theorem dX12_keepOf_6 : decode cX12_keepOf 6 = .ok (.aload_n 0, 1) := by decide +kernel
theorem dX12_keepOf_7 : decode cX12_keepOf 7 = .ok (.iconst 2, 1) := by decide +kernel
theorem dX12_keepOf_8 : decode cX12_keepOf 8 = .ok (.iconst 2, 1) := by decide +kernel
theorem dX12_keepOf_9 : decode cX12_keepOf 9 = .ok (.invokevirtual 605, 3) := by decide +kernel
theorem dX12_keepOf_12 : decode cX12_keepOf 12 = .ok (.istore_n 2, 1) := by decide +kernel
theorem dX12_keepOf_13 : decode cX12_keepOf 13 = .ok (.iload_n 2, 1) := by decide +kernel
theorem dX12_keepOf_14 : decode cX12_keepOf 14 = .ok (.iconst (-1), 1) := by decide +kernel
theorem dX12_keepOf_15 : decode cX12_keepOf 15 = .ok (.if_icmp .ne 7, 3) := by decide +kernel
theorem dX12_keepOf_18 : decode cX12_keepOf 18 = .ok (.iconst (-1), 1) := by decide +kernel
theorem dX12_keepOf_19 : decode cX12_keepOf 19 = .ok (.goto 38, 3) := by decide +kernel
theorem dX12_keepOf_22 : decode cX12_keepOf 22 = .ok (.lconst 1, 1) := by decide +kernel
theorem dX12_keepOf_23 : decode cX12_keepOf 23 = .ok (.ldc2_w 188, 3) := by decide +kernel
theorem dX12_keepOf_26 : decode cX12_keepOf 26 = .ok (.aload_n 0, 1) := by decide +kernel
theorem dX12_keepOf_27 : decode cX12_keepOf 27 = .ok (.aload_n 0, 1) := by decide +kernel
theorem dX12_keepOf_28 : decode cX12_keepOf 28 = .ok (.getfield 166, 3) := by decide +kernel
theorem dX12_keepOf_31 : decode cX12_keepOf 31 = .ok (.iconst 4, 1) := by decide +kernel
theorem dX12_keepOf_32 : decode cX12_keepOf 32 = .ok (.iload_n 2, 1) := by decide +kernel
theorem dX12_keepOf_33 : decode cX12_keepOf 33 = .ok (.imul, 1) := by decide +kernel
theorem dX12_keepOf_34 : decode cX12_keepOf 34 = .ok (.iconst 1, 1) := by decide +kernel
theorem dX12_keepOf_35 : decode cX12_keepOf 35 = .ok (.iadd, 1) := by decide +kernel
theorem dX12_keepOf_36 : decode cX12_keepOf 36 = .ok (.iaload, 1) := by decide +kernel
theorem dX12_keepOf_37 : decode cX12_keepOf 37 = .ok (.aload_n 0, 1) := by decide +kernel
theorem dX12_keepOf_38 : decode cX12_keepOf 38 = .ok (.getfield 166, 3) := by decide +kernel
theorem dX12_keepOf_41 : decode cX12_keepOf 41 = .ok (.iconst 4, 1) := by decide +kernel
theorem dX12_keepOf_42 : decode cX12_keepOf 42 = .ok (.iload_n 2, 1) := by decide +kernel
theorem dX12_keepOf_43 : decode cX12_keepOf 43 = .ok (.imul, 1) := by decide +kernel
theorem dX12_keepOf_44 : decode cX12_keepOf 44 = .ok (.iconst 2, 1) := by decide +kernel
theorem dX12_keepOf_45 : decode cX12_keepOf 45 = .ok (.iadd, 1) := by decide +kernel
theorem dX12_keepOf_46 : decode cX12_keepOf 46 = .ok (.iaload, 1) := by decide +kernel
theorem dX12_keepOf_47 : decode cX12_keepOf 47 = .ok (.invokevirtual 598, 3) := by decide +kernel
theorem dX12_keepOf_50 : decode cX12_keepOf 50 = .ok (.invokestatic 608, 3) := by decide +kernel
theorem dX12_keepOf_53 : decode cX12_keepOf 53 = .ok (.invokestatic 611, 3) := by decide +kernel
theorem dX12_keepOf_56 : decode cX12_keepOf 56 = .ok (.l2i, 1) := by decide +kernel
theorem dX12_keepOf_57 : decode cX12_keepOf 57 = .ok (.ireturn, 1) := by decide +kernel
theorem dX12_may_0 : decode cX12_may 0 = .ok (.aload_n 0, 1) := by decide +kernel
theorem dX12_may_1 : decode cX12_may 1 = .ok (.iconst 0, 1) := by decide +kernel
theorem dX12_may_2 : decode cX12_may 2 = .ok (.putfield 185, 3) := by decide +kernel
theorem dX12_may_5 : decode cX12_may 5 = .ok (.aload_n 0, 1) := by decide +kernel
theorem dX12_may_6 : decode cX12_may 6 = .ok (.iload_n 1, 1) := by decide +kernel
theorem dX12_may_7 : decode cX12_may 7 = .ok (.invokevirtual 284, 3) := by decide +kernel
theorem dX12_may_10 : decode cX12_may 10 = .ok (.ifCond .eq 20, 3) := by decide +kernel
theorem dX12_may_13 : decode cX12_may 13 = .ok (.aload_n 0, 1) := by decide +kernel
theorem dX12_may_14 : decode cX12_may 14 = .ok (.iload_n 2, 1) := by decide +kernel
theorem dX12_may_15 : decode cX12_may 15 = .ok (.invokevirtual 206, 3) := by decide +kernel
theorem dX12_may_18 : decode cX12_may 18 = .ok (.ifCond .eq 12, 3) := by decide +kernel
theorem dX12_may_21 : decode cX12_may 21 = .ok (.aload_n 0, 1) := by decide +kernel
theorem dX12_may_22 : decode cX12_may 22 = .ok (.iload_n 1, 1) := by decide +kernel
theorem dX12_may_23 : decode cX12_may 23 = .ok (.iload_n 2, 1) := by decide +kernel
theorem dX12_may_24 : decode cX12_may 24 = .ok (.invokevirtual 613, 3) := by decide +kernel
theorem dX12_may_27 : decode cX12_may 27 = .ok (.goto 8, 3) := by decide +kernel
theorem dX12_may_30 : decode cX12_may 30 = .ok (.aload_n 0, 1) := by decide +kernel
theorem dX12_may_31 : decode cX12_may 31 = .ok (.iconst 1, 1) := by decide +kernel
theorem dX12_may_32 : decode cX12_may 32 = .ok (.invokevirtual 258, 3) := by decide +kernel
theorem dX12_may_35 : decode cX12_may 35 = .ok (.ireturn, 1) := by decide +kernel
theorem dX12_ask_0 : decode cX12_ask 0 = .ok (.aload_n 0, 1) := by decide +kernel
theorem dX12_ask_1 : decode cX12_ask 1 = .ok (.iconst 0, 1) := by decide +kernel
theorem dX12_ask_2 : decode cX12_ask 2 = .ok (.putfield 185, 3) := by decide +kernel
theorem dX12_ask_5 : decode cX12_ask 5 = .ok (.aload_n 0, 1) := by decide +kernel
theorem dX12_ask_6 : decode cX12_ask 6 = .ok (.iload_n 1, 1) := by decide +kernel
theorem dX12_ask_7 : decode cX12_ask 7 = .ok (.invokevirtual 284, 3) := by decide +kernel
theorem dX12_ask_10 : decode cX12_ask 10 = .ok (.ifCond .eq 42, 3) := by decide +kernel
theorem dX12_ask_13 : decode cX12_ask 13 = .ok (.aload_n 0, 1) := by decide +kernel
theorem dX12_ask_14 : decode cX12_ask 14 = .ok (.iload_n 2, 1) := by decide +kernel
theorem dX12_ask_15 : decode cX12_ask 15 = .ok (.invokevirtual 206, 3) := by decide +kernel
theorem dX12_ask_18 : decode cX12_ask 18 = .ok (.ifCond .eq 34, 3) := by decide +kernel
theorem dX12_ask_21 : decode cX12_ask 21 = .ok (.aload_n 0, 1) := by decide +kernel
theorem dX12_ask_22 : decode cX12_ask 22 = .ok (.iload_n 3, 1) := by decide +kernel
theorem dX12_ask_23 : decode cX12_ask 23 = .ok (.invokevirtual 249, 3) := by decide +kernel
theorem dX12_ask_26 : decode cX12_ask 26 = .ok (.ifCond .eq 26, 3) := by decide +kernel
theorem dX12_ask_29 : decode cX12_ask 29 = .ok (.aload_n 0, 1) := by decide +kernel
theorem dX12_ask_30 : decode cX12_ask 30 = .ok (.iload_n 1, 1) := by decide +kernel
theorem dX12_ask_31 : decode cX12_ask 31 = .ok (.iload_n 2, 1) := by decide +kernel
theorem dX12_ask_32 : decode cX12_ask 32 = .ok (.invokevirtual 613, 3) := by decide +kernel
theorem dX12_ask_35 : decode cX12_ask 35 = .ok (.ifCond .eq 17, 3) := by decide +kernel
theorem dX12_ask_38 : decode cX12_ask 38 = .ok (.aload_n 0, 1) := by decide +kernel
theorem dX12_ask_39 : decode cX12_ask 39 = .ok (.getfield 56, 3) := by decide +kernel
theorem dX12_ask_42 : decode cX12_ask 42 = .ok (.bipush 16, 2) := by decide +kernel
theorem dX12_ask_44 : decode cX12_ask 44 = .ok (.iload_n 2, 1) := by decide +kernel
theorem dX12_ask_45 : decode cX12_ask 45 = .ok (.imul, 1) := by decide +kernel
theorem dX12_ask_46 : decode cX12_ask 46 = .ok (.iload_n 3, 1) := by decide +kernel
theorem dX12_ask_47 : decode cX12_ask 47 = .ok (.iadd, 1) := by decide +kernel
theorem dX12_ask_48 : decode cX12_ask 48 = .ok (.iaload, 1) := by decide +kernel
theorem dX12_ask_49 : decode cX12_ask 49 = .ok (.goto 4, 3) := by decide +kernel
theorem dX12_ask_52 : decode cX12_ask 52 = .ok (.iconst (-1), 1) := by decide +kernel
theorem dX12_ask_53 : decode cX12_ask 53 = .ok (.ireturn, 1) := by decide +kernel
theorem dX12_kept_0 : decode cX12_kept 0 = .ok (.aload_n 0, 1) := by decide +kernel
theorem dX12_kept_1 : decode cX12_kept 1 = .ok (.iconst 0, 1) := by decide +kernel
theorem dX12_kept_2 : decode cX12_kept 2 = .ok (.putfield 185, 3) := by decide +kernel
theorem dX12_kept_5 : decode cX12_kept 5 = .ok (.aload_n 0, 1) := by decide +kernel
theorem dX12_kept_6 : decode cX12_kept 6 = .ok (.iload_n 1, 1) := by decide +kernel
theorem dX12_kept_7 : decode cX12_kept 7 = .ok (.invokevirtual 206, 3) := by decide +kernel
theorem dX12_kept_10 : decode cX12_kept 10 = .ok (.ifCond .eq 11, 3) := by decide +kernel
theorem dX12_kept_13 : decode cX12_kept 13 = .ok (.aload_n 0, 1) := by decide +kernel
theorem dX12_kept_14 : decode cX12_kept 14 = .ok (.iload_n 1, 1) := by decide +kernel
theorem dX12_kept_15 : decode cX12_kept 15 = .ok (.invokevirtual 293, 3) := by decide +kernel
theorem dX12_kept_18 : decode cX12_kept 18 = .ok (.goto 8, 3) := by decide +kernel
theorem dX12_kept_21 : decode cX12_kept 21 = .ok (.aload_n 0, 1) := by decide +kernel
theorem dX12_kept_22 : decode cX12_kept 22 = .ok (.iconst 1, 1) := by decide +kernel
theorem dX12_kept_23 : decode cX12_kept 23 = .ok (.invokevirtual 226, 3) := by decide +kernel
theorem dX12_kept_26 : decode cX12_kept 26 = .ok (.ireturn, 1) := by decide +kernel
theorem dX12_isTray_0 : decode cX12_isTray 0 = .ok (.iload_n 0, 1) := by decide +kernel
theorem dX12_isTray_1 : decode cX12_isTray 1 = .ok (.i2l, 1) := by decide +kernel
theorem dX12_isTray_2 : decode cX12_isTray 2 = .ok (.lconst 0, 1) := by decide +kernel
theorem dX12_isTray_3 : decode cX12_isTray 3 = .ok (.ldc2_w 252, 3) := by decide +kernel
theorem dX12_isTray_6 : decode cX12_isTray 6 = .ok (.invokestatic 190, 3) := by decide +kernel
theorem dX12_isTray_9 : decode cX12_isTray 9 = .ok (.ireturn, 1) := by decide +kernel
theorem dX12_tray_0 : decode cX12_tray 0 = .ok (.aload_n 0, 1) := by decide +kernel
theorem dX12_tray_1 : decode cX12_tray 1 = .ok (.iload_n 1, 1) := by decide +kernel
theorem dX12_tray_2 : decode cX12_tray 2 = .ok (.invokestatic 616, 3) := by decide +kernel
theorem dX12_tray_5 : decode cX12_tray 5 = .ok (.ifCond .ne 7, 3) := by decide +kernel
theorem dX12_tray_8 : decode cX12_tray 8 = .ok (.iconst 1, 1) := by decide +kernel
theorem dX12_tray_9 : decode cX12_tray 9 = .ok (.goto 32, 3) := by decide +kernel
theorem dX12_tray_12 : decode cX12_tray 12 = .ok (.iload_n 2, 1) := by decide +kernel
theorem dX12_tray_13 : decode cX12_tray 13 = .ok (.i2l, 1) := by decide +kernel
theorem dX12_tray_14 : decode cX12_tray 14 = .ok (.lconst 0, 1) := by decide +kernel
theorem dX12_tray_15 : decode cX12_tray 15 = .ok (.ldc2_w 252, 3) := by decide +kernel
theorem dX12_tray_18 : decode cX12_tray 18 = .ok (.invokestatic 190, 3) := by decide +kernel
theorem dX12_tray_21 : decode cX12_tray 21 = .ok (.ifCond .eq 15, 3) := by decide +kernel
theorem dX12_tray_24 : decode cX12_tray 24 = .ok (.iload_n 3, 1) := by decide +kernel
theorem dX12_tray_25 : decode cX12_tray 25 = .ok (.i2l, 1) := by decide +kernel
theorem dX12_tray_26 : decode cX12_tray 26 = .ok (.lconst 0, 1) := by decide +kernel
theorem dX12_tray_27 : decode cX12_tray 27 = .ok (.ldc2_w 619, 3) := by decide +kernel
theorem dX12_tray_30 : decode cX12_tray 30 = .ok (.invokestatic 190, 3) := by decide +kernel
theorem dX12_tray_33 : decode cX12_tray 33 = .ok (.ifCond .ne 7, 3) := by decide +kernel
theorem dX12_tray_36 : decode cX12_tray 36 = .ok (.iconst 2, 1) := by decide +kernel
theorem dX12_tray_37 : decode cX12_tray 37 = .ok (.goto 4, 3) := by decide +kernel
theorem dX12_tray_40 : decode cX12_tray 40 = .ok (.iconst 0, 1) := by decide +kernel
theorem dX12_tray_41 : decode cX12_tray 41 = .ok (.putfield 185, 3) := by decide +kernel
theorem dX12_tray_44 : decode cX12_tray 44 = .ok (.aload_n 0, 1) := by decide +kernel
theorem dX12_tray_45 : decode cX12_tray 45 = .ok (.getfield 185, 3) := by decide +kernel
theorem dX12_tray_48 : decode cX12_tray 48 = .ok (.ifCond .le 4, 3) := by decide +kernel
theorem dX12_tray_51 : decode cX12_tray 51 = .ok (.return_, 1) := by decide +kernel
theorem dX12_tray_52 : decode cX12_tray 52 = .ok (.aload_n 0, 1) := by decide +kernel
theorem dX12_tray_53 : decode cX12_tray 53 = .ok (.getfield 176, 3) := by decide +kernel
theorem dX12_tray_56 : decode cX12_tray 56 = .ok (.iload_n 1, 1) := by decide +kernel
theorem dX12_tray_57 : decode cX12_tray 57 = .ok (.iload_n 2, 1) := by decide +kernel
theorem dX12_tray_58 : decode cX12_tray 58 = .ok (.iastore, 1) := by decide +kernel
theorem dX12_tray_59 : decode cX12_tray 59 = .ok (.aload_n 0, 1) := by decide +kernel
theorem dX12_tray_60 : decode cX12_tray 60 = .ok (.getfield 179, 3) := by decide +kernel
theorem dX12_tray_63 : decode cX12_tray 63 = .ok (.iload_n 1, 1) := by decide +kernel
theorem dX12_tray_64 : decode cX12_tray 64 = .ok (.iload_n 3, 1) := by decide +kernel
theorem dX12_tray_65 : decode cX12_tray 65 = .ok (.iastore, 1) := by decide +kernel
theorem dX12_tray_66 : decode cX12_tray 66 = .ok (.iconst 0, 1) := by decide +kernel
theorem dX12_tray_67 : decode cX12_tray 67 = .ok (.istore 4, 2) := by decide +kernel
theorem dX12_tray_69 : decode cX12_tray 69 = .ok (.iload 4, 2) := by decide +kernel
theorem dX12_tray_71 : decode cX12_tray 71 = .ok (.bipush 40, 2) := by decide +kernel
theorem dX12_tray_73 : decode cX12_tray 73 = .ok (.if_icmp .ge 22, 3) := by decide +kernel
theorem dX12_tray_76 : decode cX12_tray 76 = .ok (.aload_n 0, 1) := by decide +kernel
theorem dX12_tray_77 : decode cX12_tray 77 = .ok (.getfield 182, 3) := by decide +kernel
theorem dX12_tray_80 : decode cX12_tray 80 = .ok (.bipush 40, 2) := by decide +kernel
theorem dX12_tray_82 : decode cX12_tray 82 = .ok (.iload_n 1, 1) := by decide +kernel
theorem dX12_tray_83 : decode cX12_tray 83 = .ok (.imul, 1) := by decide +kernel
theorem dX12_tray_84 : decode cX12_tray 84 = .ok (.iload 4, 2) := by decide +kernel
theorem dX12_tray_86 : decode cX12_tray 86 = .ok (.iadd, 1) := by decide +kernel
theorem dX12_tray_87 : decode cX12_tray 87 = .ok (.lconst 0, 1) := by decide +kernel
theorem dX12_tray_88 : decode cX12_tray 88 = .ok (.lastore, 1) := by decide +kernel
theorem dX12_tray_89 : decode cX12_tray 89 = .ok (.iinc 4 1, 3) := by decide +kernel
theorem dX12_tray_92 : decode cX12_tray 92 = .ok (.goto (-23), 3) := by decide +kernel
theorem dX12_tray_95 : decode cX12_tray 95 = .ok (.return_, 1) := by decide +kernel
theorem dX12_write_0 : decode cX12_write 0 = .ok (.aload_n 0, 1) := by decide +kernel
theorem dX12_write_1 : decode cX12_write 1 = .ok (.iconst 0, 1) := by decide +kernel
theorem dX12_write_2 : decode cX12_write 2 = .ok (.putfield 185, 3) := by decide +kernel
theorem dX12_write_5 : decode cX12_write 5 = .ok (.iload_n 1, 1) := by decide +kernel
theorem dX12_write_6 : decode cX12_write 6 = .ok (.invokestatic 616, 3) := by decide +kernel
theorem dX12_write_9 : decode cX12_write 9 = .ok (.ifCond .ne 10, 3) := by decide +kernel
theorem dX12_write_12 : decode cX12_write 12 = .ok (.aload_n 0, 1) := by decide +kernel
theorem dX12_write_13 : decode cX12_write 13 = .ok (.iconst 1, 1) := by decide +kernel
theorem dX12_write_14 : decode cX12_write 14 = .ok (.invokevirtual 226, 3) := by decide +kernel
theorem dX12_write_17 : decode cX12_write 17 = .ok (.i2l, 1) := by decide +kernel
theorem dX12_write_18 : decode cX12_write 18 = .ok (.lreturn, 1) := by decide +kernel
theorem dX12_write_19 : decode cX12_write 19 = .ok (.aload_n 0, 1) := by decide +kernel
theorem dX12_write_20 : decode cX12_write 20 = .ok (.getfield 176, 3) := by decide +kernel
theorem dX12_write_23 : decode cX12_write 23 = .ok (.iload_n 1, 1) := by decide +kernel
theorem dX12_write_24 : decode cX12_write 24 = .ok (.iaload, 1) := by decide +kernel
theorem dX12_write_25 : decode cX12_write 25 = .ok (.iconst (-1), 1) := by decide +kernel
theorem dX12_write_26 : decode cX12_write 26 = .ok (.if_icmp .ne 10, 3) := by decide +kernel
theorem dX12_write_29 : decode cX12_write 29 = .ok (.aload_n 0, 1) := by decide +kernel
theorem dX12_write_30 : decode cX12_write 30 = .ok (.iconst 2, 1) := by decide +kernel
theorem dX12_write_31 : decode cX12_write 31 = .ok (.invokevirtual 226, 3) := by decide +kernel
theorem dX12_write_34 : decode cX12_write 34 = .ok (.i2l, 1) := by decide +kernel
theorem dX12_write_35 : decode cX12_write 35 = .ok (.lreturn, 1) := by decide +kernel
theorem dX12_write_36 : decode cX12_write 36 = .ok (.iload_n 2, 1) := by decide +kernel
theorem dX12_write_37 : decode cX12_write 37 = .ok (.i2l, 1) := by decide +kernel
theorem dX12_write_38 : decode cX12_write 38 = .ok (.lconst 0, 1) := by decide +kernel
theorem dX12_write_39 : decode cX12_write 39 = .ok (.aload_n 0, 1) := by decide +kernel
theorem dX12_write_40 : decode cX12_write 40 = .ok (.getfield 179, 3) := by decide +kernel
theorem dX12_write_43 : decode cX12_write 43 = .ok (.iload_n 1, 1) := by decide +kernel
theorem dX12_write_44 : decode cX12_write 44 = .ok (.iaload, 1) := by decide +kernel
theorem dX12_write_45 : decode cX12_write 45 = .ok (.iconst 1, 1) := by decide +kernel
theorem dX12_write_46 : decode cX12_write 46 = .ok (.isub, 1) := by decide +kernel
theorem dX12_write_47 : decode cX12_write 47 = .ok (.i2l, 1) := by decide +kernel
theorem dX12_write_48 : decode cX12_write 48 = .ok (.invokestatic 190, 3) := by decide +kernel
theorem dX12_write_51 : decode cX12_write 51 = .ok (.ifCond .ne 10, 3) := by decide +kernel
theorem dX12_write_54 : decode cX12_write 54 = .ok (.aload_n 0, 1) := by decide +kernel
theorem dX12_write_55 : decode cX12_write 55 = .ok (.iconst 3, 1) := by decide +kernel
theorem dX12_write_56 : decode cX12_write 56 = .ok (.invokevirtual 226, 3) := by decide +kernel
theorem dX12_write_59 : decode cX12_write 59 = .ok (.i2l, 1) := by decide +kernel
theorem dX12_write_60 : decode cX12_write 60 = .ok (.lreturn, 1) := by decide +kernel
theorem dX12_write_61 : decode cX12_write 61 = .ok (.bipush 64, 2) := by decide +kernel
theorem dX12_write_63 : decode cX12_write 63 = .ok (.bipush 8, 2) := by decide +kernel
theorem dX12_write_65 : decode cX12_write 65 = .ok (.aload_n 0, 1) := by decide +kernel
theorem dX12_write_66 : decode cX12_write 66 = .ok (.getfield 176, 3) := by decide +kernel
theorem dX12_write_69 : decode cX12_write 69 = .ok (.iload_n 1, 1) := by decide +kernel
theorem dX12_write_70 : decode cX12_write 70 = .ok (.iaload, 1) := by decide +kernel
theorem dX12_write_71 : decode cX12_write 71 = .ok (.ishl, 1) := by decide +kernel
theorem dX12_write_72 : decode cX12_write 72 = .ok (.isub, 1) := by decide +kernel
theorem dX12_write_73 : decode cX12_write 73 = .ok (.istore 5, 2) := by decide +kernel
theorem dX12_write_75 : decode cX12_write 75 = .ok (.aload_n 0, 1) := by decide +kernel
theorem dX12_write_76 : decode cX12_write 76 = .ok (.getfield 182, 3) := by decide +kernel
theorem dX12_write_79 : decode cX12_write 79 = .ok (.bipush 40, 2) := by decide +kernel
theorem dX12_write_81 : decode cX12_write 81 = .ok (.iload_n 1, 1) := by decide +kernel
theorem dX12_write_82 : decode cX12_write 82 = .ok (.imul, 1) := by decide +kernel
theorem dX12_write_83 : decode cX12_write 83 = .ok (.iload_n 2, 1) := by decide +kernel
theorem dX12_write_84 : decode cX12_write 84 = .ok (.iadd, 1) := by decide +kernel
theorem dX12_write_85 : decode cX12_write 85 = .ok (.lload_n 3, 1) := by decide +kernel
theorem dX12_write_86 : decode cX12_write 86 = .ok (.iload 5, 2) := by decide +kernel
theorem dX12_write_88 : decode cX12_write 88 = .ok (.lshl, 1) := by decide +kernel
theorem dX12_write_89 : decode cX12_write 89 = .ok (.iload 5, 2) := by decide +kernel
theorem dX12_write_91 : decode cX12_write 91 = .ok (.lshr, 1) := by decide +kernel
theorem dX12_write_92 : decode cX12_write 92 = .ok (.lastore, 1) := by decide +kernel
theorem dX12_write_93 : decode cX12_write 93 = .ok (.aload_n 0, 1) := by decide +kernel
theorem dX12_write_94 : decode cX12_write 94 = .ok (.getfield 182, 3) := by decide +kernel
theorem dX12_write_97 : decode cX12_write 97 = .ok (.bipush 40, 2) := by decide +kernel
theorem dX12_write_99 : decode cX12_write 99 = .ok (.iload_n 1, 1) := by decide +kernel
theorem dX12_write_100 : decode cX12_write 100 = .ok (.imul, 1) := by decide +kernel
theorem dX12_write_101 : decode cX12_write 101 = .ok (.iload_n 2, 1) := by decide +kernel
theorem dX12_write_102 : decode cX12_write 102 = .ok (.iadd, 1) := by decide +kernel
theorem dX12_write_103 : decode cX12_write 103 = .ok (.laload, 1) := by decide +kernel
theorem dX12_write_104 : decode cX12_write 104 = .ok (.lreturn, 1) := by decide +kernel
theorem dX12_take_0 : decode cX12_take 0 = .ok (.aload_n 0, 1) := by decide +kernel
theorem dX12_take_1 : decode cX12_take 1 = .ok (.iconst 0, 1) := by decide +kernel
theorem dX12_take_2 : decode cX12_take 2 = .ok (.putfield 185, 3) := by decide +kernel
theorem dX12_take_5 : decode cX12_take 5 = .ok (.iload_n 1, 1) := by decide +kernel
theorem dX12_take_6 : decode cX12_take 6 = .ok (.invokestatic 616, 3) := by decide +kernel
theorem dX12_take_9 : decode cX12_take 9 = .ok (.ifCond .eq 11, 3) := by decide +kernel
theorem dX12_take_12 : decode cX12_take 12 = .ok (.aload_n 0, 1) := by decide +kernel
theorem dX12_take_13 : decode cX12_take 13 = .ok (.iload_n 2, 1) := by decide +kernel
theorem dX12_take_14 : decode cX12_take 14 = .ok (.invokevirtual 206, 3) := by decide +kernel
theorem dX12_take_17 : decode cX12_take 17 = .ok (.ifCond .ne 9, 3) := by decide +kernel
theorem dX12_take_20 : decode cX12_take 20 = .ok (.aload_n 0, 1) := by decide +kernel
theorem dX12_take_21 : decode cX12_take 21 = .ok (.iconst 1, 1) := by decide +kernel
theorem dX12_take_22 : decode cX12_take 22 = .ok (.invokevirtual 226, 3) := by decide +kernel
theorem dX12_take_25 : decode cX12_take 25 = .ok (.ireturn, 1) := by decide +kernel
theorem dX12_take_26 : decode cX12_take 26 = .ok (.aload_n 0, 1) := by decide +kernel
theorem dX12_take_27 : decode cX12_take 27 = .ok (.getfield 176, 3) := by decide +kernel
theorem dX12_take_30 : decode cX12_take 30 = .ok (.iload_n 1, 1) := by decide +kernel
theorem dX12_take_31 : decode cX12_take 31 = .ok (.iaload, 1) := by decide +kernel
theorem dX12_take_32 : decode cX12_take 32 = .ok (.iconst (-1), 1) := by decide +kernel
theorem dX12_take_33 : decode cX12_take 33 = .ok (.if_icmp .ne 9, 3) := by decide +kernel
theorem dX12_take_36 : decode cX12_take 36 = .ok (.aload_n 0, 1) := by decide +kernel
theorem dX12_take_37 : decode cX12_take 37 = .ok (.iconst 2, 1) := by decide +kernel
theorem dX12_take_38 : decode cX12_take 38 = .ok (.invokevirtual 226, 3) := by decide +kernel
theorem dX12_take_41 : decode cX12_take 41 = .ok (.ireturn, 1) := by decide +kernel
theorem dX12_take_42 : decode cX12_take 42 = .ok (.aload_n 0, 1) := by decide +kernel
theorem dX12_take_43 : decode cX12_take 43 = .ok (.getfield 179, 3) := by decide +kernel
theorem dX12_take_46 : decode cX12_take 46 = .ok (.iload_n 1, 1) := by decide +kernel
theorem dX12_take_47 : decode cX12_take 47 = .ok (.iaload, 1) := by decide +kernel
theorem dX12_take_48 : decode cX12_take 48 = .ok (.aload_n 0, 1) := by decide +kernel
theorem dX12_take_49 : decode cX12_take 49 = .ok (.getfield 197, 3) := by decide +kernel
theorem dX12_take_52 : decode cX12_take 52 = .ok (.if_icmp .le 9, 3) := by decide +kernel
theorem dX12_take_55 : decode cX12_take 55 = .ok (.aload_n 0, 1) := by decide +kernel
theorem dX12_take_56 : decode cX12_take 56 = .ok (.iconst 3, 1) := by decide +kernel
theorem dX12_take_57 : decode cX12_take 57 = .ok (.invokevirtual 226, 3) := by decide +kernel
theorem dX12_take_60 : decode cX12_take 60 = .ok (.ireturn, 1) := by decide +kernel
theorem dX12_take_61 : decode cX12_take 61 = .ok (.iconst 0, 1) := by decide +kernel
theorem dX12_take_62 : decode cX12_take 62 = .ok (.istore_n 3, 1) := by decide +kernel
theorem dX12_take_63 : decode cX12_take 63 = .ok (.iload_n 3, 1) := by decide +kernel
theorem dX12_take_64 : decode cX12_take 64 = .ok (.aload_n 0, 1) := by decide +kernel
theorem dX12_take_65 : decode cX12_take 65 = .ok (.getfield 179, 3) := by decide +kernel
theorem dX12_take_68 : decode cX12_take 68 = .ok (.iload_n 1, 1) := by decide +kernel
theorem dX12_take_69 : decode cX12_take 69 = .ok (.iaload, 1) := by decide +kernel
theorem dX12_take_70 : decode cX12_take 70 = .ok (.if_icmp .ge 36, 3) := by decide +kernel
theorem dX12_take_73 : decode cX12_take 73 = .ok (.aload_n 0, 1) := by decide +kernel
theorem dX12_take_74 : decode cX12_take 74 = .ok (.getfield 182, 3) := by decide +kernel
theorem dX12_take_77 : decode cX12_take 77 = .ok (.bipush 40, 2) := by decide +kernel
theorem dX12_take_79 : decode cX12_take 79 = .ok (.iload_n 1, 1) := by decide +kernel
theorem dX12_take_80 : decode cX12_take 80 = .ok (.imul, 1) := by decide +kernel
theorem dX12_take_81 : decode cX12_take 81 = .ok (.iload_n 3, 1) := by decide +kernel
theorem dX12_take_82 : decode cX12_take 82 = .ok (.iadd, 1) := by decide +kernel
theorem dX12_take_83 : decode cX12_take 83 = .ok (.laload, 1) := by decide +kernel
theorem dX12_take_84 : decode cX12_take 84 = .ok (.lconst 0, 1) := by decide +kernel
theorem dX12_take_85 : decode cX12_take 85 = .ok (.ldc2_w 252, 3) := by decide +kernel
theorem dX12_take_88 : decode cX12_take 88 = .ok (.invokestatic 190, 3) := by decide +kernel
theorem dX12_take_91 : decode cX12_take 91 = .ok (.ifCond .ne 9, 3) := by decide +kernel
theorem dX12_take_94 : decode cX12_take 94 = .ok (.aload_n 0, 1) := by decide +kernel
theorem dX12_take_95 : decode cX12_take 95 = .ok (.iconst 3, 1) := by decide +kernel
theorem dX12_take_96 : decode cX12_take 96 = .ok (.invokevirtual 226, 3) := by decide +kernel
theorem dX12_take_99 : decode cX12_take 99 = .ok (.ireturn, 1) := by decide +kernel
theorem dX12_take_100 : decode cX12_take 100 = .ok (.iinc 3 1, 3) := by decide +kernel
theorem dX12_take_103 : decode cX12_take 103 = .ok (.goto (-40), 3) := by decide +kernel
theorem dX12_take_106 : decode cX12_take 106 = .ok (.iconst 0, 1) := by decide +kernel
theorem dX12_take_107 : decode cX12_take 107 = .ok (.istore_n 3, 1) := by decide +kernel
theorem dX12_take_108 : decode cX12_take 108 = .ok (.iload_n 3, 1) := by decide +kernel
theorem dX12_take_109 : decode cX12_take 109 = .ok (.aload_n 0, 1) := by decide +kernel
theorem dX12_take_110 : decode cX12_take 110 = .ok (.getfield 179, 3) := by decide +kernel
theorem dX12_take_113 : decode cX12_take 113 = .ok (.iload_n 1, 1) := by decide +kernel
theorem dX12_take_114 : decode cX12_take 114 = .ok (.iaload, 1) := by decide +kernel
theorem dX12_take_115 : decode cX12_take 115 = .ok (.if_icmp .ge 27, 3) := by decide +kernel
theorem dX12_take_118 : decode cX12_take 118 = .ok (.aload_n 0, 1) := by decide +kernel
theorem dX12_take_119 : decode cX12_take 119 = .ok (.iload_n 2, 1) := by decide +kernel
theorem dX12_take_120 : decode cX12_take 120 = .ok (.iload_n 3, 1) := by decide +kernel
theorem dX12_take_121 : decode cX12_take 121 = .ok (.aload_n 0, 1) := by decide +kernel
theorem dX12_take_122 : decode cX12_take 122 = .ok (.getfield 182, 3) := by decide +kernel
theorem dX12_take_125 : decode cX12_take 125 = .ok (.bipush 40, 2) := by decide +kernel
theorem dX12_take_127 : decode cX12_take 127 = .ok (.iload_n 1, 1) := by decide +kernel
theorem dX12_take_128 : decode cX12_take 128 = .ok (.imul, 1) := by decide +kernel
theorem dX12_take_129 : decode cX12_take 129 = .ok (.iload_n 3, 1) := by decide +kernel
theorem dX12_take_130 : decode cX12_take 130 = .ok (.iadd, 1) := by decide +kernel
theorem dX12_take_131 : decode cX12_take 131 = .ok (.laload, 1) := by decide +kernel
theorem dX12_take_132 : decode cX12_take 132 = .ok (.l2i, 1) := by decide +kernel
theorem dX12_take_133 : decode cX12_take 133 = .ok (.invokevirtual 254, 3) := by decide +kernel
theorem dX12_take_136 : decode cX12_take 136 = .ok (.iinc 3 1, 3) := by decide +kernel
theorem dX12_take_139 : decode cX12_take 139 = .ok (.goto (-31), 3) := by decide +kernel
theorem dX12_take_142 : decode cX12_take 142 = .ok (.aload_n 0, 1) := by decide +kernel
theorem dX12_take_143 : decode cX12_take 143 = .ok (.getfield 179, 3) := by decide +kernel
theorem dX12_take_146 : decode cX12_take 146 = .ok (.iload_n 1, 1) := by decide +kernel
theorem dX12_take_147 : decode cX12_take 147 = .ok (.iaload, 1) := by decide +kernel
theorem dX12_take_148 : decode cX12_take 148 = .ok (.ireturn, 1) := by decide +kernel
theorem dX12_check_0 : decode cX12_check 0 = .ok (.aload_n 0, 1) := by decide +kernel
theorem dX12_check_1 : decode cX12_check 1 = .ok (.iconst 0, 1) := by decide +kernel
theorem dX12_check_2 : decode cX12_check 2 = .ok (.putfield 185, 3) := by decide +kernel
theorem dX12_check_5 : decode cX12_check 5 = .ok (.iload 4, 2) := by decide +kernel
theorem dX12_check_7 : decode cX12_check 7 = .ok (.invokestatic 616, 3) := by decide +kernel
theorem dX12_check_10 : decode cX12_check 10 = .ok (.ifCond .ne 9, 3) := by decide +kernel
theorem dX12_check_13 : decode cX12_check 13 = .ok (.aload_n 0, 1) := by decide +kernel
theorem dX12_check_14 : decode cX12_check 14 = .ok (.iconst 1, 1) := by decide +kernel
theorem dX12_check_15 : decode cX12_check 15 = .ok (.invokevirtual 226, 3) := by decide +kernel
theorem dX12_check_18 : decode cX12_check 18 = .ok (.ireturn, 1) := by decide +kernel
theorem dX12_check_19 : decode cX12_check 19 = .ok (.aload_n 0, 1) := by decide +kernel
theorem dX12_check_20 : decode cX12_check 20 = .ok (.lload_n 1, 1) := by decide +kernel
theorem dX12_check_21 : decode cX12_check 21 = .ok (.iconst 2, 1) := by decide +kernel
theorem dX12_check_22 : decode cX12_check 22 = .ok (.bipush 9, 2) := by decide +kernel
theorem dX12_check_24 : decode cX12_check 24 = .ok (.invokevirtual 382, 3) := by decide +kernel
theorem dX12_check_27 : decode cX12_check 27 = .ok (.ifCond .ne 9, 3) := by decide +kernel
theorem dX12_check_30 : decode cX12_check 30 = .ok (.aload_n 0, 1) := by decide +kernel
theorem dX12_check_31 : decode cX12_check 31 = .ok (.iconst 2, 1) := by decide +kernel
theorem dX12_check_32 : decode cX12_check 32 = .ok (.invokevirtual 226, 3) := by decide +kernel
theorem dX12_check_35 : decode cX12_check 35 = .ok (.ireturn, 1) := by decide +kernel
theorem dX12_check_36 : decode cX12_check 36 = .ok (.aload_n 0, 1) := by decide +kernel
theorem dX12_check_37 : decode cX12_check 37 = .ok (.getfield 176, 3) := by decide +kernel
theorem dX12_check_40 : decode cX12_check 40 = .ok (.iload 4, 2) := by decide +kernel
theorem dX12_check_42 : decode cX12_check 42 = .ok (.iaload, 1) := by decide +kernel
theorem dX12_check_43 : decode cX12_check 43 = .ok (.iconst (-1), 1) := by decide +kernel
theorem dX12_check_44 : decode cX12_check 44 = .ok (.if_icmp .ne 6, 3) := by decide +kernel
theorem dX12_check_47 : decode cX12_check 47 = .ok (.bipush (-2), 2) := by decide +kernel
theorem dX12_check_49 : decode cX12_check 49 = .ok (.ireturn, 1) := by decide +kernel
theorem dX12_check_50 : decode cX12_check 50 = .ok (.aload_n 0, 1) := by decide +kernel
theorem dX12_check_51 : decode cX12_check 51 = .ok (.iload_n 3, 1) := by decide +kernel
theorem dX12_check_52 : decode cX12_check 52 = .ok (.invokevirtual 349, 3) := by decide +kernel
theorem dX12_check_55 : decode cX12_check 55 = .ok (.iconst 0, 1) := by decide +kernel
theorem dX12_check_56 : decode cX12_check 56 = .ok (.istore 5, 2) := by decide +kernel
theorem dX12_check_58 : decode cX12_check 58 = .ok (.iconst 0, 1) := by decide +kernel
theorem dX12_check_59 : decode cX12_check 59 = .ok (.istore 6, 2) := by decide +kernel
theorem dX12_check_61 : decode cX12_check 61 = .ok (.iload 6, 2) := by decide +kernel
theorem dX12_check_63 : decode cX12_check 63 = .ok (.aload_n 0, 1) := by decide +kernel
theorem dX12_check_64 : decode cX12_check 64 = .ok (.getfield 356, 3) := by decide +kernel
theorem dX12_check_67 : decode cX12_check 67 = .ok (.if_icmp .ge 95, 3) := by decide +kernel
theorem dX12_check_70 : decode cX12_check 70 = .ok (.iload 6, 2) := by decide +kernel
theorem dX12_check_72 : decode cX12_check 72 = .ok (.iconst 1, 1) := by decide +kernel
theorem dX12_check_73 : decode cX12_check 73 = .ok (.iadd, 1) := by decide +kernel
theorem dX12_check_74 : decode cX12_check 74 = .ok (.istore 7, 2) := by decide +kernel
theorem dX12_check_76 : decode cX12_check 76 = .ok (.iload 7, 2) := by decide +kernel
theorem dX12_check_78 : decode cX12_check 78 = .ok (.aload_n 0, 1) := by decide +kernel
theorem dX12_check_79 : decode cX12_check 79 = .ok (.getfield 356, 3) := by decide +kernel
theorem dX12_check_82 : decode cX12_check 82 = .ok (.if_icmp .ge 74, 3) := by decide +kernel
theorem dX12_check_85 : decode cX12_check 85 = .ok (.iload 5, 2) := by decide +kernel
theorem dX12_check_87 : decode cX12_check 87 = .ok (.aload_n 0, 1) := by decide +kernel
theorem dX12_check_88 : decode cX12_check 88 = .ok (.getfield 179, 3) := by decide +kernel
theorem dX12_check_91 : decode cX12_check 91 = .ok (.iload 4, 2) := by decide +kernel
theorem dX12_check_93 : decode cX12_check 93 = .ok (.iaload, 1) := by decide +kernel
theorem dX12_check_94 : decode cX12_check 94 = .ok (.if_icmp .lt 14, 3) := by decide +kernel
theorem dX12_check_97 : decode cX12_check 97 = .ok (.bipush (-3), 2) := by decide +kernel
theorem dX12_check_99 : decode cX12_check 99 = .ok (.aload_n 0, 1) := by decide +kernel
theorem dX12_check_100 : decode cX12_check 100 = .ok (.getfield 179, 3) := by decide +kernel
theorem dX12_check_103 : decode cX12_check 103 = .ok (.iload 4, 2) := by decide +kernel
theorem dX12_check_105 : decode cX12_check 105 = .ok (.iaload, 1) := by decide +kernel
theorem dX12_check_106 : decode cX12_check 106 = .ok (.isub, 1) := by decide +kernel
theorem dX12_check_107 : decode cX12_check 107 = .ok (.ireturn, 1) := by decide +kernel
theorem dX12_check_108 : decode cX12_check 108 = .ok (.aload_n 0, 1) := by decide +kernel
theorem dX12_check_109 : decode cX12_check 109 = .ok (.getfield 182, 3) := by decide +kernel
theorem dX12_check_112 : decode cX12_check 112 = .ok (.bipush 40, 2) := by decide +kernel
theorem dX12_check_114 : decode cX12_check 114 = .ok (.iload 4, 2) := by decide +kernel
theorem dX12_check_116 : decode cX12_check 116 = .ok (.imul, 1) := by decide +kernel
theorem dX12_check_117 : decode cX12_check 117 = .ok (.iload 5, 2) := by decide +kernel
theorem dX12_check_119 : decode cX12_check 119 = .ok (.iadd, 1) := by decide +kernel
theorem dX12_check_120 : decode cX12_check 120 = .ok (.laload, 1) := by decide +kernel
theorem dX12_check_121 : decode cX12_check 121 = .ok (.aload_n 0, 1) := by decide +kernel
theorem dX12_check_122 : decode cX12_check 122 = .ok (.aload_n 0, 1) := by decide +kernel
theorem dX12_check_123 : decode cX12_check 123 = .ok (.getfield 103, 3) := by decide +kernel
theorem dX12_check_126 : decode cX12_check 126 = .ok (.iload 6, 2) := by decide +kernel
theorem dX12_check_128 : decode cX12_check 128 = .ok (.iaload, 1) := by decide +kernel
theorem dX12_check_129 : decode cX12_check 129 = .ok (.aload_n 0, 1) := by decide +kernel
theorem dX12_check_130 : decode cX12_check 130 = .ok (.getfield 103, 3) := by decide +kernel
theorem dX12_check_133 : decode cX12_check 133 = .ok (.iload 7, 2) := by decide +kernel
theorem dX12_check_135 : decode cX12_check 135 = .ok (.iaload, 1) := by decide +kernel
theorem dX12_check_136 : decode cX12_check 136 = .ok (.invokevirtual 354, 3) := by decide +kernel
theorem dX12_check_139 : decode cX12_check 139 = .ok (.i2l, 1) := by decide +kernel
theorem dX12_check_140 : decode cX12_check 140 = .ok (.lcmp, 1) := by decide +kernel
theorem dX12_check_141 : decode cX12_check 141 = .ok (.ifCond .eq 6, 3) := by decide +kernel
theorem dX12_check_144 : decode cX12_check 144 = .ok (.iload 5, 2) := by decide +kernel
theorem dX12_check_146 : decode cX12_check 146 = .ok (.ireturn, 1) := by decide +kernel
theorem dX12_check_147 : decode cX12_check 147 = .ok (.iinc 5 1, 3) := by decide +kernel
theorem dX12_check_150 : decode cX12_check 150 = .ok (.iinc 7 1, 3) := by decide +kernel
theorem dX12_check_153 : decode cX12_check 153 = .ok (.goto (-77), 3) := by decide +kernel
theorem dX12_check_156 : decode cX12_check 156 = .ok (.iinc 6 1, 3) := by decide +kernel
theorem dX12_check_159 : decode cX12_check 159 = .ok (.goto (-98), 3) := by decide +kernel
theorem dX12_check_162 : decode cX12_check 162 = .ok (.iconst (-1), 1) := by decide +kernel
theorem dX12_check_163 : decode cX12_check 163 = .ok (.ireturn, 1) := by decide +kernel
theorem dX12_number_0 : decode cX12_number 0 = .ok (.aload_n 0, 1) := by decide +kernel
theorem dX12_number_1 : decode cX12_number 1 = .ok (.iconst 0, 1) := by decide +kernel
theorem dX12_number_2 : decode cX12_number 2 = .ok (.putfield 185, 3) := by decide +kernel
theorem dX12_number_5 : decode cX12_number 5 = .ok (.iconst 0, 1) := by decide +kernel
theorem dX12_number_6 : decode cX12_number 6 = .ok (.istore_n 2, 1) := by decide +kernel
theorem dX12_number_7 : decode cX12_number 7 = .ok (.iload_n 1, 1) := by decide +kernel
theorem dX12_number_8 : decode cX12_number 8 = .ok (.tableswitch 244 0 12 #[68, 73, 78, 83, 88, 93, 98, 132, 137, 142, 147, 152, 152], 68) := by decide +kernel
theorem dX12_number_76 : decode cX12_number 76 = .ok (.aload_n 0, 1) := by decide +kernel
theorem dX12_number_77 : decode cX12_number 77 = .ok (.getfield 240, 3) := by decide +kernel
theorem dX12_number_80 : decode cX12_number 80 = .ok (.ireturn, 1) := by decide +kernel
theorem dX12_number_81 : decode cX12_number 81 = .ok (.aload_n 0, 1) := by decide +kernel
theorem dX12_number_82 : decode cX12_number 82 = .ok (.getfield 194, 3) := by decide +kernel
theorem dX12_number_85 : decode cX12_number 85 = .ok (.ireturn, 1) := by decide +kernel
theorem dX12_number_86 : decode cX12_number 86 = .ok (.aload_n 0, 1) := by decide +kernel
theorem dX12_number_87 : decode cX12_number 87 = .ok (.getfield 197, 3) := by decide +kernel
theorem dX12_number_90 : decode cX12_number 90 = .ok (.ireturn, 1) := by decide +kernel
theorem dX12_number_91 : decode cX12_number 91 = .ok (.aload_n 0, 1) := by decide +kernel
theorem dX12_number_92 : decode cX12_number 92 = .ok (.getfield 200, 3) := by decide +kernel
theorem dX12_number_95 : decode cX12_number 95 = .ok (.ireturn, 1) := by decide +kernel
theorem dX12_number_96 : decode cX12_number 96 = .ok (.aload_n 0, 1) := by decide +kernel
theorem dX12_number_97 : decode cX12_number 97 = .ok (.getfield 234, 3) := by decide +kernel
theorem dX12_number_100 : decode cX12_number 100 = .ok (.ireturn, 1) := by decide +kernel
theorem dX12_number_101 : decode cX12_number 101 = .ok (.aload_n 0, 1) := by decide +kernel
theorem dX12_number_102 : decode cX12_number 102 = .ok (.getfield 203, 3) := by decide +kernel
theorem dX12_number_105 : decode cX12_number 105 = .ok (.ireturn, 1) := by decide +kernel
theorem dX12_number_106 : decode cX12_number 106 = .ok (.iconst 0, 1) := by decide +kernel
theorem dX12_number_107 : decode cX12_number 107 = .ok (.istore_n 3, 1) := by decide +kernel
theorem dX12_number_108 : decode cX12_number 108 = .ok (.iload_n 3, 1) := by decide +kernel
theorem dX12_number_109 : decode cX12_number 109 = .ok (.aload_n 0, 1) := by decide +kernel
theorem dX12_number_110 : decode cX12_number 110 = .ok (.getfield 203, 3) := by decide +kernel
theorem dX12_number_113 : decode cX12_number 113 = .ok (.if_icmp .ge 25, 3) := by decide +kernel
theorem dX12_number_116 : decode cX12_number 116 = .ok (.iload_n 2, 1) := by decide +kernel
theorem dX12_number_117 : decode cX12_number 117 = .ok (.aload_n 0, 1) := by decide +kernel
theorem dX12_number_118 : decode cX12_number 118 = .ok (.iload_n 3, 1) := by decide +kernel
theorem dX12_number_119 : decode cX12_number 119 = .ok (.invokevirtual 210, 3) := by decide +kernel
theorem dX12_number_122 : decode cX12_number 122 = .ok (.ifCond .eq 7, 3) := by decide +kernel
theorem dX12_number_125 : decode cX12_number 125 = .ok (.iconst 1, 1) := by decide +kernel
theorem dX12_number_126 : decode cX12_number 126 = .ok (.goto 4, 3) := by decide +kernel
theorem dX12_number_129 : decode cX12_number 129 = .ok (.iconst 0, 1) := by decide +kernel
theorem dX12_number_130 : decode cX12_number 130 = .ok (.iadd, 1) := by decide +kernel
theorem dX12_number_131 : decode cX12_number 131 = .ok (.istore_n 2, 1) := by decide +kernel
theorem dX12_number_132 : decode cX12_number 132 = .ok (.iinc 3 1, 3) := by decide +kernel
theorem dX12_number_135 : decode cX12_number 135 = .ok (.goto (-27), 3) := by decide +kernel
theorem dX12_number_138 : decode cX12_number 138 = .ok (.iload_n 2, 1) := by decide +kernel
theorem dX12_number_139 : decode cX12_number 139 = .ok (.ireturn, 1) := by decide +kernel
theorem dX12_number_140 : decode cX12_number 140 = .ok (.aload_n 0, 1) := by decide +kernel
theorem dX12_number_141 : decode cX12_number 141 = .ok (.getfield 243, 3) := by decide +kernel
theorem dX12_number_144 : decode cX12_number 144 = .ok (.ireturn, 1) := by decide +kernel
theorem dX12_number_145 : decode cX12_number 145 = .ok (.aload_n 0, 1) := by decide +kernel
theorem dX12_number_146 : decode cX12_number 146 = .ok (.getfield 441, 3) := by decide +kernel
theorem dX12_number_149 : decode cX12_number 149 = .ok (.ireturn, 1) := by decide +kernel
theorem dX12_number_150 : decode cX12_number 150 = .ok (.aload_n 0, 1) := by decide +kernel
theorem dX12_number_151 : decode cX12_number 151 = .ok (.getfield 591, 3) := by decide +kernel
theorem dX12_number_154 : decode cX12_number 154 = .ok (.ireturn, 1) := by decide +kernel
theorem dX12_number_155 : decode cX12_number 155 = .ok (.aload_n 0, 1) := by decide +kernel
theorem dX12_number_156 : decode cX12_number 156 = .ok (.getfield 463, 3) := by decide +kernel
theorem dX12_number_159 : decode cX12_number 159 = .ok (.ireturn, 1) := by decide +kernel
theorem dX12_number_160 : decode cX12_number 160 = .ok (.iconst 0, 1) := by decide +kernel
theorem dX12_number_161 : decode cX12_number 161 = .ok (.istore_n 3, 1) := by decide +kernel
theorem dX12_number_162 : decode cX12_number 162 = .ok (.iload_n 3, 1) := by decide +kernel
theorem dX12_number_163 : decode cX12_number 163 = .ok (.aload_n 0, 1) := by decide +kernel
theorem dX12_number_164 : decode cX12_number 164 = .ok (.getfield 203, 3) := by decide +kernel
theorem dX12_number_167 : decode cX12_number 167 = .ok (.if_icmp .ge 83, 3) := by decide +kernel
theorem dX12_number_170 : decode cX12_number 170 = .ok (.iload_n 3, 1) := by decide +kernel
theorem dX12_number_171 : decode cX12_number 171 = .ok (.iconst 1, 1) := by decide +kernel
theorem dX12_number_172 : decode cX12_number 172 = .ok (.iadd, 1) := by decide +kernel
theorem dX12_number_173 : decode cX12_number 173 = .ok (.istore 4, 2) := by decide +kernel
theorem dX12_number_175 : decode cX12_number 175 = .ok (.iload 4, 2) := by decide +kernel
theorem dX12_number_177 : decode cX12_number 177 = .ok (.aload_n 0, 1) := by decide +kernel
theorem dX12_number_178 : decode cX12_number 178 = .ok (.getfield 203, 3) := by decide +kernel
theorem dX12_number_181 : decode cX12_number 181 = .ok (.if_icmp .ge 63, 3) := by decide +kernel
theorem dX12_number_184 : decode cX12_number 184 = .ok (.aload_n 0, 1) := by decide +kernel
theorem dX12_number_185 : decode cX12_number 185 = .ok (.iload_n 3, 1) := by decide +kernel
theorem dX12_number_186 : decode cX12_number 186 = .ok (.invokevirtual 305, 3) := by decide +kernel
theorem dX12_number_189 : decode cX12_number 189 = .ok (.ifCond .eq 49, 3) := by decide +kernel
theorem dX12_number_192 : decode cX12_number 192 = .ok (.aload_n 0, 1) := by decide +kernel
theorem dX12_number_193 : decode cX12_number 193 = .ok (.iload 4, 2) := by decide +kernel
theorem dX12_number_195 : decode cX12_number 195 = .ok (.invokevirtual 305, 3) := by decide +kernel
theorem dX12_number_198 : decode cX12_number 198 = .ok (.ifCond .eq 40, 3) := by decide +kernel
theorem dX12_number_201 : decode cX12_number 201 = .ok (.iload_n 2, 1) := by decide +kernel
theorem dX12_number_202 : decode cX12_number 202 = .ok (.iload_n 1, 1) := by decide +kernel
theorem dX12_number_203 : decode cX12_number 203 = .ok (.bipush 11, 2) := by decide +kernel
theorem dX12_number_205 : decode cX12_number 205 = .ok (.if_icmp .ne 16, 3) := by decide +kernel
theorem dX12_number_208 : decode cX12_number 208 = .ok (.aload_n 0, 1) := by decide +kernel
theorem dX12_number_209 : decode cX12_number 209 = .ok (.iload_n 3, 1) := by decide +kernel
theorem dX12_number_210 : decode cX12_number 210 = .ok (.iload 4, 2) := by decide +kernel
theorem dX12_number_212 : decode cX12_number 212 = .ok (.invokevirtual 271, 3) := by decide +kernel
theorem dX12_number_215 : decode cX12_number 215 = .ok (.ifCond .eq 20, 3) := by decide +kernel
theorem dX12_number_218 : decode cX12_number 218 = .ok (.goto 13, 3) := by decide +kernel
theorem dX12_number_221 : decode cX12_number 221 = .ok (.aload_n 0, 1) := by decide +kernel
theorem dX12_number_222 : decode cX12_number 222 = .ok (.iload_n 3, 1) := by decide +kernel
theorem dX12_number_223 : decode cX12_number 223 = .ok (.iload 4, 2) := by decide +kernel
theorem dX12_number_225 : decode cX12_number 225 = .ok (.invokevirtual 281, 3) := by decide +kernel
theorem dX12_number_228 : decode cX12_number 228 = .ok (.ifCond .eq 7, 3) := by decide +kernel
theorem dX12_number_231 : decode cX12_number 231 = .ok (.iconst 1, 1) := by decide +kernel
theorem dX12_number_232 : decode cX12_number 232 = .ok (.goto 4, 3) := by decide +kernel
theorem dX12_number_235 : decode cX12_number 235 = .ok (.iconst 0, 1) := by decide +kernel
theorem dX12_number_236 : decode cX12_number 236 = .ok (.iadd, 1) := by decide +kernel
theorem dX12_number_237 : decode cX12_number 237 = .ok (.istore_n 2, 1) := by decide +kernel
theorem dX12_number_238 : decode cX12_number 238 = .ok (.iinc 4 1, 3) := by decide +kernel
theorem dX12_number_241 : decode cX12_number 241 = .ok (.goto (-66), 3) := by decide +kernel
theorem dX12_number_244 : decode cX12_number 244 = .ok (.iinc 3 1, 3) := by decide +kernel
theorem dX12_number_247 : decode cX12_number 247 = .ok (.goto (-85), 3) := by decide +kernel
theorem dX12_number_250 : decode cX12_number 250 = .ok (.iload_n 2, 1) := by decide +kernel
theorem dX12_number_251 : decode cX12_number 251 = .ok (.ireturn, 1) := by decide +kernel
theorem dX12_number_252 : decode cX12_number 252 = .ok (.iconst (-1), 1) := by decide +kernel
theorem dX12_number_253 : decode cX12_number 253 = .ok (.ireturn, 1) := by decide +kernel
theorem dJ13_bitCount_95d88_0 : decode cJ13_bitCount_95d88 0 = .ok (.lload_n 0, 1) := by decide +kernel
theorem dJ13_bitCount_95d88_1 : decode cJ13_bitCount_95d88 1 = .ok (.lload_n 0, 1) := by decide +kernel
theorem dJ13_bitCount_95d88_2 : decode cJ13_bitCount_95d88 2 = .ok (.iconst 1, 1) := by decide +kernel
theorem dJ13_bitCount_95d88_3 : decode cJ13_bitCount_95d88 3 = .ok (.lushr, 1) := by decide +kernel
theorem dJ13_bitCount_95d88_4 : decode cJ13_bitCount_95d88 4 = .ok (.ldc2_w 314, 3) := by decide +kernel
theorem dJ13_bitCount_95d88_7 : decode cJ13_bitCount_95d88 7 = .ok (.land, 1) := by decide +kernel
theorem dJ13_bitCount_95d88_8 : decode cJ13_bitCount_95d88 8 = .ok (.lsub, 1) := by decide +kernel
theorem dJ13_bitCount_95d88_9 : decode cJ13_bitCount_95d88 9 = .ok (.lstore_n 0, 1) := by decide +kernel
theorem dJ13_bitCount_95d88_10 : decode cJ13_bitCount_95d88 10 = .ok (.lload_n 0, 1) := by decide +kernel
theorem dJ13_bitCount_95d88_11 : decode cJ13_bitCount_95d88 11 = .ok (.ldc2_w 316, 3) := by decide +kernel
theorem dJ13_bitCount_95d88_14 : decode cJ13_bitCount_95d88 14 = .ok (.land, 1) := by decide +kernel
theorem dJ13_bitCount_95d88_15 : decode cJ13_bitCount_95d88 15 = .ok (.lload_n 0, 1) := by decide +kernel
theorem dJ13_bitCount_95d88_16 : decode cJ13_bitCount_95d88 16 = .ok (.iconst 2, 1) := by decide +kernel
theorem dJ13_bitCount_95d88_17 : decode cJ13_bitCount_95d88 17 = .ok (.lushr, 1) := by decide +kernel
theorem dJ13_bitCount_95d88_18 : decode cJ13_bitCount_95d88 18 = .ok (.ldc2_w 316, 3) := by decide +kernel
theorem dJ13_bitCount_95d88_21 : decode cJ13_bitCount_95d88 21 = .ok (.land, 1) := by decide +kernel
theorem dJ13_bitCount_95d88_22 : decode cJ13_bitCount_95d88 22 = .ok (.ladd, 1) := by decide +kernel
theorem dJ13_bitCount_95d88_23 : decode cJ13_bitCount_95d88 23 = .ok (.lstore_n 0, 1) := by decide +kernel
theorem dJ13_bitCount_95d88_24 : decode cJ13_bitCount_95d88 24 = .ok (.lload_n 0, 1) := by decide +kernel
theorem dJ13_bitCount_95d88_25 : decode cJ13_bitCount_95d88 25 = .ok (.lload_n 0, 1) := by decide +kernel
theorem dJ13_bitCount_95d88_26 : decode cJ13_bitCount_95d88 26 = .ok (.iconst 4, 1) := by decide +kernel
theorem dJ13_bitCount_95d88_27 : decode cJ13_bitCount_95d88 27 = .ok (.lushr, 1) := by decide +kernel
theorem dJ13_bitCount_95d88_28 : decode cJ13_bitCount_95d88 28 = .ok (.ladd, 1) := by decide +kernel
theorem dJ13_bitCount_95d88_29 : decode cJ13_bitCount_95d88 29 = .ok (.ldc2_w 318, 3) := by decide +kernel
theorem dJ13_bitCount_95d88_32 : decode cJ13_bitCount_95d88 32 = .ok (.land, 1) := by decide +kernel
theorem dJ13_bitCount_95d88_33 : decode cJ13_bitCount_95d88 33 = .ok (.lstore_n 0, 1) := by decide +kernel
theorem dJ13_bitCount_95d88_34 : decode cJ13_bitCount_95d88 34 = .ok (.lload_n 0, 1) := by decide +kernel
theorem dJ13_bitCount_95d88_35 : decode cJ13_bitCount_95d88 35 = .ok (.lload_n 0, 1) := by decide +kernel
theorem dJ13_bitCount_95d88_36 : decode cJ13_bitCount_95d88 36 = .ok (.bipush 8, 2) := by decide +kernel
theorem dJ13_bitCount_95d88_38 : decode cJ13_bitCount_95d88 38 = .ok (.lushr, 1) := by decide +kernel
theorem dJ13_bitCount_95d88_39 : decode cJ13_bitCount_95d88 39 = .ok (.ladd, 1) := by decide +kernel
theorem dJ13_bitCount_95d88_40 : decode cJ13_bitCount_95d88 40 = .ok (.lstore_n 0, 1) := by decide +kernel
theorem dJ13_bitCount_95d88_41 : decode cJ13_bitCount_95d88 41 = .ok (.lload_n 0, 1) := by decide +kernel
theorem dJ13_bitCount_95d88_42 : decode cJ13_bitCount_95d88 42 = .ok (.lload_n 0, 1) := by decide +kernel
theorem dJ13_bitCount_95d88_43 : decode cJ13_bitCount_95d88 43 = .ok (.bipush 16, 2) := by decide +kernel
theorem dJ13_bitCount_95d88_45 : decode cJ13_bitCount_95d88 45 = .ok (.lushr, 1) := by decide +kernel
theorem dJ13_bitCount_95d88_46 : decode cJ13_bitCount_95d88 46 = .ok (.ladd, 1) := by decide +kernel
theorem dJ13_bitCount_95d88_47 : decode cJ13_bitCount_95d88 47 = .ok (.lstore_n 0, 1) := by decide +kernel
theorem dJ13_bitCount_95d88_48 : decode cJ13_bitCount_95d88 48 = .ok (.lload_n 0, 1) := by decide +kernel
theorem dJ13_bitCount_95d88_49 : decode cJ13_bitCount_95d88 49 = .ok (.lload_n 0, 1) := by decide +kernel
theorem dJ13_bitCount_95d88_50 : decode cJ13_bitCount_95d88 50 = .ok (.bipush 32, 2) := by decide +kernel
theorem dJ13_bitCount_95d88_52 : decode cJ13_bitCount_95d88 52 = .ok (.lushr, 1) := by decide +kernel
theorem dJ13_bitCount_95d88_53 : decode cJ13_bitCount_95d88 53 = .ok (.ladd, 1) := by decide +kernel
theorem dJ13_bitCount_95d88_54 : decode cJ13_bitCount_95d88 54 = .ok (.lstore_n 0, 1) := by decide +kernel
theorem dJ13_bitCount_95d88_55 : decode cJ13_bitCount_95d88 55 = .ok (.lload_n 0, 1) := by decide +kernel
theorem dJ13_bitCount_95d88_56 : decode cJ13_bitCount_95d88 56 = .ok (.l2i, 1) := by decide +kernel
theorem dJ13_bitCount_95d88_57 : decode cJ13_bitCount_95d88 57 = .ok (.bipush 127, 2) := by decide +kernel
theorem dJ13_bitCount_95d88_59 : decode cJ13_bitCount_95d88 59 = .ok (.iand, 1) := by decide +kernel
theorem dJ13_bitCount_95d88_60 : decode cJ13_bitCount_95d88 60 = .ok (.ireturn, 1) := by decide +kernel
theorem dJ9_abs_0f7a4_0 : decode cJ9_abs_0f7a4 0 = .ok (.iload_n 0, 1) := by decide +kernel
theorem dJ9_abs_0f7a4_1 : decode cJ9_abs_0f7a4 1 = .ok (.ifCond .ge 8, 3) := by decide +kernel
theorem dJ9_abs_0f7a4_4 : decode cJ9_abs_0f7a4 4 = .ok (.iload_n 0, 1) := by decide +kernel
theorem dJ9_abs_0f7a4_5 : decode cJ9_abs_0f7a4 5 = .ok (.ineg, 1) := by decide +kernel
theorem dJ9_abs_0f7a4_6 : decode cJ9_abs_0f7a4 6 = .ok (.goto 4, 3) := by decide +kernel
theorem dJ9_abs_0f7a4_9 : decode cJ9_abs_0f7a4 9 = .ok (.iload_n 0, 1) := by decide +kernel
theorem dJ9_abs_0f7a4_10 : decode cJ9_abs_0f7a4 10 = .ok (.ireturn, 1) := by decide +kernel
theorem dJ9_max_7cf53_0 : decode cJ9_max_7cf53 0 = .ok (.iload_n 0, 1) := by decide +kernel
theorem dJ9_max_7cf53_1 : decode cJ9_max_7cf53 1 = .ok (.iload_n 1, 1) := by decide +kernel
theorem dJ9_max_7cf53_2 : decode cJ9_max_7cf53 2 = .ok (.if_icmp .lt 7, 3) := by decide +kernel
theorem dJ9_max_7cf53_5 : decode cJ9_max_7cf53 5 = .ok (.iload_n 0, 1) := by decide +kernel
theorem dJ9_max_7cf53_6 : decode cJ9_max_7cf53 6 = .ok (.goto 4, 3) := by decide +kernel
theorem dJ9_max_7cf53_9 : decode cJ9_max_7cf53 9 = .ok (.iload_n 1, 1) := by decide +kernel
theorem dJ9_max_7cf53_10 : decode cJ9_max_7cf53 10 = .ok (.ireturn, 1) := by decide +kernel
theorem dJ9_max_f86c9_0 : decode cJ9_max_f86c9 0 = .ok (.lload_n 0, 1) := by decide +kernel
theorem dJ9_max_f86c9_1 : decode cJ9_max_f86c9 1 = .ok (.lload_n 2, 1) := by decide +kernel
theorem dJ9_max_f86c9_2 : decode cJ9_max_f86c9 2 = .ok (.lcmp, 1) := by decide +kernel
theorem dJ9_max_f86c9_3 : decode cJ9_max_f86c9 3 = .ok (.ifCond .lt 7, 3) := by decide +kernel
theorem dJ9_max_f86c9_6 : decode cJ9_max_f86c9 6 = .ok (.lload_n 0, 1) := by decide +kernel
theorem dJ9_max_f86c9_7 : decode cJ9_max_f86c9 7 = .ok (.goto 4, 3) := by decide +kernel
theorem dJ9_max_f86c9_10 : decode cJ9_max_f86c9 10 = .ok (.lload_n 2, 1) := by decide +kernel
theorem dJ9_max_f86c9_11 : decode cJ9_max_f86c9 11 = .ok (.lreturn, 1) := by decide +kernel
theorem dJ9_min_7cf53_0 : decode cJ9_min_7cf53 0 = .ok (.iload_n 0, 1) := by decide +kernel
theorem dJ9_min_7cf53_1 : decode cJ9_min_7cf53 1 = .ok (.iload_n 1, 1) := by decide +kernel
theorem dJ9_min_7cf53_2 : decode cJ9_min_7cf53 2 = .ok (.if_icmp .gt 7, 3) := by decide +kernel
theorem dJ9_min_7cf53_5 : decode cJ9_min_7cf53 5 = .ok (.iload_n 0, 1) := by decide +kernel
theorem dJ9_min_7cf53_6 : decode cJ9_min_7cf53 6 = .ok (.goto 4, 3) := by decide +kernel
theorem dJ9_min_7cf53_9 : decode cJ9_min_7cf53 9 = .ok (.iload_n 1, 1) := by decide +kernel
theorem dJ9_min_7cf53_10 : decode cJ9_min_7cf53 10 = .ok (.ireturn, 1) := by decide +kernel
theorem dJ9_min_f86c9_0 : decode cJ9_min_f86c9 0 = .ok (.lload_n 0, 1) := by decide +kernel
theorem dJ9_min_f86c9_1 : decode cJ9_min_f86c9 1 = .ok (.lload_n 2, 1) := by decide +kernel
theorem dJ9_min_f86c9_2 : decode cJ9_min_f86c9 2 = .ok (.lcmp, 1) := by decide +kernel
theorem dJ9_min_f86c9_3 : decode cJ9_min_f86c9 3 = .ok (.ifCond .gt 7, 3) := by decide +kernel
theorem dJ9_min_f86c9_6 : decode cJ9_min_f86c9 6 = .ok (.lload_n 0, 1) := by decide +kernel
theorem dJ9_min_f86c9_7 : decode cJ9_min_f86c9 7 = .ok (.goto 4, 3) := by decide +kernel
theorem dJ9_min_f86c9_10 : decode cJ9_min_f86c9 10 = .ok (.lload_n 2, 1) := by decide +kernel
theorem dJ9_min_f86c9_11 : decode cJ9_min_f86c9 11 = .ok (.lreturn, 1) := by decide +kernel
theorem dJ0_length_8abf5_0 : decode cJ0_length_8abf5 0 = .ok (.aload_n 0, 1) := by decide +kernel
theorem dJ0_length_8abf5_1 : decode cJ0_length_8abf5 1 = .ok (.getfield 9, 3) := by decide +kernel
theorem dJ0_length_8abf5_4 : decode cJ0_length_8abf5 4 = .ok (.arraylength, 1) := by decide +kernel
theorem dJ0_length_8abf5_5 : decode cJ0_length_8abf5 5 = .ok (.aload_n 0, 1) := by decide +kernel
theorem dJ0_length_8abf5_6 : decode cJ0_length_8abf5 6 = .ok (.invokevirtual 335, 3) := by decide +kernel
theorem dJ0_length_8abf5_9 : decode cJ0_length_8abf5 9 = .ok (.ishr, 1) := by decide +kernel
theorem dJ0_length_8abf5_10 : decode cJ0_length_8abf5 10 = .ok (.ireturn, 1) := by decide +kernel
theorem dJ0_charAt_5068e_0 : decode cJ0_charAt_5068e 0 = .ok (.aload_n 0, 1) := by decide +kernel
theorem dJ0_charAt_5068e_1 : decode cJ0_charAt_5068e 1 = .ok (.invokevirtual 492, 3) := by decide +kernel
theorem dJ0_charAt_5068e_4 : decode cJ0_charAt_5068e 4 = .ok (.ifCond .eq 12, 3) := by decide +kernel
theorem dJ0_charAt_5068e_7 : decode cJ0_charAt_5068e 7 = .ok (.aload_n 0, 1) := by decide +kernel
theorem dJ0_charAt_5068e_8 : decode cJ0_charAt_5068e 8 = .ok (.getfield 9, 3) := by decide +kernel
theorem dJ0_charAt_5068e_11 : decode cJ0_charAt_5068e 11 = .ok (.iload_n 1, 1) := by decide +kernel
theorem dJ0_charAt_5068e_12 : decode cJ0_charAt_5068e 12 = .ok (.invokestatic 495, 3) := by decide +kernel
theorem dJ0_charAt_5068e_15 : decode cJ0_charAt_5068e 15 = .ok (.ireturn, 1) := by decide +kernel
theorem dJ0_charAt_5068e_16 : decode cJ0_charAt_5068e 16 = .ok (.aload_n 0, 1) := by decide +kernel
theorem dJ0_charAt_5068e_17 : decode cJ0_charAt_5068e 17 = .ok (.getfield 9, 3) := by decide +kernel
theorem dJ0_charAt_5068e_20 : decode cJ0_charAt_5068e 20 = .ok (.iload_n 1, 1) := by decide +kernel
theorem dJ0_charAt_5068e_21 : decode cJ0_charAt_5068e 21 = .ok (.invokestatic 498, 3) := by decide +kernel
theorem dJ0_charAt_5068e_24 : decode cJ0_charAt_5068e 24 = .ok (.ireturn, 1) := by decide +kernel
theorem dJ0_coder_7d493_0 : decode cJ0_coder_7d493 0 = .ok (.getstatic 38, 3) := by decide +kernel
theorem dJ0_coder_7d493_3 : decode cJ0_coder_7d493 3 = .ok (.ifCond .eq 10, 3) := by decide +kernel
theorem dJ0_coder_7d493_6 : decode cJ0_coder_7d493 6 = .ok (.aload_n 0, 1) := by decide +kernel
theorem dJ0_coder_7d493_7 : decode cJ0_coder_7d493 7 = .ok (.getfield 15, 3) := by decide +kernel
theorem dJ0_coder_7d493_10 : decode cJ0_coder_7d493 10 = .ok (.goto 4, 3) := by decide +kernel
theorem dJ0_coder_7d493_13 : decode cJ0_coder_7d493 13 = .ok (.iconst 1, 1) := by decide +kernel
theorem dJ0_coder_7d493_14 : decode cJ0_coder_7d493 14 = .ok (.ireturn, 1) := by decide +kernel
theorem dJ0_isLatin1_aae02_0 : decode cJ0_isLatin1_aae02 0 = .ok (.getstatic 38, 3) := by decide +kernel
theorem dJ0_isLatin1_aae02_3 : decode cJ0_isLatin1_aae02 3 = .ok (.ifCond .eq 14, 3) := by decide +kernel
theorem dJ0_isLatin1_aae02_6 : decode cJ0_isLatin1_aae02 6 = .ok (.aload_n 0, 1) := by decide +kernel
theorem dJ0_isLatin1_aae02_7 : decode cJ0_isLatin1_aae02 7 = .ok (.getfield 15, 3) := by decide +kernel
theorem dJ0_isLatin1_aae02_10 : decode cJ0_isLatin1_aae02 10 = .ok (.ifCond .ne 7, 3) := by decide +kernel
theorem dJ0_isLatin1_aae02_13 : decode cJ0_isLatin1_aae02 13 = .ok (.iconst 1, 1) := by decide +kernel
theorem dJ0_isLatin1_aae02_14 : decode cJ0_isLatin1_aae02 14 = .ok (.goto 4, 3) := by decide +kernel
theorem dJ0_isLatin1_aae02_17 : decode cJ0_isLatin1_aae02 17 = .ok (.iconst 0, 1) := by decide +kernel
theorem dJ0_isLatin1_aae02_18 : decode cJ0_isLatin1_aae02 18 = .ok (.ireturn, 1) := by decide +kernel
theorem dJ0_checkIndex_df160_0 : decode cJ0_checkIndex_df160 0 = .ok (.iload_n 0, 1) := by decide +kernel
theorem dJ0_checkIndex_df160_1 : decode cJ0_checkIndex_df160 1 = .ok (.iload_n 1, 1) := by decide +kernel
theorem dJ0_checkIndex_df160_2 : decode cJ0_checkIndex_df160 2 = .ok (.getstatic 1053, 3) := by decide +kernel
theorem dJ0_checkIndex_df160_5 : decode cJ0_checkIndex_df160 5 = .ok (.invokestatic 1059, 3) := by decide +kernel
theorem dJ0_checkIndex_df160_8 : decode cJ0_checkIndex_df160 8 = .ok (.pop, 1) := by decide +kernel
theorem dJ0_checkIndex_df160_9 : decode cJ0_checkIndex_df160 9 = .ok (.return_, 1) := by decide +kernel
theorem dJ1_charAt_3b067_0 : decode cJ1_charAt_3b067 0 = .ok (.iload_n 1, 1) := by decide +kernel
theorem dJ1_charAt_3b067_1 : decode cJ1_charAt_3b067 1 = .ok (.aload_n 0, 1) := by decide +kernel
theorem dJ1_charAt_3b067_2 : decode cJ1_charAt_3b067 2 = .ok (.arraylength, 1) := by decide +kernel
theorem dJ1_charAt_3b067_3 : decode cJ1_charAt_3b067 3 = .ok (.invokestatic 9, 3) := by decide +kernel
theorem dJ1_charAt_3b067_6 : decode cJ1_charAt_3b067 6 = .ok (.aload_n 0, 1) := by decide +kernel
theorem dJ1_charAt_3b067_7 : decode cJ1_charAt_3b067 7 = .ok (.iload_n 1, 1) := by decide +kernel
theorem dJ1_charAt_3b067_8 : decode cJ1_charAt_3b067 8 = .ok (.baload, 1) := by decide +kernel
theorem dJ1_charAt_3b067_9 : decode cJ1_charAt_3b067 9 = .ok (.sipush 255, 3) := by decide +kernel
theorem dJ1_charAt_3b067_12 : decode cJ1_charAt_3b067 12 = .ok (.iand, 1) := by decide +kernel
theorem dJ1_charAt_3b067_13 : decode cJ1_charAt_3b067 13 = .ok (.i2c, 1) := by decide +kernel
theorem dJ1_charAt_3b067_14 : decode cJ1_charAt_3b067 14 = .ok (.ireturn, 1) := by decide +kernel
theorem dJ2_getChar_3b067_0 : decode cJ2_getChar_3b067 0 = .ok (.getstatic 44, 3) := by decide +kernel
theorem dJ2_getChar_3b067_3 : decode cJ2_getChar_3b067 3 = .ok (.ifCond .ne 25, 3) := by decide +kernel
theorem dJ2_getChar_3b067_6 : decode cJ2_getChar_3b067 6 = .ok (.iload_n 1, 1) := by decide +kernel
theorem dJ2_getChar_3b067_7 : decode cJ2_getChar_3b067 7 = .ok (.ifCond .lt 11, 3) := by decide +kernel
theorem dJ2_getChar_3b067_10 : decode cJ2_getChar_3b067 10 = .ok (.iload_n 1, 1) := by decide +kernel
theorem dJ2_getChar_3b067_11 : decode cJ2_getChar_3b067 11 = .ok (.aload_n 0, 1) := by decide +kernel
theorem dJ2_getChar_3b067_12 : decode cJ2_getChar_3b067 12 = .ok (.invokestatic 48, 3) := by decide +kernel
theorem dJ2_getChar_3b067_15 : decode cJ2_getChar_3b067 15 = .ok (.if_icmp .lt 13, 3) := by decide +kernel
theorem dJ2_getChar_3b067_18 : decode cJ2_getChar_3b067 18 = .ok (.new 52, 3) := by decide +kernel
theorem dJ2_getChar_3b067_21 : decode cJ2_getChar_3b067 21 = .ok (.dup, 1) := by decide +kernel
theorem dJ2_getChar_3b067_22 : decode cJ2_getChar_3b067 22 = .ok (.ldc 54, 2) := by decide +kernel
theorem dJ2_getChar_3b067_24 : decode cJ2_getChar_3b067 24 = .ok (.invokespecial 56, 3) := by decide +kernel
theorem dJ2_getChar_3b067_27 : decode cJ2_getChar_3b067 27 = .ok (.athrow, 1) := by decide +kernel
theorem dJ2_getChar_3b067_28 : decode cJ2_getChar_3b067 28 = .ok (.iload_n 1, 1) := by decide +kernel
theorem dJ2_getChar_3b067_29 : decode cJ2_getChar_3b067 29 = .ok (.iconst 1, 1) := by decide +kernel
theorem dJ2_getChar_3b067_30 : decode cJ2_getChar_3b067 30 = .ok (.ishl, 1) := by decide +kernel
theorem dJ2_getChar_3b067_31 : decode cJ2_getChar_3b067 31 = .ok (.istore_n 1, 1) := by decide +kernel
theorem dJ2_getChar_3b067_32 : decode cJ2_getChar_3b067 32 = .ok (.aload_n 0, 1) := by decide +kernel
theorem dJ2_getChar_3b067_33 : decode cJ2_getChar_3b067 33 = .ok (.iload_n 1, 1) := by decide +kernel
theorem dJ2_getChar_3b067_34 : decode cJ2_getChar_3b067 34 = .ok (.iinc 1 1, 3) := by decide +kernel
theorem dJ2_getChar_3b067_37 : decode cJ2_getChar_3b067 37 = .ok (.baload, 1) := by decide +kernel
theorem dJ2_getChar_3b067_38 : decode cJ2_getChar_3b067 38 = .ok (.sipush 255, 3) := by decide +kernel
theorem dJ2_getChar_3b067_41 : decode cJ2_getChar_3b067 41 = .ok (.iand, 1) := by decide +kernel
theorem dJ2_getChar_3b067_42 : decode cJ2_getChar_3b067 42 = .ok (.getstatic 59, 3) := by decide +kernel
theorem dJ2_getChar_3b067_45 : decode cJ2_getChar_3b067 45 = .ok (.ishl, 1) := by decide +kernel
theorem dJ2_getChar_3b067_46 : decode cJ2_getChar_3b067 46 = .ok (.aload_n 0, 1) := by decide +kernel
theorem dJ2_getChar_3b067_47 : decode cJ2_getChar_3b067 47 = .ok (.iload_n 1, 1) := by decide +kernel
theorem dJ2_getChar_3b067_48 : decode cJ2_getChar_3b067 48 = .ok (.baload, 1) := by decide +kernel
theorem dJ2_getChar_3b067_49 : decode cJ2_getChar_3b067 49 = .ok (.sipush 255, 3) := by decide +kernel
theorem dJ2_getChar_3b067_52 : decode cJ2_getChar_3b067 52 = .ok (.iand, 1) := by decide +kernel
theorem dJ2_getChar_3b067_53 : decode cJ2_getChar_3b067 53 = .ok (.getstatic 63, 3) := by decide +kernel
theorem dJ2_getChar_3b067_56 : decode cJ2_getChar_3b067 56 = .ok (.ishl, 1) := by decide +kernel
theorem dJ2_getChar_3b067_57 : decode cJ2_getChar_3b067 57 = .ok (.ior, 1) := by decide +kernel
theorem dJ2_getChar_3b067_58 : decode cJ2_getChar_3b067 58 = .ok (.i2c, 1) := by decide +kernel
theorem dJ2_getChar_3b067_59 : decode cJ2_getChar_3b067 59 = .ok (.ireturn, 1) := by decide +kernel
theorem dJ2_length_9d52b_0 : decode cJ2_length_9d52b 0 = .ok (.aload_n 0, 1) := by decide +kernel
theorem dJ2_length_9d52b_1 : decode cJ2_length_9d52b 1 = .ok (.arraylength, 1) := by decide +kernel
theorem dJ2_length_9d52b_2 : decode cJ2_length_9d52b 2 = .ok (.iconst 1, 1) := by decide +kernel
theorem dJ2_length_9d52b_3 : decode cJ2_length_9d52b 3 = .ok (.ishr, 1) := by decide +kernel
theorem dJ2_length_9d52b_4 : decode cJ2_length_9d52b 4 = .ok (.ireturn, 1) := by decide +kernel
theorem dJ2_charAt_3b067_0 : decode cJ2_charAt_3b067 0 = .ok (.iload_n 1, 1) := by decide +kernel
theorem dJ2_charAt_3b067_1 : decode cJ2_charAt_3b067 1 = .ok (.aload_n 0, 1) := by decide +kernel
theorem dJ2_charAt_3b067_2 : decode cJ2_charAt_3b067 2 = .ok (.invokestatic 67, 3) := by decide +kernel
theorem dJ2_charAt_3b067_5 : decode cJ2_charAt_3b067 5 = .ok (.aload_n 0, 1) := by decide +kernel
theorem dJ2_charAt_3b067_6 : decode cJ2_charAt_3b067 6 = .ok (.iload_n 1, 1) := by decide +kernel
theorem dJ2_charAt_3b067_7 : decode cJ2_charAt_3b067 7 = .ok (.invokestatic 71, 3) := by decide +kernel
theorem dJ2_charAt_3b067_10 : decode cJ2_charAt_3b067 10 = .ok (.ireturn, 1) := by decide +kernel
theorem dJ2_checkIndex_2214a_0 : decode cJ2_checkIndex_2214a 0 = .ok (.iload_n 0, 1) := by decide +kernel
theorem dJ2_checkIndex_2214a_1 : decode cJ2_checkIndex_2214a 1 = .ok (.aload_n 1, 1) := by decide +kernel
theorem dJ2_checkIndex_2214a_2 : decode cJ2_checkIndex_2214a 2 = .ok (.invokestatic 48, 3) := by decide +kernel
theorem dJ2_checkIndex_2214a_5 : decode cJ2_checkIndex_2214a 5 = .ok (.invokestatic 414, 3) := by decide +kernel
theorem dJ2_checkIndex_2214a_8 : decode cJ2_checkIndex_2214a 8 = .ok (.return_, 1) := by decide +kernel
theorem dJ3_checkIndex_8e157_0 : decode cJ3_checkIndex_8e157 0 = .ok (.iload_n 0, 1) := by decide +kernel
theorem dJ3_checkIndex_8e157_1 : decode cJ3_checkIndex_8e157 1 = .ok (.ifCond .lt 8, 3) := by decide +kernel
theorem dJ3_checkIndex_8e157_4 : decode cJ3_checkIndex_8e157 4 = .ok (.iload_n 0, 1) := by decide +kernel
theorem dJ3_checkIndex_8e157_5 : decode cJ3_checkIndex_8e157 5 = .ok (.iload_n 1, 1) := by decide +kernel
theorem dJ3_checkIndex_8e157_6 : decode cJ3_checkIndex_8e157 6 = .ok (.if_icmp .lt 10, 3) := by decide +kernel
theorem dJ3_checkIndex_8e157_9 : decode cJ3_checkIndex_8e157 9 = .ok (.aload_n 2, 1) := by decide +kernel
theorem dJ3_checkIndex_8e157_10 : decode cJ3_checkIndex_8e157 10 = .ok (.iload_n 0, 1) := by decide +kernel
theorem dJ3_checkIndex_8e157_11 : decode cJ3_checkIndex_8e157 11 = .ok (.iload_n 1, 1) := by decide +kernel
theorem dJ3_checkIndex_8e157_12 : decode cJ3_checkIndex_8e157 12 = .ok (.invokestatic 95, 3) := by decide +kernel
theorem dJ3_checkIndex_8e157_15 : decode cJ3_checkIndex_8e157 15 = .ok (.athrow, 1) := by decide +kernel
theorem dJ3_checkIndex_8e157_16 : decode cJ3_checkIndex_8e157 16 = .ok (.iload_n 0, 1) := by decide +kernel
theorem dJ3_checkIndex_8e157_17 : decode cJ3_checkIndex_8e157 17 = .ok (.ireturn, 1) := by decide +kernel
theorem dL_go_0 : decode cL_go 0 = .ok (.aload_n 2, 1) := by decide +kernel
theorem dL_go_1 : decode cL_go 1 = .ok (.iconst 0, 1) := by decide +kernel
theorem dL_go_2 : decode cL_go 2 = .ok (.aload_n 0, 1) := by decide +kernel
theorem dL_go_3 : decode cL_go 3 = .ok (.iload_n 1, 1) := by decide +kernel
theorem dL_go_4 : decode cL_go 4 = .ok (.invokevirtual 7, 3) := by decide +kernel
theorem dL_go_7 : decode cL_go 7 = .ok (.i2l, 1) := by decide +kernel
theorem dL_go_8 : decode cL_go 8 = .ok (.lastore, 1) := by decide +kernel
theorem dL_go_9 : decode cL_go 9 = .ok (.goto 9, 3) := by decide +kernel
theorem dL_go_12 : decode cL_go 12 = .ok (.astore_n 3, 1) := by decide +kernel
theorem dL_go_13 : decode cL_go 13 = .ok (.iconst 1, 1) := by decide +kernel
theorem dL_go_14 : decode cL_go 14 = .ok (.ireturn, 1) := by decide +kernel
theorem dL_go_15 : decode cL_go 15 = .ok (.astore_n 3, 1) := by decide +kernel
theorem dL_go_16 : decode cL_go 16 = .ok (.iconst 2, 1) := by decide +kernel
theorem dL_go_17 : decode cL_go 17 = .ok (.ireturn, 1) := by decide +kernel
theorem dL_go_18 : decode cL_go 18 = .ok (.iconst 0, 1) := by decide +kernel
theorem dL_go_19 : decode cL_go 19 = .ok (.ireturn, 1) := by decide +kernel
theorem dL_place_0 : decode cL_place 0 = .ok (.aload 4, 2) := by decide +kernel
theorem dL_place_2 : decode cL_place 2 = .ok (.iconst 0, 1) := by decide +kernel
theorem dL_place_3 : decode cL_place 3 = .ok (.aload_n 0, 1) := by decide +kernel
theorem dL_place_4 : decode cL_place 4 = .ok (.iload_n 1, 1) := by decide +kernel
theorem dL_place_5 : decode cL_place 5 = .ok (.iload_n 2, 1) := by decide +kernel
theorem dL_place_6 : decode cL_place 6 = .ok (.iload_n 3, 1) := by decide +kernel
theorem dL_place_7 : decode cL_place 7 = .ok (.invokevirtual 17, 3) := by decide +kernel
theorem dL_place_10 : decode cL_place 10 = .ok (.i2l, 1) := by decide +kernel
theorem dL_place_11 : decode cL_place 11 = .ok (.lastore, 1) := by decide +kernel
theorem dL_place_12 : decode cL_place 12 = .ok (.goto 7, 3) := by decide +kernel
theorem dL_place_15 : decode cL_place 15 = .ok (.astore 5, 2) := by decide +kernel
theorem dL_place_17 : decode cL_place 17 = .ok (.iconst 1, 1) := by decide +kernel
theorem dL_place_18 : decode cL_place 18 = .ok (.ireturn, 1) := by decide +kernel
theorem dL_place_19 : decode cL_place 19 = .ok (.iconst 0, 1) := by decide +kernel
theorem dL_place_20 : decode cL_place 20 = .ok (.ireturn, 1) := by decide +kernel
theorem dL_hand_0 : decode cL_hand 0 = .ok (.aload_n 2, 1) := by decide +kernel
theorem dL_hand_1 : decode cL_hand 1 = .ok (.iconst 0, 1) := by decide +kernel
theorem dL_hand_2 : decode cL_hand 2 = .ok (.aload_n 0, 1) := by decide +kernel
theorem dL_hand_3 : decode cL_hand 3 = .ok (.iload_n 1, 1) := by decide +kernel
theorem dL_hand_4 : decode cL_hand 4 = .ok (.invokevirtual 21, 3) := by decide +kernel
theorem dL_hand_7 : decode cL_hand 7 = .ok (.i2l, 1) := by decide +kernel
theorem dL_hand_8 : decode cL_hand 8 = .ok (.lastore, 1) := by decide +kernel
theorem dL_hand_9 : decode cL_hand 9 = .ok (.goto 6, 3) := by decide +kernel
theorem dL_hand_12 : decode cL_hand 12 = .ok (.astore_n 3, 1) := by decide +kernel
theorem dL_hand_13 : decode cL_hand 13 = .ok (.iconst 1, 1) := by decide +kernel
theorem dL_hand_14 : decode cL_hand 14 = .ok (.ireturn, 1) := by decide +kernel
theorem dL_hand_15 : decode cL_hand 15 = .ok (.iconst 0, 1) := by decide +kernel
theorem dL_hand_16 : decode cL_hand 16 = .ok (.ireturn, 1) := by decide +kernel
theorem dL_officer_0 : decode cL_officer 0 = .ok (.aload_n 3, 1) := by decide +kernel
theorem dL_officer_1 : decode cL_officer 1 = .ok (.iconst 0, 1) := by decide +kernel
theorem dL_officer_2 : decode cL_officer 2 = .ok (.aload_n 0, 1) := by decide +kernel
theorem dL_officer_3 : decode cL_officer 3 = .ok (.iload_n 1, 1) := by decide +kernel
theorem dL_officer_4 : decode cL_officer 4 = .ok (.iload_n 2, 1) := by decide +kernel
theorem dL_officer_5 : decode cL_officer 5 = .ok (.invokevirtual 26, 3) := by decide +kernel
theorem dL_officer_8 : decode cL_officer 8 = .ok (.i2l, 1) := by decide +kernel
theorem dL_officer_9 : decode cL_officer 9 = .ok (.lastore, 1) := by decide +kernel
theorem dL_officer_10 : decode cL_officer 10 = .ok (.goto 7, 3) := by decide +kernel
theorem dL_officer_13 : decode cL_officer 13 = .ok (.astore 4, 2) := by decide +kernel
theorem dL_officer_15 : decode cL_officer 15 = .ok (.iconst 1, 1) := by decide +kernel
theorem dL_officer_16 : decode cL_officer 16 = .ok (.ireturn, 1) := by decide +kernel
theorem dL_officer_17 : decode cL_officer 17 = .ok (.iconst 0, 1) := by decide +kernel
theorem dL_officer_18 : decode cL_officer 18 = .ok (.ireturn, 1) := by decide +kernel
theorem dL_deed_0 : decode cL_deed 0 = .ok (.aload 4, 2) := by decide +kernel
theorem dL_deed_2 : decode cL_deed 2 = .ok (.iconst 0, 1) := by decide +kernel
theorem dL_deed_3 : decode cL_deed 3 = .ok (.aload_n 0, 1) := by decide +kernel
theorem dL_deed_4 : decode cL_deed 4 = .ok (.iload_n 1, 1) := by decide +kernel
theorem dL_deed_5 : decode cL_deed 5 = .ok (.iload_n 2, 1) := by decide +kernel
theorem dL_deed_6 : decode cL_deed 6 = .ok (.iload_n 3, 1) := by decide +kernel
theorem dL_deed_7 : decode cL_deed 7 = .ok (.invokevirtual 30, 3) := by decide +kernel
theorem dL_deed_10 : decode cL_deed 10 = .ok (.i2l, 1) := by decide +kernel
theorem dL_deed_11 : decode cL_deed 11 = .ok (.lastore, 1) := by decide +kernel
theorem dL_deed_12 : decode cL_deed 12 = .ok (.goto 11, 3) := by decide +kernel
theorem dL_deed_15 : decode cL_deed 15 = .ok (.astore 5, 2) := by decide +kernel
theorem dL_deed_17 : decode cL_deed 17 = .ok (.iconst 1, 1) := by decide +kernel
theorem dL_deed_18 : decode cL_deed 18 = .ok (.ireturn, 1) := by decide +kernel
theorem dL_deed_19 : decode cL_deed 19 = .ok (.astore 5, 2) := by decide +kernel
theorem dL_deed_21 : decode cL_deed 21 = .ok (.iconst 2, 1) := by decide +kernel
theorem dL_deed_22 : decode cL_deed 22 = .ok (.ireturn, 1) := by decide +kernel
theorem dL_deed_23 : decode cL_deed 23 = .ok (.iconst 0, 1) := by decide +kernel
theorem dL_deed_24 : decode cL_deed 24 = .ok (.ireturn, 1) := by decide +kernel
theorem dL_tell_0 : decode cL_tell 0 = .ok (.aload 4, 2) := by decide +kernel
theorem dL_tell_2 : decode cL_tell 2 = .ok (.iconst 0, 1) := by decide +kernel
theorem dL_tell_3 : decode cL_tell 3 = .ok (.aload_n 0, 1) := by decide +kernel
theorem dL_tell_4 : decode cL_tell 4 = .ok (.iload_n 1, 1) := by decide +kernel
theorem dL_tell_5 : decode cL_tell 5 = .ok (.iload_n 2, 1) := by decide +kernel
theorem dL_tell_6 : decode cL_tell 6 = .ok (.iload_n 3, 1) := by decide +kernel
theorem dL_tell_7 : decode cL_tell 7 = .ok (.invokevirtual 33, 3) := by decide +kernel
theorem dL_tell_10 : decode cL_tell 10 = .ok (.i2l, 1) := by decide +kernel
theorem dL_tell_11 : decode cL_tell 11 = .ok (.lastore, 1) := by decide +kernel
theorem dL_tell_12 : decode cL_tell 12 = .ok (.goto 11, 3) := by decide +kernel
theorem dL_tell_15 : decode cL_tell 15 = .ok (.astore 5, 2) := by decide +kernel
theorem dL_tell_17 : decode cL_tell 17 = .ok (.iconst 1, 1) := by decide +kernel
theorem dL_tell_18 : decode cL_tell 18 = .ok (.ireturn, 1) := by decide +kernel
theorem dL_tell_19 : decode cL_tell 19 = .ok (.astore 5, 2) := by decide +kernel
theorem dL_tell_21 : decode cL_tell 21 = .ok (.iconst 2, 1) := by decide +kernel
theorem dL_tell_22 : decode cL_tell 22 = .ok (.ireturn, 1) := by decide +kernel
theorem dL_tell_23 : decode cL_tell 23 = .ok (.iconst 0, 1) := by decide +kernel
theorem dL_tell_24 : decode cL_tell 24 = .ok (.ireturn, 1) := by decide +kernel
theorem dL_state_0 : decode cL_state 0 = .ok (.aload 4, 2) := by decide +kernel
theorem dL_state_2 : decode cL_state 2 = .ok (.iconst 0, 1) := by decide +kernel
theorem dL_state_3 : decode cL_state 3 = .ok (.aload_n 0, 1) := by decide +kernel
theorem dL_state_4 : decode cL_state 4 = .ok (.iload_n 1, 1) := by decide +kernel
theorem dL_state_5 : decode cL_state 5 = .ok (.iload_n 2, 1) := by decide +kernel
theorem dL_state_6 : decode cL_state 6 = .ok (.iload_n 3, 1) := by decide +kernel
theorem dL_state_7 : decode cL_state 7 = .ok (.invokevirtual 36, 3) := by decide +kernel
theorem dL_state_10 : decode cL_state 10 = .ok (.i2l, 1) := by decide +kernel
theorem dL_state_11 : decode cL_state 11 = .ok (.lastore, 1) := by decide +kernel
theorem dL_state_12 : decode cL_state 12 = .ok (.goto 7, 3) := by decide +kernel
theorem dL_state_15 : decode cL_state 15 = .ok (.astore 5, 2) := by decide +kernel
theorem dL_state_17 : decode cL_state 17 = .ok (.iconst 1, 1) := by decide +kernel
theorem dL_state_18 : decode cL_state 18 = .ok (.ireturn, 1) := by decide +kernel
theorem dL_state_19 : decode cL_state 19 = .ok (.iconst 0, 1) := by decide +kernel
theorem dL_state_20 : decode cL_state 20 = .ok (.ireturn, 1) := by decide +kernel
theorem dL_doubt_0 : decode cL_doubt 0 = .ok (.aload_n 3, 1) := by decide +kernel
theorem dL_doubt_1 : decode cL_doubt 1 = .ok (.iconst 0, 1) := by decide +kernel
theorem dL_doubt_2 : decode cL_doubt 2 = .ok (.aload_n 0, 1) := by decide +kernel
theorem dL_doubt_3 : decode cL_doubt 3 = .ok (.iload_n 1, 1) := by decide +kernel
theorem dL_doubt_4 : decode cL_doubt 4 = .ok (.iload_n 2, 1) := by decide +kernel
theorem dL_doubt_5 : decode cL_doubt 5 = .ok (.invokevirtual 40, 3) := by decide +kernel
theorem dL_doubt_8 : decode cL_doubt 8 = .ok (.ifCond .eq 7, 3) := by decide +kernel
theorem dL_doubt_11 : decode cL_doubt 11 = .ok (.lconst 1, 1) := by decide +kernel
theorem dL_doubt_12 : decode cL_doubt 12 = .ok (.goto 4, 3) := by decide +kernel
theorem dL_doubt_15 : decode cL_doubt 15 = .ok (.lconst 0, 1) := by decide +kernel
theorem dL_doubt_16 : decode cL_doubt 16 = .ok (.lastore, 1) := by decide +kernel
theorem dL_doubt_17 : decode cL_doubt 17 = .ok (.goto 7, 3) := by decide +kernel
theorem dL_doubt_20 : decode cL_doubt 20 = .ok (.astore 4, 2) := by decide +kernel
theorem dL_doubt_22 : decode cL_doubt 22 = .ok (.iconst 1, 1) := by decide +kernel
theorem dL_doubt_23 : decode cL_doubt 23 = .ok (.ireturn, 1) := by decide +kernel
theorem dL_doubt_24 : decode cL_doubt 24 = .ok (.iconst 0, 1) := by decide +kernel
theorem dL_doubt_25 : decode cL_doubt 25 = .ok (.ireturn, 1) := by decide +kernel
theorem dL_solve_0 : decode cL_solve 0 = .ok (.aload_n 0, 1) := by decide +kernel
theorem dL_solve_1 : decode cL_solve 1 = .ok (.iload_n 1, 1) := by decide +kernel
theorem dL_solve_2 : decode cL_solve 2 = .ok (.iload_n 2, 1) := by decide +kernel
theorem dL_solve_3 : decode cL_solve 3 = .ok (.iload_n 3, 1) := by decide +kernel
theorem dL_solve_4 : decode cL_solve 4 = .ok (.invokevirtual 44, 3) := by decide +kernel
theorem dL_solve_7 : decode cL_solve 7 = .ok (.goto 7, 3) := by decide +kernel
theorem dL_solve_10 : decode cL_solve 10 = .ok (.astore 4, 2) := by decide +kernel
theorem dL_solve_12 : decode cL_solve 12 = .ok (.iconst 1, 1) := by decide +kernel
theorem dL_solve_13 : decode cL_solve 13 = .ok (.ireturn, 1) := by decide +kernel
theorem dL_solve_14 : decode cL_solve 14 = .ok (.iconst 0, 1) := by decide +kernel
theorem dL_solve_15 : decode cL_solve 15 = .ok (.ireturn, 1) := by decide +kernel
theorem dL_bar_0 : decode cL_bar 0 = .ok (.aload_n 3, 1) := by decide +kernel
theorem dL_bar_1 : decode cL_bar 1 = .ok (.iconst 0, 1) := by decide +kernel
theorem dL_bar_2 : decode cL_bar 2 = .ok (.aload_n 0, 1) := by decide +kernel
theorem dL_bar_3 : decode cL_bar 3 = .ok (.iload_n 1, 1) := by decide +kernel
theorem dL_bar_4 : decode cL_bar 4 = .ok (.iload_n 2, 1) := by decide +kernel
theorem dL_bar_5 : decode cL_bar 5 = .ok (.invokevirtual 48, 3) := by decide +kernel
theorem dL_bar_8 : decode cL_bar 8 = .ok (.ifCond .eq 7, 3) := by decide +kernel
theorem dL_bar_11 : decode cL_bar 11 = .ok (.lconst 1, 1) := by decide +kernel
theorem dL_bar_12 : decode cL_bar 12 = .ok (.goto 4, 3) := by decide +kernel
theorem dL_bar_15 : decode cL_bar 15 = .ok (.lconst 0, 1) := by decide +kernel
theorem dL_bar_16 : decode cL_bar 16 = .ok (.lastore, 1) := by decide +kernel
theorem dL_bar_17 : decode cL_bar 17 = .ok (.goto 11, 3) := by decide +kernel
theorem dL_bar_20 : decode cL_bar 20 = .ok (.astore 4, 2) := by decide +kernel
theorem dL_bar_22 : decode cL_bar 22 = .ok (.iconst 1, 1) := by decide +kernel
theorem dL_bar_23 : decode cL_bar 23 = .ok (.ireturn, 1) := by decide +kernel
theorem dL_bar_24 : decode cL_bar 24 = .ok (.astore 4, 2) := by decide +kernel
theorem dL_bar_26 : decode cL_bar 26 = .ok (.iconst 2, 1) := by decide +kernel
theorem dL_bar_27 : decode cL_bar 27 = .ok (.ireturn, 1) := by decide +kernel
theorem dL_bar_28 : decode cL_bar 28 = .ok (.iconst 0, 1) := by decide +kernel
theorem dL_bar_29 : decode cL_bar 29 = .ok (.ireturn, 1) := by decide +kernel
theorem dL_are_0 : decode cL_are 0 = .ok (.aload_n 3, 1) := by decide +kernel
theorem dL_are_1 : decode cL_are 1 = .ok (.iconst 0, 1) := by decide +kernel
theorem dL_are_2 : decode cL_are 2 = .ok (.aload_n 0, 1) := by decide +kernel
theorem dL_are_3 : decode cL_are 3 = .ok (.iload_n 1, 1) := by decide +kernel
theorem dL_are_4 : decode cL_are 4 = .ok (.iload_n 2, 1) := by decide +kernel
theorem dL_are_5 : decode cL_are 5 = .ok (.invokevirtual 52, 3) := by decide +kernel
theorem dL_are_8 : decode cL_are 8 = .ok (.i2l, 1) := by decide +kernel
theorem dL_are_9 : decode cL_are 9 = .ok (.lastore, 1) := by decide +kernel
theorem dL_are_10 : decode cL_are 10 = .ok (.goto 11, 3) := by decide +kernel
theorem dL_are_13 : decode cL_are 13 = .ok (.astore 4, 2) := by decide +kernel
theorem dL_are_15 : decode cL_are 15 = .ok (.iconst 1, 1) := by decide +kernel
theorem dL_are_16 : decode cL_are 16 = .ok (.ireturn, 1) := by decide +kernel
theorem dL_are_17 : decode cL_are 17 = .ok (.astore 4, 2) := by decide +kernel
theorem dL_are_19 : decode cL_are 19 = .ok (.iconst 2, 1) := by decide +kernel
theorem dL_are_20 : decode cL_are 20 = .ok (.ireturn, 1) := by decide +kernel
theorem dL_are_21 : decode cL_are 21 = .ok (.iconst 0, 1) := by decide +kernel
theorem dL_are_22 : decode cL_are 22 = .ok (.ireturn, 1) := by decide +kernel
theorem dL_link_0 : decode cL_link 0 = .ok (.aload 4, 2) := by decide +kernel
theorem dL_link_2 : decode cL_link 2 = .ok (.iconst 0, 1) := by decide +kernel
theorem dL_link_3 : decode cL_link 3 = .ok (.aload_n 0, 1) := by decide +kernel
theorem dL_link_4 : decode cL_link 4 = .ok (.iload_n 1, 1) := by decide +kernel
theorem dL_link_5 : decode cL_link 5 = .ok (.iload_n 2, 1) := by decide +kernel
theorem dL_link_6 : decode cL_link 6 = .ok (.iload_n 3, 1) := by decide +kernel
theorem dL_link_7 : decode cL_link 7 = .ok (.invokevirtual 55, 3) := by decide +kernel
theorem dL_link_10 : decode cL_link 10 = .ok (.i2l, 1) := by decide +kernel
theorem dL_link_11 : decode cL_link 11 = .ok (.lastore, 1) := by decide +kernel
theorem dL_link_12 : decode cL_link 12 = .ok (.goto 11, 3) := by decide +kernel
theorem dL_link_15 : decode cL_link 15 = .ok (.astore 5, 2) := by decide +kernel
theorem dL_link_17 : decode cL_link 17 = .ok (.iconst 1, 1) := by decide +kernel
theorem dL_link_18 : decode cL_link 18 = .ok (.ireturn, 1) := by decide +kernel
theorem dL_link_19 : decode cL_link 19 = .ok (.astore 5, 2) := by decide +kernel
theorem dL_link_21 : decode cL_link 21 = .ok (.iconst 2, 1) := by decide +kernel
theorem dL_link_22 : decode cL_link 22 = .ok (.ireturn, 1) := by decide +kernel
theorem dL_link_23 : decode cL_link 23 = .ok (.iconst 0, 1) := by decide +kernel
theorem dL_link_24 : decode cL_link 24 = .ok (.ireturn, 1) := by decide +kernel
theorem dL_right_0 : decode cL_right 0 = .ok (.aload_n 3, 1) := by decide +kernel
theorem dL_right_1 : decode cL_right 1 = .ok (.iconst 0, 1) := by decide +kernel
theorem dL_right_2 : decode cL_right 2 = .ok (.aload_n 0, 1) := by decide +kernel
theorem dL_right_3 : decode cL_right 3 = .ok (.iload_n 1, 1) := by decide +kernel
theorem dL_right_4 : decode cL_right 4 = .ok (.iload_n 2, 1) := by decide +kernel
theorem dL_right_5 : decode cL_right 5 = .ok (.invokevirtual 58, 3) := by decide +kernel
theorem dL_right_8 : decode cL_right 8 = .ok (.i2l, 1) := by decide +kernel
theorem dL_right_9 : decode cL_right 9 = .ok (.lastore, 1) := by decide +kernel
theorem dL_right_10 : decode cL_right 10 = .ok (.goto 7, 3) := by decide +kernel
theorem dL_right_13 : decode cL_right 13 = .ok (.astore 4, 2) := by decide +kernel
theorem dL_right_15 : decode cL_right 15 = .ok (.iconst 1, 1) := by decide +kernel
theorem dL_right_16 : decode cL_right 16 = .ok (.ireturn, 1) := by decide +kernel
theorem dL_right_17 : decode cL_right 17 = .ok (.iconst 0, 1) := by decide +kernel
theorem dL_right_18 : decode cL_right 18 = .ok (.ireturn, 1) := by decide +kernel
theorem dL_forget_0 : decode cL_forget 0 = .ok (.aload_n 0, 1) := by decide +kernel
theorem dL_forget_1 : decode cL_forget 1 = .ok (.iload_n 1, 1) := by decide +kernel
theorem dL_forget_2 : decode cL_forget 2 = .ok (.invokevirtual 62, 3) := by decide +kernel
theorem dL_forget_5 : decode cL_forget 5 = .ok (.goto 6, 3) := by decide +kernel
theorem dL_forget_8 : decode cL_forget 8 = .ok (.astore_n 2, 1) := by decide +kernel
theorem dL_forget_9 : decode cL_forget 9 = .ok (.iconst 1, 1) := by decide +kernel
theorem dL_forget_10 : decode cL_forget 10 = .ok (.ireturn, 1) := by decide +kernel
theorem dL_forget_11 : decode cL_forget 11 = .ok (.iconst 0, 1) := by decide +kernel
theorem dL_forget_12 : decode cL_forget 12 = .ok (.ireturn, 1) := by decide +kernel
theorem dL_window_0 : decode cL_window 0 = .ok (.aload_n 0, 1) := by decide +kernel
theorem dL_window_1 : decode cL_window 1 = .ok (.iload_n 1, 1) := by decide +kernel
theorem dL_window_2 : decode cL_window 2 = .ok (.iload_n 2, 1) := by decide +kernel
theorem dL_window_3 : decode cL_window 3 = .ok (.invokevirtual 66, 3) := by decide +kernel
theorem dL_window_6 : decode cL_window 6 = .ok (.goto 6, 3) := by decide +kernel
theorem dL_window_9 : decode cL_window 9 = .ok (.astore_n 3, 1) := by decide +kernel
theorem dL_window_10 : decode cL_window 10 = .ok (.iconst 1, 1) := by decide +kernel
theorem dL_window_11 : decode cL_window 11 = .ok (.ireturn, 1) := by decide +kernel
theorem dL_window_12 : decode cL_window 12 = .ok (.iconst 0, 1) := by decide +kernel
theorem dL_window_13 : decode cL_window 13 = .ok (.ireturn, 1) := by decide +kernel
theorem dL_count_0 : decode cL_count 0 = .ok (.aload 5, 2) := by decide +kernel
theorem dL_count_2 : decode cL_count 2 = .ok (.iconst 0, 1) := by decide +kernel
theorem dL_count_3 : decode cL_count 3 = .ok (.aload_n 0, 1) := by decide +kernel
theorem dL_count_4 : decode cL_count 4 = .ok (.iload_n 1, 1) := by decide +kernel
theorem dL_count_5 : decode cL_count 5 = .ok (.iload_n 2, 1) := by decide +kernel
theorem dL_count_6 : decode cL_count 6 = .ok (.iload_n 3, 1) := by decide +kernel
theorem dL_count_7 : decode cL_count 7 = .ok (.iload 4, 2) := by decide +kernel
theorem dL_count_9 : decode cL_count 9 = .ok (.invokevirtual 70, 3) := by decide +kernel
theorem dL_count_12 : decode cL_count 12 = .ok (.i2l, 1) := by decide +kernel
theorem dL_count_13 : decode cL_count 13 = .ok (.lastore, 1) := by decide +kernel
theorem dL_count_14 : decode cL_count 14 = .ok (.goto 11, 3) := by decide +kernel
theorem dL_count_17 : decode cL_count 17 = .ok (.astore 6, 2) := by decide +kernel
theorem dL_count_19 : decode cL_count 19 = .ok (.iconst 1, 1) := by decide +kernel
theorem dL_count_20 : decode cL_count 20 = .ok (.ireturn, 1) := by decide +kernel
theorem dL_count_21 : decode cL_count 21 = .ok (.astore 6, 2) := by decide +kernel
theorem dL_count_23 : decode cL_count 23 = .ok (.iconst 2, 1) := by decide +kernel
theorem dL_count_24 : decode cL_count 24 = .ok (.ireturn, 1) := by decide +kernel
theorem dL_count_25 : decode cL_count 25 = .ok (.iconst 0, 1) := by decide +kernel
theorem dL_count_26 : decode cL_count 26 = .ok (.ireturn, 1) := by decide +kernel
theorem dL_span_0 : decode cL_span 0 = .ok (.aload 6, 2) := by decide +kernel
theorem dL_span_2 : decode cL_span 2 = .ok (.iconst 0, 1) := by decide +kernel
theorem dL_span_3 : decode cL_span 3 = .ok (.aload_n 0, 1) := by decide +kernel
theorem dL_span_4 : decode cL_span 4 = .ok (.iload_n 1, 1) := by decide +kernel
theorem dL_span_5 : decode cL_span 5 = .ok (.iload_n 2, 1) := by decide +kernel
theorem dL_span_6 : decode cL_span 6 = .ok (.iload_n 3, 1) := by decide +kernel
theorem dL_span_7 : decode cL_span 7 = .ok (.iload 4, 2) := by decide +kernel
theorem dL_span_9 : decode cL_span 9 = .ok (.iload 5, 2) := by decide +kernel
theorem dL_span_11 : decode cL_span 11 = .ok (.invokevirtual 74, 3) := by decide +kernel
theorem dL_span_14 : decode cL_span 14 = .ok (.i2l, 1) := by decide +kernel
theorem dL_span_15 : decode cL_span 15 = .ok (.lastore, 1) := by decide +kernel
theorem dL_span_16 : decode cL_span 16 = .ok (.goto 11, 3) := by decide +kernel
theorem dL_span_19 : decode cL_span 19 = .ok (.astore 7, 2) := by decide +kernel
theorem dL_span_21 : decode cL_span 21 = .ok (.iconst 1, 1) := by decide +kernel
theorem dL_span_22 : decode cL_span 22 = .ok (.ireturn, 1) := by decide +kernel
theorem dL_span_23 : decode cL_span 23 = .ok (.astore 7, 2) := by decide +kernel
theorem dL_span_25 : decode cL_span 25 = .ok (.iconst 2, 1) := by decide +kernel
theorem dL_span_26 : decode cL_span 26 = .ok (.ireturn, 1) := by decide +kernel
theorem dL_span_27 : decode cL_span 27 = .ok (.iconst 0, 1) := by decide +kernel
theorem dL_span_28 : decode cL_span 28 = .ok (.ireturn, 1) := by decide +kernel
theorem dL_weight_0 : decode cL_weight 0 = .ok (.aload 4, 2) := by decide +kernel
theorem dL_weight_2 : decode cL_weight 2 = .ok (.iconst 0, 1) := by decide +kernel
theorem dL_weight_3 : decode cL_weight 3 = .ok (.aload_n 0, 1) := by decide +kernel
theorem dL_weight_4 : decode cL_weight 4 = .ok (.iload_n 1, 1) := by decide +kernel
theorem dL_weight_5 : decode cL_weight 5 = .ok (.iload_n 2, 1) := by decide +kernel
theorem dL_weight_6 : decode cL_weight 6 = .ok (.iload_n 3, 1) := by decide +kernel
theorem dL_weight_7 : decode cL_weight 7 = .ok (.invokevirtual 78, 3) := by decide +kernel
theorem dL_weight_10 : decode cL_weight 10 = .ok (.i2l, 1) := by decide +kernel
theorem dL_weight_11 : decode cL_weight 11 = .ok (.lastore, 1) := by decide +kernel
theorem dL_weight_12 : decode cL_weight 12 = .ok (.goto 11, 3) := by decide +kernel
theorem dL_weight_15 : decode cL_weight 15 = .ok (.astore 5, 2) := by decide +kernel
theorem dL_weight_17 : decode cL_weight 17 = .ok (.iconst 1, 1) := by decide +kernel
theorem dL_weight_18 : decode cL_weight 18 = .ok (.ireturn, 1) := by decide +kernel
theorem dL_weight_19 : decode cL_weight 19 = .ok (.astore 5, 2) := by decide +kernel
theorem dL_weight_21 : decode cL_weight 21 = .ok (.iconst 2, 1) := by decide +kernel
theorem dL_weight_22 : decode cL_weight 22 = .ok (.ireturn, 1) := by decide +kernel
theorem dL_weight_23 : decode cL_weight 23 = .ok (.iconst 0, 1) := by decide +kernel
theorem dL_weight_24 : decode cL_weight 24 = .ok (.ireturn, 1) := by decide +kernel
theorem dL_parent_0 : decode cL_parent 0 = .ok (.aload_n 3, 1) := by decide +kernel
theorem dL_parent_1 : decode cL_parent 1 = .ok (.iconst 0, 1) := by decide +kernel
theorem dL_parent_2 : decode cL_parent 2 = .ok (.aload_n 0, 1) := by decide +kernel
theorem dL_parent_3 : decode cL_parent 3 = .ok (.iload_n 1, 1) := by decide +kernel
theorem dL_parent_4 : decode cL_parent 4 = .ok (.iload_n 2, 1) := by decide +kernel
theorem dL_parent_5 : decode cL_parent 5 = .ok (.invokevirtual 81, 3) := by decide +kernel
theorem dL_parent_8 : decode cL_parent 8 = .ok (.i2l, 1) := by decide +kernel
theorem dL_parent_9 : decode cL_parent 9 = .ok (.lastore, 1) := by decide +kernel
theorem dL_parent_10 : decode cL_parent 10 = .ok (.goto 7, 3) := by decide +kernel
theorem dL_parent_13 : decode cL_parent 13 = .ok (.astore 4, 2) := by decide +kernel
theorem dL_parent_15 : decode cL_parent 15 = .ok (.iconst 1, 1) := by decide +kernel
theorem dL_parent_16 : decode cL_parent 16 = .ok (.ireturn, 1) := by decide +kernel
theorem dL_parent_17 : decode cL_parent 17 = .ok (.iconst 0, 1) := by decide +kernel
theorem dL_parent_18 : decode cL_parent 18 = .ok (.ireturn, 1) := by decide +kernel
theorem dL_worth_0 : decode cL_worth 0 = .ok (.aload 4, 2) := by decide +kernel
theorem dL_worth_2 : decode cL_worth 2 = .ok (.iconst 0, 1) := by decide +kernel
theorem dL_worth_3 : decode cL_worth 3 = .ok (.aload_n 0, 1) := by decide +kernel
theorem dL_worth_4 : decode cL_worth 4 = .ok (.iload_n 1, 1) := by decide +kernel
theorem dL_worth_5 : decode cL_worth 5 = .ok (.iload_n 2, 1) := by decide +kernel
theorem dL_worth_6 : decode cL_worth 6 = .ok (.iload_n 3, 1) := by decide +kernel
theorem dL_worth_7 : decode cL_worth 7 = .ok (.invokevirtual 84, 3) := by decide +kernel
theorem dL_worth_10 : decode cL_worth 10 = .ok (.i2l, 1) := by decide +kernel
theorem dL_worth_11 : decode cL_worth 11 = .ok (.lastore, 1) := by decide +kernel
theorem dL_worth_12 : decode cL_worth 12 = .ok (.goto 11, 3) := by decide +kernel
theorem dL_worth_15 : decode cL_worth 15 = .ok (.astore 5, 2) := by decide +kernel
theorem dL_worth_17 : decode cL_worth 17 = .ok (.iconst 1, 1) := by decide +kernel
theorem dL_worth_18 : decode cL_worth 18 = .ok (.ireturn, 1) := by decide +kernel
theorem dL_worth_19 : decode cL_worth 19 = .ok (.astore 5, 2) := by decide +kernel
theorem dL_worth_21 : decode cL_worth 21 = .ok (.iconst 2, 1) := by decide +kernel
theorem dL_worth_22 : decode cL_worth 22 = .ok (.ireturn, 1) := by decide +kernel
theorem dL_worth_23 : decode cL_worth 23 = .ok (.iconst 0, 1) := by decide +kernel
theorem dL_worth_24 : decode cL_worth 24 = .ok (.ireturn, 1) := by decide +kernel
theorem dL_by_0 : decode cL_by 0 = .ok (.aload 5, 2) := by decide +kernel
theorem dL_by_2 : decode cL_by 2 = .ok (.iconst 0, 1) := by decide +kernel
theorem dL_by_3 : decode cL_by 3 = .ok (.aload_n 0, 1) := by decide +kernel
theorem dL_by_4 : decode cL_by 4 = .ok (.iload_n 1, 1) := by decide +kernel
theorem dL_by_5 : decode cL_by 5 = .ok (.iload_n 2, 1) := by decide +kernel
theorem dL_by_6 : decode cL_by 6 = .ok (.iload_n 3, 1) := by decide +kernel
theorem dL_by_7 : decode cL_by 7 = .ok (.iload 4, 2) := by decide +kernel
theorem dL_by_9 : decode cL_by 9 = .ok (.invokevirtual 87, 3) := by decide +kernel
theorem dL_by_12 : decode cL_by 12 = .ok (.i2l, 1) := by decide +kernel
theorem dL_by_13 : decode cL_by 13 = .ok (.lastore, 1) := by decide +kernel
theorem dL_by_14 : decode cL_by 14 = .ok (.goto 11, 3) := by decide +kernel
theorem dL_by_17 : decode cL_by 17 = .ok (.astore 6, 2) := by decide +kernel
theorem dL_by_19 : decode cL_by 19 = .ok (.iconst 1, 1) := by decide +kernel
theorem dL_by_20 : decode cL_by 20 = .ok (.ireturn, 1) := by decide +kernel
theorem dL_by_21 : decode cL_by 21 = .ok (.astore 6, 2) := by decide +kernel
theorem dL_by_23 : decode cL_by 23 = .ok (.iconst 2, 1) := by decide +kernel
theorem dL_by_24 : decode cL_by 24 = .ok (.ireturn, 1) := by decide +kernel
theorem dL_by_25 : decode cL_by 25 = .ok (.iconst 0, 1) := by decide +kernel
theorem dL_by_26 : decode cL_by 26 = .ok (.ireturn, 1) := by decide +kernel
theorem dL_best_0 : decode cL_best 0 = .ok (.aload 4, 2) := by decide +kernel
theorem dL_best_2 : decode cL_best 2 = .ok (.iconst 0, 1) := by decide +kernel
theorem dL_best_3 : decode cL_best 3 = .ok (.aload_n 0, 1) := by decide +kernel
theorem dL_best_4 : decode cL_best 4 = .ok (.lload_n 1, 1) := by decide +kernel
theorem dL_best_5 : decode cL_best 5 = .ok (.iload_n 3, 1) := by decide +kernel
theorem dL_best_6 : decode cL_best 6 = .ok (.invokevirtual 91, 3) := by decide +kernel
theorem dL_best_9 : decode cL_best 9 = .ok (.i2l, 1) := by decide +kernel
theorem dL_best_10 : decode cL_best 10 = .ok (.lastore, 1) := by decide +kernel
theorem dL_best_11 : decode cL_best 11 = .ok (.goto 11, 3) := by decide +kernel
theorem dL_best_14 : decode cL_best 14 = .ok (.astore 5, 2) := by decide +kernel
theorem dL_best_16 : decode cL_best 16 = .ok (.iconst 1, 1) := by decide +kernel
theorem dL_best_17 : decode cL_best 17 = .ok (.ireturn, 1) := by decide +kernel
theorem dL_best_18 : decode cL_best 18 = .ok (.astore 5, 2) := by decide +kernel
theorem dL_best_20 : decode cL_best 20 = .ok (.iconst 2, 1) := by decide +kernel
theorem dL_best_21 : decode cL_best 21 = .ok (.ireturn, 1) := by decide +kernel
theorem dL_best_22 : decode cL_best 22 = .ok (.iconst 0, 1) := by decide +kernel
theorem dL_best_23 : decode cL_best 23 = .ok (.ireturn, 1) := by decide +kernel
theorem dL_part_0 : decode cL_part 0 = .ok (.aload 5, 2) := by decide +kernel
theorem dL_part_2 : decode cL_part 2 = .ok (.iconst 0, 1) := by decide +kernel
theorem dL_part_3 : decode cL_part 3 = .ok (.aload_n 0, 1) := by decide +kernel
theorem dL_part_4 : decode cL_part 4 = .ok (.lload_n 1, 1) := by decide +kernel
theorem dL_part_5 : decode cL_part 5 = .ok (.iload_n 3, 1) := by decide +kernel
theorem dL_part_6 : decode cL_part 6 = .ok (.iload 4, 2) := by decide +kernel
theorem dL_part_8 : decode cL_part 8 = .ok (.invokevirtual 95, 3) := by decide +kernel
theorem dL_part_11 : decode cL_part 11 = .ok (.i2l, 1) := by decide +kernel
theorem dL_part_12 : decode cL_part 12 = .ok (.lastore, 1) := by decide +kernel
theorem dL_part_13 : decode cL_part 13 = .ok (.goto 11, 3) := by decide +kernel
theorem dL_part_16 : decode cL_part 16 = .ok (.astore 6, 2) := by decide +kernel
theorem dL_part_18 : decode cL_part 18 = .ok (.iconst 1, 1) := by decide +kernel
theorem dL_part_19 : decode cL_part 19 = .ok (.ireturn, 1) := by decide +kernel
theorem dL_part_20 : decode cL_part 20 = .ok (.astore 6, 2) := by decide +kernel
theorem dL_part_22 : decode cL_part 22 = .ok (.iconst 2, 1) := by decide +kernel
theorem dL_part_23 : decode cL_part 23 = .ok (.ireturn, 1) := by decide +kernel
theorem dL_part_24 : decode cL_part 24 = .ok (.iconst 0, 1) := by decide +kernel
theorem dL_part_25 : decode cL_part 25 = .ok (.ireturn, 1) := by decide +kernel
theorem dL_near_0 : decode cL_near 0 = .ok (.aload 5, 2) := by decide +kernel
theorem dL_near_2 : decode cL_near 2 = .ok (.iconst 0, 1) := by decide +kernel
theorem dL_near_3 : decode cL_near 3 = .ok (.aload_n 0, 1) := by decide +kernel
theorem dL_near_4 : decode cL_near 4 = .ok (.lload_n 1, 1) := by decide +kernel
theorem dL_near_5 : decode cL_near 5 = .ok (.iload_n 3, 1) := by decide +kernel
theorem dL_near_6 : decode cL_near 6 = .ok (.iload 4, 2) := by decide +kernel
theorem dL_near_8 : decode cL_near 8 = .ok (.invokevirtual 99, 3) := by decide +kernel
theorem dL_near_11 : decode cL_near 11 = .ok (.i2l, 1) := by decide +kernel
theorem dL_near_12 : decode cL_near 12 = .ok (.lastore, 1) := by decide +kernel
theorem dL_near_13 : decode cL_near 13 = .ok (.goto 11, 3) := by decide +kernel
theorem dL_near_16 : decode cL_near 16 = .ok (.astore 6, 2) := by decide +kernel
theorem dL_near_18 : decode cL_near 18 = .ok (.iconst 1, 1) := by decide +kernel
theorem dL_near_19 : decode cL_near 19 = .ok (.ireturn, 1) := by decide +kernel
theorem dL_near_20 : decode cL_near 20 = .ok (.astore 6, 2) := by decide +kernel
theorem dL_near_22 : decode cL_near 22 = .ok (.iconst 2, 1) := by decide +kernel
theorem dL_near_23 : decode cL_near 23 = .ok (.ireturn, 1) := by decide +kernel
theorem dL_near_24 : decode cL_near 24 = .ok (.iconst 0, 1) := by decide +kernel
theorem dL_near_25 : decode cL_near 25 = .ok (.ireturn, 1) := by decide +kernel
theorem dL_sure_0 : decode cL_sure 0 = .ok (.aload 7, 2) := by decide +kernel
theorem dL_sure_2 : decode cL_sure 2 = .ok (.iconst 0, 1) := by decide +kernel
