theorem dL_sure_3 : decode cL_sure 3 = .ok (.aload_n 0, 1) := by decide +kernel
theorem dL_sure_4 : decode cL_sure 4 = .ok (.lload_n 1, 1) := by decide +kernel
theorem dL_sure_5 : decode cL_sure 5 = .ok (.iload_n 3, 1) := by decide +kernel
theorem dL_sure_6 : decode cL_sure 6 = .ok (.iload 4, 2) := by decide +kernel
theorem dL_sure_8 : decode cL_sure 8 = .ok (.iload 5, 2) := by decide +kernel
theorem dL_sure_10 : decode cL_sure 10 = .ok (.iload 6, 2) := by decide +kernel
theorem dL_sure_12 : decode cL_sure 12 = .ok (.invokevirtual 102, 3) := by decide +kernel
theorem dL_sure_15 : decode cL_sure 15 = .ok (.i2l, 1) := by decide +kernel
theorem dL_sure_16 : decode cL_sure 16 = .ok (.lastore, 1) := by decide +kernel
theorem dL_sure_17 : decode cL_sure 17 = .ok (.goto 11, 3) := by decide +kernel
theorem dL_sure_20 : decode cL_sure 20 = .ok (.astore 8, 2) := by decide +kernel
theorem dL_sure_22 : decode cL_sure 22 = .ok (.iconst 1, 1) := by decide +kernel
theorem dL_sure_23 : decode cL_sure 23 = .ok (.ireturn, 1) := by decide +kernel
theorem dL_sure_24 : decode cL_sure 24 = .ok (.astore 8, 2) := by decide +kernel
theorem dL_sure_26 : decode cL_sure 26 = .ok (.iconst 2, 1) := by decide +kernel
theorem dL_sure_27 : decode cL_sure 27 = .ok (.ireturn, 1) := by decide +kernel
theorem dL_sure_28 : decode cL_sure 28 = .ok (.iconst 0, 1) := by decide +kernel
theorem dL_sure_29 : decode cL_sure 29 = .ok (.ireturn, 1) := by decide +kernel
theorem dL_joined_0 : decode cL_joined 0 = .ok (.aload_n 3, 1) := by decide +kernel
theorem dL_joined_1 : decode cL_joined 1 = .ok (.iconst 0, 1) := by decide +kernel
theorem dL_joined_2 : decode cL_joined 2 = .ok (.aload_n 0, 1) := by decide +kernel
theorem dL_joined_3 : decode cL_joined 3 = .ok (.iload_n 1, 1) := by decide +kernel
theorem dL_joined_4 : decode cL_joined 4 = .ok (.iload_n 2, 1) := by decide +kernel
theorem dL_joined_5 : decode cL_joined 5 = .ok (.invokevirtual 106, 3) := by decide +kernel
theorem dL_joined_8 : decode cL_joined 8 = .ok (.i2l, 1) := by decide +kernel
theorem dL_joined_9 : decode cL_joined 9 = .ok (.lastore, 1) := by decide +kernel
theorem dL_joined_10 : decode cL_joined 10 = .ok (.goto 11, 3) := by decide +kernel
theorem dL_joined_13 : decode cL_joined 13 = .ok (.astore 4, 2) := by decide +kernel
theorem dL_joined_15 : decode cL_joined 15 = .ok (.iconst 1, 1) := by decide +kernel
theorem dL_joined_16 : decode cL_joined 16 = .ok (.ireturn, 1) := by decide +kernel
theorem dL_joined_17 : decode cL_joined 17 = .ok (.astore 4, 2) := by decide +kernel
theorem dL_joined_19 : decode cL_joined 19 = .ok (.iconst 2, 1) := by decide +kernel
theorem dL_joined_20 : decode cL_joined 20 = .ok (.ireturn, 1) := by decide +kernel
theorem dL_joined_21 : decode cL_joined 21 = .ok (.iconst 0, 1) := by decide +kernel
theorem dL_joined_22 : decode cL_joined 22 = .ok (.ireturn, 1) := by decide +kernel
theorem dL_moves_0 : decode cL_moves 0 = .ok (.aload_n 3, 1) := by decide +kernel
theorem dL_moves_1 : decode cL_moves 1 = .ok (.iconst 0, 1) := by decide +kernel
theorem dL_moves_2 : decode cL_moves 2 = .ok (.aload_n 0, 1) := by decide +kernel
theorem dL_moves_3 : decode cL_moves 3 = .ok (.iload_n 1, 1) := by decide +kernel
theorem dL_moves_4 : decode cL_moves 4 = .ok (.iload_n 2, 1) := by decide +kernel
theorem dL_moves_5 : decode cL_moves 5 = .ok (.invokevirtual 109, 3) := by decide +kernel
theorem dL_moves_8 : decode cL_moves 8 = .ok (.i2l, 1) := by decide +kernel
theorem dL_moves_9 : decode cL_moves 9 = .ok (.lastore, 1) := by decide +kernel
theorem dL_moves_10 : decode cL_moves 10 = .ok (.goto 7, 3) := by decide +kernel
theorem dL_moves_13 : decode cL_moves 13 = .ok (.astore 4, 2) := by decide +kernel
theorem dL_moves_15 : decode cL_moves 15 = .ok (.iconst 1, 1) := by decide +kernel
theorem dL_moves_16 : decode cL_moves 16 = .ok (.ireturn, 1) := by decide +kernel
theorem dL_moves_17 : decode cL_moves 17 = .ok (.iconst 0, 1) := by decide +kernel
theorem dL_moves_18 : decode cL_moves 18 = .ok (.ireturn, 1) := by decide +kernel
theorem dL_changes_0 : decode cL_changes 0 = .ok (.aload 5, 2) := by decide +kernel
theorem dL_changes_2 : decode cL_changes 2 = .ok (.iconst 0, 1) := by decide +kernel
theorem dL_changes_3 : decode cL_changes 3 = .ok (.aload_n 0, 1) := by decide +kernel
theorem dL_changes_4 : decode cL_changes 4 = .ok (.iload_n 1, 1) := by decide +kernel
theorem dL_changes_5 : decode cL_changes 5 = .ok (.iload_n 2, 1) := by decide +kernel
theorem dL_changes_6 : decode cL_changes 6 = .ok (.iload_n 3, 1) := by decide +kernel
theorem dL_changes_7 : decode cL_changes 7 = .ok (.iload 4, 2) := by decide +kernel
theorem dL_changes_9 : decode cL_changes 9 = .ok (.invokevirtual 112, 3) := by decide +kernel
theorem dL_changes_12 : decode cL_changes 12 = .ok (.i2l, 1) := by decide +kernel
theorem dL_changes_13 : decode cL_changes 13 = .ok (.lastore, 1) := by decide +kernel
theorem dL_changes_14 : decode cL_changes 14 = .ok (.goto 11, 3) := by decide +kernel
theorem dL_changes_17 : decode cL_changes 17 = .ok (.astore 6, 2) := by decide +kernel
theorem dL_changes_19 : decode cL_changes 19 = .ok (.iconst 1, 1) := by decide +kernel
theorem dL_changes_20 : decode cL_changes 20 = .ok (.ireturn, 1) := by decide +kernel
theorem dL_changes_21 : decode cL_changes 21 = .ok (.astore 6, 2) := by decide +kernel
theorem dL_changes_23 : decode cL_changes 23 = .ok (.iconst 2, 1) := by decide +kernel
theorem dL_changes_24 : decode cL_changes 24 = .ok (.ireturn, 1) := by decide +kernel
theorem dL_changes_25 : decode cL_changes 25 = .ok (.iconst 0, 1) := by decide +kernel
theorem dL_changes_26 : decode cL_changes 26 = .ok (.ireturn, 1) := by decide +kernel
theorem dL_share_0 : decode cL_share 0 = .ok (.aload 4, 2) := by decide +kernel
theorem dL_share_2 : decode cL_share 2 = .ok (.iconst 0, 1) := by decide +kernel
theorem dL_share_3 : decode cL_share 3 = .ok (.aload_n 0, 1) := by decide +kernel
theorem dL_share_4 : decode cL_share 4 = .ok (.iload_n 1, 1) := by decide +kernel
theorem dL_share_5 : decode cL_share 5 = .ok (.iload_n 2, 1) := by decide +kernel
theorem dL_share_6 : decode cL_share 6 = .ok (.iload_n 3, 1) := by decide +kernel
theorem dL_share_7 : decode cL_share 7 = .ok (.invokevirtual 115, 3) := by decide +kernel
theorem dL_share_10 : decode cL_share 10 = .ok (.i2l, 1) := by decide +kernel
theorem dL_share_11 : decode cL_share 11 = .ok (.lastore, 1) := by decide +kernel
theorem dL_share_12 : decode cL_share 12 = .ok (.goto 11, 3) := by decide +kernel
theorem dL_share_15 : decode cL_share 15 = .ok (.astore 5, 2) := by decide +kernel
theorem dL_share_17 : decode cL_share 17 = .ok (.iconst 1, 1) := by decide +kernel
theorem dL_share_18 : decode cL_share 18 = .ok (.ireturn, 1) := by decide +kernel
theorem dL_share_19 : decode cL_share 19 = .ok (.astore 5, 2) := by decide +kernel
theorem dL_share_21 : decode cL_share 21 = .ok (.iconst 2, 1) := by decide +kernel
theorem dL_share_22 : decode cL_share 22 = .ok (.ireturn, 1) := by decide +kernel
theorem dL_share_23 : decode cL_share 23 = .ok (.iconst 0, 1) := by decide +kernel
theorem dL_share_24 : decode cL_share 24 = .ok (.ireturn, 1) := by decide +kernel
theorem dL_likely_0 : decode cL_likely 0 = .ok (.aload 4, 2) := by decide +kernel
theorem dL_likely_2 : decode cL_likely 2 = .ok (.iconst 0, 1) := by decide +kernel
theorem dL_likely_3 : decode cL_likely 3 = .ok (.aload_n 0, 1) := by decide +kernel
theorem dL_likely_4 : decode cL_likely 4 = .ok (.iload_n 1, 1) := by decide +kernel
theorem dL_likely_5 : decode cL_likely 5 = .ok (.iload_n 2, 1) := by decide +kernel
theorem dL_likely_6 : decode cL_likely 6 = .ok (.iload_n 3, 1) := by decide +kernel
theorem dL_likely_7 : decode cL_likely 7 = .ok (.invokevirtual 118, 3) := by decide +kernel
theorem dL_likely_10 : decode cL_likely 10 = .ok (.i2l, 1) := by decide +kernel
theorem dL_likely_11 : decode cL_likely 11 = .ok (.lastore, 1) := by decide +kernel
theorem dL_likely_12 : decode cL_likely 12 = .ok (.goto 11, 3) := by decide +kernel
theorem dL_likely_15 : decode cL_likely 15 = .ok (.astore 5, 2) := by decide +kernel
theorem dL_likely_17 : decode cL_likely 17 = .ok (.iconst 1, 1) := by decide +kernel
theorem dL_likely_18 : decode cL_likely 18 = .ok (.ireturn, 1) := by decide +kernel
theorem dL_likely_19 : decode cL_likely 19 = .ok (.astore 5, 2) := by decide +kernel
theorem dL_likely_21 : decode cL_likely 21 = .ok (.iconst 2, 1) := by decide +kernel
theorem dL_likely_22 : decode cL_likely 22 = .ok (.ireturn, 1) := by decide +kernel
theorem dL_likely_23 : decode cL_likely 23 = .ok (.iconst 0, 1) := by decide +kernel
theorem dL_likely_24 : decode cL_likely 24 = .ok (.ireturn, 1) := by decide +kernel
theorem dL_keep_0 : decode cL_keep 0 = .ok (.aload 4, 2) := by decide +kernel
theorem dL_keep_2 : decode cL_keep 2 = .ok (.iconst 0, 1) := by decide +kernel
theorem dL_keep_3 : decode cL_keep 3 = .ok (.aload_n 0, 1) := by decide +kernel
theorem dL_keep_4 : decode cL_keep 4 = .ok (.iload_n 1, 1) := by decide +kernel
theorem dL_keep_5 : decode cL_keep 5 = .ok (.iload_n 2, 1) := by decide +kernel
theorem dL_keep_6 : decode cL_keep 6 = .ok (.iload_n 3, 1) := by decide +kernel
theorem dL_keep_7 : decode cL_keep 7 = .ok (.invokevirtual 121, 3) := by decide +kernel
theorem dL_keep_10 : decode cL_keep 10 = .ok (.i2l, 1) := by decide +kernel
theorem dL_keep_11 : decode cL_keep 11 = .ok (.lastore, 1) := by decide +kernel
theorem dL_keep_12 : decode cL_keep 12 = .ok (.goto 11, 3) := by decide +kernel
theorem dL_keep_15 : decode cL_keep 15 = .ok (.astore 5, 2) := by decide +kernel
theorem dL_keep_17 : decode cL_keep 17 = .ok (.iconst 1, 1) := by decide +kernel
theorem dL_keep_18 : decode cL_keep 18 = .ok (.ireturn, 1) := by decide +kernel
theorem dL_keep_19 : decode cL_keep 19 = .ok (.astore 5, 2) := by decide +kernel
theorem dL_keep_21 : decode cL_keep 21 = .ok (.iconst 2, 1) := by decide +kernel
theorem dL_keep_22 : decode cL_keep 22 = .ok (.ireturn, 1) := by decide +kernel
theorem dL_keep_23 : decode cL_keep 23 = .ok (.iconst 0, 1) := by decide +kernel
theorem dL_keep_24 : decode cL_keep 24 = .ok (.ireturn, 1) := by decide +kernel
theorem dL_came_0 : decode cL_came 0 = .ok (.aload_n 3, 1) := by decide +kernel
theorem dL_came_1 : decode cL_came 1 = .ok (.iconst 0, 1) := by decide +kernel
theorem dL_came_2 : decode cL_came 2 = .ok (.aload_n 0, 1) := by decide +kernel
theorem dL_came_3 : decode cL_came 3 = .ok (.iload_n 1, 1) := by decide +kernel
theorem dL_came_4 : decode cL_came 4 = .ok (.iload_n 2, 1) := by decide +kernel
theorem dL_came_5 : decode cL_came 5 = .ok (.invokevirtual 124, 3) := by decide +kernel
theorem dL_came_8 : decode cL_came 8 = .ok (.ifCond .eq 7, 3) := by decide +kernel
theorem dL_came_11 : decode cL_came 11 = .ok (.lconst 1, 1) := by decide +kernel
theorem dL_came_12 : decode cL_came 12 = .ok (.goto 4, 3) := by decide +kernel
theorem dL_came_15 : decode cL_came 15 = .ok (.lconst 0, 1) := by decide +kernel
theorem dL_came_16 : decode cL_came 16 = .ok (.lastore, 1) := by decide +kernel
theorem dL_came_17 : decode cL_came 17 = .ok (.goto 11, 3) := by decide +kernel
theorem dL_came_20 : decode cL_came 20 = .ok (.astore 4, 2) := by decide +kernel
theorem dL_came_22 : decode cL_came 22 = .ok (.iconst 1, 1) := by decide +kernel
theorem dL_came_23 : decode cL_came 23 = .ok (.ireturn, 1) := by decide +kernel
theorem dL_came_24 : decode cL_came 24 = .ok (.astore 4, 2) := by decide +kernel
theorem dL_came_26 : decode cL_came 26 = .ok (.iconst 2, 1) := by decide +kernel
theorem dL_came_27 : decode cL_came 27 = .ok (.ireturn, 1) := by decide +kernel
theorem dL_came_28 : decode cL_came 28 = .ok (.iconst 0, 1) := by decide +kernel
theorem dL_came_29 : decode cL_came 29 = .ok (.ireturn, 1) := by decide +kernel
theorem dL_stopped_0 : decode cL_stopped 0 = .ok (.aload_n 3, 1) := by decide +kernel
theorem dL_stopped_1 : decode cL_stopped 1 = .ok (.iconst 0, 1) := by decide +kernel
theorem dL_stopped_2 : decode cL_stopped 2 = .ok (.aload_n 0, 1) := by decide +kernel
theorem dL_stopped_3 : decode cL_stopped 3 = .ok (.iload_n 1, 1) := by decide +kernel
theorem dL_stopped_4 : decode cL_stopped 4 = .ok (.iload_n 2, 1) := by decide +kernel
theorem dL_stopped_5 : decode cL_stopped 5 = .ok (.invokevirtual 127, 3) := by decide +kernel
theorem dL_stopped_8 : decode cL_stopped 8 = .ok (.ifCond .eq 7, 3) := by decide +kernel
theorem dL_stopped_11 : decode cL_stopped 11 = .ok (.lconst 1, 1) := by decide +kernel
theorem dL_stopped_12 : decode cL_stopped 12 = .ok (.goto 4, 3) := by decide +kernel
theorem dL_stopped_15 : decode cL_stopped 15 = .ok (.lconst 0, 1) := by decide +kernel
theorem dL_stopped_16 : decode cL_stopped 16 = .ok (.lastore, 1) := by decide +kernel
theorem dL_stopped_17 : decode cL_stopped 17 = .ok (.goto 11, 3) := by decide +kernel
theorem dL_stopped_20 : decode cL_stopped 20 = .ok (.astore 4, 2) := by decide +kernel
theorem dL_stopped_22 : decode cL_stopped 22 = .ok (.iconst 1, 1) := by decide +kernel
theorem dL_stopped_23 : decode cL_stopped 23 = .ok (.ireturn, 1) := by decide +kernel
theorem dL_stopped_24 : decode cL_stopped 24 = .ok (.astore 4, 2) := by decide +kernel
theorem dL_stopped_26 : decode cL_stopped 26 = .ok (.iconst 2, 1) := by decide +kernel
theorem dL_stopped_27 : decode cL_stopped 27 = .ok (.ireturn, 1) := by decide +kernel
theorem dL_stopped_28 : decode cL_stopped 28 = .ok (.iconst 0, 1) := by decide +kernel
theorem dL_stopped_29 : decode cL_stopped 29 = .ok (.ireturn, 1) := by decide +kernel
theorem dL_guess_0 : decode cL_guess 0 = .ok (.aload_n 3, 1) := by decide +kernel
theorem dL_guess_1 : decode cL_guess 1 = .ok (.iconst 0, 1) := by decide +kernel
theorem dL_guess_2 : decode cL_guess 2 = .ok (.aload_n 0, 1) := by decide +kernel
theorem dL_guess_3 : decode cL_guess 3 = .ok (.lload_n 1, 1) := by decide +kernel
theorem dL_guess_4 : decode cL_guess 4 = .ok (.invokevirtual 130, 3) := by decide +kernel
theorem dL_guess_7 : decode cL_guess 7 = .ok (.i2l, 1) := by decide +kernel
theorem dL_guess_8 : decode cL_guess 8 = .ok (.lastore, 1) := by decide +kernel
theorem dL_guess_9 : decode cL_guess 9 = .ok (.goto 7, 3) := by decide +kernel
theorem dL_guess_12 : decode cL_guess 12 = .ok (.astore 4, 2) := by decide +kernel
theorem dL_guess_14 : decode cL_guess 14 = .ok (.iconst 1, 1) := by decide +kernel
theorem dL_guess_15 : decode cL_guess 15 = .ok (.ireturn, 1) := by decide +kernel
theorem dL_guess_16 : decode cL_guess 16 = .ok (.iconst 0, 1) := by decide +kernel
theorem dL_guess_17 : decode cL_guess 17 = .ok (.ireturn, 1) := by decide +kernel
theorem dL_homes_0 : decode cL_homes 0 = .ok (.aload_n 3, 1) := by decide +kernel
theorem dL_homes_1 : decode cL_homes 1 = .ok (.iconst 0, 1) := by decide +kernel
theorem dL_homes_2 : decode cL_homes 2 = .ok (.aload_n 0, 1) := by decide +kernel
theorem dL_homes_3 : decode cL_homes 3 = .ok (.iload_n 1, 1) := by decide +kernel
theorem dL_homes_4 : decode cL_homes 4 = .ok (.iload_n 2, 1) := by decide +kernel
theorem dL_homes_5 : decode cL_homes 5 = .ok (.invokevirtual 134, 3) := by decide +kernel
theorem dL_homes_8 : decode cL_homes 8 = .ok (.i2l, 1) := by decide +kernel
theorem dL_homes_9 : decode cL_homes 9 = .ok (.lastore, 1) := by decide +kernel
theorem dL_homes_10 : decode cL_homes 10 = .ok (.goto 7, 3) := by decide +kernel
theorem dL_homes_13 : decode cL_homes 13 = .ok (.astore 4, 2) := by decide +kernel
theorem dL_homes_15 : decode cL_homes 15 = .ok (.iconst 1, 1) := by decide +kernel
theorem dL_homes_16 : decode cL_homes 16 = .ok (.ireturn, 1) := by decide +kernel
theorem dL_homes_17 : decode cL_homes 17 = .ok (.iconst 0, 1) := by decide +kernel
theorem dL_homes_18 : decode cL_homes 18 = .ok (.ireturn, 1) := by decide +kernel
theorem dL_look_0 : decode cL_look 0 = .ok (.aload 6, 2) := by decide +kernel
theorem dL_look_2 : decode cL_look 2 = .ok (.iconst 0, 1) := by decide +kernel
theorem dL_look_3 : decode cL_look 3 = .ok (.aload_n 0, 1) := by decide +kernel
theorem dL_look_4 : decode cL_look 4 = .ok (.lload_n 1, 1) := by decide +kernel
theorem dL_look_5 : decode cL_look 5 = .ok (.iload_n 3, 1) := by decide +kernel
theorem dL_look_6 : decode cL_look 6 = .ok (.iload 4, 2) := by decide +kernel
theorem dL_look_8 : decode cL_look 8 = .ok (.iload 5, 2) := by decide +kernel
theorem dL_look_10 : decode cL_look 10 = .ok (.invokevirtual 137, 3) := by decide +kernel
theorem dL_look_13 : decode cL_look 13 = .ok (.i2l, 1) := by decide +kernel
theorem dL_look_14 : decode cL_look 14 = .ok (.lastore, 1) := by decide +kernel
theorem dL_look_15 : decode cL_look 15 = .ok (.goto 11, 3) := by decide +kernel
theorem dL_look_18 : decode cL_look 18 = .ok (.astore 7, 2) := by decide +kernel
theorem dL_look_20 : decode cL_look 20 = .ok (.iconst 1, 1) := by decide +kernel
theorem dL_look_21 : decode cL_look 21 = .ok (.ireturn, 1) := by decide +kernel
theorem dL_look_22 : decode cL_look 22 = .ok (.astore 7, 2) := by decide +kernel
theorem dL_look_24 : decode cL_look 24 = .ok (.iconst 2, 1) := by decide +kernel
theorem dL_look_25 : decode cL_look 25 = .ok (.ireturn, 1) := by decide +kernel
theorem dL_look_26 : decode cL_look 26 = .ok (.iconst 0, 1) := by decide +kernel
theorem dL_look_27 : decode cL_look 27 = .ok (.ireturn, 1) := by decide +kernel
theorem dL_others_0 : decode cL_others 0 = .ok (.aload 5, 2) := by decide +kernel
theorem dL_others_2 : decode cL_others 2 = .ok (.iconst 0, 1) := by decide +kernel
theorem dL_others_3 : decode cL_others 3 = .ok (.aload_n 0, 1) := by decide +kernel
theorem dL_others_4 : decode cL_others 4 = .ok (.iload_n 1, 1) := by decide +kernel
theorem dL_others_5 : decode cL_others 5 = .ok (.iload_n 2, 1) := by decide +kernel
theorem dL_others_6 : decode cL_others 6 = .ok (.iload_n 3, 1) := by decide +kernel
theorem dL_others_7 : decode cL_others 7 = .ok (.iload 4, 2) := by decide +kernel
theorem dL_others_9 : decode cL_others 9 = .ok (.invokevirtual 141, 3) := by decide +kernel
theorem dL_others_12 : decode cL_others 12 = .ok (.i2l, 1) := by decide +kernel
theorem dL_others_13 : decode cL_others 13 = .ok (.lastore, 1) := by decide +kernel
theorem dL_others_14 : decode cL_others 14 = .ok (.goto 7, 3) := by decide +kernel
theorem dL_others_17 : decode cL_others 17 = .ok (.astore 6, 2) := by decide +kernel
theorem dL_others_19 : decode cL_others 19 = .ok (.iconst 1, 1) := by decide +kernel
theorem dL_others_20 : decode cL_others 20 = .ok (.ireturn, 1) := by decide +kernel
theorem dL_others_21 : decode cL_others 21 = .ok (.iconst 0, 1) := by decide +kernel
theorem dL_others_22 : decode cL_others 22 = .ok (.ireturn, 1) := by decide +kernel
theorem dL_lots_0 : decode cL_lots 0 = .ok (.aload 6, 2) := by decide +kernel
theorem dL_lots_2 : decode cL_lots 2 = .ok (.iconst 0, 1) := by decide +kernel
theorem dL_lots_3 : decode cL_lots 3 = .ok (.aload_n 0, 1) := by decide +kernel
theorem dL_lots_4 : decode cL_lots 4 = .ok (.iload_n 1, 1) := by decide +kernel
theorem dL_lots_5 : decode cL_lots 5 = .ok (.iload_n 2, 1) := by decide +kernel
theorem dL_lots_6 : decode cL_lots 6 = .ok (.iload_n 3, 1) := by decide +kernel
theorem dL_lots_7 : decode cL_lots 7 = .ok (.iload 4, 2) := by decide +kernel
theorem dL_lots_9 : decode cL_lots 9 = .ok (.iload 5, 2) := by decide +kernel
theorem dL_lots_11 : decode cL_lots 11 = .ok (.invokevirtual 145, 3) := by decide +kernel
theorem dL_lots_14 : decode cL_lots 14 = .ok (.i2l, 1) := by decide +kernel
theorem dL_lots_15 : decode cL_lots 15 = .ok (.lastore, 1) := by decide +kernel
theorem dL_lots_16 : decode cL_lots 16 = .ok (.goto 15, 3) := by decide +kernel
theorem dL_lots_19 : decode cL_lots 19 = .ok (.astore 7, 2) := by decide +kernel
theorem dL_lots_21 : decode cL_lots 21 = .ok (.iconst 1, 1) := by decide +kernel
theorem dL_lots_22 : decode cL_lots 22 = .ok (.ireturn, 1) := by decide +kernel
theorem dL_lots_23 : decode cL_lots 23 = .ok (.astore 7, 2) := by decide +kernel
theorem dL_lots_25 : decode cL_lots 25 = .ok (.iconst 2, 1) := by decide +kernel
theorem dL_lots_26 : decode cL_lots 26 = .ok (.ireturn, 1) := by decide +kernel
theorem dL_lots_27 : decode cL_lots 27 = .ok (.astore 7, 2) := by decide +kernel
theorem dL_lots_29 : decode cL_lots 29 = .ok (.iconst 3, 1) := by decide +kernel
theorem dL_lots_30 : decode cL_lots 30 = .ok (.ireturn, 1) := by decide +kernel
theorem dL_lots_31 : decode cL_lots 31 = .ok (.iconst 0, 1) := by decide +kernel
theorem dL_lots_32 : decode cL_lots 32 = .ok (.ireturn, 1) := by decide +kernel
theorem dL_text_0 : decode cL_text 0 = .ok (.aload_n 2, 1) := by decide +kernel
theorem dL_text_1 : decode cL_text 1 = .ok (.iconst 0, 1) := by decide +kernel
theorem dL_text_2 : decode cL_text 2 = .ok (.aload_n 0, 1) := by decide +kernel
theorem dL_text_3 : decode cL_text 3 = .ok (.iload_n 1, 1) := by decide +kernel
theorem dL_text_4 : decode cL_text 4 = .ok (.invokevirtual 149, 3) := by decide +kernel
theorem dL_text_7 : decode cL_text 7 = .ok (.i2l, 1) := by decide +kernel
theorem dL_text_8 : decode cL_text 8 = .ok (.lastore, 1) := by decide +kernel
theorem dL_text_9 : decode cL_text 9 = .ok (.goto 6, 3) := by decide +kernel
theorem dL_text_12 : decode cL_text 12 = .ok (.astore_n 3, 1) := by decide +kernel
theorem dL_text_13 : decode cL_text 13 = .ok (.iconst 1, 1) := by decide +kernel
theorem dL_text_14 : decode cL_text 14 = .ok (.ireturn, 1) := by decide +kernel
theorem dL_text_15 : decode cL_text 15 = .ok (.iconst 0, 1) := by decide +kernel
theorem dL_text_16 : decode cL_text 16 = .ok (.ireturn, 1) := by decide +kernel
theorem dL_may_0 : decode cL_may 0 = .ok (.aload_n 3, 1) := by decide +kernel
theorem dL_may_1 : decode cL_may 1 = .ok (.iconst 0, 1) := by decide +kernel
theorem dL_may_2 : decode cL_may 2 = .ok (.aload_n 0, 1) := by decide +kernel
theorem dL_may_3 : decode cL_may 3 = .ok (.iload_n 1, 1) := by decide +kernel
theorem dL_may_4 : decode cL_may 4 = .ok (.iload_n 2, 1) := by decide +kernel
theorem dL_may_5 : decode cL_may 5 = .ok (.invokevirtual 152, 3) := by decide +kernel
theorem dL_may_8 : decode cL_may 8 = .ok (.ifCond .eq 7, 3) := by decide +kernel
theorem dL_may_11 : decode cL_may 11 = .ok (.lconst 1, 1) := by decide +kernel
theorem dL_may_12 : decode cL_may 12 = .ok (.goto 4, 3) := by decide +kernel
theorem dL_may_15 : decode cL_may 15 = .ok (.lconst 0, 1) := by decide +kernel
theorem dL_may_16 : decode cL_may 16 = .ok (.lastore, 1) := by decide +kernel
theorem dL_may_17 : decode cL_may 17 = .ok (.goto 7, 3) := by decide +kernel
theorem dL_may_20 : decode cL_may 20 = .ok (.astore 4, 2) := by decide +kernel
theorem dL_may_22 : decode cL_may 22 = .ok (.iconst 1, 1) := by decide +kernel
theorem dL_may_23 : decode cL_may 23 = .ok (.ireturn, 1) := by decide +kernel
theorem dL_may_24 : decode cL_may 24 = .ok (.iconst 0, 1) := by decide +kernel
theorem dL_may_25 : decode cL_may 25 = .ok (.ireturn, 1) := by decide +kernel
theorem dL_kept_0 : decode cL_kept 0 = .ok (.aload_n 2, 1) := by decide +kernel
theorem dL_kept_1 : decode cL_kept 1 = .ok (.iconst 0, 1) := by decide +kernel
theorem dL_kept_2 : decode cL_kept 2 = .ok (.aload_n 0, 1) := by decide +kernel
theorem dL_kept_3 : decode cL_kept 3 = .ok (.iload_n 1, 1) := by decide +kernel
theorem dL_kept_4 : decode cL_kept 4 = .ok (.invokevirtual 155, 3) := by decide +kernel
theorem dL_kept_7 : decode cL_kept 7 = .ok (.i2l, 1) := by decide +kernel
theorem dL_kept_8 : decode cL_kept 8 = .ok (.lastore, 1) := by decide +kernel
theorem dL_kept_9 : decode cL_kept 9 = .ok (.goto 6, 3) := by decide +kernel
theorem dL_kept_12 : decode cL_kept 12 = .ok (.astore_n 3, 1) := by decide +kernel
theorem dL_kept_13 : decode cL_kept 13 = .ok (.iconst 1, 1) := by decide +kernel
theorem dL_kept_14 : decode cL_kept 14 = .ok (.ireturn, 1) := by decide +kernel
theorem dL_kept_15 : decode cL_kept 15 = .ok (.iconst 0, 1) := by decide +kernel
theorem dL_kept_16 : decode cL_kept 16 = .ok (.ireturn, 1) := by decide +kernel
theorem dL_tray_0 : decode cL_tray 0 = .ok (.aload_n 0, 1) := by decide +kernel
theorem dL_tray_1 : decode cL_tray 1 = .ok (.iload_n 1, 1) := by decide +kernel
theorem dL_tray_2 : decode cL_tray 2 = .ok (.iload_n 2, 1) := by decide +kernel
theorem dL_tray_3 : decode cL_tray 3 = .ok (.iload_n 3, 1) := by decide +kernel
theorem dL_tray_4 : decode cL_tray 4 = .ok (.invokevirtual 158, 3) := by decide +kernel
theorem dL_tray_7 : decode cL_tray 7 = .ok (.goto 11, 3) := by decide +kernel
theorem dL_tray_10 : decode cL_tray 10 = .ok (.astore 4, 2) := by decide +kernel
theorem dL_tray_12 : decode cL_tray 12 = .ok (.iconst 1, 1) := by decide +kernel
theorem dL_tray_13 : decode cL_tray 13 = .ok (.ireturn, 1) := by decide +kernel
theorem dL_tray_14 : decode cL_tray 14 = .ok (.astore 4, 2) := by decide +kernel
theorem dL_tray_16 : decode cL_tray 16 = .ok (.iconst 2, 1) := by decide +kernel
theorem dL_tray_17 : decode cL_tray 17 = .ok (.ireturn, 1) := by decide +kernel
theorem dL_tray_18 : decode cL_tray 18 = .ok (.iconst 0, 1) := by decide +kernel
theorem dL_tray_19 : decode cL_tray 19 = .ok (.ireturn, 1) := by decide +kernel
theorem dL_write_0 : decode cL_write 0 = .ok (.aload 5, 2) := by decide +kernel
theorem dL_write_2 : decode cL_write 2 = .ok (.iconst 0, 1) := by decide +kernel
theorem dL_write_3 : decode cL_write 3 = .ok (.aload_n 0, 1) := by decide +kernel
theorem dL_write_4 : decode cL_write 4 = .ok (.iload_n 1, 1) := by decide +kernel
theorem dL_write_5 : decode cL_write 5 = .ok (.iload_n 2, 1) := by decide +kernel
theorem dL_write_6 : decode cL_write 6 = .ok (.lload_n 3, 1) := by decide +kernel
theorem dL_write_7 : decode cL_write 7 = .ok (.invokevirtual 161, 3) := by decide +kernel
theorem dL_write_10 : decode cL_write 10 = .ok (.lastore, 1) := by decide +kernel
theorem dL_write_11 : decode cL_write 11 = .ok (.goto 15, 3) := by decide +kernel
theorem dL_write_14 : decode cL_write 14 = .ok (.astore 6, 2) := by decide +kernel
theorem dL_write_16 : decode cL_write 16 = .ok (.iconst 1, 1) := by decide +kernel
theorem dL_write_17 : decode cL_write 17 = .ok (.ireturn, 1) := by decide +kernel
theorem dL_write_18 : decode cL_write 18 = .ok (.astore 6, 2) := by decide +kernel
theorem dL_write_20 : decode cL_write 20 = .ok (.iconst 2, 1) := by decide +kernel
theorem dL_write_21 : decode cL_write 21 = .ok (.ireturn, 1) := by decide +kernel
theorem dL_write_22 : decode cL_write 22 = .ok (.astore 6, 2) := by decide +kernel
theorem dL_write_24 : decode cL_write 24 = .ok (.iconst 3, 1) := by decide +kernel
theorem dL_write_25 : decode cL_write 25 = .ok (.ireturn, 1) := by decide +kernel
theorem dL_write_26 : decode cL_write 26 = .ok (.iconst 0, 1) := by decide +kernel
theorem dL_write_27 : decode cL_write 27 = .ok (.ireturn, 1) := by decide +kernel
theorem dL_take_0 : decode cL_take 0 = .ok (.aload_n 3, 1) := by decide +kernel
theorem dL_take_1 : decode cL_take 1 = .ok (.iconst 0, 1) := by decide +kernel
theorem dL_take_2 : decode cL_take 2 = .ok (.aload_n 0, 1) := by decide +kernel
theorem dL_take_3 : decode cL_take 3 = .ok (.iload_n 1, 1) := by decide +kernel
theorem dL_take_4 : decode cL_take 4 = .ok (.iload_n 2, 1) := by decide +kernel
theorem dL_take_5 : decode cL_take 5 = .ok (.invokevirtual 167, 3) := by decide +kernel
theorem dL_take_8 : decode cL_take 8 = .ok (.i2l, 1) := by decide +kernel
theorem dL_take_9 : decode cL_take 9 = .ok (.lastore, 1) := by decide +kernel
theorem dL_take_10 : decode cL_take 10 = .ok (.goto 15, 3) := by decide +kernel
theorem dL_take_13 : decode cL_take 13 = .ok (.astore 4, 2) := by decide +kernel
theorem dL_take_15 : decode cL_take 15 = .ok (.iconst 1, 1) := by decide +kernel
theorem dL_take_16 : decode cL_take 16 = .ok (.ireturn, 1) := by decide +kernel
theorem dL_take_17 : decode cL_take 17 = .ok (.astore 4, 2) := by decide +kernel
theorem dL_take_19 : decode cL_take 19 = .ok (.iconst 2, 1) := by decide +kernel
theorem dL_take_20 : decode cL_take 20 = .ok (.ireturn, 1) := by decide +kernel
theorem dL_take_21 : decode cL_take 21 = .ok (.astore 4, 2) := by decide +kernel
theorem dL_take_23 : decode cL_take 23 = .ok (.iconst 3, 1) := by decide +kernel
theorem dL_take_24 : decode cL_take 24 = .ok (.ireturn, 1) := by decide +kernel
theorem dL_take_25 : decode cL_take 25 = .ok (.iconst 0, 1) := by decide +kernel
theorem dL_take_26 : decode cL_take 26 = .ok (.ireturn, 1) := by decide +kernel
theorem dL_check_0 : decode cL_check 0 = .ok (.aload 5, 2) := by decide +kernel
theorem dL_check_2 : decode cL_check 2 = .ok (.iconst 0, 1) := by decide +kernel
theorem dL_check_3 : decode cL_check 3 = .ok (.aload_n 0, 1) := by decide +kernel
theorem dL_check_4 : decode cL_check 4 = .ok (.lload_n 1, 1) := by decide +kernel
theorem dL_check_5 : decode cL_check 5 = .ok (.iload_n 3, 1) := by decide +kernel
theorem dL_check_6 : decode cL_check 6 = .ok (.iload 4, 2) := by decide +kernel
theorem dL_check_8 : decode cL_check 8 = .ok (.invokevirtual 170, 3) := by decide +kernel
theorem dL_check_11 : decode cL_check 11 = .ok (.i2l, 1) := by decide +kernel
theorem dL_check_12 : decode cL_check 12 = .ok (.lastore, 1) := by decide +kernel
theorem dL_check_13 : decode cL_check 13 = .ok (.goto 11, 3) := by decide +kernel
theorem dL_check_16 : decode cL_check 16 = .ok (.astore 6, 2) := by decide +kernel
theorem dL_check_18 : decode cL_check 18 = .ok (.iconst 1, 1) := by decide +kernel
theorem dL_check_19 : decode cL_check 19 = .ok (.ireturn, 1) := by decide +kernel
theorem dL_check_20 : decode cL_check 20 = .ok (.astore 6, 2) := by decide +kernel
theorem dL_check_22 : decode cL_check 22 = .ok (.iconst 2, 1) := by decide +kernel
theorem dL_check_23 : decode cL_check 23 = .ok (.ireturn, 1) := by decide +kernel
theorem dL_check_24 : decode cL_check 24 = .ok (.iconst 0, 1) := by decide +kernel
theorem dL_check_25 : decode cL_check 25 = .ok (.ireturn, 1) := by decide +kernel
