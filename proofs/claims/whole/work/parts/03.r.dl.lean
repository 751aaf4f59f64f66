theorem dL_appendText_0 : decode cL_appendText 0 = .ok (.aload_n 2, 1) := by decide +kernel
theorem dL_appendText_1 : decode cL_appendText 1 = .ok (.iconst 0, 1) := by decide +kernel
theorem dL_appendText_2 : decode cL_appendText 2 = .ok (.aload_n 0, 1) := by decide +kernel
theorem dL_appendText_3 : decode cL_appendText 3 = .ok (.iload_n 1, 1) := by decide +kernel
theorem dL_appendText_4 : decode cL_appendText 4 = .ok (.invokevirtual 7, 3) := by decide +kernel
theorem dL_appendText_7 : decode cL_appendText 7 = .ok (.i2l, 1) := by decide +kernel
theorem dL_appendText_8 : decode cL_appendText 8 = .ok (.lastore, 1) := by decide +kernel
theorem dL_appendText_9 : decode cL_appendText 9 = .ok (.goto 6, 3) := by decide +kernel
theorem dL_appendText_12 : decode cL_appendText 12 = .ok (.astore_n 3, 1) := by decide +kernel
theorem dL_appendText_13 : decode cL_appendText 13 = .ok (.iconst 1, 1) := by decide +kernel
theorem dL_appendText_14 : decode cL_appendText 14 = .ok (.ireturn, 1) := by decide +kernel
theorem dL_appendText_15 : decode cL_appendText 15 = .ok (.iconst 0, 1) := by decide +kernel
theorem dL_appendText_16 : decode cL_appendText 16 = .ok (.ireturn, 1) := by decide +kernel
theorem dL_truncateText_0 : decode cL_truncateText 0 = .ok (.aload_n 2, 1) := by decide +kernel
theorem dL_truncateText_1 : decode cL_truncateText 1 = .ok (.iconst 0, 1) := by decide +kernel
theorem dL_truncateText_2 : decode cL_truncateText 2 = .ok (.aload_n 0, 1) := by decide +kernel
theorem dL_truncateText_3 : decode cL_truncateText 3 = .ok (.iload_n 1, 1) := by decide +kernel
theorem dL_truncateText_4 : decode cL_truncateText 4 = .ok (.invokevirtual 15, 3) := by decide +kernel
theorem dL_truncateText_7 : decode cL_truncateText 7 = .ok (.i2l, 1) := by decide +kernel
theorem dL_truncateText_8 : decode cL_truncateText 8 = .ok (.lastore, 1) := by decide +kernel
theorem dL_truncateText_9 : decode cL_truncateText 9 = .ok (.goto 6, 3) := by decide +kernel
theorem dL_truncateText_12 : decode cL_truncateText 12 = .ok (.astore_n 3, 1) := by decide +kernel
theorem dL_truncateText_13 : decode cL_truncateText 13 = .ok (.iconst 1, 1) := by decide +kernel
theorem dL_truncateText_14 : decode cL_truncateText 14 = .ok (.ireturn, 1) := by decide +kernel
theorem dL_truncateText_15 : decode cL_truncateText 15 = .ok (.iconst 0, 1) := by decide +kernel
theorem dL_truncateText_16 : decode cL_truncateText 16 = .ok (.ireturn, 1) := by decide +kernel
theorem dL_count_0 : decode cL_count 0 = .ok (.aload_n 2, 1) := by decide +kernel
theorem dL_count_1 : decode cL_count 1 = .ok (.iconst 0, 1) := by decide +kernel
theorem dL_count_2 : decode cL_count 2 = .ok (.aload_n 0, 1) := by decide +kernel
theorem dL_count_3 : decode cL_count 3 = .ok (.iload_n 1, 1) := by decide +kernel
theorem dL_count_4 : decode cL_count 4 = .ok (.invokevirtual 20, 3) := by decide +kernel
theorem dL_count_7 : decode cL_count 7 = .ok (.i2l, 1) := by decide +kernel
theorem dL_count_8 : decode cL_count 8 = .ok (.lastore, 1) := by decide +kernel
theorem dL_count_9 : decode cL_count 9 = .ok (.goto 6, 3) := by decide +kernel
theorem dL_count_12 : decode cL_count 12 = .ok (.astore_n 3, 1) := by decide +kernel
theorem dL_count_13 : decode cL_count 13 = .ok (.iconst 1, 1) := by decide +kernel
theorem dL_count_14 : decode cL_count 14 = .ok (.ireturn, 1) := by decide +kernel
theorem dL_count_15 : decode cL_count 15 = .ok (.iconst 0, 1) := by decide +kernel
theorem dL_count_16 : decode cL_count 16 = .ok (.ireturn, 1) := by decide +kernel
theorem dL_dot_0 : decode cL_dot 0 = .ok (.aload_n 3, 1) := by decide +kernel
theorem dL_dot_1 : decode cL_dot 1 = .ok (.iconst 0, 1) := by decide +kernel
theorem dL_dot_2 : decode cL_dot 2 = .ok (.aload_n 0, 1) := by decide +kernel
theorem dL_dot_3 : decode cL_dot 3 = .ok (.iload_n 1, 1) := by decide +kernel
theorem dL_dot_4 : decode cL_dot 4 = .ok (.iload_n 2, 1) := by decide +kernel
theorem dL_dot_5 : decode cL_dot 5 = .ok (.invokevirtual 23, 3) := by decide +kernel
theorem dL_dot_8 : decode cL_dot 8 = .ok (.i2l, 1) := by decide +kernel
theorem dL_dot_9 : decode cL_dot 9 = .ok (.lastore, 1) := by decide +kernel
theorem dL_dot_10 : decode cL_dot 10 = .ok (.goto 7, 3) := by decide +kernel
theorem dL_dot_13 : decode cL_dot 13 = .ok (.astore 4, 2) := by decide +kernel
theorem dL_dot_15 : decode cL_dot 15 = .ok (.iconst 1, 1) := by decide +kernel
theorem dL_dot_16 : decode cL_dot 16 = .ok (.ireturn, 1) := by decide +kernel
theorem dL_dot_17 : decode cL_dot 17 = .ok (.iconst 0, 1) := by decide +kernel
theorem dL_dot_18 : decode cL_dot 18 = .ok (.ireturn, 1) := by decide +kernel
theorem dL_line_0 : decode cL_line 0 = .ok (.aload_n 3, 1) := by decide +kernel
theorem dL_line_1 : decode cL_line 1 = .ok (.iconst 0, 1) := by decide +kernel
theorem dL_line_2 : decode cL_line 2 = .ok (.aload_n 0, 1) := by decide +kernel
theorem dL_line_3 : decode cL_line 3 = .ok (.iload_n 1, 1) := by decide +kernel
theorem dL_line_4 : decode cL_line 4 = .ok (.iload_n 2, 1) := by decide +kernel
theorem dL_line_5 : decode cL_line 5 = .ok (.invokevirtual 29, 3) := by decide +kernel
theorem dL_line_8 : decode cL_line 8 = .ok (.i2l, 1) := by decide +kernel
theorem dL_line_9 : decode cL_line 9 = .ok (.lastore, 1) := by decide +kernel
theorem dL_line_10 : decode cL_line 10 = .ok (.goto 11, 3) := by decide +kernel
theorem dL_line_13 : decode cL_line 13 = .ok (.astore 4, 2) := by decide +kernel
theorem dL_line_15 : decode cL_line 15 = .ok (.iconst 1, 1) := by decide +kernel
theorem dL_line_16 : decode cL_line 16 = .ok (.ireturn, 1) := by decide +kernel
theorem dL_line_17 : decode cL_line 17 = .ok (.astore 4, 2) := by decide +kernel
theorem dL_line_19 : decode cL_line 19 = .ok (.iconst 2, 1) := by decide +kernel
theorem dL_line_20 : decode cL_line 20 = .ok (.ireturn, 1) := by decide +kernel
theorem dL_line_21 : decode cL_line 21 = .ok (.iconst 0, 1) := by decide +kernel
theorem dL_line_22 : decode cL_line 22 = .ok (.ireturn, 1) := by decide +kernel
theorem dL_run_0 : decode cL_run 0 = .ok (.aload_n 3, 1) := by decide +kernel
theorem dL_run_1 : decode cL_run 1 = .ok (.iconst 0, 1) := by decide +kernel
theorem dL_run_2 : decode cL_run 2 = .ok (.aload_n 0, 1) := by decide +kernel
theorem dL_run_3 : decode cL_run 3 = .ok (.iload_n 1, 1) := by decide +kernel
theorem dL_run_4 : decode cL_run 4 = .ok (.iload_n 2, 1) := by decide +kernel
theorem dL_run_5 : decode cL_run 5 = .ok (.invokevirtual 32, 3) := by decide +kernel
theorem dL_run_8 : decode cL_run 8 = .ok (.i2l, 1) := by decide +kernel
theorem dL_run_9 : decode cL_run 9 = .ok (.lastore, 1) := by decide +kernel
theorem dL_run_10 : decode cL_run 10 = .ok (.goto 7, 3) := by decide +kernel
theorem dL_run_13 : decode cL_run 13 = .ok (.astore 4, 2) := by decide +kernel
theorem dL_run_15 : decode cL_run 15 = .ok (.iconst 1, 1) := by decide +kernel
theorem dL_run_16 : decode cL_run 16 = .ok (.ireturn, 1) := by decide +kernel
theorem dL_run_17 : decode cL_run 17 = .ok (.iconst 0, 1) := by decide +kernel
theorem dL_run_18 : decode cL_run 18 = .ok (.ireturn, 1) := by decide +kernel
theorem dL_mode_0 : decode cL_mode 0 = .ok (.aload 4, 2) := by decide +kernel
theorem dL_mode_2 : decode cL_mode 2 = .ok (.iconst 0, 1) := by decide +kernel
theorem dL_mode_3 : decode cL_mode 3 = .ok (.aload_n 0, 1) := by decide +kernel
theorem dL_mode_4 : decode cL_mode 4 = .ok (.iload_n 1, 1) := by decide +kernel
theorem dL_mode_5 : decode cL_mode 5 = .ok (.iload_n 2, 1) := by decide +kernel
theorem dL_mode_6 : decode cL_mode 6 = .ok (.iload_n 3, 1) := by decide +kernel
theorem dL_mode_7 : decode cL_mode 7 = .ok (.invokevirtual 35, 3) := by decide +kernel
theorem dL_mode_10 : decode cL_mode 10 = .ok (.i2l, 1) := by decide +kernel
theorem dL_mode_11 : decode cL_mode 11 = .ok (.lastore, 1) := by decide +kernel
theorem dL_mode_12 : decode cL_mode 12 = .ok (.goto 11, 3) := by decide +kernel
theorem dL_mode_15 : decode cL_mode 15 = .ok (.astore 5, 2) := by decide +kernel
theorem dL_mode_17 : decode cL_mode 17 = .ok (.iconst 1, 1) := by decide +kernel
theorem dL_mode_18 : decode cL_mode 18 = .ok (.ireturn, 1) := by decide +kernel
theorem dL_mode_19 : decode cL_mode 19 = .ok (.astore 5, 2) := by decide +kernel
theorem dL_mode_21 : decode cL_mode 21 = .ok (.iconst 2, 1) := by decide +kernel
theorem dL_mode_22 : decode cL_mode 22 = .ok (.ireturn, 1) := by decide +kernel
theorem dL_mode_23 : decode cL_mode 23 = .ok (.iconst 0, 1) := by decide +kernel
theorem dL_mode_24 : decode cL_mode 24 = .ok (.ireturn, 1) := by decide +kernel
theorem dL_change_0 : decode cL_change 0 = .ok (.aload_n 3, 1) := by decide +kernel
theorem dL_change_1 : decode cL_change 1 = .ok (.iconst 0, 1) := by decide +kernel
theorem dL_change_2 : decode cL_change 2 = .ok (.aload_n 0, 1) := by decide +kernel
theorem dL_change_3 : decode cL_change 3 = .ok (.iload_n 1, 1) := by decide +kernel
theorem dL_change_4 : decode cL_change 4 = .ok (.iload_n 2, 1) := by decide +kernel
theorem dL_change_5 : decode cL_change 5 = .ok (.invokevirtual 39, 3) := by decide +kernel
theorem dL_change_8 : decode cL_change 8 = .ok (.i2l, 1) := by decide +kernel
theorem dL_change_9 : decode cL_change 9 = .ok (.lastore, 1) := by decide +kernel
theorem dL_change_10 : decode cL_change 10 = .ok (.goto 7, 3) := by decide +kernel
theorem dL_change_13 : decode cL_change 13 = .ok (.astore 4, 2) := by decide +kernel
theorem dL_change_15 : decode cL_change 15 = .ok (.iconst 1, 1) := by decide +kernel
theorem dL_change_16 : decode cL_change 16 = .ok (.ireturn, 1) := by decide +kernel
theorem dL_change_17 : decode cL_change 17 = .ok (.iconst 0, 1) := by decide +kernel
theorem dL_change_18 : decode cL_change 18 = .ok (.ireturn, 1) := by decide +kernel
theorem dL_longest_0 : decode cL_longest 0 = .ok (.aload_n 2, 1) := by decide +kernel
theorem dL_longest_1 : decode cL_longest 1 = .ok (.iconst 0, 1) := by decide +kernel
theorem dL_longest_2 : decode cL_longest 2 = .ok (.aload_n 0, 1) := by decide +kernel
theorem dL_longest_3 : decode cL_longest 3 = .ok (.iload_n 1, 1) := by decide +kernel
theorem dL_longest_4 : decode cL_longest 4 = .ok (.invokevirtual 42, 3) := by decide +kernel
theorem dL_longest_7 : decode cL_longest 7 = .ok (.i2l, 1) := by decide +kernel
theorem dL_longest_8 : decode cL_longest 8 = .ok (.lastore, 1) := by decide +kernel
theorem dL_longest_9 : decode cL_longest 9 = .ok (.goto 6, 3) := by decide +kernel
theorem dL_longest_12 : decode cL_longest 12 = .ok (.astore_n 3, 1) := by decide +kernel
theorem dL_longest_13 : decode cL_longest 13 = .ok (.iconst 1, 1) := by decide +kernel
theorem dL_longest_14 : decode cL_longest 14 = .ok (.ireturn, 1) := by decide +kernel
theorem dL_longest_15 : decode cL_longest 15 = .ok (.iconst 0, 1) := by decide +kernel
theorem dL_longest_16 : decode cL_longest 16 = .ok (.ireturn, 1) := by decide +kernel
theorem dL_runsOf_0 : decode cL_runsOf 0 = .ok (.aload_n 3, 1) := by decide +kernel
theorem dL_runsOf_1 : decode cL_runsOf 1 = .ok (.iconst 0, 1) := by decide +kernel
theorem dL_runsOf_2 : decode cL_runsOf 2 = .ok (.aload_n 0, 1) := by decide +kernel
theorem dL_runsOf_3 : decode cL_runsOf 3 = .ok (.iload_n 1, 1) := by decide +kernel
theorem dL_runsOf_4 : decode cL_runsOf 4 = .ok (.iload_n 2, 1) := by decide +kernel
theorem dL_runsOf_5 : decode cL_runsOf 5 = .ok (.invokevirtual 45, 3) := by decide +kernel
theorem dL_runsOf_8 : decode cL_runsOf 8 = .ok (.i2l, 1) := by decide +kernel
theorem dL_runsOf_9 : decode cL_runsOf 9 = .ok (.lastore, 1) := by decide +kernel
theorem dL_runsOf_10 : decode cL_runsOf 10 = .ok (.goto 7, 3) := by decide +kernel
theorem dL_runsOf_13 : decode cL_runsOf 13 = .ok (.astore 4, 2) := by decide +kernel
theorem dL_runsOf_15 : decode cL_runsOf 15 = .ok (.iconst 1, 1) := by decide +kernel
theorem dL_runsOf_16 : decode cL_runsOf 16 = .ok (.ireturn, 1) := by decide +kernel
theorem dL_runsOf_17 : decode cL_runsOf 17 = .ok (.iconst 0, 1) := by decide +kernel
theorem dL_runsOf_18 : decode cL_runsOf 18 = .ok (.ireturn, 1) := by decide +kernel
theorem dL_readBelow_0 : decode cL_readBelow 0 = .ok (.aload_n 3, 1) := by decide +kernel
theorem dL_readBelow_1 : decode cL_readBelow 1 = .ok (.iconst 0, 1) := by decide +kernel
theorem dL_readBelow_2 : decode cL_readBelow 2 = .ok (.aload_n 0, 1) := by decide +kernel
theorem dL_readBelow_3 : decode cL_readBelow 3 = .ok (.iload_n 1, 1) := by decide +kernel
theorem dL_readBelow_4 : decode cL_readBelow 4 = .ok (.iload_n 2, 1) := by decide +kernel
theorem dL_readBelow_5 : decode cL_readBelow 5 = .ok (.invokevirtual 48, 3) := by decide +kernel
theorem dL_readBelow_8 : decode cL_readBelow 8 = .ok (.i2l, 1) := by decide +kernel
theorem dL_readBelow_9 : decode cL_readBelow 9 = .ok (.lastore, 1) := by decide +kernel
theorem dL_readBelow_10 : decode cL_readBelow 10 = .ok (.goto 7, 3) := by decide +kernel
theorem dL_readBelow_13 : decode cL_readBelow 13 = .ok (.astore 4, 2) := by decide +kernel
theorem dL_readBelow_15 : decode cL_readBelow 15 = .ok (.iconst 1, 1) := by decide +kernel
theorem dL_readBelow_16 : decode cL_readBelow 16 = .ok (.ireturn, 1) := by decide +kernel
theorem dL_readBelow_17 : decode cL_readBelow 17 = .ok (.iconst 0, 1) := by decide +kernel
theorem dL_readBelow_18 : decode cL_readBelow 18 = .ok (.ireturn, 1) := by decide +kernel
theorem dL_set_0 : decode cL_set 0 = .ok (.aload_n 3, 1) := by decide +kernel
theorem dL_set_1 : decode cL_set 1 = .ok (.iconst 0, 1) := by decide +kernel
theorem dL_set_2 : decode cL_set 2 = .ok (.aload_n 0, 1) := by decide +kernel
theorem dL_set_3 : decode cL_set 3 = .ok (.iload_n 1, 1) := by decide +kernel
theorem dL_set_4 : decode cL_set 4 = .ok (.iload_n 2, 1) := by decide +kernel
theorem dL_set_5 : decode cL_set 5 = .ok (.invokevirtual 51, 3) := by decide +kernel
theorem dL_set_8 : decode cL_set 8 = .ok (.i2l, 1) := by decide +kernel
theorem dL_set_9 : decode cL_set 9 = .ok (.lastore, 1) := by decide +kernel
theorem dL_set_10 : decode cL_set 10 = .ok (.goto 7, 3) := by decide +kernel
theorem dL_set_13 : decode cL_set 13 = .ok (.astore 4, 2) := by decide +kernel
theorem dL_set_15 : decode cL_set 15 = .ok (.iconst 1, 1) := by decide +kernel
theorem dL_set_16 : decode cL_set 16 = .ok (.ireturn, 1) := by decide +kernel
theorem dL_set_17 : decode cL_set 17 = .ok (.iconst 0, 1) := by decide +kernel
theorem dL_set_18 : decode cL_set 18 = .ok (.ireturn, 1) := by decide +kernel
theorem dL_lose_0 : decode cL_lose 0 = .ok (.aload_n 3, 1) := by decide +kernel
theorem dL_lose_1 : decode cL_lose 1 = .ok (.iconst 0, 1) := by decide +kernel
theorem dL_lose_2 : decode cL_lose 2 = .ok (.aload_n 0, 1) := by decide +kernel
theorem dL_lose_3 : decode cL_lose 3 = .ok (.iload_n 1, 1) := by decide +kernel
theorem dL_lose_4 : decode cL_lose 4 = .ok (.iload_n 2, 1) := by decide +kernel
theorem dL_lose_5 : decode cL_lose 5 = .ok (.invokevirtual 54, 3) := by decide +kernel
theorem dL_lose_8 : decode cL_lose 8 = .ok (.i2l, 1) := by decide +kernel
theorem dL_lose_9 : decode cL_lose 9 = .ok (.lastore, 1) := by decide +kernel
theorem dL_lose_10 : decode cL_lose 10 = .ok (.goto 11, 3) := by decide +kernel
theorem dL_lose_13 : decode cL_lose 13 = .ok (.astore 4, 2) := by decide +kernel
theorem dL_lose_15 : decode cL_lose 15 = .ok (.iconst 1, 1) := by decide +kernel
theorem dL_lose_16 : decode cL_lose 16 = .ok (.ireturn, 1) := by decide +kernel
theorem dL_lose_17 : decode cL_lose 17 = .ok (.astore 4, 2) := by decide +kernel
theorem dL_lose_19 : decode cL_lose 19 = .ok (.iconst 2, 1) := by decide +kernel
theorem dL_lose_20 : decode cL_lose 20 = .ok (.ireturn, 1) := by decide +kernel
theorem dL_lose_21 : decode cL_lose 21 = .ok (.iconst 0, 1) := by decide +kernel
theorem dL_lose_22 : decode cL_lose 22 = .ok (.ireturn, 1) := by decide +kernel
theorem dL_addLine_0 : decode cL_addLine 0 = .ok (.aload_n 3, 1) := by decide +kernel
theorem dL_addLine_1 : decode cL_addLine 1 = .ok (.iconst 0, 1) := by decide +kernel
theorem dL_addLine_2 : decode cL_addLine 2 = .ok (.aload_n 0, 1) := by decide +kernel
theorem dL_addLine_3 : decode cL_addLine 3 = .ok (.iload_n 1, 1) := by decide +kernel
theorem dL_addLine_4 : decode cL_addLine 4 = .ok (.iload_n 2, 1) := by decide +kernel
theorem dL_addLine_5 : decode cL_addLine 5 = .ok (.invokevirtual 57, 3) := by decide +kernel
theorem dL_addLine_8 : decode cL_addLine 8 = .ok (.i2l, 1) := by decide +kernel
theorem dL_addLine_9 : decode cL_addLine 9 = .ok (.lastore, 1) := by decide +kernel
theorem dL_addLine_10 : decode cL_addLine 10 = .ok (.goto 11, 3) := by decide +kernel
theorem dL_addLine_13 : decode cL_addLine 13 = .ok (.astore 4, 2) := by decide +kernel
theorem dL_addLine_15 : decode cL_addLine 15 = .ok (.iconst 1, 1) := by decide +kernel
theorem dL_addLine_16 : decode cL_addLine 16 = .ok (.ireturn, 1) := by decide +kernel
theorem dL_addLine_17 : decode cL_addLine 17 = .ok (.astore 4, 2) := by decide +kernel
theorem dL_addLine_19 : decode cL_addLine 19 = .ok (.iconst 2, 1) := by decide +kernel
theorem dL_addLine_20 : decode cL_addLine 20 = .ok (.ireturn, 1) := by decide +kernel
theorem dL_addLine_21 : decode cL_addLine 21 = .ok (.iconst 0, 1) := by decide +kernel
theorem dL_addLine_22 : decode cL_addLine 22 = .ok (.ireturn, 1) := by decide +kernel
theorem dL_paint_0 : decode cL_paint 0 = .ok (.aload 5, 2) := by decide +kernel
theorem dL_paint_2 : decode cL_paint 2 = .ok (.iconst 0, 1) := by decide +kernel
theorem dL_paint_3 : decode cL_paint 3 = .ok (.aload_n 0, 1) := by decide +kernel
theorem dL_paint_4 : decode cL_paint 4 = .ok (.iload_n 1, 1) := by decide +kernel
theorem dL_paint_5 : decode cL_paint 5 = .ok (.iload_n 2, 1) := by decide +kernel
theorem dL_paint_6 : decode cL_paint 6 = .ok (.iload_n 3, 1) := by decide +kernel
theorem dL_paint_7 : decode cL_paint 7 = .ok (.iload 4, 2) := by decide +kernel
theorem dL_paint_9 : decode cL_paint 9 = .ok (.invokevirtual 60, 3) := by decide +kernel
theorem dL_paint_12 : decode cL_paint 12 = .ok (.i2l, 1) := by decide +kernel
theorem dL_paint_13 : decode cL_paint 13 = .ok (.lastore, 1) := by decide +kernel
theorem dL_paint_14 : decode cL_paint 14 = .ok (.goto 11, 3) := by decide +kernel
theorem dL_paint_17 : decode cL_paint 17 = .ok (.astore 6, 2) := by decide +kernel
theorem dL_paint_19 : decode cL_paint 19 = .ok (.iconst 1, 1) := by decide +kernel
theorem dL_paint_20 : decode cL_paint 20 = .ok (.ireturn, 1) := by decide +kernel
theorem dL_paint_21 : decode cL_paint 21 = .ok (.astore 6, 2) := by decide +kernel
theorem dL_paint_23 : decode cL_paint 23 = .ok (.iconst 2, 1) := by decide +kernel
theorem dL_paint_24 : decode cL_paint 24 = .ok (.ireturn, 1) := by decide +kernel
theorem dL_paint_25 : decode cL_paint 25 = .ok (.iconst 0, 1) := by decide +kernel
theorem dL_paint_26 : decode cL_paint 26 = .ok (.ireturn, 1) := by decide +kernel
theorem dL_shift_0 : decode cL_shift 0 = .ok (.aload_n 3, 1) := by decide +kernel
theorem dL_shift_1 : decode cL_shift 1 = .ok (.iconst 0, 1) := by decide +kernel
theorem dL_shift_2 : decode cL_shift 2 = .ok (.aload_n 0, 1) := by decide +kernel
theorem dL_shift_3 : decode cL_shift 3 = .ok (.iload_n 1, 1) := by decide +kernel
theorem dL_shift_4 : decode cL_shift 4 = .ok (.iload_n 2, 1) := by decide +kernel
theorem dL_shift_5 : decode cL_shift 5 = .ok (.invokevirtual 64, 3) := by decide +kernel
theorem dL_shift_8 : decode cL_shift 8 = .ok (.i2l, 1) := by decide +kernel
theorem dL_shift_9 : decode cL_shift 9 = .ok (.lastore, 1) := by decide +kernel
theorem dL_shift_10 : decode cL_shift 10 = .ok (.goto 11, 3) := by decide +kernel
theorem dL_shift_13 : decode cL_shift 13 = .ok (.astore 4, 2) := by decide +kernel
theorem dL_shift_15 : decode cL_shift 15 = .ok (.iconst 1, 1) := by decide +kernel
theorem dL_shift_16 : decode cL_shift 16 = .ok (.ireturn, 1) := by decide +kernel
theorem dL_shift_17 : decode cL_shift 17 = .ok (.astore 4, 2) := by decide +kernel
theorem dL_shift_19 : decode cL_shift 19 = .ok (.iconst 2, 1) := by decide +kernel
theorem dL_shift_20 : decode cL_shift 20 = .ok (.ireturn, 1) := by decide +kernel
theorem dL_shift_21 : decode cL_shift 21 = .ok (.iconst 0, 1) := by decide +kernel
theorem dL_shift_22 : decode cL_shift 22 = .ok (.ireturn, 1) := by decide +kernel
theorem dL_copyLine_0 : decode cL_copyLine 0 = .ok (.aload_n 3, 1) := by decide +kernel
theorem dL_copyLine_1 : decode cL_copyLine 1 = .ok (.iconst 0, 1) := by decide +kernel
theorem dL_copyLine_2 : decode cL_copyLine 2 = .ok (.aload_n 0, 1) := by decide +kernel
theorem dL_copyLine_3 : decode cL_copyLine 3 = .ok (.iload_n 1, 1) := by decide +kernel
theorem dL_copyLine_4 : decode cL_copyLine 4 = .ok (.iload_n 2, 1) := by decide +kernel
theorem dL_copyLine_5 : decode cL_copyLine 5 = .ok (.invokevirtual 67, 3) := by decide +kernel
theorem dL_copyLine_8 : decode cL_copyLine 8 = .ok (.i2l, 1) := by decide +kernel
theorem dL_copyLine_9 : decode cL_copyLine 9 = .ok (.lastore, 1) := by decide +kernel
theorem dL_copyLine_10 : decode cL_copyLine 10 = .ok (.goto 11, 3) := by decide +kernel
theorem dL_copyLine_13 : decode cL_copyLine 13 = .ok (.astore 4, 2) := by decide +kernel
theorem dL_copyLine_15 : decode cL_copyLine 15 = .ok (.iconst 1, 1) := by decide +kernel
theorem dL_copyLine_16 : decode cL_copyLine 16 = .ok (.ireturn, 1) := by decide +kernel
theorem dL_copyLine_17 : decode cL_copyLine 17 = .ok (.astore 4, 2) := by decide +kernel
theorem dL_copyLine_19 : decode cL_copyLine 19 = .ok (.iconst 2, 1) := by decide +kernel
theorem dL_copyLine_20 : decode cL_copyLine 20 = .ok (.ireturn, 1) := by decide +kernel
theorem dL_copyLine_21 : decode cL_copyLine 21 = .ok (.iconst 0, 1) := by decide +kernel
theorem dL_copyLine_22 : decode cL_copyLine 22 = .ok (.ireturn, 1) := by decide +kernel
theorem dL_removeLine_0 : decode cL_removeLine 0 = .ok (.aload_n 2, 1) := by decide +kernel
theorem dL_removeLine_1 : decode cL_removeLine 1 = .ok (.iconst 0, 1) := by decide +kernel
theorem dL_removeLine_2 : decode cL_removeLine 2 = .ok (.aload_n 0, 1) := by decide +kernel
theorem dL_removeLine_3 : decode cL_removeLine 3 = .ok (.iload_n 1, 1) := by decide +kernel
theorem dL_removeLine_4 : decode cL_removeLine 4 = .ok (.invokevirtual 70, 3) := by decide +kernel
theorem dL_removeLine_7 : decode cL_removeLine 7 = .ok (.i2l, 1) := by decide +kernel
theorem dL_removeLine_8 : decode cL_removeLine 8 = .ok (.lastore, 1) := by decide +kernel
theorem dL_removeLine_9 : decode cL_removeLine 9 = .ok (.goto 6, 3) := by decide +kernel
theorem dL_removeLine_12 : decode cL_removeLine 12 = .ok (.astore_n 3, 1) := by decide +kernel
theorem dL_removeLine_13 : decode cL_removeLine 13 = .ok (.iconst 1, 1) := by decide +kernel
theorem dL_removeLine_14 : decode cL_removeLine 14 = .ok (.ireturn, 1) := by decide +kernel
theorem dL_removeLine_15 : decode cL_removeLine 15 = .ok (.iconst 0, 1) := by decide +kernel
theorem dL_removeLine_16 : decode cL_removeLine 16 = .ok (.ireturn, 1) := by decide +kernel
theorem dL_invert_0 : decode cL_invert 0 = .ok (.aload_n 2, 1) := by decide +kernel
theorem dL_invert_1 : decode cL_invert 1 = .ok (.iconst 0, 1) := by decide +kernel
theorem dL_invert_2 : decode cL_invert 2 = .ok (.aload_n 0, 1) := by decide +kernel
theorem dL_invert_3 : decode cL_invert 3 = .ok (.iload_n 1, 1) := by decide +kernel
theorem dL_invert_4 : decode cL_invert 4 = .ok (.invokevirtual 73, 3) := by decide +kernel
theorem dL_invert_7 : decode cL_invert 7 = .ok (.i2l, 1) := by decide +kernel
theorem dL_invert_8 : decode cL_invert 8 = .ok (.lastore, 1) := by decide +kernel
theorem dL_invert_9 : decode cL_invert 9 = .ok (.goto 6, 3) := by decide +kernel
theorem dL_invert_12 : decode cL_invert 12 = .ok (.astore_n 3, 1) := by decide +kernel
theorem dL_invert_13 : decode cL_invert 13 = .ok (.iconst 1, 1) := by decide +kernel
theorem dL_invert_14 : decode cL_invert 14 = .ok (.ireturn, 1) := by decide +kernel
theorem dL_invert_15 : decode cL_invert 15 = .ok (.iconst 0, 1) := by decide +kernel
theorem dL_invert_16 : decode cL_invert 16 = .ok (.ireturn, 1) := by decide +kernel
theorem dL_swap_0 : decode cL_swap 0 = .ok (.aload_n 3, 1) := by decide +kernel
theorem dL_swap_1 : decode cL_swap 1 = .ok (.iconst 0, 1) := by decide +kernel
theorem dL_swap_2 : decode cL_swap 2 = .ok (.aload_n 0, 1) := by decide +kernel
theorem dL_swap_3 : decode cL_swap 3 = .ok (.iload_n 1, 1) := by decide +kernel
theorem dL_swap_4 : decode cL_swap 4 = .ok (.iload_n 2, 1) := by decide +kernel
theorem dL_swap_5 : decode cL_swap 5 = .ok (.invokevirtual 76, 3) := by decide +kernel
theorem dL_swap_8 : decode cL_swap 8 = .ok (.i2l, 1) := by decide +kernel
theorem dL_swap_9 : decode cL_swap 9 = .ok (.lastore, 1) := by decide +kernel
theorem dL_swap_10 : decode cL_swap 10 = .ok (.goto 7, 3) := by decide +kernel
theorem dL_swap_13 : decode cL_swap 13 = .ok (.astore 4, 2) := by decide +kernel
theorem dL_swap_15 : decode cL_swap 15 = .ok (.iconst 1, 1) := by decide +kernel
theorem dL_swap_16 : decode cL_swap 16 = .ok (.ireturn, 1) := by decide +kernel
theorem dL_swap_17 : decode cL_swap 17 = .ok (.iconst 0, 1) := by decide +kernel
theorem dL_swap_18 : decode cL_swap 18 = .ok (.ireturn, 1) := by decide +kernel
theorem dL_sent_0 : decode cL_sent 0 = .ok (.aload_n 2, 1) := by decide +kernel
theorem dL_sent_1 : decode cL_sent 1 = .ok (.iconst 0, 1) := by decide +kernel
theorem dL_sent_2 : decode cL_sent 2 = .ok (.aload_n 0, 1) := by decide +kernel
theorem dL_sent_3 : decode cL_sent 3 = .ok (.iload_n 1, 1) := by decide +kernel
theorem dL_sent_4 : decode cL_sent 4 = .ok (.invokevirtual 79, 3) := by decide +kernel
theorem dL_sent_7 : decode cL_sent 7 = .ok (.i2l, 1) := by decide +kernel
theorem dL_sent_8 : decode cL_sent 8 = .ok (.lastore, 1) := by decide +kernel
theorem dL_sent_9 : decode cL_sent 9 = .ok (.goto 6, 3) := by decide +kernel
theorem dL_sent_12 : decode cL_sent 12 = .ok (.astore_n 3, 1) := by decide +kernel
theorem dL_sent_13 : decode cL_sent 13 = .ok (.iconst 1, 1) := by decide +kernel
theorem dL_sent_14 : decode cL_sent 14 = .ok (.ireturn, 1) := by decide +kernel
theorem dL_sent_15 : decode cL_sent 15 = .ok (.iconst 0, 1) := by decide +kernel
theorem dL_sent_16 : decode cL_sent 16 = .ok (.ireturn, 1) := by decide +kernel
theorem dL_sentLine_0 : decode cL_sentLine 0 = .ok (.aload_n 3, 1) := by decide +kernel
theorem dL_sentLine_1 : decode cL_sentLine 1 = .ok (.iconst 0, 1) := by decide +kernel
theorem dL_sentLine_2 : decode cL_sentLine 2 = .ok (.aload_n 0, 1) := by decide +kernel
theorem dL_sentLine_3 : decode cL_sentLine 3 = .ok (.iload_n 1, 1) := by decide +kernel
theorem dL_sentLine_4 : decode cL_sentLine 4 = .ok (.iload_n 2, 1) := by decide +kernel
theorem dL_sentLine_5 : decode cL_sentLine 5 = .ok (.invokevirtual 82, 3) := by decide +kernel
theorem dL_sentLine_8 : decode cL_sentLine 8 = .ok (.i2l, 1) := by decide +kernel
theorem dL_sentLine_9 : decode cL_sentLine 9 = .ok (.lastore, 1) := by decide +kernel
theorem dL_sentLine_10 : decode cL_sentLine 10 = .ok (.goto 11, 3) := by decide +kernel
theorem dL_sentLine_13 : decode cL_sentLine 13 = .ok (.astore 4, 2) := by decide +kernel
theorem dL_sentLine_15 : decode cL_sentLine 15 = .ok (.iconst 1, 1) := by decide +kernel
theorem dL_sentLine_16 : decode cL_sentLine 16 = .ok (.ireturn, 1) := by decide +kernel
theorem dL_sentLine_17 : decode cL_sentLine 17 = .ok (.astore 4, 2) := by decide +kernel
theorem dL_sentLine_19 : decode cL_sentLine 19 = .ok (.iconst 2, 1) := by decide +kernel
theorem dL_sentLine_20 : decode cL_sentLine 20 = .ok (.ireturn, 1) := by decide +kernel
theorem dL_sentLine_21 : decode cL_sentLine 21 = .ok (.iconst 0, 1) := by decide +kernel
theorem dL_sentLine_22 : decode cL_sentLine 22 = .ok (.ireturn, 1) := by decide +kernel
theorem dL_received_0 : decode cL_received 0 = .ok (.aload_n 3, 1) := by decide +kernel
theorem dL_received_1 : decode cL_received 1 = .ok (.iconst 0, 1) := by decide +kernel
theorem dL_received_2 : decode cL_received 2 = .ok (.aload_n 0, 1) := by decide +kernel
theorem dL_received_3 : decode cL_received 3 = .ok (.iload_n 1, 1) := by decide +kernel
theorem dL_received_4 : decode cL_received 4 = .ok (.iload_n 2, 1) := by decide +kernel
theorem dL_received_5 : decode cL_received 5 = .ok (.invokevirtual 85, 3) := by decide +kernel
theorem dL_received_8 : decode cL_received 8 = .ok (.i2l, 1) := by decide +kernel
theorem dL_received_9 : decode cL_received 9 = .ok (.lastore, 1) := by decide +kernel
theorem dL_received_10 : decode cL_received 10 = .ok (.goto 7, 3) := by decide +kernel
theorem dL_received_13 : decode cL_received 13 = .ok (.astore 4, 2) := by decide +kernel
theorem dL_received_15 : decode cL_received 15 = .ok (.iconst 1, 1) := by decide +kernel
theorem dL_received_16 : decode cL_received 16 = .ok (.ireturn, 1) := by decide +kernel
theorem dL_received_17 : decode cL_received 17 = .ok (.iconst 0, 1) := by decide +kernel
theorem dL_received_18 : decode cL_received 18 = .ok (.ireturn, 1) := by decide +kernel
theorem dL_harm_0 : decode cL_harm 0 = .ok (.aload_n 3, 1) := by decide +kernel
theorem dL_harm_1 : decode cL_harm 1 = .ok (.iconst 0, 1) := by decide +kernel
theorem dL_harm_2 : decode cL_harm 2 = .ok (.aload_n 0, 1) := by decide +kernel
theorem dL_harm_3 : decode cL_harm 3 = .ok (.iload_n 1, 1) := by decide +kernel
theorem dL_harm_4 : decode cL_harm 4 = .ok (.iload_n 2, 1) := by decide +kernel
theorem dL_harm_5 : decode cL_harm 5 = .ok (.invokevirtual 88, 3) := by decide +kernel
theorem dL_harm_8 : decode cL_harm 8 = .ok (.i2l, 1) := by decide +kernel
theorem dL_harm_9 : decode cL_harm 9 = .ok (.lastore, 1) := by decide +kernel
theorem dL_harm_10 : decode cL_harm 10 = .ok (.goto 11, 3) := by decide +kernel
theorem dL_harm_13 : decode cL_harm 13 = .ok (.astore 4, 2) := by decide +kernel
theorem dL_harm_15 : decode cL_harm 15 = .ok (.iconst 1, 1) := by decide +kernel
theorem dL_harm_16 : decode cL_harm 16 = .ok (.ireturn, 1) := by decide +kernel
theorem dL_harm_17 : decode cL_harm 17 = .ok (.astore 4, 2) := by decide +kernel
theorem dL_harm_19 : decode cL_harm 19 = .ok (.iconst 2, 1) := by decide +kernel
theorem dL_harm_20 : decode cL_harm 20 = .ok (.ireturn, 1) := by decide +kernel
theorem dL_harm_21 : decode cL_harm 21 = .ok (.iconst 0, 1) := by decide +kernel
theorem dL_harm_22 : decode cL_harm 22 = .ok (.ireturn, 1) := by decide +kernel
theorem dL_write_0 : decode cL_write 0 = .ok (.aload_n 2, 1) := by decide +kernel
theorem dL_write_1 : decode cL_write 1 = .ok (.iconst 0, 1) := by decide +kernel
theorem dL_write_2 : decode cL_write 2 = .ok (.aload_n 0, 1) := by decide +kernel
theorem dL_write_3 : decode cL_write 3 = .ok (.iload_n 1, 1) := by decide +kernel
theorem dL_write_4 : decode cL_write 4 = .ok (.invokevirtual 91, 3) := by decide +kernel
theorem dL_write_7 : decode cL_write 7 = .ok (.i2l, 1) := by decide +kernel
theorem dL_write_8 : decode cL_write 8 = .ok (.lastore, 1) := by decide +kernel
theorem dL_write_9 : decode cL_write 9 = .ok (.goto 6, 3) := by decide +kernel
theorem dL_write_12 : decode cL_write 12 = .ok (.astore_n 3, 1) := by decide +kernel
theorem dL_write_13 : decode cL_write 13 = .ok (.iconst 1, 1) := by decide +kernel
theorem dL_write_14 : decode cL_write 14 = .ok (.ireturn, 1) := by decide +kernel
theorem dL_write_15 : decode cL_write 15 = .ok (.iconst 0, 1) := by decide +kernel
theorem dL_write_16 : decode cL_write 16 = .ok (.ireturn, 1) := by decide +kernel
theorem dL_show_0 : decode cL_show 0 = .ok (.aload_n 2, 1) := by decide +kernel
theorem dL_show_1 : decode cL_show 1 = .ok (.iconst 0, 1) := by decide +kernel
theorem dL_show_2 : decode cL_show 2 = .ok (.aload_n 0, 1) := by decide +kernel
theorem dL_show_3 : decode cL_show 3 = .ok (.iload_n 1, 1) := by decide +kernel
theorem dL_show_4 : decode cL_show 4 = .ok (.invokevirtual 94, 3) := by decide +kernel
theorem dL_show_7 : decode cL_show 7 = .ok (.i2l, 1) := by decide +kernel
theorem dL_show_8 : decode cL_show 8 = .ok (.lastore, 1) := by decide +kernel
theorem dL_show_9 : decode cL_show 9 = .ok (.goto 6, 3) := by decide +kernel
theorem dL_show_12 : decode cL_show 12 = .ok (.astore_n 3, 1) := by decide +kernel
theorem dL_show_13 : decode cL_show 13 = .ok (.iconst 1, 1) := by decide +kernel
theorem dL_show_14 : decode cL_show 14 = .ok (.ireturn, 1) := by decide +kernel
theorem dL_show_15 : decode cL_show 15 = .ok (.iconst 0, 1) := by decide +kernel
theorem dL_show_16 : decode cL_show 16 = .ok (.ireturn, 1) := by decide +kernel
theorem dL_save_0 : decode cL_save 0 = .ok (.aload_n 0, 1) := by decide +kernel
theorem dL_save_1 : decode cL_save 1 = .ok (.iload_n 1, 1) := by decide +kernel
theorem dL_save_2 : decode cL_save 2 = .ok (.invokevirtual 97, 3) := by decide +kernel
theorem dL_save_5 : decode cL_save 5 = .ok (.goto 6, 3) := by decide +kernel
theorem dL_save_8 : decode cL_save 8 = .ok (.astore_n 2, 1) := by decide +kernel
theorem dL_save_9 : decode cL_save 9 = .ok (.iconst 1, 1) := by decide +kernel
theorem dL_save_10 : decode cL_save 10 = .ok (.ireturn, 1) := by decide +kernel
theorem dL_save_11 : decode cL_save 11 = .ok (.iconst 0, 1) := by decide +kernel
theorem dL_save_12 : decode cL_save 12 = .ok (.ireturn, 1) := by decide +kernel
theorem dL_restore_0 : decode cL_restore 0 = .ok (.aload_n 0, 1) := by decide +kernel
theorem dL_restore_1 : decode cL_restore 1 = .ok (.iload_n 1, 1) := by decide +kernel
theorem dL_restore_2 : decode cL_restore 2 = .ok (.invokevirtual 101, 3) := by decide +kernel
theorem dL_restore_5 : decode cL_restore 5 = .ok (.goto 9, 3) := by decide +kernel
theorem dL_restore_8 : decode cL_restore 8 = .ok (.astore_n 2, 1) := by decide +kernel
theorem dL_restore_9 : decode cL_restore 9 = .ok (.iconst 1, 1) := by decide +kernel
theorem dL_restore_10 : decode cL_restore 10 = .ok (.ireturn, 1) := by decide +kernel
theorem dL_restore_11 : decode cL_restore 11 = .ok (.astore_n 2, 1) := by decide +kernel
theorem dL_restore_12 : decode cL_restore 12 = .ok (.iconst 2, 1) := by decide +kernel
theorem dL_restore_13 : decode cL_restore 13 = .ok (.ireturn, 1) := by decide +kernel
theorem dL_restore_14 : decode cL_restore 14 = .ok (.iconst 0, 1) := by decide +kernel
theorem dL_restore_15 : decode cL_restore 15 = .ok (.ireturn, 1) := by decide +kernel
def codeL : ByteArray := ⟨⟨[187, 0, 8, 89, 183, 0, 104, 76, 187, 0, 105, 89, 183, 0, 107, 77, 4, 188, 11, 78, 3, 54, 4, 21, 4, 42, 190, 8, 100, 163, 8, 101, 42, 21, 4, 46, 16, 63, 126, 170, 0, 0, 8, 85, 0, 0, 0, 0, 0, 0, 0, 37, 0, 0, 0, 165, 0, 0, 0, 221, 0, 0, 1, 21, 0, 0, 1, 34, 0, 0, 1, 47, 0, 0, 1, 60, 0, 0, 1, 116, 0, 0, 1, 184, 0, 0, 1, 252, 0, 0, 2, 64, 0, 0, 2, 144, 0, 0, 2, 212, 0, 0, 3, 12, 0, 0, 3, 80, 0, 0, 3, 148, 0, 0, 3, 216, 0, 0, 4, 28, 0, 0, 4, 96, 0, 0, 4, 188, 0, 0, 5, 0, 0, 0, 5, 68, 0, 0, 5, 124, 0, 0, 5, 180, 0, 0, 5, 248, 0, 0, 6, 48, 0, 0, 6, 116, 0, 0, 6, 184, 0, 0, 6, 252, 0, 0, 7, 9, 0, 0, 7, 22, 0, 0, 7, 35, 0, 0, 7, 76, 0, 0, 7, 119, 0, 0, 7, 175, 0, 0, 7, 231, 0, 0, 8, 0, 0, 0, 8, 13, 0, 0, 8, 49, 43, 42, 21, 4, 4, 96, 46, 45, 184, 0, 108, 54, 5, 44, 42, 21, 4, 4, 96, 46, 182, 0, 113, 54, 6, 44, 182, 0, 114, 21, 5, 159, 0, 5, 3, 172, 21, 5, 154, 0, 15, 45, 3, 47, 21, 6, 133, 148, 153, 0, 5, 3, 172, 167, 7, 123, 43, 42, 21, 4, 4, 96, 46, 45, 184, 0, 118, 54, 5, 44, 42, 21, 4, 4, 96, 46, 182, 0, 120, 54, 6, 44, 182, 0, 114, 21, 5, 159, 0, 5, 3, 172, 21, 5, 154, 0, 15, 45, 3, 47, 21, 6, 133, 148, 153, 0, 5, 3, 172, 167, 7, 67, 43, 182, 0, 121, 44, 182, 0, 124, 159, 7, 56, 3, 172, 43, 182, 0, 125, 44, 182, 0, 128, 159, 7, 43, 3, 172, 43, 182, 0, 129, 44, 182, 0, 132, 159, 7, 30, 3, 172, 43, 42, 21, 4, 4, 96, 46, 45, 184, 0, 133, 54, 5, 44, 42, 21, 4, 4, 96, 46, 182, 0, 135, 54, 6, 44, 182, 0, 114, 21, 5, 159, 0, 5, 3, 172, 21, 5, 154, 0, 15, 45, 3, 47, 21, 6, 133, 148, 153, 0, 5, 3, 172, 167, 6, 228, 43, 42, 21, 4, 4, 96, 46, 42, 21, 4, 5, 96, 46, 45, 184, 0, 136, 54, 5, 44, 42, 21, 4, 4, 96, 46, 42, 21, 4, 5, 96, 46, 182, 0, 139, 54, 6, 44, 182, 0, 114, 21, 5, 159, 0, 5, 3, 172, 21, 5, 154, 0, 15, 45, 3, 47, 21, 6, 133, 148, 153, 0, 5, 3, 172, 167, 6, 160, 43, 42, 21, 4, 4, 96, 46, 42, 21, 4, 5, 96, 46, 45, 184, 0, 140, 54, 5, 44, 42, 21, 4, 4, 96, 46, 42, 21, 4, 5, 96, 46, 182, 0, 142, 54, 6, 44, 182, 0, 114, 21, 5, 159, 0, 5, 3, 172, 21, 5, 154, 0, 15, 45, 3, 47, 21, 6, 133, 148, 153, 0, 5, 3, 172, 167, 6, 92, 43, 42, 21, 4, 4, 96, 46, 42, 21, 4, 5, 96, 46, 45, 184, 0, 143, 54, 5, 44, 42, 21, 4, 4, 96, 46, 42, 21, 4, 5, 96, 46, 182, 0, 145, 54, 6, 44, 182, 0, 114, 21, 5, 159, 0, 5, 3, 172, 21, 5, 154, 0, 15, 45, 3, 47, 21, 6, 133, 148, 153, 0, 5, 3, 172, 167, 6, 24, 43, 42, 21, 4, 4, 96, 46, 42, 21, 4, 5, 96, 46, 42, 21, 4, 6, 96, 46, 45, 184, 0, 146, 54, 5, 44, 42, 21, 4, 4, 96, 46, 42, 21, 4, 5, 96, 46, 42, 21, 4, 6, 96, 46, 182, 0, 149, 54, 6, 44, 182, 0, 114, 21, 5, 159, 0, 5, 3, 172, 21, 5, 154, 0, 15, 45, 3, 47, 21, 6, 133, 148, 153, 0, 5, 3, 172, 167, 5, 200, 43, 42, 21, 4, 4, 96, 46, 42, 21, 4, 5, 96, 46, 45, 184, 0, 150, 54, 5, 44, 42, 21, 4, 4, 96, 46, 42, 21, 4, 5, 96, 46, 182, 0, 152, 54, 6, 44, 182, 0, 114, 21, 5, 159, 0, 5, 3, 172, 21, 5, 154, 0, 15, 45, 3, 47, 21, 6, 133, 148, 153, 0, 5, 3, 172, 167, 5, 132, 43, 42, 21, 4, 4, 96, 46, 45, 184, 0, 153, 54, 5, 44, 42, 21, 4, 4, 96, 46, 182, 0, 155, 54, 6, 44, 182, 0, 114, 21, 5, 159, 0, 5, 3, 172, 21, 5, 154, 0, 15, 45, 3, 47, 21, 6, 133, 148, 153, 0, 5, 3, 172, 167, 5, 76, 43, 42, 21, 4, 4, 96, 46, 42, 21, 4, 5, 96, 46, 45, 184, 0, 156, 54, 5, 44, 42, 21, 4, 4, 96, 46, 42, 21, 4, 5, 96, 46, 182, 0, 158, 54, 6, 44, 182, 0, 114, 21, 5, 159, 0, 5, 3, 172, 21, 5, 154, 0, 15, 45, 3, 47, 21, 6, 133, 148, 153, 0, 5, 3, 172, 167, 5, 8, 43, 42, 21, 4, 4, 96, 46, 42, 21, 4, 5, 96, 46, 45, 184, 0, 159, 54, 5, 44, 42, 21, 4, 4, 96, 46, 42, 21, 4, 5, 96, 46, 182, 0, 161, 54, 6, 44, 182, 0, 114, 21, 5, 159, 0, 5, 3, 172, 21, 5, 154, 0, 15, 45, 3, 47, 21, 6, 133, 148, 153, 0, 5, 3, 172, 167, 4, 196, 43, 42, 21, 4, 4, 96, 46, 42, 21, 4, 5, 96, 46, 45, 184, 0, 162, 54, 5, 44, 42, 21, 4, 4, 96, 46, 42, 21, 4, 5, 96, 46, 182, 0, 164, 54, 6, 44, 182, 0, 114, 21, 5, 159, 0, 5, 3, 172, 21, 5, 154, 0, 15, 45, 3, 47, 21, 6, 133, 148, 153, 0, 5, 3, 172, 167, 4, 128, 43, 42, 21, 4, 4, 96, 46, 42, 21, 4, 5, 96, 46, 45, 184, 0, 165, 54, 5, 44, 42, 21, 4, 4, 96, 46, 42, 21, 4, 5, 96, 46, 182, 0, 167, 54, 6, 44, 182, 0, 114, 21, 5, 159, 0, 5, 3, 172, 21, 5, 154, 0, 15, 45, 3, 47, 21, 6, 133, 148, 153, 0, 5, 3, 172, 167, 4, 60, 43, 42, 21, 4, 4, 96, 46, 42, 21, 4, 5, 96, 46, 45, 184, 0, 168, 54, 5, 44, 42, 21, 4, 4, 96, 46, 42, 21, 4, 5, 96, 46, 182, 0, 170, 54, 6, 44, 182, 0, 114, 21, 5, 159, 0, 5, 3, 172, 21, 5, 154, 0, 15, 45, 3, 47, 21, 6, 133, 148, 153, 0, 5, 3, 172, 167, 3, 248, 43, 42, 21, 4, 4, 96, 46, 42, 21, 4, 5, 96, 46, 42, 21, 4, 6, 96, 46, 42, 21, 4, 7, 96, 46, 45, 184, 0, 171, 54, 5, 44, 42, 21, 4, 4, 96, 46, 42, 21, 4, 5, 96, 46, 42, 21, 4, 6, 96, 46, 42, 21, 4, 7, 96, 46, 182, 0, 174, 54, 6, 44, 182, 0, 114, 21, 5, 159, 0, 5, 3, 172, 21, 5, 154, 0, 15, 45, 3, 47, 21, 6, 133, 148, 153, 0, 5, 3, 172, 167, 3, 156, 43, 42, 21, 4, 4, 96, 46, 42, 21, 4, 5, 96, 46, 45, 184, 0, 175, 54, 5, 44, 42, 21, 4, 4, 96, 46, 42, 21, 4, 5, 96, 46, 182, 0, 177, 54, 6, 44, 182, 0, 114, 21, 5, 159, 0, 5, 3, 172, 21, 5, 154, 0, 15, 45, 3, 47, 21, 6, 133, 148, 153, 0, 5, 3, 172, 167, 3, 88, 43, 42, 21, 4, 4, 96, 46, 42, 21, 4, 5, 96, 46, 45, 184, 0, 178, 54, 5, 44, 42, 21, 4, 4, 96, 46, 42, 21, 4, 5, 96, 46, 182, 0, 180, 54, 6, 44, 182, 0, 114, 21, 5, 159, 0, 5, 3, 172, 21, 5, 154, 0, 15, 45, 3, 47, 21, 6, 133, 148, 153, 0, 5, 3, 172, 167, 3, 20, 43, 42, 21, 4, 4, 96, 46, 45, 184, 0, 181, 54, 5, 44, 42, 21, 4, 4, 96, 46, 182, 0, 183, 54, 6, 44, 182, 0, 114, 21, 5, 159, 0, 5, 3, 172, 21, 5, 154, 0, 15, 45, 3, 47, 21, 6, 133, 148, 153, 0, 5, 3, 172, 167, 2, 220, 43, 42, 21, 4, 4, 96, 46, 45, 184, 0, 184, 54, 5, 44, 42, 21, 4, 4, 96, 46, 182, 0, 186, 54, 6, 44, 182, 0, 114, 21, 5, 159, 0, 5, 3, 172, 21, 5, 154, 0, 15, 45, 3, 47, 21, 6, 133, 148, 153, 0, 5, 3, 172, 167, 2, 164, 43, 42, 21, 4, 4, 96, 46, 42, 21, 4, 5, 96, 46, 45, 184, 0, 187, 54, 5, 44, 42, 21, 4, 4, 96, 46, 42, 21, 4, 5, 96, 46, 182, 0, 189, 54, 6, 44, 182, 0, 114, 21, 5, 159, 0, 5, 3, 172, 21, 5, 154, 0, 15, 45, 3, 47, 21, 6, 133, 148, 153, 0, 5, 3, 172, 167, 2, 96, 43, 42, 21, 4, 4, 96, 46, 45, 184, 0, 190, 54, 5, 44, 42, 21, 4, 4, 96, 46, 182, 0, 192, 54, 6, 44, 182, 0, 114, 21, 5, 159, 0, 5, 3, 172, 21, 5, 154, 0, 15, 45, 3, 47, 21, 6, 133, 148, 153, 0, 5, 3, 172, 167, 2, 40, 43, 42, 21, 4, 4, 96, 46, 42, 21, 4, 5, 96, 46, 45, 184, 0, 193, 54, 5, 44, 42, 21, 4, 4, 96, 46, 42, 21, 4, 5, 96, 46, 182, 0, 195, 54, 6, 44, 182, 0, 114, 21, 5, 159, 0, 5, 3, 172, 21, 5, 154, 0, 15, 45, 3, 47, 21, 6, 133, 148, 153, 0, 5, 3, 172, 167, 1, 228, 43, 42, 21, 4, 4, 96, 46, 42, 21, 4, 5, 96, 46, 45, 184, 0, 196, 54, 5, 44, 42, 21, 4, 4, 96, 46, 42, 21, 4, 5, 96, 46, 182, 0, 198, 54, 6, 44, 182, 0, 114, 21, 5, 159, 0, 5, 3, 172, 21, 5, 154, 0, 15, 45, 3, 47, 21, 6, 133, 148, 153, 0, 5, 3, 172, 167, 1, 160, 43, 42, 21, 4, 4, 96, 46, 42, 21, 4, 5, 96, 46, 45, 184, 0, 199, 54, 5, 44, 42, 21, 4, 4, 96, 46, 42, 21, 4, 5, 96, 46, 182, 0, 201, 54, 6, 44, 182, 0, 114, 21, 5, 159, 0, 5, 3, 172, 21, 5, 154, 0, 15, 45, 3, 47, 21, 6, 133, 148, 153, 0, 5, 3, 172, 167, 1, 92, 43, 182, 0, 202, 44, 182, 0, 205, 159, 1, 81, 3, 172, 43, 182, 0, 206, 44, 182, 0, 209, 159, 1, 68, 3, 172, 43, 182, 0, 210, 44, 182, 0, 213, 159, 1, 55, 3, 172, 43, 182, 0, 214, 57, 5, 44, 182, 0, 218, 57, 7, 24, 5, 24, 7, 151, 153, 0, 21, 24, 5, 24, 5, 151, 153, 0, 11, 24, 7, 24, 7, 151, 154, 0, 5, 3, 172, 167, 1, 12, 43, 182, 0, 219, 141, 57, 5, 44, 182, 0, 223, 141, 57, 7, 24, 5, 24, 7, 151, 153, 0, 21, 24, 5, 24, 5, 151, 153, 0, 11, 24, 7, 24, 7, 151, 154, 0, 5, 3, 172, 167, 0, 225, 43, 42, 21, 4, 4, 96, 46, 45, 184, 0, 224, 54, 5, 44, 42, 21, 4, 4, 96, 46, 182, 0, 226, 54, 6, 44, 182, 0, 114, 21, 5, 159, 0, 5, 3, 172, 21, 5, 154, 0, 15, 45, 3, 47, 21, 6, 133, 148, 153, 0, 5, 3, 172, 167, 0, 169, 43, 42, 21, 4, 4, 96, 46, 45, 184, 0, 227, 54, 5, 44, 42, 21, 4, 4, 96, 46, 182, 0, 229, 54, 6, 44, 182, 0, 114, 21, 5, 159, 0, 5, 3, 172, 21, 5, 154, 0, 15, 45, 3, 47, 21, 6, 133, 148, 153, 0, 5, 3, 172, 167, 0, 113, 43, 42, 21, 4, 4, 96, 46, 182, 0, 230, 44, 42, 21, 4, 4, 96, 46, 182, 0, 233, 159, 0, 90, 3, 172, 43, 182, 0, 234, 44, 182, 0, 237, 159, 0, 77, 3, 172, 43, 42, 21, 4, 4, 96, 46, 184, 0, 238, 54, 5, 44, 42, 21, 4, 4, 96, 46, 182, 0, 241, 44, 182, 0, 114, 21, 5, 159, 0, 5, 3, 172, 167, 0, 39, 43, 42, 21, 4, 4, 96, 46, 184, 0, 242, 54, 5, 44, 42, 21, 4, 4, 96, 46, 182, 0, 244, 44, 182, 0, 114, 21, 5, 159, 0, 5, 3, 172, 167, 0, 3, 132, 4, 5, 167, 247, 152, 4, 172]⟩⟩
set_option maxRecDepth 100000 in
theorem codeL_eq : cL_law = codeL := by decide +kernel
theorem dL_law_0 : decode cL_law 0 = .ok (.new 8, 3) := (congrArg (fun c => decode c 0) codeL_eq).trans (by decide +kernel)
theorem dL_law_3 : decode cL_law 3 = .ok (.dup, 1) := (congrArg (fun c => decode c 3) codeL_eq).trans (by decide +kernel)
theorem dL_law_4 : decode cL_law 4 = .ok (.invokespecial 104, 3) := (congrArg (fun c => decode c 4) codeL_eq).trans (by decide +kernel)
theorem dL_law_7 : decode cL_law 7 = .ok (.astore_n 1, 1) := (congrArg (fun c => decode c 7) codeL_eq).trans (by decide +kernel)
theorem dL_law_8 : decode cL_law 8 = .ok (.new 105, 3) := (congrArg (fun c => decode c 8) codeL_eq).trans (by decide +kernel)
theorem dL_law_11 : decode cL_law 11 = .ok (.dup, 1) := (congrArg (fun c => decode c 11) codeL_eq).trans (by decide +kernel)
theorem dL_law_12 : decode cL_law 12 = .ok (.invokespecial 107, 3) := (congrArg (fun c => decode c 12) codeL_eq).trans (by decide +kernel)
theorem dL_law_15 : decode cL_law 15 = .ok (.astore_n 2, 1) := (congrArg (fun c => decode c 15) codeL_eq).trans (by decide +kernel)
theorem dL_law_16 : decode cL_law 16 = .ok (.iconst 1, 1) := (congrArg (fun c => decode c 16) codeL_eq).trans (by decide +kernel)
theorem dL_law_17 : decode cL_law 17 = .ok (.newarray .long, 2) := (congrArg (fun c => decode c 17) codeL_eq).trans (by decide +kernel)
theorem dL_law_19 : decode cL_law 19 = .ok (.astore_n 3, 1) := (congrArg (fun c => decode c 19) codeL_eq).trans (by decide +kernel)
theorem dL_law_20 : decode cL_law 20 = .ok (.iconst 0, 1) := (congrArg (fun c => decode c 20) codeL_eq).trans (by decide +kernel)
theorem dL_law_21 : decode cL_law 21 = .ok (.istore 4, 2) := (congrArg (fun c => decode c 21) codeL_eq).trans (by decide +kernel)
theorem dL_law_23 : decode cL_law 23 = .ok (.iload 4, 2) := (congrArg (fun c => decode c 23) codeL_eq).trans (by decide +kernel)
theorem dL_law_25 : decode cL_law 25 = .ok (.aload_n 0, 1) := (congrArg (fun c => decode c 25) codeL_eq).trans (by decide +kernel)
theorem dL_law_26 : decode cL_law 26 = .ok (.arraylength, 1) := (congrArg (fun c => decode c 26) codeL_eq).trans (by decide +kernel)
theorem dL_law_27 : decode cL_law 27 = .ok (.iconst 5, 1) := (congrArg (fun c => decode c 27) codeL_eq).trans (by decide +kernel)
theorem dL_law_28 : decode cL_law 28 = .ok (.isub, 1) := (congrArg (fun c => decode c 28) codeL_eq).trans (by decide +kernel)
theorem dL_law_29 : decode cL_law 29 = .ok (.if_icmp .gt 2149, 3) := (congrArg (fun c => decode c 29) codeL_eq).trans (by decide +kernel)
theorem dL_law_32 : decode cL_law 32 = .ok (.aload_n 0, 1) := (congrArg (fun c => decode c 32) codeL_eq).trans (by decide +kernel)
theorem dL_law_33 : decode cL_law 33 = .ok (.iload 4, 2) := (congrArg (fun c => decode c 33) codeL_eq).trans (by decide +kernel)
theorem dL_law_35 : decode cL_law 35 = .ok (.iaload, 1) := (congrArg (fun c => decode c 35) codeL_eq).trans (by decide +kernel)
theorem dL_law_36 : decode cL_law 36 = .ok (.bipush 63, 2) := (congrArg (fun c => decode c 36) codeL_eq).trans (by decide +kernel)
theorem dL_law_38 : decode cL_law 38 = .ok (.iand, 1) := (congrArg (fun c => decode c 38) codeL_eq).trans (by decide +kernel)
theorem dL_law_39 : decode cL_law 39 = .ok (.tableswitch 2133 0 37 #[165, 221, 277, 290, 303, 316, 372, 440, 508, 576, 656, 724, 780, 848, 916, 984, 1052, 1120, 1212, 1280, 1348, 1404, 1460, 1528, 1584, 1652, 1720, 1788, 1801, 1814, 1827, 1868, 1911, 1967, 2023, 2048, 2061, 2097], 165) := (congrArg (fun c => decode c 39) codeL_eq).trans (by decide +kernel)
theorem dL_law_204 : decode cL_law 204 = .ok (.aload_n 1, 1) := (congrArg (fun c => decode c 204) codeL_eq).trans (by decide +kernel)
theorem dL_law_205 : decode cL_law 205 = .ok (.aload_n 0, 1) := (congrArg (fun c => decode c 205) codeL_eq).trans (by decide +kernel)
theorem dL_law_206 : decode cL_law 206 = .ok (.iload 4, 2) := (congrArg (fun c => decode c 206) codeL_eq).trans (by decide +kernel)
theorem dL_law_208 : decode cL_law 208 = .ok (.iconst 1, 1) := (congrArg (fun c => decode c 208) codeL_eq).trans (by decide +kernel)
theorem dL_law_209 : decode cL_law 209 = .ok (.iadd, 1) := (congrArg (fun c => decode c 209) codeL_eq).trans (by decide +kernel)
theorem dL_law_210 : decode cL_law 210 = .ok (.iaload, 1) := (congrArg (fun c => decode c 210) codeL_eq).trans (by decide +kernel)
theorem dL_law_211 : decode cL_law 211 = .ok (.aload_n 3, 1) := (congrArg (fun c => decode c 211) codeL_eq).trans (by decide +kernel)
theorem dL_law_212 : decode cL_law 212 = .ok (.invokestatic 108, 3) := (congrArg (fun c => decode c 212) codeL_eq).trans (by decide +kernel)
theorem dL_law_215 : decode cL_law 215 = .ok (.istore 5, 2) := (congrArg (fun c => decode c 215) codeL_eq).trans (by decide +kernel)
theorem dL_law_217 : decode cL_law 217 = .ok (.aload_n 2, 1) := (congrArg (fun c => decode c 217) codeL_eq).trans (by decide +kernel)
theorem dL_law_218 : decode cL_law 218 = .ok (.aload_n 0, 1) := (congrArg (fun c => decode c 218) codeL_eq).trans (by decide +kernel)
theorem dL_law_219 : decode cL_law 219 = .ok (.iload 4, 2) := (congrArg (fun c => decode c 219) codeL_eq).trans (by decide +kernel)
theorem dL_law_221 : decode cL_law 221 = .ok (.iconst 1, 1) := (congrArg (fun c => decode c 221) codeL_eq).trans (by decide +kernel)
theorem dL_law_222 : decode cL_law 222 = .ok (.iadd, 1) := (congrArg (fun c => decode c 222) codeL_eq).trans (by decide +kernel)
theorem dL_law_223 : decode cL_law 223 = .ok (.iaload, 1) := (congrArg (fun c => decode c 223) codeL_eq).trans (by decide +kernel)
theorem dL_law_224 : decode cL_law 224 = .ok (.invokevirtual 113, 3) := (congrArg (fun c => decode c 224) codeL_eq).trans (by decide +kernel)
theorem dL_law_227 : decode cL_law 227 = .ok (.istore 6, 2) := (congrArg (fun c => decode c 227) codeL_eq).trans (by decide +kernel)
theorem dL_law_229 : decode cL_law 229 = .ok (.aload_n 2, 1) := (congrArg (fun c => decode c 229) codeL_eq).trans (by decide +kernel)
theorem dL_law_230 : decode cL_law 230 = .ok (.invokevirtual 114, 3) := (congrArg (fun c => decode c 230) codeL_eq).trans (by decide +kernel)
theorem dL_law_233 : decode cL_law 233 = .ok (.iload 5, 2) := (congrArg (fun c => decode c 233) codeL_eq).trans (by decide +kernel)
theorem dL_law_235 : decode cL_law 235 = .ok (.if_icmp .eq 5, 3) := (congrArg (fun c => decode c 235) codeL_eq).trans (by decide +kernel)
theorem dL_law_238 : decode cL_law 238 = .ok (.iconst 0, 1) := (congrArg (fun c => decode c 238) codeL_eq).trans (by decide +kernel)
theorem dL_law_239 : decode cL_law 239 = .ok (.ireturn, 1) := (congrArg (fun c => decode c 239) codeL_eq).trans (by decide +kernel)
theorem dL_law_240 : decode cL_law 240 = .ok (.iload 5, 2) := (congrArg (fun c => decode c 240) codeL_eq).trans (by decide +kernel)
theorem dL_law_242 : decode cL_law 242 = .ok (.ifCond .ne 15, 3) := (congrArg (fun c => decode c 242) codeL_eq).trans (by decide +kernel)
theorem dL_law_245 : decode cL_law 245 = .ok (.aload_n 3, 1) := (congrArg (fun c => decode c 245) codeL_eq).trans (by decide +kernel)
theorem dL_law_246 : decode cL_law 246 = .ok (.iconst 0, 1) := (congrArg (fun c => decode c 246) codeL_eq).trans (by decide +kernel)
theorem dL_law_247 : decode cL_law 247 = .ok (.laload, 1) := (congrArg (fun c => decode c 247) codeL_eq).trans (by decide +kernel)
theorem dL_law_248 : decode cL_law 248 = .ok (.iload 6, 2) := (congrArg (fun c => decode c 248) codeL_eq).trans (by decide +kernel)
theorem dL_law_250 : decode cL_law 250 = .ok (.i2l, 1) := (congrArg (fun c => decode c 250) codeL_eq).trans (by decide +kernel)
theorem dL_law_251 : decode cL_law 251 = .ok (.lcmp, 1) := (congrArg (fun c => decode c 251) codeL_eq).trans (by decide +kernel)
theorem dL_law_252 : decode cL_law 252 = .ok (.ifCond .eq 5, 3) := (congrArg (fun c => decode c 252) codeL_eq).trans (by decide +kernel)
theorem dL_law_255 : decode cL_law 255 = .ok (.iconst 0, 1) := (congrArg (fun c => decode c 255) codeL_eq).trans (by decide +kernel)
theorem dL_law_256 : decode cL_law 256 = .ok (.ireturn, 1) := (congrArg (fun c => decode c 256) codeL_eq).trans (by decide +kernel)
theorem dL_law_257 : decode cL_law 257 = .ok (.goto 1915, 3) := (congrArg (fun c => decode c 257) codeL_eq).trans (by decide +kernel)
theorem dL_law_260 : decode cL_law 260 = .ok (.aload_n 1, 1) := (congrArg (fun c => decode c 260) codeL_eq).trans (by decide +kernel)
theorem dL_law_261 : decode cL_law 261 = .ok (.aload_n 0, 1) := (congrArg (fun c => decode c 261) codeL_eq).trans (by decide +kernel)
theorem dL_law_262 : decode cL_law 262 = .ok (.iload 4, 2) := (congrArg (fun c => decode c 262) codeL_eq).trans (by decide +kernel)
theorem dL_law_264 : decode cL_law 264 = .ok (.iconst 1, 1) := (congrArg (fun c => decode c 264) codeL_eq).trans (by decide +kernel)
theorem dL_law_265 : decode cL_law 265 = .ok (.iadd, 1) := (congrArg (fun c => decode c 265) codeL_eq).trans (by decide +kernel)
theorem dL_law_266 : decode cL_law 266 = .ok (.iaload, 1) := (congrArg (fun c => decode c 266) codeL_eq).trans (by decide +kernel)
theorem dL_law_267 : decode cL_law 267 = .ok (.aload_n 3, 1) := (congrArg (fun c => decode c 267) codeL_eq).trans (by decide +kernel)
theorem dL_law_268 : decode cL_law 268 = .ok (.invokestatic 118, 3) := (congrArg (fun c => decode c 268) codeL_eq).trans (by decide +kernel)
theorem dL_law_271 : decode cL_law 271 = .ok (.istore 5, 2) := (congrArg (fun c => decode c 271) codeL_eq).trans (by decide +kernel)
theorem dL_law_273 : decode cL_law 273 = .ok (.aload_n 2, 1) := (congrArg (fun c => decode c 273) codeL_eq).trans (by decide +kernel)
theorem dL_law_274 : decode cL_law 274 = .ok (.aload_n 0, 1) := (congrArg (fun c => decode c 274) codeL_eq).trans (by decide +kernel)
theorem dL_law_275 : decode cL_law 275 = .ok (.iload 4, 2) := (congrArg (fun c => decode c 275) codeL_eq).trans (by decide +kernel)
theorem dL_law_277 : decode cL_law 277 = .ok (.iconst 1, 1) := (congrArg (fun c => decode c 277) codeL_eq).trans (by decide +kernel)
theorem dL_law_278 : decode cL_law 278 = .ok (.iadd, 1) := (congrArg (fun c => decode c 278) codeL_eq).trans (by decide +kernel)
theorem dL_law_279 : decode cL_law 279 = .ok (.iaload, 1) := (congrArg (fun c => decode c 279) codeL_eq).trans (by decide +kernel)
theorem dL_law_280 : decode cL_law 280 = .ok (.invokevirtual 120, 3) := (congrArg (fun c => decode c 280) codeL_eq).trans (by decide +kernel)
theorem dL_law_283 : decode cL_law 283 = .ok (.istore 6, 2) := (congrArg (fun c => decode c 283) codeL_eq).trans (by decide +kernel)
theorem dL_law_285 : decode cL_law 285 = .ok (.aload_n 2, 1) := (congrArg (fun c => decode c 285) codeL_eq).trans (by decide +kernel)
theorem dL_law_286 : decode cL_law 286 = .ok (.invokevirtual 114, 3) := (congrArg (fun c => decode c 286) codeL_eq).trans (by decide +kernel)
theorem dL_law_289 : decode cL_law 289 = .ok (.iload 5, 2) := (congrArg (fun c => decode c 289) codeL_eq).trans (by decide +kernel)
theorem dL_law_291 : decode cL_law 291 = .ok (.if_icmp .eq 5, 3) := (congrArg (fun c => decode c 291) codeL_eq).trans (by decide +kernel)
theorem dL_law_294 : decode cL_law 294 = .ok (.iconst 0, 1) := (congrArg (fun c => decode c 294) codeL_eq).trans (by decide +kernel)
theorem dL_law_295 : decode cL_law 295 = .ok (.ireturn, 1) := (congrArg (fun c => decode c 295) codeL_eq).trans (by decide +kernel)
theorem dL_law_296 : decode cL_law 296 = .ok (.iload 5, 2) := (congrArg (fun c => decode c 296) codeL_eq).trans (by decide +kernel)
theorem dL_law_298 : decode cL_law 298 = .ok (.ifCond .ne 15, 3) := (congrArg (fun c => decode c 298) codeL_eq).trans (by decide +kernel)
theorem dL_law_301 : decode cL_law 301 = .ok (.aload_n 3, 1) := (congrArg (fun c => decode c 301) codeL_eq).trans (by decide +kernel)
theorem dL_law_302 : decode cL_law 302 = .ok (.iconst 0, 1) := (congrArg (fun c => decode c 302) codeL_eq).trans (by decide +kernel)
theorem dL_law_303 : decode cL_law 303 = .ok (.laload, 1) := (congrArg (fun c => decode c 303) codeL_eq).trans (by decide +kernel)
theorem dL_law_304 : decode cL_law 304 = .ok (.iload 6, 2) := (congrArg (fun c => decode c 304) codeL_eq).trans (by decide +kernel)
theorem dL_law_306 : decode cL_law 306 = .ok (.i2l, 1) := (congrArg (fun c => decode c 306) codeL_eq).trans (by decide +kernel)
theorem dL_law_307 : decode cL_law 307 = .ok (.lcmp, 1) := (congrArg (fun c => decode c 307) codeL_eq).trans (by decide +kernel)
theorem dL_law_308 : decode cL_law 308 = .ok (.ifCond .eq 5, 3) := (congrArg (fun c => decode c 308) codeL_eq).trans (by decide +kernel)
theorem dL_law_311 : decode cL_law 311 = .ok (.iconst 0, 1) := (congrArg (fun c => decode c 311) codeL_eq).trans (by decide +kernel)
theorem dL_law_312 : decode cL_law 312 = .ok (.ireturn, 1) := (congrArg (fun c => decode c 312) codeL_eq).trans (by decide +kernel)
theorem dL_law_313 : decode cL_law 313 = .ok (.goto 1859, 3) := (congrArg (fun c => decode c 313) codeL_eq).trans (by decide +kernel)
theorem dL_law_316 : decode cL_law 316 = .ok (.aload_n 1, 1) := (congrArg (fun c => decode c 316) codeL_eq).trans (by decide +kernel)
theorem dL_law_317 : decode cL_law 317 = .ok (.invokevirtual 121, 3) := (congrArg (fun c => decode c 317) codeL_eq).trans (by decide +kernel)
theorem dL_law_320 : decode cL_law 320 = .ok (.aload_n 2, 1) := (congrArg (fun c => decode c 320) codeL_eq).trans (by decide +kernel)
theorem dL_law_321 : decode cL_law 321 = .ok (.invokevirtual 124, 3) := (congrArg (fun c => decode c 321) codeL_eq).trans (by decide +kernel)
theorem dL_law_324 : decode cL_law 324 = .ok (.if_icmp .eq 1848, 3) := (congrArg (fun c => decode c 324) codeL_eq).trans (by decide +kernel)
theorem dL_law_327 : decode cL_law 327 = .ok (.iconst 0, 1) := (congrArg (fun c => decode c 327) codeL_eq).trans (by decide +kernel)
theorem dL_law_328 : decode cL_law 328 = .ok (.ireturn, 1) := (congrArg (fun c => decode c 328) codeL_eq).trans (by decide +kernel)
theorem dL_law_329 : decode cL_law 329 = .ok (.aload_n 1, 1) := (congrArg (fun c => decode c 329) codeL_eq).trans (by decide +kernel)
theorem dL_law_330 : decode cL_law 330 = .ok (.invokevirtual 125, 3) := (congrArg (fun c => decode c 330) codeL_eq).trans (by decide +kernel)
theorem dL_law_333 : decode cL_law 333 = .ok (.aload_n 2, 1) := (congrArg (fun c => decode c 333) codeL_eq).trans (by decide +kernel)
theorem dL_law_334 : decode cL_law 334 = .ok (.invokevirtual 128, 3) := (congrArg (fun c => decode c 334) codeL_eq).trans (by decide +kernel)
theorem dL_law_337 : decode cL_law 337 = .ok (.if_icmp .eq 1835, 3) := (congrArg (fun c => decode c 337) codeL_eq).trans (by decide +kernel)
theorem dL_law_340 : decode cL_law 340 = .ok (.iconst 0, 1) := (congrArg (fun c => decode c 340) codeL_eq).trans (by decide +kernel)
theorem dL_law_341 : decode cL_law 341 = .ok (.ireturn, 1) := (congrArg (fun c => decode c 341) codeL_eq).trans (by decide +kernel)
theorem dL_law_342 : decode cL_law 342 = .ok (.aload_n 1, 1) := (congrArg (fun c => decode c 342) codeL_eq).trans (by decide +kernel)
theorem dL_law_343 : decode cL_law 343 = .ok (.invokevirtual 129, 3) := (congrArg (fun c => decode c 343) codeL_eq).trans (by decide +kernel)
theorem dL_law_346 : decode cL_law 346 = .ok (.aload_n 2, 1) := (congrArg (fun c => decode c 346) codeL_eq).trans (by decide +kernel)
theorem dL_law_347 : decode cL_law 347 = .ok (.invokevirtual 132, 3) := (congrArg (fun c => decode c 347) codeL_eq).trans (by decide +kernel)
theorem dL_law_350 : decode cL_law 350 = .ok (.if_icmp .eq 1822, 3) := (congrArg (fun c => decode c 350) codeL_eq).trans (by decide +kernel)
theorem dL_law_353 : decode cL_law 353 = .ok (.iconst 0, 1) := (congrArg (fun c => decode c 353) codeL_eq).trans (by decide +kernel)
theorem dL_law_354 : decode cL_law 354 = .ok (.ireturn, 1) := (congrArg (fun c => decode c 354) codeL_eq).trans (by decide +kernel)
theorem dL_law_355 : decode cL_law 355 = .ok (.aload_n 1, 1) := (congrArg (fun c => decode c 355) codeL_eq).trans (by decide +kernel)
theorem dL_law_356 : decode cL_law 356 = .ok (.aload_n 0, 1) := (congrArg (fun c => decode c 356) codeL_eq).trans (by decide +kernel)
theorem dL_law_357 : decode cL_law 357 = .ok (.iload 4, 2) := (congrArg (fun c => decode c 357) codeL_eq).trans (by decide +kernel)
theorem dL_law_359 : decode cL_law 359 = .ok (.iconst 1, 1) := (congrArg (fun c => decode c 359) codeL_eq).trans (by decide +kernel)
theorem dL_law_360 : decode cL_law 360 = .ok (.iadd, 1) := (congrArg (fun c => decode c 360) codeL_eq).trans (by decide +kernel)
theorem dL_law_361 : decode cL_law 361 = .ok (.iaload, 1) := (congrArg (fun c => decode c 361) codeL_eq).trans (by decide +kernel)
theorem dL_law_362 : decode cL_law 362 = .ok (.aload_n 3, 1) := (congrArg (fun c => decode c 362) codeL_eq).trans (by decide +kernel)
theorem dL_law_363 : decode cL_law 363 = .ok (.invokestatic 133, 3) := (congrArg (fun c => decode c 363) codeL_eq).trans (by decide +kernel)
theorem dL_law_366 : decode cL_law 366 = .ok (.istore 5, 2) := (congrArg (fun c => decode c 366) codeL_eq).trans (by decide +kernel)
theorem dL_law_368 : decode cL_law 368 = .ok (.aload_n 2, 1) := (congrArg (fun c => decode c 368) codeL_eq).trans (by decide +kernel)
theorem dL_law_369 : decode cL_law 369 = .ok (.aload_n 0, 1) := (congrArg (fun c => decode c 369) codeL_eq).trans (by decide +kernel)
theorem dL_law_370 : decode cL_law 370 = .ok (.iload 4, 2) := (congrArg (fun c => decode c 370) codeL_eq).trans (by decide +kernel)
theorem dL_law_372 : decode cL_law 372 = .ok (.iconst 1, 1) := (congrArg (fun c => decode c 372) codeL_eq).trans (by decide +kernel)
theorem dL_law_373 : decode cL_law 373 = .ok (.iadd, 1) := (congrArg (fun c => decode c 373) codeL_eq).trans (by decide +kernel)
theorem dL_law_374 : decode cL_law 374 = .ok (.iaload, 1) := (congrArg (fun c => decode c 374) codeL_eq).trans (by decide +kernel)
theorem dL_law_375 : decode cL_law 375 = .ok (.invokevirtual 135, 3) := (congrArg (fun c => decode c 375) codeL_eq).trans (by decide +kernel)
theorem dL_law_378 : decode cL_law 378 = .ok (.istore 6, 2) := (congrArg (fun c => decode c 378) codeL_eq).trans (by decide +kernel)
theorem dL_law_380 : decode cL_law 380 = .ok (.aload_n 2, 1) := (congrArg (fun c => decode c 380) codeL_eq).trans (by decide +kernel)
theorem dL_law_381 : decode cL_law 381 = .ok (.invokevirtual 114, 3) := (congrArg (fun c => decode c 381) codeL_eq).trans (by decide +kernel)
theorem dL_law_384 : decode cL_law 384 = .ok (.iload 5, 2) := (congrArg (fun c => decode c 384) codeL_eq).trans (by decide +kernel)
theorem dL_law_386 : decode cL_law 386 = .ok (.if_icmp .eq 5, 3) := (congrArg (fun c => decode c 386) codeL_eq).trans (by decide +kernel)
theorem dL_law_389 : decode cL_law 389 = .ok (.iconst 0, 1) := (congrArg (fun c => decode c 389) codeL_eq).trans (by decide +kernel)
theorem dL_law_390 : decode cL_law 390 = .ok (.ireturn, 1) := (congrArg (fun c => decode c 390) codeL_eq).trans (by decide +kernel)
theorem dL_law_391 : decode cL_law 391 = .ok (.iload 5, 2) := (congrArg (fun c => decode c 391) codeL_eq).trans (by decide +kernel)
theorem dL_law_393 : decode cL_law 393 = .ok (.ifCond .ne 15, 3) := (congrArg (fun c => decode c 393) codeL_eq).trans (by decide +kernel)
theorem dL_law_396 : decode cL_law 396 = .ok (.aload_n 3, 1) := (congrArg (fun c => decode c 396) codeL_eq).trans (by decide +kernel)
theorem dL_law_397 : decode cL_law 397 = .ok (.iconst 0, 1) := (congrArg (fun c => decode c 397) codeL_eq).trans (by decide +kernel)
theorem dL_law_398 : decode cL_law 398 = .ok (.laload, 1) := (congrArg (fun c => decode c 398) codeL_eq).trans (by decide +kernel)
theorem dL_law_399 : decode cL_law 399 = .ok (.iload 6, 2) := (congrArg (fun c => decode c 399) codeL_eq).trans (by decide +kernel)
theorem dL_law_401 : decode cL_law 401 = .ok (.i2l, 1) := (congrArg (fun c => decode c 401) codeL_eq).trans (by decide +kernel)
theorem dL_law_402 : decode cL_law 402 = .ok (.lcmp, 1) := (congrArg (fun c => decode c 402) codeL_eq).trans (by decide +kernel)
theorem dL_law_403 : decode cL_law 403 = .ok (.ifCond .eq 5, 3) := (congrArg (fun c => decode c 403) codeL_eq).trans (by decide +kernel)
theorem dL_law_406 : decode cL_law 406 = .ok (.iconst 0, 1) := (congrArg (fun c => decode c 406) codeL_eq).trans (by decide +kernel)
theorem dL_law_407 : decode cL_law 407 = .ok (.ireturn, 1) := (congrArg (fun c => decode c 407) codeL_eq).trans (by decide +kernel)
theorem dL_law_408 : decode cL_law 408 = .ok (.goto 1764, 3) := (congrArg (fun c => decode c 408) codeL_eq).trans (by decide +kernel)
theorem dL_law_411 : decode cL_law 411 = .ok (.aload_n 1, 1) := (congrArg (fun c => decode c 411) codeL_eq).trans (by decide +kernel)
theorem dL_law_412 : decode cL_law 412 = .ok (.aload_n 0, 1) := (congrArg (fun c => decode c 412) codeL_eq).trans (by decide +kernel)
theorem dL_law_413 : decode cL_law 413 = .ok (.iload 4, 2) := (congrArg (fun c => decode c 413) codeL_eq).trans (by decide +kernel)
theorem dL_law_415 : decode cL_law 415 = .ok (.iconst 1, 1) := (congrArg (fun c => decode c 415) codeL_eq).trans (by decide +kernel)
theorem dL_law_416 : decode cL_law 416 = .ok (.iadd, 1) := (congrArg (fun c => decode c 416) codeL_eq).trans (by decide +kernel)
theorem dL_law_417 : decode cL_law 417 = .ok (.iaload, 1) := (congrArg (fun c => decode c 417) codeL_eq).trans (by decide +kernel)
theorem dL_law_418 : decode cL_law 418 = .ok (.aload_n 0, 1) := (congrArg (fun c => decode c 418) codeL_eq).trans (by decide +kernel)
theorem dL_law_419 : decode cL_law 419 = .ok (.iload 4, 2) := (congrArg (fun c => decode c 419) codeL_eq).trans (by decide +kernel)
theorem dL_law_421 : decode cL_law 421 = .ok (.iconst 2, 1) := (congrArg (fun c => decode c 421) codeL_eq).trans (by decide +kernel)
theorem dL_law_422 : decode cL_law 422 = .ok (.iadd, 1) := (congrArg (fun c => decode c 422) codeL_eq).trans (by decide +kernel)
theorem dL_law_423 : decode cL_law 423 = .ok (.iaload, 1) := (congrArg (fun c => decode c 423) codeL_eq).trans (by decide +kernel)
theorem dL_law_424 : decode cL_law 424 = .ok (.aload_n 3, 1) := (congrArg (fun c => decode c 424) codeL_eq).trans (by decide +kernel)
theorem dL_law_425 : decode cL_law 425 = .ok (.invokestatic 136, 3) := (congrArg (fun c => decode c 425) codeL_eq).trans (by decide +kernel)
theorem dL_law_428 : decode cL_law 428 = .ok (.istore 5, 2) := (congrArg (fun c => decode c 428) codeL_eq).trans (by decide +kernel)
theorem dL_law_430 : decode cL_law 430 = .ok (.aload_n 2, 1) := (congrArg (fun c => decode c 430) codeL_eq).trans (by decide +kernel)
theorem dL_law_431 : decode cL_law 431 = .ok (.aload_n 0, 1) := (congrArg (fun c => decode c 431) codeL_eq).trans (by decide +kernel)
theorem dL_law_432 : decode cL_law 432 = .ok (.iload 4, 2) := (congrArg (fun c => decode c 432) codeL_eq).trans (by decide +kernel)
theorem dL_law_434 : decode cL_law 434 = .ok (.iconst 1, 1) := (congrArg (fun c => decode c 434) codeL_eq).trans (by decide +kernel)
theorem dL_law_435 : decode cL_law 435 = .ok (.iadd, 1) := (congrArg (fun c => decode c 435) codeL_eq).trans (by decide +kernel)
theorem dL_law_436 : decode cL_law 436 = .ok (.iaload, 1) := (congrArg (fun c => decode c 436) codeL_eq).trans (by decide +kernel)
theorem dL_law_437 : decode cL_law 437 = .ok (.aload_n 0, 1) := (congrArg (fun c => decode c 437) codeL_eq).trans (by decide +kernel)
theorem dL_law_438 : decode cL_law 438 = .ok (.iload 4, 2) := (congrArg (fun c => decode c 438) codeL_eq).trans (by decide +kernel)
theorem dL_law_440 : decode cL_law 440 = .ok (.iconst 2, 1) := (congrArg (fun c => decode c 440) codeL_eq).trans (by decide +kernel)
theorem dL_law_441 : decode cL_law 441 = .ok (.iadd, 1) := (congrArg (fun c => decode c 441) codeL_eq).trans (by decide +kernel)
theorem dL_law_442 : decode cL_law 442 = .ok (.iaload, 1) := (congrArg (fun c => decode c 442) codeL_eq).trans (by decide +kernel)
theorem dL_law_443 : decode cL_law 443 = .ok (.invokevirtual 139, 3) := (congrArg (fun c => decode c 443) codeL_eq).trans (by decide +kernel)
theorem dL_law_446 : decode cL_law 446 = .ok (.istore 6, 2) := (congrArg (fun c => decode c 446) codeL_eq).trans (by decide +kernel)
theorem dL_law_448 : decode cL_law 448 = .ok (.aload_n 2, 1) := (congrArg (fun c => decode c 448) codeL_eq).trans (by decide +kernel)
theorem dL_law_449 : decode cL_law 449 = .ok (.invokevirtual 114, 3) := (congrArg (fun c => decode c 449) codeL_eq).trans (by decide +kernel)
theorem dL_law_452 : decode cL_law 452 = .ok (.iload 5, 2) := (congrArg (fun c => decode c 452) codeL_eq).trans (by decide +kernel)
theorem dL_law_454 : decode cL_law 454 = .ok (.if_icmp .eq 5, 3) := (congrArg (fun c => decode c 454) codeL_eq).trans (by decide +kernel)
theorem dL_law_457 : decode cL_law 457 = .ok (.iconst 0, 1) := (congrArg (fun c => decode c 457) codeL_eq).trans (by decide +kernel)
theorem dL_law_458 : decode cL_law 458 = .ok (.ireturn, 1) := (congrArg (fun c => decode c 458) codeL_eq).trans (by decide +kernel)
theorem dL_law_459 : decode cL_law 459 = .ok (.iload 5, 2) := (congrArg (fun c => decode c 459) codeL_eq).trans (by decide +kernel)
theorem dL_law_461 : decode cL_law 461 = .ok (.ifCond .ne 15, 3) := (congrArg (fun c => decode c 461) codeL_eq).trans (by decide +kernel)
theorem dL_law_464 : decode cL_law 464 = .ok (.aload_n 3, 1) := (congrArg (fun c => decode c 464) codeL_eq).trans (by decide +kernel)
theorem dL_law_465 : decode cL_law 465 = .ok (.iconst 0, 1) := (congrArg (fun c => decode c 465) codeL_eq).trans (by decide +kernel)
theorem dL_law_466 : decode cL_law 466 = .ok (.laload, 1) := (congrArg (fun c => decode c 466) codeL_eq).trans (by decide +kernel)
theorem dL_law_467 : decode cL_law 467 = .ok (.iload 6, 2) := (congrArg (fun c => decode c 467) codeL_eq).trans (by decide +kernel)
theorem dL_law_469 : decode cL_law 469 = .ok (.i2l, 1) := (congrArg (fun c => decode c 469) codeL_eq).trans (by decide +kernel)
theorem dL_law_470 : decode cL_law 470 = .ok (.lcmp, 1) := (congrArg (fun c => decode c 470) codeL_eq).trans (by decide +kernel)
theorem dL_law_471 : decode cL_law 471 = .ok (.ifCond .eq 5, 3) := (congrArg (fun c => decode c 471) codeL_eq).trans (by decide +kernel)
theorem dL_law_474 : decode cL_law 474 = .ok (.iconst 0, 1) := (congrArg (fun c => decode c 474) codeL_eq).trans (by decide +kernel)
theorem dL_law_475 : decode cL_law 475 = .ok (.ireturn, 1) := (congrArg (fun c => decode c 475) codeL_eq).trans (by decide +kernel)
theorem dL_law_476 : decode cL_law 476 = .ok (.goto 1696, 3) := (congrArg (fun c => decode c 476) codeL_eq).trans (by decide +kernel)
theorem dL_law_479 : decode cL_law 479 = .ok (.aload_n 1, 1) := (congrArg (fun c => decode c 479) codeL_eq).trans (by decide +kernel)
theorem dL_law_480 : decode cL_law 480 = .ok (.aload_n 0, 1) := (congrArg (fun c => decode c 480) codeL_eq).trans (by decide +kernel)
theorem dL_law_481 : decode cL_law 481 = .ok (.iload 4, 2) := (congrArg (fun c => decode c 481) codeL_eq).trans (by decide +kernel)
theorem dL_law_483 : decode cL_law 483 = .ok (.iconst 1, 1) := (congrArg (fun c => decode c 483) codeL_eq).trans (by decide +kernel)
theorem dL_law_484 : decode cL_law 484 = .ok (.iadd, 1) := (congrArg (fun c => decode c 484) codeL_eq).trans (by decide +kernel)
theorem dL_law_485 : decode cL_law 485 = .ok (.iaload, 1) := (congrArg (fun c => decode c 485) codeL_eq).trans (by decide +kernel)
theorem dL_law_486 : decode cL_law 486 = .ok (.aload_n 0, 1) := (congrArg (fun c => decode c 486) codeL_eq).trans (by decide +kernel)
theorem dL_law_487 : decode cL_law 487 = .ok (.iload 4, 2) := (congrArg (fun c => decode c 487) codeL_eq).trans (by decide +kernel)
theorem dL_law_489 : decode cL_law 489 = .ok (.iconst 2, 1) := (congrArg (fun c => decode c 489) codeL_eq).trans (by decide +kernel)
theorem dL_law_490 : decode cL_law 490 = .ok (.iadd, 1) := (congrArg (fun c => decode c 490) codeL_eq).trans (by decide +kernel)
theorem dL_law_491 : decode cL_law 491 = .ok (.iaload, 1) := (congrArg (fun c => decode c 491) codeL_eq).trans (by decide +kernel)
theorem dL_law_492 : decode cL_law 492 = .ok (.aload_n 3, 1) := (congrArg (fun c => decode c 492) codeL_eq).trans (by decide +kernel)
theorem dL_law_493 : decode cL_law 493 = .ok (.invokestatic 140, 3) := (congrArg (fun c => decode c 493) codeL_eq).trans (by decide +kernel)
theorem dL_law_496 : decode cL_law 496 = .ok (.istore 5, 2) := (congrArg (fun c => decode c 496) codeL_eq).trans (by decide +kernel)
theorem dL_law_498 : decode cL_law 498 = .ok (.aload_n 2, 1) := (congrArg (fun c => decode c 498) codeL_eq).trans (by decide +kernel)
theorem dL_law_499 : decode cL_law 499 = .ok (.aload_n 0, 1) := (congrArg (fun c => decode c 499) codeL_eq).trans (by decide +kernel)
theorem dL_law_500 : decode cL_law 500 = .ok (.iload 4, 2) := (congrArg (fun c => decode c 500) codeL_eq).trans (by decide +kernel)
theorem dL_law_502 : decode cL_law 502 = .ok (.iconst 1, 1) := (congrArg (fun c => decode c 502) codeL_eq).trans (by decide +kernel)
theorem dL_law_503 : decode cL_law 503 = .ok (.iadd, 1) := (congrArg (fun c => decode c 503) codeL_eq).trans (by decide +kernel)
theorem dL_law_504 : decode cL_law 504 = .ok (.iaload, 1) := (congrArg (fun c => decode c 504) codeL_eq).trans (by decide +kernel)
theorem dL_law_505 : decode cL_law 505 = .ok (.aload_n 0, 1) := (congrArg (fun c => decode c 505) codeL_eq).trans (by decide +kernel)
theorem dL_law_506 : decode cL_law 506 = .ok (.iload 4, 2) := (congrArg (fun c => decode c 506) codeL_eq).trans (by decide +kernel)
theorem dL_law_508 : decode cL_law 508 = .ok (.iconst 2, 1) := (congrArg (fun c => decode c 508) codeL_eq).trans (by decide +kernel)
theorem dL_law_509 : decode cL_law 509 = .ok (.iadd, 1) := (congrArg (fun c => decode c 509) codeL_eq).trans (by decide +kernel)
theorem dL_law_510 : decode cL_law 510 = .ok (.iaload, 1) := (congrArg (fun c => decode c 510) codeL_eq).trans (by decide +kernel)
theorem dL_law_511 : decode cL_law 511 = .ok (.invokevirtual 142, 3) := (congrArg (fun c => decode c 511) codeL_eq).trans (by decide +kernel)
theorem dL_law_514 : decode cL_law 514 = .ok (.istore 6, 2) := (congrArg (fun c => decode c 514) codeL_eq).trans (by decide +kernel)
theorem dL_law_516 : decode cL_law 516 = .ok (.aload_n 2, 1) := (congrArg (fun c => decode c 516) codeL_eq).trans (by decide +kernel)
theorem dL_law_517 : decode cL_law 517 = .ok (.invokevirtual 114, 3) := (congrArg (fun c => decode c 517) codeL_eq).trans (by decide +kernel)
theorem dL_law_520 : decode cL_law 520 = .ok (.iload 5, 2) := (congrArg (fun c => decode c 520) codeL_eq).trans (by decide +kernel)
theorem dL_law_522 : decode cL_law 522 = .ok (.if_icmp .eq 5, 3) := (congrArg (fun c => decode c 522) codeL_eq).trans (by decide +kernel)
theorem dL_law_525 : decode cL_law 525 = .ok (.iconst 0, 1) := (congrArg (fun c => decode c 525) codeL_eq).trans (by decide +kernel)
theorem dL_law_526 : decode cL_law 526 = .ok (.ireturn, 1) := (congrArg (fun c => decode c 526) codeL_eq).trans (by decide +kernel)
theorem dL_law_527 : decode cL_law 527 = .ok (.iload 5, 2) := (congrArg (fun c => decode c 527) codeL_eq).trans (by decide +kernel)
theorem dL_law_529 : decode cL_law 529 = .ok (.ifCond .ne 15, 3) := (congrArg (fun c => decode c 529) codeL_eq).trans (by decide +kernel)
theorem dL_law_532 : decode cL_law 532 = .ok (.aload_n 3, 1) := (congrArg (fun c => decode c 532) codeL_eq).trans (by decide +kernel)
theorem dL_law_533 : decode cL_law 533 = .ok (.iconst 0, 1) := (congrArg (fun c => decode c 533) codeL_eq).trans (by decide +kernel)
theorem dL_law_534 : decode cL_law 534 = .ok (.laload, 1) := (congrArg (fun c => decode c 534) codeL_eq).trans (by decide +kernel)
theorem dL_law_535 : decode cL_law 535 = .ok (.iload 6, 2) := (congrArg (fun c => decode c 535) codeL_eq).trans (by decide +kernel)
theorem dL_law_537 : decode cL_law 537 = .ok (.i2l, 1) := (congrArg (fun c => decode c 537) codeL_eq).trans (by decide +kernel)
theorem dL_law_538 : decode cL_law 538 = .ok (.lcmp, 1) := (congrArg (fun c => decode c 538) codeL_eq).trans (by decide +kernel)
theorem dL_law_539 : decode cL_law 539 = .ok (.ifCond .eq 5, 3) := (congrArg (fun c => decode c 539) codeL_eq).trans (by decide +kernel)
theorem dL_law_542 : decode cL_law 542 = .ok (.iconst 0, 1) := (congrArg (fun c => decode c 542) codeL_eq).trans (by decide +kernel)
theorem dL_law_543 : decode cL_law 543 = .ok (.ireturn, 1) := (congrArg (fun c => decode c 543) codeL_eq).trans (by decide +kernel)
theorem dL_law_544 : decode cL_law 544 = .ok (.goto 1628, 3) := (congrArg (fun c => decode c 544) codeL_eq).trans (by decide +kernel)
theorem dL_law_547 : decode cL_law 547 = .ok (.aload_n 1, 1) := (congrArg (fun c => decode c 547) codeL_eq).trans (by decide +kernel)
theorem dL_law_548 : decode cL_law 548 = .ok (.aload_n 0, 1) := (congrArg (fun c => decode c 548) codeL_eq).trans (by decide +kernel)
theorem dL_law_549 : decode cL_law 549 = .ok (.iload 4, 2) := (congrArg (fun c => decode c 549) codeL_eq).trans (by decide +kernel)
theorem dL_law_551 : decode cL_law 551 = .ok (.iconst 1, 1) := (congrArg (fun c => decode c 551) codeL_eq).trans (by decide +kernel)
theorem dL_law_552 : decode cL_law 552 = .ok (.iadd, 1) := (congrArg (fun c => decode c 552) codeL_eq).trans (by decide +kernel)
theorem dL_law_553 : decode cL_law 553 = .ok (.iaload, 1) := (congrArg (fun c => decode c 553) codeL_eq).trans (by decide +kernel)
theorem dL_law_554 : decode cL_law 554 = .ok (.aload_n 0, 1) := (congrArg (fun c => decode c 554) codeL_eq).trans (by decide +kernel)
theorem dL_law_555 : decode cL_law 555 = .ok (.iload 4, 2) := (congrArg (fun c => decode c 555) codeL_eq).trans (by decide +kernel)
theorem dL_law_557 : decode cL_law 557 = .ok (.iconst 2, 1) := (congrArg (fun c => decode c 557) codeL_eq).trans (by decide +kernel)
theorem dL_law_558 : decode cL_law 558 = .ok (.iadd, 1) := (congrArg (fun c => decode c 558) codeL_eq).trans (by decide +kernel)
theorem dL_law_559 : decode cL_law 559 = .ok (.iaload, 1) := (congrArg (fun c => decode c 559) codeL_eq).trans (by decide +kernel)
theorem dL_law_560 : decode cL_law 560 = .ok (.aload_n 3, 1) := (congrArg (fun c => decode c 560) codeL_eq).trans (by decide +kernel)
theorem dL_law_561 : decode cL_law 561 = .ok (.invokestatic 143, 3) := (congrArg (fun c => decode c 561) codeL_eq).trans (by decide +kernel)
theorem dL_law_564 : decode cL_law 564 = .ok (.istore 5, 2) := (congrArg (fun c => decode c 564) codeL_eq).trans (by decide +kernel)
theorem dL_law_566 : decode cL_law 566 = .ok (.aload_n 2, 1) := (congrArg (fun c => decode c 566) codeL_eq).trans (by decide +kernel)
theorem dL_law_567 : decode cL_law 567 = .ok (.aload_n 0, 1) := (congrArg (fun c => decode c 567) codeL_eq).trans (by decide +kernel)
theorem dL_law_568 : decode cL_law 568 = .ok (.iload 4, 2) := (congrArg (fun c => decode c 568) codeL_eq).trans (by decide +kernel)
theorem dL_law_570 : decode cL_law 570 = .ok (.iconst 1, 1) := (congrArg (fun c => decode c 570) codeL_eq).trans (by decide +kernel)
theorem dL_law_571 : decode cL_law 571 = .ok (.iadd, 1) := (congrArg (fun c => decode c 571) codeL_eq).trans (by decide +kernel)
theorem dL_law_572 : decode cL_law 572 = .ok (.iaload, 1) := (congrArg (fun c => decode c 572) codeL_eq).trans (by decide +kernel)
theorem dL_law_573 : decode cL_law 573 = .ok (.aload_n 0, 1) := (congrArg (fun c => decode c 573) codeL_eq).trans (by decide +kernel)
theorem dL_law_574 : decode cL_law 574 = .ok (.iload 4, 2) := (congrArg (fun c => decode c 574) codeL_eq).trans (by decide +kernel)
theorem dL_law_576 : decode cL_law 576 = .ok (.iconst 2, 1) := (congrArg (fun c => decode c 576) codeL_eq).trans (by decide +kernel)
theorem dL_law_577 : decode cL_law 577 = .ok (.iadd, 1) := (congrArg (fun c => decode c 577) codeL_eq).trans (by decide +kernel)
theorem dL_law_578 : decode cL_law 578 = .ok (.iaload, 1) := (congrArg (fun c => decode c 578) codeL_eq).trans (by decide +kernel)
theorem dL_law_579 : decode cL_law 579 = .ok (.invokevirtual 145, 3) := (congrArg (fun c => decode c 579) codeL_eq).trans (by decide +kernel)
theorem dL_law_582 : decode cL_law 582 = .ok (.istore 6, 2) := (congrArg (fun c => decode c 582) codeL_eq).trans (by decide +kernel)
theorem dL_law_584 : decode cL_law 584 = .ok (.aload_n 2, 1) := (congrArg (fun c => decode c 584) codeL_eq).trans (by decide +kernel)
theorem dL_law_585 : decode cL_law 585 = .ok (.invokevirtual 114, 3) := (congrArg (fun c => decode c 585) codeL_eq).trans (by decide +kernel)
theorem dL_law_588 : decode cL_law 588 = .ok (.iload 5, 2) := (congrArg (fun c => decode c 588) codeL_eq).trans (by decide +kernel)
theorem dL_law_590 : decode cL_law 590 = .ok (.if_icmp .eq 5, 3) := (congrArg (fun c => decode c 590) codeL_eq).trans (by decide +kernel)
theorem dL_law_593 : decode cL_law 593 = .ok (.iconst 0, 1) := (congrArg (fun c => decode c 593) codeL_eq).trans (by decide +kernel)
theorem dL_law_594 : decode cL_law 594 = .ok (.ireturn, 1) := (congrArg (fun c => decode c 594) codeL_eq).trans (by decide +kernel)
theorem dL_law_595 : decode cL_law 595 = .ok (.iload 5, 2) := (congrArg (fun c => decode c 595) codeL_eq).trans (by decide +kernel)
theorem dL_law_597 : decode cL_law 597 = .ok (.ifCond .ne 15, 3) := (congrArg (fun c => decode c 597) codeL_eq).trans (by decide +kernel)
theorem dL_law_600 : decode cL_law 600 = .ok (.aload_n 3, 1) := (congrArg (fun c => decode c 600) codeL_eq).trans (by decide +kernel)
theorem dL_law_601 : decode cL_law 601 = .ok (.iconst 0, 1) := (congrArg (fun c => decode c 601) codeL_eq).trans (by decide +kernel)
theorem dL_law_602 : decode cL_law 602 = .ok (.laload, 1) := (congrArg (fun c => decode c 602) codeL_eq).trans (by decide +kernel)
theorem dL_law_603 : decode cL_law 603 = .ok (.iload 6, 2) := (congrArg (fun c => decode c 603) codeL_eq).trans (by decide +kernel)
theorem dL_law_605 : decode cL_law 605 = .ok (.i2l, 1) := (congrArg (fun c => decode c 605) codeL_eq).trans (by decide +kernel)
theorem dL_law_606 : decode cL_law 606 = .ok (.lcmp, 1) := (congrArg (fun c => decode c 606) codeL_eq).trans (by decide +kernel)
theorem dL_law_607 : decode cL_law 607 = .ok (.ifCond .eq 5, 3) := (congrArg (fun c => decode c 607) codeL_eq).trans (by decide +kernel)
theorem dL_law_610 : decode cL_law 610 = .ok (.iconst 0, 1) := (congrArg (fun c => decode c 610) codeL_eq).trans (by decide +kernel)
theorem dL_law_611 : decode cL_law 611 = .ok (.ireturn, 1) := (congrArg (fun c => decode c 611) codeL_eq).trans (by decide +kernel)
theorem dL_law_612 : decode cL_law 612 = .ok (.goto 1560, 3) := (congrArg (fun c => decode c 612) codeL_eq).trans (by decide +kernel)
theorem dL_law_615 : decode cL_law 615 = .ok (.aload_n 1, 1) := (congrArg (fun c => decode c 615) codeL_eq).trans (by decide +kernel)
theorem dL_law_616 : decode cL_law 616 = .ok (.aload_n 0, 1) := (congrArg (fun c => decode c 616) codeL_eq).trans (by decide +kernel)
theorem dL_law_617 : decode cL_law 617 = .ok (.iload 4, 2) := (congrArg (fun c => decode c 617) codeL_eq).trans (by decide +kernel)
theorem dL_law_619 : decode cL_law 619 = .ok (.iconst 1, 1) := (congrArg (fun c => decode c 619) codeL_eq).trans (by decide +kernel)
theorem dL_law_620 : decode cL_law 620 = .ok (.iadd, 1) := (congrArg (fun c => decode c 620) codeL_eq).trans (by decide +kernel)
theorem dL_law_621 : decode cL_law 621 = .ok (.iaload, 1) := (congrArg (fun c => decode c 621) codeL_eq).trans (by decide +kernel)
theorem dL_law_622 : decode cL_law 622 = .ok (.aload_n 0, 1) := (congrArg (fun c => decode c 622) codeL_eq).trans (by decide +kernel)
theorem dL_law_623 : decode cL_law 623 = .ok (.iload 4, 2) := (congrArg (fun c => decode c 623) codeL_eq).trans (by decide +kernel)
theorem dL_law_625 : decode cL_law 625 = .ok (.iconst 2, 1) := (congrArg (fun c => decode c 625) codeL_eq).trans (by decide +kernel)
theorem dL_law_626 : decode cL_law 626 = .ok (.iadd, 1) := (congrArg (fun c => decode c 626) codeL_eq).trans (by decide +kernel)
theorem dL_law_627 : decode cL_law 627 = .ok (.iaload, 1) := (congrArg (fun c => decode c 627) codeL_eq).trans (by decide +kernel)
theorem dL_law_628 : decode cL_law 628 = .ok (.aload_n 0, 1) := (congrArg (fun c => decode c 628) codeL_eq).trans (by decide +kernel)
theorem dL_law_629 : decode cL_law 629 = .ok (.iload 4, 2) := (congrArg (fun c => decode c 629) codeL_eq).trans (by decide +kernel)
theorem dL_law_631 : decode cL_law 631 = .ok (.iconst 3, 1) := (congrArg (fun c => decode c 631) codeL_eq).trans (by decide +kernel)
theorem dL_law_632 : decode cL_law 632 = .ok (.iadd, 1) := (congrArg (fun c => decode c 632) codeL_eq).trans (by decide +kernel)
theorem dL_law_633 : decode cL_law 633 = .ok (.iaload, 1) := (congrArg (fun c => decode c 633) codeL_eq).trans (by decide +kernel)
theorem dL_law_634 : decode cL_law 634 = .ok (.aload_n 3, 1) := (congrArg (fun c => decode c 634) codeL_eq).trans (by decide +kernel)
theorem dL_law_635 : decode cL_law 635 = .ok (.invokestatic 146, 3) := (congrArg (fun c => decode c 635) codeL_eq).trans (by decide +kernel)
theorem dL_law_638 : decode cL_law 638 = .ok (.istore 5, 2) := (congrArg (fun c => decode c 638) codeL_eq).trans (by decide +kernel)
theorem dL_law_640 : decode cL_law 640 = .ok (.aload_n 2, 1) := (congrArg (fun c => decode c 640) codeL_eq).trans (by decide +kernel)
theorem dL_law_641 : decode cL_law 641 = .ok (.aload_n 0, 1) := (congrArg (fun c => decode c 641) codeL_eq).trans (by decide +kernel)
theorem dL_law_642 : decode cL_law 642 = .ok (.iload 4, 2) := (congrArg (fun c => decode c 642) codeL_eq).trans (by decide +kernel)
theorem dL_law_644 : decode cL_law 644 = .ok (.iconst 1, 1) := (congrArg (fun c => decode c 644) codeL_eq).trans (by decide +kernel)
theorem dL_law_645 : decode cL_law 645 = .ok (.iadd, 1) := (congrArg (fun c => decode c 645) codeL_eq).trans (by decide +kernel)
theorem dL_law_646 : decode cL_law 646 = .ok (.iaload, 1) := (congrArg (fun c => decode c 646) codeL_eq).trans (by decide +kernel)
theorem dL_law_647 : decode cL_law 647 = .ok (.aload_n 0, 1) := (congrArg (fun c => decode c 647) codeL_eq).trans (by decide +kernel)
theorem dL_law_648 : decode cL_law 648 = .ok (.iload 4, 2) := (congrArg (fun c => decode c 648) codeL_eq).trans (by decide +kernel)
theorem dL_law_650 : decode cL_law 650 = .ok (.iconst 2, 1) := (congrArg (fun c => decode c 650) codeL_eq).trans (by decide +kernel)
theorem dL_law_651 : decode cL_law 651 = .ok (.iadd, 1) := (congrArg (fun c => decode c 651) codeL_eq).trans (by decide +kernel)
theorem dL_law_652 : decode cL_law 652 = .ok (.iaload, 1) := (congrArg (fun c => decode c 652) codeL_eq).trans (by decide +kernel)
theorem dL_law_653 : decode cL_law 653 = .ok (.aload_n 0, 1) := (congrArg (fun c => decode c 653) codeL_eq).trans (by decide +kernel)
theorem dL_law_654 : decode cL_law 654 = .ok (.iload 4, 2) := (congrArg (fun c => decode c 654) codeL_eq).trans (by decide +kernel)
theorem dL_law_656 : decode cL_law 656 = .ok (.iconst 3, 1) := (congrArg (fun c => decode c 656) codeL_eq).trans (by decide +kernel)
theorem dL_law_657 : decode cL_law 657 = .ok (.iadd, 1) := (congrArg (fun c => decode c 657) codeL_eq).trans (by decide +kernel)
theorem dL_law_658 : decode cL_law 658 = .ok (.iaload, 1) := (congrArg (fun c => decode c 658) codeL_eq).trans (by decide +kernel)
theorem dL_law_659 : decode cL_law 659 = .ok (.invokevirtual 149, 3) := (congrArg (fun c => decode c 659) codeL_eq).trans (by decide +kernel)
theorem dL_law_662 : decode cL_law 662 = .ok (.istore 6, 2) := (congrArg (fun c => decode c 662) codeL_eq).trans (by decide +kernel)
theorem dL_law_664 : decode cL_law 664 = .ok (.aload_n 2, 1) := (congrArg (fun c => decode c 664) codeL_eq).trans (by decide +kernel)
theorem dL_law_665 : decode cL_law 665 = .ok (.invokevirtual 114, 3) := (congrArg (fun c => decode c 665) codeL_eq).trans (by decide +kernel)
theorem dL_law_668 : decode cL_law 668 = .ok (.iload 5, 2) := (congrArg (fun c => decode c 668) codeL_eq).trans (by decide +kernel)
theorem dL_law_670 : decode cL_law 670 = .ok (.if_icmp .eq 5, 3) := (congrArg (fun c => decode c 670) codeL_eq).trans (by decide +kernel)
theorem dL_law_673 : decode cL_law 673 = .ok (.iconst 0, 1) := (congrArg (fun c => decode c 673) codeL_eq).trans (by decide +kernel)
theorem dL_law_674 : decode cL_law 674 = .ok (.ireturn, 1) := (congrArg (fun c => decode c 674) codeL_eq).trans (by decide +kernel)
theorem dL_law_675 : decode cL_law 675 = .ok (.iload 5, 2) := (congrArg (fun c => decode c 675) codeL_eq).trans (by decide +kernel)
theorem dL_law_677 : decode cL_law 677 = .ok (.ifCond .ne 15, 3) := (congrArg (fun c => decode c 677) codeL_eq).trans (by decide +kernel)
theorem dL_law_680 : decode cL_law 680 = .ok (.aload_n 3, 1) := (congrArg (fun c => decode c 680) codeL_eq).trans (by decide +kernel)
theorem dL_law_681 : decode cL_law 681 = .ok (.iconst 0, 1) := (congrArg (fun c => decode c 681) codeL_eq).trans (by decide +kernel)
theorem dL_law_682 : decode cL_law 682 = .ok (.laload, 1) := (congrArg (fun c => decode c 682) codeL_eq).trans (by decide +kernel)
theorem dL_law_683 : decode cL_law 683 = .ok (.iload 6, 2) := (congrArg (fun c => decode c 683) codeL_eq).trans (by decide +kernel)
theorem dL_law_685 : decode cL_law 685 = .ok (.i2l, 1) := (congrArg (fun c => decode c 685) codeL_eq).trans (by decide +kernel)
theorem dL_law_686 : decode cL_law 686 = .ok (.lcmp, 1) := (congrArg (fun c => decode c 686) codeL_eq).trans (by decide +kernel)
theorem dL_law_687 : decode cL_law 687 = .ok (.ifCond .eq 5, 3) := (congrArg (fun c => decode c 687) codeL_eq).trans (by decide +kernel)
theorem dL_law_690 : decode cL_law 690 = .ok (.iconst 0, 1) := (congrArg (fun c => decode c 690) codeL_eq).trans (by decide +kernel)
theorem dL_law_691 : decode cL_law 691 = .ok (.ireturn, 1) := (congrArg (fun c => decode c 691) codeL_eq).trans (by decide +kernel)
theorem dL_law_692 : decode cL_law 692 = .ok (.goto 1480, 3) := (congrArg (fun c => decode c 692) codeL_eq).trans (by decide +kernel)
theorem dL_law_695 : decode cL_law 695 = .ok (.aload_n 1, 1) := (congrArg (fun c => decode c 695) codeL_eq).trans (by decide +kernel)
theorem dL_law_696 : decode cL_law 696 = .ok (.aload_n 0, 1) := (congrArg (fun c => decode c 696) codeL_eq).trans (by decide +kernel)
theorem dL_law_697 : decode cL_law 697 = .ok (.iload 4, 2) := (congrArg (fun c => decode c 697) codeL_eq).trans (by decide +kernel)
theorem dL_law_699 : decode cL_law 699 = .ok (.iconst 1, 1) := (congrArg (fun c => decode c 699) codeL_eq).trans (by decide +kernel)
theorem dL_law_700 : decode cL_law 700 = .ok (.iadd, 1) := (congrArg (fun c => decode c 700) codeL_eq).trans (by decide +kernel)
theorem dL_law_701 : decode cL_law 701 = .ok (.iaload, 1) := (congrArg (fun c => decode c 701) codeL_eq).trans (by decide +kernel)
theorem dL_law_702 : decode cL_law 702 = .ok (.aload_n 0, 1) := (congrArg (fun c => decode c 702) codeL_eq).trans (by decide +kernel)
theorem dL_law_703 : decode cL_law 703 = .ok (.iload 4, 2) := (congrArg (fun c => decode c 703) codeL_eq).trans (by decide +kernel)
theorem dL_law_705 : decode cL_law 705 = .ok (.iconst 2, 1) := (congrArg (fun c => decode c 705) codeL_eq).trans (by decide +kernel)
theorem dL_law_706 : decode cL_law 706 = .ok (.iadd, 1) := (congrArg (fun c => decode c 706) codeL_eq).trans (by decide +kernel)
theorem dL_law_707 : decode cL_law 707 = .ok (.iaload, 1) := (congrArg (fun c => decode c 707) codeL_eq).trans (by decide +kernel)
theorem dL_law_708 : decode cL_law 708 = .ok (.aload_n 3, 1) := (congrArg (fun c => decode c 708) codeL_eq).trans (by decide +kernel)
theorem dL_law_709 : decode cL_law 709 = .ok (.invokestatic 150, 3) := (congrArg (fun c => decode c 709) codeL_eq).trans (by decide +kernel)
theorem dL_law_712 : decode cL_law 712 = .ok (.istore 5, 2) := (congrArg (fun c => decode c 712) codeL_eq).trans (by decide +kernel)
theorem dL_law_714 : decode cL_law 714 = .ok (.aload_n 2, 1) := (congrArg (fun c => decode c 714) codeL_eq).trans (by decide +kernel)
theorem dL_law_715 : decode cL_law 715 = .ok (.aload_n 0, 1) := (congrArg (fun c => decode c 715) codeL_eq).trans (by decide +kernel)
theorem dL_law_716 : decode cL_law 716 = .ok (.iload 4, 2) := (congrArg (fun c => decode c 716) codeL_eq).trans (by decide +kernel)
theorem dL_law_718 : decode cL_law 718 = .ok (.iconst 1, 1) := (congrArg (fun c => decode c 718) codeL_eq).trans (by decide +kernel)
theorem dL_law_719 : decode cL_law 719 = .ok (.iadd, 1) := (congrArg (fun c => decode c 719) codeL_eq).trans (by decide +kernel)
theorem dL_law_720 : decode cL_law 720 = .ok (.iaload, 1) := (congrArg (fun c => decode c 720) codeL_eq).trans (by decide +kernel)
theorem dL_law_721 : decode cL_law 721 = .ok (.aload_n 0, 1) := (congrArg (fun c => decode c 721) codeL_eq).trans (by decide +kernel)
theorem dL_law_722 : decode cL_law 722 = .ok (.iload 4, 2) := (congrArg (fun c => decode c 722) codeL_eq).trans (by decide +kernel)
theorem dL_law_724 : decode cL_law 724 = .ok (.iconst 2, 1) := (congrArg (fun c => decode c 724) codeL_eq).trans (by decide +kernel)
theorem dL_law_725 : decode cL_law 725 = .ok (.iadd, 1) := (congrArg (fun c => decode c 725) codeL_eq).trans (by decide +kernel)
theorem dL_law_726 : decode cL_law 726 = .ok (.iaload, 1) := (congrArg (fun c => decode c 726) codeL_eq).trans (by decide +kernel)
theorem dL_law_727 : decode cL_law 727 = .ok (.invokevirtual 152, 3) := (congrArg (fun c => decode c 727) codeL_eq).trans (by decide +kernel)
theorem dL_law_730 : decode cL_law 730 = .ok (.istore 6, 2) := (congrArg (fun c => decode c 730) codeL_eq).trans (by decide +kernel)
theorem dL_law_732 : decode cL_law 732 = .ok (.aload_n 2, 1) := (congrArg (fun c => decode c 732) codeL_eq).trans (by decide +kernel)
theorem dL_law_733 : decode cL_law 733 = .ok (.invokevirtual 114, 3) := (congrArg (fun c => decode c 733) codeL_eq).trans (by decide +kernel)
theorem dL_law_736 : decode cL_law 736 = .ok (.iload 5, 2) := (congrArg (fun c => decode c 736) codeL_eq).trans (by decide +kernel)
theorem dL_law_738 : decode cL_law 738 = .ok (.if_icmp .eq 5, 3) := (congrArg (fun c => decode c 738) codeL_eq).trans (by decide +kernel)
theorem dL_law_741 : decode cL_law 741 = .ok (.iconst 0, 1) := (congrArg (fun c => decode c 741) codeL_eq).trans (by decide +kernel)
theorem dL_law_742 : decode cL_law 742 = .ok (.ireturn, 1) := (congrArg (fun c => decode c 742) codeL_eq).trans (by decide +kernel)
theorem dL_law_743 : decode cL_law 743 = .ok (.iload 5, 2) := (congrArg (fun c => decode c 743) codeL_eq).trans (by decide +kernel)
theorem dL_law_745 : decode cL_law 745 = .ok (.ifCond .ne 15, 3) := (congrArg (fun c => decode c 745) codeL_eq).trans (by decide +kernel)
theorem dL_law_748 : decode cL_law 748 = .ok (.aload_n 3, 1) := (congrArg (fun c => decode c 748) codeL_eq).trans (by decide +kernel)
theorem dL_law_749 : decode cL_law 749 = .ok (.iconst 0, 1) := (congrArg (fun c => decode c 749) codeL_eq).trans (by decide +kernel)
theorem dL_law_750 : decode cL_law 750 = .ok (.laload, 1) := (congrArg (fun c => decode c 750) codeL_eq).trans (by decide +kernel)
theorem dL_law_751 : decode cL_law 751 = .ok (.iload 6, 2) := (congrArg (fun c => decode c 751) codeL_eq).trans (by decide +kernel)
theorem dL_law_753 : decode cL_law 753 = .ok (.i2l, 1) := (congrArg (fun c => decode c 753) codeL_eq).trans (by decide +kernel)
theorem dL_law_754 : decode cL_law 754 = .ok (.lcmp, 1) := (congrArg (fun c => decode c 754) codeL_eq).trans (by decide +kernel)
theorem dL_law_755 : decode cL_law 755 = .ok (.ifCond .eq 5, 3) := (congrArg (fun c => decode c 755) codeL_eq).trans (by decide +kernel)
theorem dL_law_758 : decode cL_law 758 = .ok (.iconst 0, 1) := (congrArg (fun c => decode c 758) codeL_eq).trans (by decide +kernel)
theorem dL_law_759 : decode cL_law 759 = .ok (.ireturn, 1) := (congrArg (fun c => decode c 759) codeL_eq).trans (by decide +kernel)
theorem dL_law_760 : decode cL_law 760 = .ok (.goto 1412, 3) := (congrArg (fun c => decode c 760) codeL_eq).trans (by decide +kernel)
theorem dL_law_763 : decode cL_law 763 = .ok (.aload_n 1, 1) := (congrArg (fun c => decode c 763) codeL_eq).trans (by decide +kernel)
theorem dL_law_764 : decode cL_law 764 = .ok (.aload_n 0, 1) := (congrArg (fun c => decode c 764) codeL_eq).trans (by decide +kernel)
theorem dL_law_765 : decode cL_law 765 = .ok (.iload 4, 2) := (congrArg (fun c => decode c 765) codeL_eq).trans (by decide +kernel)
theorem dL_law_767 : decode cL_law 767 = .ok (.iconst 1, 1) := (congrArg (fun c => decode c 767) codeL_eq).trans (by decide +kernel)
theorem dL_law_768 : decode cL_law 768 = .ok (.iadd, 1) := (congrArg (fun c => decode c 768) codeL_eq).trans (by decide +kernel)
theorem dL_law_769 : decode cL_law 769 = .ok (.iaload, 1) := (congrArg (fun c => decode c 769) codeL_eq).trans (by decide +kernel)
theorem dL_law_770 : decode cL_law 770 = .ok (.aload_n 3, 1) := (congrArg (fun c => decode c 770) codeL_eq).trans (by decide +kernel)
theorem dL_law_771 : decode cL_law 771 = .ok (.invokestatic 153, 3) := (congrArg (fun c => decode c 771) codeL_eq).trans (by decide +kernel)
theorem dL_law_774 : decode cL_law 774 = .ok (.istore 5, 2) := (congrArg (fun c => decode c 774) codeL_eq).trans (by decide +kernel)
theorem dL_law_776 : decode cL_law 776 = .ok (.aload_n 2, 1) := (congrArg (fun c => decode c 776) codeL_eq).trans (by decide +kernel)
theorem dL_law_777 : decode cL_law 777 = .ok (.aload_n 0, 1) := (congrArg (fun c => decode c 777) codeL_eq).trans (by decide +kernel)
theorem dL_law_778 : decode cL_law 778 = .ok (.iload 4, 2) := (congrArg (fun c => decode c 778) codeL_eq).trans (by decide +kernel)
theorem dL_law_780 : decode cL_law 780 = .ok (.iconst 1, 1) := (congrArg (fun c => decode c 780) codeL_eq).trans (by decide +kernel)
theorem dL_law_781 : decode cL_law 781 = .ok (.iadd, 1) := (congrArg (fun c => decode c 781) codeL_eq).trans (by decide +kernel)
theorem dL_law_782 : decode cL_law 782 = .ok (.iaload, 1) := (congrArg (fun c => decode c 782) codeL_eq).trans (by decide +kernel)
theorem dL_law_783 : decode cL_law 783 = .ok (.invokevirtual 155, 3) := (congrArg (fun c => decode c 783) codeL_eq).trans (by decide +kernel)
theorem dL_law_786 : decode cL_law 786 = .ok (.istore 6, 2) := (congrArg (fun c => decode c 786) codeL_eq).trans (by decide +kernel)
theorem dL_law_788 : decode cL_law 788 = .ok (.aload_n 2, 1) := (congrArg (fun c => decode c 788) codeL_eq).trans (by decide +kernel)
theorem dL_law_789 : decode cL_law 789 = .ok (.invokevirtual 114, 3) := (congrArg (fun c => decode c 789) codeL_eq).trans (by decide +kernel)
theorem dL_law_792 : decode cL_law 792 = .ok (.iload 5, 2) := (congrArg (fun c => decode c 792) codeL_eq).trans (by decide +kernel)
theorem dL_law_794 : decode cL_law 794 = .ok (.if_icmp .eq 5, 3) := (congrArg (fun c => decode c 794) codeL_eq).trans (by decide +kernel)
theorem dL_law_797 : decode cL_law 797 = .ok (.iconst 0, 1) := (congrArg (fun c => decode c 797) codeL_eq).trans (by decide +kernel)
theorem dL_law_798 : decode cL_law 798 = .ok (.ireturn, 1) := (congrArg (fun c => decode c 798) codeL_eq).trans (by decide +kernel)
theorem dL_law_799 : decode cL_law 799 = .ok (.iload 5, 2) := (congrArg (fun c => decode c 799) codeL_eq).trans (by decide +kernel)
theorem dL_law_801 : decode cL_law 801 = .ok (.ifCond .ne 15, 3) := (congrArg (fun c => decode c 801) codeL_eq).trans (by decide +kernel)
theorem dL_law_804 : decode cL_law 804 = .ok (.aload_n 3, 1) := (congrArg (fun c => decode c 804) codeL_eq).trans (by decide +kernel)
theorem dL_law_805 : decode cL_law 805 = .ok (.iconst 0, 1) := (congrArg (fun c => decode c 805) codeL_eq).trans (by decide +kernel)
theorem dL_law_806 : decode cL_law 806 = .ok (.laload, 1) := (congrArg (fun c => decode c 806) codeL_eq).trans (by decide +kernel)
theorem dL_law_807 : decode cL_law 807 = .ok (.iload 6, 2) := (congrArg (fun c => decode c 807) codeL_eq).trans (by decide +kernel)
theorem dL_law_809 : decode cL_law 809 = .ok (.i2l, 1) := (congrArg (fun c => decode c 809) codeL_eq).trans (by decide +kernel)
theorem dL_law_810 : decode cL_law 810 = .ok (.lcmp, 1) := (congrArg (fun c => decode c 810) codeL_eq).trans (by decide +kernel)
theorem dL_law_811 : decode cL_law 811 = .ok (.ifCond .eq 5, 3) := (congrArg (fun c => decode c 811) codeL_eq).trans (by decide +kernel)
theorem dL_law_814 : decode cL_law 814 = .ok (.iconst 0, 1) := (congrArg (fun c => decode c 814) codeL_eq).trans (by decide +kernel)
theorem dL_law_815 : decode cL_law 815 = .ok (.ireturn, 1) := (congrArg (fun c => decode c 815) codeL_eq).trans (by decide +kernel)
theorem dL_law_816 : decode cL_law 816 = .ok (.goto 1356, 3) := (congrArg (fun c => decode c 816) codeL_eq).trans (by decide +kernel)
theorem dL_law_819 : decode cL_law 819 = .ok (.aload_n 1, 1) := (congrArg (fun c => decode c 819) codeL_eq).trans (by decide +kernel)
theorem dL_law_820 : decode cL_law 820 = .ok (.aload_n 0, 1) := (congrArg (fun c => decode c 820) codeL_eq).trans (by decide +kernel)
theorem dL_law_821 : decode cL_law 821 = .ok (.iload 4, 2) := (congrArg (fun c => decode c 821) codeL_eq).trans (by decide +kernel)
theorem dL_law_823 : decode cL_law 823 = .ok (.iconst 1, 1) := (congrArg (fun c => decode c 823) codeL_eq).trans (by decide +kernel)
theorem dL_law_824 : decode cL_law 824 = .ok (.iadd, 1) := (congrArg (fun c => decode c 824) codeL_eq).trans (by decide +kernel)
theorem dL_law_825 : decode cL_law 825 = .ok (.iaload, 1) := (congrArg (fun c => decode c 825) codeL_eq).trans (by decide +kernel)
theorem dL_law_826 : decode cL_law 826 = .ok (.aload_n 0, 1) := (congrArg (fun c => decode c 826) codeL_eq).trans (by decide +kernel)
theorem dL_law_827 : decode cL_law 827 = .ok (.iload 4, 2) := (congrArg (fun c => decode c 827) codeL_eq).trans (by decide +kernel)
theorem dL_law_829 : decode cL_law 829 = .ok (.iconst 2, 1) := (congrArg (fun c => decode c 829) codeL_eq).trans (by decide +kernel)
theorem dL_law_830 : decode cL_law 830 = .ok (.iadd, 1) := (congrArg (fun c => decode c 830) codeL_eq).trans (by decide +kernel)
theorem dL_law_831 : decode cL_law 831 = .ok (.iaload, 1) := (congrArg (fun c => decode c 831) codeL_eq).trans (by decide +kernel)
theorem dL_law_832 : decode cL_law 832 = .ok (.aload_n 3, 1) := (congrArg (fun c => decode c 832) codeL_eq).trans (by decide +kernel)
theorem dL_law_833 : decode cL_law 833 = .ok (.invokestatic 156, 3) := (congrArg (fun c => decode c 833) codeL_eq).trans (by decide +kernel)
theorem dL_law_836 : decode cL_law 836 = .ok (.istore 5, 2) := (congrArg (fun c => decode c 836) codeL_eq).trans (by decide +kernel)
theorem dL_law_838 : decode cL_law 838 = .ok (.aload_n 2, 1) := (congrArg (fun c => decode c 838) codeL_eq).trans (by decide +kernel)
theorem dL_law_839 : decode cL_law 839 = .ok (.aload_n 0, 1) := (congrArg (fun c => decode c 839) codeL_eq).trans (by decide +kernel)
theorem dL_law_840 : decode cL_law 840 = .ok (.iload 4, 2) := (congrArg (fun c => decode c 840) codeL_eq).trans (by decide +kernel)
theorem dL_law_842 : decode cL_law 842 = .ok (.iconst 1, 1) := (congrArg (fun c => decode c 842) codeL_eq).trans (by decide +kernel)
theorem dL_law_843 : decode cL_law 843 = .ok (.iadd, 1) := (congrArg (fun c => decode c 843) codeL_eq).trans (by decide +kernel)
theorem dL_law_844 : decode cL_law 844 = .ok (.iaload, 1) := (congrArg (fun c => decode c 844) codeL_eq).trans (by decide +kernel)
theorem dL_law_845 : decode cL_law 845 = .ok (.aload_n 0, 1) := (congrArg (fun c => decode c 845) codeL_eq).trans (by decide +kernel)
theorem dL_law_846 : decode cL_law 846 = .ok (.iload 4, 2) := (congrArg (fun c => decode c 846) codeL_eq).trans (by decide +kernel)
theorem dL_law_848 : decode cL_law 848 = .ok (.iconst 2, 1) := (congrArg (fun c => decode c 848) codeL_eq).trans (by decide +kernel)
theorem dL_law_849 : decode cL_law 849 = .ok (.iadd, 1) := (congrArg (fun c => decode c 849) codeL_eq).trans (by decide +kernel)
theorem dL_law_850 : decode cL_law 850 = .ok (.iaload, 1) := (congrArg (fun c => decode c 850) codeL_eq).trans (by decide +kernel)
theorem dL_law_851 : decode cL_law 851 = .ok (.invokevirtual 158, 3) := (congrArg (fun c => decode c 851) codeL_eq).trans (by decide +kernel)
theorem dL_law_854 : decode cL_law 854 = .ok (.istore 6, 2) := (congrArg (fun c => decode c 854) codeL_eq).trans (by decide +kernel)
theorem dL_law_856 : decode cL_law 856 = .ok (.aload_n 2, 1) := (congrArg (fun c => decode c 856) codeL_eq).trans (by decide +kernel)
theorem dL_law_857 : decode cL_law 857 = .ok (.invokevirtual 114, 3) := (congrArg (fun c => decode c 857) codeL_eq).trans (by decide +kernel)
theorem dL_law_860 : decode cL_law 860 = .ok (.iload 5, 2) := (congrArg (fun c => decode c 860) codeL_eq).trans (by decide +kernel)
theorem dL_law_862 : decode cL_law 862 = .ok (.if_icmp .eq 5, 3) := (congrArg (fun c => decode c 862) codeL_eq).trans (by decide +kernel)
theorem dL_law_865 : decode cL_law 865 = .ok (.iconst 0, 1) := (congrArg (fun c => decode c 865) codeL_eq).trans (by decide +kernel)
theorem dL_law_866 : decode cL_law 866 = .ok (.ireturn, 1) := (congrArg (fun c => decode c 866) codeL_eq).trans (by decide +kernel)
theorem dL_law_867 : decode cL_law 867 = .ok (.iload 5, 2) := (congrArg (fun c => decode c 867) codeL_eq).trans (by decide +kernel)
theorem dL_law_869 : decode cL_law 869 = .ok (.ifCond .ne 15, 3) := (congrArg (fun c => decode c 869) codeL_eq).trans (by decide +kernel)
theorem dL_law_872 : decode cL_law 872 = .ok (.aload_n 3, 1) := (congrArg (fun c => decode c 872) codeL_eq).trans (by decide +kernel)
theorem dL_law_873 : decode cL_law 873 = .ok (.iconst 0, 1) := (congrArg (fun c => decode c 873) codeL_eq).trans (by decide +kernel)
theorem dL_law_874 : decode cL_law 874 = .ok (.laload, 1) := (congrArg (fun c => decode c 874) codeL_eq).trans (by decide +kernel)
theorem dL_law_875 : decode cL_law 875 = .ok (.iload 6, 2) := (congrArg (fun c => decode c 875) codeL_eq).trans (by decide +kernel)
theorem dL_law_877 : decode cL_law 877 = .ok (.i2l, 1) := (congrArg (fun c => decode c 877) codeL_eq).trans (by decide +kernel)
theorem dL_law_878 : decode cL_law 878 = .ok (.lcmp, 1) := (congrArg (fun c => decode c 878) codeL_eq).trans (by decide +kernel)
theorem dL_law_879 : decode cL_law 879 = .ok (.ifCond .eq 5, 3) := (congrArg (fun c => decode c 879) codeL_eq).trans (by decide +kernel)
theorem dL_law_882 : decode cL_law 882 = .ok (.iconst 0, 1) := (congrArg (fun c => decode c 882) codeL_eq).trans (by decide +kernel)
theorem dL_law_883 : decode cL_law 883 = .ok (.ireturn, 1) := (congrArg (fun c => decode c 883) codeL_eq).trans (by decide +kernel)
theorem dL_law_884 : decode cL_law 884 = .ok (.goto 1288, 3) := (congrArg (fun c => decode c 884) codeL_eq).trans (by decide +kernel)
theorem dL_law_887 : decode cL_law 887 = .ok (.aload_n 1, 1) := (congrArg (fun c => decode c 887) codeL_eq).trans (by decide +kernel)
theorem dL_law_888 : decode cL_law 888 = .ok (.aload_n 0, 1) := (congrArg (fun c => decode c 888) codeL_eq).trans (by decide +kernel)
theorem dL_law_889 : decode cL_law 889 = .ok (.iload 4, 2) := (congrArg (fun c => decode c 889) codeL_eq).trans (by decide +kernel)
theorem dL_law_891 : decode cL_law 891 = .ok (.iconst 1, 1) := (congrArg (fun c => decode c 891) codeL_eq).trans (by decide +kernel)
theorem dL_law_892 : decode cL_law 892 = .ok (.iadd, 1) := (congrArg (fun c => decode c 892) codeL_eq).trans (by decide +kernel)
theorem dL_law_893 : decode cL_law 893 = .ok (.iaload, 1) := (congrArg (fun c => decode c 893) codeL_eq).trans (by decide +kernel)
theorem dL_law_894 : decode cL_law 894 = .ok (.aload_n 0, 1) := (congrArg (fun c => decode c 894) codeL_eq).trans (by decide +kernel)
theorem dL_law_895 : decode cL_law 895 = .ok (.iload 4, 2) := (congrArg (fun c => decode c 895) codeL_eq).trans (by decide +kernel)
theorem dL_law_897 : decode cL_law 897 = .ok (.iconst 2, 1) := (congrArg (fun c => decode c 897) codeL_eq).trans (by decide +kernel)
theorem dL_law_898 : decode cL_law 898 = .ok (.iadd, 1) := (congrArg (fun c => decode c 898) codeL_eq).trans (by decide +kernel)
theorem dL_law_899 : decode cL_law 899 = .ok (.iaload, 1) := (congrArg (fun c => decode c 899) codeL_eq).trans (by decide +kernel)
theorem dL_law_900 : decode cL_law 900 = .ok (.aload_n 3, 1) := (congrArg (fun c => decode c 900) codeL_eq).trans (by decide +kernel)
theorem dL_law_901 : decode cL_law 901 = .ok (.invokestatic 159, 3) := (congrArg (fun c => decode c 901) codeL_eq).trans (by decide +kernel)
theorem dL_law_904 : decode cL_law 904 = .ok (.istore 5, 2) := (congrArg (fun c => decode c 904) codeL_eq).trans (by decide +kernel)
theorem dL_law_906 : decode cL_law 906 = .ok (.aload_n 2, 1) := (congrArg (fun c => decode c 906) codeL_eq).trans (by decide +kernel)
theorem dL_law_907 : decode cL_law 907 = .ok (.aload_n 0, 1) := (congrArg (fun c => decode c 907) codeL_eq).trans (by decide +kernel)
theorem dL_law_908 : decode cL_law 908 = .ok (.iload 4, 2) := (congrArg (fun c => decode c 908) codeL_eq).trans (by decide +kernel)
theorem dL_law_910 : decode cL_law 910 = .ok (.iconst 1, 1) := (congrArg (fun c => decode c 910) codeL_eq).trans (by decide +kernel)
theorem dL_law_911 : decode cL_law 911 = .ok (.iadd, 1) := (congrArg (fun c => decode c 911) codeL_eq).trans (by decide +kernel)
theorem dL_law_912 : decode cL_law 912 = .ok (.iaload, 1) := (congrArg (fun c => decode c 912) codeL_eq).trans (by decide +kernel)
theorem dL_law_913 : decode cL_law 913 = .ok (.aload_n 0, 1) := (congrArg (fun c => decode c 913) codeL_eq).trans (by decide +kernel)
theorem dL_law_914 : decode cL_law 914 = .ok (.iload 4, 2) := (congrArg (fun c => decode c 914) codeL_eq).trans (by decide +kernel)
theorem dL_law_916 : decode cL_law 916 = .ok (.iconst 2, 1) := (congrArg (fun c => decode c 916) codeL_eq).trans (by decide +kernel)
theorem dL_law_917 : decode cL_law 917 = .ok (.iadd, 1) := (congrArg (fun c => decode c 917) codeL_eq).trans (by decide +kernel)
theorem dL_law_918 : decode cL_law 918 = .ok (.iaload, 1) := (congrArg (fun c => decode c 918) codeL_eq).trans (by decide +kernel)
theorem dL_law_919 : decode cL_law 919 = .ok (.invokevirtual 161, 3) := (congrArg (fun c => decode c 919) codeL_eq).trans (by decide +kernel)
theorem dL_law_922 : decode cL_law 922 = .ok (.istore 6, 2) := (congrArg (fun c => decode c 922) codeL_eq).trans (by decide +kernel)
theorem dL_law_924 : decode cL_law 924 = .ok (.aload_n 2, 1) := (congrArg (fun c => decode c 924) codeL_eq).trans (by decide +kernel)
theorem dL_law_925 : decode cL_law 925 = .ok (.invokevirtual 114, 3) := (congrArg (fun c => decode c 925) codeL_eq).trans (by decide +kernel)
theorem dL_law_928 : decode cL_law 928 = .ok (.iload 5, 2) := (congrArg (fun c => decode c 928) codeL_eq).trans (by decide +kernel)
theorem dL_law_930 : decode cL_law 930 = .ok (.if_icmp .eq 5, 3) := (congrArg (fun c => decode c 930) codeL_eq).trans (by decide +kernel)
theorem dL_law_933 : decode cL_law 933 = .ok (.iconst 0, 1) := (congrArg (fun c => decode c 933) codeL_eq).trans (by decide +kernel)
theorem dL_law_934 : decode cL_law 934 = .ok (.ireturn, 1) := (congrArg (fun c => decode c 934) codeL_eq).trans (by decide +kernel)
theorem dL_law_935 : decode cL_law 935 = .ok (.iload 5, 2) := (congrArg (fun c => decode c 935) codeL_eq).trans (by decide +kernel)
theorem dL_law_937 : decode cL_law 937 = .ok (.ifCond .ne 15, 3) := (congrArg (fun c => decode c 937) codeL_eq).trans (by decide +kernel)
theorem dL_law_940 : decode cL_law 940 = .ok (.aload_n 3, 1) := (congrArg (fun c => decode c 940) codeL_eq).trans (by decide +kernel)
theorem dL_law_941 : decode cL_law 941 = .ok (.iconst 0, 1) := (congrArg (fun c => decode c 941) codeL_eq).trans (by decide +kernel)
theorem dL_law_942 : decode cL_law 942 = .ok (.laload, 1) := (congrArg (fun c => decode c 942) codeL_eq).trans (by decide +kernel)
theorem dL_law_943 : decode cL_law 943 = .ok (.iload 6, 2) := (congrArg (fun c => decode c 943) codeL_eq).trans (by decide +kernel)
theorem dL_law_945 : decode cL_law 945 = .ok (.i2l, 1) := (congrArg (fun c => decode c 945) codeL_eq).trans (by decide +kernel)
theorem dL_law_946 : decode cL_law 946 = .ok (.lcmp, 1) := (congrArg (fun c => decode c 946) codeL_eq).trans (by decide +kernel)
theorem dL_law_947 : decode cL_law 947 = .ok (.ifCond .eq 5, 3) := (congrArg (fun c => decode c 947) codeL_eq).trans (by decide +kernel)
theorem dL_law_950 : decode cL_law 950 = .ok (.iconst 0, 1) := (congrArg (fun c => decode c 950) codeL_eq).trans (by decide +kernel)
theorem dL_law_951 : decode cL_law 951 = .ok (.ireturn, 1) := (congrArg (fun c => decode c 951) codeL_eq).trans (by decide +kernel)
theorem dL_law_952 : decode cL_law 952 = .ok (.goto 1220, 3) := (congrArg (fun c => decode c 952) codeL_eq).trans (by decide +kernel)
theorem dL_law_955 : decode cL_law 955 = .ok (.aload_n 1, 1) := (congrArg (fun c => decode c 955) codeL_eq).trans (by decide +kernel)
theorem dL_law_956 : decode cL_law 956 = .ok (.aload_n 0, 1) := (congrArg (fun c => decode c 956) codeL_eq).trans (by decide +kernel)
theorem dL_law_957 : decode cL_law 957 = .ok (.iload 4, 2) := (congrArg (fun c => decode c 957) codeL_eq).trans (by decide +kernel)
theorem dL_law_959 : decode cL_law 959 = .ok (.iconst 1, 1) := (congrArg (fun c => decode c 959) codeL_eq).trans (by decide +kernel)
theorem dL_law_960 : decode cL_law 960 = .ok (.iadd, 1) := (congrArg (fun c => decode c 960) codeL_eq).trans (by decide +kernel)
theorem dL_law_961 : decode cL_law 961 = .ok (.iaload, 1) := (congrArg (fun c => decode c 961) codeL_eq).trans (by decide +kernel)
theorem dL_law_962 : decode cL_law 962 = .ok (.aload_n 0, 1) := (congrArg (fun c => decode c 962) codeL_eq).trans (by decide +kernel)
theorem dL_law_963 : decode cL_law 963 = .ok (.iload 4, 2) := (congrArg (fun c => decode c 963) codeL_eq).trans (by decide +kernel)
theorem dL_law_965 : decode cL_law 965 = .ok (.iconst 2, 1) := (congrArg (fun c => decode c 965) codeL_eq).trans (by decide +kernel)
theorem dL_law_966 : decode cL_law 966 = .ok (.iadd, 1) := (congrArg (fun c => decode c 966) codeL_eq).trans (by decide +kernel)
theorem dL_law_967 : decode cL_law 967 = .ok (.iaload, 1) := (congrArg (fun c => decode c 967) codeL_eq).trans (by decide +kernel)
theorem dL_law_968 : decode cL_law 968 = .ok (.aload_n 3, 1) := (congrArg (fun c => decode c 968) codeL_eq).trans (by decide +kernel)
theorem dL_law_969 : decode cL_law 969 = .ok (.invokestatic 162, 3) := (congrArg (fun c => decode c 969) codeL_eq).trans (by decide +kernel)
theorem dL_law_972 : decode cL_law 972 = .ok (.istore 5, 2) := (congrArg (fun c => decode c 972) codeL_eq).trans (by decide +kernel)
theorem dL_law_974 : decode cL_law 974 = .ok (.aload_n 2, 1) := (congrArg (fun c => decode c 974) codeL_eq).trans (by decide +kernel)
theorem dL_law_975 : decode cL_law 975 = .ok (.aload_n 0, 1) := (congrArg (fun c => decode c 975) codeL_eq).trans (by decide +kernel)
theorem dL_law_976 : decode cL_law 976 = .ok (.iload 4, 2) := (congrArg (fun c => decode c 976) codeL_eq).trans (by decide +kernel)
theorem dL_law_978 : decode cL_law 978 = .ok (.iconst 1, 1) := (congrArg (fun c => decode c 978) codeL_eq).trans (by decide +kernel)
theorem dL_law_979 : decode cL_law 979 = .ok (.iadd, 1) := (congrArg (fun c => decode c 979) codeL_eq).trans (by decide +kernel)
theorem dL_law_980 : decode cL_law 980 = .ok (.iaload, 1) := (congrArg (fun c => decode c 980) codeL_eq).trans (by decide +kernel)
theorem dL_law_981 : decode cL_law 981 = .ok (.aload_n 0, 1) := (congrArg (fun c => decode c 981) codeL_eq).trans (by decide +kernel)
theorem dL_law_982 : decode cL_law 982 = .ok (.iload 4, 2) := (congrArg (fun c => decode c 982) codeL_eq).trans (by decide +kernel)
theorem dL_law_984 : decode cL_law 984 = .ok (.iconst 2, 1) := (congrArg (fun c => decode c 984) codeL_eq).trans (by decide +kernel)
theorem dL_law_985 : decode cL_law 985 = .ok (.iadd, 1) := (congrArg (fun c => decode c 985) codeL_eq).trans (by decide +kernel)
theorem dL_law_986 : decode cL_law 986 = .ok (.iaload, 1) := (congrArg (fun c => decode c 986) codeL_eq).trans (by decide +kernel)
theorem dL_law_987 : decode cL_law 987 = .ok (.invokevirtual 164, 3) := (congrArg (fun c => decode c 987) codeL_eq).trans (by decide +kernel)
theorem dL_law_990 : decode cL_law 990 = .ok (.istore 6, 2) := (congrArg (fun c => decode c 990) codeL_eq).trans (by decide +kernel)
theorem dL_law_992 : decode cL_law 992 = .ok (.aload_n 2, 1) := (congrArg (fun c => decode c 992) codeL_eq).trans (by decide +kernel)
theorem dL_law_993 : decode cL_law 993 = .ok (.invokevirtual 114, 3) := (congrArg (fun c => decode c 993) codeL_eq).trans (by decide +kernel)
theorem dL_law_996 : decode cL_law 996 = .ok (.iload 5, 2) := (congrArg (fun c => decode c 996) codeL_eq).trans (by decide +kernel)
theorem dL_law_998 : decode cL_law 998 = .ok (.if_icmp .eq 5, 3) := (congrArg (fun c => decode c 998) codeL_eq).trans (by decide +kernel)
theorem dL_law_1001 : decode cL_law 1001 = .ok (.iconst 0, 1) := (congrArg (fun c => decode c 1001) codeL_eq).trans (by decide +kernel)
theorem dL_law_1002 : decode cL_law 1002 = .ok (.ireturn, 1) := (congrArg (fun c => decode c 1002) codeL_eq).trans (by decide +kernel)
theorem dL_law_1003 : decode cL_law 1003 = .ok (.iload 5, 2) := (congrArg (fun c => decode c 1003) codeL_eq).trans (by decide +kernel)
theorem dL_law_1005 : decode cL_law 1005 = .ok (.ifCond .ne 15, 3) := (congrArg (fun c => decode c 1005) codeL_eq).trans (by decide +kernel)
theorem dL_law_1008 : decode cL_law 1008 = .ok (.aload_n 3, 1) := (congrArg (fun c => decode c 1008) codeL_eq).trans (by decide +kernel)
theorem dL_law_1009 : decode cL_law 1009 = .ok (.iconst 0, 1) := (congrArg (fun c => decode c 1009) codeL_eq).trans (by decide +kernel)
theorem dL_law_1010 : decode cL_law 1010 = .ok (.laload, 1) := (congrArg (fun c => decode c 1010) codeL_eq).trans (by decide +kernel)
theorem dL_law_1011 : decode cL_law 1011 = .ok (.iload 6, 2) := (congrArg (fun c => decode c 1011) codeL_eq).trans (by decide +kernel)
theorem dL_law_1013 : decode cL_law 1013 = .ok (.i2l, 1) := (congrArg (fun c => decode c 1013) codeL_eq).trans (by decide +kernel)
theorem dL_law_1014 : decode cL_law 1014 = .ok (.lcmp, 1) := (congrArg (fun c => decode c 1014) codeL_eq).trans (by decide +kernel)
theorem dL_law_1015 : decode cL_law 1015 = .ok (.ifCond .eq 5, 3) := (congrArg (fun c => decode c 1015) codeL_eq).trans (by decide +kernel)
theorem dL_law_1018 : decode cL_law 1018 = .ok (.iconst 0, 1) := (congrArg (fun c => decode c 1018) codeL_eq).trans (by decide +kernel)
theorem dL_law_1019 : decode cL_law 1019 = .ok (.ireturn, 1) := (congrArg (fun c => decode c 1019) codeL_eq).trans (by decide +kernel)
theorem dL_law_1020 : decode cL_law 1020 = .ok (.goto 1152, 3) := (congrArg (fun c => decode c 1020) codeL_eq).trans (by decide +kernel)
theorem dL_law_1023 : decode cL_law 1023 = .ok (.aload_n 1, 1) := (congrArg (fun c => decode c 1023) codeL_eq).trans (by decide +kernel)
theorem dL_law_1024 : decode cL_law 1024 = .ok (.aload_n 0, 1) := (congrArg (fun c => decode c 1024) codeL_eq).trans (by decide +kernel)
theorem dL_law_1025 : decode cL_law 1025 = .ok (.iload 4, 2) := (congrArg (fun c => decode c 1025) codeL_eq).trans (by decide +kernel)
theorem dL_law_1027 : decode cL_law 1027 = .ok (.iconst 1, 1) := (congrArg (fun c => decode c 1027) codeL_eq).trans (by decide +kernel)
theorem dL_law_1028 : decode cL_law 1028 = .ok (.iadd, 1) := (congrArg (fun c => decode c 1028) codeL_eq).trans (by decide +kernel)
theorem dL_law_1029 : decode cL_law 1029 = .ok (.iaload, 1) := (congrArg (fun c => decode c 1029) codeL_eq).trans (by decide +kernel)
theorem dL_law_1030 : decode cL_law 1030 = .ok (.aload_n 0, 1) := (congrArg (fun c => decode c 1030) codeL_eq).trans (by decide +kernel)
theorem dL_law_1031 : decode cL_law 1031 = .ok (.iload 4, 2) := (congrArg (fun c => decode c 1031) codeL_eq).trans (by decide +kernel)
theorem dL_law_1033 : decode cL_law 1033 = .ok (.iconst 2, 1) := (congrArg (fun c => decode c 1033) codeL_eq).trans (by decide +kernel)
theorem dL_law_1034 : decode cL_law 1034 = .ok (.iadd, 1) := (congrArg (fun c => decode c 1034) codeL_eq).trans (by decide +kernel)
theorem dL_law_1035 : decode cL_law 1035 = .ok (.iaload, 1) := (congrArg (fun c => decode c 1035) codeL_eq).trans (by decide +kernel)
theorem dL_law_1036 : decode cL_law 1036 = .ok (.aload_n 3, 1) := (congrArg (fun c => decode c 1036) codeL_eq).trans (by decide +kernel)
theorem dL_law_1037 : decode cL_law 1037 = .ok (.invokestatic 165, 3) := (congrArg (fun c => decode c 1037) codeL_eq).trans (by decide +kernel)
theorem dL_law_1040 : decode cL_law 1040 = .ok (.istore 5, 2) := (congrArg (fun c => decode c 1040) codeL_eq).trans (by decide +kernel)
theorem dL_law_1042 : decode cL_law 1042 = .ok (.aload_n 2, 1) := (congrArg (fun c => decode c 1042) codeL_eq).trans (by decide +kernel)
theorem dL_law_1043 : decode cL_law 1043 = .ok (.aload_n 0, 1) := (congrArg (fun c => decode c 1043) codeL_eq).trans (by decide +kernel)
theorem dL_law_1044 : decode cL_law 1044 = .ok (.iload 4, 2) := (congrArg (fun c => decode c 1044) codeL_eq).trans (by decide +kernel)
theorem dL_law_1046 : decode cL_law 1046 = .ok (.iconst 1, 1) := (congrArg (fun c => decode c 1046) codeL_eq).trans (by decide +kernel)
theorem dL_law_1047 : decode cL_law 1047 = .ok (.iadd, 1) := (congrArg (fun c => decode c 1047) codeL_eq).trans (by decide +kernel)
theorem dL_law_1048 : decode cL_law 1048 = .ok (.iaload, 1) := (congrArg (fun c => decode c 1048) codeL_eq).trans (by decide +kernel)
theorem dL_law_1049 : decode cL_law 1049 = .ok (.aload_n 0, 1) := (congrArg (fun c => decode c 1049) codeL_eq).trans (by decide +kernel)
theorem dL_law_1050 : decode cL_law 1050 = .ok (.iload 4, 2) := (congrArg (fun c => decode c 1050) codeL_eq).trans (by decide +kernel)
theorem dL_law_1052 : decode cL_law 1052 = .ok (.iconst 2, 1) := (congrArg (fun c => decode c 1052) codeL_eq).trans (by decide +kernel)
theorem dL_law_1053 : decode cL_law 1053 = .ok (.iadd, 1) := (congrArg (fun c => decode c 1053) codeL_eq).trans (by decide +kernel)
theorem dL_law_1054 : decode cL_law 1054 = .ok (.iaload, 1) := (congrArg (fun c => decode c 1054) codeL_eq).trans (by decide +kernel)
theorem dL_law_1055 : decode cL_law 1055 = .ok (.invokevirtual 167, 3) := (congrArg (fun c => decode c 1055) codeL_eq).trans (by decide +kernel)
theorem dL_law_1058 : decode cL_law 1058 = .ok (.istore 6, 2) := (congrArg (fun c => decode c 1058) codeL_eq).trans (by decide +kernel)
theorem dL_law_1060 : decode cL_law 1060 = .ok (.aload_n 2, 1) := (congrArg (fun c => decode c 1060) codeL_eq).trans (by decide +kernel)
theorem dL_law_1061 : decode cL_law 1061 = .ok (.invokevirtual 114, 3) := (congrArg (fun c => decode c 1061) codeL_eq).trans (by decide +kernel)
theorem dL_law_1064 : decode cL_law 1064 = .ok (.iload 5, 2) := (congrArg (fun c => decode c 1064) codeL_eq).trans (by decide +kernel)
theorem dL_law_1066 : decode cL_law 1066 = .ok (.if_icmp .eq 5, 3) := (congrArg (fun c => decode c 1066) codeL_eq).trans (by decide +kernel)
theorem dL_law_1069 : decode cL_law 1069 = .ok (.iconst 0, 1) := (congrArg (fun c => decode c 1069) codeL_eq).trans (by decide +kernel)
theorem dL_law_1070 : decode cL_law 1070 = .ok (.ireturn, 1) := (congrArg (fun c => decode c 1070) codeL_eq).trans (by decide +kernel)
theorem dL_law_1071 : decode cL_law 1071 = .ok (.iload 5, 2) := (congrArg (fun c => decode c 1071) codeL_eq).trans (by decide +kernel)
theorem dL_law_1073 : decode cL_law 1073 = .ok (.ifCond .ne 15, 3) := (congrArg (fun c => decode c 1073) codeL_eq).trans (by decide +kernel)
theorem dL_law_1076 : decode cL_law 1076 = .ok (.aload_n 3, 1) := (congrArg (fun c => decode c 1076) codeL_eq).trans (by decide +kernel)
theorem dL_law_1077 : decode cL_law 1077 = .ok (.iconst 0, 1) := (congrArg (fun c => decode c 1077) codeL_eq).trans (by decide +kernel)
theorem dL_law_1078 : decode cL_law 1078 = .ok (.laload, 1) := (congrArg (fun c => decode c 1078) codeL_eq).trans (by decide +kernel)
theorem dL_law_1079 : decode cL_law 1079 = .ok (.iload 6, 2) := (congrArg (fun c => decode c 1079) codeL_eq).trans (by decide +kernel)
theorem dL_law_1081 : decode cL_law 1081 = .ok (.i2l, 1) := (congrArg (fun c => decode c 1081) codeL_eq).trans (by decide +kernel)
theorem dL_law_1082 : decode cL_law 1082 = .ok (.lcmp, 1) := (congrArg (fun c => decode c 1082) codeL_eq).trans (by decide +kernel)
theorem dL_law_1083 : decode cL_law 1083 = .ok (.ifCond .eq 5, 3) := (congrArg (fun c => decode c 1083) codeL_eq).trans (by decide +kernel)
theorem dL_law_1086 : decode cL_law 1086 = .ok (.iconst 0, 1) := (congrArg (fun c => decode c 1086) codeL_eq).trans (by decide +kernel)
theorem dL_law_1087 : decode cL_law 1087 = .ok (.ireturn, 1) := (congrArg (fun c => decode c 1087) codeL_eq).trans (by decide +kernel)
theorem dL_law_1088 : decode cL_law 1088 = .ok (.goto 1084, 3) := (congrArg (fun c => decode c 1088) codeL_eq).trans (by decide +kernel)
theorem dL_law_1091 : decode cL_law 1091 = .ok (.aload_n 1, 1) := (congrArg (fun c => decode c 1091) codeL_eq).trans (by decide +kernel)
theorem dL_law_1092 : decode cL_law 1092 = .ok (.aload_n 0, 1) := (congrArg (fun c => decode c 1092) codeL_eq).trans (by decide +kernel)
theorem dL_law_1093 : decode cL_law 1093 = .ok (.iload 4, 2) := (congrArg (fun c => decode c 1093) codeL_eq).trans (by decide +kernel)
theorem dL_law_1095 : decode cL_law 1095 = .ok (.iconst 1, 1) := (congrArg (fun c => decode c 1095) codeL_eq).trans (by decide +kernel)
theorem dL_law_1096 : decode cL_law 1096 = .ok (.iadd, 1) := (congrArg (fun c => decode c 1096) codeL_eq).trans (by decide +kernel)
theorem dL_law_1097 : decode cL_law 1097 = .ok (.iaload, 1) := (congrArg (fun c => decode c 1097) codeL_eq).trans (by decide +kernel)
theorem dL_law_1098 : decode cL_law 1098 = .ok (.aload_n 0, 1) := (congrArg (fun c => decode c 1098) codeL_eq).trans (by decide +kernel)
theorem dL_law_1099 : decode cL_law 1099 = .ok (.iload 4, 2) := (congrArg (fun c => decode c 1099) codeL_eq).trans (by decide +kernel)
theorem dL_law_1101 : decode cL_law 1101 = .ok (.iconst 2, 1) := (congrArg (fun c => decode c 1101) codeL_eq).trans (by decide +kernel)
theorem dL_law_1102 : decode cL_law 1102 = .ok (.iadd, 1) := (congrArg (fun c => decode c 1102) codeL_eq).trans (by decide +kernel)
theorem dL_law_1103 : decode cL_law 1103 = .ok (.iaload, 1) := (congrArg (fun c => decode c 1103) codeL_eq).trans (by decide +kernel)
theorem dL_law_1104 : decode cL_law 1104 = .ok (.aload_n 3, 1) := (congrArg (fun c => decode c 1104) codeL_eq).trans (by decide +kernel)
theorem dL_law_1105 : decode cL_law 1105 = .ok (.invokestatic 168, 3) := (congrArg (fun c => decode c 1105) codeL_eq).trans (by decide +kernel)
theorem dL_law_1108 : decode cL_law 1108 = .ok (.istore 5, 2) := (congrArg (fun c => decode c 1108) codeL_eq).trans (by decide +kernel)
theorem dL_law_1110 : decode cL_law 1110 = .ok (.aload_n 2, 1) := (congrArg (fun c => decode c 1110) codeL_eq).trans (by decide +kernel)
theorem dL_law_1111 : decode cL_law 1111 = .ok (.aload_n 0, 1) := (congrArg (fun c => decode c 1111) codeL_eq).trans (by decide +kernel)
theorem dL_law_1112 : decode cL_law 1112 = .ok (.iload 4, 2) := (congrArg (fun c => decode c 1112) codeL_eq).trans (by decide +kernel)
theorem dL_law_1114 : decode cL_law 1114 = .ok (.iconst 1, 1) := (congrArg (fun c => decode c 1114) codeL_eq).trans (by decide +kernel)
theorem dL_law_1115 : decode cL_law 1115 = .ok (.iadd, 1) := (congrArg (fun c => decode c 1115) codeL_eq).trans (by decide +kernel)
theorem dL_law_1116 : decode cL_law 1116 = .ok (.iaload, 1) := (congrArg (fun c => decode c 1116) codeL_eq).trans (by decide +kernel)
theorem dL_law_1117 : decode cL_law 1117 = .ok (.aload_n 0, 1) := (congrArg (fun c => decode c 1117) codeL_eq).trans (by decide +kernel)
theorem dL_law_1118 : decode cL_law 1118 = .ok (.iload 4, 2) := (congrArg (fun c => decode c 1118) codeL_eq).trans (by decide +kernel)
theorem dL_law_1120 : decode cL_law 1120 = .ok (.iconst 2, 1) := (congrArg (fun c => decode c 1120) codeL_eq).trans (by decide +kernel)
theorem dL_law_1121 : decode cL_law 1121 = .ok (.iadd, 1) := (congrArg (fun c => decode c 1121) codeL_eq).trans (by decide +kernel)
theorem dL_law_1122 : decode cL_law 1122 = .ok (.iaload, 1) := (congrArg (fun c => decode c 1122) codeL_eq).trans (by decide +kernel)
theorem dL_law_1123 : decode cL_law 1123 = .ok (.invokevirtual 170, 3) := (congrArg (fun c => decode c 1123) codeL_eq).trans (by decide +kernel)
theorem dL_law_1126 : decode cL_law 1126 = .ok (.istore 6, 2) := (congrArg (fun c => decode c 1126) codeL_eq).trans (by decide +kernel)
theorem dL_law_1128 : decode cL_law 1128 = .ok (.aload_n 2, 1) := (congrArg (fun c => decode c 1128) codeL_eq).trans (by decide +kernel)
theorem dL_law_1129 : decode cL_law 1129 = .ok (.invokevirtual 114, 3) := (congrArg (fun c => decode c 1129) codeL_eq).trans (by decide +kernel)
theorem dL_law_1132 : decode cL_law 1132 = .ok (.iload 5, 2) := (congrArg (fun c => decode c 1132) codeL_eq).trans (by decide +kernel)
theorem dL_law_1134 : decode cL_law 1134 = .ok (.if_icmp .eq 5, 3) := (congrArg (fun c => decode c 1134) codeL_eq).trans (by decide +kernel)
theorem dL_law_1137 : decode cL_law 1137 = .ok (.iconst 0, 1) := (congrArg (fun c => decode c 1137) codeL_eq).trans (by decide +kernel)
theorem dL_law_1138 : decode cL_law 1138 = .ok (.ireturn, 1) := (congrArg (fun c => decode c 1138) codeL_eq).trans (by decide +kernel)
theorem dL_law_1139 : decode cL_law 1139 = .ok (.iload 5, 2) := (congrArg (fun c => decode c 1139) codeL_eq).trans (by decide +kernel)
theorem dL_law_1141 : decode cL_law 1141 = .ok (.ifCond .ne 15, 3) := (congrArg (fun c => decode c 1141) codeL_eq).trans (by decide +kernel)
theorem dL_law_1144 : decode cL_law 1144 = .ok (.aload_n 3, 1) := (congrArg (fun c => decode c 1144) codeL_eq).trans (by decide +kernel)
theorem dL_law_1145 : decode cL_law 1145 = .ok (.iconst 0, 1) := (congrArg (fun c => decode c 1145) codeL_eq).trans (by decide +kernel)
theorem dL_law_1146 : decode cL_law 1146 = .ok (.laload, 1) := (congrArg (fun c => decode c 1146) codeL_eq).trans (by decide +kernel)
theorem dL_law_1147 : decode cL_law 1147 = .ok (.iload 6, 2) := (congrArg (fun c => decode c 1147) codeL_eq).trans (by decide +kernel)
theorem dL_law_1149 : decode cL_law 1149 = .ok (.i2l, 1) := (congrArg (fun c => decode c 1149) codeL_eq).trans (by decide +kernel)
theorem dL_law_1150 : decode cL_law 1150 = .ok (.lcmp, 1) := (congrArg (fun c => decode c 1150) codeL_eq).trans (by decide +kernel)
theorem dL_law_1151 : decode cL_law 1151 = .ok (.ifCond .eq 5, 3) := (congrArg (fun c => decode c 1151) codeL_eq).trans (by decide +kernel)
theorem dL_law_1154 : decode cL_law 1154 = .ok (.iconst 0, 1) := (congrArg (fun c => decode c 1154) codeL_eq).trans (by decide +kernel)
theorem dL_law_1155 : decode cL_law 1155 = .ok (.ireturn, 1) := (congrArg (fun c => decode c 1155) codeL_eq).trans (by decide +kernel)
theorem dL_law_1156 : decode cL_law 1156 = .ok (.goto 1016, 3) := (congrArg (fun c => decode c 1156) codeL_eq).trans (by decide +kernel)
theorem dL_law_1159 : decode cL_law 1159 = .ok (.aload_n 1, 1) := (congrArg (fun c => decode c 1159) codeL_eq).trans (by decide +kernel)
theorem dL_law_1160 : decode cL_law 1160 = .ok (.aload_n 0, 1) := (congrArg (fun c => decode c 1160) codeL_eq).trans (by decide +kernel)
theorem dL_law_1161 : decode cL_law 1161 = .ok (.iload 4, 2) := (congrArg (fun c => decode c 1161) codeL_eq).trans (by decide +kernel)
theorem dL_law_1163 : decode cL_law 1163 = .ok (.iconst 1, 1) := (congrArg (fun c => decode c 1163) codeL_eq).trans (by decide +kernel)
theorem dL_law_1164 : decode cL_law 1164 = .ok (.iadd, 1) := (congrArg (fun c => decode c 1164) codeL_eq).trans (by decide +kernel)
theorem dL_law_1165 : decode cL_law 1165 = .ok (.iaload, 1) := (congrArg (fun c => decode c 1165) codeL_eq).trans (by decide +kernel)
theorem dL_law_1166 : decode cL_law 1166 = .ok (.aload_n 0, 1) := (congrArg (fun c => decode c 1166) codeL_eq).trans (by decide +kernel)
theorem dL_law_1167 : decode cL_law 1167 = .ok (.iload 4, 2) := (congrArg (fun c => decode c 1167) codeL_eq).trans (by decide +kernel)
theorem dL_law_1169 : decode cL_law 1169 = .ok (.iconst 2, 1) := (congrArg (fun c => decode c 1169) codeL_eq).trans (by decide +kernel)
theorem dL_law_1170 : decode cL_law 1170 = .ok (.iadd, 1) := (congrArg (fun c => decode c 1170) codeL_eq).trans (by decide +kernel)
theorem dL_law_1171 : decode cL_law 1171 = .ok (.iaload, 1) := (congrArg (fun c => decode c 1171) codeL_eq).trans (by decide +kernel)
theorem dL_law_1172 : decode cL_law 1172 = .ok (.aload_n 0, 1) := (congrArg (fun c => decode c 1172) codeL_eq).trans (by decide +kernel)
theorem dL_law_1173 : decode cL_law 1173 = .ok (.iload 4, 2) := (congrArg (fun c => decode c 1173) codeL_eq).trans (by decide +kernel)
theorem dL_law_1175 : decode cL_law 1175 = .ok (.iconst 3, 1) := (congrArg (fun c => decode c 1175) codeL_eq).trans (by decide +kernel)
theorem dL_law_1176 : decode cL_law 1176 = .ok (.iadd, 1) := (congrArg (fun c => decode c 1176) codeL_eq).trans (by decide +kernel)
theorem dL_law_1177 : decode cL_law 1177 = .ok (.iaload, 1) := (congrArg (fun c => decode c 1177) codeL_eq).trans (by decide +kernel)
theorem dL_law_1178 : decode cL_law 1178 = .ok (.aload_n 0, 1) := (congrArg (fun c => decode c 1178) codeL_eq).trans (by decide +kernel)
theorem dL_law_1179 : decode cL_law 1179 = .ok (.iload 4, 2) := (congrArg (fun c => decode c 1179) codeL_eq).trans (by decide +kernel)
theorem dL_law_1181 : decode cL_law 1181 = .ok (.iconst 4, 1) := (congrArg (fun c => decode c 1181) codeL_eq).trans (by decide +kernel)
theorem dL_law_1182 : decode cL_law 1182 = .ok (.iadd, 1) := (congrArg (fun c => decode c 1182) codeL_eq).trans (by decide +kernel)
theorem dL_law_1183 : decode cL_law 1183 = .ok (.iaload, 1) := (congrArg (fun c => decode c 1183) codeL_eq).trans (by decide +kernel)
theorem dL_law_1184 : decode cL_law 1184 = .ok (.aload_n 3, 1) := (congrArg (fun c => decode c 1184) codeL_eq).trans (by decide +kernel)
theorem dL_law_1185 : decode cL_law 1185 = .ok (.invokestatic 171, 3) := (congrArg (fun c => decode c 1185) codeL_eq).trans (by decide +kernel)
theorem dL_law_1188 : decode cL_law 1188 = .ok (.istore 5, 2) := (congrArg (fun c => decode c 1188) codeL_eq).trans (by decide +kernel)
theorem dL_law_1190 : decode cL_law 1190 = .ok (.aload_n 2, 1) := (congrArg (fun c => decode c 1190) codeL_eq).trans (by decide +kernel)
theorem dL_law_1191 : decode cL_law 1191 = .ok (.aload_n 0, 1) := (congrArg (fun c => decode c 1191) codeL_eq).trans (by decide +kernel)
theorem dL_law_1192 : decode cL_law 1192 = .ok (.iload 4, 2) := (congrArg (fun c => decode c 1192) codeL_eq).trans (by decide +kernel)
theorem dL_law_1194 : decode cL_law 1194 = .ok (.iconst 1, 1) := (congrArg (fun c => decode c 1194) codeL_eq).trans (by decide +kernel)
theorem dL_law_1195 : decode cL_law 1195 = .ok (.iadd, 1) := (congrArg (fun c => decode c 1195) codeL_eq).trans (by decide +kernel)
theorem dL_law_1196 : decode cL_law 1196 = .ok (.iaload, 1) := (congrArg (fun c => decode c 1196) codeL_eq).trans (by decide +kernel)
theorem dL_law_1197 : decode cL_law 1197 = .ok (.aload_n 0, 1) := (congrArg (fun c => decode c 1197) codeL_eq).trans (by decide +kernel)
theorem dL_law_1198 : decode cL_law 1198 = .ok (.iload 4, 2) := (congrArg (fun c => decode c 1198) codeL_eq).trans (by decide +kernel)
theorem dL_law_1200 : decode cL_law 1200 = .ok (.iconst 2, 1) := (congrArg (fun c => decode c 1200) codeL_eq).trans (by decide +kernel)
theorem dL_law_1201 : decode cL_law 1201 = .ok (.iadd, 1) := (congrArg (fun c => decode c 1201) codeL_eq).trans (by decide +kernel)
theorem dL_law_1202 : decode cL_law 1202 = .ok (.iaload, 1) := (congrArg (fun c => decode c 1202) codeL_eq).trans (by decide +kernel)
theorem dL_law_1203 : decode cL_law 1203 = .ok (.aload_n 0, 1) := (congrArg (fun c => decode c 1203) codeL_eq).trans (by decide +kernel)
theorem dL_law_1204 : decode cL_law 1204 = .ok (.iload 4, 2) := (congrArg (fun c => decode c 1204) codeL_eq).trans (by decide +kernel)
theorem dL_law_1206 : decode cL_law 1206 = .ok (.iconst 3, 1) := (congrArg (fun c => decode c 1206) codeL_eq).trans (by decide +kernel)
theorem dL_law_1207 : decode cL_law 1207 = .ok (.iadd, 1) := (congrArg (fun c => decode c 1207) codeL_eq).trans (by decide +kernel)
theorem dL_law_1208 : decode cL_law 1208 = .ok (.iaload, 1) := (congrArg (fun c => decode c 1208) codeL_eq).trans (by decide +kernel)
theorem dL_law_1209 : decode cL_law 1209 = .ok (.aload_n 0, 1) := (congrArg (fun c => decode c 1209) codeL_eq).trans (by decide +kernel)
theorem dL_law_1210 : decode cL_law 1210 = .ok (.iload 4, 2) := (congrArg (fun c => decode c 1210) codeL_eq).trans (by decide +kernel)
theorem dL_law_1212 : decode cL_law 1212 = .ok (.iconst 4, 1) := (congrArg (fun c => decode c 1212) codeL_eq).trans (by decide +kernel)
theorem dL_law_1213 : decode cL_law 1213 = .ok (.iadd, 1) := (congrArg (fun c => decode c 1213) codeL_eq).trans (by decide +kernel)
theorem dL_law_1214 : decode cL_law 1214 = .ok (.iaload, 1) := (congrArg (fun c => decode c 1214) codeL_eq).trans (by decide +kernel)
theorem dL_law_1215 : decode cL_law 1215 = .ok (.invokevirtual 174, 3) := (congrArg (fun c => decode c 1215) codeL_eq).trans (by decide +kernel)
theorem dL_law_1218 : decode cL_law 1218 = .ok (.istore 6, 2) := (congrArg (fun c => decode c 1218) codeL_eq).trans (by decide +kernel)
theorem dL_law_1220 : decode cL_law 1220 = .ok (.aload_n 2, 1) := (congrArg (fun c => decode c 1220) codeL_eq).trans (by decide +kernel)
theorem dL_law_1221 : decode cL_law 1221 = .ok (.invokevirtual 114, 3) := (congrArg (fun c => decode c 1221) codeL_eq).trans (by decide +kernel)
theorem dL_law_1224 : decode cL_law 1224 = .ok (.iload 5, 2) := (congrArg (fun c => decode c 1224) codeL_eq).trans (by decide +kernel)
theorem dL_law_1226 : decode cL_law 1226 = .ok (.if_icmp .eq 5, 3) := (congrArg (fun c => decode c 1226) codeL_eq).trans (by decide +kernel)
theorem dL_law_1229 : decode cL_law 1229 = .ok (.iconst 0, 1) := (congrArg (fun c => decode c 1229) codeL_eq).trans (by decide +kernel)
theorem dL_law_1230 : decode cL_law 1230 = .ok (.ireturn, 1) := (congrArg (fun c => decode c 1230) codeL_eq).trans (by decide +kernel)
theorem dL_law_1231 : decode cL_law 1231 = .ok (.iload 5, 2) := (congrArg (fun c => decode c 1231) codeL_eq).trans (by decide +kernel)
theorem dL_law_1233 : decode cL_law 1233 = .ok (.ifCond .ne 15, 3) := (congrArg (fun c => decode c 1233) codeL_eq).trans (by decide +kernel)
theorem dL_law_1236 : decode cL_law 1236 = .ok (.aload_n 3, 1) := (congrArg (fun c => decode c 1236) codeL_eq).trans (by decide +kernel)
theorem dL_law_1237 : decode cL_law 1237 = .ok (.iconst 0, 1) := (congrArg (fun c => decode c 1237) codeL_eq).trans (by decide +kernel)
theorem dL_law_1238 : decode cL_law 1238 = .ok (.laload, 1) := (congrArg (fun c => decode c 1238) codeL_eq).trans (by decide +kernel)
theorem dL_law_1239 : decode cL_law 1239 = .ok (.iload 6, 2) := (congrArg (fun c => decode c 1239) codeL_eq).trans (by decide +kernel)
theorem dL_law_1241 : decode cL_law 1241 = .ok (.i2l, 1) := (congrArg (fun c => decode c 1241) codeL_eq).trans (by decide +kernel)
theorem dL_law_1242 : decode cL_law 1242 = .ok (.lcmp, 1) := (congrArg (fun c => decode c 1242) codeL_eq).trans (by decide +kernel)
theorem dL_law_1243 : decode cL_law 1243 = .ok (.ifCond .eq 5, 3) := (congrArg (fun c => decode c 1243) codeL_eq).trans (by decide +kernel)
theorem dL_law_1246 : decode cL_law 1246 = .ok (.iconst 0, 1) := (congrArg (fun c => decode c 1246) codeL_eq).trans (by decide +kernel)
theorem dL_law_1247 : decode cL_law 1247 = .ok (.ireturn, 1) := (congrArg (fun c => decode c 1247) codeL_eq).trans (by decide +kernel)
theorem dL_law_1248 : decode cL_law 1248 = .ok (.goto 924, 3) := (congrArg (fun c => decode c 1248) codeL_eq).trans (by decide +kernel)
theorem dL_law_1251 : decode cL_law 1251 = .ok (.aload_n 1, 1) := (congrArg (fun c => decode c 1251) codeL_eq).trans (by decide +kernel)
theorem dL_law_1252 : decode cL_law 1252 = .ok (.aload_n 0, 1) := (congrArg (fun c => decode c 1252) codeL_eq).trans (by decide +kernel)
theorem dL_law_1253 : decode cL_law 1253 = .ok (.iload 4, 2) := (congrArg (fun c => decode c 1253) codeL_eq).trans (by decide +kernel)
theorem dL_law_1255 : decode cL_law 1255 = .ok (.iconst 1, 1) := (congrArg (fun c => decode c 1255) codeL_eq).trans (by decide +kernel)
theorem dL_law_1256 : decode cL_law 1256 = .ok (.iadd, 1) := (congrArg (fun c => decode c 1256) codeL_eq).trans (by decide +kernel)
theorem dL_law_1257 : decode cL_law 1257 = .ok (.iaload, 1) := (congrArg (fun c => decode c 1257) codeL_eq).trans (by decide +kernel)
theorem dL_law_1258 : decode cL_law 1258 = .ok (.aload_n 0, 1) := (congrArg (fun c => decode c 1258) codeL_eq).trans (by decide +kernel)
theorem dL_law_1259 : decode cL_law 1259 = .ok (.iload 4, 2) := (congrArg (fun c => decode c 1259) codeL_eq).trans (by decide +kernel)
theorem dL_law_1261 : decode cL_law 1261 = .ok (.iconst 2, 1) := (congrArg (fun c => decode c 1261) codeL_eq).trans (by decide +kernel)
theorem dL_law_1262 : decode cL_law 1262 = .ok (.iadd, 1) := (congrArg (fun c => decode c 1262) codeL_eq).trans (by decide +kernel)
theorem dL_law_1263 : decode cL_law 1263 = .ok (.iaload, 1) := (congrArg (fun c => decode c 1263) codeL_eq).trans (by decide +kernel)
theorem dL_law_1264 : decode cL_law 1264 = .ok (.aload_n 3, 1) := (congrArg (fun c => decode c 1264) codeL_eq).trans (by decide +kernel)
theorem dL_law_1265 : decode cL_law 1265 = .ok (.invokestatic 175, 3) := (congrArg (fun c => decode c 1265) codeL_eq).trans (by decide +kernel)
theorem dL_law_1268 : decode cL_law 1268 = .ok (.istore 5, 2) := (congrArg (fun c => decode c 1268) codeL_eq).trans (by decide +kernel)
theorem dL_law_1270 : decode cL_law 1270 = .ok (.aload_n 2, 1) := (congrArg (fun c => decode c 1270) codeL_eq).trans (by decide +kernel)
theorem dL_law_1271 : decode cL_law 1271 = .ok (.aload_n 0, 1) := (congrArg (fun c => decode c 1271) codeL_eq).trans (by decide +kernel)
theorem dL_law_1272 : decode cL_law 1272 = .ok (.iload 4, 2) := (congrArg (fun c => decode c 1272) codeL_eq).trans (by decide +kernel)
theorem dL_law_1274 : decode cL_law 1274 = .ok (.iconst 1, 1) := (congrArg (fun c => decode c 1274) codeL_eq).trans (by decide +kernel)
theorem dL_law_1275 : decode cL_law 1275 = .ok (.iadd, 1) := (congrArg (fun c => decode c 1275) codeL_eq).trans (by decide +kernel)
theorem dL_law_1276 : decode cL_law 1276 = .ok (.iaload, 1) := (congrArg (fun c => decode c 1276) codeL_eq).trans (by decide +kernel)
theorem dL_law_1277 : decode cL_law 1277 = .ok (.aload_n 0, 1) := (congrArg (fun c => decode c 1277) codeL_eq).trans (by decide +kernel)
theorem dL_law_1278 : decode cL_law 1278 = .ok (.iload 4, 2) := (congrArg (fun c => decode c 1278) codeL_eq).trans (by decide +kernel)
theorem dL_law_1280 : decode cL_law 1280 = .ok (.iconst 2, 1) := (congrArg (fun c => decode c 1280) codeL_eq).trans (by decide +kernel)
theorem dL_law_1281 : decode cL_law 1281 = .ok (.iadd, 1) := (congrArg (fun c => decode c 1281) codeL_eq).trans (by decide +kernel)
theorem dL_law_1282 : decode cL_law 1282 = .ok (.iaload, 1) := (congrArg (fun c => decode c 1282) codeL_eq).trans (by decide +kernel)
theorem dL_law_1283 : decode cL_law 1283 = .ok (.invokevirtual 177, 3) := (congrArg (fun c => decode c 1283) codeL_eq).trans (by decide +kernel)
theorem dL_law_1286 : decode cL_law 1286 = .ok (.istore 6, 2) := (congrArg (fun c => decode c 1286) codeL_eq).trans (by decide +kernel)
theorem dL_law_1288 : decode cL_law 1288 = .ok (.aload_n 2, 1) := (congrArg (fun c => decode c 1288) codeL_eq).trans (by decide +kernel)
theorem dL_law_1289 : decode cL_law 1289 = .ok (.invokevirtual 114, 3) := (congrArg (fun c => decode c 1289) codeL_eq).trans (by decide +kernel)
theorem dL_law_1292 : decode cL_law 1292 = .ok (.iload 5, 2) := (congrArg (fun c => decode c 1292) codeL_eq).trans (by decide +kernel)
theorem dL_law_1294 : decode cL_law 1294 = .ok (.if_icmp .eq 5, 3) := (congrArg (fun c => decode c 1294) codeL_eq).trans (by decide +kernel)
theorem dL_law_1297 : decode cL_law 1297 = .ok (.iconst 0, 1) := (congrArg (fun c => decode c 1297) codeL_eq).trans (by decide +kernel)
theorem dL_law_1298 : decode cL_law 1298 = .ok (.ireturn, 1) := (congrArg (fun c => decode c 1298) codeL_eq).trans (by decide +kernel)
theorem dL_law_1299 : decode cL_law 1299 = .ok (.iload 5, 2) := (congrArg (fun c => decode c 1299) codeL_eq).trans (by decide +kernel)
theorem dL_law_1301 : decode cL_law 1301 = .ok (.ifCond .ne 15, 3) := (congrArg (fun c => decode c 1301) codeL_eq).trans (by decide +kernel)
theorem dL_law_1304 : decode cL_law 1304 = .ok (.aload_n 3, 1) := (congrArg (fun c => decode c 1304) codeL_eq).trans (by decide +kernel)
theorem dL_law_1305 : decode cL_law 1305 = .ok (.iconst 0, 1) := (congrArg (fun c => decode c 1305) codeL_eq).trans (by decide +kernel)
theorem dL_law_1306 : decode cL_law 1306 = .ok (.laload, 1) := (congrArg (fun c => decode c 1306) codeL_eq).trans (by decide +kernel)
theorem dL_law_1307 : decode cL_law 1307 = .ok (.iload 6, 2) := (congrArg (fun c => decode c 1307) codeL_eq).trans (by decide +kernel)
theorem dL_law_1309 : decode cL_law 1309 = .ok (.i2l, 1) := (congrArg (fun c => decode c 1309) codeL_eq).trans (by decide +kernel)
theorem dL_law_1310 : decode cL_law 1310 = .ok (.lcmp, 1) := (congrArg (fun c => decode c 1310) codeL_eq).trans (by decide +kernel)
theorem dL_law_1311 : decode cL_law 1311 = .ok (.ifCond .eq 5, 3) := (congrArg (fun c => decode c 1311) codeL_eq).trans (by decide +kernel)
theorem dL_law_1314 : decode cL_law 1314 = .ok (.iconst 0, 1) := (congrArg (fun c => decode c 1314) codeL_eq).trans (by decide +kernel)
theorem dL_law_1315 : decode cL_law 1315 = .ok (.ireturn, 1) := (congrArg (fun c => decode c 1315) codeL_eq).trans (by decide +kernel)
theorem dL_law_1316 : decode cL_law 1316 = .ok (.goto 856, 3) := (congrArg (fun c => decode c 1316) codeL_eq).trans (by decide +kernel)
theorem dL_law_1319 : decode cL_law 1319 = .ok (.aload_n 1, 1) := (congrArg (fun c => decode c 1319) codeL_eq).trans (by decide +kernel)
theorem dL_law_1320 : decode cL_law 1320 = .ok (.aload_n 0, 1) := (congrArg (fun c => decode c 1320) codeL_eq).trans (by decide +kernel)
theorem dL_law_1321 : decode cL_law 1321 = .ok (.iload 4, 2) := (congrArg (fun c => decode c 1321) codeL_eq).trans (by decide +kernel)
theorem dL_law_1323 : decode cL_law 1323 = .ok (.iconst 1, 1) := (congrArg (fun c => decode c 1323) codeL_eq).trans (by decide +kernel)
theorem dL_law_1324 : decode cL_law 1324 = .ok (.iadd, 1) := (congrArg (fun c => decode c 1324) codeL_eq).trans (by decide +kernel)
theorem dL_law_1325 : decode cL_law 1325 = .ok (.iaload, 1) := (congrArg (fun c => decode c 1325) codeL_eq).trans (by decide +kernel)
theorem dL_law_1326 : decode cL_law 1326 = .ok (.aload_n 0, 1) := (congrArg (fun c => decode c 1326) codeL_eq).trans (by decide +kernel)
theorem dL_law_1327 : decode cL_law 1327 = .ok (.iload 4, 2) := (congrArg (fun c => decode c 1327) codeL_eq).trans (by decide +kernel)
theorem dL_law_1329 : decode cL_law 1329 = .ok (.iconst 2, 1) := (congrArg (fun c => decode c 1329) codeL_eq).trans (by decide +kernel)
theorem dL_law_1330 : decode cL_law 1330 = .ok (.iadd, 1) := (congrArg (fun c => decode c 1330) codeL_eq).trans (by decide +kernel)
theorem dL_law_1331 : decode cL_law 1331 = .ok (.iaload, 1) := (congrArg (fun c => decode c 1331) codeL_eq).trans (by decide +kernel)
theorem dL_law_1332 : decode cL_law 1332 = .ok (.aload_n 3, 1) := (congrArg (fun c => decode c 1332) codeL_eq).trans (by decide +kernel)
theorem dL_law_1333 : decode cL_law 1333 = .ok (.invokestatic 178, 3) := (congrArg (fun c => decode c 1333) codeL_eq).trans (by decide +kernel)
theorem dL_law_1336 : decode cL_law 1336 = .ok (.istore 5, 2) := (congrArg (fun c => decode c 1336) codeL_eq).trans (by decide +kernel)
theorem dL_law_1338 : decode cL_law 1338 = .ok (.aload_n 2, 1) := (congrArg (fun c => decode c 1338) codeL_eq).trans (by decide +kernel)
theorem dL_law_1339 : decode cL_law 1339 = .ok (.aload_n 0, 1) := (congrArg (fun c => decode c 1339) codeL_eq).trans (by decide +kernel)
theorem dL_law_1340 : decode cL_law 1340 = .ok (.iload 4, 2) := (congrArg (fun c => decode c 1340) codeL_eq).trans (by decide +kernel)
theorem dL_law_1342 : decode cL_law 1342 = .ok (.iconst 1, 1) := (congrArg (fun c => decode c 1342) codeL_eq).trans (by decide +kernel)
theorem dL_law_1343 : decode cL_law 1343 = .ok (.iadd, 1) := (congrArg (fun c => decode c 1343) codeL_eq).trans (by decide +kernel)
theorem dL_law_1344 : decode cL_law 1344 = .ok (.iaload, 1) := (congrArg (fun c => decode c 1344) codeL_eq).trans (by decide +kernel)
theorem dL_law_1345 : decode cL_law 1345 = .ok (.aload_n 0, 1) := (congrArg (fun c => decode c 1345) codeL_eq).trans (by decide +kernel)
theorem dL_law_1346 : decode cL_law 1346 = .ok (.iload 4, 2) := (congrArg (fun c => decode c 1346) codeL_eq).trans (by decide +kernel)
theorem dL_law_1348 : decode cL_law 1348 = .ok (.iconst 2, 1) := (congrArg (fun c => decode c 1348) codeL_eq).trans (by decide +kernel)
theorem dL_law_1349 : decode cL_law 1349 = .ok (.iadd, 1) := (congrArg (fun c => decode c 1349) codeL_eq).trans (by decide +kernel)
theorem dL_law_1350 : decode cL_law 1350 = .ok (.iaload, 1) := (congrArg (fun c => decode c 1350) codeL_eq).trans (by decide +kernel)
theorem dL_law_1351 : decode cL_law 1351 = .ok (.invokevirtual 180, 3) := (congrArg (fun c => decode c 1351) codeL_eq).trans (by decide +kernel)
theorem dL_law_1354 : decode cL_law 1354 = .ok (.istore 6, 2) := (congrArg (fun c => decode c 1354) codeL_eq).trans (by decide +kernel)
theorem dL_law_1356 : decode cL_law 1356 = .ok (.aload_n 2, 1) := (congrArg (fun c => decode c 1356) codeL_eq).trans (by decide +kernel)
theorem dL_law_1357 : decode cL_law 1357 = .ok (.invokevirtual 114, 3) := (congrArg (fun c => decode c 1357) codeL_eq).trans (by decide +kernel)
theorem dL_law_1360 : decode cL_law 1360 = .ok (.iload 5, 2) := (congrArg (fun c => decode c 1360) codeL_eq).trans (by decide +kernel)
theorem dL_law_1362 : decode cL_law 1362 = .ok (.if_icmp .eq 5, 3) := (congrArg (fun c => decode c 1362) codeL_eq).trans (by decide +kernel)
theorem dL_law_1365 : decode cL_law 1365 = .ok (.iconst 0, 1) := (congrArg (fun c => decode c 1365) codeL_eq).trans (by decide +kernel)
theorem dL_law_1366 : decode cL_law 1366 = .ok (.ireturn, 1) := (congrArg (fun c => decode c 1366) codeL_eq).trans (by decide +kernel)
theorem dL_law_1367 : decode cL_law 1367 = .ok (.iload 5, 2) := (congrArg (fun c => decode c 1367) codeL_eq).trans (by decide +kernel)
theorem dL_law_1369 : decode cL_law 1369 = .ok (.ifCond .ne 15, 3) := (congrArg (fun c => decode c 1369) codeL_eq).trans (by decide +kernel)
theorem dL_law_1372 : decode cL_law 1372 = .ok (.aload_n 3, 1) := (congrArg (fun c => decode c 1372) codeL_eq).trans (by decide +kernel)
theorem dL_law_1373 : decode cL_law 1373 = .ok (.iconst 0, 1) := (congrArg (fun c => decode c 1373) codeL_eq).trans (by decide +kernel)
theorem dL_law_1374 : decode cL_law 1374 = .ok (.laload, 1) := (congrArg (fun c => decode c 1374) codeL_eq).trans (by decide +kernel)
theorem dL_law_1375 : decode cL_law 1375 = .ok (.iload 6, 2) := (congrArg (fun c => decode c 1375) codeL_eq).trans (by decide +kernel)
theorem dL_law_1377 : decode cL_law 1377 = .ok (.i2l, 1) := (congrArg (fun c => decode c 1377) codeL_eq).trans (by decide +kernel)
theorem dL_law_1378 : decode cL_law 1378 = .ok (.lcmp, 1) := (congrArg (fun c => decode c 1378) codeL_eq).trans (by decide +kernel)
theorem dL_law_1379 : decode cL_law 1379 = .ok (.ifCond .eq 5, 3) := (congrArg (fun c => decode c 1379) codeL_eq).trans (by decide +kernel)
theorem dL_law_1382 : decode cL_law 1382 = .ok (.iconst 0, 1) := (congrArg (fun c => decode c 1382) codeL_eq).trans (by decide +kernel)
theorem dL_law_1383 : decode cL_law 1383 = .ok (.ireturn, 1) := (congrArg (fun c => decode c 1383) codeL_eq).trans (by decide +kernel)
theorem dL_law_1384 : decode cL_law 1384 = .ok (.goto 788, 3) := (congrArg (fun c => decode c 1384) codeL_eq).trans (by decide +kernel)
theorem dL_law_1387 : decode cL_law 1387 = .ok (.aload_n 1, 1) := (congrArg (fun c => decode c 1387) codeL_eq).trans (by decide +kernel)
theorem dL_law_1388 : decode cL_law 1388 = .ok (.aload_n 0, 1) := (congrArg (fun c => decode c 1388) codeL_eq).trans (by decide +kernel)
theorem dL_law_1389 : decode cL_law 1389 = .ok (.iload 4, 2) := (congrArg (fun c => decode c 1389) codeL_eq).trans (by decide +kernel)
theorem dL_law_1391 : decode cL_law 1391 = .ok (.iconst 1, 1) := (congrArg (fun c => decode c 1391) codeL_eq).trans (by decide +kernel)
theorem dL_law_1392 : decode cL_law 1392 = .ok (.iadd, 1) := (congrArg (fun c => decode c 1392) codeL_eq).trans (by decide +kernel)
theorem dL_law_1393 : decode cL_law 1393 = .ok (.iaload, 1) := (congrArg (fun c => decode c 1393) codeL_eq).trans (by decide +kernel)
theorem dL_law_1394 : decode cL_law 1394 = .ok (.aload_n 3, 1) := (congrArg (fun c => decode c 1394) codeL_eq).trans (by decide +kernel)
theorem dL_law_1395 : decode cL_law 1395 = .ok (.invokestatic 181, 3) := (congrArg (fun c => decode c 1395) codeL_eq).trans (by decide +kernel)
theorem dL_law_1398 : decode cL_law 1398 = .ok (.istore 5, 2) := (congrArg (fun c => decode c 1398) codeL_eq).trans (by decide +kernel)
theorem dL_law_1400 : decode cL_law 1400 = .ok (.aload_n 2, 1) := (congrArg (fun c => decode c 1400) codeL_eq).trans (by decide +kernel)
theorem dL_law_1401 : decode cL_law 1401 = .ok (.aload_n 0, 1) := (congrArg (fun c => decode c 1401) codeL_eq).trans (by decide +kernel)
theorem dL_law_1402 : decode cL_law 1402 = .ok (.iload 4, 2) := (congrArg (fun c => decode c 1402) codeL_eq).trans (by decide +kernel)
theorem dL_law_1404 : decode cL_law 1404 = .ok (.iconst 1, 1) := (congrArg (fun c => decode c 1404) codeL_eq).trans (by decide +kernel)
theorem dL_law_1405 : decode cL_law 1405 = .ok (.iadd, 1) := (congrArg (fun c => decode c 1405) codeL_eq).trans (by decide +kernel)
theorem dL_law_1406 : decode cL_law 1406 = .ok (.iaload, 1) := (congrArg (fun c => decode c 1406) codeL_eq).trans (by decide +kernel)
theorem dL_law_1407 : decode cL_law 1407 = .ok (.invokevirtual 183, 3) := (congrArg (fun c => decode c 1407) codeL_eq).trans (by decide +kernel)
theorem dL_law_1410 : decode cL_law 1410 = .ok (.istore 6, 2) := (congrArg (fun c => decode c 1410) codeL_eq).trans (by decide +kernel)
theorem dL_law_1412 : decode cL_law 1412 = .ok (.aload_n 2, 1) := (congrArg (fun c => decode c 1412) codeL_eq).trans (by decide +kernel)
theorem dL_law_1413 : decode cL_law 1413 = .ok (.invokevirtual 114, 3) := (congrArg (fun c => decode c 1413) codeL_eq).trans (by decide +kernel)
theorem dL_law_1416 : decode cL_law 1416 = .ok (.iload 5, 2) := (congrArg (fun c => decode c 1416) codeL_eq).trans (by decide +kernel)
theorem dL_law_1418 : decode cL_law 1418 = .ok (.if_icmp .eq 5, 3) := (congrArg (fun c => decode c 1418) codeL_eq).trans (by decide +kernel)
theorem dL_law_1421 : decode cL_law 1421 = .ok (.iconst 0, 1) := (congrArg (fun c => decode c 1421) codeL_eq).trans (by decide +kernel)
theorem dL_law_1422 : decode cL_law 1422 = .ok (.ireturn, 1) := (congrArg (fun c => decode c 1422) codeL_eq).trans (by decide +kernel)
theorem dL_law_1423 : decode cL_law 1423 = .ok (.iload 5, 2) := (congrArg (fun c => decode c 1423) codeL_eq).trans (by decide +kernel)
theorem dL_law_1425 : decode cL_law 1425 = .ok (.ifCond .ne 15, 3) := (congrArg (fun c => decode c 1425) codeL_eq).trans (by decide +kernel)
theorem dL_law_1428 : decode cL_law 1428 = .ok (.aload_n 3, 1) := (congrArg (fun c => decode c 1428) codeL_eq).trans (by decide +kernel)
theorem dL_law_1429 : decode cL_law 1429 = .ok (.iconst 0, 1) := (congrArg (fun c => decode c 1429) codeL_eq).trans (by decide +kernel)
theorem dL_law_1430 : decode cL_law 1430 = .ok (.laload, 1) := (congrArg (fun c => decode c 1430) codeL_eq).trans (by decide +kernel)
theorem dL_law_1431 : decode cL_law 1431 = .ok (.iload 6, 2) := (congrArg (fun c => decode c 1431) codeL_eq).trans (by decide +kernel)
theorem dL_law_1433 : decode cL_law 1433 = .ok (.i2l, 1) := (congrArg (fun c => decode c 1433) codeL_eq).trans (by decide +kernel)
theorem dL_law_1434 : decode cL_law 1434 = .ok (.lcmp, 1) := (congrArg (fun c => decode c 1434) codeL_eq).trans (by decide +kernel)
theorem dL_law_1435 : decode cL_law 1435 = .ok (.ifCond .eq 5, 3) := (congrArg (fun c => decode c 1435) codeL_eq).trans (by decide +kernel)
theorem dL_law_1438 : decode cL_law 1438 = .ok (.iconst 0, 1) := (congrArg (fun c => decode c 1438) codeL_eq).trans (by decide +kernel)
theorem dL_law_1439 : decode cL_law 1439 = .ok (.ireturn, 1) := (congrArg (fun c => decode c 1439) codeL_eq).trans (by decide +kernel)
theorem dL_law_1440 : decode cL_law 1440 = .ok (.goto 732, 3) := (congrArg (fun c => decode c 1440) codeL_eq).trans (by decide +kernel)
theorem dL_law_1443 : decode cL_law 1443 = .ok (.aload_n 1, 1) := (congrArg (fun c => decode c 1443) codeL_eq).trans (by decide +kernel)
theorem dL_law_1444 : decode cL_law 1444 = .ok (.aload_n 0, 1) := (congrArg (fun c => decode c 1444) codeL_eq).trans (by decide +kernel)
theorem dL_law_1445 : decode cL_law 1445 = .ok (.iload 4, 2) := (congrArg (fun c => decode c 1445) codeL_eq).trans (by decide +kernel)
theorem dL_law_1447 : decode cL_law 1447 = .ok (.iconst 1, 1) := (congrArg (fun c => decode c 1447) codeL_eq).trans (by decide +kernel)
theorem dL_law_1448 : decode cL_law 1448 = .ok (.iadd, 1) := (congrArg (fun c => decode c 1448) codeL_eq).trans (by decide +kernel)
theorem dL_law_1449 : decode cL_law 1449 = .ok (.iaload, 1) := (congrArg (fun c => decode c 1449) codeL_eq).trans (by decide +kernel)
theorem dL_law_1450 : decode cL_law 1450 = .ok (.aload_n 3, 1) := (congrArg (fun c => decode c 1450) codeL_eq).trans (by decide +kernel)
theorem dL_law_1451 : decode cL_law 1451 = .ok (.invokestatic 184, 3) := (congrArg (fun c => decode c 1451) codeL_eq).trans (by decide +kernel)
theorem dL_law_1454 : decode cL_law 1454 = .ok (.istore 5, 2) := (congrArg (fun c => decode c 1454) codeL_eq).trans (by decide +kernel)
theorem dL_law_1456 : decode cL_law 1456 = .ok (.aload_n 2, 1) := (congrArg (fun c => decode c 1456) codeL_eq).trans (by decide +kernel)
theorem dL_law_1457 : decode cL_law 1457 = .ok (.aload_n 0, 1) := (congrArg (fun c => decode c 1457) codeL_eq).trans (by decide +kernel)
theorem dL_law_1458 : decode cL_law 1458 = .ok (.iload 4, 2) := (congrArg (fun c => decode c 1458) codeL_eq).trans (by decide +kernel)
theorem dL_law_1460 : decode cL_law 1460 = .ok (.iconst 1, 1) := (congrArg (fun c => decode c 1460) codeL_eq).trans (by decide +kernel)
theorem dL_law_1461 : decode cL_law 1461 = .ok (.iadd, 1) := (congrArg (fun c => decode c 1461) codeL_eq).trans (by decide +kernel)
theorem dL_law_1462 : decode cL_law 1462 = .ok (.iaload, 1) := (congrArg (fun c => decode c 1462) codeL_eq).trans (by decide +kernel)
theorem dL_law_1463 : decode cL_law 1463 = .ok (.invokevirtual 186, 3) := (congrArg (fun c => decode c 1463) codeL_eq).trans (by decide +kernel)
theorem dL_law_1466 : decode cL_law 1466 = .ok (.istore 6, 2) := (congrArg (fun c => decode c 1466) codeL_eq).trans (by decide +kernel)
theorem dL_law_1468 : decode cL_law 1468 = .ok (.aload_n 2, 1) := (congrArg (fun c => decode c 1468) codeL_eq).trans (by decide +kernel)
theorem dL_law_1469 : decode cL_law 1469 = .ok (.invokevirtual 114, 3) := (congrArg (fun c => decode c 1469) codeL_eq).trans (by decide +kernel)
theorem dL_law_1472 : decode cL_law 1472 = .ok (.iload 5, 2) := (congrArg (fun c => decode c 1472) codeL_eq).trans (by decide +kernel)
theorem dL_law_1474 : decode cL_law 1474 = .ok (.if_icmp .eq 5, 3) := (congrArg (fun c => decode c 1474) codeL_eq).trans (by decide +kernel)
theorem dL_law_1477 : decode cL_law 1477 = .ok (.iconst 0, 1) := (congrArg (fun c => decode c 1477) codeL_eq).trans (by decide +kernel)
theorem dL_law_1478 : decode cL_law 1478 = .ok (.ireturn, 1) := (congrArg (fun c => decode c 1478) codeL_eq).trans (by decide +kernel)
theorem dL_law_1479 : decode cL_law 1479 = .ok (.iload 5, 2) := (congrArg (fun c => decode c 1479) codeL_eq).trans (by decide +kernel)
theorem dL_law_1481 : decode cL_law 1481 = .ok (.ifCond .ne 15, 3) := (congrArg (fun c => decode c 1481) codeL_eq).trans (by decide +kernel)
theorem dL_law_1484 : decode cL_law 1484 = .ok (.aload_n 3, 1) := (congrArg (fun c => decode c 1484) codeL_eq).trans (by decide +kernel)
theorem dL_law_1485 : decode cL_law 1485 = .ok (.iconst 0, 1) := (congrArg (fun c => decode c 1485) codeL_eq).trans (by decide +kernel)
theorem dL_law_1486 : decode cL_law 1486 = .ok (.laload, 1) := (congrArg (fun c => decode c 1486) codeL_eq).trans (by decide +kernel)
theorem dL_law_1487 : decode cL_law 1487 = .ok (.iload 6, 2) := (congrArg (fun c => decode c 1487) codeL_eq).trans (by decide +kernel)
theorem dL_law_1489 : decode cL_law 1489 = .ok (.i2l, 1) := (congrArg (fun c => decode c 1489) codeL_eq).trans (by decide +kernel)
theorem dL_law_1490 : decode cL_law 1490 = .ok (.lcmp, 1) := (congrArg (fun c => decode c 1490) codeL_eq).trans (by decide +kernel)
theorem dL_law_1491 : decode cL_law 1491 = .ok (.ifCond .eq 5, 3) := (congrArg (fun c => decode c 1491) codeL_eq).trans (by decide +kernel)
theorem dL_law_1494 : decode cL_law 1494 = .ok (.iconst 0, 1) := (congrArg (fun c => decode c 1494) codeL_eq).trans (by decide +kernel)
theorem dL_law_1495 : decode cL_law 1495 = .ok (.ireturn, 1) := (congrArg (fun c => decode c 1495) codeL_eq).trans (by decide +kernel)
theorem dL_law_1496 : decode cL_law 1496 = .ok (.goto 676, 3) := (congrArg (fun c => decode c 1496) codeL_eq).trans (by decide +kernel)
theorem dL_law_1499 : decode cL_law 1499 = .ok (.aload_n 1, 1) := (congrArg (fun c => decode c 1499) codeL_eq).trans (by decide +kernel)
theorem dL_law_1500 : decode cL_law 1500 = .ok (.aload_n 0, 1) := (congrArg (fun c => decode c 1500) codeL_eq).trans (by decide +kernel)
theorem dL_law_1501 : decode cL_law 1501 = .ok (.iload 4, 2) := (congrArg (fun c => decode c 1501) codeL_eq).trans (by decide +kernel)
theorem dL_law_1503 : decode cL_law 1503 = .ok (.iconst 1, 1) := (congrArg (fun c => decode c 1503) codeL_eq).trans (by decide +kernel)
theorem dL_law_1504 : decode cL_law 1504 = .ok (.iadd, 1) := (congrArg (fun c => decode c 1504) codeL_eq).trans (by decide +kernel)
theorem dL_law_1505 : decode cL_law 1505 = .ok (.iaload, 1) := (congrArg (fun c => decode c 1505) codeL_eq).trans (by decide +kernel)
theorem dL_law_1506 : decode cL_law 1506 = .ok (.aload_n 0, 1) := (congrArg (fun c => decode c 1506) codeL_eq).trans (by decide +kernel)
theorem dL_law_1507 : decode cL_law 1507 = .ok (.iload 4, 2) := (congrArg (fun c => decode c 1507) codeL_eq).trans (by decide +kernel)
theorem dL_law_1509 : decode cL_law 1509 = .ok (.iconst 2, 1) := (congrArg (fun c => decode c 1509) codeL_eq).trans (by decide +kernel)
theorem dL_law_1510 : decode cL_law 1510 = .ok (.iadd, 1) := (congrArg (fun c => decode c 1510) codeL_eq).trans (by decide +kernel)
theorem dL_law_1511 : decode cL_law 1511 = .ok (.iaload, 1) := (congrArg (fun c => decode c 1511) codeL_eq).trans (by decide +kernel)
theorem dL_law_1512 : decode cL_law 1512 = .ok (.aload_n 3, 1) := (congrArg (fun c => decode c 1512) codeL_eq).trans (by decide +kernel)
theorem dL_law_1513 : decode cL_law 1513 = .ok (.invokestatic 187, 3) := (congrArg (fun c => decode c 1513) codeL_eq).trans (by decide +kernel)
theorem dL_law_1516 : decode cL_law 1516 = .ok (.istore 5, 2) := (congrArg (fun c => decode c 1516) codeL_eq).trans (by decide +kernel)
theorem dL_law_1518 : decode cL_law 1518 = .ok (.aload_n 2, 1) := (congrArg (fun c => decode c 1518) codeL_eq).trans (by decide +kernel)
theorem dL_law_1519 : decode cL_law 1519 = .ok (.aload_n 0, 1) := (congrArg (fun c => decode c 1519) codeL_eq).trans (by decide +kernel)
theorem dL_law_1520 : decode cL_law 1520 = .ok (.iload 4, 2) := (congrArg (fun c => decode c 1520) codeL_eq).trans (by decide +kernel)
theorem dL_law_1522 : decode cL_law 1522 = .ok (.iconst 1, 1) := (congrArg (fun c => decode c 1522) codeL_eq).trans (by decide +kernel)
theorem dL_law_1523 : decode cL_law 1523 = .ok (.iadd, 1) := (congrArg (fun c => decode c 1523) codeL_eq).trans (by decide +kernel)
theorem dL_law_1524 : decode cL_law 1524 = .ok (.iaload, 1) := (congrArg (fun c => decode c 1524) codeL_eq).trans (by decide +kernel)
theorem dL_law_1525 : decode cL_law 1525 = .ok (.aload_n 0, 1) := (congrArg (fun c => decode c 1525) codeL_eq).trans (by decide +kernel)
theorem dL_law_1526 : decode cL_law 1526 = .ok (.iload 4, 2) := (congrArg (fun c => decode c 1526) codeL_eq).trans (by decide +kernel)
theorem dL_law_1528 : decode cL_law 1528 = .ok (.iconst 2, 1) := (congrArg (fun c => decode c 1528) codeL_eq).trans (by decide +kernel)
theorem dL_law_1529 : decode cL_law 1529 = .ok (.iadd, 1) := (congrArg (fun c => decode c 1529) codeL_eq).trans (by decide +kernel)
theorem dL_law_1530 : decode cL_law 1530 = .ok (.iaload, 1) := (congrArg (fun c => decode c 1530) codeL_eq).trans (by decide +kernel)
theorem dL_law_1531 : decode cL_law 1531 = .ok (.invokevirtual 189, 3) := (congrArg (fun c => decode c 1531) codeL_eq).trans (by decide +kernel)
theorem dL_law_1534 : decode cL_law 1534 = .ok (.istore 6, 2) := (congrArg (fun c => decode c 1534) codeL_eq).trans (by decide +kernel)
theorem dL_law_1536 : decode cL_law 1536 = .ok (.aload_n 2, 1) := (congrArg (fun c => decode c 1536) codeL_eq).trans (by decide +kernel)
theorem dL_law_1537 : decode cL_law 1537 = .ok (.invokevirtual 114, 3) := (congrArg (fun c => decode c 1537) codeL_eq).trans (by decide +kernel)
theorem dL_law_1540 : decode cL_law 1540 = .ok (.iload 5, 2) := (congrArg (fun c => decode c 1540) codeL_eq).trans (by decide +kernel)
theorem dL_law_1542 : decode cL_law 1542 = .ok (.if_icmp .eq 5, 3) := (congrArg (fun c => decode c 1542) codeL_eq).trans (by decide +kernel)
theorem dL_law_1545 : decode cL_law 1545 = .ok (.iconst 0, 1) := (congrArg (fun c => decode c 1545) codeL_eq).trans (by decide +kernel)
theorem dL_law_1546 : decode cL_law 1546 = .ok (.ireturn, 1) := (congrArg (fun c => decode c 1546) codeL_eq).trans (by decide +kernel)
theorem dL_law_1547 : decode cL_law 1547 = .ok (.iload 5, 2) := (congrArg (fun c => decode c 1547) codeL_eq).trans (by decide +kernel)
theorem dL_law_1549 : decode cL_law 1549 = .ok (.ifCond .ne 15, 3) := (congrArg (fun c => decode c 1549) codeL_eq).trans (by decide +kernel)
theorem dL_law_1552 : decode cL_law 1552 = .ok (.aload_n 3, 1) := (congrArg (fun c => decode c 1552) codeL_eq).trans (by decide +kernel)
theorem dL_law_1553 : decode cL_law 1553 = .ok (.iconst 0, 1) := (congrArg (fun c => decode c 1553) codeL_eq).trans (by decide +kernel)
theorem dL_law_1554 : decode cL_law 1554 = .ok (.laload, 1) := (congrArg (fun c => decode c 1554) codeL_eq).trans (by decide +kernel)
theorem dL_law_1555 : decode cL_law 1555 = .ok (.iload 6, 2) := (congrArg (fun c => decode c 1555) codeL_eq).trans (by decide +kernel)
theorem dL_law_1557 : decode cL_law 1557 = .ok (.i2l, 1) := (congrArg (fun c => decode c 1557) codeL_eq).trans (by decide +kernel)
theorem dL_law_1558 : decode cL_law 1558 = .ok (.lcmp, 1) := (congrArg (fun c => decode c 1558) codeL_eq).trans (by decide +kernel)
theorem dL_law_1559 : decode cL_law 1559 = .ok (.ifCond .eq 5, 3) := (congrArg (fun c => decode c 1559) codeL_eq).trans (by decide +kernel)
theorem dL_law_1562 : decode cL_law 1562 = .ok (.iconst 0, 1) := (congrArg (fun c => decode c 1562) codeL_eq).trans (by decide +kernel)
theorem dL_law_1563 : decode cL_law 1563 = .ok (.ireturn, 1) := (congrArg (fun c => decode c 1563) codeL_eq).trans (by decide +kernel)
theorem dL_law_1564 : decode cL_law 1564 = .ok (.goto 608, 3) := (congrArg (fun c => decode c 1564) codeL_eq).trans (by decide +kernel)
theorem dL_law_1567 : decode cL_law 1567 = .ok (.aload_n 1, 1) := (congrArg (fun c => decode c 1567) codeL_eq).trans (by decide +kernel)
theorem dL_law_1568 : decode cL_law 1568 = .ok (.aload_n 0, 1) := (congrArg (fun c => decode c 1568) codeL_eq).trans (by decide +kernel)
theorem dL_law_1569 : decode cL_law 1569 = .ok (.iload 4, 2) := (congrArg (fun c => decode c 1569) codeL_eq).trans (by decide +kernel)
theorem dL_law_1571 : decode cL_law 1571 = .ok (.iconst 1, 1) := (congrArg (fun c => decode c 1571) codeL_eq).trans (by decide +kernel)
theorem dL_law_1572 : decode cL_law 1572 = .ok (.iadd, 1) := (congrArg (fun c => decode c 1572) codeL_eq).trans (by decide +kernel)
theorem dL_law_1573 : decode cL_law 1573 = .ok (.iaload, 1) := (congrArg (fun c => decode c 1573) codeL_eq).trans (by decide +kernel)
theorem dL_law_1574 : decode cL_law 1574 = .ok (.aload_n 3, 1) := (congrArg (fun c => decode c 1574) codeL_eq).trans (by decide +kernel)
theorem dL_law_1575 : decode cL_law 1575 = .ok (.invokestatic 190, 3) := (congrArg (fun c => decode c 1575) codeL_eq).trans (by decide +kernel)
theorem dL_law_1578 : decode cL_law 1578 = .ok (.istore 5, 2) := (congrArg (fun c => decode c 1578) codeL_eq).trans (by decide +kernel)
theorem dL_law_1580 : decode cL_law 1580 = .ok (.aload_n 2, 1) := (congrArg (fun c => decode c 1580) codeL_eq).trans (by decide +kernel)
theorem dL_law_1581 : decode cL_law 1581 = .ok (.aload_n 0, 1) := (congrArg (fun c => decode c 1581) codeL_eq).trans (by decide +kernel)
theorem dL_law_1582 : decode cL_law 1582 = .ok (.iload 4, 2) := (congrArg (fun c => decode c 1582) codeL_eq).trans (by decide +kernel)
theorem dL_law_1584 : decode cL_law 1584 = .ok (.iconst 1, 1) := (congrArg (fun c => decode c 1584) codeL_eq).trans (by decide +kernel)
theorem dL_law_1585 : decode cL_law 1585 = .ok (.iadd, 1) := (congrArg (fun c => decode c 1585) codeL_eq).trans (by decide +kernel)
theorem dL_law_1586 : decode cL_law 1586 = .ok (.iaload, 1) := (congrArg (fun c => decode c 1586) codeL_eq).trans (by decide +kernel)
theorem dL_law_1587 : decode cL_law 1587 = .ok (.invokevirtual 192, 3) := (congrArg (fun c => decode c 1587) codeL_eq).trans (by decide +kernel)
theorem dL_law_1590 : decode cL_law 1590 = .ok (.istore 6, 2) := (congrArg (fun c => decode c 1590) codeL_eq).trans (by decide +kernel)
theorem dL_law_1592 : decode cL_law 1592 = .ok (.aload_n 2, 1) := (congrArg (fun c => decode c 1592) codeL_eq).trans (by decide +kernel)
theorem dL_law_1593 : decode cL_law 1593 = .ok (.invokevirtual 114, 3) := (congrArg (fun c => decode c 1593) codeL_eq).trans (by decide +kernel)
theorem dL_law_1596 : decode cL_law 1596 = .ok (.iload 5, 2) := (congrArg (fun c => decode c 1596) codeL_eq).trans (by decide +kernel)
theorem dL_law_1598 : decode cL_law 1598 = .ok (.if_icmp .eq 5, 3) := (congrArg (fun c => decode c 1598) codeL_eq).trans (by decide +kernel)
theorem dL_law_1601 : decode cL_law 1601 = .ok (.iconst 0, 1) := (congrArg (fun c => decode c 1601) codeL_eq).trans (by decide +kernel)
theorem dL_law_1602 : decode cL_law 1602 = .ok (.ireturn, 1) := (congrArg (fun c => decode c 1602) codeL_eq).trans (by decide +kernel)
theorem dL_law_1603 : decode cL_law 1603 = .ok (.iload 5, 2) := (congrArg (fun c => decode c 1603) codeL_eq).trans (by decide +kernel)
theorem dL_law_1605 : decode cL_law 1605 = .ok (.ifCond .ne 15, 3) := (congrArg (fun c => decode c 1605) codeL_eq).trans (by decide +kernel)
theorem dL_law_1608 : decode cL_law 1608 = .ok (.aload_n 3, 1) := (congrArg (fun c => decode c 1608) codeL_eq).trans (by decide +kernel)
theorem dL_law_1609 : decode cL_law 1609 = .ok (.iconst 0, 1) := (congrArg (fun c => decode c 1609) codeL_eq).trans (by decide +kernel)
theorem dL_law_1610 : decode cL_law 1610 = .ok (.laload, 1) := (congrArg (fun c => decode c 1610) codeL_eq).trans (by decide +kernel)
theorem dL_law_1611 : decode cL_law 1611 = .ok (.iload 6, 2) := (congrArg (fun c => decode c 1611) codeL_eq).trans (by decide +kernel)
theorem dL_law_1613 : decode cL_law 1613 = .ok (.i2l, 1) := (congrArg (fun c => decode c 1613) codeL_eq).trans (by decide +kernel)
theorem dL_law_1614 : decode cL_law 1614 = .ok (.lcmp, 1) := (congrArg (fun c => decode c 1614) codeL_eq).trans (by decide +kernel)
theorem dL_law_1615 : decode cL_law 1615 = .ok (.ifCond .eq 5, 3) := (congrArg (fun c => decode c 1615) codeL_eq).trans (by decide +kernel)
theorem dL_law_1618 : decode cL_law 1618 = .ok (.iconst 0, 1) := (congrArg (fun c => decode c 1618) codeL_eq).trans (by decide +kernel)
theorem dL_law_1619 : decode cL_law 1619 = .ok (.ireturn, 1) := (congrArg (fun c => decode c 1619) codeL_eq).trans (by decide +kernel)
theorem dL_law_1620 : decode cL_law 1620 = .ok (.goto 552, 3) := (congrArg (fun c => decode c 1620) codeL_eq).trans (by decide +kernel)
theorem dL_law_1623 : decode cL_law 1623 = .ok (.aload_n 1, 1) := (congrArg (fun c => decode c 1623) codeL_eq).trans (by decide +kernel)
theorem dL_law_1624 : decode cL_law 1624 = .ok (.aload_n 0, 1) := (congrArg (fun c => decode c 1624) codeL_eq).trans (by decide +kernel)
theorem dL_law_1625 : decode cL_law 1625 = .ok (.iload 4, 2) := (congrArg (fun c => decode c 1625) codeL_eq).trans (by decide +kernel)
theorem dL_law_1627 : decode cL_law 1627 = .ok (.iconst 1, 1) := (congrArg (fun c => decode c 1627) codeL_eq).trans (by decide +kernel)
theorem dL_law_1628 : decode cL_law 1628 = .ok (.iadd, 1) := (congrArg (fun c => decode c 1628) codeL_eq).trans (by decide +kernel)
theorem dL_law_1629 : decode cL_law 1629 = .ok (.iaload, 1) := (congrArg (fun c => decode c 1629) codeL_eq).trans (by decide +kernel)
theorem dL_law_1630 : decode cL_law 1630 = .ok (.aload_n 0, 1) := (congrArg (fun c => decode c 1630) codeL_eq).trans (by decide +kernel)
theorem dL_law_1631 : decode cL_law 1631 = .ok (.iload 4, 2) := (congrArg (fun c => decode c 1631) codeL_eq).trans (by decide +kernel)
theorem dL_law_1633 : decode cL_law 1633 = .ok (.iconst 2, 1) := (congrArg (fun c => decode c 1633) codeL_eq).trans (by decide +kernel)
theorem dL_law_1634 : decode cL_law 1634 = .ok (.iadd, 1) := (congrArg (fun c => decode c 1634) codeL_eq).trans (by decide +kernel)
theorem dL_law_1635 : decode cL_law 1635 = .ok (.iaload, 1) := (congrArg (fun c => decode c 1635) codeL_eq).trans (by decide +kernel)
theorem dL_law_1636 : decode cL_law 1636 = .ok (.aload_n 3, 1) := (congrArg (fun c => decode c 1636) codeL_eq).trans (by decide +kernel)
theorem dL_law_1637 : decode cL_law 1637 = .ok (.invokestatic 193, 3) := (congrArg (fun c => decode c 1637) codeL_eq).trans (by decide +kernel)
theorem dL_law_1640 : decode cL_law 1640 = .ok (.istore 5, 2) := (congrArg (fun c => decode c 1640) codeL_eq).trans (by decide +kernel)
theorem dL_law_1642 : decode cL_law 1642 = .ok (.aload_n 2, 1) := (congrArg (fun c => decode c 1642) codeL_eq).trans (by decide +kernel)
theorem dL_law_1643 : decode cL_law 1643 = .ok (.aload_n 0, 1) := (congrArg (fun c => decode c 1643) codeL_eq).trans (by decide +kernel)
theorem dL_law_1644 : decode cL_law 1644 = .ok (.iload 4, 2) := (congrArg (fun c => decode c 1644) codeL_eq).trans (by decide +kernel)
theorem dL_law_1646 : decode cL_law 1646 = .ok (.iconst 1, 1) := (congrArg (fun c => decode c 1646) codeL_eq).trans (by decide +kernel)
theorem dL_law_1647 : decode cL_law 1647 = .ok (.iadd, 1) := (congrArg (fun c => decode c 1647) codeL_eq).trans (by decide +kernel)
theorem dL_law_1648 : decode cL_law 1648 = .ok (.iaload, 1) := (congrArg (fun c => decode c 1648) codeL_eq).trans (by decide +kernel)
theorem dL_law_1649 : decode cL_law 1649 = .ok (.aload_n 0, 1) := (congrArg (fun c => decode c 1649) codeL_eq).trans (by decide +kernel)
theorem dL_law_1650 : decode cL_law 1650 = .ok (.iload 4, 2) := (congrArg (fun c => decode c 1650) codeL_eq).trans (by decide +kernel)
theorem dL_law_1652 : decode cL_law 1652 = .ok (.iconst 2, 1) := (congrArg (fun c => decode c 1652) codeL_eq).trans (by decide +kernel)
theorem dL_law_1653 : decode cL_law 1653 = .ok (.iadd, 1) := (congrArg (fun c => decode c 1653) codeL_eq).trans (by decide +kernel)
theorem dL_law_1654 : decode cL_law 1654 = .ok (.iaload, 1) := (congrArg (fun c => decode c 1654) codeL_eq).trans (by decide +kernel)
theorem dL_law_1655 : decode cL_law 1655 = .ok (.invokevirtual 195, 3) := (congrArg (fun c => decode c 1655) codeL_eq).trans (by decide +kernel)
theorem dL_law_1658 : decode cL_law 1658 = .ok (.istore 6, 2) := (congrArg (fun c => decode c 1658) codeL_eq).trans (by decide +kernel)
theorem dL_law_1660 : decode cL_law 1660 = .ok (.aload_n 2, 1) := (congrArg (fun c => decode c 1660) codeL_eq).trans (by decide +kernel)
theorem dL_law_1661 : decode cL_law 1661 = .ok (.invokevirtual 114, 3) := (congrArg (fun c => decode c 1661) codeL_eq).trans (by decide +kernel)
theorem dL_law_1664 : decode cL_law 1664 = .ok (.iload 5, 2) := (congrArg (fun c => decode c 1664) codeL_eq).trans (by decide +kernel)
theorem dL_law_1666 : decode cL_law 1666 = .ok (.if_icmp .eq 5, 3) := (congrArg (fun c => decode c 1666) codeL_eq).trans (by decide +kernel)
theorem dL_law_1669 : decode cL_law 1669 = .ok (.iconst 0, 1) := (congrArg (fun c => decode c 1669) codeL_eq).trans (by decide +kernel)
theorem dL_law_1670 : decode cL_law 1670 = .ok (.ireturn, 1) := (congrArg (fun c => decode c 1670) codeL_eq).trans (by decide +kernel)
theorem dL_law_1671 : decode cL_law 1671 = .ok (.iload 5, 2) := (congrArg (fun c => decode c 1671) codeL_eq).trans (by decide +kernel)
theorem dL_law_1673 : decode cL_law 1673 = .ok (.ifCond .ne 15, 3) := (congrArg (fun c => decode c 1673) codeL_eq).trans (by decide +kernel)
theorem dL_law_1676 : decode cL_law 1676 = .ok (.aload_n 3, 1) := (congrArg (fun c => decode c 1676) codeL_eq).trans (by decide +kernel)
theorem dL_law_1677 : decode cL_law 1677 = .ok (.iconst 0, 1) := (congrArg (fun c => decode c 1677) codeL_eq).trans (by decide +kernel)
theorem dL_law_1678 : decode cL_law 1678 = .ok (.laload, 1) := (congrArg (fun c => decode c 1678) codeL_eq).trans (by decide +kernel)
theorem dL_law_1679 : decode cL_law 1679 = .ok (.iload 6, 2) := (congrArg (fun c => decode c 1679) codeL_eq).trans (by decide +kernel)
theorem dL_law_1681 : decode cL_law 1681 = .ok (.i2l, 1) := (congrArg (fun c => decode c 1681) codeL_eq).trans (by decide +kernel)
theorem dL_law_1682 : decode cL_law 1682 = .ok (.lcmp, 1) := (congrArg (fun c => decode c 1682) codeL_eq).trans (by decide +kernel)
theorem dL_law_1683 : decode cL_law 1683 = .ok (.ifCond .eq 5, 3) := (congrArg (fun c => decode c 1683) codeL_eq).trans (by decide +kernel)
theorem dL_law_1686 : decode cL_law 1686 = .ok (.iconst 0, 1) := (congrArg (fun c => decode c 1686) codeL_eq).trans (by decide +kernel)
theorem dL_law_1687 : decode cL_law 1687 = .ok (.ireturn, 1) := (congrArg (fun c => decode c 1687) codeL_eq).trans (by decide +kernel)
theorem dL_law_1688 : decode cL_law 1688 = .ok (.goto 484, 3) := (congrArg (fun c => decode c 1688) codeL_eq).trans (by decide +kernel)
theorem dL_law_1691 : decode cL_law 1691 = .ok (.aload_n 1, 1) := (congrArg (fun c => decode c 1691) codeL_eq).trans (by decide +kernel)
theorem dL_law_1692 : decode cL_law 1692 = .ok (.aload_n 0, 1) := (congrArg (fun c => decode c 1692) codeL_eq).trans (by decide +kernel)
theorem dL_law_1693 : decode cL_law 1693 = .ok (.iload 4, 2) := (congrArg (fun c => decode c 1693) codeL_eq).trans (by decide +kernel)
theorem dL_law_1695 : decode cL_law 1695 = .ok (.iconst 1, 1) := (congrArg (fun c => decode c 1695) codeL_eq).trans (by decide +kernel)
theorem dL_law_1696 : decode cL_law 1696 = .ok (.iadd, 1) := (congrArg (fun c => decode c 1696) codeL_eq).trans (by decide +kernel)
theorem dL_law_1697 : decode cL_law 1697 = .ok (.iaload, 1) := (congrArg (fun c => decode c 1697) codeL_eq).trans (by decide +kernel)
theorem dL_law_1698 : decode cL_law 1698 = .ok (.aload_n 0, 1) := (congrArg (fun c => decode c 1698) codeL_eq).trans (by decide +kernel)
theorem dL_law_1699 : decode cL_law 1699 = .ok (.iload 4, 2) := (congrArg (fun c => decode c 1699) codeL_eq).trans (by decide +kernel)
theorem dL_law_1701 : decode cL_law 1701 = .ok (.iconst 2, 1) := (congrArg (fun c => decode c 1701) codeL_eq).trans (by decide +kernel)
theorem dL_law_1702 : decode cL_law 1702 = .ok (.iadd, 1) := (congrArg (fun c => decode c 1702) codeL_eq).trans (by decide +kernel)
theorem dL_law_1703 : decode cL_law 1703 = .ok (.iaload, 1) := (congrArg (fun c => decode c 1703) codeL_eq).trans (by decide +kernel)
theorem dL_law_1704 : decode cL_law 1704 = .ok (.aload_n 3, 1) := (congrArg (fun c => decode c 1704) codeL_eq).trans (by decide +kernel)
theorem dL_law_1705 : decode cL_law 1705 = .ok (.invokestatic 196, 3) := (congrArg (fun c => decode c 1705) codeL_eq).trans (by decide +kernel)
theorem dL_law_1708 : decode cL_law 1708 = .ok (.istore 5, 2) := (congrArg (fun c => decode c 1708) codeL_eq).trans (by decide +kernel)
theorem dL_law_1710 : decode cL_law 1710 = .ok (.aload_n 2, 1) := (congrArg (fun c => decode c 1710) codeL_eq).trans (by decide +kernel)
theorem dL_law_1711 : decode cL_law 1711 = .ok (.aload_n 0, 1) := (congrArg (fun c => decode c 1711) codeL_eq).trans (by decide +kernel)
theorem dL_law_1712 : decode cL_law 1712 = .ok (.iload 4, 2) := (congrArg (fun c => decode c 1712) codeL_eq).trans (by decide +kernel)
theorem dL_law_1714 : decode cL_law 1714 = .ok (.iconst 1, 1) := (congrArg (fun c => decode c 1714) codeL_eq).trans (by decide +kernel)
theorem dL_law_1715 : decode cL_law 1715 = .ok (.iadd, 1) := (congrArg (fun c => decode c 1715) codeL_eq).trans (by decide +kernel)
theorem dL_law_1716 : decode cL_law 1716 = .ok (.iaload, 1) := (congrArg (fun c => decode c 1716) codeL_eq).trans (by decide +kernel)
theorem dL_law_1717 : decode cL_law 1717 = .ok (.aload_n 0, 1) := (congrArg (fun c => decode c 1717) codeL_eq).trans (by decide +kernel)
theorem dL_law_1718 : decode cL_law 1718 = .ok (.iload 4, 2) := (congrArg (fun c => decode c 1718) codeL_eq).trans (by decide +kernel)
theorem dL_law_1720 : decode cL_law 1720 = .ok (.iconst 2, 1) := (congrArg (fun c => decode c 1720) codeL_eq).trans (by decide +kernel)
theorem dL_law_1721 : decode cL_law 1721 = .ok (.iadd, 1) := (congrArg (fun c => decode c 1721) codeL_eq).trans (by decide +kernel)
theorem dL_law_1722 : decode cL_law 1722 = .ok (.iaload, 1) := (congrArg (fun c => decode c 1722) codeL_eq).trans (by decide +kernel)
theorem dL_law_1723 : decode cL_law 1723 = .ok (.invokevirtual 198, 3) := (congrArg (fun c => decode c 1723) codeL_eq).trans (by decide +kernel)
theorem dL_law_1726 : decode cL_law 1726 = .ok (.istore 6, 2) := (congrArg (fun c => decode c 1726) codeL_eq).trans (by decide +kernel)
theorem dL_law_1728 : decode cL_law 1728 = .ok (.aload_n 2, 1) := (congrArg (fun c => decode c 1728) codeL_eq).trans (by decide +kernel)
theorem dL_law_1729 : decode cL_law 1729 = .ok (.invokevirtual 114, 3) := (congrArg (fun c => decode c 1729) codeL_eq).trans (by decide +kernel)
theorem dL_law_1732 : decode cL_law 1732 = .ok (.iload 5, 2) := (congrArg (fun c => decode c 1732) codeL_eq).trans (by decide +kernel)
theorem dL_law_1734 : decode cL_law 1734 = .ok (.if_icmp .eq 5, 3) := (congrArg (fun c => decode c 1734) codeL_eq).trans (by decide +kernel)
theorem dL_law_1737 : decode cL_law 1737 = .ok (.iconst 0, 1) := (congrArg (fun c => decode c 1737) codeL_eq).trans (by decide +kernel)
theorem dL_law_1738 : decode cL_law 1738 = .ok (.ireturn, 1) := (congrArg (fun c => decode c 1738) codeL_eq).trans (by decide +kernel)
theorem dL_law_1739 : decode cL_law 1739 = .ok (.iload 5, 2) := (congrArg (fun c => decode c 1739) codeL_eq).trans (by decide +kernel)
theorem dL_law_1741 : decode cL_law 1741 = .ok (.ifCond .ne 15, 3) := (congrArg (fun c => decode c 1741) codeL_eq).trans (by decide +kernel)
theorem dL_law_1744 : decode cL_law 1744 = .ok (.aload_n 3, 1) := (congrArg (fun c => decode c 1744) codeL_eq).trans (by decide +kernel)
theorem dL_law_1745 : decode cL_law 1745 = .ok (.iconst 0, 1) := (congrArg (fun c => decode c 1745) codeL_eq).trans (by decide +kernel)
theorem dL_law_1746 : decode cL_law 1746 = .ok (.laload, 1) := (congrArg (fun c => decode c 1746) codeL_eq).trans (by decide +kernel)
theorem dL_law_1747 : decode cL_law 1747 = .ok (.iload 6, 2) := (congrArg (fun c => decode c 1747) codeL_eq).trans (by decide +kernel)
theorem dL_law_1749 : decode cL_law 1749 = .ok (.i2l, 1) := (congrArg (fun c => decode c 1749) codeL_eq).trans (by decide +kernel)
theorem dL_law_1750 : decode cL_law 1750 = .ok (.lcmp, 1) := (congrArg (fun c => decode c 1750) codeL_eq).trans (by decide +kernel)
theorem dL_law_1751 : decode cL_law 1751 = .ok (.ifCond .eq 5, 3) := (congrArg (fun c => decode c 1751) codeL_eq).trans (by decide +kernel)
theorem dL_law_1754 : decode cL_law 1754 = .ok (.iconst 0, 1) := (congrArg (fun c => decode c 1754) codeL_eq).trans (by decide +kernel)
theorem dL_law_1755 : decode cL_law 1755 = .ok (.ireturn, 1) := (congrArg (fun c => decode c 1755) codeL_eq).trans (by decide +kernel)
theorem dL_law_1756 : decode cL_law 1756 = .ok (.goto 416, 3) := (congrArg (fun c => decode c 1756) codeL_eq).trans (by decide +kernel)
theorem dL_law_1759 : decode cL_law 1759 = .ok (.aload_n 1, 1) := (congrArg (fun c => decode c 1759) codeL_eq).trans (by decide +kernel)
theorem dL_law_1760 : decode cL_law 1760 = .ok (.aload_n 0, 1) := (congrArg (fun c => decode c 1760) codeL_eq).trans (by decide +kernel)
theorem dL_law_1761 : decode cL_law 1761 = .ok (.iload 4, 2) := (congrArg (fun c => decode c 1761) codeL_eq).trans (by decide +kernel)
theorem dL_law_1763 : decode cL_law 1763 = .ok (.iconst 1, 1) := (congrArg (fun c => decode c 1763) codeL_eq).trans (by decide +kernel)
theorem dL_law_1764 : decode cL_law 1764 = .ok (.iadd, 1) := (congrArg (fun c => decode c 1764) codeL_eq).trans (by decide +kernel)
theorem dL_law_1765 : decode cL_law 1765 = .ok (.iaload, 1) := (congrArg (fun c => decode c 1765) codeL_eq).trans (by decide +kernel)
theorem dL_law_1766 : decode cL_law 1766 = .ok (.aload_n 0, 1) := (congrArg (fun c => decode c 1766) codeL_eq).trans (by decide +kernel)
theorem dL_law_1767 : decode cL_law 1767 = .ok (.iload 4, 2) := (congrArg (fun c => decode c 1767) codeL_eq).trans (by decide +kernel)
theorem dL_law_1769 : decode cL_law 1769 = .ok (.iconst 2, 1) := (congrArg (fun c => decode c 1769) codeL_eq).trans (by decide +kernel)
theorem dL_law_1770 : decode cL_law 1770 = .ok (.iadd, 1) := (congrArg (fun c => decode c 1770) codeL_eq).trans (by decide +kernel)
theorem dL_law_1771 : decode cL_law 1771 = .ok (.iaload, 1) := (congrArg (fun c => decode c 1771) codeL_eq).trans (by decide +kernel)
theorem dL_law_1772 : decode cL_law 1772 = .ok (.aload_n 3, 1) := (congrArg (fun c => decode c 1772) codeL_eq).trans (by decide +kernel)
theorem dL_law_1773 : decode cL_law 1773 = .ok (.invokestatic 199, 3) := (congrArg (fun c => decode c 1773) codeL_eq).trans (by decide +kernel)
theorem dL_law_1776 : decode cL_law 1776 = .ok (.istore 5, 2) := (congrArg (fun c => decode c 1776) codeL_eq).trans (by decide +kernel)
theorem dL_law_1778 : decode cL_law 1778 = .ok (.aload_n 2, 1) := (congrArg (fun c => decode c 1778) codeL_eq).trans (by decide +kernel)
theorem dL_law_1779 : decode cL_law 1779 = .ok (.aload_n 0, 1) := (congrArg (fun c => decode c 1779) codeL_eq).trans (by decide +kernel)
theorem dL_law_1780 : decode cL_law 1780 = .ok (.iload 4, 2) := (congrArg (fun c => decode c 1780) codeL_eq).trans (by decide +kernel)
theorem dL_law_1782 : decode cL_law 1782 = .ok (.iconst 1, 1) := (congrArg (fun c => decode c 1782) codeL_eq).trans (by decide +kernel)
theorem dL_law_1783 : decode cL_law 1783 = .ok (.iadd, 1) := (congrArg (fun c => decode c 1783) codeL_eq).trans (by decide +kernel)
theorem dL_law_1784 : decode cL_law 1784 = .ok (.iaload, 1) := (congrArg (fun c => decode c 1784) codeL_eq).trans (by decide +kernel)
theorem dL_law_1785 : decode cL_law 1785 = .ok (.aload_n 0, 1) := (congrArg (fun c => decode c 1785) codeL_eq).trans (by decide +kernel)
theorem dL_law_1786 : decode cL_law 1786 = .ok (.iload 4, 2) := (congrArg (fun c => decode c 1786) codeL_eq).trans (by decide +kernel)
theorem dL_law_1788 : decode cL_law 1788 = .ok (.iconst 2, 1) := (congrArg (fun c => decode c 1788) codeL_eq).trans (by decide +kernel)
theorem dL_law_1789 : decode cL_law 1789 = .ok (.iadd, 1) := (congrArg (fun c => decode c 1789) codeL_eq).trans (by decide +kernel)
theorem dL_law_1790 : decode cL_law 1790 = .ok (.iaload, 1) := (congrArg (fun c => decode c 1790) codeL_eq).trans (by decide +kernel)
theorem dL_law_1791 : decode cL_law 1791 = .ok (.invokevirtual 201, 3) := (congrArg (fun c => decode c 1791) codeL_eq).trans (by decide +kernel)
theorem dL_law_1794 : decode cL_law 1794 = .ok (.istore 6, 2) := (congrArg (fun c => decode c 1794) codeL_eq).trans (by decide +kernel)
theorem dL_law_1796 : decode cL_law 1796 = .ok (.aload_n 2, 1) := (congrArg (fun c => decode c 1796) codeL_eq).trans (by decide +kernel)
theorem dL_law_1797 : decode cL_law 1797 = .ok (.invokevirtual 114, 3) := (congrArg (fun c => decode c 1797) codeL_eq).trans (by decide +kernel)
theorem dL_law_1800 : decode cL_law 1800 = .ok (.iload 5, 2) := (congrArg (fun c => decode c 1800) codeL_eq).trans (by decide +kernel)
theorem dL_law_1802 : decode cL_law 1802 = .ok (.if_icmp .eq 5, 3) := (congrArg (fun c => decode c 1802) codeL_eq).trans (by decide +kernel)
theorem dL_law_1805 : decode cL_law 1805 = .ok (.iconst 0, 1) := (congrArg (fun c => decode c 1805) codeL_eq).trans (by decide +kernel)
theorem dL_law_1806 : decode cL_law 1806 = .ok (.ireturn, 1) := (congrArg (fun c => decode c 1806) codeL_eq).trans (by decide +kernel)
theorem dL_law_1807 : decode cL_law 1807 = .ok (.iload 5, 2) := (congrArg (fun c => decode c 1807) codeL_eq).trans (by decide +kernel)
theorem dL_law_1809 : decode cL_law 1809 = .ok (.ifCond .ne 15, 3) := (congrArg (fun c => decode c 1809) codeL_eq).trans (by decide +kernel)
theorem dL_law_1812 : decode cL_law 1812 = .ok (.aload_n 3, 1) := (congrArg (fun c => decode c 1812) codeL_eq).trans (by decide +kernel)
theorem dL_law_1813 : decode cL_law 1813 = .ok (.iconst 0, 1) := (congrArg (fun c => decode c 1813) codeL_eq).trans (by decide +kernel)
theorem dL_law_1814 : decode cL_law 1814 = .ok (.laload, 1) := (congrArg (fun c => decode c 1814) codeL_eq).trans (by decide +kernel)
theorem dL_law_1815 : decode cL_law 1815 = .ok (.iload 6, 2) := (congrArg (fun c => decode c 1815) codeL_eq).trans (by decide +kernel)
theorem dL_law_1817 : decode cL_law 1817 = .ok (.i2l, 1) := (congrArg (fun c => decode c 1817) codeL_eq).trans (by decide +kernel)
theorem dL_law_1818 : decode cL_law 1818 = .ok (.lcmp, 1) := (congrArg (fun c => decode c 1818) codeL_eq).trans (by decide +kernel)
theorem dL_law_1819 : decode cL_law 1819 = .ok (.ifCond .eq 5, 3) := (congrArg (fun c => decode c 1819) codeL_eq).trans (by decide +kernel)
theorem dL_law_1822 : decode cL_law 1822 = .ok (.iconst 0, 1) := (congrArg (fun c => decode c 1822) codeL_eq).trans (by decide +kernel)
theorem dL_law_1823 : decode cL_law 1823 = .ok (.ireturn, 1) := (congrArg (fun c => decode c 1823) codeL_eq).trans (by decide +kernel)
theorem dL_law_1824 : decode cL_law 1824 = .ok (.goto 348, 3) := (congrArg (fun c => decode c 1824) codeL_eq).trans (by decide +kernel)
theorem dL_law_1827 : decode cL_law 1827 = .ok (.aload_n 1, 1) := (congrArg (fun c => decode c 1827) codeL_eq).trans (by decide +kernel)
theorem dL_law_1828 : decode cL_law 1828 = .ok (.invokevirtual 202, 3) := (congrArg (fun c => decode c 1828) codeL_eq).trans (by decide +kernel)
theorem dL_law_1831 : decode cL_law 1831 = .ok (.aload_n 2, 1) := (congrArg (fun c => decode c 1831) codeL_eq).trans (by decide +kernel)
theorem dL_law_1832 : decode cL_law 1832 = .ok (.invokevirtual 205, 3) := (congrArg (fun c => decode c 1832) codeL_eq).trans (by decide +kernel)
theorem dL_law_1835 : decode cL_law 1835 = .ok (.if_icmp .eq 337, 3) := (congrArg (fun c => decode c 1835) codeL_eq).trans (by decide +kernel)
theorem dL_law_1838 : decode cL_law 1838 = .ok (.iconst 0, 1) := (congrArg (fun c => decode c 1838) codeL_eq).trans (by decide +kernel)
theorem dL_law_1839 : decode cL_law 1839 = .ok (.ireturn, 1) := (congrArg (fun c => decode c 1839) codeL_eq).trans (by decide +kernel)
theorem dL_law_1840 : decode cL_law 1840 = .ok (.aload_n 1, 1) := (congrArg (fun c => decode c 1840) codeL_eq).trans (by decide +kernel)
theorem dL_law_1841 : decode cL_law 1841 = .ok (.invokevirtual 206, 3) := (congrArg (fun c => decode c 1841) codeL_eq).trans (by decide +kernel)
theorem dL_law_1844 : decode cL_law 1844 = .ok (.aload_n 2, 1) := (congrArg (fun c => decode c 1844) codeL_eq).trans (by decide +kernel)
theorem dL_law_1845 : decode cL_law 1845 = .ok (.invokevirtual 209, 3) := (congrArg (fun c => decode c 1845) codeL_eq).trans (by decide +kernel)
theorem dL_law_1848 : decode cL_law 1848 = .ok (.if_icmp .eq 324, 3) := (congrArg (fun c => decode c 1848) codeL_eq).trans (by decide +kernel)
theorem dL_law_1851 : decode cL_law 1851 = .ok (.iconst 0, 1) := (congrArg (fun c => decode c 1851) codeL_eq).trans (by decide +kernel)
theorem dL_law_1852 : decode cL_law 1852 = .ok (.ireturn, 1) := (congrArg (fun c => decode c 1852) codeL_eq).trans (by decide +kernel)
theorem dL_law_1853 : decode cL_law 1853 = .ok (.aload_n 1, 1) := (congrArg (fun c => decode c 1853) codeL_eq).trans (by decide +kernel)
theorem dL_law_1854 : decode cL_law 1854 = .ok (.invokevirtual 210, 3) := (congrArg (fun c => decode c 1854) codeL_eq).trans (by decide +kernel)
theorem dL_law_1857 : decode cL_law 1857 = .ok (.aload_n 2, 1) := (congrArg (fun c => decode c 1857) codeL_eq).trans (by decide +kernel)
theorem dL_law_1858 : decode cL_law 1858 = .ok (.invokevirtual 213, 3) := (congrArg (fun c => decode c 1858) codeL_eq).trans (by decide +kernel)
theorem dL_law_1861 : decode cL_law 1861 = .ok (.if_icmp .eq 311, 3) := (congrArg (fun c => decode c 1861) codeL_eq).trans (by decide +kernel)
theorem dL_law_1864 : decode cL_law 1864 = .ok (.iconst 0, 1) := (congrArg (fun c => decode c 1864) codeL_eq).trans (by decide +kernel)
theorem dL_law_1865 : decode cL_law 1865 = .ok (.ireturn, 1) := (congrArg (fun c => decode c 1865) codeL_eq).trans (by decide +kernel)
theorem dL_law_1866 : decode cL_law 1866 = .ok (.aload_n 1, 1) := (congrArg (fun c => decode c 1866) codeL_eq).trans (by decide +kernel)
theorem dL_law_1867 : decode cL_law 1867 = .ok (.invokevirtual 214, 3) := (congrArg (fun c => decode c 1867) codeL_eq).trans (by decide +kernel)
theorem dL_law_1870 : decode cL_law 1870 = .ok (.dstore 5, 2) := (congrArg (fun c => decode c 1870) codeL_eq).trans (by decide +kernel)
theorem dL_law_1872 : decode cL_law 1872 = .ok (.aload_n 2, 1) := (congrArg (fun c => decode c 1872) codeL_eq).trans (by decide +kernel)
theorem dL_law_1873 : decode cL_law 1873 = .ok (.invokevirtual 218, 3) := (congrArg (fun c => decode c 1873) codeL_eq).trans (by decide +kernel)
theorem dL_law_1876 : decode cL_law 1876 = .ok (.dstore 7, 2) := (congrArg (fun c => decode c 1876) codeL_eq).trans (by decide +kernel)
theorem dL_law_1878 : decode cL_law 1878 = .ok (.dload 5, 2) := (congrArg (fun c => decode c 1878) codeL_eq).trans (by decide +kernel)
theorem dL_law_1880 : decode cL_law 1880 = .ok (.dload 7, 2) := (congrArg (fun c => decode c 1880) codeL_eq).trans (by decide +kernel)
theorem dL_law_1882 : decode cL_law 1882 = .ok (.dcmp .l, 1) := (congrArg (fun c => decode c 1882) codeL_eq).trans (by decide +kernel)
theorem dL_law_1883 : decode cL_law 1883 = .ok (.ifCond .eq 21, 3) := (congrArg (fun c => decode c 1883) codeL_eq).trans (by decide +kernel)
theorem dL_law_1886 : decode cL_law 1886 = .ok (.dload 5, 2) := (congrArg (fun c => decode c 1886) codeL_eq).trans (by decide +kernel)
theorem dL_law_1888 : decode cL_law 1888 = .ok (.dload 5, 2) := (congrArg (fun c => decode c 1888) codeL_eq).trans (by decide +kernel)
theorem dL_law_1890 : decode cL_law 1890 = .ok (.dcmp .l, 1) := (congrArg (fun c => decode c 1890) codeL_eq).trans (by decide +kernel)
theorem dL_law_1891 : decode cL_law 1891 = .ok (.ifCond .eq 11, 3) := (congrArg (fun c => decode c 1891) codeL_eq).trans (by decide +kernel)
theorem dL_law_1894 : decode cL_law 1894 = .ok (.dload 7, 2) := (congrArg (fun c => decode c 1894) codeL_eq).trans (by decide +kernel)
theorem dL_law_1896 : decode cL_law 1896 = .ok (.dload 7, 2) := (congrArg (fun c => decode c 1896) codeL_eq).trans (by decide +kernel)
theorem dL_law_1898 : decode cL_law 1898 = .ok (.dcmp .l, 1) := (congrArg (fun c => decode c 1898) codeL_eq).trans (by decide +kernel)
theorem dL_law_1899 : decode cL_law 1899 = .ok (.ifCond .ne 5, 3) := (congrArg (fun c => decode c 1899) codeL_eq).trans (by decide +kernel)
theorem dL_law_1902 : decode cL_law 1902 = .ok (.iconst 0, 1) := (congrArg (fun c => decode c 1902) codeL_eq).trans (by decide +kernel)
theorem dL_law_1903 : decode cL_law 1903 = .ok (.ireturn, 1) := (congrArg (fun c => decode c 1903) codeL_eq).trans (by decide +kernel)
theorem dL_law_1904 : decode cL_law 1904 = .ok (.goto 268, 3) := (congrArg (fun c => decode c 1904) codeL_eq).trans (by decide +kernel)
theorem dL_law_1907 : decode cL_law 1907 = .ok (.aload_n 1, 1) := (congrArg (fun c => decode c 1907) codeL_eq).trans (by decide +kernel)
theorem dL_law_1908 : decode cL_law 1908 = .ok (.invokevirtual 219, 3) := (congrArg (fun c => decode c 1908) codeL_eq).trans (by decide +kernel)
theorem dL_law_1911 : decode cL_law 1911 = .ok (.f2d, 1) := (congrArg (fun c => decode c 1911) codeL_eq).trans (by decide +kernel)
theorem dL_law_1912 : decode cL_law 1912 = .ok (.dstore 5, 2) := (congrArg (fun c => decode c 1912) codeL_eq).trans (by decide +kernel)
theorem dL_law_1914 : decode cL_law 1914 = .ok (.aload_n 2, 1) := (congrArg (fun c => decode c 1914) codeL_eq).trans (by decide +kernel)
theorem dL_law_1915 : decode cL_law 1915 = .ok (.invokevirtual 223, 3) := (congrArg (fun c => decode c 1915) codeL_eq).trans (by decide +kernel)
theorem dL_law_1918 : decode cL_law 1918 = .ok (.f2d, 1) := (congrArg (fun c => decode c 1918) codeL_eq).trans (by decide +kernel)
theorem dL_law_1919 : decode cL_law 1919 = .ok (.dstore 7, 2) := (congrArg (fun c => decode c 1919) codeL_eq).trans (by decide +kernel)
theorem dL_law_1921 : decode cL_law 1921 = .ok (.dload 5, 2) := (congrArg (fun c => decode c 1921) codeL_eq).trans (by decide +kernel)
theorem dL_law_1923 : decode cL_law 1923 = .ok (.dload 7, 2) := (congrArg (fun c => decode c 1923) codeL_eq).trans (by decide +kernel)
theorem dL_law_1925 : decode cL_law 1925 = .ok (.dcmp .l, 1) := (congrArg (fun c => decode c 1925) codeL_eq).trans (by decide +kernel)
theorem dL_law_1926 : decode cL_law 1926 = .ok (.ifCond .eq 21, 3) := (congrArg (fun c => decode c 1926) codeL_eq).trans (by decide +kernel)
theorem dL_law_1929 : decode cL_law 1929 = .ok (.dload 5, 2) := (congrArg (fun c => decode c 1929) codeL_eq).trans (by decide +kernel)
theorem dL_law_1931 : decode cL_law 1931 = .ok (.dload 5, 2) := (congrArg (fun c => decode c 1931) codeL_eq).trans (by decide +kernel)
theorem dL_law_1933 : decode cL_law 1933 = .ok (.dcmp .l, 1) := (congrArg (fun c => decode c 1933) codeL_eq).trans (by decide +kernel)
theorem dL_law_1934 : decode cL_law 1934 = .ok (.ifCond .eq 11, 3) := (congrArg (fun c => decode c 1934) codeL_eq).trans (by decide +kernel)
theorem dL_law_1937 : decode cL_law 1937 = .ok (.dload 7, 2) := (congrArg (fun c => decode c 1937) codeL_eq).trans (by decide +kernel)
theorem dL_law_1939 : decode cL_law 1939 = .ok (.dload 7, 2) := (congrArg (fun c => decode c 1939) codeL_eq).trans (by decide +kernel)
theorem dL_law_1941 : decode cL_law 1941 = .ok (.dcmp .l, 1) := (congrArg (fun c => decode c 1941) codeL_eq).trans (by decide +kernel)
theorem dL_law_1942 : decode cL_law 1942 = .ok (.ifCond .ne 5, 3) := (congrArg (fun c => decode c 1942) codeL_eq).trans (by decide +kernel)
theorem dL_law_1945 : decode cL_law 1945 = .ok (.iconst 0, 1) := (congrArg (fun c => decode c 1945) codeL_eq).trans (by decide +kernel)
theorem dL_law_1946 : decode cL_law 1946 = .ok (.ireturn, 1) := (congrArg (fun c => decode c 1946) codeL_eq).trans (by decide +kernel)
theorem dL_law_1947 : decode cL_law 1947 = .ok (.goto 225, 3) := (congrArg (fun c => decode c 1947) codeL_eq).trans (by decide +kernel)
theorem dL_law_1950 : decode cL_law 1950 = .ok (.aload_n 1, 1) := (congrArg (fun c => decode c 1950) codeL_eq).trans (by decide +kernel)
theorem dL_law_1951 : decode cL_law 1951 = .ok (.aload_n 0, 1) := (congrArg (fun c => decode c 1951) codeL_eq).trans (by decide +kernel)
theorem dL_law_1952 : decode cL_law 1952 = .ok (.iload 4, 2) := (congrArg (fun c => decode c 1952) codeL_eq).trans (by decide +kernel)
theorem dL_law_1954 : decode cL_law 1954 = .ok (.iconst 1, 1) := (congrArg (fun c => decode c 1954) codeL_eq).trans (by decide +kernel)
theorem dL_law_1955 : decode cL_law 1955 = .ok (.iadd, 1) := (congrArg (fun c => decode c 1955) codeL_eq).trans (by decide +kernel)
theorem dL_law_1956 : decode cL_law 1956 = .ok (.iaload, 1) := (congrArg (fun c => decode c 1956) codeL_eq).trans (by decide +kernel)
theorem dL_law_1957 : decode cL_law 1957 = .ok (.aload_n 3, 1) := (congrArg (fun c => decode c 1957) codeL_eq).trans (by decide +kernel)
theorem dL_law_1958 : decode cL_law 1958 = .ok (.invokestatic 224, 3) := (congrArg (fun c => decode c 1958) codeL_eq).trans (by decide +kernel)
theorem dL_law_1961 : decode cL_law 1961 = .ok (.istore 5, 2) := (congrArg (fun c => decode c 1961) codeL_eq).trans (by decide +kernel)
theorem dL_law_1963 : decode cL_law 1963 = .ok (.aload_n 2, 1) := (congrArg (fun c => decode c 1963) codeL_eq).trans (by decide +kernel)
theorem dL_law_1964 : decode cL_law 1964 = .ok (.aload_n 0, 1) := (congrArg (fun c => decode c 1964) codeL_eq).trans (by decide +kernel)
theorem dL_law_1965 : decode cL_law 1965 = .ok (.iload 4, 2) := (congrArg (fun c => decode c 1965) codeL_eq).trans (by decide +kernel)
theorem dL_law_1967 : decode cL_law 1967 = .ok (.iconst 1, 1) := (congrArg (fun c => decode c 1967) codeL_eq).trans (by decide +kernel)
theorem dL_law_1968 : decode cL_law 1968 = .ok (.iadd, 1) := (congrArg (fun c => decode c 1968) codeL_eq).trans (by decide +kernel)
theorem dL_law_1969 : decode cL_law 1969 = .ok (.iaload, 1) := (congrArg (fun c => decode c 1969) codeL_eq).trans (by decide +kernel)
theorem dL_law_1970 : decode cL_law 1970 = .ok (.invokevirtual 226, 3) := (congrArg (fun c => decode c 1970) codeL_eq).trans (by decide +kernel)
theorem dL_law_1973 : decode cL_law 1973 = .ok (.istore 6, 2) := (congrArg (fun c => decode c 1973) codeL_eq).trans (by decide +kernel)
theorem dL_law_1975 : decode cL_law 1975 = .ok (.aload_n 2, 1) := (congrArg (fun c => decode c 1975) codeL_eq).trans (by decide +kernel)
theorem dL_law_1976 : decode cL_law 1976 = .ok (.invokevirtual 114, 3) := (congrArg (fun c => decode c 1976) codeL_eq).trans (by decide +kernel)
theorem dL_law_1979 : decode cL_law 1979 = .ok (.iload 5, 2) := (congrArg (fun c => decode c 1979) codeL_eq).trans (by decide +kernel)
theorem dL_law_1981 : decode cL_law 1981 = .ok (.if_icmp .eq 5, 3) := (congrArg (fun c => decode c 1981) codeL_eq).trans (by decide +kernel)
theorem dL_law_1984 : decode cL_law 1984 = .ok (.iconst 0, 1) := (congrArg (fun c => decode c 1984) codeL_eq).trans (by decide +kernel)
theorem dL_law_1985 : decode cL_law 1985 = .ok (.ireturn, 1) := (congrArg (fun c => decode c 1985) codeL_eq).trans (by decide +kernel)
theorem dL_law_1986 : decode cL_law 1986 = .ok (.iload 5, 2) := (congrArg (fun c => decode c 1986) codeL_eq).trans (by decide +kernel)
theorem dL_law_1988 : decode cL_law 1988 = .ok (.ifCond .ne 15, 3) := (congrArg (fun c => decode c 1988) codeL_eq).trans (by decide +kernel)
theorem dL_law_1991 : decode cL_law 1991 = .ok (.aload_n 3, 1) := (congrArg (fun c => decode c 1991) codeL_eq).trans (by decide +kernel)
theorem dL_law_1992 : decode cL_law 1992 = .ok (.iconst 0, 1) := (congrArg (fun c => decode c 1992) codeL_eq).trans (by decide +kernel)
theorem dL_law_1993 : decode cL_law 1993 = .ok (.laload, 1) := (congrArg (fun c => decode c 1993) codeL_eq).trans (by decide +kernel)
theorem dL_law_1994 : decode cL_law 1994 = .ok (.iload 6, 2) := (congrArg (fun c => decode c 1994) codeL_eq).trans (by decide +kernel)
theorem dL_law_1996 : decode cL_law 1996 = .ok (.i2l, 1) := (congrArg (fun c => decode c 1996) codeL_eq).trans (by decide +kernel)
theorem dL_law_1997 : decode cL_law 1997 = .ok (.lcmp, 1) := (congrArg (fun c => decode c 1997) codeL_eq).trans (by decide +kernel)
theorem dL_law_1998 : decode cL_law 1998 = .ok (.ifCond .eq 5, 3) := (congrArg (fun c => decode c 1998) codeL_eq).trans (by decide +kernel)
theorem dL_law_2001 : decode cL_law 2001 = .ok (.iconst 0, 1) := (congrArg (fun c => decode c 2001) codeL_eq).trans (by decide +kernel)
theorem dL_law_2002 : decode cL_law 2002 = .ok (.ireturn, 1) := (congrArg (fun c => decode c 2002) codeL_eq).trans (by decide +kernel)
theorem dL_law_2003 : decode cL_law 2003 = .ok (.goto 169, 3) := (congrArg (fun c => decode c 2003) codeL_eq).trans (by decide +kernel)
theorem dL_law_2006 : decode cL_law 2006 = .ok (.aload_n 1, 1) := (congrArg (fun c => decode c 2006) codeL_eq).trans (by decide +kernel)
theorem dL_law_2007 : decode cL_law 2007 = .ok (.aload_n 0, 1) := (congrArg (fun c => decode c 2007) codeL_eq).trans (by decide +kernel)
theorem dL_law_2008 : decode cL_law 2008 = .ok (.iload 4, 2) := (congrArg (fun c => decode c 2008) codeL_eq).trans (by decide +kernel)
theorem dL_law_2010 : decode cL_law 2010 = .ok (.iconst 1, 1) := (congrArg (fun c => decode c 2010) codeL_eq).trans (by decide +kernel)
theorem dL_law_2011 : decode cL_law 2011 = .ok (.iadd, 1) := (congrArg (fun c => decode c 2011) codeL_eq).trans (by decide +kernel)
theorem dL_law_2012 : decode cL_law 2012 = .ok (.iaload, 1) := (congrArg (fun c => decode c 2012) codeL_eq).trans (by decide +kernel)
theorem dL_law_2013 : decode cL_law 2013 = .ok (.aload_n 3, 1) := (congrArg (fun c => decode c 2013) codeL_eq).trans (by decide +kernel)
theorem dL_law_2014 : decode cL_law 2014 = .ok (.invokestatic 227, 3) := (congrArg (fun c => decode c 2014) codeL_eq).trans (by decide +kernel)
theorem dL_law_2017 : decode cL_law 2017 = .ok (.istore 5, 2) := (congrArg (fun c => decode c 2017) codeL_eq).trans (by decide +kernel)
theorem dL_law_2019 : decode cL_law 2019 = .ok (.aload_n 2, 1) := (congrArg (fun c => decode c 2019) codeL_eq).trans (by decide +kernel)
theorem dL_law_2020 : decode cL_law 2020 = .ok (.aload_n 0, 1) := (congrArg (fun c => decode c 2020) codeL_eq).trans (by decide +kernel)
theorem dL_law_2021 : decode cL_law 2021 = .ok (.iload 4, 2) := (congrArg (fun c => decode c 2021) codeL_eq).trans (by decide +kernel)
theorem dL_law_2023 : decode cL_law 2023 = .ok (.iconst 1, 1) := (congrArg (fun c => decode c 2023) codeL_eq).trans (by decide +kernel)
theorem dL_law_2024 : decode cL_law 2024 = .ok (.iadd, 1) := (congrArg (fun c => decode c 2024) codeL_eq).trans (by decide +kernel)
theorem dL_law_2025 : decode cL_law 2025 = .ok (.iaload, 1) := (congrArg (fun c => decode c 2025) codeL_eq).trans (by decide +kernel)
theorem dL_law_2026 : decode cL_law 2026 = .ok (.invokevirtual 229, 3) := (congrArg (fun c => decode c 2026) codeL_eq).trans (by decide +kernel)
theorem dL_law_2029 : decode cL_law 2029 = .ok (.istore 6, 2) := (congrArg (fun c => decode c 2029) codeL_eq).trans (by decide +kernel)
theorem dL_law_2031 : decode cL_law 2031 = .ok (.aload_n 2, 1) := (congrArg (fun c => decode c 2031) codeL_eq).trans (by decide +kernel)
theorem dL_law_2032 : decode cL_law 2032 = .ok (.invokevirtual 114, 3) := (congrArg (fun c => decode c 2032) codeL_eq).trans (by decide +kernel)
theorem dL_law_2035 : decode cL_law 2035 = .ok (.iload 5, 2) := (congrArg (fun c => decode c 2035) codeL_eq).trans (by decide +kernel)
theorem dL_law_2037 : decode cL_law 2037 = .ok (.if_icmp .eq 5, 3) := (congrArg (fun c => decode c 2037) codeL_eq).trans (by decide +kernel)
theorem dL_law_2040 : decode cL_law 2040 = .ok (.iconst 0, 1) := (congrArg (fun c => decode c 2040) codeL_eq).trans (by decide +kernel)
theorem dL_law_2041 : decode cL_law 2041 = .ok (.ireturn, 1) := (congrArg (fun c => decode c 2041) codeL_eq).trans (by decide +kernel)
theorem dL_law_2042 : decode cL_law 2042 = .ok (.iload 5, 2) := (congrArg (fun c => decode c 2042) codeL_eq).trans (by decide +kernel)
theorem dL_law_2044 : decode cL_law 2044 = .ok (.ifCond .ne 15, 3) := (congrArg (fun c => decode c 2044) codeL_eq).trans (by decide +kernel)
theorem dL_law_2047 : decode cL_law 2047 = .ok (.aload_n 3, 1) := (congrArg (fun c => decode c 2047) codeL_eq).trans (by decide +kernel)
theorem dL_law_2048 : decode cL_law 2048 = .ok (.iconst 0, 1) := (congrArg (fun c => decode c 2048) codeL_eq).trans (by decide +kernel)
theorem dL_law_2049 : decode cL_law 2049 = .ok (.laload, 1) := (congrArg (fun c => decode c 2049) codeL_eq).trans (by decide +kernel)
theorem dL_law_2050 : decode cL_law 2050 = .ok (.iload 6, 2) := (congrArg (fun c => decode c 2050) codeL_eq).trans (by decide +kernel)
theorem dL_law_2052 : decode cL_law 2052 = .ok (.i2l, 1) := (congrArg (fun c => decode c 2052) codeL_eq).trans (by decide +kernel)
theorem dL_law_2053 : decode cL_law 2053 = .ok (.lcmp, 1) := (congrArg (fun c => decode c 2053) codeL_eq).trans (by decide +kernel)
theorem dL_law_2054 : decode cL_law 2054 = .ok (.ifCond .eq 5, 3) := (congrArg (fun c => decode c 2054) codeL_eq).trans (by decide +kernel)
theorem dL_law_2057 : decode cL_law 2057 = .ok (.iconst 0, 1) := (congrArg (fun c => decode c 2057) codeL_eq).trans (by decide +kernel)
theorem dL_law_2058 : decode cL_law 2058 = .ok (.ireturn, 1) := (congrArg (fun c => decode c 2058) codeL_eq).trans (by decide +kernel)
theorem dL_law_2059 : decode cL_law 2059 = .ok (.goto 113, 3) := (congrArg (fun c => decode c 2059) codeL_eq).trans (by decide +kernel)
theorem dL_law_2062 : decode cL_law 2062 = .ok (.aload_n 1, 1) := (congrArg (fun c => decode c 2062) codeL_eq).trans (by decide +kernel)
theorem dL_law_2063 : decode cL_law 2063 = .ok (.aload_n 0, 1) := (congrArg (fun c => decode c 2063) codeL_eq).trans (by decide +kernel)
theorem dL_law_2064 : decode cL_law 2064 = .ok (.iload 4, 2) := (congrArg (fun c => decode c 2064) codeL_eq).trans (by decide +kernel)
theorem dL_law_2066 : decode cL_law 2066 = .ok (.iconst 1, 1) := (congrArg (fun c => decode c 2066) codeL_eq).trans (by decide +kernel)
theorem dL_law_2067 : decode cL_law 2067 = .ok (.iadd, 1) := (congrArg (fun c => decode c 2067) codeL_eq).trans (by decide +kernel)
theorem dL_law_2068 : decode cL_law 2068 = .ok (.iaload, 1) := (congrArg (fun c => decode c 2068) codeL_eq).trans (by decide +kernel)
theorem dL_law_2069 : decode cL_law 2069 = .ok (.invokevirtual 230, 3) := (congrArg (fun c => decode c 2069) codeL_eq).trans (by decide +kernel)
theorem dL_law_2072 : decode cL_law 2072 = .ok (.aload_n 2, 1) := (congrArg (fun c => decode c 2072) codeL_eq).trans (by decide +kernel)
theorem dL_law_2073 : decode cL_law 2073 = .ok (.aload_n 0, 1) := (congrArg (fun c => decode c 2073) codeL_eq).trans (by decide +kernel)
theorem dL_law_2074 : decode cL_law 2074 = .ok (.iload 4, 2) := (congrArg (fun c => decode c 2074) codeL_eq).trans (by decide +kernel)
theorem dL_law_2076 : decode cL_law 2076 = .ok (.iconst 1, 1) := (congrArg (fun c => decode c 2076) codeL_eq).trans (by decide +kernel)
theorem dL_law_2077 : decode cL_law 2077 = .ok (.iadd, 1) := (congrArg (fun c => decode c 2077) codeL_eq).trans (by decide +kernel)
theorem dL_law_2078 : decode cL_law 2078 = .ok (.iaload, 1) := (congrArg (fun c => decode c 2078) codeL_eq).trans (by decide +kernel)
theorem dL_law_2079 : decode cL_law 2079 = .ok (.invokevirtual 233, 3) := (congrArg (fun c => decode c 2079) codeL_eq).trans (by decide +kernel)
theorem dL_law_2082 : decode cL_law 2082 = .ok (.if_icmp .eq 90, 3) := (congrArg (fun c => decode c 2082) codeL_eq).trans (by decide +kernel)
theorem dL_law_2085 : decode cL_law 2085 = .ok (.iconst 0, 1) := (congrArg (fun c => decode c 2085) codeL_eq).trans (by decide +kernel)
theorem dL_law_2086 : decode cL_law 2086 = .ok (.ireturn, 1) := (congrArg (fun c => decode c 2086) codeL_eq).trans (by decide +kernel)
theorem dL_law_2087 : decode cL_law 2087 = .ok (.aload_n 1, 1) := (congrArg (fun c => decode c 2087) codeL_eq).trans (by decide +kernel)
theorem dL_law_2088 : decode cL_law 2088 = .ok (.invokevirtual 234, 3) := (congrArg (fun c => decode c 2088) codeL_eq).trans (by decide +kernel)
theorem dL_law_2091 : decode cL_law 2091 = .ok (.aload_n 2, 1) := (congrArg (fun c => decode c 2091) codeL_eq).trans (by decide +kernel)
theorem dL_law_2092 : decode cL_law 2092 = .ok (.invokevirtual 237, 3) := (congrArg (fun c => decode c 2092) codeL_eq).trans (by decide +kernel)
theorem dL_law_2095 : decode cL_law 2095 = .ok (.if_icmp .eq 77, 3) := (congrArg (fun c => decode c 2095) codeL_eq).trans (by decide +kernel)
theorem dL_law_2098 : decode cL_law 2098 = .ok (.iconst 0, 1) := (congrArg (fun c => decode c 2098) codeL_eq).trans (by decide +kernel)
theorem dL_law_2099 : decode cL_law 2099 = .ok (.ireturn, 1) := (congrArg (fun c => decode c 2099) codeL_eq).trans (by decide +kernel)
theorem dL_law_2100 : decode cL_law 2100 = .ok (.aload_n 1, 1) := (congrArg (fun c => decode c 2100) codeL_eq).trans (by decide +kernel)
theorem dL_law_2101 : decode cL_law 2101 = .ok (.aload_n 0, 1) := (congrArg (fun c => decode c 2101) codeL_eq).trans (by decide +kernel)
theorem dL_law_2102 : decode cL_law 2102 = .ok (.iload 4, 2) := (congrArg (fun c => decode c 2102) codeL_eq).trans (by decide +kernel)
theorem dL_law_2104 : decode cL_law 2104 = .ok (.iconst 1, 1) := (congrArg (fun c => decode c 2104) codeL_eq).trans (by decide +kernel)
theorem dL_law_2105 : decode cL_law 2105 = .ok (.iadd, 1) := (congrArg (fun c => decode c 2105) codeL_eq).trans (by decide +kernel)
theorem dL_law_2106 : decode cL_law 2106 = .ok (.iaload, 1) := (congrArg (fun c => decode c 2106) codeL_eq).trans (by decide +kernel)
theorem dL_law_2107 : decode cL_law 2107 = .ok (.invokestatic 238, 3) := (congrArg (fun c => decode c 2107) codeL_eq).trans (by decide +kernel)
theorem dL_law_2110 : decode cL_law 2110 = .ok (.istore 5, 2) := (congrArg (fun c => decode c 2110) codeL_eq).trans (by decide +kernel)
theorem dL_law_2112 : decode cL_law 2112 = .ok (.aload_n 2, 1) := (congrArg (fun c => decode c 2112) codeL_eq).trans (by decide +kernel)
theorem dL_law_2113 : decode cL_law 2113 = .ok (.aload_n 0, 1) := (congrArg (fun c => decode c 2113) codeL_eq).trans (by decide +kernel)
theorem dL_law_2114 : decode cL_law 2114 = .ok (.iload 4, 2) := (congrArg (fun c => decode c 2114) codeL_eq).trans (by decide +kernel)
theorem dL_law_2116 : decode cL_law 2116 = .ok (.iconst 1, 1) := (congrArg (fun c => decode c 2116) codeL_eq).trans (by decide +kernel)
theorem dL_law_2117 : decode cL_law 2117 = .ok (.iadd, 1) := (congrArg (fun c => decode c 2117) codeL_eq).trans (by decide +kernel)
theorem dL_law_2118 : decode cL_law 2118 = .ok (.iaload, 1) := (congrArg (fun c => decode c 2118) codeL_eq).trans (by decide +kernel)
theorem dL_law_2119 : decode cL_law 2119 = .ok (.invokevirtual 241, 3) := (congrArg (fun c => decode c 2119) codeL_eq).trans (by decide +kernel)
theorem dL_law_2122 : decode cL_law 2122 = .ok (.aload_n 2, 1) := (congrArg (fun c => decode c 2122) codeL_eq).trans (by decide +kernel)
theorem dL_law_2123 : decode cL_law 2123 = .ok (.invokevirtual 114, 3) := (congrArg (fun c => decode c 2123) codeL_eq).trans (by decide +kernel)
theorem dL_law_2126 : decode cL_law 2126 = .ok (.iload 5, 2) := (congrArg (fun c => decode c 2126) codeL_eq).trans (by decide +kernel)
theorem dL_law_2128 : decode cL_law 2128 = .ok (.if_icmp .eq 5, 3) := (congrArg (fun c => decode c 2128) codeL_eq).trans (by decide +kernel)
theorem dL_law_2131 : decode cL_law 2131 = .ok (.iconst 0, 1) := (congrArg (fun c => decode c 2131) codeL_eq).trans (by decide +kernel)
theorem dL_law_2132 : decode cL_law 2132 = .ok (.ireturn, 1) := (congrArg (fun c => decode c 2132) codeL_eq).trans (by decide +kernel)
theorem dL_law_2133 : decode cL_law 2133 = .ok (.goto 39, 3) := (congrArg (fun c => decode c 2133) codeL_eq).trans (by decide +kernel)
theorem dL_law_2136 : decode cL_law 2136 = .ok (.aload_n 1, 1) := (congrArg (fun c => decode c 2136) codeL_eq).trans (by decide +kernel)
theorem dL_law_2137 : decode cL_law 2137 = .ok (.aload_n 0, 1) := (congrArg (fun c => decode c 2137) codeL_eq).trans (by decide +kernel)
theorem dL_law_2138 : decode cL_law 2138 = .ok (.iload 4, 2) := (congrArg (fun c => decode c 2138) codeL_eq).trans (by decide +kernel)
theorem dL_law_2140 : decode cL_law 2140 = .ok (.iconst 1, 1) := (congrArg (fun c => decode c 2140) codeL_eq).trans (by decide +kernel)
theorem dL_law_2141 : decode cL_law 2141 = .ok (.iadd, 1) := (congrArg (fun c => decode c 2141) codeL_eq).trans (by decide +kernel)
theorem dL_law_2142 : decode cL_law 2142 = .ok (.iaload, 1) := (congrArg (fun c => decode c 2142) codeL_eq).trans (by decide +kernel)
theorem dL_law_2143 : decode cL_law 2143 = .ok (.invokestatic 242, 3) := (congrArg (fun c => decode c 2143) codeL_eq).trans (by decide +kernel)
theorem dL_law_2146 : decode cL_law 2146 = .ok (.istore 5, 2) := (congrArg (fun c => decode c 2146) codeL_eq).trans (by decide +kernel)
theorem dL_law_2148 : decode cL_law 2148 = .ok (.aload_n 2, 1) := (congrArg (fun c => decode c 2148) codeL_eq).trans (by decide +kernel)
theorem dL_law_2149 : decode cL_law 2149 = .ok (.aload_n 0, 1) := (congrArg (fun c => decode c 2149) codeL_eq).trans (by decide +kernel)
theorem dL_law_2150 : decode cL_law 2150 = .ok (.iload 4, 2) := (congrArg (fun c => decode c 2150) codeL_eq).trans (by decide +kernel)
theorem dL_law_2152 : decode cL_law 2152 = .ok (.iconst 1, 1) := (congrArg (fun c => decode c 2152) codeL_eq).trans (by decide +kernel)
theorem dL_law_2153 : decode cL_law 2153 = .ok (.iadd, 1) := (congrArg (fun c => decode c 2153) codeL_eq).trans (by decide +kernel)
theorem dL_law_2154 : decode cL_law 2154 = .ok (.iaload, 1) := (congrArg (fun c => decode c 2154) codeL_eq).trans (by decide +kernel)
theorem dL_law_2155 : decode cL_law 2155 = .ok (.invokevirtual 244, 3) := (congrArg (fun c => decode c 2155) codeL_eq).trans (by decide +kernel)
theorem dL_law_2158 : decode cL_law 2158 = .ok (.aload_n 2, 1) := (congrArg (fun c => decode c 2158) codeL_eq).trans (by decide +kernel)
theorem dL_law_2159 : decode cL_law 2159 = .ok (.invokevirtual 114, 3) := (congrArg (fun c => decode c 2159) codeL_eq).trans (by decide +kernel)
theorem dL_law_2162 : decode cL_law 2162 = .ok (.iload 5, 2) := (congrArg (fun c => decode c 2162) codeL_eq).trans (by decide +kernel)
theorem dL_law_2164 : decode cL_law 2164 = .ok (.if_icmp .eq 5, 3) := (congrArg (fun c => decode c 2164) codeL_eq).trans (by decide +kernel)
theorem dL_law_2167 : decode cL_law 2167 = .ok (.iconst 0, 1) := (congrArg (fun c => decode c 2167) codeL_eq).trans (by decide +kernel)
theorem dL_law_2168 : decode cL_law 2168 = .ok (.ireturn, 1) := (congrArg (fun c => decode c 2168) codeL_eq).trans (by decide +kernel)
theorem dL_law_2169 : decode cL_law 2169 = .ok (.goto 3, 3) := (congrArg (fun c => decode c 2169) codeL_eq).trans (by decide +kernel)
theorem dL_law_2172 : decode cL_law 2172 = .ok (.iinc 4 5, 3) := (congrArg (fun c => decode c 2172) codeL_eq).trans (by decide +kernel)
theorem dL_law_2175 : decode cL_law 2175 = .ok (.goto (-2152), 3) := (congrArg (fun c => decode c 2175) codeL_eq).trans (by decide +kernel)
theorem dL_law_2178 : decode cL_law 2178 = .ok (.iconst 1, 1) := (congrArg (fun c => decode c 2178) codeL_eq).trans (by decide +kernel)
theorem dL_law_2179 : decode cL_law 2179 = .ok (.ireturn, 1) := (congrArg (fun c => decode c 2179) codeL_eq).trans (by decide +kernel)
