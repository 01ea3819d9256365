theorem dL_cell_0 : decode cL_cell 0 = .ok (.iload_n 1, 1) := by decide +kernel
theorem dL_cell_1 : decode cL_cell 1 = .ok (.aload_n 0, 1) := by decide +kernel
theorem dL_cell_2 : decode cL_cell 2 = .ok (.arraylength, 1) := by decide +kernel
theorem dL_cell_3 : decode cL_cell 3 = .ok (.if_icmp .ge 9, 3) := by decide +kernel
theorem dL_cell_6 : decode cL_cell 6 = .ok (.aload_n 0, 1) := by decide +kernel
theorem dL_cell_7 : decode cL_cell 7 = .ok (.iload_n 1, 1) := by decide +kernel
theorem dL_cell_8 : decode cL_cell 8 = .ok (.iaload, 1) := by decide +kernel
theorem dL_cell_9 : decode cL_cell 9 = .ok (.goto 4, 3) := by decide +kernel
theorem dL_cell_12 : decode cL_cell 12 = .ok (.iconst 0, 1) := by decide +kernel
theorem dL_cell_13 : decode cL_cell 13 = .ok (.ireturn, 1) := by decide +kernel
theorem dL_limit_0 : decode cL_limit 0 = .ok (.aload_n 0, 1) := by decide +kernel
theorem dL_limit_1 : decode cL_limit 1 = .ok (.iload_n 1, 1) := by decide +kernel
theorem dL_limit_2 : decode cL_limit 2 = .ok (.iload_n 2, 1) := by decide +kernel
theorem dL_limit_3 : decode cL_limit 3 = .ok (.invokevirtual 7, 3) := by decide +kernel
theorem dL_limit_6 : decode cL_limit 6 = .ok (.goto 9, 3) := by decide +kernel
theorem dL_limit_9 : decode cL_limit 9 = .ok (.astore_n 3, 1) := by decide +kernel
theorem dL_limit_10 : decode cL_limit 10 = .ok (.iconst 1, 1) := by decide +kernel
theorem dL_limit_11 : decode cL_limit 11 = .ok (.ireturn, 1) := by decide +kernel
theorem dL_limit_12 : decode cL_limit 12 = .ok (.astore_n 3, 1) := by decide +kernel
theorem dL_limit_13 : decode cL_limit 13 = .ok (.iconst 2, 1) := by decide +kernel
theorem dL_limit_14 : decode cL_limit 14 = .ok (.ireturn, 1) := by decide +kernel
theorem dL_limit_15 : decode cL_limit 15 = .ok (.iconst 0, 1) := by decide +kernel
theorem dL_limit_16 : decode cL_limit 16 = .ok (.ireturn, 1) := by decide +kernel
theorem dL_price_0 : decode cL_price 0 = .ok (.aload_n 0, 1) := by decide +kernel
theorem dL_price_1 : decode cL_price 1 = .ok (.iload_n 1, 1) := by decide +kernel
theorem dL_price_2 : decode cL_price 2 = .ok (.iload_n 2, 1) := by decide +kernel
theorem dL_price_3 : decode cL_price 3 = .ok (.invokevirtual 17, 3) := by decide +kernel
theorem dL_price_6 : decode cL_price 6 = .ok (.goto 6, 3) := by decide +kernel
theorem dL_price_9 : decode cL_price 9 = .ok (.astore_n 3, 1) := by decide +kernel
theorem dL_price_10 : decode cL_price 10 = .ok (.iconst 1, 1) := by decide +kernel
theorem dL_price_11 : decode cL_price 11 = .ok (.ireturn, 1) := by decide +kernel
theorem dL_price_12 : decode cL_price 12 = .ok (.iconst 0, 1) := by decide +kernel
theorem dL_price_13 : decode cL_price 13 = .ok (.ireturn, 1) := by decide +kernel
theorem dL_room_0 : decode cL_room 0 = .ok (.aload_n 2, 1) := by decide +kernel
theorem dL_room_1 : decode cL_room 1 = .ok (.iconst 0, 1) := by decide +kernel
theorem dL_room_2 : decode cL_room 2 = .ok (.aload_n 0, 1) := by decide +kernel
theorem dL_room_3 : decode cL_room 3 = .ok (.iload_n 1, 1) := by decide +kernel
theorem dL_room_4 : decode cL_room 4 = .ok (.invokevirtual 20, 3) := by decide +kernel
theorem dL_room_7 : decode cL_room 7 = .ok (.i2l, 1) := by decide +kernel
theorem dL_room_8 : decode cL_room 8 = .ok (.lastore, 1) := by decide +kernel
theorem dL_room_9 : decode cL_room 9 = .ok (.goto 6, 3) := by decide +kernel
theorem dL_room_12 : decode cL_room 12 = .ok (.astore_n 3, 1) := by decide +kernel
theorem dL_room_13 : decode cL_room 13 = .ok (.iconst 1, 1) := by decide +kernel
theorem dL_room_14 : decode cL_room 14 = .ok (.ireturn, 1) := by decide +kernel
theorem dL_room_15 : decode cL_room 15 = .ok (.iconst 0, 1) := by decide +kernel
theorem dL_room_16 : decode cL_room 16 = .ok (.ireturn, 1) := by decide +kernel
theorem dL_hold_0 : decode cL_hold 0 = .ok (.aload 4, 2) := by decide +kernel
theorem dL_hold_2 : decode cL_hold 2 = .ok (.iconst 0, 1) := by decide +kernel
theorem dL_hold_3 : decode cL_hold 3 = .ok (.aload_n 0, 1) := by decide +kernel
theorem dL_hold_4 : decode cL_hold 4 = .ok (.iload_n 1, 1) := by decide +kernel
theorem dL_hold_5 : decode cL_hold 5 = .ok (.iload_n 2, 1) := by decide +kernel
theorem dL_hold_6 : decode cL_hold 6 = .ok (.iload_n 3, 1) := by decide +kernel
theorem dL_hold_7 : decode cL_hold 7 = .ok (.invokevirtual 24, 3) := by decide +kernel
theorem dL_hold_10 : decode cL_hold 10 = .ok (.i2l, 1) := by decide +kernel
theorem dL_hold_11 : decode cL_hold 11 = .ok (.lastore, 1) := by decide +kernel
theorem dL_hold_12 : decode cL_hold 12 = .ok (.goto 15, 3) := by decide +kernel
theorem dL_hold_15 : decode cL_hold 15 = .ok (.astore 5, 2) := by decide +kernel
theorem dL_hold_17 : decode cL_hold 17 = .ok (.iconst 1, 1) := by decide +kernel
theorem dL_hold_18 : decode cL_hold 18 = .ok (.ireturn, 1) := by decide +kernel
theorem dL_hold_19 : decode cL_hold 19 = .ok (.astore 5, 2) := by decide +kernel
theorem dL_hold_21 : decode cL_hold 21 = .ok (.iconst 2, 1) := by decide +kernel
theorem dL_hold_22 : decode cL_hold 22 = .ok (.ireturn, 1) := by decide +kernel
theorem dL_hold_23 : decode cL_hold 23 = .ok (.astore 5, 2) := by decide +kernel
theorem dL_hold_25 : decode cL_hold 25 = .ok (.iconst 3, 1) := by decide +kernel
theorem dL_hold_26 : decode cL_hold 26 = .ok (.ireturn, 1) := by decide +kernel
theorem dL_hold_27 : decode cL_hold 27 = .ok (.iconst 0, 1) := by decide +kernel
theorem dL_hold_28 : decode cL_hold 28 = .ok (.ireturn, 1) := by decide +kernel
theorem dL_join_0 : decode cL_join 0 = .ok (.aload 4, 2) := by decide +kernel
theorem dL_join_2 : decode cL_join 2 = .ok (.iconst 0, 1) := by decide +kernel
theorem dL_join_3 : decode cL_join 3 = .ok (.aload_n 0, 1) := by decide +kernel
theorem dL_join_4 : decode cL_join 4 = .ok (.iload_n 1, 1) := by decide +kernel
theorem dL_join_5 : decode cL_join 5 = .ok (.iload_n 2, 1) := by decide +kernel
theorem dL_join_6 : decode cL_join 6 = .ok (.iload_n 3, 1) := by decide +kernel
theorem dL_join_7 : decode cL_join 7 = .ok (.invokevirtual 30, 3) := by decide +kernel
theorem dL_join_10 : decode cL_join 10 = .ok (.i2l, 1) := by decide +kernel
theorem dL_join_11 : decode cL_join 11 = .ok (.lastore, 1) := by decide +kernel
theorem dL_join_12 : decode cL_join 12 = .ok (.goto 11, 3) := by decide +kernel
theorem dL_join_15 : decode cL_join 15 = .ok (.astore 5, 2) := by decide +kernel
theorem dL_join_17 : decode cL_join 17 = .ok (.iconst 1, 1) := by decide +kernel
theorem dL_join_18 : decode cL_join 18 = .ok (.ireturn, 1) := by decide +kernel
theorem dL_join_19 : decode cL_join 19 = .ok (.astore 5, 2) := by decide +kernel
theorem dL_join_21 : decode cL_join 21 = .ok (.iconst 2, 1) := by decide +kernel
theorem dL_join_22 : decode cL_join 22 = .ok (.ireturn, 1) := by decide +kernel
theorem dL_join_23 : decode cL_join 23 = .ok (.iconst 0, 1) := by decide +kernel
theorem dL_join_24 : decode cL_join 24 = .ok (.ireturn, 1) := by decide +kernel
theorem dL_confirm_0 : decode cL_confirm 0 = .ok (.aload_n 2, 1) := by decide +kernel
theorem dL_confirm_1 : decode cL_confirm 1 = .ok (.iconst 0, 1) := by decide +kernel
theorem dL_confirm_2 : decode cL_confirm 2 = .ok (.aload_n 0, 1) := by decide +kernel
theorem dL_confirm_3 : decode cL_confirm 3 = .ok (.iload_n 1, 1) := by decide +kernel
theorem dL_confirm_4 : decode cL_confirm 4 = .ok (.invokevirtual 33, 3) := by decide +kernel
theorem dL_confirm_7 : decode cL_confirm 7 = .ok (.i2l, 1) := by decide +kernel
theorem dL_confirm_8 : decode cL_confirm 8 = .ok (.lastore, 1) := by decide +kernel
theorem dL_confirm_9 : decode cL_confirm 9 = .ok (.goto 9, 3) := by decide +kernel
theorem dL_confirm_12 : decode cL_confirm 12 = .ok (.astore_n 3, 1) := by decide +kernel
theorem dL_confirm_13 : decode cL_confirm 13 = .ok (.iconst 1, 1) := by decide +kernel
theorem dL_confirm_14 : decode cL_confirm 14 = .ok (.ireturn, 1) := by decide +kernel
theorem dL_confirm_15 : decode cL_confirm 15 = .ok (.astore_n 3, 1) := by decide +kernel
theorem dL_confirm_16 : decode cL_confirm 16 = .ok (.iconst 2, 1) := by decide +kernel
theorem dL_confirm_17 : decode cL_confirm 17 = .ok (.ireturn, 1) := by decide +kernel
theorem dL_confirm_18 : decode cL_confirm 18 = .ok (.iconst 0, 1) := by decide +kernel
theorem dL_confirm_19 : decode cL_confirm 19 = .ok (.ireturn, 1) := by decide +kernel
theorem dL_cancel_0 : decode cL_cancel 0 = .ok (.aload_n 2, 1) := by decide +kernel
theorem dL_cancel_1 : decode cL_cancel 1 = .ok (.iconst 0, 1) := by decide +kernel
theorem dL_cancel_2 : decode cL_cancel 2 = .ok (.aload_n 0, 1) := by decide +kernel
theorem dL_cancel_3 : decode cL_cancel 3 = .ok (.iload_n 1, 1) := by decide +kernel
theorem dL_cancel_4 : decode cL_cancel 4 = .ok (.invokevirtual 36, 3) := by decide +kernel
theorem dL_cancel_7 : decode cL_cancel 7 = .ok (.i2l, 1) := by decide +kernel
theorem dL_cancel_8 : decode cL_cancel 8 = .ok (.lastore, 1) := by decide +kernel
theorem dL_cancel_9 : decode cL_cancel 9 = .ok (.goto 9, 3) := by decide +kernel
theorem dL_cancel_12 : decode cL_cancel 12 = .ok (.astore_n 3, 1) := by decide +kernel
theorem dL_cancel_13 : decode cL_cancel 13 = .ok (.iconst 1, 1) := by decide +kernel
theorem dL_cancel_14 : decode cL_cancel 14 = .ok (.ireturn, 1) := by decide +kernel
theorem dL_cancel_15 : decode cL_cancel 15 = .ok (.astore_n 3, 1) := by decide +kernel
theorem dL_cancel_16 : decode cL_cancel 16 = .ok (.iconst 2, 1) := by decide +kernel
theorem dL_cancel_17 : decode cL_cancel 17 = .ok (.ireturn, 1) := by decide +kernel
theorem dL_cancel_18 : decode cL_cancel 18 = .ok (.iconst 0, 1) := by decide +kernel
theorem dL_cancel_19 : decode cL_cancel 19 = .ok (.ireturn, 1) := by decide +kernel
theorem dL_shrink_0 : decode cL_shrink 0 = .ok (.aload_n 3, 1) := by decide +kernel
theorem dL_shrink_1 : decode cL_shrink 1 = .ok (.iconst 0, 1) := by decide +kernel
theorem dL_shrink_2 : decode cL_shrink 2 = .ok (.aload_n 0, 1) := by decide +kernel
theorem dL_shrink_3 : decode cL_shrink 3 = .ok (.iload_n 1, 1) := by decide +kernel
theorem dL_shrink_4 : decode cL_shrink 4 = .ok (.iload_n 2, 1) := by decide +kernel
theorem dL_shrink_5 : decode cL_shrink 5 = .ok (.invokevirtual 39, 3) := by decide +kernel
theorem dL_shrink_8 : decode cL_shrink 8 = .ok (.i2l, 1) := by decide +kernel
theorem dL_shrink_9 : decode cL_shrink 9 = .ok (.lastore, 1) := by decide +kernel
theorem dL_shrink_10 : decode cL_shrink 10 = .ok (.goto 11, 3) := by decide +kernel
theorem dL_shrink_13 : decode cL_shrink 13 = .ok (.astore 4, 2) := by decide +kernel
theorem dL_shrink_15 : decode cL_shrink 15 = .ok (.iconst 1, 1) := by decide +kernel
theorem dL_shrink_16 : decode cL_shrink 16 = .ok (.ireturn, 1) := by decide +kernel
theorem dL_shrink_17 : decode cL_shrink 17 = .ok (.astore 4, 2) := by decide +kernel
theorem dL_shrink_19 : decode cL_shrink 19 = .ok (.iconst 2, 1) := by decide +kernel
theorem dL_shrink_20 : decode cL_shrink 20 = .ok (.ireturn, 1) := by decide +kernel
theorem dL_shrink_21 : decode cL_shrink 21 = .ok (.iconst 0, 1) := by decide +kernel
theorem dL_shrink_22 : decode cL_shrink 22 = .ok (.ireturn, 1) := by decide +kernel
theorem dL_change_0 : decode cL_change 0 = .ok (.aload_n 0, 1) := by decide +kernel
theorem dL_change_1 : decode cL_change 1 = .ok (.iload_n 1, 1) := by decide +kernel
theorem dL_change_2 : decode cL_change 2 = .ok (.iload_n 2, 1) := by decide +kernel
theorem dL_change_3 : decode cL_change 3 = .ok (.invokevirtual 43, 3) := by decide +kernel
theorem dL_change_6 : decode cL_change 6 = .ok (.goto 12, 3) := by decide +kernel
theorem dL_change_9 : decode cL_change 9 = .ok (.astore_n 3, 1) := by decide +kernel
theorem dL_change_10 : decode cL_change 10 = .ok (.iconst 1, 1) := by decide +kernel
theorem dL_change_11 : decode cL_change 11 = .ok (.ireturn, 1) := by decide +kernel
theorem dL_change_12 : decode cL_change 12 = .ok (.astore_n 3, 1) := by decide +kernel
theorem dL_change_13 : decode cL_change 13 = .ok (.iconst 2, 1) := by decide +kernel
theorem dL_change_14 : decode cL_change 14 = .ok (.ireturn, 1) := by decide +kernel
theorem dL_change_15 : decode cL_change 15 = .ok (.astore_n 3, 1) := by decide +kernel
theorem dL_change_16 : decode cL_change 16 = .ok (.iconst 3, 1) := by decide +kernel
theorem dL_change_17 : decode cL_change 17 = .ok (.ireturn, 1) := by decide +kernel
theorem dL_change_18 : decode cL_change 18 = .ok (.iconst 0, 1) := by decide +kernel
theorem dL_change_19 : decode cL_change 19 = .ok (.ireturn, 1) := by decide +kernel
theorem dL_seat_0 : decode cL_seat 0 = .ok (.aload_n 3, 1) := by decide +kernel
theorem dL_seat_1 : decode cL_seat 1 = .ok (.iconst 0, 1) := by decide +kernel
theorem dL_seat_2 : decode cL_seat 2 = .ok (.aload_n 0, 1) := by decide +kernel
theorem dL_seat_3 : decode cL_seat 3 = .ok (.iload_n 1, 1) := by decide +kernel
theorem dL_seat_4 : decode cL_seat 4 = .ok (.iload_n 2, 1) := by decide +kernel
theorem dL_seat_5 : decode cL_seat 5 = .ok (.invokevirtual 46, 3) := by decide +kernel
theorem dL_seat_8 : decode cL_seat 8 = .ok (.i2l, 1) := by decide +kernel
theorem dL_seat_9 : decode cL_seat 9 = .ok (.lastore, 1) := by decide +kernel
theorem dL_seat_10 : decode cL_seat 10 = .ok (.goto 15, 3) := by decide +kernel
theorem dL_seat_13 : decode cL_seat 13 = .ok (.astore 4, 2) := by decide +kernel
theorem dL_seat_15 : decode cL_seat 15 = .ok (.iconst 1, 1) := by decide +kernel
theorem dL_seat_16 : decode cL_seat 16 = .ok (.ireturn, 1) := by decide +kernel
theorem dL_seat_17 : decode cL_seat 17 = .ok (.astore 4, 2) := by decide +kernel
theorem dL_seat_19 : decode cL_seat 19 = .ok (.iconst 2, 1) := by decide +kernel
theorem dL_seat_20 : decode cL_seat 20 = .ok (.ireturn, 1) := by decide +kernel
theorem dL_seat_21 : decode cL_seat 21 = .ok (.astore 4, 2) := by decide +kernel
theorem dL_seat_23 : decode cL_seat 23 = .ok (.iconst 3, 1) := by decide +kernel
theorem dL_seat_24 : decode cL_seat 24 = .ok (.ireturn, 1) := by decide +kernel
theorem dL_seat_25 : decode cL_seat 25 = .ok (.iconst 0, 1) := by decide +kernel
theorem dL_seat_26 : decode cL_seat 26 = .ok (.ireturn, 1) := by decide +kernel
theorem dL_together_0 : decode cL_together 0 = .ok (.aload_n 2, 1) := by decide +kernel
theorem dL_together_1 : decode cL_together 1 = .ok (.iconst 0, 1) := by decide +kernel
theorem dL_together_2 : decode cL_together 2 = .ok (.aload_n 0, 1) := by decide +kernel
theorem dL_together_3 : decode cL_together 3 = .ok (.iload_n 1, 1) := by decide +kernel
theorem dL_together_4 : decode cL_together 4 = .ok (.invokevirtual 49, 3) := by decide +kernel
theorem dL_together_7 : decode cL_together 7 = .ok (.i2l, 1) := by decide +kernel
theorem dL_together_8 : decode cL_together 8 = .ok (.lastore, 1) := by decide +kernel
theorem dL_together_9 : decode cL_together 9 = .ok (.goto 12, 3) := by decide +kernel
theorem dL_together_12 : decode cL_together 12 = .ok (.astore_n 3, 1) := by decide +kernel
theorem dL_together_13 : decode cL_together 13 = .ok (.iconst 1, 1) := by decide +kernel
theorem dL_together_14 : decode cL_together 14 = .ok (.ireturn, 1) := by decide +kernel
theorem dL_together_15 : decode cL_together 15 = .ok (.astore_n 3, 1) := by decide +kernel
theorem dL_together_16 : decode cL_together 16 = .ok (.iconst 2, 1) := by decide +kernel
theorem dL_together_17 : decode cL_together 17 = .ok (.ireturn, 1) := by decide +kernel
theorem dL_together_18 : decode cL_together 18 = .ok (.astore_n 3, 1) := by decide +kernel
theorem dL_together_19 : decode cL_together 19 = .ok (.iconst 3, 1) := by decide +kernel
theorem dL_together_20 : decode cL_together 20 = .ok (.ireturn, 1) := by decide +kernel
theorem dL_together_21 : decode cL_together 21 = .ok (.iconst 0, 1) := by decide +kernel
theorem dL_together_22 : decode cL_together 22 = .ok (.ireturn, 1) := by decide +kernel
theorem dL_tick_0 : decode cL_tick 0 = .ok (.aload_n 0, 1) := by decide +kernel
theorem dL_tick_1 : decode cL_tick 1 = .ok (.iload_n 1, 1) := by decide +kernel
theorem dL_tick_2 : decode cL_tick 2 = .ok (.invokevirtual 52, 3) := by decide +kernel
theorem dL_tick_5 : decode cL_tick 5 = .ok (.goto 6, 3) := by decide +kernel
theorem dL_tick_8 : decode cL_tick 8 = .ok (.astore_n 2, 1) := by decide +kernel
theorem dL_tick_9 : decode cL_tick 9 = .ok (.iconst 1, 1) := by decide +kernel
theorem dL_tick_10 : decode cL_tick 10 = .ok (.ireturn, 1) := by decide +kernel
theorem dL_tick_11 : decode cL_tick 11 = .ok (.iconst 0, 1) := by decide +kernel
theorem dL_tick_12 : decode cL_tick 12 = .ok (.ireturn, 1) := by decide +kernel
theorem dL_close_0 : decode cL_close 0 = .ok (.aload_n 1, 1) := by decide +kernel
theorem dL_close_1 : decode cL_close 1 = .ok (.iconst 0, 1) := by decide +kernel
theorem dL_close_2 : decode cL_close 2 = .ok (.aload_n 0, 1) := by decide +kernel
theorem dL_close_3 : decode cL_close 3 = .ok (.invokevirtual 56, 3) := by decide +kernel
theorem dL_close_6 : decode cL_close 6 = .ok (.i2l, 1) := by decide +kernel
theorem dL_close_7 : decode cL_close 7 = .ok (.lastore, 1) := by decide +kernel
theorem dL_close_8 : decode cL_close 8 = .ok (.goto 6, 3) := by decide +kernel
theorem dL_close_11 : decode cL_close 11 = .ok (.astore_n 2, 1) := by decide +kernel
theorem dL_close_12 : decode cL_close 12 = .ok (.iconst 1, 1) := by decide +kernel
theorem dL_close_13 : decode cL_close 13 = .ok (.ireturn, 1) := by decide +kernel
theorem dL_close_14 : decode cL_close 14 = .ok (.iconst 0, 1) := by decide +kernel
theorem dL_close_15 : decode cL_close 15 = .ok (.ireturn, 1) := by decide +kernel
theorem dL_of_0 : decode cL_of 0 = .ok (.aload_n 3, 1) := by decide +kernel
theorem dL_of_1 : decode cL_of 1 = .ok (.iconst 0, 1) := by decide +kernel
theorem dL_of_2 : decode cL_of 2 = .ok (.aload_n 0, 1) := by decide +kernel
theorem dL_of_3 : decode cL_of 3 = .ok (.iload_n 1, 1) := by decide +kernel
theorem dL_of_4 : decode cL_of 4 = .ok (.iload_n 2, 1) := by decide +kernel
theorem dL_of_5 : decode cL_of 5 = .ok (.invokevirtual 60, 3) := by decide +kernel
theorem dL_of_8 : decode cL_of 8 = .ok (.i2l, 1) := by decide +kernel
theorem dL_of_9 : decode cL_of 9 = .ok (.lastore, 1) := by decide +kernel
theorem dL_of_10 : decode cL_of 10 = .ok (.goto 7, 3) := by decide +kernel
theorem dL_of_13 : decode cL_of 13 = .ok (.astore 4, 2) := by decide +kernel
theorem dL_of_15 : decode cL_of 15 = .ok (.iconst 1, 1) := by decide +kernel
theorem dL_of_16 : decode cL_of 16 = .ok (.ireturn, 1) := by decide +kernel
theorem dL_of_17 : decode cL_of 17 = .ok (.iconst 0, 1) := by decide +kernel
theorem dL_of_18 : decode cL_of 18 = .ok (.ireturn, 1) := by decide +kernel
theorem dL_count_0 : decode cL_count 0 = .ok (.aload_n 2, 1) := by decide +kernel
theorem dL_count_1 : decode cL_count 1 = .ok (.iconst 0, 1) := by decide +kernel
theorem dL_count_2 : decode cL_count 2 = .ok (.aload_n 0, 1) := by decide +kernel
theorem dL_count_3 : decode cL_count 3 = .ok (.iload_n 1, 1) := by decide +kernel
theorem dL_count_4 : decode cL_count 4 = .ok (.invokevirtual 63, 3) := by decide +kernel
theorem dL_count_7 : decode cL_count 7 = .ok (.i2l, 1) := by decide +kernel
theorem dL_count_8 : decode cL_count 8 = .ok (.lastore, 1) := by decide +kernel
theorem dL_count_9 : decode cL_count 9 = .ok (.goto 6, 3) := by decide +kernel
theorem dL_count_12 : decode cL_count 12 = .ok (.astore_n 3, 1) := by decide +kernel
theorem dL_count_13 : decode cL_count 13 = .ok (.iconst 1, 1) := by decide +kernel
theorem dL_count_14 : decode cL_count 14 = .ok (.ireturn, 1) := by decide +kernel
theorem dL_count_15 : decode cL_count 15 = .ok (.iconst 0, 1) := by decide +kernel
theorem dL_count_16 : decode cL_count 16 = .ok (.ireturn, 1) := by decide +kernel
theorem dL_law_0 : decode code 0 = .ok (.new 8, 3) := by decide +kernel
theorem dL_law_3 : decode code 3 = .ok (.dup, 1) := by decide +kernel
theorem dL_law_4 : decode code 4 = .ok (.aload_n 0, 1) := by decide +kernel
theorem dL_law_5 : decode code 5 = .ok (.iconst 0, 1) := by decide +kernel
theorem dL_law_6 : decode code 6 = .ok (.invokestatic 66, 3) := by decide +kernel
theorem dL_law_9 : decode code 9 = .ok (.invokespecial 72, 3) := by decide +kernel
theorem dL_law_12 : decode code 12 = .ok (.astore_n 1, 1) := by decide +kernel
theorem dL_law_13 : decode code 13 = .ok (.new 74, 3) := by decide +kernel
theorem dL_law_16 : decode code 16 = .ok (.dup, 1) := by decide +kernel
theorem dL_law_17 : decode code 17 = .ok (.aload_n 0, 1) := by decide +kernel
theorem dL_law_18 : decode code 18 = .ok (.iconst 0, 1) := by decide +kernel
theorem dL_law_19 : decode code 19 = .ok (.invokestatic 66, 3) := by decide +kernel
theorem dL_law_22 : decode code 22 = .ok (.invokespecial 76, 3) := by decide +kernel
theorem dL_law_25 : decode code 25 = .ok (.astore_n 2, 1) := by decide +kernel
theorem dL_law_26 : decode code 26 = .ok (.iconst 1, 1) := by decide +kernel
theorem dL_law_27 : decode code 27 = .ok (.newarray .long, 2) := by decide +kernel
theorem dL_law_29 : decode code 29 = .ok (.astore_n 3, 1) := by decide +kernel
theorem dL_law_30 : decode code 30 = .ok (.iconst 1, 1) := by decide +kernel
theorem dL_law_31 : decode code 31 = .ok (.istore 4, 2) := by decide +kernel
theorem dL_law_33 : decode code 33 = .ok (.iload 4, 2) := by decide +kernel
theorem dL_law_35 : decode code 35 = .ok (.aload_n 0, 1) := by decide +kernel
theorem dL_law_36 : decode code 36 = .ok (.arraylength, 1) := by decide +kernel
theorem dL_law_37 : decode code 37 = .ok (.iconst 4, 1) := by decide +kernel
theorem dL_law_38 : decode code 38 = .ok (.isub, 1) := by decide +kernel
theorem dL_law_39 : decode code 39 = .ok (.if_icmp .gt 988, 3) := by decide +kernel
theorem dL_law_42 : decode code 42 = .ok (.aload_n 0, 1) := by decide +kernel
theorem dL_law_43 : decode code 43 = .ok (.iload 4, 2) := by decide +kernel
theorem dL_law_45 : decode code 45 = .ok (.iaload, 1) := by decide +kernel
theorem dL_law_46 : decode code 46 = .ok (.bipush 15, 2) := by decide +kernel
theorem dL_law_48 : decode code 48 = .ok (.iand, 1) := by decide +kernel
theorem dL_law_49 : decode code 49 = .ok (.tableswitch 972 0 15 #[79, 127, 175, 231, 311, 391, 447, 503, 571, 619, 687, 743, 779, 823, 891, 916], 79) := by decide +kernel
theorem dL_law_128 : decode code 128 = .ok (.aload_n 1, 1) := by decide +kernel
theorem dL_law_129 : decode code 129 = .ok (.aload_n 0, 1) := by decide +kernel
theorem dL_law_130 : decode code 130 = .ok (.iload 4, 2) := by decide +kernel
theorem dL_law_132 : decode code 132 = .ok (.iconst 1, 1) := by decide +kernel
theorem dL_law_133 : decode code 133 = .ok (.iadd, 1) := by decide +kernel
theorem dL_law_134 : decode code 134 = .ok (.iaload, 1) := by decide +kernel
theorem dL_law_135 : decode code 135 = .ok (.aload_n 0, 1) := by decide +kernel
theorem dL_law_136 : decode code 136 = .ok (.iload 4, 2) := by decide +kernel
theorem dL_law_138 : decode code 138 = .ok (.iconst 2, 1) := by decide +kernel
theorem dL_law_139 : decode code 139 = .ok (.iadd, 1) := by decide +kernel
theorem dL_law_140 : decode code 140 = .ok (.iaload, 1) := by decide +kernel
theorem dL_law_141 : decode code 141 = .ok (.invokestatic 77, 3) := by decide +kernel
theorem dL_law_144 : decode code 144 = .ok (.istore 5, 2) := by decide +kernel
theorem dL_law_146 : decode code 146 = .ok (.aload_n 2, 1) := by decide +kernel
theorem dL_law_147 : decode code 147 = .ok (.aload_n 0, 1) := by decide +kernel
theorem dL_law_148 : decode code 148 = .ok (.iload 4, 2) := by decide +kernel
theorem dL_law_150 : decode code 150 = .ok (.iconst 1, 1) := by decide +kernel
theorem dL_law_151 : decode code 151 = .ok (.iadd, 1) := by decide +kernel
theorem dL_law_152 : decode code 152 = .ok (.iaload, 1) := by decide +kernel
theorem dL_law_153 : decode code 153 = .ok (.aload_n 0, 1) := by decide +kernel
theorem dL_law_154 : decode code 154 = .ok (.iload 4, 2) := by decide +kernel
theorem dL_law_156 : decode code 156 = .ok (.iconst 2, 1) := by decide +kernel
theorem dL_law_157 : decode code 157 = .ok (.iadd, 1) := by decide +kernel
theorem dL_law_158 : decode code 158 = .ok (.iaload, 1) := by decide +kernel
theorem dL_law_159 : decode code 159 = .ok (.invokevirtual 80, 3) := by decide +kernel
theorem dL_law_162 : decode code 162 = .ok (.aload_n 2, 1) := by decide +kernel
theorem dL_law_163 : decode code 163 = .ok (.invokevirtual 81, 3) := by decide +kernel
theorem dL_law_166 : decode code 166 = .ok (.iload 5, 2) := by decide +kernel
theorem dL_law_168 : decode code 168 = .ok (.if_icmp .eq 5, 3) := by decide +kernel
theorem dL_law_171 : decode code 171 = .ok (.iconst 0, 1) := by decide +kernel
theorem dL_law_172 : decode code 172 = .ok (.ireturn, 1) := by decide +kernel
theorem dL_law_173 : decode code 173 = .ok (.goto 848, 3) := by decide +kernel
theorem dL_law_176 : decode code 176 = .ok (.aload_n 1, 1) := by decide +kernel
theorem dL_law_177 : decode code 177 = .ok (.aload_n 0, 1) := by decide +kernel
theorem dL_law_178 : decode code 178 = .ok (.iload 4, 2) := by decide +kernel
theorem dL_law_180 : decode code 180 = .ok (.iconst 1, 1) := by decide +kernel
theorem dL_law_181 : decode code 181 = .ok (.iadd, 1) := by decide +kernel
theorem dL_law_182 : decode code 182 = .ok (.iaload, 1) := by decide +kernel
theorem dL_law_183 : decode code 183 = .ok (.aload_n 0, 1) := by decide +kernel
theorem dL_law_184 : decode code 184 = .ok (.iload 4, 2) := by decide +kernel
theorem dL_law_186 : decode code 186 = .ok (.iconst 2, 1) := by decide +kernel
theorem dL_law_187 : decode code 187 = .ok (.iadd, 1) := by decide +kernel
theorem dL_law_188 : decode code 188 = .ok (.iaload, 1) := by decide +kernel
theorem dL_law_189 : decode code 189 = .ok (.invokestatic 84, 3) := by decide +kernel
theorem dL_law_192 : decode code 192 = .ok (.istore 5, 2) := by decide +kernel
theorem dL_law_194 : decode code 194 = .ok (.aload_n 2, 1) := by decide +kernel
theorem dL_law_195 : decode code 195 = .ok (.aload_n 0, 1) := by decide +kernel
theorem dL_law_196 : decode code 196 = .ok (.iload 4, 2) := by decide +kernel
theorem dL_law_198 : decode code 198 = .ok (.iconst 1, 1) := by decide +kernel
theorem dL_law_199 : decode code 199 = .ok (.iadd, 1) := by decide +kernel
theorem dL_law_200 : decode code 200 = .ok (.iaload, 1) := by decide +kernel
theorem dL_law_201 : decode code 201 = .ok (.aload_n 0, 1) := by decide +kernel
theorem dL_law_202 : decode code 202 = .ok (.iload 4, 2) := by decide +kernel
theorem dL_law_204 : decode code 204 = .ok (.iconst 2, 1) := by decide +kernel
theorem dL_law_205 : decode code 205 = .ok (.iadd, 1) := by decide +kernel
theorem dL_law_206 : decode code 206 = .ok (.iaload, 1) := by decide +kernel
theorem dL_law_207 : decode code 207 = .ok (.invokevirtual 86, 3) := by decide +kernel
theorem dL_law_210 : decode code 210 = .ok (.aload_n 2, 1) := by decide +kernel
theorem dL_law_211 : decode code 211 = .ok (.invokevirtual 81, 3) := by decide +kernel
theorem dL_law_214 : decode code 214 = .ok (.iload 5, 2) := by decide +kernel
theorem dL_law_216 : decode code 216 = .ok (.if_icmp .eq 5, 3) := by decide +kernel
theorem dL_law_219 : decode code 219 = .ok (.iconst 0, 1) := by decide +kernel
theorem dL_law_220 : decode code 220 = .ok (.ireturn, 1) := by decide +kernel
theorem dL_law_221 : decode code 221 = .ok (.goto 800, 3) := by decide +kernel
theorem dL_law_224 : decode code 224 = .ok (.aload_n 1, 1) := by decide +kernel
theorem dL_law_225 : decode code 225 = .ok (.aload_n 0, 1) := by decide +kernel
theorem dL_law_226 : decode code 226 = .ok (.iload 4, 2) := by decide +kernel
theorem dL_law_228 : decode code 228 = .ok (.iconst 1, 1) := by decide +kernel
theorem dL_law_229 : decode code 229 = .ok (.iadd, 1) := by decide +kernel
theorem dL_law_230 : decode code 230 = .ok (.iaload, 1) := by decide +kernel
theorem dL_law_231 : decode code 231 = .ok (.aload_n 3, 1) := by decide +kernel
theorem dL_law_232 : decode code 232 = .ok (.invokestatic 87, 3) := by decide +kernel
theorem dL_law_235 : decode code 235 = .ok (.istore 5, 2) := by decide +kernel
theorem dL_law_237 : decode code 237 = .ok (.aload_n 2, 1) := by decide +kernel
theorem dL_law_238 : decode code 238 = .ok (.aload_n 0, 1) := by decide +kernel
theorem dL_law_239 : decode code 239 = .ok (.iload 4, 2) := by decide +kernel
theorem dL_law_241 : decode code 241 = .ok (.iconst 1, 1) := by decide +kernel
theorem dL_law_242 : decode code 242 = .ok (.iadd, 1) := by decide +kernel
theorem dL_law_243 : decode code 243 = .ok (.iaload, 1) := by decide +kernel
theorem dL_law_244 : decode code 244 = .ok (.invokevirtual 90, 3) := by decide +kernel
theorem dL_law_247 : decode code 247 = .ok (.istore 6, 2) := by decide +kernel
theorem dL_law_249 : decode code 249 = .ok (.aload_n 2, 1) := by decide +kernel
theorem dL_law_250 : decode code 250 = .ok (.invokevirtual 81, 3) := by decide +kernel
theorem dL_law_253 : decode code 253 = .ok (.iload 5, 2) := by decide +kernel
theorem dL_law_255 : decode code 255 = .ok (.if_icmp .eq 5, 3) := by decide +kernel
theorem dL_law_258 : decode code 258 = .ok (.iconst 0, 1) := by decide +kernel
theorem dL_law_259 : decode code 259 = .ok (.ireturn, 1) := by decide +kernel
theorem dL_law_260 : decode code 260 = .ok (.iload 5, 2) := by decide +kernel
theorem dL_law_262 : decode code 262 = .ok (.ifCond .ne 15, 3) := by decide +kernel
theorem dL_law_265 : decode code 265 = .ok (.aload_n 3, 1) := by decide +kernel
theorem dL_law_266 : decode code 266 = .ok (.iconst 0, 1) := by decide +kernel
theorem dL_law_267 : decode code 267 = .ok (.laload, 1) := by decide +kernel
theorem dL_law_268 : decode code 268 = .ok (.iload 6, 2) := by decide +kernel
theorem dL_law_270 : decode code 270 = .ok (.i2l, 1) := by decide +kernel
theorem dL_law_271 : decode code 271 = .ok (.lcmp, 1) := by decide +kernel
theorem dL_law_272 : decode code 272 = .ok (.ifCond .eq 5, 3) := by decide +kernel
theorem dL_law_275 : decode code 275 = .ok (.iconst 0, 1) := by decide +kernel
theorem dL_law_276 : decode code 276 = .ok (.ireturn, 1) := by decide +kernel
theorem dL_law_277 : decode code 277 = .ok (.goto 744, 3) := by decide +kernel
theorem dL_law_280 : decode code 280 = .ok (.aload_n 1, 1) := by decide +kernel
theorem dL_law_281 : decode code 281 = .ok (.aload_n 0, 1) := by decide +kernel
theorem dL_law_282 : decode code 282 = .ok (.iload 4, 2) := by decide +kernel
theorem dL_law_284 : decode code 284 = .ok (.iconst 1, 1) := by decide +kernel
theorem dL_law_285 : decode code 285 = .ok (.iadd, 1) := by decide +kernel
theorem dL_law_286 : decode code 286 = .ok (.iaload, 1) := by decide +kernel
theorem dL_law_287 : decode code 287 = .ok (.aload_n 0, 1) := by decide +kernel
theorem dL_law_288 : decode code 288 = .ok (.iload 4, 2) := by decide +kernel
theorem dL_law_290 : decode code 290 = .ok (.iconst 2, 1) := by decide +kernel
theorem dL_law_291 : decode code 291 = .ok (.iadd, 1) := by decide +kernel
theorem dL_law_292 : decode code 292 = .ok (.iaload, 1) := by decide +kernel
theorem dL_law_293 : decode code 293 = .ok (.aload_n 0, 1) := by decide +kernel
theorem dL_law_294 : decode code 294 = .ok (.iload 4, 2) := by decide +kernel
theorem dL_law_296 : decode code 296 = .ok (.iconst 3, 1) := by decide +kernel
theorem dL_law_297 : decode code 297 = .ok (.iadd, 1) := by decide +kernel
theorem dL_law_298 : decode code 298 = .ok (.iaload, 1) := by decide +kernel
theorem dL_law_299 : decode code 299 = .ok (.aload_n 3, 1) := by decide +kernel
theorem dL_law_300 : decode code 300 = .ok (.invokestatic 91, 3) := by decide +kernel
theorem dL_law_303 : decode code 303 = .ok (.istore 5, 2) := by decide +kernel
theorem dL_law_305 : decode code 305 = .ok (.aload_n 2, 1) := by decide +kernel
theorem dL_law_306 : decode code 306 = .ok (.aload_n 0, 1) := by decide +kernel
theorem dL_law_307 : decode code 307 = .ok (.iload 4, 2) := by decide +kernel
theorem dL_law_309 : decode code 309 = .ok (.iconst 1, 1) := by decide +kernel
theorem dL_law_310 : decode code 310 = .ok (.iadd, 1) := by decide +kernel
theorem dL_law_311 : decode code 311 = .ok (.iaload, 1) := by decide +kernel
theorem dL_law_312 : decode code 312 = .ok (.aload_n 0, 1) := by decide +kernel
theorem dL_law_313 : decode code 313 = .ok (.iload 4, 2) := by decide +kernel
theorem dL_law_315 : decode code 315 = .ok (.iconst 2, 1) := by decide +kernel
theorem dL_law_316 : decode code 316 = .ok (.iadd, 1) := by decide +kernel
theorem dL_law_317 : decode code 317 = .ok (.iaload, 1) := by decide +kernel
theorem dL_law_318 : decode code 318 = .ok (.aload_n 0, 1) := by decide +kernel
theorem dL_law_319 : decode code 319 = .ok (.iload 4, 2) := by decide +kernel
theorem dL_law_321 : decode code 321 = .ok (.iconst 3, 1) := by decide +kernel
theorem dL_law_322 : decode code 322 = .ok (.iadd, 1) := by decide +kernel
theorem dL_law_323 : decode code 323 = .ok (.iaload, 1) := by decide +kernel
theorem dL_law_324 : decode code 324 = .ok (.invokevirtual 94, 3) := by decide +kernel
theorem dL_law_327 : decode code 327 = .ok (.istore 6, 2) := by decide +kernel
theorem dL_law_329 : decode code 329 = .ok (.aload_n 2, 1) := by decide +kernel
theorem dL_law_330 : decode code 330 = .ok (.invokevirtual 81, 3) := by decide +kernel
theorem dL_law_333 : decode code 333 = .ok (.iload 5, 2) := by decide +kernel
theorem dL_law_335 : decode code 335 = .ok (.if_icmp .eq 5, 3) := by decide +kernel
theorem dL_law_338 : decode code 338 = .ok (.iconst 0, 1) := by decide +kernel
theorem dL_law_339 : decode code 339 = .ok (.ireturn, 1) := by decide +kernel
theorem dL_law_340 : decode code 340 = .ok (.iload 5, 2) := by decide +kernel
theorem dL_law_342 : decode code 342 = .ok (.ifCond .ne 15, 3) := by decide +kernel
theorem dL_law_345 : decode code 345 = .ok (.aload_n 3, 1) := by decide +kernel
theorem dL_law_346 : decode code 346 = .ok (.iconst 0, 1) := by decide +kernel
theorem dL_law_347 : decode code 347 = .ok (.laload, 1) := by decide +kernel
theorem dL_law_348 : decode code 348 = .ok (.iload 6, 2) := by decide +kernel
theorem dL_law_350 : decode code 350 = .ok (.i2l, 1) := by decide +kernel
theorem dL_law_351 : decode code 351 = .ok (.lcmp, 1) := by decide +kernel
theorem dL_law_352 : decode code 352 = .ok (.ifCond .eq 5, 3) := by decide +kernel
theorem dL_law_355 : decode code 355 = .ok (.iconst 0, 1) := by decide +kernel
theorem dL_law_356 : decode code 356 = .ok (.ireturn, 1) := by decide +kernel
theorem dL_law_357 : decode code 357 = .ok (.goto 664, 3) := by decide +kernel
theorem dL_law_360 : decode code 360 = .ok (.aload_n 1, 1) := by decide +kernel
theorem dL_law_361 : decode code 361 = .ok (.aload_n 0, 1) := by decide +kernel
theorem dL_law_362 : decode code 362 = .ok (.iload 4, 2) := by decide +kernel
theorem dL_law_364 : decode code 364 = .ok (.iconst 1, 1) := by decide +kernel
theorem dL_law_365 : decode code 365 = .ok (.iadd, 1) := by decide +kernel
theorem dL_law_366 : decode code 366 = .ok (.iaload, 1) := by decide +kernel
theorem dL_law_367 : decode code 367 = .ok (.aload_n 0, 1) := by decide +kernel
theorem dL_law_368 : decode code 368 = .ok (.iload 4, 2) := by decide +kernel
theorem dL_law_370 : decode code 370 = .ok (.iconst 2, 1) := by decide +kernel
theorem dL_law_371 : decode code 371 = .ok (.iadd, 1) := by decide +kernel
theorem dL_law_372 : decode code 372 = .ok (.iaload, 1) := by decide +kernel
theorem dL_law_373 : decode code 373 = .ok (.aload_n 0, 1) := by decide +kernel
theorem dL_law_374 : decode code 374 = .ok (.iload 4, 2) := by decide +kernel
theorem dL_law_376 : decode code 376 = .ok (.iconst 3, 1) := by decide +kernel
theorem dL_law_377 : decode code 377 = .ok (.iadd, 1) := by decide +kernel
theorem dL_law_378 : decode code 378 = .ok (.iaload, 1) := by decide +kernel
theorem dL_law_379 : decode code 379 = .ok (.aload_n 3, 1) := by decide +kernel
theorem dL_law_380 : decode code 380 = .ok (.invokestatic 95, 3) := by decide +kernel
theorem dL_law_383 : decode code 383 = .ok (.istore 5, 2) := by decide +kernel
theorem dL_law_385 : decode code 385 = .ok (.aload_n 2, 1) := by decide +kernel
theorem dL_law_386 : decode code 386 = .ok (.aload_n 0, 1) := by decide +kernel
theorem dL_law_387 : decode code 387 = .ok (.iload 4, 2) := by decide +kernel
theorem dL_law_389 : decode code 389 = .ok (.iconst 1, 1) := by decide +kernel
theorem dL_law_390 : decode code 390 = .ok (.iadd, 1) := by decide +kernel
theorem dL_law_391 : decode code 391 = .ok (.iaload, 1) := by decide +kernel
theorem dL_law_392 : decode code 392 = .ok (.aload_n 0, 1) := by decide +kernel
theorem dL_law_393 : decode code 393 = .ok (.iload 4, 2) := by decide +kernel
theorem dL_law_395 : decode code 395 = .ok (.iconst 2, 1) := by decide +kernel
theorem dL_law_396 : decode code 396 = .ok (.iadd, 1) := by decide +kernel
theorem dL_law_397 : decode code 397 = .ok (.iaload, 1) := by decide +kernel
theorem dL_law_398 : decode code 398 = .ok (.aload_n 0, 1) := by decide +kernel
theorem dL_law_399 : decode code 399 = .ok (.iload 4, 2) := by decide +kernel
theorem dL_law_401 : decode code 401 = .ok (.iconst 3, 1) := by decide +kernel
theorem dL_law_402 : decode code 402 = .ok (.iadd, 1) := by decide +kernel
theorem dL_law_403 : decode code 403 = .ok (.iaload, 1) := by decide +kernel
theorem dL_law_404 : decode code 404 = .ok (.invokevirtual 97, 3) := by decide +kernel
theorem dL_law_407 : decode code 407 = .ok (.istore 6, 2) := by decide +kernel
theorem dL_law_409 : decode code 409 = .ok (.aload_n 2, 1) := by decide +kernel
theorem dL_law_410 : decode code 410 = .ok (.invokevirtual 81, 3) := by decide +kernel
theorem dL_law_413 : decode code 413 = .ok (.iload 5, 2) := by decide +kernel
theorem dL_law_415 : decode code 415 = .ok (.if_icmp .eq 5, 3) := by decide +kernel
theorem dL_law_418 : decode code 418 = .ok (.iconst 0, 1) := by decide +kernel
theorem dL_law_419 : decode code 419 = .ok (.ireturn, 1) := by decide +kernel
theorem dL_law_420 : decode code 420 = .ok (.iload 5, 2) := by decide +kernel
theorem dL_law_422 : decode code 422 = .ok (.ifCond .ne 15, 3) := by decide +kernel
theorem dL_law_425 : decode code 425 = .ok (.aload_n 3, 1) := by decide +kernel
theorem dL_law_426 : decode code 426 = .ok (.iconst 0, 1) := by decide +kernel
theorem dL_law_427 : decode code 427 = .ok (.laload, 1) := by decide +kernel
theorem dL_law_428 : decode code 428 = .ok (.iload 6, 2) := by decide +kernel
theorem dL_law_430 : decode code 430 = .ok (.i2l, 1) := by decide +kernel
theorem dL_law_431 : decode code 431 = .ok (.lcmp, 1) := by decide +kernel
theorem dL_law_432 : decode code 432 = .ok (.ifCond .eq 5, 3) := by decide +kernel
theorem dL_law_435 : decode code 435 = .ok (.iconst 0, 1) := by decide +kernel
theorem dL_law_436 : decode code 436 = .ok (.ireturn, 1) := by decide +kernel
theorem dL_law_437 : decode code 437 = .ok (.goto 584, 3) := by decide +kernel
theorem dL_law_440 : decode code 440 = .ok (.aload_n 1, 1) := by decide +kernel
theorem dL_law_441 : decode code 441 = .ok (.aload_n 0, 1) := by decide +kernel
theorem dL_law_442 : decode code 442 = .ok (.iload 4, 2) := by decide +kernel
theorem dL_law_444 : decode code 444 = .ok (.iconst 1, 1) := by decide +kernel
theorem dL_law_445 : decode code 445 = .ok (.iadd, 1) := by decide +kernel
theorem dL_law_446 : decode code 446 = .ok (.iaload, 1) := by decide +kernel
theorem dL_law_447 : decode code 447 = .ok (.aload_n 3, 1) := by decide +kernel
theorem dL_law_448 : decode code 448 = .ok (.invokestatic 98, 3) := by decide +kernel
theorem dL_law_451 : decode code 451 = .ok (.istore 5, 2) := by decide +kernel
theorem dL_law_453 : decode code 453 = .ok (.aload_n 2, 1) := by decide +kernel
theorem dL_law_454 : decode code 454 = .ok (.aload_n 0, 1) := by decide +kernel
theorem dL_law_455 : decode code 455 = .ok (.iload 4, 2) := by decide +kernel
theorem dL_law_457 : decode code 457 = .ok (.iconst 1, 1) := by decide +kernel
theorem dL_law_458 : decode code 458 = .ok (.iadd, 1) := by decide +kernel
theorem dL_law_459 : decode code 459 = .ok (.iaload, 1) := by decide +kernel
theorem dL_law_460 : decode code 460 = .ok (.invokevirtual 100, 3) := by decide +kernel
theorem dL_law_463 : decode code 463 = .ok (.istore 6, 2) := by decide +kernel
theorem dL_law_465 : decode code 465 = .ok (.aload_n 2, 1) := by decide +kernel
theorem dL_law_466 : decode code 466 = .ok (.invokevirtual 81, 3) := by decide +kernel
theorem dL_law_469 : decode code 469 = .ok (.iload 5, 2) := by decide +kernel
theorem dL_law_471 : decode code 471 = .ok (.if_icmp .eq 5, 3) := by decide +kernel
theorem dL_law_474 : decode code 474 = .ok (.iconst 0, 1) := by decide +kernel
theorem dL_law_475 : decode code 475 = .ok (.ireturn, 1) := by decide +kernel
theorem dL_law_476 : decode code 476 = .ok (.iload 5, 2) := by decide +kernel
theorem dL_law_478 : decode code 478 = .ok (.ifCond .ne 15, 3) := by decide +kernel
theorem dL_law_481 : decode code 481 = .ok (.aload_n 3, 1) := by decide +kernel
theorem dL_law_482 : decode code 482 = .ok (.iconst 0, 1) := by decide +kernel
theorem dL_law_483 : decode code 483 = .ok (.laload, 1) := by decide +kernel
theorem dL_law_484 : decode code 484 = .ok (.iload 6, 2) := by decide +kernel
theorem dL_law_486 : decode code 486 = .ok (.i2l, 1) := by decide +kernel
theorem dL_law_487 : decode code 487 = .ok (.lcmp, 1) := by decide +kernel
theorem dL_law_488 : decode code 488 = .ok (.ifCond .eq 5, 3) := by decide +kernel
theorem dL_law_491 : decode code 491 = .ok (.iconst 0, 1) := by decide +kernel
theorem dL_law_492 : decode code 492 = .ok (.ireturn, 1) := by decide +kernel
theorem dL_law_493 : decode code 493 = .ok (.goto 528, 3) := by decide +kernel
theorem dL_law_496 : decode code 496 = .ok (.aload_n 1, 1) := by decide +kernel
theorem dL_law_497 : decode code 497 = .ok (.aload_n 0, 1) := by decide +kernel
theorem dL_law_498 : decode code 498 = .ok (.iload 4, 2) := by decide +kernel
theorem dL_law_500 : decode code 500 = .ok (.iconst 1, 1) := by decide +kernel
theorem dL_law_501 : decode code 501 = .ok (.iadd, 1) := by decide +kernel
theorem dL_law_502 : decode code 502 = .ok (.iaload, 1) := by decide +kernel
theorem dL_law_503 : decode code 503 = .ok (.aload_n 3, 1) := by decide +kernel
theorem dL_law_504 : decode code 504 = .ok (.invokestatic 101, 3) := by decide +kernel
theorem dL_law_507 : decode code 507 = .ok (.istore 5, 2) := by decide +kernel
theorem dL_law_509 : decode code 509 = .ok (.aload_n 2, 1) := by decide +kernel
theorem dL_law_510 : decode code 510 = .ok (.aload_n 0, 1) := by decide +kernel
theorem dL_law_511 : decode code 511 = .ok (.iload 4, 2) := by decide +kernel
theorem dL_law_513 : decode code 513 = .ok (.iconst 1, 1) := by decide +kernel
theorem dL_law_514 : decode code 514 = .ok (.iadd, 1) := by decide +kernel
theorem dL_law_515 : decode code 515 = .ok (.iaload, 1) := by decide +kernel
theorem dL_law_516 : decode code 516 = .ok (.invokevirtual 103, 3) := by decide +kernel
theorem dL_law_519 : decode code 519 = .ok (.istore 6, 2) := by decide +kernel
theorem dL_law_521 : decode code 521 = .ok (.aload_n 2, 1) := by decide +kernel
theorem dL_law_522 : decode code 522 = .ok (.invokevirtual 81, 3) := by decide +kernel
theorem dL_law_525 : decode code 525 = .ok (.iload 5, 2) := by decide +kernel
theorem dL_law_527 : decode code 527 = .ok (.if_icmp .eq 5, 3) := by decide +kernel
theorem dL_law_530 : decode code 530 = .ok (.iconst 0, 1) := by decide +kernel
theorem dL_law_531 : decode code 531 = .ok (.ireturn, 1) := by decide +kernel
theorem dL_law_532 : decode code 532 = .ok (.iload 5, 2) := by decide +kernel
theorem dL_law_534 : decode code 534 = .ok (.ifCond .ne 15, 3) := by decide +kernel
theorem dL_law_537 : decode code 537 = .ok (.aload_n 3, 1) := by decide +kernel
theorem dL_law_538 : decode code 538 = .ok (.iconst 0, 1) := by decide +kernel
theorem dL_law_539 : decode code 539 = .ok (.laload, 1) := by decide +kernel
theorem dL_law_540 : decode code 540 = .ok (.iload 6, 2) := by decide +kernel
theorem dL_law_542 : decode code 542 = .ok (.i2l, 1) := by decide +kernel
theorem dL_law_543 : decode code 543 = .ok (.lcmp, 1) := by decide +kernel
theorem dL_law_544 : decode code 544 = .ok (.ifCond .eq 5, 3) := by decide +kernel
theorem dL_law_547 : decode code 547 = .ok (.iconst 0, 1) := by decide +kernel
theorem dL_law_548 : decode code 548 = .ok (.ireturn, 1) := by decide +kernel
theorem dL_law_549 : decode code 549 = .ok (.goto 472, 3) := by decide +kernel
theorem dL_law_552 : decode code 552 = .ok (.aload_n 1, 1) := by decide +kernel
theorem dL_law_553 : decode code 553 = .ok (.aload_n 0, 1) := by decide +kernel
theorem dL_law_554 : decode code 554 = .ok (.iload 4, 2) := by decide +kernel
theorem dL_law_556 : decode code 556 = .ok (.iconst 1, 1) := by decide +kernel
theorem dL_law_557 : decode code 557 = .ok (.iadd, 1) := by decide +kernel
theorem dL_law_558 : decode code 558 = .ok (.iaload, 1) := by decide +kernel
theorem dL_law_559 : decode code 559 = .ok (.aload_n 0, 1) := by decide +kernel
theorem dL_law_560 : decode code 560 = .ok (.iload 4, 2) := by decide +kernel
theorem dL_law_562 : decode code 562 = .ok (.iconst 2, 1) := by decide +kernel
theorem dL_law_563 : decode code 563 = .ok (.iadd, 1) := by decide +kernel
theorem dL_law_564 : decode code 564 = .ok (.iaload, 1) := by decide +kernel
theorem dL_law_565 : decode code 565 = .ok (.aload_n 3, 1) := by decide +kernel
theorem dL_law_566 : decode code 566 = .ok (.invokestatic 104, 3) := by decide +kernel
theorem dL_law_569 : decode code 569 = .ok (.istore 5, 2) := by decide +kernel
theorem dL_law_571 : decode code 571 = .ok (.aload_n 2, 1) := by decide +kernel
theorem dL_law_572 : decode code 572 = .ok (.aload_n 0, 1) := by decide +kernel
theorem dL_law_573 : decode code 573 = .ok (.iload 4, 2) := by decide +kernel
theorem dL_law_575 : decode code 575 = .ok (.iconst 1, 1) := by decide +kernel
theorem dL_law_576 : decode code 576 = .ok (.iadd, 1) := by decide +kernel
theorem dL_law_577 : decode code 577 = .ok (.iaload, 1) := by decide +kernel
theorem dL_law_578 : decode code 578 = .ok (.aload_n 0, 1) := by decide +kernel
theorem dL_law_579 : decode code 579 = .ok (.iload 4, 2) := by decide +kernel
theorem dL_law_581 : decode code 581 = .ok (.iconst 2, 1) := by decide +kernel
theorem dL_law_582 : decode code 582 = .ok (.iadd, 1) := by decide +kernel
theorem dL_law_583 : decode code 583 = .ok (.iaload, 1) := by decide +kernel
theorem dL_law_584 : decode code 584 = .ok (.invokevirtual 107, 3) := by decide +kernel
theorem dL_law_587 : decode code 587 = .ok (.istore 6, 2) := by decide +kernel
theorem dL_law_589 : decode code 589 = .ok (.aload_n 2, 1) := by decide +kernel
theorem dL_law_590 : decode code 590 = .ok (.invokevirtual 81, 3) := by decide +kernel
theorem dL_law_593 : decode code 593 = .ok (.iload 5, 2) := by decide +kernel
theorem dL_law_595 : decode code 595 = .ok (.if_icmp .eq 5, 3) := by decide +kernel
theorem dL_law_598 : decode code 598 = .ok (.iconst 0, 1) := by decide +kernel
theorem dL_law_599 : decode code 599 = .ok (.ireturn, 1) := by decide +kernel
theorem dL_law_600 : decode code 600 = .ok (.iload 5, 2) := by decide +kernel
theorem dL_law_602 : decode code 602 = .ok (.ifCond .ne 15, 3) := by decide +kernel
theorem dL_law_605 : decode code 605 = .ok (.aload_n 3, 1) := by decide +kernel
theorem dL_law_606 : decode code 606 = .ok (.iconst 0, 1) := by decide +kernel
theorem dL_law_607 : decode code 607 = .ok (.laload, 1) := by decide +kernel
theorem dL_law_608 : decode code 608 = .ok (.iload 6, 2) := by decide +kernel
theorem dL_law_610 : decode code 610 = .ok (.i2l, 1) := by decide +kernel
theorem dL_law_611 : decode code 611 = .ok (.lcmp, 1) := by decide +kernel
theorem dL_law_612 : decode code 612 = .ok (.ifCond .eq 5, 3) := by decide +kernel
theorem dL_law_615 : decode code 615 = .ok (.iconst 0, 1) := by decide +kernel
theorem dL_law_616 : decode code 616 = .ok (.ireturn, 1) := by decide +kernel
theorem dL_law_617 : decode code 617 = .ok (.goto 404, 3) := by decide +kernel
theorem dL_law_620 : decode code 620 = .ok (.aload_n 1, 1) := by decide +kernel
theorem dL_law_621 : decode code 621 = .ok (.aload_n 0, 1) := by decide +kernel
theorem dL_law_622 : decode code 622 = .ok (.iload 4, 2) := by decide +kernel
theorem dL_law_624 : decode code 624 = .ok (.iconst 1, 1) := by decide +kernel
theorem dL_law_625 : decode code 625 = .ok (.iadd, 1) := by decide +kernel
theorem dL_law_626 : decode code 626 = .ok (.iaload, 1) := by decide +kernel
theorem dL_law_627 : decode code 627 = .ok (.aload_n 0, 1) := by decide +kernel
theorem dL_law_628 : decode code 628 = .ok (.iload 4, 2) := by decide +kernel
theorem dL_law_630 : decode code 630 = .ok (.iconst 2, 1) := by decide +kernel
theorem dL_law_631 : decode code 631 = .ok (.iadd, 1) := by decide +kernel
theorem dL_law_632 : decode code 632 = .ok (.iaload, 1) := by decide +kernel
theorem dL_law_633 : decode code 633 = .ok (.invokestatic 108, 3) := by decide +kernel
theorem dL_law_636 : decode code 636 = .ok (.istore 5, 2) := by decide +kernel
theorem dL_law_638 : decode code 638 = .ok (.aload_n 2, 1) := by decide +kernel
theorem dL_law_639 : decode code 639 = .ok (.aload_n 0, 1) := by decide +kernel
theorem dL_law_640 : decode code 640 = .ok (.iload 4, 2) := by decide +kernel
theorem dL_law_642 : decode code 642 = .ok (.iconst 1, 1) := by decide +kernel
theorem dL_law_643 : decode code 643 = .ok (.iadd, 1) := by decide +kernel
theorem dL_law_644 : decode code 644 = .ok (.iaload, 1) := by decide +kernel
theorem dL_law_645 : decode code 645 = .ok (.aload_n 0, 1) := by decide +kernel
theorem dL_law_646 : decode code 646 = .ok (.iload 4, 2) := by decide +kernel
theorem dL_law_648 : decode code 648 = .ok (.iconst 2, 1) := by decide +kernel
theorem dL_law_649 : decode code 649 = .ok (.iadd, 1) := by decide +kernel
theorem dL_law_650 : decode code 650 = .ok (.iaload, 1) := by decide +kernel
theorem dL_law_651 : decode code 651 = .ok (.invokevirtual 110, 3) := by decide +kernel
theorem dL_law_654 : decode code 654 = .ok (.aload_n 2, 1) := by decide +kernel
theorem dL_law_655 : decode code 655 = .ok (.invokevirtual 81, 3) := by decide +kernel
theorem dL_law_658 : decode code 658 = .ok (.iload 5, 2) := by decide +kernel
theorem dL_law_660 : decode code 660 = .ok (.if_icmp .eq 5, 3) := by decide +kernel
theorem dL_law_663 : decode code 663 = .ok (.iconst 0, 1) := by decide +kernel
theorem dL_law_664 : decode code 664 = .ok (.ireturn, 1) := by decide +kernel
theorem dL_law_665 : decode code 665 = .ok (.goto 356, 3) := by decide +kernel
theorem dL_law_668 : decode code 668 = .ok (.aload_n 1, 1) := by decide +kernel
theorem dL_law_669 : decode code 669 = .ok (.aload_n 0, 1) := by decide +kernel
theorem dL_law_670 : decode code 670 = .ok (.iload 4, 2) := by decide +kernel
theorem dL_law_672 : decode code 672 = .ok (.iconst 1, 1) := by decide +kernel
theorem dL_law_673 : decode code 673 = .ok (.iadd, 1) := by decide +kernel
theorem dL_law_674 : decode code 674 = .ok (.iaload, 1) := by decide +kernel
theorem dL_law_675 : decode code 675 = .ok (.aload_n 0, 1) := by decide +kernel
theorem dL_law_676 : decode code 676 = .ok (.iload 4, 2) := by decide +kernel
theorem dL_law_678 : decode code 678 = .ok (.iconst 2, 1) := by decide +kernel
theorem dL_law_679 : decode code 679 = .ok (.iadd, 1) := by decide +kernel
theorem dL_law_680 : decode code 680 = .ok (.iaload, 1) := by decide +kernel
theorem dL_law_681 : decode code 681 = .ok (.aload_n 3, 1) := by decide +kernel
theorem dL_law_682 : decode code 682 = .ok (.invokestatic 111, 3) := by decide +kernel
theorem dL_law_685 : decode code 685 = .ok (.istore 5, 2) := by decide +kernel
theorem dL_law_687 : decode code 687 = .ok (.aload_n 2, 1) := by decide +kernel
theorem dL_law_688 : decode code 688 = .ok (.aload_n 0, 1) := by decide +kernel
theorem dL_law_689 : decode code 689 = .ok (.iload 4, 2) := by decide +kernel
theorem dL_law_691 : decode code 691 = .ok (.iconst 1, 1) := by decide +kernel
theorem dL_law_692 : decode code 692 = .ok (.iadd, 1) := by decide +kernel
theorem dL_law_693 : decode code 693 = .ok (.iaload, 1) := by decide +kernel
theorem dL_law_694 : decode code 694 = .ok (.aload_n 0, 1) := by decide +kernel
theorem dL_law_695 : decode code 695 = .ok (.iload 4, 2) := by decide +kernel
theorem dL_law_697 : decode code 697 = .ok (.iconst 2, 1) := by decide +kernel
theorem dL_law_698 : decode code 698 = .ok (.iadd, 1) := by decide +kernel
theorem dL_law_699 : decode code 699 = .ok (.iaload, 1) := by decide +kernel
theorem dL_law_700 : decode code 700 = .ok (.invokevirtual 113, 3) := by decide +kernel
theorem dL_law_703 : decode code 703 = .ok (.istore 6, 2) := by decide +kernel
theorem dL_law_705 : decode code 705 = .ok (.aload_n 2, 1) := by decide +kernel
theorem dL_law_706 : decode code 706 = .ok (.invokevirtual 81, 3) := by decide +kernel
theorem dL_law_709 : decode code 709 = .ok (.iload 5, 2) := by decide +kernel
theorem dL_law_711 : decode code 711 = .ok (.if_icmp .eq 5, 3) := by decide +kernel
theorem dL_law_714 : decode code 714 = .ok (.iconst 0, 1) := by decide +kernel
theorem dL_law_715 : decode code 715 = .ok (.ireturn, 1) := by decide +kernel
theorem dL_law_716 : decode code 716 = .ok (.iload 5, 2) := by decide +kernel
theorem dL_law_718 : decode code 718 = .ok (.ifCond .ne 15, 3) := by decide +kernel
theorem dL_law_721 : decode code 721 = .ok (.aload_n 3, 1) := by decide +kernel
theorem dL_law_722 : decode code 722 = .ok (.iconst 0, 1) := by decide +kernel
theorem dL_law_723 : decode code 723 = .ok (.laload, 1) := by decide +kernel
theorem dL_law_724 : decode code 724 = .ok (.iload 6, 2) := by decide +kernel
theorem dL_law_726 : decode code 726 = .ok (.i2l, 1) := by decide +kernel
theorem dL_law_727 : decode code 727 = .ok (.lcmp, 1) := by decide +kernel
theorem dL_law_728 : decode code 728 = .ok (.ifCond .eq 5, 3) := by decide +kernel
theorem dL_law_731 : decode code 731 = .ok (.iconst 0, 1) := by decide +kernel
theorem dL_law_732 : decode code 732 = .ok (.ireturn, 1) := by decide +kernel
theorem dL_law_733 : decode code 733 = .ok (.goto 288, 3) := by decide +kernel
theorem dL_law_736 : decode code 736 = .ok (.aload_n 1, 1) := by decide +kernel
theorem dL_law_737 : decode code 737 = .ok (.aload_n 0, 1) := by decide +kernel
theorem dL_law_738 : decode code 738 = .ok (.iload 4, 2) := by decide +kernel
theorem dL_law_740 : decode code 740 = .ok (.iconst 1, 1) := by decide +kernel
theorem dL_law_741 : decode code 741 = .ok (.iadd, 1) := by decide +kernel
theorem dL_law_742 : decode code 742 = .ok (.iaload, 1) := by decide +kernel
theorem dL_law_743 : decode code 743 = .ok (.aload_n 3, 1) := by decide +kernel
theorem dL_law_744 : decode code 744 = .ok (.invokestatic 114, 3) := by decide +kernel
theorem dL_law_747 : decode code 747 = .ok (.istore 5, 2) := by decide +kernel
theorem dL_law_749 : decode code 749 = .ok (.aload_n 2, 1) := by decide +kernel
theorem dL_law_750 : decode code 750 = .ok (.aload_n 0, 1) := by decide +kernel
theorem dL_law_751 : decode code 751 = .ok (.iload 4, 2) := by decide +kernel
theorem dL_law_753 : decode code 753 = .ok (.iconst 1, 1) := by decide +kernel
theorem dL_law_754 : decode code 754 = .ok (.iadd, 1) := by decide +kernel
theorem dL_law_755 : decode code 755 = .ok (.iaload, 1) := by decide +kernel
theorem dL_law_756 : decode code 756 = .ok (.invokevirtual 116, 3) := by decide +kernel
theorem dL_law_759 : decode code 759 = .ok (.istore 6, 2) := by decide +kernel
theorem dL_law_761 : decode code 761 = .ok (.aload_n 2, 1) := by decide +kernel
theorem dL_law_762 : decode code 762 = .ok (.invokevirtual 81, 3) := by decide +kernel
theorem dL_law_765 : decode code 765 = .ok (.iload 5, 2) := by decide +kernel
theorem dL_law_767 : decode code 767 = .ok (.if_icmp .eq 5, 3) := by decide +kernel
theorem dL_law_770 : decode code 770 = .ok (.iconst 0, 1) := by decide +kernel
theorem dL_law_771 : decode code 771 = .ok (.ireturn, 1) := by decide +kernel
theorem dL_law_772 : decode code 772 = .ok (.iload 5, 2) := by decide +kernel
theorem dL_law_774 : decode code 774 = .ok (.ifCond .ne 15, 3) := by decide +kernel
theorem dL_law_777 : decode code 777 = .ok (.aload_n 3, 1) := by decide +kernel
theorem dL_law_778 : decode code 778 = .ok (.iconst 0, 1) := by decide +kernel
theorem dL_law_779 : decode code 779 = .ok (.laload, 1) := by decide +kernel
theorem dL_law_780 : decode code 780 = .ok (.iload 6, 2) := by decide +kernel
theorem dL_law_782 : decode code 782 = .ok (.i2l, 1) := by decide +kernel
theorem dL_law_783 : decode code 783 = .ok (.lcmp, 1) := by decide +kernel
theorem dL_law_784 : decode code 784 = .ok (.ifCond .eq 5, 3) := by decide +kernel
theorem dL_law_787 : decode code 787 = .ok (.iconst 0, 1) := by decide +kernel
theorem dL_law_788 : decode code 788 = .ok (.ireturn, 1) := by decide +kernel
theorem dL_law_789 : decode code 789 = .ok (.goto 232, 3) := by decide +kernel
theorem dL_law_792 : decode code 792 = .ok (.aload_n 1, 1) := by decide +kernel
theorem dL_law_793 : decode code 793 = .ok (.aload_n 0, 1) := by decide +kernel
theorem dL_law_794 : decode code 794 = .ok (.iload 4, 2) := by decide +kernel
theorem dL_law_796 : decode code 796 = .ok (.iconst 1, 1) := by decide +kernel
theorem dL_law_797 : decode code 797 = .ok (.iadd, 1) := by decide +kernel
theorem dL_law_798 : decode code 798 = .ok (.iaload, 1) := by decide +kernel
theorem dL_law_799 : decode code 799 = .ok (.invokestatic 117, 3) := by decide +kernel
theorem dL_law_802 : decode code 802 = .ok (.istore 5, 2) := by decide +kernel
theorem dL_law_804 : decode code 804 = .ok (.aload_n 2, 1) := by decide +kernel
theorem dL_law_805 : decode code 805 = .ok (.aload_n 0, 1) := by decide +kernel
theorem dL_law_806 : decode code 806 = .ok (.iload 4, 2) := by decide +kernel
theorem dL_law_808 : decode code 808 = .ok (.iconst 1, 1) := by decide +kernel
theorem dL_law_809 : decode code 809 = .ok (.iadd, 1) := by decide +kernel
theorem dL_law_810 : decode code 810 = .ok (.iaload, 1) := by decide +kernel
theorem dL_law_811 : decode code 811 = .ok (.invokevirtual 120, 3) := by decide +kernel
theorem dL_law_814 : decode code 814 = .ok (.aload_n 2, 1) := by decide +kernel
theorem dL_law_815 : decode code 815 = .ok (.invokevirtual 81, 3) := by decide +kernel
theorem dL_law_818 : decode code 818 = .ok (.iload 5, 2) := by decide +kernel
theorem dL_law_820 : decode code 820 = .ok (.if_icmp .eq 5, 3) := by decide +kernel
theorem dL_law_823 : decode code 823 = .ok (.iconst 0, 1) := by decide +kernel
theorem dL_law_824 : decode code 824 = .ok (.ireturn, 1) := by decide +kernel
theorem dL_law_825 : decode code 825 = .ok (.goto 196, 3) := by decide +kernel
theorem dL_law_828 : decode code 828 = .ok (.aload_n 1, 1) := by decide +kernel
theorem dL_law_829 : decode code 829 = .ok (.aload_n 3, 1) := by decide +kernel
theorem dL_law_830 : decode code 830 = .ok (.invokestatic 121, 3) := by decide +kernel
theorem dL_law_833 : decode code 833 = .ok (.istore 5, 2) := by decide +kernel
theorem dL_law_835 : decode code 835 = .ok (.aload_n 2, 1) := by decide +kernel
theorem dL_law_836 : decode code 836 = .ok (.invokevirtual 124, 3) := by decide +kernel
theorem dL_law_839 : decode code 839 = .ok (.istore 6, 2) := by decide +kernel
theorem dL_law_841 : decode code 841 = .ok (.aload_n 2, 1) := by decide +kernel
theorem dL_law_842 : decode code 842 = .ok (.invokevirtual 81, 3) := by decide +kernel
theorem dL_law_845 : decode code 845 = .ok (.iload 5, 2) := by decide +kernel
theorem dL_law_847 : decode code 847 = .ok (.if_icmp .eq 5, 3) := by decide +kernel
theorem dL_law_850 : decode code 850 = .ok (.iconst 0, 1) := by decide +kernel
theorem dL_law_851 : decode code 851 = .ok (.ireturn, 1) := by decide +kernel
theorem dL_law_852 : decode code 852 = .ok (.iload 5, 2) := by decide +kernel
theorem dL_law_854 : decode code 854 = .ok (.ifCond .ne 15, 3) := by decide +kernel
theorem dL_law_857 : decode code 857 = .ok (.aload_n 3, 1) := by decide +kernel
theorem dL_law_858 : decode code 858 = .ok (.iconst 0, 1) := by decide +kernel
theorem dL_law_859 : decode code 859 = .ok (.laload, 1) := by decide +kernel
theorem dL_law_860 : decode code 860 = .ok (.iload 6, 2) := by decide +kernel
theorem dL_law_862 : decode code 862 = .ok (.i2l, 1) := by decide +kernel
theorem dL_law_863 : decode code 863 = .ok (.lcmp, 1) := by decide +kernel
theorem dL_law_864 : decode code 864 = .ok (.ifCond .eq 5, 3) := by decide +kernel
theorem dL_law_867 : decode code 867 = .ok (.iconst 0, 1) := by decide +kernel
theorem dL_law_868 : decode code 868 = .ok (.ireturn, 1) := by decide +kernel
theorem dL_law_869 : decode code 869 = .ok (.goto 152, 3) := by decide +kernel
theorem dL_law_872 : decode code 872 = .ok (.aload_n 1, 1) := by decide +kernel
theorem dL_law_873 : decode code 873 = .ok (.aload_n 0, 1) := by decide +kernel
theorem dL_law_874 : decode code 874 = .ok (.iload 4, 2) := by decide +kernel
theorem dL_law_876 : decode code 876 = .ok (.iconst 1, 1) := by decide +kernel
theorem dL_law_877 : decode code 877 = .ok (.iadd, 1) := by decide +kernel
theorem dL_law_878 : decode code 878 = .ok (.iaload, 1) := by decide +kernel
theorem dL_law_879 : decode code 879 = .ok (.aload_n 0, 1) := by decide +kernel
theorem dL_law_880 : decode code 880 = .ok (.iload 4, 2) := by decide +kernel
theorem dL_law_882 : decode code 882 = .ok (.iconst 2, 1) := by decide +kernel
theorem dL_law_883 : decode code 883 = .ok (.iadd, 1) := by decide +kernel
theorem dL_law_884 : decode code 884 = .ok (.iaload, 1) := by decide +kernel
theorem dL_law_885 : decode code 885 = .ok (.aload_n 3, 1) := by decide +kernel
theorem dL_law_886 : decode code 886 = .ok (.invokestatic 125, 3) := by decide +kernel
theorem dL_law_889 : decode code 889 = .ok (.istore 5, 2) := by decide +kernel
theorem dL_law_891 : decode code 891 = .ok (.aload_n 2, 1) := by decide +kernel
theorem dL_law_892 : decode code 892 = .ok (.aload_n 0, 1) := by decide +kernel
theorem dL_law_893 : decode code 893 = .ok (.iload 4, 2) := by decide +kernel
theorem dL_law_895 : decode code 895 = .ok (.iconst 1, 1) := by decide +kernel
theorem dL_law_896 : decode code 896 = .ok (.iadd, 1) := by decide +kernel
theorem dL_law_897 : decode code 897 = .ok (.iaload, 1) := by decide +kernel
theorem dL_law_898 : decode code 898 = .ok (.aload_n 0, 1) := by decide +kernel
theorem dL_law_899 : decode code 899 = .ok (.iload 4, 2) := by decide +kernel
theorem dL_law_901 : decode code 901 = .ok (.iconst 2, 1) := by decide +kernel
theorem dL_law_902 : decode code 902 = .ok (.iadd, 1) := by decide +kernel
theorem dL_law_903 : decode code 903 = .ok (.iaload, 1) := by decide +kernel
theorem dL_law_904 : decode code 904 = .ok (.invokevirtual 127, 3) := by decide +kernel
theorem dL_law_907 : decode code 907 = .ok (.istore 6, 2) := by decide +kernel
theorem dL_law_909 : decode code 909 = .ok (.aload_n 2, 1) := by decide +kernel
theorem dL_law_910 : decode code 910 = .ok (.invokevirtual 81, 3) := by decide +kernel
theorem dL_law_913 : decode code 913 = .ok (.iload 5, 2) := by decide +kernel
theorem dL_law_915 : decode code 915 = .ok (.if_icmp .eq 5, 3) := by decide +kernel
theorem dL_law_918 : decode code 918 = .ok (.iconst 0, 1) := by decide +kernel
theorem dL_law_919 : decode code 919 = .ok (.ireturn, 1) := by decide +kernel
theorem dL_law_920 : decode code 920 = .ok (.iload 5, 2) := by decide +kernel
theorem dL_law_922 : decode code 922 = .ok (.ifCond .ne 15, 3) := by decide +kernel
theorem dL_law_925 : decode code 925 = .ok (.aload_n 3, 1) := by decide +kernel
theorem dL_law_926 : decode code 926 = .ok (.iconst 0, 1) := by decide +kernel
theorem dL_law_927 : decode code 927 = .ok (.laload, 1) := by decide +kernel
theorem dL_law_928 : decode code 928 = .ok (.iload 6, 2) := by decide +kernel
theorem dL_law_930 : decode code 930 = .ok (.i2l, 1) := by decide +kernel
theorem dL_law_931 : decode code 931 = .ok (.lcmp, 1) := by decide +kernel
theorem dL_law_932 : decode code 932 = .ok (.ifCond .eq 5, 3) := by decide +kernel
theorem dL_law_935 : decode code 935 = .ok (.iconst 0, 1) := by decide +kernel
theorem dL_law_936 : decode code 936 = .ok (.ireturn, 1) := by decide +kernel
theorem dL_law_937 : decode code 937 = .ok (.goto 84, 3) := by decide +kernel
theorem dL_law_940 : decode code 940 = .ok (.aload_n 1, 1) := by decide +kernel
theorem dL_law_941 : decode code 941 = .ok (.aload_n 0, 1) := by decide +kernel
theorem dL_law_942 : decode code 942 = .ok (.iload 4, 2) := by decide +kernel
theorem dL_law_944 : decode code 944 = .ok (.iconst 1, 1) := by decide +kernel
theorem dL_law_945 : decode code 945 = .ok (.iadd, 1) := by decide +kernel
theorem dL_law_946 : decode code 946 = .ok (.iaload, 1) := by decide +kernel
theorem dL_law_947 : decode code 947 = .ok (.invokevirtual 128, 3) := by decide +kernel
theorem dL_law_950 : decode code 950 = .ok (.aload_n 2, 1) := by decide +kernel
theorem dL_law_951 : decode code 951 = .ok (.aload_n 0, 1) := by decide +kernel
theorem dL_law_952 : decode code 952 = .ok (.iload 4, 2) := by decide +kernel
theorem dL_law_954 : decode code 954 = .ok (.iconst 1, 1) := by decide +kernel
theorem dL_law_955 : decode code 955 = .ok (.iadd, 1) := by decide +kernel
theorem dL_law_956 : decode code 956 = .ok (.iaload, 1) := by decide +kernel
theorem dL_law_957 : decode code 957 = .ok (.invokevirtual 131, 3) := by decide +kernel
theorem dL_law_960 : decode code 960 = .ok (.if_icmp .eq 61, 3) := by decide +kernel
theorem dL_law_963 : decode code 963 = .ok (.iconst 0, 1) := by decide +kernel
theorem dL_law_964 : decode code 964 = .ok (.ireturn, 1) := by decide +kernel
theorem dL_law_965 : decode code 965 = .ok (.aload_n 1, 1) := by decide +kernel
theorem dL_law_966 : decode code 966 = .ok (.aload_n 0, 1) := by decide +kernel
theorem dL_law_967 : decode code 967 = .ok (.iload 4, 2) := by decide +kernel
theorem dL_law_969 : decode code 969 = .ok (.iconst 1, 1) := by decide +kernel
theorem dL_law_970 : decode code 970 = .ok (.iadd, 1) := by decide +kernel
theorem dL_law_971 : decode code 971 = .ok (.iaload, 1) := by decide +kernel
theorem dL_law_972 : decode code 972 = .ok (.aload_n 3, 1) := by decide +kernel
theorem dL_law_973 : decode code 973 = .ok (.invokestatic 132, 3) := by decide +kernel
theorem dL_law_976 : decode code 976 = .ok (.istore 5, 2) := by decide +kernel
theorem dL_law_978 : decode code 978 = .ok (.aload_n 2, 1) := by decide +kernel
theorem dL_law_979 : decode code 979 = .ok (.aload_n 0, 1) := by decide +kernel
theorem dL_law_980 : decode code 980 = .ok (.iload 4, 2) := by decide +kernel
theorem dL_law_982 : decode code 982 = .ok (.iconst 1, 1) := by decide +kernel
theorem dL_law_983 : decode code 983 = .ok (.iadd, 1) := by decide +kernel
theorem dL_law_984 : decode code 984 = .ok (.iaload, 1) := by decide +kernel
theorem dL_law_985 : decode code 985 = .ok (.invokevirtual 134, 3) := by decide +kernel
theorem dL_law_988 : decode code 988 = .ok (.istore 6, 2) := by decide +kernel
theorem dL_law_990 : decode code 990 = .ok (.aload_n 2, 1) := by decide +kernel
theorem dL_law_991 : decode code 991 = .ok (.invokevirtual 81, 3) := by decide +kernel
theorem dL_law_994 : decode code 994 = .ok (.iload 5, 2) := by decide +kernel
theorem dL_law_996 : decode code 996 = .ok (.if_icmp .eq 5, 3) := by decide +kernel
theorem dL_law_999 : decode code 999 = .ok (.iconst 0, 1) := by decide +kernel
theorem dL_law_1000 : decode code 1000 = .ok (.ireturn, 1) := by decide +kernel
theorem dL_law_1001 : decode code 1001 = .ok (.iload 5, 2) := by decide +kernel
theorem dL_law_1003 : decode code 1003 = .ok (.ifCond .ne 15, 3) := by decide +kernel
theorem dL_law_1006 : decode code 1006 = .ok (.aload_n 3, 1) := by decide +kernel
theorem dL_law_1007 : decode code 1007 = .ok (.iconst 0, 1) := by decide +kernel
theorem dL_law_1008 : decode code 1008 = .ok (.laload, 1) := by decide +kernel
theorem dL_law_1009 : decode code 1009 = .ok (.iload 6, 2) := by decide +kernel
theorem dL_law_1011 : decode code 1011 = .ok (.i2l, 1) := by decide +kernel
theorem dL_law_1012 : decode code 1012 = .ok (.lcmp, 1) := by decide +kernel
theorem dL_law_1013 : decode code 1013 = .ok (.ifCond .eq 5, 3) := by decide +kernel
theorem dL_law_1016 : decode code 1016 = .ok (.iconst 0, 1) := by decide +kernel
theorem dL_law_1017 : decode code 1017 = .ok (.ireturn, 1) := by decide +kernel
theorem dL_law_1018 : decode code 1018 = .ok (.goto 3, 3) := by decide +kernel
theorem dL_law_1021 : decode code 1021 = .ok (.iinc 4 4, 3) := by decide +kernel
theorem dL_law_1024 : decode code 1024 = .ok (.goto (-991), 3) := by decide +kernel
theorem dL_law_1027 : decode code 1027 = .ok (.iconst 1, 1) := by decide +kernel
theorem dL_law_1028 : decode code 1028 = .ok (.ireturn, 1) := by decide +kernel
