theorem dD_init_0 : decode cD_init 0 = .ok (.aload_n 0, 1) := by decide +kernel
theorem dD_init_1 : decode cD_init 1 = .ok (.invokespecial 1, 3) := by decide +kernel
theorem dD_init_4 : decode cD_init 4 = .ok (.aload_n 0, 1) := by decide +kernel
theorem dD_init_5 : decode cD_init 5 = .ok (.bipush 60, 2) := by decide +kernel
theorem dD_init_7 : decode cD_init 7 = .ok (.anewarray 9, 3) := by decide +kernel
theorem dD_init_10 : decode cD_init 10 = .ok (.putfield 11, 3) := by decide +kernel
theorem dD_init_13 : decode cD_init 13 = .ok (.bipush 6, 2) := by decide +kernel
theorem dD_init_15 : decode cD_init 15 = .ok (.iconst 1, 1) := by decide +kernel
theorem dD_init_16 : decode cD_init 16 = .ok (.bipush 10, 2) := by decide +kernel
theorem dD_init_18 : decode cD_init 18 = .ok (.iload_n 1, 1) := by decide +kernel
theorem dD_init_19 : decode cD_init 19 = .ok (.invokestatic 15, 3) := by decide +kernel
theorem dD_init_22 : decode cD_init 22 = .ok (.invokestatic 21, 3) := by decide +kernel
theorem dD_init_25 : decode cD_init 25 = .ok (.imul, 1) := by decide +kernel
theorem dD_init_26 : decode cD_init 26 = .ok (.istore_n 2, 1) := by decide +kernel
theorem dD_init_27 : decode cD_init 27 = .ok (.aload_n 0, 1) := by decide +kernel
theorem dD_init_28 : decode cD_init 28 = .ok (.new 24, 3) := by decide +kernel
theorem dD_init_31 : decode cD_init 31 = .ok (.dup, 1) := by decide +kernel
theorem dD_init_32 : decode cD_init 32 = .ok (.iload_n 2, 1) := by decide +kernel
theorem dD_init_33 : decode cD_init 33 = .ok (.invokespecial 26, 3) := by decide +kernel
theorem dD_init_36 : decode cD_init 36 = .ok (.putfield 29, 3) := by decide +kernel
theorem dD_init_39 : decode cD_init 39 = .ok (.aload_n 0, 1) := by decide +kernel
theorem dD_init_40 : decode cD_init 40 = .ok (.new 33, 3) := by decide +kernel
theorem dD_init_43 : decode cD_init 43 = .ok (.dup, 1) := by decide +kernel
theorem dD_init_44 : decode cD_init 44 = .ok (.iload_n 2, 1) := by decide +kernel
theorem dD_init_45 : decode cD_init 45 = .ok (.invokespecial 35, 3) := by decide +kernel
theorem dD_init_48 : decode cD_init 48 = .ok (.putfield 36, 3) := by decide +kernel
theorem dD_init_51 : decode cD_init 51 = .ok (.iconst 0, 1) := by decide +kernel
theorem dD_init_52 : decode cD_init 52 = .ok (.istore_n 3, 1) := by decide +kernel
theorem dD_init_53 : decode cD_init 53 = .ok (.iload_n 3, 1) := by decide +kernel
theorem dD_init_54 : decode cD_init 54 = .ok (.bipush 60, 2) := by decide +kernel
theorem dD_init_56 : decode cD_init 56 = .ok (.if_icmp .ge 23, 3) := by decide +kernel
theorem dD_init_59 : decode cD_init 59 = .ok (.aload_n 0, 1) := by decide +kernel
theorem dD_init_60 : decode cD_init 60 = .ok (.getfield 11, 3) := by decide +kernel
theorem dD_init_63 : decode cD_init 63 = .ok (.iload_n 3, 1) := by decide +kernel
theorem dD_init_64 : decode cD_init 64 = .ok (.new 9, 3) := by decide +kernel
theorem dD_init_67 : decode cD_init 67 = .ok (.dup, 1) := by decide +kernel
theorem dD_init_68 : decode cD_init 68 = .ok (.iload_n 3, 1) := by decide +kernel
theorem dD_init_69 : decode cD_init 69 = .ok (.invokespecial 40, 3) := by decide +kernel
theorem dD_init_72 : decode cD_init 72 = .ok (.aastore, 1) := by decide +kernel
theorem dD_init_73 : decode cD_init 73 = .ok (.iinc 3 1, 3) := by decide +kernel
theorem dD_init_76 : decode cD_init 76 = .ok (.goto (-23), 3) := by decide +kernel
theorem dD_init_79 : decode cD_init 79 = .ok (.return_, 1) := by decide +kernel
theorem dD_limit_0 : decode cD_limit 0 = .ok (.aload_n 0, 1) := by decide +kernel
theorem dD_limit_1 : decode cD_limit 1 = .ok (.iload_n 1, 1) := by decide +kernel
theorem dD_limit_2 : decode cD_limit 2 = .ok (.invokevirtual 41, 3) := by decide +kernel
theorem dD_limit_5 : decode cD_limit 5 = .ok (.aload_n 0, 1) := by decide +kernel
theorem dD_limit_6 : decode cD_limit 6 = .ok (.getfield 29, 3) := by decide +kernel
theorem dD_limit_9 : decode cD_limit 9 = .ok (.iload_n 1, 1) := by decide +kernel
theorem dD_limit_10 : decode cD_limit 10 = .ok (.iload_n 2, 1) := by decide +kernel
theorem dD_limit_11 : decode cD_limit 11 = .ok (.invokevirtual 44, 3) := by decide +kernel
theorem dD_limit_14 : decode cD_limit 14 = .ok (.ifCond .ne 13, 3) := by decide +kernel
theorem dD_limit_17 : decode cD_limit 17 = .ok (.new 48, 3) := by decide +kernel
theorem dD_limit_20 : decode cD_limit 20 = .ok (.dup, 1) := by decide +kernel
theorem dD_limit_21 : decode cD_limit 21 = .ok (.ldc 50, 2) := by decide +kernel
theorem dD_limit_23 : decode cD_limit 23 = .ok (.invokespecial 52, 3) := by decide +kernel
theorem dD_limit_26 : decode cD_limit 26 = .ok (.athrow, 1) := by decide +kernel
theorem dD_limit_27 : decode cD_limit 27 = .ok (.aload_n 0, 1) := by decide +kernel
theorem dD_limit_28 : decode cD_limit 28 = .ok (.invokevirtual 55, 3) := by decide +kernel
theorem dD_limit_31 : decode cD_limit 31 = .ok (.aload_n 0, 1) := by decide +kernel
theorem dD_limit_32 : decode cD_limit 32 = .ok (.getfield 29, 3) := by decide +kernel
theorem dD_limit_35 : decode cD_limit 35 = .ok (.getfield 58, 3) := by decide +kernel
theorem dD_limit_38 : decode cD_limit 38 = .ok (.iload_n 1, 1) := by decide +kernel
theorem dD_limit_39 : decode cD_limit 39 = .ok (.iload_n 2, 1) := by decide +kernel
theorem dD_limit_40 : decode cD_limit 40 = .ok (.iastore, 1) := by decide +kernel
theorem dD_limit_41 : decode cD_limit 41 = .ok (.aload_n 0, 1) := by decide +kernel
theorem dD_limit_42 : decode cD_limit 42 = .ok (.invokevirtual 62, 3) := by decide +kernel
theorem dD_limit_45 : decode cD_limit 45 = .ok (.return_, 1) := by decide +kernel
theorem dD_price_0 : decode cD_price 0 = .ok (.aload_n 0, 1) := by decide +kernel
theorem dD_price_1 : decode cD_price 1 = .ok (.iload_n 1, 1) := by decide +kernel
theorem dD_price_2 : decode cD_price 2 = .ok (.invokevirtual 41, 3) := by decide +kernel
theorem dD_price_5 : decode cD_price 5 = .ok (.iload_n 2, 1) := by decide +kernel
theorem dD_price_6 : decode cD_price 6 = .ok (.ifCond .lt 10, 3) := by decide +kernel
theorem dD_price_9 : decode cD_price 9 = .ok (.iload_n 2, 1) := by decide +kernel
theorem dD_price_10 : decode cD_price 10 = .ok (.sipush 9999, 3) := by decide +kernel
theorem dD_price_13 : decode cD_price 13 = .ok (.if_icmp .le 13, 3) := by decide +kernel
theorem dD_price_16 : decode cD_price 16 = .ok (.new 48, 3) := by decide +kernel
theorem dD_price_19 : decode cD_price 19 = .ok (.dup, 1) := by decide +kernel
theorem dD_price_20 : decode cD_price 20 = .ok (.ldc 65, 2) := by decide +kernel
theorem dD_price_22 : decode cD_price 22 = .ok (.invokespecial 52, 3) := by decide +kernel
theorem dD_price_25 : decode cD_price 25 = .ok (.athrow, 1) := by decide +kernel
theorem dD_price_26 : decode cD_price 26 = .ok (.aload_n 0, 1) := by decide +kernel
theorem dD_price_27 : decode cD_price 27 = .ok (.getfield 29, 3) := by decide +kernel
theorem dD_price_30 : decode cD_price 30 = .ok (.getfield 67, 3) := by decide +kernel
theorem dD_price_33 : decode cD_price 33 = .ok (.iload_n 1, 1) := by decide +kernel
theorem dD_price_34 : decode cD_price 34 = .ok (.iload_n 2, 1) := by decide +kernel
theorem dD_price_35 : decode cD_price 35 = .ok (.iastore, 1) := by decide +kernel
theorem dD_price_36 : decode cD_price 36 = .ok (.return_, 1) := by decide +kernel
theorem dD_room_0 : decode cD_room 0 = .ok (.aload_n 0, 1) := by decide +kernel
theorem dD_room_1 : decode cD_room 1 = .ok (.iload_n 1, 1) := by decide +kernel
theorem dD_room_2 : decode cD_room 2 = .ok (.invokevirtual 41, 3) := by decide +kernel
theorem dD_room_5 : decode cD_room 5 = .ok (.aload_n 0, 1) := by decide +kernel
theorem dD_room_6 : decode cD_room 6 = .ok (.getfield 29, 3) := by decide +kernel
theorem dD_room_9 : decode cD_room 9 = .ok (.iload_n 1, 1) := by decide +kernel
theorem dD_room_10 : decode cD_room 10 = .ok (.invokevirtual 70, 3) := by decide +kernel
theorem dD_room_13 : decode cD_room 13 = .ok (.ireturn, 1) := by decide +kernel
theorem dD_hold_0 : decode cD_hold 0 = .ok (.aload_n 0, 1) := by decide +kernel
theorem dD_hold_1 : decode cD_hold 1 = .ok (.iload_n 1, 1) := by decide +kernel
theorem dD_hold_2 : decode cD_hold 2 = .ok (.iload_n 2, 1) := by decide +kernel
theorem dD_hold_3 : decode cD_hold 3 = .ok (.iload_n 3, 1) := by decide +kernel
theorem dD_hold_4 : decode cD_hold 4 = .ok (.invokevirtual 74, 3) := by decide +kernel
theorem dD_hold_7 : decode cD_hold 7 = .ok (.aload_n 0, 1) := by decide +kernel
theorem dD_hold_8 : decode cD_hold 8 = .ok (.iload_n 1, 1) := by decide +kernel
theorem dD_hold_9 : decode cD_hold 9 = .ok (.iload_n 2, 1) := by decide +kernel
theorem dD_hold_10 : decode cD_hold 10 = .ok (.invokevirtual 78, 3) := by decide +kernel
theorem dD_hold_13 : decode cD_hold 13 = .ok (.aload_n 0, 1) := by decide +kernel
theorem dD_hold_14 : decode cD_hold 14 = .ok (.iload_n 1, 1) := by decide +kernel
theorem dD_hold_15 : decode cD_hold 15 = .ok (.iload_n 2, 1) := by decide +kernel
theorem dD_hold_16 : decode cD_hold 16 = .ok (.iload_n 3, 1) := by decide +kernel
theorem dD_hold_17 : decode cD_hold 17 = .ok (.invokevirtual 82, 3) := by decide +kernel
theorem dD_hold_20 : decode cD_hold 20 = .ok (.astore 4, 2) := by decide +kernel
theorem dD_hold_22 : decode cD_hold 22 = .ok (.aload_n 0, 1) := by decide +kernel
theorem dD_hold_23 : decode cD_hold 23 = .ok (.aload 4, 2) := by decide +kernel
theorem dD_hold_25 : decode cD_hold 25 = .ok (.invokevirtual 86, 3) := by decide +kernel
theorem dD_hold_28 : decode cD_hold 28 = .ok (.aload 4, 2) := by decide +kernel
theorem dD_hold_30 : decode cD_hold 30 = .ok (.getfield 90, 3) := by decide +kernel
theorem dD_hold_33 : decode cD_hold 33 = .ok (.ireturn, 1) := by decide +kernel
theorem dD_join_0 : decode cD_join 0 = .ok (.aload_n 0, 1) := by decide +kernel
theorem dD_join_1 : decode cD_join 1 = .ok (.iload_n 1, 1) := by decide +kernel
theorem dD_join_2 : decode cD_join 2 = .ok (.iload_n 2, 1) := by decide +kernel
theorem dD_join_3 : decode cD_join 3 = .ok (.iload_n 3, 1) := by decide +kernel
theorem dD_join_4 : decode cD_join 4 = .ok (.invokevirtual 74, 3) := by decide +kernel
theorem dD_join_7 : decode cD_join 7 = .ok (.aload_n 0, 1) := by decide +kernel
theorem dD_join_8 : decode cD_join 8 = .ok (.iload_n 1, 1) := by decide +kernel
theorem dD_join_9 : decode cD_join 9 = .ok (.iload_n 2, 1) := by decide +kernel
theorem dD_join_10 : decode cD_join 10 = .ok (.iload_n 3, 1) := by decide +kernel
theorem dD_join_11 : decode cD_join 11 = .ok (.invokevirtual 82, 3) := by decide +kernel
theorem dD_join_14 : decode cD_join 14 = .ok (.astore 4, 2) := by decide +kernel
theorem dD_join_16 : decode cD_join 16 = .ok (.aload 4, 2) := by decide +kernel
theorem dD_join_18 : decode cD_join 18 = .ok (.iconst 3, 1) := by decide +kernel
theorem dD_join_19 : decode cD_join 19 = .ok (.putfield 94, 3) := by decide +kernel
theorem dD_join_22 : decode cD_join 22 = .ok (.aload_n 0, 1) := by decide +kernel
theorem dD_join_23 : decode cD_join 23 = .ok (.invokevirtual 62, 3) := by decide +kernel
theorem dD_join_26 : decode cD_join 26 = .ok (.aload 4, 2) := by decide +kernel
theorem dD_join_28 : decode cD_join 28 = .ok (.getfield 90, 3) := by decide +kernel
theorem dD_join_31 : decode cD_join 31 = .ok (.ireturn, 1) := by decide +kernel
theorem dD_confirm_0 : decode cD_confirm 0 = .ok (.aload_n 0, 1) := by decide +kernel
theorem dD_confirm_1 : decode cD_confirm 1 = .ok (.iload_n 1, 1) := by decide +kernel
theorem dD_confirm_2 : decode cD_confirm 2 = .ok (.invokevirtual 97, 3) := by decide +kernel
theorem dD_confirm_5 : decode cD_confirm 5 = .ok (.astore_n 2, 1) := by decide +kernel
theorem dD_confirm_6 : decode cD_confirm 6 = .ok (.aload_n 2, 1) := by decide +kernel
theorem dD_confirm_7 : decode cD_confirm 7 = .ok (.getfield 94, 3) := by decide +kernel
theorem dD_confirm_10 : decode cD_confirm 10 = .ok (.iconst 1, 1) := by decide +kernel
theorem dD_confirm_11 : decode cD_confirm 11 = .ok (.if_icmp .eq 13, 3) := by decide +kernel
theorem dD_confirm_14 : decode cD_confirm 14 = .ok (.new 101, 3) := by decide +kernel
theorem dD_confirm_17 : decode cD_confirm 17 = .ok (.dup, 1) := by decide +kernel
theorem dD_confirm_18 : decode cD_confirm 18 = .ok (.ldc 103, 2) := by decide +kernel
theorem dD_confirm_20 : decode cD_confirm 20 = .ok (.invokespecial 105, 3) := by decide +kernel
theorem dD_confirm_23 : decode cD_confirm 23 = .ok (.athrow, 1) := by decide +kernel
theorem dD_confirm_24 : decode cD_confirm 24 = .ok (.aload_n 2, 1) := by decide +kernel
theorem dD_confirm_25 : decode cD_confirm 25 = .ok (.iconst 2, 1) := by decide +kernel
theorem dD_confirm_26 : decode cD_confirm 26 = .ok (.putfield 94, 3) := by decide +kernel
theorem dD_confirm_29 : decode cD_confirm 29 = .ok (.aload_n 2, 1) := by decide +kernel
theorem dD_confirm_30 : decode cD_confirm 30 = .ok (.aload_n 2, 1) := by decide +kernel
theorem dD_confirm_31 : decode cD_confirm 31 = .ok (.getfield 106, 3) := by decide +kernel
theorem dD_confirm_34 : decode cD_confirm 34 = .ok (.aload_n 0, 1) := by decide +kernel
theorem dD_confirm_35 : decode cD_confirm 35 = .ok (.getfield 29, 3) := by decide +kernel
theorem dD_confirm_38 : decode cD_confirm 38 = .ok (.getfield 67, 3) := by decide +kernel
theorem dD_confirm_41 : decode cD_confirm 41 = .ok (.aload_n 2, 1) := by decide +kernel
theorem dD_confirm_42 : decode cD_confirm 42 = .ok (.getfield 109, 3) := by decide +kernel
theorem dD_confirm_45 : decode cD_confirm 45 = .ok (.iaload, 1) := by decide +kernel
theorem dD_confirm_46 : decode cD_confirm 46 = .ok (.imul, 1) := by decide +kernel
theorem dD_confirm_47 : decode cD_confirm 47 = .ok (.putfield 112, 3) := by decide +kernel
theorem dD_confirm_50 : decode cD_confirm 50 = .ok (.aload_n 0, 1) := by decide +kernel
theorem dD_confirm_51 : decode cD_confirm 51 = .ok (.dup, 1) := by decide +kernel
theorem dD_confirm_52 : decode cD_confirm 52 = .ok (.getfield 115, 3) := by decide +kernel
theorem dD_confirm_55 : decode cD_confirm 55 = .ok (.aload_n 2, 1) := by decide +kernel
theorem dD_confirm_56 : decode cD_confirm 56 = .ok (.getfield 112, 3) := by decide +kernel
theorem dD_confirm_59 : decode cD_confirm 59 = .ok (.iadd, 1) := by decide +kernel
theorem dD_confirm_60 : decode cD_confirm 60 = .ok (.putfield 115, 3) := by decide +kernel
theorem dD_confirm_63 : decode cD_confirm 63 = .ok (.aload_n 2, 1) := by decide +kernel
theorem dD_confirm_64 : decode cD_confirm 64 = .ok (.getfield 112, 3) := by decide +kernel
theorem dD_confirm_67 : decode cD_confirm 67 = .ok (.ireturn, 1) := by decide +kernel
theorem dD_cancel_0 : decode cD_cancel 0 = .ok (.aload_n 0, 1) := by decide +kernel
theorem dD_cancel_1 : decode cD_cancel 1 = .ok (.iload_n 1, 1) := by decide +kernel
theorem dD_cancel_2 : decode cD_cancel 2 = .ok (.invokevirtual 97, 3) := by decide +kernel
theorem dD_cancel_5 : decode cD_cancel 5 = .ok (.astore_n 2, 1) := by decide +kernel
theorem dD_cancel_6 : decode cD_cancel 6 = .ok (.aload_n 0, 1) := by decide +kernel
theorem dD_cancel_7 : decode cD_cancel 7 = .ok (.aload_n 2, 1) := by decide +kernel
theorem dD_cancel_8 : decode cD_cancel 8 = .ok (.invokevirtual 118, 3) := by decide +kernel
theorem dD_cancel_11 : decode cD_cancel 11 = .ok (.aload_n 0, 1) := by decide +kernel
theorem dD_cancel_12 : decode cD_cancel 12 = .ok (.aload_n 2, 1) := by decide +kernel
theorem dD_cancel_13 : decode cD_cancel 13 = .ok (.aload_n 2, 1) := by decide +kernel
theorem dD_cancel_14 : decode cD_cancel 14 = .ok (.getfield 106, 3) := by decide +kernel
theorem dD_cancel_17 : decode cD_cancel 17 = .ok (.invokevirtual 121, 3) := by decide +kernel
theorem dD_cancel_20 : decode cD_cancel 20 = .ok (.istore_n 3, 1) := by decide +kernel
theorem dD_cancel_21 : decode cD_cancel 21 = .ok (.aload_n 0, 1) := by decide +kernel
theorem dD_cancel_22 : decode cD_cancel 22 = .ok (.aload_n 2, 1) := by decide +kernel
theorem dD_cancel_23 : decode cD_cancel 23 = .ok (.iconst 4, 1) := by decide +kernel
theorem dD_cancel_24 : decode cD_cancel 24 = .ok (.invokevirtual 125, 3) := by decide +kernel
theorem dD_cancel_27 : decode cD_cancel 27 = .ok (.aload_n 0, 1) := by decide +kernel
theorem dD_cancel_28 : decode cD_cancel 28 = .ok (.invokevirtual 62, 3) := by decide +kernel
theorem dD_cancel_31 : decode cD_cancel 31 = .ok (.iload_n 3, 1) := by decide +kernel
theorem dD_cancel_32 : decode cD_cancel 32 = .ok (.ireturn, 1) := by decide +kernel
theorem dD_shrink_0 : decode cD_shrink 0 = .ok (.aload_n 0, 1) := by decide +kernel
theorem dD_shrink_1 : decode cD_shrink 1 = .ok (.iload_n 1, 1) := by decide +kernel
theorem dD_shrink_2 : decode cD_shrink 2 = .ok (.invokevirtual 97, 3) := by decide +kernel
theorem dD_shrink_5 : decode cD_shrink 5 = .ok (.astore_n 3, 1) := by decide +kernel
theorem dD_shrink_6 : decode cD_shrink 6 = .ok (.iload_n 2, 1) := by decide +kernel
theorem dD_shrink_7 : decode cD_shrink 7 = .ok (.iconst 1, 1) := by decide +kernel
theorem dD_shrink_8 : decode cD_shrink 8 = .ok (.if_icmp .lt 11, 3) := by decide +kernel
theorem dD_shrink_11 : decode cD_shrink 11 = .ok (.iload_n 2, 1) := by decide +kernel
theorem dD_shrink_12 : decode cD_shrink 12 = .ok (.aload_n 3, 1) := by decide +kernel
theorem dD_shrink_13 : decode cD_shrink 13 = .ok (.getfield 106, 3) := by decide +kernel
theorem dD_shrink_16 : decode cD_shrink 16 = .ok (.if_icmp .lt 13, 3) := by decide +kernel
theorem dD_shrink_19 : decode cD_shrink 19 = .ok (.new 48, 3) := by decide +kernel
theorem dD_shrink_22 : decode cD_shrink 22 = .ok (.dup, 1) := by decide +kernel
theorem dD_shrink_23 : decode cD_shrink 23 = .ok (.ldc 129, 2) := by decide +kernel
theorem dD_shrink_25 : decode cD_shrink 25 = .ok (.invokespecial 52, 3) := by decide +kernel
theorem dD_shrink_28 : decode cD_shrink 28 = .ok (.athrow, 1) := by decide +kernel
theorem dD_shrink_29 : decode cD_shrink 29 = .ok (.aload_n 0, 1) := by decide +kernel
theorem dD_shrink_30 : decode cD_shrink 30 = .ok (.aload_n 3, 1) := by decide +kernel
theorem dD_shrink_31 : decode cD_shrink 31 = .ok (.invokevirtual 118, 3) := by decide +kernel
theorem dD_shrink_34 : decode cD_shrink 34 = .ok (.aload_n 0, 1) := by decide +kernel
theorem dD_shrink_35 : decode cD_shrink 35 = .ok (.aload_n 3, 1) := by decide +kernel
theorem dD_shrink_36 : decode cD_shrink 36 = .ok (.iload_n 2, 1) := by decide +kernel
theorem dD_shrink_37 : decode cD_shrink 37 = .ok (.invokevirtual 121, 3) := by decide +kernel
theorem dD_shrink_40 : decode cD_shrink 40 = .ok (.istore 4, 2) := by decide +kernel
theorem dD_shrink_42 : decode cD_shrink 42 = .ok (.aload_n 3, 1) := by decide +kernel
theorem dD_shrink_43 : decode cD_shrink 43 = .ok (.invokevirtual 131, 3) := by decide +kernel
theorem dD_shrink_46 : decode cD_shrink 46 = .ok (.ifCond .eq 19, 3) := by decide +kernel
theorem dD_shrink_49 : decode cD_shrink 49 = .ok (.aload_n 0, 1) := by decide +kernel
theorem dD_shrink_50 : decode cD_shrink 50 = .ok (.getfield 29, 3) := by decide +kernel
theorem dD_shrink_53 : decode cD_shrink 53 = .ok (.getfield 135, 3) := by decide +kernel
theorem dD_shrink_56 : decode cD_shrink 56 = .ok (.aload_n 3, 1) := by decide +kernel
theorem dD_shrink_57 : decode cD_shrink 57 = .ok (.getfield 109, 3) := by decide +kernel
theorem dD_shrink_60 : decode cD_shrink 60 = .ok (.dup2, 1) := by decide +kernel
theorem dD_shrink_61 : decode cD_shrink 61 = .ok (.iaload, 1) := by decide +kernel
theorem dD_shrink_62 : decode cD_shrink 62 = .ok (.iload_n 2, 1) := by decide +kernel
theorem dD_shrink_63 : decode cD_shrink 63 = .ok (.isub, 1) := by decide +kernel
theorem dD_shrink_64 : decode cD_shrink 64 = .ok (.iastore, 1) := by decide +kernel
theorem dD_shrink_65 : decode cD_shrink 65 = .ok (.aload_n 3, 1) := by decide +kernel
theorem dD_shrink_66 : decode cD_shrink 66 = .ok (.dup, 1) := by decide +kernel
theorem dD_shrink_67 : decode cD_shrink 67 = .ok (.getfield 106, 3) := by decide +kernel
theorem dD_shrink_70 : decode cD_shrink 70 = .ok (.iload_n 2, 1) := by decide +kernel
theorem dD_shrink_71 : decode cD_shrink 71 = .ok (.isub, 1) := by decide +kernel
theorem dD_shrink_72 : decode cD_shrink 72 = .ok (.putfield 106, 3) := by decide +kernel
theorem dD_shrink_75 : decode cD_shrink 75 = .ok (.aload_n 0, 1) := by decide +kernel
theorem dD_shrink_76 : decode cD_shrink 76 = .ok (.getfield 36, 3) := by decide +kernel
theorem dD_shrink_79 : decode cD_shrink 79 = .ok (.aload_n 3, 1) := by decide +kernel
theorem dD_shrink_80 : decode cD_shrink 80 = .ok (.aload_n 3, 1) := by decide +kernel
theorem dD_shrink_81 : decode cD_shrink 81 = .ok (.getfield 106, 3) := by decide +kernel
theorem dD_shrink_84 : decode cD_shrink 84 = .ok (.invokevirtual 138, 3) := by decide +kernel
theorem dD_shrink_87 : decode cD_shrink 87 = .ok (.aload_n 0, 1) := by decide +kernel
theorem dD_shrink_88 : decode cD_shrink 88 = .ok (.invokevirtual 62, 3) := by decide +kernel
theorem dD_shrink_91 : decode cD_shrink 91 = .ok (.iload 4, 2) := by decide +kernel
theorem dD_shrink_93 : decode cD_shrink 93 = .ok (.ireturn, 1) := by decide +kernel
theorem dD_change_0 : decode cD_change 0 = .ok (.aload_n 0, 1) := by decide +kernel
theorem dD_change_1 : decode cD_change 1 = .ok (.iload_n 1, 1) := by decide +kernel
theorem dD_change_2 : decode cD_change 2 = .ok (.invokevirtual 97, 3) := by decide +kernel
theorem dD_change_5 : decode cD_change 5 = .ok (.astore_n 3, 1) := by decide +kernel
theorem dD_change_6 : decode cD_change 6 = .ok (.aload_n 0, 1) := by decide +kernel
theorem dD_change_7 : decode cD_change 7 = .ok (.iload_n 2, 1) := by decide +kernel
theorem dD_change_8 : decode cD_change 8 = .ok (.invokevirtual 41, 3) := by decide +kernel
theorem dD_change_11 : decode cD_change 11 = .ok (.aload_n 3, 1) := by decide +kernel
theorem dD_change_12 : decode cD_change 12 = .ok (.invokevirtual 131, 3) := by decide +kernel
theorem dD_change_15 : decode cD_change 15 = .ok (.ifCond .ne 13, 3) := by decide +kernel
theorem dD_change_18 : decode cD_change 18 = .ok (.new 101, 3) := by decide +kernel
theorem dD_change_21 : decode cD_change 21 = .ok (.dup, 1) := by decide +kernel
theorem dD_change_22 : decode cD_change 22 = .ok (.ldc 141, 2) := by decide +kernel
theorem dD_change_24 : decode cD_change 24 = .ok (.invokespecial 105, 3) := by decide +kernel
theorem dD_change_27 : decode cD_change 27 = .ok (.athrow, 1) := by decide +kernel
theorem dD_change_28 : decode cD_change 28 = .ok (.aload_n 0, 1) := by decide +kernel
theorem dD_change_29 : decode cD_change 29 = .ok (.getfield 29, 3) := by decide +kernel
theorem dD_change_32 : decode cD_change 32 = .ok (.aload_n 3, 1) := by decide +kernel
theorem dD_change_33 : decode cD_change 33 = .ok (.iload_n 2, 1) := by decide +kernel
theorem dD_change_34 : decode cD_change 34 = .ok (.invokevirtual 143, 3) := by decide +kernel
theorem dD_change_37 : decode cD_change 37 = .ok (.aload_n 3, 1) := by decide +kernel
theorem dD_change_38 : decode cD_change 38 = .ok (.getfield 106, 3) := by decide +kernel
theorem dD_change_41 : decode cD_change 41 = .ok (.if_icmp .ge 13, 3) := by decide +kernel
theorem dD_change_44 : decode cD_change 44 = .ok (.new 146, 3) := by decide +kernel
theorem dD_change_47 : decode cD_change 47 = .ok (.dup, 1) := by decide +kernel
theorem dD_change_48 : decode cD_change 48 = .ok (.ldc 148, 2) := by decide +kernel
theorem dD_change_50 : decode cD_change 50 = .ok (.invokespecial 150, 3) := by decide +kernel
theorem dD_change_53 : decode cD_change 53 = .ok (.athrow, 1) := by decide +kernel
theorem dD_change_54 : decode cD_change 54 = .ok (.aload_n 0, 1) := by decide +kernel
theorem dD_change_55 : decode cD_change 55 = .ok (.getfield 29, 3) := by decide +kernel
theorem dD_change_58 : decode cD_change 58 = .ok (.getfield 135, 3) := by decide +kernel
theorem dD_change_61 : decode cD_change 61 = .ok (.aload_n 3, 1) := by decide +kernel
theorem dD_change_62 : decode cD_change 62 = .ok (.getfield 109, 3) := by decide +kernel
theorem dD_change_65 : decode cD_change 65 = .ok (.dup2, 1) := by decide +kernel
theorem dD_change_66 : decode cD_change 66 = .ok (.iaload, 1) := by decide +kernel
theorem dD_change_67 : decode cD_change 67 = .ok (.aload_n 3, 1) := by decide +kernel
theorem dD_change_68 : decode cD_change 68 = .ok (.getfield 106, 3) := by decide +kernel
theorem dD_change_71 : decode cD_change 71 = .ok (.isub, 1) := by decide +kernel
theorem dD_change_72 : decode cD_change 72 = .ok (.iastore, 1) := by decide +kernel
theorem dD_change_73 : decode cD_change 73 = .ok (.aload_n 0, 1) := by decide +kernel
theorem dD_change_74 : decode cD_change 74 = .ok (.getfield 29, 3) := by decide +kernel
theorem dD_change_77 : decode cD_change 77 = .ok (.getfield 135, 3) := by decide +kernel
theorem dD_change_80 : decode cD_change 80 = .ok (.iload_n 2, 1) := by decide +kernel
theorem dD_change_81 : decode cD_change 81 = .ok (.dup2, 1) := by decide +kernel
theorem dD_change_82 : decode cD_change 82 = .ok (.iaload, 1) := by decide +kernel
theorem dD_change_83 : decode cD_change 83 = .ok (.aload_n 3, 1) := by decide +kernel
theorem dD_change_84 : decode cD_change 84 = .ok (.getfield 106, 3) := by decide +kernel
theorem dD_change_87 : decode cD_change 87 = .ok (.iadd, 1) := by decide +kernel
theorem dD_change_88 : decode cD_change 88 = .ok (.iastore, 1) := by decide +kernel
theorem dD_change_89 : decode cD_change 89 = .ok (.aload_n 3, 1) := by decide +kernel
theorem dD_change_90 : decode cD_change 90 = .ok (.iload_n 2, 1) := by decide +kernel
theorem dD_change_91 : decode cD_change 91 = .ok (.putfield 109, 3) := by decide +kernel
theorem dD_change_94 : decode cD_change 94 = .ok (.aload_n 0, 1) := by decide +kernel
theorem dD_change_95 : decode cD_change 95 = .ok (.invokevirtual 62, 3) := by decide +kernel
theorem dD_change_98 : decode cD_change 98 = .ok (.return_, 1) := by decide +kernel
theorem dD_seat_0 : decode cD_seat 0 = .ok (.aload_n 0, 1) := by decide +kernel
theorem dD_seat_1 : decode cD_seat 1 = .ok (.iload_n 1, 1) := by decide +kernel
theorem dD_seat_2 : decode cD_seat 2 = .ok (.invokevirtual 97, 3) := by decide +kernel
theorem dD_seat_5 : decode cD_seat 5 = .ok (.astore_n 3, 1) := by decide +kernel
theorem dD_seat_6 : decode cD_seat 6 = .ok (.aload_n 0, 1) := by decide +kernel
theorem dD_seat_7 : decode cD_seat 7 = .ok (.getfield 36, 3) := by decide +kernel
theorem dD_seat_10 : decode cD_seat 10 = .ok (.iload_n 2, 1) := by decide +kernel
theorem dD_seat_11 : decode cD_seat 11 = .ok (.invokevirtual 151, 3) := by decide +kernel
theorem dD_seat_14 : decode cD_seat 14 = .ok (.ifCond .ne 13, 3) := by decide +kernel
theorem dD_seat_17 : decode cD_seat 17 = .ok (.new 48, 3) := by decide +kernel
theorem dD_seat_20 : decode cD_seat 20 = .ok (.dup, 1) := by decide +kernel
theorem dD_seat_21 : decode cD_seat 21 = .ok (.ldc 155, 2) := by decide +kernel
theorem dD_seat_23 : decode cD_seat 23 = .ok (.invokespecial 52, 3) := by decide +kernel
theorem dD_seat_26 : decode cD_seat 26 = .ok (.athrow, 1) := by decide +kernel
theorem dD_seat_27 : decode cD_seat 27 = .ok (.aload_n 0, 1) := by decide +kernel
theorem dD_seat_28 : decode cD_seat 28 = .ok (.aload_n 3, 1) := by decide +kernel
theorem dD_seat_29 : decode cD_seat 29 = .ok (.invokevirtual 157, 3) := by decide +kernel
theorem dD_seat_32 : decode cD_seat 32 = .ok (.aload_n 0, 1) := by decide +kernel
theorem dD_seat_33 : decode cD_seat 33 = .ok (.getfield 36, 3) := by decide +kernel
theorem dD_seat_36 : decode cD_seat 36 = .ok (.iload_n 2, 1) := by decide +kernel
theorem dD_seat_37 : decode cD_seat 37 = .ok (.invokevirtual 160, 3) := by decide +kernel
theorem dD_seat_40 : decode cD_seat 40 = .ok (.ifCond .ne 13, 3) := by decide +kernel
theorem dD_seat_43 : decode cD_seat 43 = .ok (.new 146, 3) := by decide +kernel
theorem dD_seat_46 : decode cD_seat 46 = .ok (.dup, 1) := by decide +kernel
theorem dD_seat_47 : decode cD_seat 47 = .ok (.ldc 163, 2) := by decide +kernel
theorem dD_seat_49 : decode cD_seat 49 = .ok (.invokespecial 150, 3) := by decide +kernel
theorem dD_seat_52 : decode cD_seat 52 = .ok (.athrow, 1) := by decide +kernel
theorem dD_seat_53 : decode cD_seat 53 = .ok (.aload_n 0, 1) := by decide +kernel
theorem dD_seat_54 : decode cD_seat 54 = .ok (.getfield 36, 3) := by decide +kernel
theorem dD_seat_57 : decode cD_seat 57 = .ok (.aload_n 3, 1) := by decide +kernel
theorem dD_seat_58 : decode cD_seat 58 = .ok (.iload_n 2, 1) := by decide +kernel
theorem dD_seat_59 : decode cD_seat 59 = .ok (.invokevirtual 165, 3) := by decide +kernel
theorem dD_seat_62 : decode cD_seat 62 = .ok (.aload_n 3, 1) := by decide +kernel
theorem dD_seat_63 : decode cD_seat 63 = .ok (.getfield 168, 3) := by decide +kernel
theorem dD_seat_66 : decode cD_seat 66 = .ok (.ireturn, 1) := by decide +kernel
theorem dD_together_0 : decode cD_together 0 = .ok (.aload_n 0, 1) := by decide +kernel
theorem dD_together_1 : decode cD_together 1 = .ok (.iload_n 1, 1) := by decide +kernel
theorem dD_together_2 : decode cD_together 2 = .ok (.invokevirtual 97, 3) := by decide +kernel
theorem dD_together_5 : decode cD_together 5 = .ok (.astore_n 2, 1) := by decide +kernel
theorem dD_together_6 : decode cD_together 6 = .ok (.aload_n 0, 1) := by decide +kernel
theorem dD_together_7 : decode cD_together 7 = .ok (.aload_n 2, 1) := by decide +kernel
theorem dD_together_8 : decode cD_together 8 = .ok (.invokevirtual 157, 3) := by decide +kernel
theorem dD_together_11 : decode cD_together 11 = .ok (.aload_n 0, 1) := by decide +kernel
theorem dD_together_12 : decode cD_together 12 = .ok (.getfield 36, 3) := by decide +kernel
theorem dD_together_15 : decode cD_together 15 = .ok (.getfield 171, 3) := by decide +kernel
theorem dD_together_18 : decode cD_together 18 = .ok (.aload_n 2, 1) := by decide +kernel
theorem dD_together_19 : decode cD_together 19 = .ok (.invokevirtual 174, 3) := by decide +kernel
theorem dD_together_22 : decode cD_together 22 = .ok (.if_icmp .ge 13, 3) := by decide +kernel
theorem dD_together_25 : decode cD_together 25 = .ok (.new 146, 3) := by decide +kernel
theorem dD_together_28 : decode cD_together 28 = .ok (.dup, 1) := by decide +kernel
theorem dD_together_29 : decode cD_together 29 = .ok (.ldc 178, 2) := by decide +kernel
theorem dD_together_31 : decode cD_together 31 = .ok (.invokespecial 150, 3) := by decide +kernel
theorem dD_together_34 : decode cD_together 34 = .ok (.athrow, 1) := by decide +kernel
theorem dD_together_35 : decode cD_together 35 = .ok (.aload_n 0, 1) := by decide +kernel
theorem dD_together_36 : decode cD_together 36 = .ok (.getfield 36, 3) := by decide +kernel
theorem dD_together_39 : decode cD_together 39 = .ok (.aload_n 2, 1) := by decide +kernel
theorem dD_together_40 : decode cD_together 40 = .ok (.invokevirtual 174, 3) := by decide +kernel
theorem dD_together_43 : decode cD_together 43 = .ok (.invokevirtual 180, 3) := by decide +kernel
theorem dD_together_46 : decode cD_together 46 = .ok (.istore_n 3, 1) := by decide +kernel
theorem dD_together_47 : decode cD_together 47 = .ok (.aload_n 0, 1) := by decide +kernel
theorem dD_together_48 : decode cD_together 48 = .ok (.getfield 36, 3) := by decide +kernel
theorem dD_together_51 : decode cD_together 51 = .ok (.aload_n 2, 1) := by decide +kernel
theorem dD_together_52 : decode cD_together 52 = .ok (.iload_n 3, 1) := by decide +kernel
theorem dD_together_53 : decode cD_together 53 = .ok (.invokevirtual 183, 3) := by decide +kernel
theorem dD_together_56 : decode cD_together 56 = .ok (.iload_n 3, 1) := by decide +kernel
theorem dD_together_57 : decode cD_together 57 = .ok (.ireturn, 1) := by decide +kernel
theorem dD_tick_0 : decode cD_tick 0 = .ok (.iload_n 1, 1) := by decide +kernel
theorem dD_tick_1 : decode cD_tick 1 = .ok (.iconst 1, 1) := by decide +kernel
theorem dD_tick_2 : decode cD_tick 2 = .ok (.if_icmp .lt 9, 3) := by decide +kernel
theorem dD_tick_5 : decode cD_tick 5 = .ok (.iload_n 1, 1) := by decide +kernel
theorem dD_tick_6 : decode cD_tick 6 = .ok (.bipush 100, 2) := by decide +kernel
theorem dD_tick_8 : decode cD_tick 8 = .ok (.if_icmp .le 13, 3) := by decide +kernel
theorem dD_tick_11 : decode cD_tick 11 = .ok (.new 48, 3) := by decide +kernel
theorem dD_tick_14 : decode cD_tick 14 = .ok (.dup, 1) := by decide +kernel
theorem dD_tick_15 : decode cD_tick 15 = .ok (.ldc 186, 2) := by decide +kernel
theorem dD_tick_17 : decode cD_tick 17 = .ok (.invokespecial 52, 3) := by decide +kernel
theorem dD_tick_20 : decode cD_tick 20 = .ok (.athrow, 1) := by decide +kernel
theorem dD_tick_21 : decode cD_tick 21 = .ok (.iconst 0, 1) := by decide +kernel
theorem dD_tick_22 : decode cD_tick 22 = .ok (.istore_n 2, 1) := by decide +kernel
theorem dD_tick_23 : decode cD_tick 23 = .ok (.iload_n 2, 1) := by decide +kernel
theorem dD_tick_24 : decode cD_tick 24 = .ok (.iload_n 1, 1) := by decide +kernel
theorem dD_tick_25 : decode cD_tick 25 = .ok (.if_icmp .ge 30, 3) := by decide +kernel
theorem dD_tick_28 : decode cD_tick 28 = .ok (.aload_n 0, 1) := by decide +kernel
theorem dD_tick_29 : decode cD_tick 29 = .ok (.dup, 1) := by decide +kernel
theorem dD_tick_30 : decode cD_tick 30 = .ok (.getfield 188, 3) := by decide +kernel
theorem dD_tick_33 : decode cD_tick 33 = .ok (.iconst 1, 1) := by decide +kernel
theorem dD_tick_34 : decode cD_tick 34 = .ok (.iadd, 1) := by decide +kernel
theorem dD_tick_35 : decode cD_tick 35 = .ok (.putfield 188, 3) := by decide +kernel
theorem dD_tick_38 : decode cD_tick 38 = .ok (.aload_n 0, 1) := by decide +kernel
theorem dD_tick_39 : decode cD_tick 39 = .ok (.invokevirtual 191, 3) := by decide +kernel
theorem dD_tick_42 : decode cD_tick 42 = .ok (.ifCond .eq 7, 3) := by decide +kernel
theorem dD_tick_45 : decode cD_tick 45 = .ok (.aload_n 0, 1) := by decide +kernel
theorem dD_tick_46 : decode cD_tick 46 = .ok (.invokevirtual 62, 3) := by decide +kernel
theorem dD_tick_49 : decode cD_tick 49 = .ok (.iinc 2 1, 3) := by decide +kernel
theorem dD_tick_52 : decode cD_tick 52 = .ok (.goto (-29), 3) := by decide +kernel
theorem dD_tick_55 : decode cD_tick 55 = .ok (.return_, 1) := by decide +kernel
theorem dD_close_0 : decode cD_close 0 = .ok (.aload_n 0, 1) := by decide +kernel
theorem dD_close_1 : decode cD_close 1 = .ok (.invokevirtual 55, 3) := by decide +kernel
theorem dD_close_4 : decode cD_close 4 = .ok (.aload_n 0, 1) := by decide +kernel
theorem dD_close_5 : decode cD_close 5 = .ok (.iconst 1, 1) := by decide +kernel
theorem dD_close_6 : decode cD_close 6 = .ok (.putfield 194, 3) := by decide +kernel
theorem dD_close_9 : decode cD_close 9 = .ok (.aload_n 0, 1) := by decide +kernel
theorem dD_close_10 : decode cD_close 10 = .ok (.invokevirtual 198, 3) := by decide +kernel
theorem dD_close_13 : decode cD_close 13 = .ok (.iconst 0, 1) := by decide +kernel
theorem dD_close_14 : decode cD_close 14 = .ok (.istore_n 1, 1) := by decide +kernel
theorem dD_close_15 : decode cD_close 15 = .ok (.iconst 0, 1) := by decide +kernel
theorem dD_close_16 : decode cD_close 16 = .ok (.istore_n 2, 1) := by decide +kernel
theorem dD_close_17 : decode cD_close 17 = .ok (.iload_n 2, 1) := by decide +kernel
theorem dD_close_18 : decode cD_close 18 = .ok (.iconst 4, 1) := by decide +kernel
theorem dD_close_19 : decode cD_close 19 = .ok (.if_icmp .ge 17, 3) := by decide +kernel
theorem dD_close_22 : decode cD_close 22 = .ok (.iload_n 1, 1) := by decide +kernel
theorem dD_close_23 : decode cD_close 23 = .ok (.aload_n 0, 1) := by decide +kernel
theorem dD_close_24 : decode cD_close 24 = .ok (.iload_n 2, 1) := by decide +kernel
theorem dD_close_25 : decode cD_close 25 = .ok (.invokevirtual 201, 3) := by decide +kernel
theorem dD_close_28 : decode cD_close 28 = .ok (.iadd, 1) := by decide +kernel
theorem dD_close_29 : decode cD_close 29 = .ok (.istore_n 1, 1) := by decide +kernel
theorem dD_close_30 : decode cD_close 30 = .ok (.iinc 2 1, 3) := by decide +kernel
theorem dD_close_33 : decode cD_close 33 = .ok (.goto (-16), 3) := by decide +kernel
theorem dD_close_36 : decode cD_close 36 = .ok (.iload_n 1, 1) := by decide +kernel
theorem dD_close_37 : decode cD_close 37 = .ok (.ireturn, 1) := by decide +kernel
theorem dD_of_0 : decode cD_of 0 = .ok (.aload_n 0, 1) := by decide +kernel
theorem dD_of_1 : decode cD_of 1 = .ok (.iload_n 1, 1) := by decide +kernel
theorem dD_of_2 : decode cD_of 2 = .ok (.invokevirtual 97, 3) := by decide +kernel
theorem dD_of_5 : decode cD_of 5 = .ok (.astore_n 3, 1) := by decide +kernel
theorem dD_of_6 : decode cD_of 6 = .ok (.iload_n 2, 1) := by decide +kernel
theorem dD_of_7 : decode cD_of 7 = .ok (.tableswitch 101 0 6 #[41, 46, 51, 56, 61, 66, 83], 41) := by decide +kernel
theorem dD_of_48 : decode cD_of 48 = .ok (.aload_n 3, 1) := by decide +kernel
theorem dD_of_49 : decode cD_of 49 = .ok (.getfield 94, 3) := by decide +kernel
theorem dD_of_52 : decode cD_of 52 = .ok (.ireturn, 1) := by decide +kernel
theorem dD_of_53 : decode cD_of 53 = .ok (.aload_n 3, 1) := by decide +kernel
theorem dD_of_54 : decode cD_of 54 = .ok (.getfield 109, 3) := by decide +kernel
theorem dD_of_57 : decode cD_of 57 = .ok (.ireturn, 1) := by decide +kernel
theorem dD_of_58 : decode cD_of 58 = .ok (.aload_n 3, 1) := by decide +kernel
theorem dD_of_59 : decode cD_of 59 = .ok (.getfield 106, 3) := by decide +kernel
theorem dD_of_62 : decode cD_of 62 = .ok (.ireturn, 1) := by decide +kernel
theorem dD_of_63 : decode cD_of 63 = .ok (.aload_n 3, 1) := by decide +kernel
theorem dD_of_64 : decode cD_of 64 = .ok (.getfield 168, 3) := by decide +kernel
theorem dD_of_67 : decode cD_of 67 = .ok (.ireturn, 1) := by decide +kernel
theorem dD_of_68 : decode cD_of 68 = .ok (.aload_n 3, 1) := by decide +kernel
theorem dD_of_69 : decode cD_of 69 = .ok (.getfield 112, 3) := by decide +kernel
theorem dD_of_72 : decode cD_of 72 = .ok (.ireturn, 1) := by decide +kernel
theorem dD_of_73 : decode cD_of 73 = .ok (.aload_n 3, 1) := by decide +kernel
theorem dD_of_74 : decode cD_of 74 = .ok (.getfield 94, 3) := by decide +kernel
theorem dD_of_77 : decode cD_of 77 = .ok (.iconst 1, 1) := by decide +kernel
theorem dD_of_78 : decode cD_of 78 = .ok (.if_icmp .ne 10, 3) := by decide +kernel
theorem dD_of_81 : decode cD_of 81 = .ok (.aload_n 3, 1) := by decide +kernel
theorem dD_of_82 : decode cD_of 82 = .ok (.getfield 204, 3) := by decide +kernel
theorem dD_of_85 : decode cD_of 85 = .ok (.goto 4, 3) := by decide +kernel
theorem dD_of_88 : decode cD_of 88 = .ok (.iconst (-1), 1) := by decide +kernel
theorem dD_of_89 : decode cD_of 89 = .ok (.ireturn, 1) := by decide +kernel
theorem dD_of_90 : decode cD_of 90 = .ok (.aload_n 3, 1) := by decide +kernel
theorem dD_of_91 : decode cD_of 91 = .ok (.getfield 168, 3) := by decide +kernel
theorem dD_of_94 : decode cD_of 94 = .ok (.ifCond .le 12, 3) := by decide +kernel
theorem dD_of_97 : decode cD_of 97 = .ok (.aload_n 3, 1) := by decide +kernel
theorem dD_of_98 : decode cD_of 98 = .ok (.getfield 207, 3) := by decide +kernel
theorem dD_of_101 : decode cD_of 101 = .ok (.iconst 0, 1) := by decide +kernel
theorem dD_of_102 : decode cD_of 102 = .ok (.iaload, 1) := by decide +kernel
theorem dD_of_103 : decode cD_of 103 = .ok (.goto 4, 3) := by decide +kernel
theorem dD_of_106 : decode cD_of 106 = .ok (.iconst (-1), 1) := by decide +kernel
theorem dD_of_107 : decode cD_of 107 = .ok (.ireturn, 1) := by decide +kernel
theorem dD_of_108 : decode cD_of 108 = .ok (.new 48, 3) := by decide +kernel
theorem dD_of_111 : decode cD_of 111 = .ok (.dup, 1) := by decide +kernel
theorem dD_of_112 : decode cD_of 112 = .ok (.ldc 210, 2) := by decide +kernel
theorem dD_of_114 : decode cD_of 114 = .ok (.invokespecial 52, 3) := by decide +kernel
theorem dD_of_117 : decode cD_of 117 = .ok (.athrow, 1) := by decide +kernel
theorem dD_at_0 : decode cD_at 0 = .ok (.aload_n 0, 1) := by decide +kernel
theorem dD_at_1 : decode cD_at 1 = .ok (.getfield 36, 3) := by decide +kernel
theorem dD_at_4 : decode cD_at 4 = .ok (.iload_n 1, 1) := by decide +kernel
theorem dD_at_5 : decode cD_at 5 = .ok (.invokevirtual 151, 3) := by decide +kernel
theorem dD_at_8 : decode cD_at 8 = .ok (.ifCond .eq 15, 3) := by decide +kernel
theorem dD_at_11 : decode cD_at 11 = .ok (.aload_n 0, 1) := by decide +kernel
theorem dD_at_12 : decode cD_at 12 = .ok (.getfield 36, 3) := by decide +kernel
theorem dD_at_15 : decode cD_at 15 = .ok (.getfield 212, 3) := by decide +kernel
theorem dD_at_18 : decode cD_at 18 = .ok (.iload_n 1, 1) := by decide +kernel
theorem dD_at_19 : decode cD_at 19 = .ok (.iaload, 1) := by decide +kernel
theorem dD_at_20 : decode cD_at 20 = .ok (.goto 4, 3) := by decide +kernel
theorem dD_at_23 : decode cD_at 23 = .ok (.iconst (-1), 1) := by decide +kernel
theorem dD_at_24 : decode cD_at 24 = .ok (.ireturn, 1) := by decide +kernel
theorem dD_count_0 : decode cD_count 0 = .ok (.iload_n 1, 1) := by decide +kernel
theorem dD_count_1 : decode cD_count 1 = .ok (.tableswitch 93 0 6 #[43, 48, 53, 62, 67, 72, 80], 43) := by decide +kernel
theorem dD_count_44 : decode cD_count 44 = .ok (.aload_n 0, 1) := by decide +kernel
theorem dD_count_45 : decode cD_count 45 = .ok (.getfield 188, 3) := by decide +kernel
theorem dD_count_48 : decode cD_count 48 = .ok (.ireturn, 1) := by decide +kernel
theorem dD_count_49 : decode cD_count 49 = .ok (.aload_n 0, 1) := by decide +kernel
theorem dD_count_50 : decode cD_count 50 = .ok (.getfield 215, 3) := by decide +kernel
theorem dD_count_53 : decode cD_count 53 = .ok (.ireturn, 1) := by decide +kernel
theorem dD_count_54 : decode cD_count 54 = .ok (.aload_n 0, 1) := by decide +kernel
theorem dD_count_55 : decode cD_count 55 = .ok (.getfield 29, 3) := by decide +kernel
theorem dD_count_58 : decode cD_count 58 = .ok (.iconst 0, 1) := by decide +kernel
theorem dD_count_59 : decode cD_count 59 = .ok (.invokevirtual 218, 3) := by decide +kernel
theorem dD_count_62 : decode cD_count 62 = .ok (.ireturn, 1) := by decide +kernel
theorem dD_count_63 : decode cD_count 63 = .ok (.aload_n 0, 1) := by decide +kernel
theorem dD_count_64 : decode cD_count 64 = .ok (.invokevirtual 221, 3) := by decide +kernel
theorem dD_count_67 : decode cD_count 67 = .ok (.ireturn, 1) := by decide +kernel
theorem dD_count_68 : decode cD_count 68 = .ok (.aload_n 0, 1) := by decide +kernel
theorem dD_count_69 : decode cD_count 69 = .ok (.getfield 115, 3) := by decide +kernel
theorem dD_count_72 : decode cD_count 72 = .ok (.ireturn, 1) := by decide +kernel
theorem dD_count_73 : decode cD_count 73 = .ok (.aload_n 0, 1) := by decide +kernel
theorem dD_count_74 : decode cD_count 74 = .ok (.getfield 36, 3) := by decide +kernel
theorem dD_count_77 : decode cD_count 77 = .ok (.getfield 171, 3) := by decide +kernel
theorem dD_count_80 : decode cD_count 80 = .ok (.ireturn, 1) := by decide +kernel
theorem dD_count_81 : decode cD_count 81 = .ok (.aload_n 0, 1) := by decide +kernel
theorem dD_count_82 : decode cD_count 82 = .ok (.getfield 194, 3) := by decide +kernel
theorem dD_count_85 : decode cD_count 85 = .ok (.ifCond .eq 7, 3) := by decide +kernel
theorem dD_count_88 : decode cD_count 88 = .ok (.iconst 1, 1) := by decide +kernel
theorem dD_count_89 : decode cD_count 89 = .ok (.goto 4, 3) := by decide +kernel
theorem dD_count_92 : decode cD_count 92 = .ok (.iconst 0, 1) := by decide +kernel
theorem dD_count_93 : decode cD_count 93 = .ok (.ireturn, 1) := by decide +kernel
theorem dD_count_94 : decode cD_count 94 = .ok (.new 48, 3) := by decide +kernel
theorem dD_count_97 : decode cD_count 97 = .ok (.dup, 1) := by decide +kernel
theorem dD_count_98 : decode cD_count 98 = .ok (.ldc 224, 2) := by decide +kernel
theorem dD_count_100 : decode cD_count 100 = .ok (.invokespecial 52, 3) := by decide +kernel
theorem dD_count_103 : decode cD_count 103 = .ok (.athrow, 1) := by decide +kernel
theorem dD_requireFare_0 : decode cD_requireFare 0 = .ok (.iload_n 1, 1) := by decide +kernel
theorem dD_requireFare_1 : decode cD_requireFare 1 = .ok (.ifCond .lt 8, 3) := by decide +kernel
theorem dD_requireFare_4 : decode cD_requireFare 4 = .ok (.iload_n 1, 1) := by decide +kernel
theorem dD_requireFare_5 : decode cD_requireFare 5 = .ok (.iconst 4, 1) := by decide +kernel
theorem dD_requireFare_6 : decode cD_requireFare 6 = .ok (.if_icmp .lt 13, 3) := by decide +kernel
theorem dD_requireFare_9 : decode cD_requireFare 9 = .ok (.new 48, 3) := by decide +kernel
theorem dD_requireFare_12 : decode cD_requireFare 12 = .ok (.dup, 1) := by decide +kernel
theorem dD_requireFare_13 : decode cD_requireFare 13 = .ok (.ldc 226, 2) := by decide +kernel
theorem dD_requireFare_15 : decode cD_requireFare 15 = .ok (.invokespecial 52, 3) := by decide +kernel
theorem dD_requireFare_18 : decode cD_requireFare 18 = .ok (.athrow, 1) := by decide +kernel
theorem dD_requireFare_19 : decode cD_requireFare 19 = .ok (.return_, 1) := by decide +kernel
theorem dD_requireOpen_0 : decode cD_requireOpen 0 = .ok (.aload_n 0, 1) := by decide +kernel
theorem dD_requireOpen_1 : decode cD_requireOpen 1 = .ok (.getfield 194, 3) := by decide +kernel
theorem dD_requireOpen_4 : decode cD_requireOpen 4 = .ok (.ifCond .eq 13, 3) := by decide +kernel
theorem dD_requireOpen_7 : decode cD_requireOpen 7 = .ok (.new 101, 3) := by decide +kernel
theorem dD_requireOpen_10 : decode cD_requireOpen 10 = .ok (.dup, 1) := by decide +kernel
theorem dD_requireOpen_11 : decode cD_requireOpen 11 = .ok (.ldc 228, 2) := by decide +kernel
theorem dD_requireOpen_13 : decode cD_requireOpen 13 = .ok (.invokespecial 105, 3) := by decide +kernel
theorem dD_requireOpen_16 : decode cD_requireOpen 16 = .ok (.athrow, 1) := by decide +kernel
theorem dD_requireOpen_17 : decode cD_requireOpen 17 = .ok (.return_, 1) := by decide +kernel
theorem dD_requireNewBooking_0 : decode cD_requireNewBooking 0 = .ok (.aload_n 0, 1) := by decide +kernel
theorem dD_requireNewBooking_1 : decode cD_requireNewBooking 1 = .ok (.iload_n 1, 1) := by decide +kernel
theorem dD_requireNewBooking_2 : decode cD_requireNewBooking 2 = .ok (.invokevirtual 41, 3) := by decide +kernel
theorem dD_requireNewBooking_5 : decode cD_requireNewBooking 5 = .ok (.iload_n 2, 1) := by decide +kernel
theorem dD_requireNewBooking_6 : decode cD_requireNewBooking 6 = .ok (.iconst 1, 1) := by decide +kernel
theorem dD_requireNewBooking_7 : decode cD_requireNewBooking 7 = .ok (.if_icmp .lt 9, 3) := by decide +kernel
theorem dD_requireNewBooking_10 : decode cD_requireNewBooking 10 = .ok (.iload_n 2, 1) := by decide +kernel
theorem dD_requireNewBooking_11 : decode cD_requireNewBooking 11 = .ok (.bipush 6, 2) := by decide +kernel
theorem dD_requireNewBooking_13 : decode cD_requireNewBooking 13 = .ok (.if_icmp .le 13, 3) := by decide +kernel
theorem dD_requireNewBooking_16 : decode cD_requireNewBooking 16 = .ok (.new 48, 3) := by decide +kernel
theorem dD_requireNewBooking_19 : decode cD_requireNewBooking 19 = .ok (.dup, 1) := by decide +kernel
theorem dD_requireNewBooking_20 : decode cD_requireNewBooking 20 = .ok (.ldc 230, 2) := by decide +kernel
theorem dD_requireNewBooking_22 : decode cD_requireNewBooking 22 = .ok (.invokespecial 52, 3) := by decide +kernel
theorem dD_requireNewBooking_25 : decode cD_requireNewBooking 25 = .ok (.athrow, 1) := by decide +kernel
theorem dD_requireNewBooking_26 : decode cD_requireNewBooking 26 = .ok (.iload_n 3, 1) := by decide +kernel
theorem dD_requireNewBooking_27 : decode cD_requireNewBooking 27 = .ok (.iconst 1, 1) := by decide +kernel
theorem dD_requireNewBooking_28 : decode cD_requireNewBooking 28 = .ok (.if_icmp .lt 9, 3) := by decide +kernel
theorem dD_requireNewBooking_31 : decode cD_requireNewBooking 31 = .ok (.iload_n 3, 1) := by decide +kernel
theorem dD_requireNewBooking_32 : decode cD_requireNewBooking 32 = .ok (.bipush 50, 2) := by decide +kernel
theorem dD_requireNewBooking_34 : decode cD_requireNewBooking 34 = .ok (.if_icmp .le 13, 3) := by decide +kernel
theorem dD_requireNewBooking_37 : decode cD_requireNewBooking 37 = .ok (.new 48, 3) := by decide +kernel
theorem dD_requireNewBooking_40 : decode cD_requireNewBooking 40 = .ok (.dup, 1) := by decide +kernel
theorem dD_requireNewBooking_41 : decode cD_requireNewBooking 41 = .ok (.ldc 232, 2) := by decide +kernel
theorem dD_requireNewBooking_43 : decode cD_requireNewBooking 43 = .ok (.invokespecial 52, 3) := by decide +kernel
theorem dD_requireNewBooking_46 : decode cD_requireNewBooking 46 = .ok (.athrow, 1) := by decide +kernel
theorem dD_requireNewBooking_47 : decode cD_requireNewBooking 47 = .ok (.aload_n 0, 1) := by decide +kernel
theorem dD_requireNewBooking_48 : decode cD_requireNewBooking 48 = .ok (.invokevirtual 55, 3) := by decide +kernel
theorem dD_requireNewBooking_51 : decode cD_requireNewBooking 51 = .ok (.aload_n 0, 1) := by decide +kernel
theorem dD_requireNewBooking_52 : decode cD_requireNewBooking 52 = .ok (.getfield 215, 3) := by decide +kernel
theorem dD_requireNewBooking_55 : decode cD_requireNewBooking 55 = .ok (.bipush 60, 2) := by decide +kernel
theorem dD_requireNewBooking_57 : decode cD_requireNewBooking 57 = .ok (.if_icmp .lt 13, 3) := by decide +kernel
theorem dD_requireNewBooking_60 : decode cD_requireNewBooking 60 = .ok (.new 101, 3) := by decide +kernel
theorem dD_requireNewBooking_63 : decode cD_requireNewBooking 63 = .ok (.dup, 1) := by decide +kernel
theorem dD_requireNewBooking_64 : decode cD_requireNewBooking 64 = .ok (.ldc 234, 2) := by decide +kernel
theorem dD_requireNewBooking_66 : decode cD_requireNewBooking 66 = .ok (.invokespecial 105, 3) := by decide +kernel
theorem dD_requireNewBooking_69 : decode cD_requireNewBooking 69 = .ok (.athrow, 1) := by decide +kernel
theorem dD_requireNewBooking_70 : decode cD_requireNewBooking 70 = .ok (.return_, 1) := by decide +kernel
theorem dD_requireRoom_0 : decode cD_requireRoom 0 = .ok (.aload_n 0, 1) := by decide +kernel
theorem dD_requireRoom_1 : decode cD_requireRoom 1 = .ok (.getfield 29, 3) := by decide +kernel
theorem dD_requireRoom_4 : decode cD_requireRoom 4 = .ok (.iload_n 1, 1) := by decide +kernel
theorem dD_requireRoom_5 : decode cD_requireRoom 5 = .ok (.invokevirtual 70, 3) := by decide +kernel
theorem dD_requireRoom_8 : decode cD_requireRoom 8 = .ok (.iload_n 2, 1) := by decide +kernel
theorem dD_requireRoom_9 : decode cD_requireRoom 9 = .ok (.if_icmp .ge 13, 3) := by decide +kernel
theorem dD_requireRoom_12 : decode cD_requireRoom 12 = .ok (.new 146, 3) := by decide +kernel
theorem dD_requireRoom_15 : decode cD_requireRoom 15 = .ok (.dup, 1) := by decide +kernel
theorem dD_requireRoom_16 : decode cD_requireRoom 16 = .ok (.ldc 236, 2) := by decide +kernel
theorem dD_requireRoom_18 : decode cD_requireRoom 18 = .ok (.invokespecial 150, 3) := by decide +kernel
theorem dD_requireRoom_21 : decode cD_requireRoom 21 = .ok (.athrow, 1) := by decide +kernel
theorem dD_requireRoom_22 : decode cD_requireRoom 22 = .ok (.return_, 1) := by decide +kernel
theorem dD_requireCountingOrWaiting_0 : decode cD_requireCountingOrWaiting 0 = .ok (.aload_n 1, 1) := by decide +kernel
theorem dD_requireCountingOrWaiting_1 : decode cD_requireCountingOrWaiting 1 = .ok (.invokevirtual 131, 3) := by decide +kernel
theorem dD_requireCountingOrWaiting_4 : decode cD_requireCountingOrWaiting 4 = .ok (.ifCond .ne 21, 3) := by decide +kernel
theorem dD_requireCountingOrWaiting_7 : decode cD_requireCountingOrWaiting 7 = .ok (.aload_n 1, 1) := by decide +kernel
theorem dD_requireCountingOrWaiting_8 : decode cD_requireCountingOrWaiting 8 = .ok (.getfield 94, 3) := by decide +kernel
theorem dD_requireCountingOrWaiting_11 : decode cD_requireCountingOrWaiting 11 = .ok (.iconst 3, 1) := by decide +kernel
theorem dD_requireCountingOrWaiting_12 : decode cD_requireCountingOrWaiting 12 = .ok (.if_icmp .eq 13, 3) := by decide +kernel
theorem dD_requireCountingOrWaiting_15 : decode cD_requireCountingOrWaiting 15 = .ok (.new 101, 3) := by decide +kernel
theorem dD_requireCountingOrWaiting_18 : decode cD_requireCountingOrWaiting 18 = .ok (.dup, 1) := by decide +kernel
theorem dD_requireCountingOrWaiting_19 : decode cD_requireCountingOrWaiting 19 = .ok (.ldc 238, 2) := by decide +kernel
theorem dD_requireCountingOrWaiting_21 : decode cD_requireCountingOrWaiting 21 = .ok (.invokespecial 105, 3) := by decide +kernel
theorem dD_requireCountingOrWaiting_24 : decode cD_requireCountingOrWaiting 24 = .ok (.athrow, 1) := by decide +kernel
theorem dD_requireCountingOrWaiting_25 : decode cD_requireCountingOrWaiting 25 = .ok (.return_, 1) := by decide +kernel
theorem dD_requireSeatsMissing_0 : decode cD_requireSeatsMissing 0 = .ok (.aload_n 1, 1) := by decide +kernel
theorem dD_requireSeatsMissing_1 : decode cD_requireSeatsMissing 1 = .ok (.getfield 94, 3) := by decide +kernel
theorem dD_requireSeatsMissing_4 : decode cD_requireSeatsMissing 4 = .ok (.iconst 2, 1) := by decide +kernel
theorem dD_requireSeatsMissing_5 : decode cD_requireSeatsMissing 5 = .ok (.if_icmp .eq 13, 3) := by decide +kernel
theorem dD_requireSeatsMissing_8 : decode cD_requireSeatsMissing 8 = .ok (.new 101, 3) := by decide +kernel
theorem dD_requireSeatsMissing_11 : decode cD_requireSeatsMissing 11 = .ok (.dup, 1) := by decide +kernel
theorem dD_requireSeatsMissing_12 : decode cD_requireSeatsMissing 12 = .ok (.ldc 240, 2) := by decide +kernel
theorem dD_requireSeatsMissing_14 : decode cD_requireSeatsMissing 14 = .ok (.invokespecial 105, 3) := by decide +kernel
theorem dD_requireSeatsMissing_17 : decode cD_requireSeatsMissing 17 = .ok (.athrow, 1) := by decide +kernel
theorem dD_requireSeatsMissing_18 : decode cD_requireSeatsMissing 18 = .ok (.aload_n 1, 1) := by decide +kernel
theorem dD_requireSeatsMissing_19 : decode cD_requireSeatsMissing 19 = .ok (.invokevirtual 174, 3) := by decide +kernel
theorem dD_requireSeatsMissing_22 : decode cD_requireSeatsMissing 22 = .ok (.ifCond .gt 13, 3) := by decide +kernel
theorem dD_requireSeatsMissing_25 : decode cD_requireSeatsMissing 25 = .ok (.new 101, 3) := by decide +kernel
theorem dD_requireSeatsMissing_28 : decode cD_requireSeatsMissing 28 = .ok (.dup, 1) := by decide +kernel
theorem dD_requireSeatsMissing_29 : decode cD_requireSeatsMissing 29 = .ok (.ldc 242, 2) := by decide +kernel
theorem dD_requireSeatsMissing_31 : decode cD_requireSeatsMissing 31 = .ok (.invokespecial 105, 3) := by decide +kernel
theorem dD_requireSeatsMissing_34 : decode cD_requireSeatsMissing 34 = .ok (.athrow, 1) := by decide +kernel
theorem dD_requireSeatsMissing_35 : decode cD_requireSeatsMissing 35 = .ok (.return_, 1) := by decide +kernel
theorem dD_find_0 : decode cD_find 0 = .ok (.iload_n 1, 1) := by decide +kernel
theorem dD_find_1 : decode cD_find 1 = .ok (.ifCond .lt 11, 3) := by decide +kernel
theorem dD_find_4 : decode cD_find 4 = .ok (.iload_n 1, 1) := by decide +kernel
theorem dD_find_5 : decode cD_find 5 = .ok (.aload_n 0, 1) := by decide +kernel
theorem dD_find_6 : decode cD_find 6 = .ok (.getfield 215, 3) := by decide +kernel
theorem dD_find_9 : decode cD_find 9 = .ok (.if_icmp .lt 13, 3) := by decide +kernel
theorem dD_find_12 : decode cD_find 12 = .ok (.new 48, 3) := by decide +kernel
theorem dD_find_15 : decode cD_find 15 = .ok (.dup, 1) := by decide +kernel
theorem dD_find_16 : decode cD_find 16 = .ok (.ldc 244, 2) := by decide +kernel
theorem dD_find_18 : decode cD_find 18 = .ok (.invokespecial 52, 3) := by decide +kernel
theorem dD_find_21 : decode cD_find 21 = .ok (.athrow, 1) := by decide +kernel
theorem dD_find_22 : decode cD_find 22 = .ok (.aload_n 0, 1) := by decide +kernel
theorem dD_find_23 : decode cD_find 23 = .ok (.getfield 11, 3) := by decide +kernel
theorem dD_find_26 : decode cD_find 26 = .ok (.iload_n 1, 1) := by decide +kernel
theorem dD_find_27 : decode cD_find 27 = .ok (.aaload, 1) := by decide +kernel
theorem dD_find_28 : decode cD_find 28 = .ok (.areturn, 1) := by decide +kernel
theorem dD_newBooking_0 : decode cD_newBooking 0 = .ok (.aload_n 0, 1) := by decide +kernel
theorem dD_newBooking_1 : decode cD_newBooking 1 = .ok (.getfield 11, 3) := by decide +kernel
theorem dD_newBooking_4 : decode cD_newBooking 4 = .ok (.aload_n 0, 1) := by decide +kernel
theorem dD_newBooking_5 : decode cD_newBooking 5 = .ok (.getfield 215, 3) := by decide +kernel
theorem dD_newBooking_8 : decode cD_newBooking 8 = .ok (.aaload, 1) := by decide +kernel
theorem dD_newBooking_9 : decode cD_newBooking 9 = .ok (.astore 4, 2) := by decide +kernel
theorem dD_newBooking_11 : decode cD_newBooking 11 = .ok (.aload_n 0, 1) := by decide +kernel
theorem dD_newBooking_12 : decode cD_newBooking 12 = .ok (.dup, 1) := by decide +kernel
theorem dD_newBooking_13 : decode cD_newBooking 13 = .ok (.getfield 215, 3) := by decide +kernel
theorem dD_newBooking_16 : decode cD_newBooking 16 = .ok (.iconst 1, 1) := by decide +kernel
theorem dD_newBooking_17 : decode cD_newBooking 17 = .ok (.iadd, 1) := by decide +kernel
theorem dD_newBooking_18 : decode cD_newBooking 18 = .ok (.putfield 215, 3) := by decide +kernel
theorem dD_newBooking_21 : decode cD_newBooking 21 = .ok (.aload 4, 2) := by decide +kernel
theorem dD_newBooking_23 : decode cD_newBooking 23 = .ok (.iload_n 1, 1) := by decide +kernel
theorem dD_newBooking_24 : decode cD_newBooking 24 = .ok (.putfield 109, 3) := by decide +kernel
theorem dD_newBooking_27 : decode cD_newBooking 27 = .ok (.aload 4, 2) := by decide +kernel
theorem dD_newBooking_29 : decode cD_newBooking 29 = .ok (.iload_n 2, 1) := by decide +kernel
theorem dD_newBooking_30 : decode cD_newBooking 30 = .ok (.putfield 106, 3) := by decide +kernel
theorem dD_newBooking_33 : decode cD_newBooking 33 = .ok (.aload 4, 2) := by decide +kernel
theorem dD_newBooking_35 : decode cD_newBooking 35 = .ok (.iload_n 3, 1) := by decide +kernel
theorem dD_newBooking_36 : decode cD_newBooking 36 = .ok (.putfield 246, 3) := by decide +kernel
theorem dD_newBooking_39 : decode cD_newBooking 39 = .ok (.aload 4, 2) := by decide +kernel
theorem dD_newBooking_41 : decode cD_newBooking 41 = .ok (.areturn, 1) := by decide +kernel
theorem dD_startHolding_0 : decode cD_startHolding 0 = .ok (.aload_n 1, 1) := by decide +kernel
theorem dD_startHolding_1 : decode cD_startHolding 1 = .ok (.iconst 1, 1) := by decide +kernel
theorem dD_startHolding_2 : decode cD_startHolding 2 = .ok (.putfield 94, 3) := by decide +kernel
theorem dD_startHolding_5 : decode cD_startHolding 5 = .ok (.aload_n 1, 1) := by decide +kernel
theorem dD_startHolding_6 : decode cD_startHolding 6 = .ok (.aload_n 0, 1) := by decide +kernel
theorem dD_startHolding_7 : decode cD_startHolding 7 = .ok (.getfield 188, 3) := by decide +kernel
theorem dD_startHolding_10 : decode cD_startHolding 10 = .ok (.aload_n 1, 1) := by decide +kernel
theorem dD_startHolding_11 : decode cD_startHolding 11 = .ok (.getfield 246, 3) := by decide +kernel
theorem dD_startHolding_14 : decode cD_startHolding 14 = .ok (.iadd, 1) := by decide +kernel
theorem dD_startHolding_15 : decode cD_startHolding 15 = .ok (.putfield 204, 3) := by decide +kernel
theorem dD_startHolding_18 : decode cD_startHolding 18 = .ok (.aload_n 0, 1) := by decide +kernel
theorem dD_startHolding_19 : decode cD_startHolding 19 = .ok (.getfield 29, 3) := by decide +kernel
theorem dD_startHolding_22 : decode cD_startHolding 22 = .ok (.getfield 135, 3) := by decide +kernel
theorem dD_startHolding_25 : decode cD_startHolding 25 = .ok (.aload_n 1, 1) := by decide +kernel
theorem dD_startHolding_26 : decode cD_startHolding 26 = .ok (.getfield 109, 3) := by decide +kernel
theorem dD_startHolding_29 : decode cD_startHolding 29 = .ok (.dup2, 1) := by decide +kernel
theorem dD_startHolding_30 : decode cD_startHolding 30 = .ok (.iaload, 1) := by decide +kernel
theorem dD_startHolding_31 : decode cD_startHolding 31 = .ok (.aload_n 1, 1) := by decide +kernel
theorem dD_startHolding_32 : decode cD_startHolding 32 = .ok (.getfield 106, 3) := by decide +kernel
theorem dD_startHolding_35 : decode cD_startHolding 35 = .ok (.iadd, 1) := by decide +kernel
theorem dD_startHolding_36 : decode cD_startHolding 36 = .ok (.iastore, 1) := by decide +kernel
theorem dD_startHolding_37 : decode cD_startHolding 37 = .ok (.return_, 1) := by decide +kernel
theorem dD_serveWaiting_0 : decode cD_serveWaiting 0 = .ok (.iconst 0, 1) := by decide +kernel
theorem dD_serveWaiting_1 : decode cD_serveWaiting 1 = .ok (.istore_n 1, 1) := by decide +kernel
theorem dD_serveWaiting_2 : decode cD_serveWaiting 2 = .ok (.iload_n 1, 1) := by decide +kernel
theorem dD_serveWaiting_3 : decode cD_serveWaiting 3 = .ok (.aload_n 0, 1) := by decide +kernel
theorem dD_serveWaiting_4 : decode cD_serveWaiting 4 = .ok (.getfield 215, 3) := by decide +kernel
theorem dD_serveWaiting_7 : decode cD_serveWaiting 7 = .ok (.if_icmp .ge 47, 3) := by decide +kernel
theorem dD_serveWaiting_10 : decode cD_serveWaiting 10 = .ok (.aload_n 0, 1) := by decide +kernel
theorem dD_serveWaiting_11 : decode cD_serveWaiting 11 = .ok (.getfield 11, 3) := by decide +kernel
theorem dD_serveWaiting_14 : decode cD_serveWaiting 14 = .ok (.iload_n 1, 1) := by decide +kernel
theorem dD_serveWaiting_15 : decode cD_serveWaiting 15 = .ok (.aaload, 1) := by decide +kernel
theorem dD_serveWaiting_16 : decode cD_serveWaiting 16 = .ok (.astore_n 2, 1) := by decide +kernel
theorem dD_serveWaiting_17 : decode cD_serveWaiting 17 = .ok (.aload_n 2, 1) := by decide +kernel
theorem dD_serveWaiting_18 : decode cD_serveWaiting 18 = .ok (.getfield 94, 3) := by decide +kernel
theorem dD_serveWaiting_21 : decode cD_serveWaiting 21 = .ok (.iconst 3, 1) := by decide +kernel
theorem dD_serveWaiting_22 : decode cD_serveWaiting 22 = .ok (.if_icmp .ne 26, 3) := by decide +kernel
theorem dD_serveWaiting_25 : decode cD_serveWaiting 25 = .ok (.aload_n 0, 1) := by decide +kernel
theorem dD_serveWaiting_26 : decode cD_serveWaiting 26 = .ok (.getfield 29, 3) := by decide +kernel
theorem dD_serveWaiting_29 : decode cD_serveWaiting 29 = .ok (.aload_n 2, 1) := by decide +kernel
theorem dD_serveWaiting_30 : decode cD_serveWaiting 30 = .ok (.getfield 109, 3) := by decide +kernel
theorem dD_serveWaiting_33 : decode cD_serveWaiting 33 = .ok (.invokevirtual 70, 3) := by decide +kernel
theorem dD_serveWaiting_36 : decode cD_serveWaiting 36 = .ok (.aload_n 2, 1) := by decide +kernel
theorem dD_serveWaiting_37 : decode cD_serveWaiting 37 = .ok (.getfield 106, 3) := by decide +kernel
theorem dD_serveWaiting_40 : decode cD_serveWaiting 40 = .ok (.if_icmp .lt 8, 3) := by decide +kernel
theorem dD_serveWaiting_43 : decode cD_serveWaiting 43 = .ok (.aload_n 0, 1) := by decide +kernel
theorem dD_serveWaiting_44 : decode cD_serveWaiting 44 = .ok (.aload_n 2, 1) := by decide +kernel
theorem dD_serveWaiting_45 : decode cD_serveWaiting 45 = .ok (.invokevirtual 86, 3) := by decide +kernel
theorem dD_serveWaiting_48 : decode cD_serveWaiting 48 = .ok (.iinc 1 1, 3) := by decide +kernel
theorem dD_serveWaiting_51 : decode cD_serveWaiting 51 = .ok (.goto (-49), 3) := by decide +kernel
theorem dD_serveWaiting_54 : decode cD_serveWaiting 54 = .ok (.return_, 1) := by decide +kernel
theorem dD_waitingBookings_0 : decode cD_waitingBookings 0 = .ok (.iconst 0, 1) := by decide +kernel
theorem dD_waitingBookings_1 : decode cD_waitingBookings 1 = .ok (.istore_n 1, 1) := by decide +kernel
theorem dD_waitingBookings_2 : decode cD_waitingBookings 2 = .ok (.iconst 0, 1) := by decide +kernel
theorem dD_waitingBookings_3 : decode cD_waitingBookings 3 = .ok (.istore_n 2, 1) := by decide +kernel
theorem dD_waitingBookings_4 : decode cD_waitingBookings 4 = .ok (.iload_n 2, 1) := by decide +kernel
theorem dD_waitingBookings_5 : decode cD_waitingBookings 5 = .ok (.aload_n 0, 1) := by decide +kernel
theorem dD_waitingBookings_6 : decode cD_waitingBookings 6 = .ok (.getfield 215, 3) := by decide +kernel
theorem dD_waitingBookings_9 : decode cD_waitingBookings 9 = .ok (.if_icmp .ge 25, 3) := by decide +kernel
theorem dD_waitingBookings_12 : decode cD_waitingBookings 12 = .ok (.aload_n 0, 1) := by decide +kernel
theorem dD_waitingBookings_13 : decode cD_waitingBookings 13 = .ok (.getfield 11, 3) := by decide +kernel
theorem dD_waitingBookings_16 : decode cD_waitingBookings 16 = .ok (.iload_n 2, 1) := by decide +kernel
theorem dD_waitingBookings_17 : decode cD_waitingBookings 17 = .ok (.aaload, 1) := by decide +kernel
theorem dD_waitingBookings_18 : decode cD_waitingBookings 18 = .ok (.getfield 94, 3) := by decide +kernel
theorem dD_waitingBookings_21 : decode cD_waitingBookings 21 = .ok (.iconst 3, 1) := by decide +kernel
theorem dD_waitingBookings_22 : decode cD_waitingBookings 22 = .ok (.if_icmp .ne 6, 3) := by decide +kernel
theorem dD_waitingBookings_25 : decode cD_waitingBookings 25 = .ok (.iinc 1 1, 3) := by decide +kernel
theorem dD_waitingBookings_28 : decode cD_waitingBookings 28 = .ok (.iinc 2 1, 3) := by decide +kernel
theorem dD_waitingBookings_31 : decode cD_waitingBookings 31 = .ok (.goto (-27), 3) := by decide +kernel
theorem dD_waitingBookings_34 : decode cD_waitingBookings 34 = .ok (.iload_n 1, 1) := by decide +kernel
theorem dD_waitingBookings_35 : decode cD_waitingBookings 35 = .ok (.ireturn, 1) := by decide +kernel
theorem dD_payBack_0 : decode cD_payBack 0 = .ok (.aload_n 1, 1) := by decide +kernel
theorem dD_payBack_1 : decode cD_payBack 1 = .ok (.iload_n 2, 1) := by decide +kernel
theorem dD_payBack_2 : decode cD_payBack 2 = .ok (.invokevirtual 249, 3) := by decide +kernel
theorem dD_payBack_5 : decode cD_payBack 5 = .ok (.istore_n 3, 1) := by decide +kernel
theorem dD_payBack_6 : decode cD_payBack 6 = .ok (.aload_n 0, 1) := by decide +kernel
theorem dD_payBack_7 : decode cD_payBack 7 = .ok (.getfield 29, 3) := by decide +kernel
theorem dD_payBack_10 : decode cD_payBack 10 = .ok (.aload_n 1, 1) := by decide +kernel
theorem dD_payBack_11 : decode cD_payBack 11 = .ok (.getfield 109, 3) := by decide +kernel
theorem dD_payBack_14 : decode cD_payBack 14 = .ok (.iload_n 3, 1) := by decide +kernel
theorem dD_payBack_15 : decode cD_payBack 15 = .ok (.invokevirtual 252, 3) := by decide +kernel
theorem dD_payBack_18 : decode cD_payBack 18 = .ok (.istore 4, 2) := by decide +kernel
theorem dD_payBack_20 : decode cD_payBack 20 = .ok (.aload_n 1, 1) := by decide +kernel
theorem dD_payBack_21 : decode cD_payBack 21 = .ok (.dup, 1) := by decide +kernel
theorem dD_payBack_22 : decode cD_payBack 22 = .ok (.getfield 112, 3) := by decide +kernel
theorem dD_payBack_25 : decode cD_payBack 25 = .ok (.iload_n 3, 1) := by decide +kernel
theorem dD_payBack_26 : decode cD_payBack 26 = .ok (.isub, 1) := by decide +kernel
theorem dD_payBack_27 : decode cD_payBack 27 = .ok (.putfield 112, 3) := by decide +kernel
theorem dD_payBack_30 : decode cD_payBack 30 = .ok (.aload_n 0, 1) := by decide +kernel
theorem dD_payBack_31 : decode cD_payBack 31 = .ok (.dup, 1) := by decide +kernel
theorem dD_payBack_32 : decode cD_payBack 32 = .ok (.getfield 115, 3) := by decide +kernel
theorem dD_payBack_35 : decode cD_payBack 35 = .ok (.iload 4, 2) := by decide +kernel
theorem dD_payBack_37 : decode cD_payBack 37 = .ok (.isub, 1) := by decide +kernel
theorem dD_payBack_38 : decode cD_payBack 38 = .ok (.putfield 115, 3) := by decide +kernel
theorem dD_payBack_41 : decode cD_payBack 41 = .ok (.iload 4, 2) := by decide +kernel
theorem dD_payBack_43 : decode cD_payBack 43 = .ok (.ireturn, 1) := by decide +kernel
theorem dD_giveUp_0 : decode cD_giveUp 0 = .ok (.aload_n 1, 1) := by decide +kernel
theorem dD_giveUp_1 : decode cD_giveUp 1 = .ok (.invokevirtual 131, 3) := by decide +kernel
theorem dD_giveUp_4 : decode cD_giveUp 4 = .ok (.ifCond .eq 22, 3) := by decide +kernel
theorem dD_giveUp_7 : decode cD_giveUp 7 = .ok (.aload_n 0, 1) := by decide +kernel
theorem dD_giveUp_8 : decode cD_giveUp 8 = .ok (.getfield 29, 3) := by decide +kernel
theorem dD_giveUp_11 : decode cD_giveUp 11 = .ok (.getfield 135, 3) := by decide +kernel
theorem dD_giveUp_14 : decode cD_giveUp 14 = .ok (.aload_n 1, 1) := by decide +kernel
theorem dD_giveUp_15 : decode cD_giveUp 15 = .ok (.getfield 109, 3) := by decide +kernel
theorem dD_giveUp_18 : decode cD_giveUp 18 = .ok (.dup2, 1) := by decide +kernel
theorem dD_giveUp_19 : decode cD_giveUp 19 = .ok (.iaload, 1) := by decide +kernel
theorem dD_giveUp_20 : decode cD_giveUp 20 = .ok (.aload_n 1, 1) := by decide +kernel
theorem dD_giveUp_21 : decode cD_giveUp 21 = .ok (.getfield 106, 3) := by decide +kernel
theorem dD_giveUp_24 : decode cD_giveUp 24 = .ok (.isub, 1) := by decide +kernel
theorem dD_giveUp_25 : decode cD_giveUp 25 = .ok (.iastore, 1) := by decide +kernel
theorem dD_giveUp_26 : decode cD_giveUp 26 = .ok (.aload_n 0, 1) := by decide +kernel
theorem dD_giveUp_27 : decode cD_giveUp 27 = .ok (.getfield 36, 3) := by decide +kernel
theorem dD_giveUp_30 : decode cD_giveUp 30 = .ok (.aload_n 1, 1) := by decide +kernel
theorem dD_giveUp_31 : decode cD_giveUp 31 = .ok (.iconst 0, 1) := by decide +kernel
theorem dD_giveUp_32 : decode cD_giveUp 32 = .ok (.invokevirtual 138, 3) := by decide +kernel
theorem dD_giveUp_35 : decode cD_giveUp 35 = .ok (.aload_n 1, 1) := by decide +kernel
theorem dD_giveUp_36 : decode cD_giveUp 36 = .ok (.iload_n 2, 1) := by decide +kernel
theorem dD_giveUp_37 : decode cD_giveUp 37 = .ok (.putfield 94, 3) := by decide +kernel
theorem dD_giveUp_40 : decode cD_giveUp 40 = .ok (.return_, 1) := by decide +kernel
theorem dD_expireDue_0 : decode cD_expireDue 0 = .ok (.iconst 0, 1) := by decide +kernel
theorem dD_expireDue_1 : decode cD_expireDue 1 = .ok (.istore_n 1, 1) := by decide +kernel
theorem dD_expireDue_2 : decode cD_expireDue 2 = .ok (.iconst 0, 1) := by decide +kernel
theorem dD_expireDue_3 : decode cD_expireDue 3 = .ok (.istore_n 2, 1) := by decide +kernel
theorem dD_expireDue_4 : decode cD_expireDue 4 = .ok (.iload_n 2, 1) := by decide +kernel
theorem dD_expireDue_5 : decode cD_expireDue 5 = .ok (.aload_n 0, 1) := by decide +kernel
theorem dD_expireDue_6 : decode cD_expireDue 6 = .ok (.getfield 215, 3) := by decide +kernel
theorem dD_expireDue_9 : decode cD_expireDue 9 = .ok (.if_icmp .ge 43, 3) := by decide +kernel
theorem dD_expireDue_12 : decode cD_expireDue 12 = .ok (.aload_n 0, 1) := by decide +kernel
theorem dD_expireDue_13 : decode cD_expireDue 13 = .ok (.getfield 11, 3) := by decide +kernel
theorem dD_expireDue_16 : decode cD_expireDue 16 = .ok (.iload_n 2, 1) := by decide +kernel
theorem dD_expireDue_17 : decode cD_expireDue 17 = .ok (.aaload, 1) := by decide +kernel
theorem dD_expireDue_18 : decode cD_expireDue 18 = .ok (.astore_n 3, 1) := by decide +kernel
theorem dD_expireDue_19 : decode cD_expireDue 19 = .ok (.aload_n 3, 1) := by decide +kernel
theorem dD_expireDue_20 : decode cD_expireDue 20 = .ok (.getfield 94, 3) := by decide +kernel
theorem dD_expireDue_23 : decode cD_expireDue 23 = .ok (.iconst 1, 1) := by decide +kernel
theorem dD_expireDue_24 : decode cD_expireDue 24 = .ok (.if_icmp .ne 22, 3) := by decide +kernel
theorem dD_expireDue_27 : decode cD_expireDue 27 = .ok (.aload_n 3, 1) := by decide +kernel
theorem dD_expireDue_28 : decode cD_expireDue 28 = .ok (.getfield 204, 3) := by decide +kernel
theorem dD_expireDue_31 : decode cD_expireDue 31 = .ok (.aload_n 0, 1) := by decide +kernel
theorem dD_expireDue_32 : decode cD_expireDue 32 = .ok (.getfield 188, 3) := by decide +kernel
theorem dD_expireDue_35 : decode cD_expireDue 35 = .ok (.if_icmp .gt 11, 3) := by decide +kernel
theorem dD_expireDue_38 : decode cD_expireDue 38 = .ok (.aload_n 0, 1) := by decide +kernel
theorem dD_expireDue_39 : decode cD_expireDue 39 = .ok (.aload_n 3, 1) := by decide +kernel
theorem dD_expireDue_40 : decode cD_expireDue 40 = .ok (.iconst 5, 1) := by decide +kernel
theorem dD_expireDue_41 : decode cD_expireDue 41 = .ok (.invokevirtual 125, 3) := by decide +kernel
theorem dD_expireDue_44 : decode cD_expireDue 44 = .ok (.iconst 1, 1) := by decide +kernel
theorem dD_expireDue_45 : decode cD_expireDue 45 = .ok (.istore_n 1, 1) := by decide +kernel
theorem dD_expireDue_46 : decode cD_expireDue 46 = .ok (.iinc 2 1, 3) := by decide +kernel
theorem dD_expireDue_49 : decode cD_expireDue 49 = .ok (.goto (-45), 3) := by decide +kernel
theorem dD_expireDue_52 : decode cD_expireDue 52 = .ok (.iload_n 1, 1) := by decide +kernel
theorem dD_expireDue_53 : decode cD_expireDue 53 = .ok (.ireturn, 1) := by decide +kernel
theorem dD_endUnconfirmed_0 : decode cD_endUnconfirmed 0 = .ok (.iconst 0, 1) := by decide +kernel
theorem dD_endUnconfirmed_1 : decode cD_endUnconfirmed 1 = .ok (.istore_n 1, 1) := by decide +kernel
theorem dD_endUnconfirmed_2 : decode cD_endUnconfirmed 2 = .ok (.iload_n 1, 1) := by decide +kernel
theorem dD_endUnconfirmed_3 : decode cD_endUnconfirmed 3 = .ok (.aload_n 0, 1) := by decide +kernel
theorem dD_endUnconfirmed_4 : decode cD_endUnconfirmed 4 = .ok (.getfield 215, 3) := by decide +kernel
theorem dD_endUnconfirmed_7 : decode cD_endUnconfirmed 7 = .ok (.if_icmp .ge 47, 3) := by decide +kernel
theorem dD_endUnconfirmed_10 : decode cD_endUnconfirmed 10 = .ok (.aload_n 0, 1) := by decide +kernel
theorem dD_endUnconfirmed_11 : decode cD_endUnconfirmed 11 = .ok (.getfield 11, 3) := by decide +kernel
theorem dD_endUnconfirmed_14 : decode cD_endUnconfirmed 14 = .ok (.iload_n 1, 1) := by decide +kernel
theorem dD_endUnconfirmed_15 : decode cD_endUnconfirmed 15 = .ok (.aaload, 1) := by decide +kernel
theorem dD_endUnconfirmed_16 : decode cD_endUnconfirmed 16 = .ok (.astore_n 2, 1) := by decide +kernel
theorem dD_endUnconfirmed_17 : decode cD_endUnconfirmed 17 = .ok (.aload_n 2, 1) := by decide +kernel
theorem dD_endUnconfirmed_18 : decode cD_endUnconfirmed 18 = .ok (.getfield 94, 3) := by decide +kernel
theorem dD_endUnconfirmed_21 : decode cD_endUnconfirmed 21 = .ok (.iconst 1, 1) := by decide +kernel
theorem dD_endUnconfirmed_22 : decode cD_endUnconfirmed 22 = .ok (.if_icmp .ne 12, 3) := by decide +kernel
theorem dD_endUnconfirmed_25 : decode cD_endUnconfirmed 25 = .ok (.aload_n 0, 1) := by decide +kernel
theorem dD_endUnconfirmed_26 : decode cD_endUnconfirmed 26 = .ok (.aload_n 2, 1) := by decide +kernel
theorem dD_endUnconfirmed_27 : decode cD_endUnconfirmed 27 = .ok (.iconst 5, 1) := by decide +kernel
theorem dD_endUnconfirmed_28 : decode cD_endUnconfirmed 28 = .ok (.invokevirtual 125, 3) := by decide +kernel
theorem dD_endUnconfirmed_31 : decode cD_endUnconfirmed 31 = .ok (.goto 17, 3) := by decide +kernel
theorem dD_endUnconfirmed_34 : decode cD_endUnconfirmed 34 = .ok (.aload_n 2, 1) := by decide +kernel
theorem dD_endUnconfirmed_35 : decode cD_endUnconfirmed 35 = .ok (.getfield 94, 3) := by decide +kernel
theorem dD_endUnconfirmed_38 : decode cD_endUnconfirmed 38 = .ok (.iconst 3, 1) := by decide +kernel
theorem dD_endUnconfirmed_39 : decode cD_endUnconfirmed 39 = .ok (.if_icmp .ne 9, 3) := by decide +kernel
theorem dD_endUnconfirmed_42 : decode cD_endUnconfirmed 42 = .ok (.aload_n 0, 1) := by decide +kernel
theorem dD_endUnconfirmed_43 : decode cD_endUnconfirmed 43 = .ok (.aload_n 2, 1) := by decide +kernel
theorem dD_endUnconfirmed_44 : decode cD_endUnconfirmed 44 = .ok (.iconst 4, 1) := by decide +kernel
theorem dD_endUnconfirmed_45 : decode cD_endUnconfirmed 45 = .ok (.invokevirtual 125, 3) := by decide +kernel
theorem dD_endUnconfirmed_48 : decode cD_endUnconfirmed 48 = .ok (.iinc 1 1, 3) := by decide +kernel
theorem dD_endUnconfirmed_51 : decode cD_endUnconfirmed 51 = .ok (.goto (-49), 3) := by decide +kernel
theorem dD_endUnconfirmed_54 : decode cD_endUnconfirmed 54 = .ok (.return_, 1) := by decide +kernel
theorem dD_boardFare_0 : decode cD_boardFare 0 = .ok (.iconst 0, 1) := by decide +kernel
theorem dD_boardFare_1 : decode cD_boardFare 1 = .ok (.istore_n 2, 1) := by decide +kernel
theorem dD_boardFare_2 : decode cD_boardFare 2 = .ok (.iconst 0, 1) := by decide +kernel
theorem dD_boardFare_3 : decode cD_boardFare 3 = .ok (.istore_n 3, 1) := by decide +kernel
theorem dD_boardFare_4 : decode cD_boardFare 4 = .ok (.iload_n 3, 1) := by decide +kernel
theorem dD_boardFare_5 : decode cD_boardFare 5 = .ok (.aload_n 0, 1) := by decide +kernel
theorem dD_boardFare_6 : decode cD_boardFare 6 = .ok (.getfield 215, 3) := by decide +kernel
theorem dD_boardFare_9 : decode cD_boardFare 9 = .ok (.if_icmp .ge 44, 3) := by decide +kernel
theorem dD_boardFare_12 : decode cD_boardFare 12 = .ok (.aload_n 0, 1) := by decide +kernel
theorem dD_boardFare_13 : decode cD_boardFare 13 = .ok (.getfield 11, 3) := by decide +kernel
theorem dD_boardFare_16 : decode cD_boardFare 16 = .ok (.iload_n 3, 1) := by decide +kernel
theorem dD_boardFare_17 : decode cD_boardFare 17 = .ok (.aaload, 1) := by decide +kernel
theorem dD_boardFare_18 : decode cD_boardFare 18 = .ok (.astore 4, 2) := by decide +kernel
theorem dD_boardFare_20 : decode cD_boardFare 20 = .ok (.aload 4, 2) := by decide +kernel
theorem dD_boardFare_22 : decode cD_boardFare 22 = .ok (.getfield 94, 3) := by decide +kernel
theorem dD_boardFare_25 : decode cD_boardFare 25 = .ok (.iconst 2, 1) := by decide +kernel
theorem dD_boardFare_26 : decode cD_boardFare 26 = .ok (.if_icmp .ne 21, 3) := by decide +kernel
theorem dD_boardFare_29 : decode cD_boardFare 29 = .ok (.aload 4, 2) := by decide +kernel
theorem dD_boardFare_31 : decode cD_boardFare 31 = .ok (.getfield 109, 3) := by decide +kernel
theorem dD_boardFare_34 : decode cD_boardFare 34 = .ok (.iload_n 1, 1) := by decide +kernel
theorem dD_boardFare_35 : decode cD_boardFare 35 = .ok (.if_icmp .ne 12, 3) := by decide +kernel
theorem dD_boardFare_38 : decode cD_boardFare 38 = .ok (.iload_n 2, 1) := by decide +kernel
theorem dD_boardFare_39 : decode cD_boardFare 39 = .ok (.aload_n 0, 1) := by decide +kernel
theorem dD_boardFare_40 : decode cD_boardFare 40 = .ok (.aload 4, 2) := by decide +kernel
theorem dD_boardFare_42 : decode cD_boardFare 42 = .ok (.invokevirtual 255, 3) := by decide +kernel
theorem dD_boardFare_45 : decode cD_boardFare 45 = .ok (.iadd, 1) := by decide +kernel
theorem dD_boardFare_46 : decode cD_boardFare 46 = .ok (.istore_n 2, 1) := by decide +kernel
theorem dD_boardFare_47 : decode cD_boardFare 47 = .ok (.iinc 3 1, 3) := by decide +kernel
theorem dD_boardFare_50 : decode cD_boardFare 50 = .ok (.goto (-46), 3) := by decide +kernel
theorem dD_boardFare_53 : decode cD_boardFare 53 = .ok (.iload_n 2, 1) := by decide +kernel
theorem dD_boardFare_54 : decode cD_boardFare 54 = .ok (.ireturn, 1) := by decide +kernel
theorem dD_board_0 : decode cD_board 0 = .ok (.aload_n 0, 1) := by decide +kernel
theorem dD_board_1 : decode cD_board 1 = .ok (.getfield 36, 3) := by decide +kernel
theorem dD_board_4 : decode cD_board 4 = .ok (.getfield 171, 3) := by decide +kernel
theorem dD_board_7 : decode cD_board 7 = .ok (.aload_n 1, 1) := by decide +kernel
theorem dD_board_8 : decode cD_board 8 = .ok (.invokevirtual 174, 3) := by decide +kernel
theorem dD_board_11 : decode cD_board 11 = .ok (.if_icmp .ge 10, 3) := by decide +kernel
theorem dD_board_14 : decode cD_board 14 = .ok (.aload_n 0, 1) := by decide +kernel
theorem dD_board_15 : decode cD_board 15 = .ok (.aload_n 1, 1) := by decide +kernel
theorem dD_board_16 : decode cD_board 16 = .ok (.invokevirtual 259, 3) := by decide +kernel
theorem dD_board_19 : decode cD_board 19 = .ok (.iconst 0, 1) := by decide +kernel
theorem dD_board_20 : decode cD_board 20 = .ok (.ireturn, 1) := by decide +kernel
theorem dD_board_21 : decode cD_board 21 = .ok (.aload_n 0, 1) := by decide +kernel
theorem dD_board_22 : decode cD_board 22 = .ok (.getfield 36, 3) := by decide +kernel
theorem dD_board_25 : decode cD_board 25 = .ok (.aload_n 1, 1) := by decide +kernel
theorem dD_board_26 : decode cD_board 26 = .ok (.iconst 0, 1) := by decide +kernel
theorem dD_board_27 : decode cD_board 27 = .ok (.invokevirtual 183, 3) := by decide +kernel
theorem dD_board_30 : decode cD_board 30 = .ok (.aload_n 1, 1) := by decide +kernel
theorem dD_board_31 : decode cD_board 31 = .ok (.bipush 6, 2) := by decide +kernel
theorem dD_board_33 : decode cD_board 33 = .ok (.putfield 94, 3) := by decide +kernel
theorem dD_board_36 : decode cD_board 36 = .ok (.aload_n 1, 1) := by decide +kernel
theorem dD_board_37 : decode cD_board 37 = .ok (.getfield 106, 3) := by decide +kernel
theorem dD_board_40 : decode cD_board 40 = .ok (.ireturn, 1) := by decide +kernel
theorem dD_leaveBehind_0 : decode cD_leaveBehind 0 = .ok (.aload_n 0, 1) := by decide +kernel
theorem dD_leaveBehind_1 : decode cD_leaveBehind 1 = .ok (.dup, 1) := by decide +kernel
theorem dD_leaveBehind_2 : decode cD_leaveBehind 2 = .ok (.getfield 115, 3) := by decide +kernel
theorem dD_leaveBehind_5 : decode cD_leaveBehind 5 = .ok (.aload_n 1, 1) := by decide +kernel
theorem dD_leaveBehind_6 : decode cD_leaveBehind 6 = .ok (.getfield 112, 3) := by decide +kernel
theorem dD_leaveBehind_9 : decode cD_leaveBehind 9 = .ok (.isub, 1) := by decide +kernel
theorem dD_leaveBehind_10 : decode cD_leaveBehind 10 = .ok (.putfield 115, 3) := by decide +kernel
theorem dD_leaveBehind_13 : decode cD_leaveBehind 13 = .ok (.aload_n 1, 1) := by decide +kernel
theorem dD_leaveBehind_14 : decode cD_leaveBehind 14 = .ok (.iconst 0, 1) := by decide +kernel
theorem dD_leaveBehind_15 : decode cD_leaveBehind 15 = .ok (.putfield 112, 3) := by decide +kernel
theorem dD_leaveBehind_18 : decode cD_leaveBehind 18 = .ok (.aload_n 0, 1) := by decide +kernel
theorem dD_leaveBehind_19 : decode cD_leaveBehind 19 = .ok (.aload_n 1, 1) := by decide +kernel
theorem dD_leaveBehind_20 : decode cD_leaveBehind 20 = .ok (.bipush 7, 2) := by decide +kernel
theorem dD_leaveBehind_22 : decode cD_leaveBehind 22 = .ok (.invokevirtual 125, 3) := by decide +kernel
theorem dD_leaveBehind_25 : decode cD_leaveBehind 25 = .ok (.return_, 1) := by decide +kernel
