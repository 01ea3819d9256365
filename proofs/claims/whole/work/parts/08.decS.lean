theorem dB_init_0 : decode cB_init 0 = .ok (.aload_n 0, 1) := by decide +kernel
theorem dB_init_1 : decode cB_init 1 = .ok (.invokespecial 3, 3) := by decide +kernel
theorem dB_init_4 : decode cB_init 4 = .ok (.aload_n 0, 1) := by decide +kernel
theorem dB_init_5 : decode cB_init 5 = .ok (.bipush 6, 2) := by decide +kernel
theorem dB_init_7 : decode cB_init 7 = .ok (.newarray .int, 2) := by decide +kernel
theorem dB_init_9 : decode cB_init 9 = .ok (.putfield 9, 3) := by decide +kernel
theorem dB_init_12 : decode cB_init 12 = .ok (.aload_n 0, 1) := by decide +kernel
theorem dB_init_13 : decode cB_init 13 = .ok (.iload_n 1, 1) := by decide +kernel
theorem dB_init_14 : decode cB_init 14 = .ok (.putfield 15, 3) := by decide +kernel
theorem dB_init_17 : decode cB_init 17 = .ok (.return_, 1) := by decide +kernel
theorem dB_isCounting_0 : decode cB_isCounting 0 = .ok (.aload_n 0, 1) := by decide +kernel
theorem dB_isCounting_1 : decode cB_isCounting 1 = .ok (.getfield 19, 3) := by decide +kernel
theorem dB_isCounting_4 : decode cB_isCounting 4 = .ok (.iconst 1, 1) := by decide +kernel
theorem dB_isCounting_5 : decode cB_isCounting 5 = .ok (.if_icmp .eq 11, 3) := by decide +kernel
theorem dB_isCounting_8 : decode cB_isCounting 8 = .ok (.aload_n 0, 1) := by decide +kernel
theorem dB_isCounting_9 : decode cB_isCounting 9 = .ok (.getfield 19, 3) := by decide +kernel
theorem dB_isCounting_12 : decode cB_isCounting 12 = .ok (.iconst 2, 1) := by decide +kernel
theorem dB_isCounting_13 : decode cB_isCounting 13 = .ok (.if_icmp .ne 7, 3) := by decide +kernel
theorem dB_isCounting_16 : decode cB_isCounting 16 = .ok (.iconst 1, 1) := by decide +kernel
theorem dB_isCounting_17 : decode cB_isCounting 17 = .ok (.goto 4, 3) := by decide +kernel
theorem dB_isCounting_20 : decode cB_isCounting 20 = .ok (.iconst 0, 1) := by decide +kernel
theorem dB_isCounting_21 : decode cB_isCounting 21 = .ok (.ireturn, 1) := by decide +kernel
theorem dB_seatsMissing_0 : decode cB_seatsMissing 0 = .ok (.aload_n 0, 1) := by decide +kernel
theorem dB_seatsMissing_1 : decode cB_seatsMissing 1 = .ok (.getfield 22, 3) := by decide +kernel
theorem dB_seatsMissing_4 : decode cB_seatsMissing 4 = .ok (.aload_n 0, 1) := by decide +kernel
theorem dB_seatsMissing_5 : decode cB_seatsMissing 5 = .ok (.getfield 25, 3) := by decide +kernel
theorem dB_seatsMissing_8 : decode cB_seatsMissing 8 = .ok (.isub, 1) := by decide +kernel
theorem dB_seatsMissing_9 : decode cB_seatsMissing 9 = .ok (.ireturn, 1) := by decide +kernel
theorem dB_paidFor_0 : decode cB_paidFor 0 = .ok (.aload_n 0, 1) := by decide +kernel
theorem dB_paidFor_1 : decode cB_paidFor 1 = .ok (.getfield 22, 3) := by decide +kernel
theorem dB_paidFor_4 : decode cB_paidFor 4 = .ok (.ifCond .le 17, 3) := by decide +kernel
theorem dB_paidFor_7 : decode cB_paidFor 7 = .ok (.aload_n 0, 1) := by decide +kernel
theorem dB_paidFor_8 : decode cB_paidFor 8 = .ok (.getfield 28, 3) := by decide +kernel
theorem dB_paidFor_11 : decode cB_paidFor 11 = .ok (.iload_n 1, 1) := by decide +kernel
theorem dB_paidFor_12 : decode cB_paidFor 12 = .ok (.imul, 1) := by decide +kernel
theorem dB_paidFor_13 : decode cB_paidFor 13 = .ok (.aload_n 0, 1) := by decide +kernel
theorem dB_paidFor_14 : decode cB_paidFor 14 = .ok (.getfield 22, 3) := by decide +kernel
theorem dB_paidFor_17 : decode cB_paidFor 17 = .ok (.idiv, 1) := by decide +kernel
theorem dB_paidFor_18 : decode cB_paidFor 18 = .ok (.goto 4, 3) := by decide +kernel
theorem dB_paidFor_21 : decode cB_paidFor 21 = .ok (.iconst 0, 1) := by decide +kernel
theorem dB_paidFor_22 : decode cB_paidFor 22 = .ok (.ireturn, 1) := by decide +kernel
theorem dK_init_0 : decode cK_init 0 = .ok (.aload_n 0, 1) := by decide +kernel
theorem dK_init_1 : decode cK_init 1 = .ok (.invokespecial 3, 3) := by decide +kernel
theorem dK_init_4 : decode cK_init 4 = .ok (.aload_n 0, 1) := by decide +kernel
theorem dK_init_5 : decode cK_init 5 = .ok (.iload_n 1, 1) := by decide +kernel
theorem dK_init_6 : decode cK_init 6 = .ok (.newarray .int, 2) := by decide +kernel
theorem dK_init_8 : decode cK_init 8 = .ok (.putfield 9, 3) := by decide +kernel
theorem dK_init_11 : decode cK_init 11 = .ok (.aload_n 0, 1) := by decide +kernel
theorem dK_init_12 : decode cK_init 12 = .ok (.getfield 9, 3) := by decide +kernel
theorem dK_init_15 : decode cK_init 15 = .ok (.iconst (-1), 1) := by decide +kernel
theorem dK_init_16 : decode cK_init 16 = .ok (.invokestatic 15, 3) := by decide +kernel
theorem dK_init_19 : decode cK_init 19 = .ok (.aload_n 0, 1) := by decide +kernel
theorem dK_init_20 : decode cK_init 20 = .ok (.iload_n 1, 1) := by decide +kernel
theorem dK_init_21 : decode cK_init 21 = .ok (.putfield 21, 3) := by decide +kernel
theorem dK_init_24 : decode cK_init 24 = .ok (.return_, 1) := by decide +kernel
theorem dK_hasSeat_0 : decode cK_hasSeat 0 = .ok (.iload_n 1, 1) := by decide +kernel
theorem dK_hasSeat_1 : decode cK_hasSeat 1 = .ok (.ifCond .lt 16, 3) := by decide +kernel
theorem dK_hasSeat_4 : decode cK_hasSeat 4 = .ok (.iload_n 1, 1) := by decide +kernel
theorem dK_hasSeat_5 : decode cK_hasSeat 5 = .ok (.aload_n 0, 1) := by decide +kernel
theorem dK_hasSeat_6 : decode cK_hasSeat 6 = .ok (.getfield 9, 3) := by decide +kernel
theorem dK_hasSeat_9 : decode cK_hasSeat 9 = .ok (.arraylength, 1) := by decide +kernel
theorem dK_hasSeat_10 : decode cK_hasSeat 10 = .ok (.if_icmp .ge 7, 3) := by decide +kernel
theorem dK_hasSeat_13 : decode cK_hasSeat 13 = .ok (.iconst 1, 1) := by decide +kernel
theorem dK_hasSeat_14 : decode cK_hasSeat 14 = .ok (.goto 4, 3) := by decide +kernel
theorem dK_hasSeat_17 : decode cK_hasSeat 17 = .ok (.iconst 0, 1) := by decide +kernel
theorem dK_hasSeat_18 : decode cK_hasSeat 18 = .ok (.ireturn, 1) := by decide +kernel
theorem dK_isFree_0 : decode cK_isFree 0 = .ok (.aload_n 0, 1) := by decide +kernel
theorem dK_isFree_1 : decode cK_isFree 1 = .ok (.getfield 9, 3) := by decide +kernel
theorem dK_isFree_4 : decode cK_isFree 4 = .ok (.iload_n 1, 1) := by decide +kernel
theorem dK_isFree_5 : decode cK_isFree 5 = .ok (.iaload, 1) := by decide +kernel
theorem dK_isFree_6 : decode cK_isFree 6 = .ok (.iconst (-1), 1) := by decide +kernel
theorem dK_isFree_7 : decode cK_isFree 7 = .ok (.if_icmp .ne 7, 3) := by decide +kernel
theorem dK_isFree_10 : decode cK_isFree 10 = .ok (.iconst 1, 1) := by decide +kernel
theorem dK_isFree_11 : decode cK_isFree 11 = .ok (.goto 4, 3) := by decide +kernel
theorem dK_isFree_14 : decode cK_isFree 14 = .ok (.iconst 0, 1) := by decide +kernel
theorem dK_isFree_15 : decode cK_isFree 15 = .ok (.ireturn, 1) := by decide +kernel
theorem dK_give_0 : decode cK_give 0 = .ok (.aload_n 0, 1) := by decide +kernel
theorem dK_give_1 : decode cK_give 1 = .ok (.getfield 9, 3) := by decide +kernel
theorem dK_give_4 : decode cK_give 4 = .ok (.iload_n 2, 1) := by decide +kernel
theorem dK_give_5 : decode cK_give 5 = .ok (.aload_n 1, 1) := by decide +kernel
theorem dK_give_6 : decode cK_give 6 = .ok (.getfield 25, 3) := by decide +kernel
theorem dK_give_9 : decode cK_give 9 = .ok (.iastore, 1) := by decide +kernel
theorem dK_give_10 : decode cK_give 10 = .ok (.aload_n 1, 1) := by decide +kernel
theorem dK_give_11 : decode cK_give 11 = .ok (.getfield 30, 3) := by decide +kernel
theorem dK_give_14 : decode cK_give 14 = .ok (.aload_n 1, 1) := by decide +kernel
theorem dK_give_15 : decode cK_give 15 = .ok (.getfield 33, 3) := by decide +kernel
theorem dK_give_18 : decode cK_give 18 = .ok (.iload_n 2, 1) := by decide +kernel
theorem dK_give_19 : decode cK_give 19 = .ok (.iastore, 1) := by decide +kernel
theorem dK_give_20 : decode cK_give 20 = .ok (.aload_n 1, 1) := by decide +kernel
theorem dK_give_21 : decode cK_give 21 = .ok (.dup, 1) := by decide +kernel
theorem dK_give_22 : decode cK_give 22 = .ok (.getfield 33, 3) := by decide +kernel
theorem dK_give_25 : decode cK_give 25 = .ok (.iconst 1, 1) := by decide +kernel
theorem dK_give_26 : decode cK_give 26 = .ok (.iadd, 1) := by decide +kernel
theorem dK_give_27 : decode cK_give 27 = .ok (.putfield 33, 3) := by decide +kernel
theorem dK_give_30 : decode cK_give 30 = .ok (.aload_n 0, 1) := by decide +kernel
theorem dK_give_31 : decode cK_give 31 = .ok (.dup, 1) := by decide +kernel
theorem dK_give_32 : decode cK_give 32 = .ok (.getfield 21, 3) := by decide +kernel
theorem dK_give_35 : decode cK_give 35 = .ok (.iconst 1, 1) := by decide +kernel
theorem dK_give_36 : decode cK_give 36 = .ok (.isub, 1) := by decide +kernel
theorem dK_give_37 : decode cK_give 37 = .ok (.putfield 21, 3) := by decide +kernel
theorem dK_give_40 : decode cK_give 40 = .ok (.return_, 1) := by decide +kernel
theorem dK_giveMissing_0 : decode cK_giveMissing 0 = .ok (.iload_n 2, 1) := by decide +kernel
theorem dK_giveMissing_1 : decode cK_giveMissing 1 = .ok (.istore_n 3, 1) := by decide +kernel
theorem dK_giveMissing_2 : decode cK_giveMissing 2 = .ok (.iload_n 3, 1) := by decide +kernel
theorem dK_giveMissing_3 : decode cK_giveMissing 3 = .ok (.aload_n 0, 1) := by decide +kernel
theorem dK_giveMissing_4 : decode cK_giveMissing 4 = .ok (.getfield 9, 3) := by decide +kernel
theorem dK_giveMissing_7 : decode cK_giveMissing 7 = .ok (.arraylength, 1) := by decide +kernel
theorem dK_giveMissing_8 : decode cK_giveMissing 8 = .ok (.if_icmp .ge 30, 3) := by decide +kernel
theorem dK_giveMissing_11 : decode cK_giveMissing 11 = .ok (.aload_n 1, 1) := by decide +kernel
theorem dK_giveMissing_12 : decode cK_giveMissing 12 = .ok (.invokevirtual 36, 3) := by decide +kernel
theorem dK_giveMissing_15 : decode cK_giveMissing 15 = .ok (.ifCond .le 23, 3) := by decide +kernel
theorem dK_giveMissing_18 : decode cK_giveMissing 18 = .ok (.aload_n 0, 1) := by decide +kernel
theorem dK_giveMissing_19 : decode cK_giveMissing 19 = .ok (.iload_n 3, 1) := by decide +kernel
theorem dK_giveMissing_20 : decode cK_giveMissing 20 = .ok (.invokevirtual 40, 3) := by decide +kernel
theorem dK_giveMissing_23 : decode cK_giveMissing 23 = .ok (.ifCond .eq 9, 3) := by decide +kernel
theorem dK_giveMissing_26 : decode cK_giveMissing 26 = .ok (.aload_n 0, 1) := by decide +kernel
theorem dK_giveMissing_27 : decode cK_giveMissing 27 = .ok (.aload_n 1, 1) := by decide +kernel
theorem dK_giveMissing_28 : decode cK_giveMissing 28 = .ok (.iload_n 3, 1) := by decide +kernel
theorem dK_giveMissing_29 : decode cK_giveMissing 29 = .ok (.invokevirtual 44, 3) := by decide +kernel
theorem dK_giveMissing_32 : decode cK_giveMissing 32 = .ok (.iinc 3 1, 3) := by decide +kernel
theorem dK_giveMissing_35 : decode cK_giveMissing 35 = .ok (.goto (-33), 3) := by decide +kernel
theorem dK_giveMissing_38 : decode cK_giveMissing 38 = .ok (.return_, 1) := by decide +kernel
theorem dK_takeAllBut_0 : decode cK_takeAllBut 0 = .ok (.aload_n 1, 1) := by decide +kernel
theorem dK_takeAllBut_1 : decode cK_takeAllBut 1 = .ok (.getfield 33, 3) := by decide +kernel
theorem dK_takeAllBut_4 : decode cK_takeAllBut 4 = .ok (.iload_n 2, 1) := by decide +kernel
theorem dK_takeAllBut_5 : decode cK_takeAllBut 5 = .ok (.if_icmp .le 41, 3) := by decide +kernel
theorem dK_takeAllBut_8 : decode cK_takeAllBut 8 = .ok (.aload_n 1, 1) := by decide +kernel
theorem dK_takeAllBut_9 : decode cK_takeAllBut 9 = .ok (.dup, 1) := by decide +kernel
theorem dK_takeAllBut_10 : decode cK_takeAllBut 10 = .ok (.getfield 33, 3) := by decide +kernel
theorem dK_takeAllBut_13 : decode cK_takeAllBut 13 = .ok (.iconst 1, 1) := by decide +kernel
theorem dK_takeAllBut_14 : decode cK_takeAllBut 14 = .ok (.isub, 1) := by decide +kernel
theorem dK_takeAllBut_15 : decode cK_takeAllBut 15 = .ok (.putfield 33, 3) := by decide +kernel
theorem dK_takeAllBut_18 : decode cK_takeAllBut 18 = .ok (.aload_n 0, 1) := by decide +kernel
theorem dK_takeAllBut_19 : decode cK_takeAllBut 19 = .ok (.getfield 9, 3) := by decide +kernel
theorem dK_takeAllBut_22 : decode cK_takeAllBut 22 = .ok (.aload_n 1, 1) := by decide +kernel
theorem dK_takeAllBut_23 : decode cK_takeAllBut 23 = .ok (.getfield 30, 3) := by decide +kernel
theorem dK_takeAllBut_26 : decode cK_takeAllBut 26 = .ok (.aload_n 1, 1) := by decide +kernel
theorem dK_takeAllBut_27 : decode cK_takeAllBut 27 = .ok (.getfield 33, 3) := by decide +kernel
theorem dK_takeAllBut_30 : decode cK_takeAllBut 30 = .ok (.iaload, 1) := by decide +kernel
theorem dK_takeAllBut_31 : decode cK_takeAllBut 31 = .ok (.iconst (-1), 1) := by decide +kernel
theorem dK_takeAllBut_32 : decode cK_takeAllBut 32 = .ok (.iastore, 1) := by decide +kernel
theorem dK_takeAllBut_33 : decode cK_takeAllBut 33 = .ok (.aload_n 0, 1) := by decide +kernel
theorem dK_takeAllBut_34 : decode cK_takeAllBut 34 = .ok (.dup, 1) := by decide +kernel
theorem dK_takeAllBut_35 : decode cK_takeAllBut 35 = .ok (.getfield 21, 3) := by decide +kernel
theorem dK_takeAllBut_38 : decode cK_takeAllBut 38 = .ok (.iconst 1, 1) := by decide +kernel
theorem dK_takeAllBut_39 : decode cK_takeAllBut 39 = .ok (.iadd, 1) := by decide +kernel
theorem dK_takeAllBut_40 : decode cK_takeAllBut 40 = .ok (.putfield 21, 3) := by decide +kernel
theorem dK_takeAllBut_43 : decode cK_takeAllBut 43 = .ok (.goto (-43), 3) := by decide +kernel
theorem dK_takeAllBut_46 : decode cK_takeAllBut 46 = .ok (.return_, 1) := by decide +kernel
theorem dK_bestStart_0 : decode cK_bestStart 0 = .ok (.aload_n 0, 1) := by decide +kernel
theorem dK_bestStart_1 : decode cK_bestStart 1 = .ok (.iload_n 1, 1) := by decide +kernel
theorem dK_bestStart_2 : decode cK_bestStart 2 = .ok (.iconst 3, 1) := by decide +kernel
theorem dK_bestStart_3 : decode cK_bestStart 3 = .ok (.invokevirtual 48, 3) := by decide +kernel
theorem dK_bestStart_6 : decode cK_bestStart 6 = .ok (.istore_n 2, 1) := by decide +kernel
theorem dK_bestStart_7 : decode cK_bestStart 7 = .ok (.iload_n 2, 1) := by decide +kernel
theorem dK_bestStart_8 : decode cK_bestStart 8 = .ok (.iconst (-1), 1) := by decide +kernel
theorem dK_bestStart_9 : decode cK_bestStart 9 = .ok (.if_icmp .ne 11, 3) := by decide +kernel
theorem dK_bestStart_12 : decode cK_bestStart 12 = .ok (.aload_n 0, 1) := by decide +kernel
theorem dK_bestStart_13 : decode cK_bestStart 13 = .ok (.iload_n 1, 1) := by decide +kernel
theorem dK_bestStart_14 : decode cK_bestStart 14 = .ok (.bipush 6, 2) := by decide +kernel
theorem dK_bestStart_16 : decode cK_bestStart 16 = .ok (.invokevirtual 48, 3) := by decide +kernel
theorem dK_bestStart_19 : decode cK_bestStart 19 = .ok (.istore_n 2, 1) := by decide +kernel
theorem dK_bestStart_20 : decode cK_bestStart 20 = .ok (.iload_n 2, 1) := by decide +kernel
theorem dK_bestStart_21 : decode cK_bestStart 21 = .ok (.iconst (-1), 1) := by decide +kernel
theorem dK_bestStart_22 : decode cK_bestStart 22 = .ok (.if_icmp .ne 12, 3) := by decide +kernel
theorem dK_bestStart_25 : decode cK_bestStart 25 = .ok (.aload_n 0, 1) := by decide +kernel
theorem dK_bestStart_26 : decode cK_bestStart 26 = .ok (.iconst 1, 1) := by decide +kernel
theorem dK_bestStart_27 : decode cK_bestStart 27 = .ok (.iconst 3, 1) := by decide +kernel
theorem dK_bestStart_28 : decode cK_bestStart 28 = .ok (.invokevirtual 48, 3) := by decide +kernel
theorem dK_bestStart_31 : decode cK_bestStart 31 = .ok (.goto 4, 3) := by decide +kernel
theorem dK_bestStart_34 : decode cK_bestStart 34 = .ok (.iload_n 2, 1) := by decide +kernel
theorem dK_bestStart_35 : decode cK_bestStart 35 = .ok (.ireturn, 1) := by decide +kernel
theorem dK_blockStart_0 : decode cK_blockStart 0 = .ok (.iconst 0, 1) := by decide +kernel
theorem dK_blockStart_1 : decode cK_blockStart 1 = .ok (.istore_n 3, 1) := by decide +kernel
theorem dK_blockStart_2 : decode cK_blockStart 2 = .ok (.iload_n 3, 1) := by decide +kernel
theorem dK_blockStart_3 : decode cK_blockStart 3 = .ok (.iload_n 2, 1) := by decide +kernel
theorem dK_blockStart_4 : decode cK_blockStart 4 = .ok (.iadd, 1) := by decide +kernel
theorem dK_blockStart_5 : decode cK_blockStart 5 = .ok (.aload_n 0, 1) := by decide +kernel
theorem dK_blockStart_6 : decode cK_blockStart 6 = .ok (.getfield 9, 3) := by decide +kernel
theorem dK_blockStart_9 : decode cK_blockStart 9 = .ok (.arraylength, 1) := by decide +kernel
theorem dK_blockStart_10 : decode cK_blockStart 10 = .ok (.if_icmp .gt 42, 3) := by decide +kernel
theorem dK_blockStart_13 : decode cK_blockStart 13 = .ok (.iload_n 3, 1) := by decide +kernel
theorem dK_blockStart_14 : decode cK_blockStart 14 = .ok (.istore 4, 2) := by decide +kernel
theorem dK_blockStart_16 : decode cK_blockStart 16 = .ok (.iload 4, 2) := by decide +kernel
theorem dK_blockStart_18 : decode cK_blockStart 18 = .ok (.iload_n 1, 1) := by decide +kernel
theorem dK_blockStart_19 : decode cK_blockStart 19 = .ok (.iadd, 1) := by decide +kernel
theorem dK_blockStart_20 : decode cK_blockStart 20 = .ok (.iload_n 3, 1) := by decide +kernel
theorem dK_blockStart_21 : decode cK_blockStart 21 = .ok (.iload_n 2, 1) := by decide +kernel
theorem dK_blockStart_22 : decode cK_blockStart 22 = .ok (.iadd, 1) := by decide +kernel
theorem dK_blockStart_23 : decode cK_blockStart 23 = .ok (.if_icmp .gt 22, 3) := by decide +kernel
theorem dK_blockStart_26 : decode cK_blockStart 26 = .ok (.aload_n 0, 1) := by decide +kernel
theorem dK_blockStart_27 : decode cK_blockStart 27 = .ok (.iload 4, 2) := by decide +kernel
theorem dK_blockStart_29 : decode cK_blockStart 29 = .ok (.iload_n 1, 1) := by decide +kernel
theorem dK_blockStart_30 : decode cK_blockStart 30 = .ok (.invokevirtual 52, 3) := by decide +kernel
theorem dK_blockStart_33 : decode cK_blockStart 33 = .ok (.ifCond .eq 6, 3) := by decide +kernel
theorem dK_blockStart_36 : decode cK_blockStart 36 = .ok (.iload 4, 2) := by decide +kernel
theorem dK_blockStart_38 : decode cK_blockStart 38 = .ok (.ireturn, 1) := by decide +kernel
theorem dK_blockStart_39 : decode cK_blockStart 39 = .ok (.iinc 4 1, 3) := by decide +kernel
theorem dK_blockStart_42 : decode cK_blockStart 42 = .ok (.goto (-26), 3) := by decide +kernel
theorem dK_blockStart_45 : decode cK_blockStart 45 = .ok (.iload_n 3, 1) := by decide +kernel
theorem dK_blockStart_46 : decode cK_blockStart 46 = .ok (.iload_n 2, 1) := by decide +kernel
theorem dK_blockStart_47 : decode cK_blockStart 47 = .ok (.iadd, 1) := by decide +kernel
theorem dK_blockStart_48 : decode cK_blockStart 48 = .ok (.istore_n 3, 1) := by decide +kernel
theorem dK_blockStart_49 : decode cK_blockStart 49 = .ok (.goto (-47), 3) := by decide +kernel
theorem dK_blockStart_52 : decode cK_blockStart 52 = .ok (.iconst (-1), 1) := by decide +kernel
theorem dK_blockStart_53 : decode cK_blockStart 53 = .ok (.ireturn, 1) := by decide +kernel
theorem dK_areFree_0 : decode cK_areFree 0 = .ok (.iload_n 1, 1) := by decide +kernel
theorem dK_areFree_1 : decode cK_areFree 1 = .ok (.istore_n 3, 1) := by decide +kernel
theorem dK_areFree_2 : decode cK_areFree 2 = .ok (.iload_n 3, 1) := by decide +kernel
theorem dK_areFree_3 : decode cK_areFree 3 = .ok (.iload_n 1, 1) := by decide +kernel
theorem dK_areFree_4 : decode cK_areFree 4 = .ok (.iload_n 2, 1) := by decide +kernel
theorem dK_areFree_5 : decode cK_areFree 5 = .ok (.iadd, 1) := by decide +kernel
theorem dK_areFree_6 : decode cK_areFree 6 = .ok (.if_icmp .ge 19, 3) := by decide +kernel
theorem dK_areFree_9 : decode cK_areFree 9 = .ok (.aload_n 0, 1) := by decide +kernel
theorem dK_areFree_10 : decode cK_areFree 10 = .ok (.iload_n 3, 1) := by decide +kernel
theorem dK_areFree_11 : decode cK_areFree 11 = .ok (.invokevirtual 40, 3) := by decide +kernel
theorem dK_areFree_14 : decode cK_areFree 14 = .ok (.ifCond .ne 5, 3) := by decide +kernel
theorem dK_areFree_17 : decode cK_areFree 17 = .ok (.iconst 0, 1) := by decide +kernel
theorem dK_areFree_18 : decode cK_areFree 18 = .ok (.ireturn, 1) := by decide +kernel
theorem dK_areFree_19 : decode cK_areFree 19 = .ok (.iinc 3 1, 3) := by decide +kernel
theorem dK_areFree_22 : decode cK_areFree 22 = .ok (.goto (-20), 3) := by decide +kernel
theorem dK_areFree_25 : decode cK_areFree 25 = .ok (.iconst 1, 1) := by decide +kernel
theorem dK_areFree_26 : decode cK_areFree 26 = .ok (.ireturn, 1) := by decide +kernel
theorem dF_init_0 : decode cF_init 0 = .ok (.aload_n 0, 1) := by decide +kernel
theorem dF_init_1 : decode cF_init 1 = .ok (.invokespecial 3, 3) := by decide +kernel
theorem dF_init_4 : decode cF_init 4 = .ok (.aload_n 0, 1) := by decide +kernel
theorem dF_init_5 : decode cF_init 5 = .ok (.iconst 4, 1) := by decide +kernel
theorem dF_init_6 : decode cF_init 6 = .ok (.newarray .int, 2) := by decide +kernel
theorem dF_init_8 : decode cF_init 8 = .ok (.putfield 9, 3) := by decide +kernel
theorem dF_init_11 : decode cF_init 11 = .ok (.aload_n 0, 1) := by decide +kernel
theorem dF_init_12 : decode cF_init 12 = .ok (.iconst 4, 1) := by decide +kernel
theorem dF_init_13 : decode cF_init 13 = .ok (.newarray .int, 2) := by decide +kernel
theorem dF_init_15 : decode cF_init 15 = .ok (.dup, 1) := by decide +kernel
theorem dF_init_16 : decode cF_init 16 = .ok (.iconst 0, 1) := by decide +kernel
theorem dF_init_17 : decode cF_init 17 = .ok (.sipush 400, 3) := by decide +kernel
theorem dF_init_20 : decode cF_init 20 = .ok (.iastore, 1) := by decide +kernel
theorem dF_init_21 : decode cF_init 21 = .ok (.dup, 1) := by decide +kernel
theorem dF_init_22 : decode cF_init 22 = .ok (.iconst 1, 1) := by decide +kernel
theorem dF_init_23 : decode cF_init 23 = .ok (.sipush 300, 3) := by decide +kernel
theorem dF_init_26 : decode cF_init 26 = .ok (.iastore, 1) := by decide +kernel
theorem dF_init_27 : decode cF_init 27 = .ok (.dup, 1) := by decide +kernel
theorem dF_init_28 : decode cF_init 28 = .ok (.iconst 2, 1) := by decide +kernel
theorem dF_init_29 : decode cF_init 29 = .ok (.sipush 200, 3) := by decide +kernel
theorem dF_init_32 : decode cF_init 32 = .ok (.iastore, 1) := by decide +kernel
theorem dF_init_33 : decode cF_init 33 = .ok (.dup, 1) := by decide +kernel
theorem dF_init_34 : decode cF_init 34 = .ok (.iconst 3, 1) := by decide +kernel
theorem dF_init_35 : decode cF_init 35 = .ok (.bipush 100, 2) := by decide +kernel
theorem dF_init_37 : decode cF_init 37 = .ok (.iastore, 1) := by decide +kernel
theorem dF_init_38 : decode cF_init 38 = .ok (.putfield 15, 3) := by decide +kernel
theorem dF_init_41 : decode cF_init 41 = .ok (.aload_n 0, 1) := by decide +kernel
theorem dF_init_42 : decode cF_init 42 = .ok (.iconst 4, 1) := by decide +kernel
theorem dF_init_43 : decode cF_init 43 = .ok (.newarray .int, 2) := by decide +kernel
theorem dF_init_45 : decode cF_init 45 = .ok (.putfield 18, 3) := by decide +kernel
theorem dF_init_48 : decode cF_init 48 = .ok (.aload_n 0, 1) := by decide +kernel
theorem dF_init_49 : decode cF_init 49 = .ok (.getfield 9, 3) := by decide +kernel
theorem dF_init_52 : decode cF_init 52 = .ok (.iload_n 1, 1) := by decide +kernel
theorem dF_init_53 : decode cF_init 53 = .ok (.invokestatic 21, 3) := by decide +kernel
theorem dF_init_56 : decode cF_init 56 = .ok (.return_, 1) := by decide +kernel
theorem dF_mayLimit_0 : decode cF_mayLimit 0 = .ok (.iload_n 2, 1) := by decide +kernel
theorem dF_mayLimit_1 : decode cF_mayLimit 1 = .ok (.ifCond .lt 9, 3) := by decide +kernel
theorem dF_mayLimit_4 : decode cF_mayLimit 4 = .ok (.iload_n 2, 1) := by decide +kernel
theorem dF_mayLimit_5 : decode cF_mayLimit 5 = .ok (.bipush 99, 2) := by decide +kernel
theorem dF_mayLimit_7 : decode cF_mayLimit 7 = .ok (.if_icmp .le 5, 3) := by decide +kernel
theorem dF_mayLimit_10 : decode cF_mayLimit 10 = .ok (.iconst 0, 1) := by decide +kernel
theorem dF_mayLimit_11 : decode cF_mayLimit 11 = .ok (.ireturn, 1) := by decide +kernel
theorem dF_mayLimit_12 : decode cF_mayLimit 12 = .ok (.iload_n 1, 1) := by decide +kernel
theorem dF_mayLimit_13 : decode cF_mayLimit 13 = .ok (.ifCond .le 17, 3) := by decide +kernel
theorem dF_mayLimit_16 : decode cF_mayLimit 16 = .ok (.iload_n 2, 1) := by decide +kernel
theorem dF_mayLimit_17 : decode cF_mayLimit 17 = .ok (.aload_n 0, 1) := by decide +kernel
theorem dF_mayLimit_18 : decode cF_mayLimit 18 = .ok (.getfield 9, 3) := by decide +kernel
theorem dF_mayLimit_21 : decode cF_mayLimit 21 = .ok (.iload_n 1, 1) := by decide +kernel
theorem dF_mayLimit_22 : decode cF_mayLimit 22 = .ok (.iconst 1, 1) := by decide +kernel
theorem dF_mayLimit_23 : decode cF_mayLimit 23 = .ok (.isub, 1) := by decide +kernel
theorem dF_mayLimit_24 : decode cF_mayLimit 24 = .ok (.iaload, 1) := by decide +kernel
theorem dF_mayLimit_25 : decode cF_mayLimit 25 = .ok (.if_icmp .le 5, 3) := by decide +kernel
theorem dF_mayLimit_28 : decode cF_mayLimit 28 = .ok (.iconst 0, 1) := by decide +kernel
theorem dF_mayLimit_29 : decode cF_mayLimit 29 = .ok (.ireturn, 1) := by decide +kernel
theorem dF_mayLimit_30 : decode cF_mayLimit 30 = .ok (.iload_n 1, 1) := by decide +kernel
theorem dF_mayLimit_31 : decode cF_mayLimit 31 = .ok (.iconst 3, 1) := by decide +kernel
theorem dF_mayLimit_32 : decode cF_mayLimit 32 = .ok (.if_icmp .eq 15, 3) := by decide +kernel
theorem dF_mayLimit_35 : decode cF_mayLimit 35 = .ok (.iload_n 2, 1) := by decide +kernel
theorem dF_mayLimit_36 : decode cF_mayLimit 36 = .ok (.aload_n 0, 1) := by decide +kernel
theorem dF_mayLimit_37 : decode cF_mayLimit 37 = .ok (.getfield 9, 3) := by decide +kernel
theorem dF_mayLimit_40 : decode cF_mayLimit 40 = .ok (.iload_n 1, 1) := by decide +kernel
theorem dF_mayLimit_41 : decode cF_mayLimit 41 = .ok (.iconst 1, 1) := by decide +kernel
theorem dF_mayLimit_42 : decode cF_mayLimit 42 = .ok (.iadd, 1) := by decide +kernel
theorem dF_mayLimit_43 : decode cF_mayLimit 43 = .ok (.iaload, 1) := by decide +kernel
theorem dF_mayLimit_44 : decode cF_mayLimit 44 = .ok (.if_icmp .lt 7, 3) := by decide +kernel
theorem dF_mayLimit_47 : decode cF_mayLimit 47 = .ok (.iconst 1, 1) := by decide +kernel
theorem dF_mayLimit_48 : decode cF_mayLimit 48 = .ok (.goto 4, 3) := by decide +kernel
theorem dF_mayLimit_51 : decode cF_mayLimit 51 = .ok (.iconst 0, 1) := by decide +kernel
theorem dF_mayLimit_52 : decode cF_mayLimit 52 = .ok (.ireturn, 1) := by decide +kernel
theorem dF_shareFrom_0 : decode cF_shareFrom 0 = .ok (.iconst 0, 1) := by decide +kernel
theorem dF_shareFrom_1 : decode cF_shareFrom 1 = .ok (.istore_n 2, 1) := by decide +kernel
theorem dF_shareFrom_2 : decode cF_shareFrom 2 = .ok (.iload_n 1, 1) := by decide +kernel
theorem dF_shareFrom_3 : decode cF_shareFrom 3 = .ok (.istore_n 3, 1) := by decide +kernel
theorem dF_shareFrom_4 : decode cF_shareFrom 4 = .ok (.iload_n 3, 1) := by decide +kernel
theorem dF_shareFrom_5 : decode cF_shareFrom 5 = .ok (.iconst 4, 1) := by decide +kernel
theorem dF_shareFrom_6 : decode cF_shareFrom 6 = .ok (.if_icmp .ge 18, 3) := by decide +kernel
theorem dF_shareFrom_9 : decode cF_shareFrom 9 = .ok (.iload_n 2, 1) := by decide +kernel
theorem dF_shareFrom_10 : decode cF_shareFrom 10 = .ok (.aload_n 0, 1) := by decide +kernel
theorem dF_shareFrom_11 : decode cF_shareFrom 11 = .ok (.getfield 18, 3) := by decide +kernel
theorem dF_shareFrom_14 : decode cF_shareFrom 14 = .ok (.iload_n 3, 1) := by decide +kernel
theorem dF_shareFrom_15 : decode cF_shareFrom 15 = .ok (.iaload, 1) := by decide +kernel
theorem dF_shareFrom_16 : decode cF_shareFrom 16 = .ok (.iadd, 1) := by decide +kernel
theorem dF_shareFrom_17 : decode cF_shareFrom 17 = .ok (.istore_n 2, 1) := by decide +kernel
theorem dF_shareFrom_18 : decode cF_shareFrom 18 = .ok (.iinc 3 1, 3) := by decide +kernel
theorem dF_shareFrom_21 : decode cF_shareFrom 21 = .ok (.goto (-17), 3) := by decide +kernel
theorem dF_shareFrom_24 : decode cF_shareFrom 24 = .ok (.iload_n 2, 1) := by decide +kernel
theorem dF_shareFrom_25 : decode cF_shareFrom 25 = .ok (.ireturn, 1) := by decide +kernel
theorem dF_roomIn_0 : decode cF_roomIn 0 = .ok (.aload_n 0, 1) := by decide +kernel
theorem dF_roomIn_1 : decode cF_roomIn 1 = .ok (.getfield 9, 3) := by decide +kernel
theorem dF_roomIn_4 : decode cF_roomIn 4 = .ok (.iconst 0, 1) := by decide +kernel
theorem dF_roomIn_5 : decode cF_roomIn 5 = .ok (.iaload, 1) := by decide +kernel
theorem dF_roomIn_6 : decode cF_roomIn 6 = .ok (.aload_n 0, 1) := by decide +kernel
theorem dF_roomIn_7 : decode cF_roomIn 7 = .ok (.iconst 0, 1) := by decide +kernel
theorem dF_roomIn_8 : decode cF_roomIn 8 = .ok (.invokevirtual 27, 3) := by decide +kernel
theorem dF_roomIn_11 : decode cF_roomIn 11 = .ok (.isub, 1) := by decide +kernel
theorem dF_roomIn_12 : decode cF_roomIn 12 = .ok (.istore_n 2, 1) := by decide +kernel
theorem dF_roomIn_13 : decode cF_roomIn 13 = .ok (.iconst 1, 1) := by decide +kernel
theorem dF_roomIn_14 : decode cF_roomIn 14 = .ok (.istore_n 3, 1) := by decide +kernel
theorem dF_roomIn_15 : decode cF_roomIn 15 = .ok (.iload_n 3, 1) := by decide +kernel
theorem dF_roomIn_16 : decode cF_roomIn 16 = .ok (.iload_n 1, 1) := by decide +kernel
theorem dF_roomIn_17 : decode cF_roomIn 17 = .ok (.if_icmp .gt 26, 3) := by decide +kernel
theorem dF_roomIn_20 : decode cF_roomIn 20 = .ok (.iload_n 2, 1) := by decide +kernel
theorem dF_roomIn_21 : decode cF_roomIn 21 = .ok (.aload_n 0, 1) := by decide +kernel
theorem dF_roomIn_22 : decode cF_roomIn 22 = .ok (.getfield 9, 3) := by decide +kernel
theorem dF_roomIn_25 : decode cF_roomIn 25 = .ok (.iload_n 3, 1) := by decide +kernel
theorem dF_roomIn_26 : decode cF_roomIn 26 = .ok (.iaload, 1) := by decide +kernel
theorem dF_roomIn_27 : decode cF_roomIn 27 = .ok (.aload_n 0, 1) := by decide +kernel
theorem dF_roomIn_28 : decode cF_roomIn 28 = .ok (.iload_n 3, 1) := by decide +kernel
theorem dF_roomIn_29 : decode cF_roomIn 29 = .ok (.invokevirtual 27, 3) := by decide +kernel
theorem dF_roomIn_32 : decode cF_roomIn 32 = .ok (.isub, 1) := by decide +kernel
theorem dF_roomIn_33 : decode cF_roomIn 33 = .ok (.invokestatic 31, 3) := by decide +kernel
theorem dF_roomIn_36 : decode cF_roomIn 36 = .ok (.istore_n 2, 1) := by decide +kernel
theorem dF_roomIn_37 : decode cF_roomIn 37 = .ok (.iinc 3 1, 3) := by decide +kernel
theorem dF_roomIn_40 : decode cF_roomIn 40 = .ok (.goto (-25), 3) := by decide +kernel
theorem dF_roomIn_43 : decode cF_roomIn 43 = .ok (.iload_n 2, 1) := by decide +kernel
theorem dF_roomIn_44 : decode cF_roomIn 44 = .ok (.ireturn, 1) := by decide +kernel
theorem dF_roomWithout_0 : decode cF_roomWithout 0 = .ok (.aload_n 0, 1) := by decide +kernel
theorem dF_roomWithout_1 : decode cF_roomWithout 1 = .ok (.getfield 18, 3) := by decide +kernel
theorem dF_roomWithout_4 : decode cF_roomWithout 4 = .ok (.aload_n 1, 1) := by decide +kernel
theorem dF_roomWithout_5 : decode cF_roomWithout 5 = .ok (.getfield 37, 3) := by decide +kernel
theorem dF_roomWithout_8 : decode cF_roomWithout 8 = .ok (.dup2, 1) := by decide +kernel
theorem dF_roomWithout_9 : decode cF_roomWithout 9 = .ok (.iaload, 1) := by decide +kernel
theorem dF_roomWithout_10 : decode cF_roomWithout 10 = .ok (.aload_n 1, 1) := by decide +kernel
theorem dF_roomWithout_11 : decode cF_roomWithout 11 = .ok (.getfield 43, 3) := by decide +kernel
theorem dF_roomWithout_14 : decode cF_roomWithout 14 = .ok (.isub, 1) := by decide +kernel
theorem dF_roomWithout_15 : decode cF_roomWithout 15 = .ok (.iastore, 1) := by decide +kernel
theorem dF_roomWithout_16 : decode cF_roomWithout 16 = .ok (.aload_n 0, 1) := by decide +kernel
theorem dF_roomWithout_17 : decode cF_roomWithout 17 = .ok (.iload_n 2, 1) := by decide +kernel
theorem dF_roomWithout_18 : decode cF_roomWithout 18 = .ok (.invokevirtual 46, 3) := by decide +kernel
theorem dF_roomWithout_21 : decode cF_roomWithout 21 = .ok (.istore_n 3, 1) := by decide +kernel
theorem dF_roomWithout_22 : decode cF_roomWithout 22 = .ok (.aload_n 0, 1) := by decide +kernel
theorem dF_roomWithout_23 : decode cF_roomWithout 23 = .ok (.getfield 18, 3) := by decide +kernel
theorem dF_roomWithout_26 : decode cF_roomWithout 26 = .ok (.aload_n 1, 1) := by decide +kernel
theorem dF_roomWithout_27 : decode cF_roomWithout 27 = .ok (.getfield 37, 3) := by decide +kernel
theorem dF_roomWithout_30 : decode cF_roomWithout 30 = .ok (.dup2, 1) := by decide +kernel
theorem dF_roomWithout_31 : decode cF_roomWithout 31 = .ok (.iaload, 1) := by decide +kernel
theorem dF_roomWithout_32 : decode cF_roomWithout 32 = .ok (.aload_n 1, 1) := by decide +kernel
theorem dF_roomWithout_33 : decode cF_roomWithout 33 = .ok (.getfield 43, 3) := by decide +kernel
theorem dF_roomWithout_36 : decode cF_roomWithout 36 = .ok (.iadd, 1) := by decide +kernel
theorem dF_roomWithout_37 : decode cF_roomWithout 37 = .ok (.iastore, 1) := by decide +kernel
theorem dF_roomWithout_38 : decode cF_roomWithout 38 = .ok (.iload_n 3, 1) := by decide +kernel
theorem dF_roomWithout_39 : decode cF_roomWithout 39 = .ok (.ireturn, 1) := by decide +kernel
theorem dF_partBack_0 : decode cF_partBack 0 = .ok (.iload_n 1, 1) := by decide +kernel
theorem dF_partBack_1 : decode cF_partBack 1 = .ok (.tableswitch 41 0 2 #[27, 29, 35], 27) := by decide +kernel
theorem dF_partBack_28 : decode cF_partBack 28 = .ok (.iload_n 2, 1) := by decide +kernel
theorem dF_partBack_29 : decode cF_partBack 29 = .ok (.ireturn, 1) := by decide +kernel
theorem dF_partBack_30 : decode cF_partBack 30 = .ok (.iload_n 2, 1) := by decide +kernel
theorem dF_partBack_31 : decode cF_partBack 31 = .ok (.iconst 3, 1) := by decide +kernel
theorem dF_partBack_32 : decode cF_partBack 32 = .ok (.imul, 1) := by decide +kernel
theorem dF_partBack_33 : decode cF_partBack 33 = .ok (.iconst 4, 1) := by decide +kernel
theorem dF_partBack_34 : decode cF_partBack 34 = .ok (.idiv, 1) := by decide +kernel
theorem dF_partBack_35 : decode cF_partBack 35 = .ok (.ireturn, 1) := by decide +kernel
theorem dF_partBack_36 : decode cF_partBack 36 = .ok (.iload_n 2, 1) := by decide +kernel
theorem dF_partBack_37 : decode cF_partBack 37 = .ok (.iconst 2, 1) := by decide +kernel
theorem dF_partBack_38 : decode cF_partBack 38 = .ok (.imul, 1) := by decide +kernel
theorem dF_partBack_39 : decode cF_partBack 39 = .ok (.iconst 4, 1) := by decide +kernel
theorem dF_partBack_40 : decode cF_partBack 40 = .ok (.idiv, 1) := by decide +kernel
theorem dF_partBack_41 : decode cF_partBack 41 = .ok (.ireturn, 1) := by decide +kernel
theorem dF_partBack_42 : decode cF_partBack 42 = .ok (.iconst 0, 1) := by decide +kernel
theorem dF_partBack_43 : decode cF_partBack 43 = .ok (.ireturn, 1) := by decide +kernel
