theorem dM_init_0 : decode cM_init 0 = .ok (.aload_n 0, 1) := by decide +kernel
theorem dM_init_1 : decode cM_init 1 = .ok (.invokespecial 1, 3) := by decide +kernel
theorem dM_init_4 : decode cM_init 4 = .ok (.aload_n 0, 1) := by decide +kernel
theorem dM_init_5 : decode cM_init 5 = .ok (.iconst 4, 1) := by decide +kernel
theorem dM_init_6 : decode cM_init 6 = .ok (.newarray .int, 2) := by decide +kernel
theorem dM_init_8 : decode cM_init 8 = .ok (.putfield 7, 3) := by decide +kernel
theorem dM_init_11 : decode cM_init 11 = .ok (.aload_n 0, 1) := by decide +kernel
theorem dM_init_12 : decode cM_init 12 = .ok (.iconst 4, 1) := by decide +kernel
theorem dM_init_13 : decode cM_init 13 = .ok (.newarray .int, 2) := by decide +kernel
theorem dM_init_15 : decode cM_init 15 = .ok (.putfield 13, 3) := by decide +kernel
theorem dM_init_18 : decode cM_init 18 = .ok (.aload_n 0, 1) := by decide +kernel
theorem dM_init_19 : decode cM_init 19 = .ok (.bipush 60, 2) := by decide +kernel
theorem dM_init_21 : decode cM_init 21 = .ok (.newarray .int, 2) := by decide +kernel
theorem dM_init_23 : decode cM_init 23 = .ok (.putfield 16, 3) := by decide +kernel
theorem dM_init_26 : decode cM_init 26 = .ok (.aload_n 0, 1) := by decide +kernel
theorem dM_init_27 : decode cM_init 27 = .ok (.bipush 60, 2) := by decide +kernel
theorem dM_init_29 : decode cM_init 29 = .ok (.newarray .int, 2) := by decide +kernel
theorem dM_init_31 : decode cM_init 31 = .ok (.putfield 19, 3) := by decide +kernel
theorem dM_init_34 : decode cM_init 34 = .ok (.aload_n 0, 1) := by decide +kernel
theorem dM_init_35 : decode cM_init 35 = .ok (.bipush 60, 2) := by decide +kernel
theorem dM_init_37 : decode cM_init 37 = .ok (.newarray .int, 2) := by decide +kernel
theorem dM_init_39 : decode cM_init 39 = .ok (.putfield 22, 3) := by decide +kernel
theorem dM_init_42 : decode cM_init 42 = .ok (.aload_n 0, 1) := by decide +kernel
theorem dM_init_43 : decode cM_init 43 = .ok (.bipush 60, 2) := by decide +kernel
theorem dM_init_45 : decode cM_init 45 = .ok (.newarray .int, 2) := by decide +kernel
theorem dM_init_47 : decode cM_init 47 = .ok (.putfield 25, 3) := by decide +kernel
theorem dM_init_50 : decode cM_init 50 = .ok (.aload_n 0, 1) := by decide +kernel
theorem dM_init_51 : decode cM_init 51 = .ok (.bipush 60, 2) := by decide +kernel
theorem dM_init_53 : decode cM_init 53 = .ok (.newarray .int, 2) := by decide +kernel
theorem dM_init_55 : decode cM_init 55 = .ok (.putfield 28, 3) := by decide +kernel
theorem dM_init_58 : decode cM_init 58 = .ok (.aload_n 0, 1) := by decide +kernel
theorem dM_init_59 : decode cM_init 59 = .ok (.bipush 60, 2) := by decide +kernel
theorem dM_init_61 : decode cM_init 61 = .ok (.newarray .int, 2) := by decide +kernel
theorem dM_init_63 : decode cM_init 63 = .ok (.putfield 31, 3) := by decide +kernel
theorem dM_init_66 : decode cM_init 66 = .ok (.aload_n 0, 1) := by decide +kernel
theorem dM_init_67 : decode cM_init 67 = .ok (.bipush 60, 2) := by decide +kernel
theorem dM_init_69 : decode cM_init 69 = .ok (.newarray .int, 2) := by decide +kernel
theorem dM_init_71 : decode cM_init 71 = .ok (.putfield 34, 3) := by decide +kernel
theorem dM_init_74 : decode cM_init 74 = .ok (.aload_n 0, 1) := by decide +kernel
theorem dM_init_75 : decode cM_init 75 = .ok (.sipush 360, 3) := by decide +kernel
theorem dM_init_78 : decode cM_init 78 = .ok (.newarray .int, 2) := by decide +kernel
theorem dM_init_80 : decode cM_init 80 = .ok (.putfield 37, 3) := by decide +kernel
theorem dM_init_83 : decode cM_init 83 = .ok (.aload_n 0, 1) := by decide +kernel
theorem dM_init_84 : decode cM_init 84 = .ok (.bipush 60, 2) := by decide +kernel
theorem dM_init_86 : decode cM_init 86 = .ok (.newarray .int, 2) := by decide +kernel
theorem dM_init_88 : decode cM_init 88 = .ok (.putfield 40, 3) := by decide +kernel
theorem dM_init_91 : decode cM_init 91 = .ok (.aload_n 0, 1) := by decide +kernel
theorem dM_init_92 : decode cM_init 92 = .ok (.bipush 6, 2) := by decide +kernel
theorem dM_init_94 : decode cM_init 94 = .ok (.iload_n 1, 1) := by decide +kernel
theorem dM_init_95 : decode cM_init 95 = .ok (.iconst 1, 1) := by decide +kernel
theorem dM_init_96 : decode cM_init 96 = .ok (.if_icmp .ge 7, 3) := by decide +kernel
theorem dM_init_99 : decode cM_init 99 = .ok (.iconst 1, 1) := by decide +kernel
theorem dM_init_100 : decode cM_init 100 = .ok (.goto 15, 3) := by decide +kernel
theorem dM_init_103 : decode cM_init 103 = .ok (.iload_n 1, 1) := by decide +kernel
theorem dM_init_104 : decode cM_init 104 = .ok (.bipush 10, 2) := by decide +kernel
theorem dM_init_106 : decode cM_init 106 = .ok (.if_icmp .le 8, 3) := by decide +kernel
theorem dM_init_109 : decode cM_init 109 = .ok (.bipush 10, 2) := by decide +kernel
theorem dM_init_111 : decode cM_init 111 = .ok (.goto 4, 3) := by decide +kernel
theorem dM_init_114 : decode cM_init 114 = .ok (.iload_n 1, 1) := by decide +kernel
theorem dM_init_115 : decode cM_init 115 = .ok (.imul, 1) := by decide +kernel
theorem dM_init_116 : decode cM_init 116 = .ok (.putfield 43, 3) := by decide +kernel
theorem dM_init_119 : decode cM_init 119 = .ok (.iconst 0, 1) := by decide +kernel
theorem dM_init_120 : decode cM_init 120 = .ok (.istore_n 2, 1) := by decide +kernel
theorem dM_init_121 : decode cM_init 121 = .ok (.iload_n 2, 1) := by decide +kernel
theorem dM_init_122 : decode cM_init 122 = .ok (.iconst 4, 1) := by decide +kernel
theorem dM_init_123 : decode cM_init 123 = .ok (.if_icmp .ge 33, 3) := by decide +kernel
theorem dM_init_126 : decode cM_init 126 = .ok (.aload_n 0, 1) := by decide +kernel
theorem dM_init_127 : decode cM_init 127 = .ok (.getfield 7, 3) := by decide +kernel
theorem dM_init_130 : decode cM_init 130 = .ok (.iload_n 2, 1) := by decide +kernel
theorem dM_init_131 : decode cM_init 131 = .ok (.sipush 400, 3) := by decide +kernel
theorem dM_init_134 : decode cM_init 134 = .ok (.bipush 100, 2) := by decide +kernel
theorem dM_init_136 : decode cM_init 136 = .ok (.iload_n 2, 1) := by decide +kernel
theorem dM_init_137 : decode cM_init 137 = .ok (.imul, 1) := by decide +kernel
theorem dM_init_138 : decode cM_init 138 = .ok (.isub, 1) := by decide +kernel
theorem dM_init_139 : decode cM_init 139 = .ok (.iastore, 1) := by decide +kernel
theorem dM_init_140 : decode cM_init 140 = .ok (.aload_n 0, 1) := by decide +kernel
theorem dM_init_141 : decode cM_init 141 = .ok (.getfield 13, 3) := by decide +kernel
theorem dM_init_144 : decode cM_init 144 = .ok (.iload_n 2, 1) := by decide +kernel
theorem dM_init_145 : decode cM_init 145 = .ok (.aload_n 0, 1) := by decide +kernel
theorem dM_init_146 : decode cM_init 146 = .ok (.getfield 43, 3) := by decide +kernel
theorem dM_init_149 : decode cM_init 149 = .ok (.iastore, 1) := by decide +kernel
theorem dM_init_150 : decode cM_init 150 = .ok (.iinc 2 1, 3) := by decide +kernel
theorem dM_init_153 : decode cM_init 153 = .ok (.goto (-32), 3) := by decide +kernel
theorem dM_init_156 : decode cM_init 156 = .ok (.return_, 1) := by decide +kernel
theorem dM_thrown_0 : decode cM_thrown 0 = .ok (.aload_n 0, 1) := by decide +kernel
theorem dM_thrown_1 : decode cM_thrown 1 = .ok (.getfield 47, 3) := by decide +kernel
theorem dM_thrown_4 : decode cM_thrown 4 = .ok (.ireturn, 1) := by decide +kernel
theorem dM_noFare_0 : decode cM_noFare 0 = .ok (.iload_n 1, 1) := by decide +kernel
theorem dM_noFare_1 : decode cM_noFare 1 = .ok (.ifCond .lt 8, 3) := by decide +kernel
theorem dM_noFare_4 : decode cM_noFare 4 = .ok (.iload_n 1, 1) := by decide +kernel
theorem dM_noFare_5 : decode cM_noFare 5 = .ok (.iconst 3, 1) := by decide +kernel
theorem dM_noFare_6 : decode cM_noFare 6 = .ok (.if_icmp .le 7, 3) := by decide +kernel
theorem dM_noFare_9 : decode cM_noFare 9 = .ok (.iconst 1, 1) := by decide +kernel
theorem dM_noFare_10 : decode cM_noFare 10 = .ok (.goto 4, 3) := by decide +kernel
theorem dM_noFare_13 : decode cM_noFare 13 = .ok (.iconst 0, 1) := by decide +kernel
theorem dM_noFare_14 : decode cM_noFare 14 = .ok (.ireturn, 1) := by decide +kernel
theorem dM_noBooking_0 : decode cM_noBooking 0 = .ok (.iload_n 1, 1) := by decide +kernel
theorem dM_noBooking_1 : decode cM_noBooking 1 = .ok (.ifCond .lt 11, 3) := by decide +kernel
theorem dM_noBooking_4 : decode cM_noBooking 4 = .ok (.iload_n 1, 1) := by decide +kernel
theorem dM_noBooking_5 : decode cM_noBooking 5 = .ok (.aload_n 0, 1) := by decide +kernel
theorem dM_noBooking_6 : decode cM_noBooking 6 = .ok (.getfield 50, 3) := by decide +kernel
theorem dM_noBooking_9 : decode cM_noBooking 9 = .ok (.if_icmp .lt 7, 3) := by decide +kernel
theorem dM_noBooking_12 : decode cM_noBooking 12 = .ok (.iconst 1, 1) := by decide +kernel
theorem dM_noBooking_13 : decode cM_noBooking 13 = .ok (.goto 4, 3) := by decide +kernel
theorem dM_noBooking_16 : decode cM_noBooking 16 = .ok (.iconst 0, 1) := by decide +kernel
theorem dM_noBooking_17 : decode cM_noBooking 17 = .ok (.ireturn, 1) := by decide +kernel
theorem dM_counts_0 : decode cM_counts 0 = .ok (.aload_n 0, 1) := by decide +kernel
theorem dM_counts_1 : decode cM_counts 1 = .ok (.getfield 16, 3) := by decide +kernel
theorem dM_counts_4 : decode cM_counts 4 = .ok (.iload_n 1, 1) := by decide +kernel
theorem dM_counts_5 : decode cM_counts 5 = .ok (.iaload, 1) := by decide +kernel
theorem dM_counts_6 : decode cM_counts 6 = .ok (.iconst 1, 1) := by decide +kernel
theorem dM_counts_7 : decode cM_counts 7 = .ok (.if_icmp .eq 13, 3) := by decide +kernel
theorem dM_counts_10 : decode cM_counts 10 = .ok (.aload_n 0, 1) := by decide +kernel
theorem dM_counts_11 : decode cM_counts 11 = .ok (.getfield 16, 3) := by decide +kernel
theorem dM_counts_14 : decode cM_counts 14 = .ok (.iload_n 1, 1) := by decide +kernel
theorem dM_counts_15 : decode cM_counts 15 = .ok (.iaload, 1) := by decide +kernel
theorem dM_counts_16 : decode cM_counts 16 = .ok (.iconst 2, 1) := by decide +kernel
theorem dM_counts_17 : decode cM_counts 17 = .ok (.if_icmp .ne 7, 3) := by decide +kernel
theorem dM_counts_20 : decode cM_counts 20 = .ok (.iconst 1, 1) := by decide +kernel
theorem dM_counts_21 : decode cM_counts 21 = .ok (.goto 4, 3) := by decide +kernel
theorem dM_counts_24 : decode cM_counts 24 = .ok (.iconst 0, 1) := by decide +kernel
theorem dM_counts_25 : decode cM_counts 25 = .ok (.ireturn, 1) := by decide +kernel
theorem dM_roomOf_0 : decode cM_roomOf 0 = .ok (.sipush 1000, 3) := by decide +kernel
theorem dM_roomOf_3 : decode cM_roomOf 3 = .ok (.istore_n 3, 1) := by decide +kernel
theorem dM_roomOf_4 : decode cM_roomOf 4 = .ok (.iconst 0, 1) := by decide +kernel
theorem dM_roomOf_5 : decode cM_roomOf 5 = .ok (.istore 4, 2) := by decide +kernel
theorem dM_roomOf_7 : decode cM_roomOf 7 = .ok (.iload 4, 2) := by decide +kernel
theorem dM_roomOf_9 : decode cM_roomOf 9 = .ok (.iload_n 1, 1) := by decide +kernel
theorem dM_roomOf_10 : decode cM_roomOf 10 = .ok (.if_icmp .gt 116, 3) := by decide +kernel
theorem dM_roomOf_13 : decode cM_roomOf 13 = .ok (.aload_n 0, 1) := by decide +kernel
theorem dM_roomOf_14 : decode cM_roomOf 14 = .ok (.getfield 13, 3) := by decide +kernel
theorem dM_roomOf_17 : decode cM_roomOf 17 = .ok (.iload 4, 2) := by decide +kernel
theorem dM_roomOf_19 : decode cM_roomOf 19 = .ok (.iaload, 1) := by decide +kernel
theorem dM_roomOf_20 : decode cM_roomOf 20 = .ok (.istore 5, 2) := by decide +kernel
theorem dM_roomOf_22 : decode cM_roomOf 22 = .ok (.iconst 0, 1) := by decide +kernel
theorem dM_roomOf_23 : decode cM_roomOf 23 = .ok (.istore 6, 2) := by decide +kernel
theorem dM_roomOf_25 : decode cM_roomOf 25 = .ok (.iload 6, 2) := by decide +kernel
theorem dM_roomOf_27 : decode cM_roomOf 27 = .ok (.aload_n 0, 1) := by decide +kernel
theorem dM_roomOf_28 : decode cM_roomOf 28 = .ok (.getfield 50, 3) := by decide +kernel
theorem dM_roomOf_31 : decode cM_roomOf 31 = .ok (.if_icmp .ge 76, 3) := by decide +kernel
theorem dM_roomOf_34 : decode cM_roomOf 34 = .ok (.aload_n 0, 1) := by decide +kernel
theorem dM_roomOf_35 : decode cM_roomOf 35 = .ok (.iload 6, 2) := by decide +kernel
theorem dM_roomOf_37 : decode cM_roomOf 37 = .ok (.invokevirtual 53, 3) := by decide +kernel
theorem dM_roomOf_40 : decode cM_roomOf 40 = .ok (.ifCond .ne 15, 3) := by decide +kernel
theorem dM_roomOf_43 : decode cM_roomOf 43 = .ok (.aload_n 0, 1) := by decide +kernel
theorem dM_roomOf_44 : decode cM_roomOf 44 = .ok (.getfield 16, 3) := by decide +kernel
theorem dM_roomOf_47 : decode cM_roomOf 47 = .ok (.iload 6, 2) := by decide +kernel
theorem dM_roomOf_49 : decode cM_roomOf 49 = .ok (.iaload, 1) := by decide +kernel
theorem dM_roomOf_50 : decode cM_roomOf 50 = .ok (.bipush 6, 2) := by decide +kernel
theorem dM_roomOf_52 : decode cM_roomOf 52 = .ok (.if_icmp .ne 7, 3) := by decide +kernel
theorem dM_roomOf_55 : decode cM_roomOf 55 = .ok (.iconst 1, 1) := by decide +kernel
theorem dM_roomOf_56 : decode cM_roomOf 56 = .ok (.goto 4, 3) := by decide +kernel
theorem dM_roomOf_59 : decode cM_roomOf 59 = .ok (.iconst 0, 1) := by decide +kernel
theorem dM_roomOf_60 : decode cM_roomOf 60 = .ok (.istore 7, 2) := by decide +kernel
theorem dM_roomOf_62 : decode cM_roomOf 62 = .ok (.iload 5, 2) := by decide +kernel
theorem dM_roomOf_64 : decode cM_roomOf 64 = .ok (.iload 7, 2) := by decide +kernel
theorem dM_roomOf_66 : decode cM_roomOf 66 = .ok (.ifCond .eq 31, 3) := by decide +kernel
theorem dM_roomOf_69 : decode cM_roomOf 69 = .ok (.aload_n 0, 1) := by decide +kernel
theorem dM_roomOf_70 : decode cM_roomOf 70 = .ok (.getfield 19, 3) := by decide +kernel
theorem dM_roomOf_73 : decode cM_roomOf 73 = .ok (.iload 6, 2) := by decide +kernel
theorem dM_roomOf_75 : decode cM_roomOf 75 = .ok (.iaload, 1) := by decide +kernel
theorem dM_roomOf_76 : decode cM_roomOf 76 = .ok (.iload 4, 2) := by decide +kernel
theorem dM_roomOf_78 : decode cM_roomOf 78 = .ok (.if_icmp .lt 19, 3) := by decide +kernel
theorem dM_roomOf_81 : decode cM_roomOf 81 = .ok (.iload 6, 2) := by decide +kernel
theorem dM_roomOf_83 : decode cM_roomOf 83 = .ok (.iload_n 2, 1) := by decide +kernel
theorem dM_roomOf_84 : decode cM_roomOf 84 = .ok (.if_icmp .eq 13, 3) := by decide +kernel
theorem dM_roomOf_87 : decode cM_roomOf 87 = .ok (.aload_n 0, 1) := by decide +kernel
theorem dM_roomOf_88 : decode cM_roomOf 88 = .ok (.getfield 22, 3) := by decide +kernel
theorem dM_roomOf_91 : decode cM_roomOf 91 = .ok (.iload 6, 2) := by decide +kernel
theorem dM_roomOf_93 : decode cM_roomOf 93 = .ok (.iaload, 1) := by decide +kernel
theorem dM_roomOf_94 : decode cM_roomOf 94 = .ok (.goto 4, 3) := by decide +kernel
theorem dM_roomOf_97 : decode cM_roomOf 97 = .ok (.iconst 0, 1) := by decide +kernel
theorem dM_roomOf_98 : decode cM_roomOf 98 = .ok (.isub, 1) := by decide +kernel
theorem dM_roomOf_99 : decode cM_roomOf 99 = .ok (.istore 5, 2) := by decide +kernel
theorem dM_roomOf_101 : decode cM_roomOf 101 = .ok (.iinc 6 1, 3) := by decide +kernel
theorem dM_roomOf_104 : decode cM_roomOf 104 = .ok (.goto (-79), 3) := by decide +kernel
theorem dM_roomOf_107 : decode cM_roomOf 107 = .ok (.iload 5, 2) := by decide +kernel
theorem dM_roomOf_109 : decode cM_roomOf 109 = .ok (.iload_n 3, 1) := by decide +kernel
theorem dM_roomOf_110 : decode cM_roomOf 110 = .ok (.if_icmp .ge 8, 3) := by decide +kernel
theorem dM_roomOf_113 : decode cM_roomOf 113 = .ok (.iload 5, 2) := by decide +kernel
theorem dM_roomOf_115 : decode cM_roomOf 115 = .ok (.goto 4, 3) := by decide +kernel
theorem dM_roomOf_118 : decode cM_roomOf 118 = .ok (.iload_n 3, 1) := by decide +kernel
theorem dM_roomOf_119 : decode cM_roomOf 119 = .ok (.istore_n 3, 1) := by decide +kernel
theorem dM_roomOf_120 : decode cM_roomOf 120 = .ok (.iinc 4 1, 3) := by decide +kernel
theorem dM_roomOf_123 : decode cM_roomOf 123 = .ok (.goto (-116), 3) := by decide +kernel
theorem dM_roomOf_126 : decode cM_roomOf 126 = .ok (.iload_n 3, 1) := by decide +kernel
theorem dM_roomOf_127 : decode cM_roomOf 127 = .ok (.ireturn, 1) := by decide +kernel
theorem dM_serve_0 : decode cM_serve 0 = .ok (.iconst 0, 1) := by decide +kernel
theorem dM_serve_1 : decode cM_serve 1 = .ok (.istore_n 1, 1) := by decide +kernel
theorem dM_serve_2 : decode cM_serve 2 = .ok (.iload_n 1, 1) := by decide +kernel
theorem dM_serve_3 : decode cM_serve 3 = .ok (.aload_n 0, 1) := by decide +kernel
theorem dM_serve_4 : decode cM_serve 4 = .ok (.getfield 50, 3) := by decide +kernel
theorem dM_serve_7 : decode cM_serve 7 = .ok (.if_icmp .ge 68, 3) := by decide +kernel
theorem dM_serve_10 : decode cM_serve 10 = .ok (.aload_n 0, 1) := by decide +kernel
theorem dM_serve_11 : decode cM_serve 11 = .ok (.getfield 16, 3) := by decide +kernel
theorem dM_serve_14 : decode cM_serve 14 = .ok (.iload_n 1, 1) := by decide +kernel
theorem dM_serve_15 : decode cM_serve 15 = .ok (.iaload, 1) := by decide +kernel
theorem dM_serve_16 : decode cM_serve 16 = .ok (.iconst 3, 1) := by decide +kernel
theorem dM_serve_17 : decode cM_serve 17 = .ok (.if_icmp .ne 52, 3) := by decide +kernel
theorem dM_serve_20 : decode cM_serve 20 = .ok (.aload_n 0, 1) := by decide +kernel
theorem dM_serve_21 : decode cM_serve 21 = .ok (.aload_n 0, 1) := by decide +kernel
theorem dM_serve_22 : decode cM_serve 22 = .ok (.getfield 19, 3) := by decide +kernel
theorem dM_serve_25 : decode cM_serve 25 = .ok (.iload_n 1, 1) := by decide +kernel
theorem dM_serve_26 : decode cM_serve 26 = .ok (.iaload, 1) := by decide +kernel
theorem dM_serve_27 : decode cM_serve 27 = .ok (.iconst (-1), 1) := by decide +kernel
theorem dM_serve_28 : decode cM_serve 28 = .ok (.invokevirtual 57, 3) := by decide +kernel
theorem dM_serve_31 : decode cM_serve 31 = .ok (.aload_n 0, 1) := by decide +kernel
theorem dM_serve_32 : decode cM_serve 32 = .ok (.getfield 22, 3) := by decide +kernel
theorem dM_serve_35 : decode cM_serve 35 = .ok (.iload_n 1, 1) := by decide +kernel
theorem dM_serve_36 : decode cM_serve 36 = .ok (.iaload, 1) := by decide +kernel
theorem dM_serve_37 : decode cM_serve 37 = .ok (.if_icmp .lt 32, 3) := by decide +kernel
theorem dM_serve_40 : decode cM_serve 40 = .ok (.aload_n 0, 1) := by decide +kernel
theorem dM_serve_41 : decode cM_serve 41 = .ok (.getfield 16, 3) := by decide +kernel
theorem dM_serve_44 : decode cM_serve 44 = .ok (.iload_n 1, 1) := by decide +kernel
theorem dM_serve_45 : decode cM_serve 45 = .ok (.iconst 1, 1) := by decide +kernel
theorem dM_serve_46 : decode cM_serve 46 = .ok (.iastore, 1) := by decide +kernel
theorem dM_serve_47 : decode cM_serve 47 = .ok (.aload_n 0, 1) := by decide +kernel
theorem dM_serve_48 : decode cM_serve 48 = .ok (.getfield 28, 3) := by decide +kernel
theorem dM_serve_51 : decode cM_serve 51 = .ok (.iload_n 1, 1) := by decide +kernel
theorem dM_serve_52 : decode cM_serve 52 = .ok (.aload_n 0, 1) := by decide +kernel
theorem dM_serve_53 : decode cM_serve 53 = .ok (.getfield 61, 3) := by decide +kernel
theorem dM_serve_56 : decode cM_serve 56 = .ok (.aload_n 0, 1) := by decide +kernel
theorem dM_serve_57 : decode cM_serve 57 = .ok (.getfield 25, 3) := by decide +kernel
theorem dM_serve_60 : decode cM_serve 60 = .ok (.iload_n 1, 1) := by decide +kernel
theorem dM_serve_61 : decode cM_serve 61 = .ok (.iaload, 1) := by decide +kernel
theorem dM_serve_62 : decode cM_serve 62 = .ok (.iadd, 1) := by decide +kernel
theorem dM_serve_63 : decode cM_serve 63 = .ok (.iastore, 1) := by decide +kernel
theorem dM_serve_64 : decode cM_serve 64 = .ok (.iconst 0, 1) := by decide +kernel
theorem dM_serve_65 : decode cM_serve 65 = .ok (.istore_n 1, 1) := by decide +kernel
theorem dM_serve_66 : decode cM_serve 66 = .ok (.goto (-64), 3) := by decide +kernel
theorem dM_serve_69 : decode cM_serve 69 = .ok (.iinc 1 1, 3) := by decide +kernel
theorem dM_serve_72 : decode cM_serve 72 = .ok (.goto (-70), 3) := by decide +kernel
theorem dM_serve_75 : decode cM_serve 75 = .ok (.return_, 1) := by decide +kernel
theorem dM_limit_0 : decode cM_limit 0 = .ok (.aload_n 0, 1) := by decide +kernel
theorem dM_limit_1 : decode cM_limit 1 = .ok (.iload_n 1, 1) := by decide +kernel
theorem dM_limit_2 : decode cM_limit 2 = .ok (.invokevirtual 64, 3) := by decide +kernel
theorem dM_limit_5 : decode cM_limit 5 = .ok (.ifCond .ne 13, 3) := by decide +kernel
theorem dM_limit_8 : decode cM_limit 8 = .ok (.iload_n 2, 1) := by decide +kernel
theorem dM_limit_9 : decode cM_limit 9 = .ok (.ifCond .lt 9, 3) := by decide +kernel
theorem dM_limit_12 : decode cM_limit 12 = .ok (.iload_n 2, 1) := by decide +kernel
theorem dM_limit_13 : decode cM_limit 13 = .ok (.bipush 99, 2) := by decide +kernel
theorem dM_limit_15 : decode cM_limit 15 = .ok (.if_icmp .le 7, 3) := by decide +kernel
theorem dM_limit_18 : decode cM_limit 18 = .ok (.iconst 1, 1) := by decide +kernel
theorem dM_limit_19 : decode cM_limit 19 = .ok (.goto 4, 3) := by decide +kernel
theorem dM_limit_22 : decode cM_limit 22 = .ok (.iconst 0, 1) := by decide +kernel
theorem dM_limit_23 : decode cM_limit 23 = .ok (.istore_n 3, 1) := by decide +kernel
theorem dM_limit_24 : decode cM_limit 24 = .ok (.iload_n 3, 1) := by decide +kernel
theorem dM_limit_25 : decode cM_limit 25 = .ok (.ifCond .ne 36, 3) := by decide +kernel
theorem dM_limit_28 : decode cM_limit 28 = .ok (.iload_n 1, 1) := by decide +kernel
theorem dM_limit_29 : decode cM_limit 29 = .ok (.ifCond .le 15, 3) := by decide +kernel
theorem dM_limit_32 : decode cM_limit 32 = .ok (.iload_n 2, 1) := by decide +kernel
theorem dM_limit_33 : decode cM_limit 33 = .ok (.aload_n 0, 1) := by decide +kernel
theorem dM_limit_34 : decode cM_limit 34 = .ok (.getfield 13, 3) := by decide +kernel
theorem dM_limit_37 : decode cM_limit 37 = .ok (.iload_n 1, 1) := by decide +kernel
theorem dM_limit_38 : decode cM_limit 38 = .ok (.iconst 1, 1) := by decide +kernel
theorem dM_limit_39 : decode cM_limit 39 = .ok (.isub, 1) := by decide +kernel
theorem dM_limit_40 : decode cM_limit 40 = .ok (.iaload, 1) := by decide +kernel
theorem dM_limit_41 : decode cM_limit 41 = .ok (.if_icmp .gt 20, 3) := by decide +kernel
theorem dM_limit_44 : decode cM_limit 44 = .ok (.iload_n 1, 1) := by decide +kernel
theorem dM_limit_45 : decode cM_limit 45 = .ok (.iconst 3, 1) := by decide +kernel
theorem dM_limit_46 : decode cM_limit 46 = .ok (.if_icmp .ge 19, 3) := by decide +kernel
theorem dM_limit_49 : decode cM_limit 49 = .ok (.iload_n 2, 1) := by decide +kernel
theorem dM_limit_50 : decode cM_limit 50 = .ok (.aload_n 0, 1) := by decide +kernel
theorem dM_limit_51 : decode cM_limit 51 = .ok (.getfield 13, 3) := by decide +kernel
theorem dM_limit_54 : decode cM_limit 54 = .ok (.iload_n 1, 1) := by decide +kernel
theorem dM_limit_55 : decode cM_limit 55 = .ok (.iconst 1, 1) := by decide +kernel
theorem dM_limit_56 : decode cM_limit 56 = .ok (.iadd, 1) := by decide +kernel
theorem dM_limit_57 : decode cM_limit 57 = .ok (.iaload, 1) := by decide +kernel
theorem dM_limit_58 : decode cM_limit 58 = .ok (.if_icmp .ge 7, 3) := by decide +kernel
theorem dM_limit_61 : decode cM_limit 61 = .ok (.iconst 1, 1) := by decide +kernel
theorem dM_limit_62 : decode cM_limit 62 = .ok (.goto 4, 3) := by decide +kernel
theorem dM_limit_65 : decode cM_limit 65 = .ok (.iconst 0, 1) := by decide +kernel
theorem dM_limit_66 : decode cM_limit 66 = .ok (.istore_n 3, 1) := by decide +kernel
theorem dM_limit_67 : decode cM_limit 67 = .ok (.aload_n 0, 1) := by decide +kernel
theorem dM_limit_68 : decode cM_limit 68 = .ok (.iload_n 3, 1) := by decide +kernel
theorem dM_limit_69 : decode cM_limit 69 = .ok (.ifCond .eq 7, 3) := by decide +kernel
theorem dM_limit_72 : decode cM_limit 72 = .ok (.iconst 1, 1) := by decide +kernel
theorem dM_limit_73 : decode cM_limit 73 = .ok (.goto 15, 3) := by decide +kernel
theorem dM_limit_76 : decode cM_limit 76 = .ok (.aload_n 0, 1) := by decide +kernel
theorem dM_limit_77 : decode cM_limit 77 = .ok (.getfield 67, 3) := by decide +kernel
theorem dM_limit_80 : decode cM_limit 80 = .ok (.ifCond .eq 7, 3) := by decide +kernel
theorem dM_limit_83 : decode cM_limit 83 = .ok (.iconst 2, 1) := by decide +kernel
theorem dM_limit_84 : decode cM_limit 84 = .ok (.goto 4, 3) := by decide +kernel
theorem dM_limit_87 : decode cM_limit 87 = .ok (.iconst 0, 1) := by decide +kernel
theorem dM_limit_88 : decode cM_limit 88 = .ok (.putfield 47, 3) := by decide +kernel
theorem dM_limit_91 : decode cM_limit 91 = .ok (.aload_n 0, 1) := by decide +kernel
theorem dM_limit_92 : decode cM_limit 92 = .ok (.getfield 47, 3) := by decide +kernel
theorem dM_limit_95 : decode cM_limit 95 = .ok (.ifCond .ne 14, 3) := by decide +kernel
theorem dM_limit_98 : decode cM_limit 98 = .ok (.aload_n 0, 1) := by decide +kernel
theorem dM_limit_99 : decode cM_limit 99 = .ok (.getfield 13, 3) := by decide +kernel
theorem dM_limit_102 : decode cM_limit 102 = .ok (.iload_n 1, 1) := by decide +kernel
theorem dM_limit_103 : decode cM_limit 103 = .ok (.iload_n 2, 1) := by decide +kernel
theorem dM_limit_104 : decode cM_limit 104 = .ok (.iastore, 1) := by decide +kernel
theorem dM_limit_105 : decode cM_limit 105 = .ok (.aload_n 0, 1) := by decide +kernel
theorem dM_limit_106 : decode cM_limit 106 = .ok (.invokevirtual 71, 3) := by decide +kernel
theorem dM_limit_109 : decode cM_limit 109 = .ok (.return_, 1) := by decide +kernel
theorem dM_price_0 : decode cM_price 0 = .ok (.aload_n 0, 1) := by decide +kernel
theorem dM_price_1 : decode cM_price 1 = .ok (.aload_n 0, 1) := by decide +kernel
theorem dM_price_2 : decode cM_price 2 = .ok (.iload_n 1, 1) := by decide +kernel
theorem dM_price_3 : decode cM_price 3 = .ok (.invokevirtual 64, 3) := by decide +kernel
theorem dM_price_6 : decode cM_price 6 = .ok (.ifCond .ne 14, 3) := by decide +kernel
theorem dM_price_9 : decode cM_price 9 = .ok (.iload_n 2, 1) := by decide +kernel
theorem dM_price_10 : decode cM_price 10 = .ok (.ifCond .lt 10, 3) := by decide +kernel
theorem dM_price_13 : decode cM_price 13 = .ok (.iload_n 2, 1) := by decide +kernel
theorem dM_price_14 : decode cM_price 14 = .ok (.sipush 9999, 3) := by decide +kernel
theorem dM_price_17 : decode cM_price 17 = .ok (.if_icmp .le 7, 3) := by decide +kernel
theorem dM_price_20 : decode cM_price 20 = .ok (.iconst 1, 1) := by decide +kernel
theorem dM_price_21 : decode cM_price 21 = .ok (.goto 4, 3) := by decide +kernel
theorem dM_price_24 : decode cM_price 24 = .ok (.iconst 0, 1) := by decide +kernel
theorem dM_price_25 : decode cM_price 25 = .ok (.putfield 47, 3) := by decide +kernel
theorem dM_price_28 : decode cM_price 28 = .ok (.aload_n 0, 1) := by decide +kernel
theorem dM_price_29 : decode cM_price 29 = .ok (.getfield 47, 3) := by decide +kernel
theorem dM_price_32 : decode cM_price 32 = .ok (.ifCond .ne 10, 3) := by decide +kernel
theorem dM_price_35 : decode cM_price 35 = .ok (.aload_n 0, 1) := by decide +kernel
theorem dM_price_36 : decode cM_price 36 = .ok (.getfield 7, 3) := by decide +kernel
theorem dM_price_39 : decode cM_price 39 = .ok (.iload_n 1, 1) := by decide +kernel
theorem dM_price_40 : decode cM_price 40 = .ok (.iload_n 2, 1) := by decide +kernel
theorem dM_price_41 : decode cM_price 41 = .ok (.iastore, 1) := by decide +kernel
theorem dM_price_42 : decode cM_price 42 = .ok (.return_, 1) := by decide +kernel
theorem dM_room_0 : decode cM_room 0 = .ok (.aload_n 0, 1) := by decide +kernel
theorem dM_room_1 : decode cM_room 1 = .ok (.aload_n 0, 1) := by decide +kernel
theorem dM_room_2 : decode cM_room 2 = .ok (.iload_n 1, 1) := by decide +kernel
theorem dM_room_3 : decode cM_room 3 = .ok (.invokevirtual 64, 3) := by decide +kernel
theorem dM_room_6 : decode cM_room 6 = .ok (.ifCond .eq 7, 3) := by decide +kernel
theorem dM_room_9 : decode cM_room 9 = .ok (.iconst 1, 1) := by decide +kernel
theorem dM_room_10 : decode cM_room 10 = .ok (.goto 4, 3) := by decide +kernel
theorem dM_room_13 : decode cM_room 13 = .ok (.iconst 0, 1) := by decide +kernel
theorem dM_room_14 : decode cM_room 14 = .ok (.putfield 47, 3) := by decide +kernel
theorem dM_room_17 : decode cM_room 17 = .ok (.aload_n 0, 1) := by decide +kernel
theorem dM_room_18 : decode cM_room 18 = .ok (.getfield 47, 3) := by decide +kernel
theorem dM_room_21 : decode cM_room 21 = .ok (.ifCond .ne 12, 3) := by decide +kernel
theorem dM_room_24 : decode cM_room 24 = .ok (.aload_n 0, 1) := by decide +kernel
theorem dM_room_25 : decode cM_room 25 = .ok (.iload_n 1, 1) := by decide +kernel
theorem dM_room_26 : decode cM_room 26 = .ok (.iconst (-1), 1) := by decide +kernel
theorem dM_room_27 : decode cM_room 27 = .ok (.invokevirtual 57, 3) := by decide +kernel
theorem dM_room_30 : decode cM_room 30 = .ok (.goto 4, 3) := by decide +kernel
theorem dM_room_33 : decode cM_room 33 = .ok (.iconst 0, 1) := by decide +kernel
theorem dM_room_34 : decode cM_room 34 = .ok (.ireturn, 1) := by decide +kernel
theorem dM_checked_0 : decode cM_checked 0 = .ok (.aload_n 0, 1) := by decide +kernel
theorem dM_checked_1 : decode cM_checked 1 = .ok (.iload_n 1, 1) := by decide +kernel
theorem dM_checked_2 : decode cM_checked 2 = .ok (.invokevirtual 64, 3) := by decide +kernel
theorem dM_checked_5 : decode cM_checked 5 = .ok (.ifCond .ne 25, 3) := by decide +kernel
theorem dM_checked_8 : decode cM_checked 8 = .ok (.iload_n 2, 1) := by decide +kernel
theorem dM_checked_9 : decode cM_checked 9 = .ok (.iconst 1, 1) := by decide +kernel
theorem dM_checked_10 : decode cM_checked 10 = .ok (.if_icmp .lt 20, 3) := by decide +kernel
theorem dM_checked_13 : decode cM_checked 13 = .ok (.iload_n 2, 1) := by decide +kernel
theorem dM_checked_14 : decode cM_checked 14 = .ok (.bipush 6, 2) := by decide +kernel
theorem dM_checked_16 : decode cM_checked 16 = .ok (.if_icmp .gt 14, 3) := by decide +kernel
theorem dM_checked_19 : decode cM_checked 19 = .ok (.iload_n 3, 1) := by decide +kernel
theorem dM_checked_20 : decode cM_checked 20 = .ok (.iconst 1, 1) := by decide +kernel
theorem dM_checked_21 : decode cM_checked 21 = .ok (.if_icmp .lt 9, 3) := by decide +kernel
theorem dM_checked_24 : decode cM_checked 24 = .ok (.iload_n 3, 1) := by decide +kernel
theorem dM_checked_25 : decode cM_checked 25 = .ok (.bipush 50, 2) := by decide +kernel
theorem dM_checked_27 : decode cM_checked 27 = .ok (.if_icmp .le 7, 3) := by decide +kernel
theorem dM_checked_30 : decode cM_checked 30 = .ok (.iconst 1, 1) := by decide +kernel
theorem dM_checked_31 : decode cM_checked 31 = .ok (.goto 24, 3) := by decide +kernel
theorem dM_checked_34 : decode cM_checked 34 = .ok (.aload_n 0, 1) := by decide +kernel
theorem dM_checked_35 : decode cM_checked 35 = .ok (.getfield 67, 3) := by decide +kernel
theorem dM_checked_38 : decode cM_checked 38 = .ok (.ifCond .ne 12, 3) := by decide +kernel
theorem dM_checked_41 : decode cM_checked 41 = .ok (.aload_n 0, 1) := by decide +kernel
theorem dM_checked_42 : decode cM_checked 42 = .ok (.getfield 50, 3) := by decide +kernel
theorem dM_checked_45 : decode cM_checked 45 = .ok (.bipush 60, 2) := by decide +kernel
theorem dM_checked_47 : decode cM_checked 47 = .ok (.if_icmp .ne 7, 3) := by decide +kernel
theorem dM_checked_50 : decode cM_checked 50 = .ok (.iconst 2, 1) := by decide +kernel
theorem dM_checked_51 : decode cM_checked 51 = .ok (.goto 4, 3) := by decide +kernel
theorem dM_checked_54 : decode cM_checked 54 = .ok (.iconst 0, 1) := by decide +kernel
theorem dM_checked_55 : decode cM_checked 55 = .ok (.ireturn, 1) := by decide +kernel
theorem dM_make_0 : decode cM_make 0 = .ok (.aload_n 0, 1) := by decide +kernel
theorem dM_make_1 : decode cM_make 1 = .ok (.getfield 50, 3) := by decide +kernel
theorem dM_make_4 : decode cM_make 4 = .ok (.istore 5, 2) := by decide +kernel
theorem dM_make_6 : decode cM_make 6 = .ok (.aload_n 0, 1) := by decide +kernel
theorem dM_make_7 : decode cM_make 7 = .ok (.getfield 16, 3) := by decide +kernel
theorem dM_make_10 : decode cM_make 10 = .ok (.iload 5, 2) := by decide +kernel
theorem dM_make_12 : decode cM_make 12 = .ok (.iload_n 1, 1) := by decide +kernel
theorem dM_make_13 : decode cM_make 13 = .ok (.iastore, 1) := by decide +kernel
theorem dM_make_14 : decode cM_make 14 = .ok (.aload_n 0, 1) := by decide +kernel
theorem dM_make_15 : decode cM_make 15 = .ok (.getfield 19, 3) := by decide +kernel
theorem dM_make_18 : decode cM_make 18 = .ok (.iload 5, 2) := by decide +kernel
theorem dM_make_20 : decode cM_make 20 = .ok (.iload_n 2, 1) := by decide +kernel
theorem dM_make_21 : decode cM_make 21 = .ok (.iastore, 1) := by decide +kernel
theorem dM_make_22 : decode cM_make 22 = .ok (.aload_n 0, 1) := by decide +kernel
theorem dM_make_23 : decode cM_make 23 = .ok (.getfield 22, 3) := by decide +kernel
theorem dM_make_26 : decode cM_make 26 = .ok (.iload 5, 2) := by decide +kernel
theorem dM_make_28 : decode cM_make 28 = .ok (.iload_n 3, 1) := by decide +kernel
theorem dM_make_29 : decode cM_make 29 = .ok (.iastore, 1) := by decide +kernel
theorem dM_make_30 : decode cM_make 30 = .ok (.aload_n 0, 1) := by decide +kernel
theorem dM_make_31 : decode cM_make 31 = .ok (.getfield 25, 3) := by decide +kernel
theorem dM_make_34 : decode cM_make 34 = .ok (.iload 5, 2) := by decide +kernel
theorem dM_make_36 : decode cM_make 36 = .ok (.iload 4, 2) := by decide +kernel
theorem dM_make_38 : decode cM_make 38 = .ok (.iastore, 1) := by decide +kernel
theorem dM_make_39 : decode cM_make 39 = .ok (.aload_n 0, 1) := by decide +kernel
theorem dM_make_40 : decode cM_make 40 = .ok (.getfield 28, 3) := by decide +kernel
theorem dM_make_43 : decode cM_make 43 = .ok (.iload 5, 2) := by decide +kernel
theorem dM_make_45 : decode cM_make 45 = .ok (.aload_n 0, 1) := by decide +kernel
theorem dM_make_46 : decode cM_make 46 = .ok (.getfield 61, 3) := by decide +kernel
theorem dM_make_49 : decode cM_make 49 = .ok (.iload 4, 2) := by decide +kernel
theorem dM_make_51 : decode cM_make 51 = .ok (.iadd, 1) := by decide +kernel
theorem dM_make_52 : decode cM_make 52 = .ok (.iastore, 1) := by decide +kernel
theorem dM_make_53 : decode cM_make 53 = .ok (.aload_n 0, 1) := by decide +kernel
theorem dM_make_54 : decode cM_make 54 = .ok (.dup, 1) := by decide +kernel
theorem dM_make_55 : decode cM_make 55 = .ok (.getfield 50, 3) := by decide +kernel
theorem dM_make_58 : decode cM_make 58 = .ok (.iconst 1, 1) := by decide +kernel
theorem dM_make_59 : decode cM_make 59 = .ok (.iadd, 1) := by decide +kernel
theorem dM_make_60 : decode cM_make 60 = .ok (.putfield 50, 3) := by decide +kernel
theorem dM_make_63 : decode cM_make 63 = .ok (.iload 5, 2) := by decide +kernel
theorem dM_make_65 : decode cM_make 65 = .ok (.ireturn, 1) := by decide +kernel
theorem dM_hold_0 : decode cM_hold 0 = .ok (.aload_n 0, 1) := by decide +kernel
theorem dM_hold_1 : decode cM_hold 1 = .ok (.aload_n 0, 1) := by decide +kernel
theorem dM_hold_2 : decode cM_hold 2 = .ok (.iload_n 1, 1) := by decide +kernel
theorem dM_hold_3 : decode cM_hold 3 = .ok (.iload_n 2, 1) := by decide +kernel
theorem dM_hold_4 : decode cM_hold 4 = .ok (.iload_n 3, 1) := by decide +kernel
theorem dM_hold_5 : decode cM_hold 5 = .ok (.invokevirtual 74, 3) := by decide +kernel
theorem dM_hold_8 : decode cM_hold 8 = .ok (.putfield 47, 3) := by decide +kernel
theorem dM_hold_11 : decode cM_hold 11 = .ok (.aload_n 0, 1) := by decide +kernel
theorem dM_hold_12 : decode cM_hold 12 = .ok (.aload_n 0, 1) := by decide +kernel
theorem dM_hold_13 : decode cM_hold 13 = .ok (.getfield 47, 3) := by decide +kernel
theorem dM_hold_16 : decode cM_hold 16 = .ok (.ifCond .ne 17, 3) := by decide +kernel
theorem dM_hold_19 : decode cM_hold 19 = .ok (.aload_n 0, 1) := by decide +kernel
theorem dM_hold_20 : decode cM_hold 20 = .ok (.iload_n 1, 1) := by decide +kernel
theorem dM_hold_21 : decode cM_hold 21 = .ok (.iconst (-1), 1) := by decide +kernel
theorem dM_hold_22 : decode cM_hold 22 = .ok (.invokevirtual 57, 3) := by decide +kernel
theorem dM_hold_25 : decode cM_hold 25 = .ok (.iload_n 2, 1) := by decide +kernel
theorem dM_hold_26 : decode cM_hold 26 = .ok (.if_icmp .ge 7, 3) := by decide +kernel
theorem dM_hold_29 : decode cM_hold 29 = .ok (.iconst 3, 1) := by decide +kernel
theorem dM_hold_30 : decode cM_hold 30 = .ok (.goto 7, 3) := by decide +kernel
theorem dM_hold_33 : decode cM_hold 33 = .ok (.aload_n 0, 1) := by decide +kernel
theorem dM_hold_34 : decode cM_hold 34 = .ok (.getfield 47, 3) := by decide +kernel
theorem dM_hold_37 : decode cM_hold 37 = .ok (.putfield 47, 3) := by decide +kernel
theorem dM_hold_40 : decode cM_hold 40 = .ok (.aload_n 0, 1) := by decide +kernel
theorem dM_hold_41 : decode cM_hold 41 = .ok (.getfield 47, 3) := by decide +kernel
theorem dM_hold_44 : decode cM_hold 44 = .ok (.ifCond .ne 14, 3) := by decide +kernel
theorem dM_hold_47 : decode cM_hold 47 = .ok (.aload_n 0, 1) := by decide +kernel
theorem dM_hold_48 : decode cM_hold 48 = .ok (.iconst 1, 1) := by decide +kernel
theorem dM_hold_49 : decode cM_hold 49 = .ok (.iload_n 1, 1) := by decide +kernel
theorem dM_hold_50 : decode cM_hold 50 = .ok (.iload_n 2, 1) := by decide +kernel
theorem dM_hold_51 : decode cM_hold 51 = .ok (.iload_n 3, 1) := by decide +kernel
theorem dM_hold_52 : decode cM_hold 52 = .ok (.invokevirtual 78, 3) := by decide +kernel
theorem dM_hold_55 : decode cM_hold 55 = .ok (.goto 4, 3) := by decide +kernel
theorem dM_hold_58 : decode cM_hold 58 = .ok (.iconst 0, 1) := by decide +kernel
theorem dM_hold_59 : decode cM_hold 59 = .ok (.ireturn, 1) := by decide +kernel
theorem dM_join_0 : decode cM_join 0 = .ok (.aload_n 0, 1) := by decide +kernel
theorem dM_join_1 : decode cM_join 1 = .ok (.aload_n 0, 1) := by decide +kernel
theorem dM_join_2 : decode cM_join 2 = .ok (.iload_n 1, 1) := by decide +kernel
theorem dM_join_3 : decode cM_join 3 = .ok (.iload_n 2, 1) := by decide +kernel
theorem dM_join_4 : decode cM_join 4 = .ok (.iload_n 3, 1) := by decide +kernel
theorem dM_join_5 : decode cM_join 5 = .ok (.invokevirtual 74, 3) := by decide +kernel
theorem dM_join_8 : decode cM_join 8 = .ok (.putfield 47, 3) := by decide +kernel
theorem dM_join_11 : decode cM_join 11 = .ok (.aload_n 0, 1) := by decide +kernel
theorem dM_join_12 : decode cM_join 12 = .ok (.getfield 47, 3) := by decide +kernel
theorem dM_join_15 : decode cM_join 15 = .ok (.ifCond .eq 5, 3) := by decide +kernel
theorem dM_join_18 : decode cM_join 18 = .ok (.iconst 0, 1) := by decide +kernel
theorem dM_join_19 : decode cM_join 19 = .ok (.ireturn, 1) := by decide +kernel
theorem dM_join_20 : decode cM_join 20 = .ok (.aload_n 0, 1) := by decide +kernel
theorem dM_join_21 : decode cM_join 21 = .ok (.iconst 3, 1) := by decide +kernel
theorem dM_join_22 : decode cM_join 22 = .ok (.iload_n 1, 1) := by decide +kernel
theorem dM_join_23 : decode cM_join 23 = .ok (.iload_n 2, 1) := by decide +kernel
theorem dM_join_24 : decode cM_join 24 = .ok (.iload_n 3, 1) := by decide +kernel
theorem dM_join_25 : decode cM_join 25 = .ok (.invokevirtual 78, 3) := by decide +kernel
theorem dM_join_28 : decode cM_join 28 = .ok (.istore 4, 2) := by decide +kernel
theorem dM_join_30 : decode cM_join 30 = .ok (.aload_n 0, 1) := by decide +kernel
theorem dM_join_31 : decode cM_join 31 = .ok (.invokevirtual 71, 3) := by decide +kernel
theorem dM_join_34 : decode cM_join 34 = .ok (.iload 4, 2) := by decide +kernel
theorem dM_join_36 : decode cM_join 36 = .ok (.ireturn, 1) := by decide +kernel
theorem dM_confirm_0 : decode cM_confirm 0 = .ok (.aload_n 0, 1) := by decide +kernel
theorem dM_confirm_1 : decode cM_confirm 1 = .ok (.aload_n 0, 1) := by decide +kernel
theorem dM_confirm_2 : decode cM_confirm 2 = .ok (.iload_n 1, 1) := by decide +kernel
theorem dM_confirm_3 : decode cM_confirm 3 = .ok (.invokevirtual 82, 3) := by decide +kernel
theorem dM_confirm_6 : decode cM_confirm 6 = .ok (.ifCond .eq 7, 3) := by decide +kernel
theorem dM_confirm_9 : decode cM_confirm 9 = .ok (.iconst 1, 1) := by decide +kernel
theorem dM_confirm_10 : decode cM_confirm 10 = .ok (.goto 18, 3) := by decide +kernel
theorem dM_confirm_13 : decode cM_confirm 13 = .ok (.aload_n 0, 1) := by decide +kernel
theorem dM_confirm_14 : decode cM_confirm 14 = .ok (.getfield 16, 3) := by decide +kernel
theorem dM_confirm_17 : decode cM_confirm 17 = .ok (.iload_n 1, 1) := by decide +kernel
theorem dM_confirm_18 : decode cM_confirm 18 = .ok (.iaload, 1) := by decide +kernel
theorem dM_confirm_19 : decode cM_confirm 19 = .ok (.iconst 1, 1) := by decide +kernel
theorem dM_confirm_20 : decode cM_confirm 20 = .ok (.if_icmp .eq 7, 3) := by decide +kernel
theorem dM_confirm_23 : decode cM_confirm 23 = .ok (.iconst 2, 1) := by decide +kernel
theorem dM_confirm_24 : decode cM_confirm 24 = .ok (.goto 4, 3) := by decide +kernel
theorem dM_confirm_27 : decode cM_confirm 27 = .ok (.iconst 0, 1) := by decide +kernel
theorem dM_confirm_28 : decode cM_confirm 28 = .ok (.putfield 47, 3) := by decide +kernel
theorem dM_confirm_31 : decode cM_confirm 31 = .ok (.aload_n 0, 1) := by decide +kernel
theorem dM_confirm_32 : decode cM_confirm 32 = .ok (.getfield 47, 3) := by decide +kernel
theorem dM_confirm_35 : decode cM_confirm 35 = .ok (.ifCond .eq 5, 3) := by decide +kernel
theorem dM_confirm_38 : decode cM_confirm 38 = .ok (.iconst 0, 1) := by decide +kernel
theorem dM_confirm_39 : decode cM_confirm 39 = .ok (.ireturn, 1) := by decide +kernel
theorem dM_confirm_40 : decode cM_confirm 40 = .ok (.aload_n 0, 1) := by decide +kernel
theorem dM_confirm_41 : decode cM_confirm 41 = .ok (.getfield 16, 3) := by decide +kernel
theorem dM_confirm_44 : decode cM_confirm 44 = .ok (.iload_n 1, 1) := by decide +kernel
theorem dM_confirm_45 : decode cM_confirm 45 = .ok (.iconst 2, 1) := by decide +kernel
theorem dM_confirm_46 : decode cM_confirm 46 = .ok (.iastore, 1) := by decide +kernel
theorem dM_confirm_47 : decode cM_confirm 47 = .ok (.aload_n 0, 1) := by decide +kernel
theorem dM_confirm_48 : decode cM_confirm 48 = .ok (.getfield 31, 3) := by decide +kernel
theorem dM_confirm_51 : decode cM_confirm 51 = .ok (.iload_n 1, 1) := by decide +kernel
theorem dM_confirm_52 : decode cM_confirm 52 = .ok (.aload_n 0, 1) := by decide +kernel
theorem dM_confirm_53 : decode cM_confirm 53 = .ok (.getfield 22, 3) := by decide +kernel
theorem dM_confirm_56 : decode cM_confirm 56 = .ok (.iload_n 1, 1) := by decide +kernel
theorem dM_confirm_57 : decode cM_confirm 57 = .ok (.iaload, 1) := by decide +kernel
theorem dM_confirm_58 : decode cM_confirm 58 = .ok (.aload_n 0, 1) := by decide +kernel
theorem dM_confirm_59 : decode cM_confirm 59 = .ok (.getfield 7, 3) := by decide +kernel
theorem dM_confirm_62 : decode cM_confirm 62 = .ok (.aload_n 0, 1) := by decide +kernel
theorem dM_confirm_63 : decode cM_confirm 63 = .ok (.getfield 19, 3) := by decide +kernel
theorem dM_confirm_66 : decode cM_confirm 66 = .ok (.iload_n 1, 1) := by decide +kernel
theorem dM_confirm_67 : decode cM_confirm 67 = .ok (.iaload, 1) := by decide +kernel
theorem dM_confirm_68 : decode cM_confirm 68 = .ok (.iaload, 1) := by decide +kernel
theorem dM_confirm_69 : decode cM_confirm 69 = .ok (.imul, 1) := by decide +kernel
theorem dM_confirm_70 : decode cM_confirm 70 = .ok (.iastore, 1) := by decide +kernel
theorem dM_confirm_71 : decode cM_confirm 71 = .ok (.aload_n 0, 1) := by decide +kernel
theorem dM_confirm_72 : decode cM_confirm 72 = .ok (.dup, 1) := by decide +kernel
theorem dM_confirm_73 : decode cM_confirm 73 = .ok (.getfield 85, 3) := by decide +kernel
theorem dM_confirm_76 : decode cM_confirm 76 = .ok (.aload_n 0, 1) := by decide +kernel
theorem dM_confirm_77 : decode cM_confirm 77 = .ok (.getfield 31, 3) := by decide +kernel
theorem dM_confirm_80 : decode cM_confirm 80 = .ok (.iload_n 1, 1) := by decide +kernel
theorem dM_confirm_81 : decode cM_confirm 81 = .ok (.iaload, 1) := by decide +kernel
theorem dM_confirm_82 : decode cM_confirm 82 = .ok (.iadd, 1) := by decide +kernel
theorem dM_confirm_83 : decode cM_confirm 83 = .ok (.putfield 85, 3) := by decide +kernel
theorem dM_confirm_86 : decode cM_confirm 86 = .ok (.aload_n 0, 1) := by decide +kernel
theorem dM_confirm_87 : decode cM_confirm 87 = .ok (.getfield 31, 3) := by decide +kernel
theorem dM_confirm_90 : decode cM_confirm 90 = .ok (.iload_n 1, 1) := by decide +kernel
theorem dM_confirm_91 : decode cM_confirm 91 = .ok (.iaload, 1) := by decide +kernel
theorem dM_confirm_92 : decode cM_confirm 92 = .ok (.ireturn, 1) := by decide +kernel
theorem dM_giveBack_0 : decode cM_giveBack 0 = .ok (.aload_n 0, 1) := by decide +kernel
theorem dM_giveBack_1 : decode cM_giveBack 1 = .ok (.getfield 31, 3) := by decide +kernel
theorem dM_giveBack_4 : decode cM_giveBack 4 = .ok (.iload_n 1, 1) := by decide +kernel
theorem dM_giveBack_5 : decode cM_giveBack 5 = .ok (.iaload, 1) := by decide +kernel
theorem dM_giveBack_6 : decode cM_giveBack 6 = .ok (.iload_n 2, 1) := by decide +kernel
theorem dM_giveBack_7 : decode cM_giveBack 7 = .ok (.imul, 1) := by decide +kernel
theorem dM_giveBack_8 : decode cM_giveBack 8 = .ok (.aload_n 0, 1) := by decide +kernel
theorem dM_giveBack_9 : decode cM_giveBack 9 = .ok (.getfield 22, 3) := by decide +kernel
theorem dM_giveBack_12 : decode cM_giveBack 12 = .ok (.iload_n 1, 1) := by decide +kernel
theorem dM_giveBack_13 : decode cM_giveBack 13 = .ok (.iaload, 1) := by decide +kernel
theorem dM_giveBack_14 : decode cM_giveBack 14 = .ok (.idiv, 1) := by decide +kernel
theorem dM_giveBack_15 : decode cM_giveBack 15 = .ok (.istore_n 3, 1) := by decide +kernel
theorem dM_giveBack_16 : decode cM_giveBack 16 = .ok (.aload_n 0, 1) := by decide +kernel
theorem dM_giveBack_17 : decode cM_giveBack 17 = .ok (.getfield 19, 3) := by decide +kernel
theorem dM_giveBack_20 : decode cM_giveBack 20 = .ok (.iload_n 1, 1) := by decide +kernel
theorem dM_giveBack_21 : decode cM_giveBack 21 = .ok (.iaload, 1) := by decide +kernel
theorem dM_giveBack_22 : decode cM_giveBack 22 = .ok (.istore 4, 2) := by decide +kernel
theorem dM_giveBack_24 : decode cM_giveBack 24 = .ok (.iload 4, 2) := by decide +kernel
theorem dM_giveBack_26 : decode cM_giveBack 26 = .ok (.ifCond .ne 7, 3) := by decide +kernel
theorem dM_giveBack_29 : decode cM_giveBack 29 = .ok (.iload_n 3, 1) := by decide +kernel
theorem dM_giveBack_30 : decode cM_giveBack 30 = .ok (.goto 30, 3) := by decide +kernel
theorem dM_giveBack_33 : decode cM_giveBack 33 = .ok (.iload 4, 2) := by decide +kernel
theorem dM_giveBack_35 : decode cM_giveBack 35 = .ok (.iconst 1, 1) := by decide +kernel
theorem dM_giveBack_36 : decode cM_giveBack 36 = .ok (.if_icmp .ne 11, 3) := by decide +kernel
theorem dM_giveBack_39 : decode cM_giveBack 39 = .ok (.iconst 3, 1) := by decide +kernel
theorem dM_giveBack_40 : decode cM_giveBack 40 = .ok (.iload_n 3, 1) := by decide +kernel
theorem dM_giveBack_41 : decode cM_giveBack 41 = .ok (.imul, 1) := by decide +kernel
theorem dM_giveBack_42 : decode cM_giveBack 42 = .ok (.iconst 4, 1) := by decide +kernel
theorem dM_giveBack_43 : decode cM_giveBack 43 = .ok (.idiv, 1) := by decide +kernel
theorem dM_giveBack_44 : decode cM_giveBack 44 = .ok (.goto 16, 3) := by decide +kernel
theorem dM_giveBack_47 : decode cM_giveBack 47 = .ok (.iload 4, 2) := by decide +kernel
theorem dM_giveBack_49 : decode cM_giveBack 49 = .ok (.iconst 2, 1) := by decide +kernel
theorem dM_giveBack_50 : decode cM_giveBack 50 = .ok (.if_icmp .ne 9, 3) := by decide +kernel
theorem dM_giveBack_53 : decode cM_giveBack 53 = .ok (.iload_n 3, 1) := by decide +kernel
theorem dM_giveBack_54 : decode cM_giveBack 54 = .ok (.iconst 2, 1) := by decide +kernel
theorem dM_giveBack_55 : decode cM_giveBack 55 = .ok (.idiv, 1) := by decide +kernel
theorem dM_giveBack_56 : decode cM_giveBack 56 = .ok (.goto 4, 3) := by decide +kernel
theorem dM_giveBack_59 : decode cM_giveBack 59 = .ok (.iconst 0, 1) := by decide +kernel
theorem dM_giveBack_60 : decode cM_giveBack 60 = .ok (.istore 5, 2) := by decide +kernel
theorem dM_giveBack_62 : decode cM_giveBack 62 = .ok (.aload_n 0, 1) := by decide +kernel
theorem dM_giveBack_63 : decode cM_giveBack 63 = .ok (.getfield 31, 3) := by decide +kernel
theorem dM_giveBack_66 : decode cM_giveBack 66 = .ok (.iload_n 1, 1) := by decide +kernel
theorem dM_giveBack_67 : decode cM_giveBack 67 = .ok (.dup2, 1) := by decide +kernel
theorem dM_giveBack_68 : decode cM_giveBack 68 = .ok (.iaload, 1) := by decide +kernel
theorem dM_giveBack_69 : decode cM_giveBack 69 = .ok (.iload_n 3, 1) := by decide +kernel
theorem dM_giveBack_70 : decode cM_giveBack 70 = .ok (.isub, 1) := by decide +kernel
theorem dM_giveBack_71 : decode cM_giveBack 71 = .ok (.iastore, 1) := by decide +kernel
theorem dM_giveBack_72 : decode cM_giveBack 72 = .ok (.aload_n 0, 1) := by decide +kernel
theorem dM_giveBack_73 : decode cM_giveBack 73 = .ok (.dup, 1) := by decide +kernel
theorem dM_giveBack_74 : decode cM_giveBack 74 = .ok (.getfield 85, 3) := by decide +kernel
theorem dM_giveBack_77 : decode cM_giveBack 77 = .ok (.iload 5, 2) := by decide +kernel
theorem dM_giveBack_79 : decode cM_giveBack 79 = .ok (.isub, 1) := by decide +kernel
theorem dM_giveBack_80 : decode cM_giveBack 80 = .ok (.putfield 85, 3) := by decide +kernel
theorem dM_giveBack_83 : decode cM_giveBack 83 = .ok (.iload 5, 2) := by decide +kernel
theorem dM_giveBack_85 : decode cM_giveBack 85 = .ok (.ireturn, 1) := by decide +kernel
theorem dM_leaveSeats_0 : decode cM_leaveSeats 0 = .ok (.aload_n 0, 1) := by decide +kernel
theorem dM_leaveSeats_1 : decode cM_leaveSeats 1 = .ok (.getfield 34, 3) := by decide +kernel
theorem dM_leaveSeats_4 : decode cM_leaveSeats 4 = .ok (.iload_n 1, 1) := by decide +kernel
theorem dM_leaveSeats_5 : decode cM_leaveSeats 5 = .ok (.iaload, 1) := by decide +kernel
theorem dM_leaveSeats_6 : decode cM_leaveSeats 6 = .ok (.iload_n 2, 1) := by decide +kernel
theorem dM_leaveSeats_7 : decode cM_leaveSeats 7 = .ok (.if_icmp .le 38, 3) := by decide +kernel
theorem dM_leaveSeats_10 : decode cM_leaveSeats 10 = .ok (.aload_n 0, 1) := by decide +kernel
theorem dM_leaveSeats_11 : decode cM_leaveSeats 11 = .ok (.getfield 34, 3) := by decide +kernel
theorem dM_leaveSeats_14 : decode cM_leaveSeats 14 = .ok (.iload_n 1, 1) := by decide +kernel
theorem dM_leaveSeats_15 : decode cM_leaveSeats 15 = .ok (.dup2, 1) := by decide +kernel
theorem dM_leaveSeats_16 : decode cM_leaveSeats 16 = .ok (.iaload, 1) := by decide +kernel
theorem dM_leaveSeats_17 : decode cM_leaveSeats 17 = .ok (.iconst 1, 1) := by decide +kernel
theorem dM_leaveSeats_18 : decode cM_leaveSeats 18 = .ok (.isub, 1) := by decide +kernel
theorem dM_leaveSeats_19 : decode cM_leaveSeats 19 = .ok (.iastore, 1) := by decide +kernel
theorem dM_leaveSeats_20 : decode cM_leaveSeats 20 = .ok (.aload_n 0, 1) := by decide +kernel
theorem dM_leaveSeats_21 : decode cM_leaveSeats 21 = .ok (.getfield 40, 3) := by decide +kernel
theorem dM_leaveSeats_24 : decode cM_leaveSeats 24 = .ok (.aload_n 0, 1) := by decide +kernel
theorem dM_leaveSeats_25 : decode cM_leaveSeats 25 = .ok (.getfield 37, 3) := by decide +kernel
theorem dM_leaveSeats_28 : decode cM_leaveSeats 28 = .ok (.bipush 6, 2) := by decide +kernel
theorem dM_leaveSeats_30 : decode cM_leaveSeats 30 = .ok (.iload_n 1, 1) := by decide +kernel
theorem dM_leaveSeats_31 : decode cM_leaveSeats 31 = .ok (.imul, 1) := by decide +kernel
theorem dM_leaveSeats_32 : decode cM_leaveSeats 32 = .ok (.aload_n 0, 1) := by decide +kernel
theorem dM_leaveSeats_33 : decode cM_leaveSeats 33 = .ok (.getfield 34, 3) := by decide +kernel
theorem dM_leaveSeats_36 : decode cM_leaveSeats 36 = .ok (.iload_n 1, 1) := by decide +kernel
theorem dM_leaveSeats_37 : decode cM_leaveSeats 37 = .ok (.iaload, 1) := by decide +kernel
theorem dM_leaveSeats_38 : decode cM_leaveSeats 38 = .ok (.iadd, 1) := by decide +kernel
theorem dM_leaveSeats_39 : decode cM_leaveSeats 39 = .ok (.iaload, 1) := by decide +kernel
theorem dM_leaveSeats_40 : decode cM_leaveSeats 40 = .ok (.iconst 0, 1) := by decide +kernel
theorem dM_leaveSeats_41 : decode cM_leaveSeats 41 = .ok (.iastore, 1) := by decide +kernel
theorem dM_leaveSeats_42 : decode cM_leaveSeats 42 = .ok (.goto (-42), 3) := by decide +kernel
theorem dM_leaveSeats_45 : decode cM_leaveSeats 45 = .ok (.return_, 1) := by decide +kernel
theorem dM_cancel_0 : decode cM_cancel 0 = .ok (.aload_n 0, 1) := by decide +kernel
theorem dM_cancel_1 : decode cM_cancel 1 = .ok (.aload_n 0, 1) := by decide +kernel
theorem dM_cancel_2 : decode cM_cancel 2 = .ok (.iload_n 1, 1) := by decide +kernel
theorem dM_cancel_3 : decode cM_cancel 3 = .ok (.invokevirtual 82, 3) := by decide +kernel
theorem dM_cancel_6 : decode cM_cancel 6 = .ok (.ifCond .eq 7, 3) := by decide +kernel
theorem dM_cancel_9 : decode cM_cancel 9 = .ok (.iconst 1, 1) := by decide +kernel
theorem dM_cancel_10 : decode cM_cancel 10 = .ok (.goto 26, 3) := by decide +kernel
theorem dM_cancel_13 : decode cM_cancel 13 = .ok (.aload_n 0, 1) := by decide +kernel
theorem dM_cancel_14 : decode cM_cancel 14 = .ok (.iload_n 1, 1) := by decide +kernel
theorem dM_cancel_15 : decode cM_cancel 15 = .ok (.invokevirtual 53, 3) := by decide +kernel
theorem dM_cancel_18 : decode cM_cancel 18 = .ok (.ifCond .ne 17, 3) := by decide +kernel
theorem dM_cancel_21 : decode cM_cancel 21 = .ok (.aload_n 0, 1) := by decide +kernel
theorem dM_cancel_22 : decode cM_cancel 22 = .ok (.getfield 16, 3) := by decide +kernel
theorem dM_cancel_25 : decode cM_cancel 25 = .ok (.iload_n 1, 1) := by decide +kernel
theorem dM_cancel_26 : decode cM_cancel 26 = .ok (.iaload, 1) := by decide +kernel
theorem dM_cancel_27 : decode cM_cancel 27 = .ok (.iconst 3, 1) := by decide +kernel
theorem dM_cancel_28 : decode cM_cancel 28 = .ok (.if_icmp .eq 7, 3) := by decide +kernel
theorem dM_cancel_31 : decode cM_cancel 31 = .ok (.iconst 2, 1) := by decide +kernel
theorem dM_cancel_32 : decode cM_cancel 32 = .ok (.goto 4, 3) := by decide +kernel
theorem dM_cancel_35 : decode cM_cancel 35 = .ok (.iconst 0, 1) := by decide +kernel
theorem dM_cancel_36 : decode cM_cancel 36 = .ok (.putfield 47, 3) := by decide +kernel
theorem dM_cancel_39 : decode cM_cancel 39 = .ok (.aload_n 0, 1) := by decide +kernel
theorem dM_cancel_40 : decode cM_cancel 40 = .ok (.getfield 47, 3) := by decide +kernel
theorem dM_cancel_43 : decode cM_cancel 43 = .ok (.ifCond .eq 5, 3) := by decide +kernel
theorem dM_cancel_46 : decode cM_cancel 46 = .ok (.iconst 0, 1) := by decide +kernel
theorem dM_cancel_47 : decode cM_cancel 47 = .ok (.ireturn, 1) := by decide +kernel
theorem dM_cancel_48 : decode cM_cancel 48 = .ok (.aload_n 0, 1) := by decide +kernel
theorem dM_cancel_49 : decode cM_cancel 49 = .ok (.getfield 16, 3) := by decide +kernel
theorem dM_cancel_52 : decode cM_cancel 52 = .ok (.iload_n 1, 1) := by decide +kernel
theorem dM_cancel_53 : decode cM_cancel 53 = .ok (.iaload, 1) := by decide +kernel
theorem dM_cancel_54 : decode cM_cancel 54 = .ok (.iconst 2, 1) := by decide +kernel
theorem dM_cancel_55 : decode cM_cancel 55 = .ok (.if_icmp .ne 17, 3) := by decide +kernel
theorem dM_cancel_58 : decode cM_cancel 58 = .ok (.aload_n 0, 1) := by decide +kernel
theorem dM_cancel_59 : decode cM_cancel 59 = .ok (.iload_n 1, 1) := by decide +kernel
theorem dM_cancel_60 : decode cM_cancel 60 = .ok (.aload_n 0, 1) := by decide +kernel
theorem dM_cancel_61 : decode cM_cancel 61 = .ok (.getfield 22, 3) := by decide +kernel
theorem dM_cancel_64 : decode cM_cancel 64 = .ok (.iload_n 1, 1) := by decide +kernel
theorem dM_cancel_65 : decode cM_cancel 65 = .ok (.iaload, 1) := by decide +kernel
theorem dM_cancel_66 : decode cM_cancel 66 = .ok (.invokevirtual 88, 3) := by decide +kernel
theorem dM_cancel_69 : decode cM_cancel 69 = .ok (.goto 4, 3) := by decide +kernel
theorem dM_cancel_72 : decode cM_cancel 72 = .ok (.iconst 0, 1) := by decide +kernel
theorem dM_cancel_73 : decode cM_cancel 73 = .ok (.istore_n 2, 1) := by decide +kernel
theorem dM_cancel_74 : decode cM_cancel 74 = .ok (.aload_n 0, 1) := by decide +kernel
theorem dM_cancel_75 : decode cM_cancel 75 = .ok (.iload_n 1, 1) := by decide +kernel
theorem dM_cancel_76 : decode cM_cancel 76 = .ok (.iconst 0, 1) := by decide +kernel
theorem dM_cancel_77 : decode cM_cancel 77 = .ok (.invokevirtual 91, 3) := by decide +kernel
theorem dM_cancel_80 : decode cM_cancel 80 = .ok (.aload_n 0, 1) := by decide +kernel
theorem dM_cancel_81 : decode cM_cancel 81 = .ok (.getfield 16, 3) := by decide +kernel
theorem dM_cancel_84 : decode cM_cancel 84 = .ok (.iload_n 1, 1) := by decide +kernel
theorem dM_cancel_85 : decode cM_cancel 85 = .ok (.iconst 4, 1) := by decide +kernel
theorem dM_cancel_86 : decode cM_cancel 86 = .ok (.iastore, 1) := by decide +kernel
theorem dM_cancel_87 : decode cM_cancel 87 = .ok (.aload_n 0, 1) := by decide +kernel
theorem dM_cancel_88 : decode cM_cancel 88 = .ok (.invokevirtual 71, 3) := by decide +kernel
theorem dM_cancel_91 : decode cM_cancel 91 = .ok (.iload_n 2, 1) := by decide +kernel
theorem dM_cancel_92 : decode cM_cancel 92 = .ok (.ireturn, 1) := by decide +kernel
theorem dM_shrink_0 : decode cM_shrink 0 = .ok (.aload_n 0, 1) := by decide +kernel
theorem dM_shrink_1 : decode cM_shrink 1 = .ok (.aload_n 0, 1) := by decide +kernel
theorem dM_shrink_2 : decode cM_shrink 2 = .ok (.iload_n 1, 1) := by decide +kernel
theorem dM_shrink_3 : decode cM_shrink 3 = .ok (.invokevirtual 82, 3) := by decide +kernel
theorem dM_shrink_6 : decode cM_shrink 6 = .ok (.ifCond .ne 18, 3) := by decide +kernel
theorem dM_shrink_9 : decode cM_shrink 9 = .ok (.iload_n 2, 1) := by decide +kernel
theorem dM_shrink_10 : decode cM_shrink 10 = .ok (.iconst 1, 1) := by decide +kernel
theorem dM_shrink_11 : decode cM_shrink 11 = .ok (.if_icmp .lt 13, 3) := by decide +kernel
theorem dM_shrink_14 : decode cM_shrink 14 = .ok (.iload_n 2, 1) := by decide +kernel
theorem dM_shrink_15 : decode cM_shrink 15 = .ok (.aload_n 0, 1) := by decide +kernel
theorem dM_shrink_16 : decode cM_shrink 16 = .ok (.getfield 22, 3) := by decide +kernel
theorem dM_shrink_19 : decode cM_shrink 19 = .ok (.iload_n 1, 1) := by decide +kernel
theorem dM_shrink_20 : decode cM_shrink 20 = .ok (.iaload, 1) := by decide +kernel
theorem dM_shrink_21 : decode cM_shrink 21 = .ok (.if_icmp .lt 7, 3) := by decide +kernel
theorem dM_shrink_24 : decode cM_shrink 24 = .ok (.iconst 1, 1) := by decide +kernel
theorem dM_shrink_25 : decode cM_shrink 25 = .ok (.goto 26, 3) := by decide +kernel
theorem dM_shrink_28 : decode cM_shrink 28 = .ok (.aload_n 0, 1) := by decide +kernel
theorem dM_shrink_29 : decode cM_shrink 29 = .ok (.iload_n 1, 1) := by decide +kernel
theorem dM_shrink_30 : decode cM_shrink 30 = .ok (.invokevirtual 53, 3) := by decide +kernel
theorem dM_shrink_33 : decode cM_shrink 33 = .ok (.ifCond .ne 17, 3) := by decide +kernel
theorem dM_shrink_36 : decode cM_shrink 36 = .ok (.aload_n 0, 1) := by decide +kernel
theorem dM_shrink_37 : decode cM_shrink 37 = .ok (.getfield 16, 3) := by decide +kernel
theorem dM_shrink_40 : decode cM_shrink 40 = .ok (.iload_n 1, 1) := by decide +kernel
theorem dM_shrink_41 : decode cM_shrink 41 = .ok (.iaload, 1) := by decide +kernel
theorem dM_shrink_42 : decode cM_shrink 42 = .ok (.iconst 3, 1) := by decide +kernel
theorem dM_shrink_43 : decode cM_shrink 43 = .ok (.if_icmp .eq 7, 3) := by decide +kernel
theorem dM_shrink_46 : decode cM_shrink 46 = .ok (.iconst 2, 1) := by decide +kernel
theorem dM_shrink_47 : decode cM_shrink 47 = .ok (.goto 4, 3) := by decide +kernel
theorem dM_shrink_50 : decode cM_shrink 50 = .ok (.iconst 0, 1) := by decide +kernel
theorem dM_shrink_51 : decode cM_shrink 51 = .ok (.putfield 47, 3) := by decide +kernel
theorem dM_shrink_54 : decode cM_shrink 54 = .ok (.aload_n 0, 1) := by decide +kernel
theorem dM_shrink_55 : decode cM_shrink 55 = .ok (.getfield 47, 3) := by decide +kernel
theorem dM_shrink_58 : decode cM_shrink 58 = .ok (.ifCond .eq 5, 3) := by decide +kernel
theorem dM_shrink_61 : decode cM_shrink 61 = .ok (.iconst 0, 1) := by decide +kernel
theorem dM_shrink_62 : decode cM_shrink 62 = .ok (.ireturn, 1) := by decide +kernel
theorem dM_shrink_63 : decode cM_shrink 63 = .ok (.aload_n 0, 1) := by decide +kernel
theorem dM_shrink_64 : decode cM_shrink 64 = .ok (.getfield 16, 3) := by decide +kernel
theorem dM_shrink_67 : decode cM_shrink 67 = .ok (.iload_n 1, 1) := by decide +kernel
theorem dM_shrink_68 : decode cM_shrink 68 = .ok (.iaload, 1) := by decide +kernel
theorem dM_shrink_69 : decode cM_shrink 69 = .ok (.iconst 2, 1) := by decide +kernel
theorem dM_shrink_70 : decode cM_shrink 70 = .ok (.if_icmp .ne 12, 3) := by decide +kernel
theorem dM_shrink_73 : decode cM_shrink 73 = .ok (.aload_n 0, 1) := by decide +kernel
theorem dM_shrink_74 : decode cM_shrink 74 = .ok (.iload_n 1, 1) := by decide +kernel
theorem dM_shrink_75 : decode cM_shrink 75 = .ok (.iload_n 2, 1) := by decide +kernel
theorem dM_shrink_76 : decode cM_shrink 76 = .ok (.invokevirtual 88, 3) := by decide +kernel
theorem dM_shrink_79 : decode cM_shrink 79 = .ok (.goto 4, 3) := by decide +kernel
theorem dM_shrink_82 : decode cM_shrink 82 = .ok (.iconst 0, 1) := by decide +kernel
theorem dM_shrink_83 : decode cM_shrink 83 = .ok (.istore_n 3, 1) := by decide +kernel
theorem dM_shrink_84 : decode cM_shrink 84 = .ok (.aload_n 0, 1) := by decide +kernel
theorem dM_shrink_85 : decode cM_shrink 85 = .ok (.getfield 22, 3) := by decide +kernel
theorem dM_shrink_88 : decode cM_shrink 88 = .ok (.iload_n 1, 1) := by decide +kernel
theorem dM_shrink_89 : decode cM_shrink 89 = .ok (.dup2, 1) := by decide +kernel
theorem dM_shrink_90 : decode cM_shrink 90 = .ok (.iaload, 1) := by decide +kernel
theorem dM_shrink_91 : decode cM_shrink 91 = .ok (.iload_n 2, 1) := by decide +kernel
theorem dM_shrink_92 : decode cM_shrink 92 = .ok (.isub, 1) := by decide +kernel
theorem dM_shrink_93 : decode cM_shrink 93 = .ok (.iastore, 1) := by decide +kernel
theorem dM_shrink_94 : decode cM_shrink 94 = .ok (.aload_n 0, 1) := by decide +kernel
theorem dM_shrink_95 : decode cM_shrink 95 = .ok (.iload_n 1, 1) := by decide +kernel
theorem dM_shrink_96 : decode cM_shrink 96 = .ok (.aload_n 0, 1) := by decide +kernel
theorem dM_shrink_97 : decode cM_shrink 97 = .ok (.getfield 22, 3) := by decide +kernel
theorem dM_shrink_100 : decode cM_shrink 100 = .ok (.iload_n 1, 1) := by decide +kernel
theorem dM_shrink_101 : decode cM_shrink 101 = .ok (.iaload, 1) := by decide +kernel
theorem dM_shrink_102 : decode cM_shrink 102 = .ok (.invokevirtual 91, 3) := by decide +kernel
theorem dM_shrink_105 : decode cM_shrink 105 = .ok (.aload_n 0, 1) := by decide +kernel
theorem dM_shrink_106 : decode cM_shrink 106 = .ok (.invokevirtual 71, 3) := by decide +kernel
theorem dM_shrink_109 : decode cM_shrink 109 = .ok (.iload_n 3, 1) := by decide +kernel
theorem dM_shrink_110 : decode cM_shrink 110 = .ok (.ireturn, 1) := by decide +kernel
theorem dM_change_0 : decode cM_change 0 = .ok (.aload_n 0, 1) := by decide +kernel
theorem dM_change_1 : decode cM_change 1 = .ok (.aload_n 0, 1) := by decide +kernel
theorem dM_change_2 : decode cM_change 2 = .ok (.iload_n 1, 1) := by decide +kernel
theorem dM_change_3 : decode cM_change 3 = .ok (.invokevirtual 82, 3) := by decide +kernel
theorem dM_change_6 : decode cM_change 6 = .ok (.ifCond .ne 11, 3) := by decide +kernel
theorem dM_change_9 : decode cM_change 9 = .ok (.aload_n 0, 1) := by decide +kernel
theorem dM_change_10 : decode cM_change 10 = .ok (.iload_n 2, 1) := by decide +kernel
theorem dM_change_11 : decode cM_change 11 = .ok (.invokevirtual 64, 3) := by decide +kernel
theorem dM_change_14 : decode cM_change 14 = .ok (.ifCond .eq 7, 3) := by decide +kernel
theorem dM_change_17 : decode cM_change 17 = .ok (.iconst 1, 1) := by decide +kernel
theorem dM_change_18 : decode cM_change 18 = .ok (.goto 35, 3) := by decide +kernel
theorem dM_change_21 : decode cM_change 21 = .ok (.aload_n 0, 1) := by decide +kernel
theorem dM_change_22 : decode cM_change 22 = .ok (.iload_n 1, 1) := by decide +kernel
theorem dM_change_23 : decode cM_change 23 = .ok (.invokevirtual 53, 3) := by decide +kernel
theorem dM_change_26 : decode cM_change 26 = .ok (.ifCond .ne 7, 3) := by decide +kernel
theorem dM_change_29 : decode cM_change 29 = .ok (.iconst 2, 1) := by decide +kernel
theorem dM_change_30 : decode cM_change 30 = .ok (.goto 23, 3) := by decide +kernel
theorem dM_change_33 : decode cM_change 33 = .ok (.aload_n 0, 1) := by decide +kernel
theorem dM_change_34 : decode cM_change 34 = .ok (.iload_n 2, 1) := by decide +kernel
theorem dM_change_35 : decode cM_change 35 = .ok (.iload_n 1, 1) := by decide +kernel
theorem dM_change_36 : decode cM_change 36 = .ok (.invokevirtual 57, 3) := by decide +kernel
theorem dM_change_39 : decode cM_change 39 = .ok (.aload_n 0, 1) := by decide +kernel
theorem dM_change_40 : decode cM_change 40 = .ok (.getfield 22, 3) := by decide +kernel
theorem dM_change_43 : decode cM_change 43 = .ok (.iload_n 1, 1) := by decide +kernel
theorem dM_change_44 : decode cM_change 44 = .ok (.iaload, 1) := by decide +kernel
theorem dM_change_45 : decode cM_change 45 = .ok (.if_icmp .ge 7, 3) := by decide +kernel
theorem dM_change_48 : decode cM_change 48 = .ok (.iconst 3, 1) := by decide +kernel
theorem dM_change_49 : decode cM_change 49 = .ok (.goto 4, 3) := by decide +kernel
theorem dM_change_52 : decode cM_change 52 = .ok (.iconst 0, 1) := by decide +kernel
theorem dM_change_53 : decode cM_change 53 = .ok (.putfield 47, 3) := by decide +kernel
theorem dM_change_56 : decode cM_change 56 = .ok (.aload_n 0, 1) := by decide +kernel
theorem dM_change_57 : decode cM_change 57 = .ok (.getfield 47, 3) := by decide +kernel
theorem dM_change_60 : decode cM_change 60 = .ok (.ifCond .ne 14, 3) := by decide +kernel
theorem dM_change_63 : decode cM_change 63 = .ok (.aload_n 0, 1) := by decide +kernel
theorem dM_change_64 : decode cM_change 64 = .ok (.getfield 19, 3) := by decide +kernel
theorem dM_change_67 : decode cM_change 67 = .ok (.iload_n 1, 1) := by decide +kernel
theorem dM_change_68 : decode cM_change 68 = .ok (.iload_n 2, 1) := by decide +kernel
theorem dM_change_69 : decode cM_change 69 = .ok (.iastore, 1) := by decide +kernel
theorem dM_change_70 : decode cM_change 70 = .ok (.aload_n 0, 1) := by decide +kernel
theorem dM_change_71 : decode cM_change 71 = .ok (.invokevirtual 71, 3) := by decide +kernel
theorem dM_change_74 : decode cM_change 74 = .ok (.return_, 1) := by decide +kernel
theorem dM_give_0 : decode cM_give 0 = .ok (.aload_n 0, 1) := by decide +kernel
theorem dM_give_1 : decode cM_give 1 = .ok (.getfield 37, 3) := by decide +kernel
theorem dM_give_4 : decode cM_give 4 = .ok (.bipush 6, 2) := by decide +kernel
theorem dM_give_6 : decode cM_give 6 = .ok (.iload_n 1, 1) := by decide +kernel
theorem dM_give_7 : decode cM_give 7 = .ok (.imul, 1) := by decide +kernel
theorem dM_give_8 : decode cM_give 8 = .ok (.aload_n 0, 1) := by decide +kernel
theorem dM_give_9 : decode cM_give 9 = .ok (.getfield 34, 3) := by decide +kernel
theorem dM_give_12 : decode cM_give 12 = .ok (.iload_n 1, 1) := by decide +kernel
theorem dM_give_13 : decode cM_give 13 = .ok (.iaload, 1) := by decide +kernel
theorem dM_give_14 : decode cM_give 14 = .ok (.iadd, 1) := by decide +kernel
theorem dM_give_15 : decode cM_give 15 = .ok (.iload_n 2, 1) := by decide +kernel
theorem dM_give_16 : decode cM_give 16 = .ok (.iastore, 1) := by decide +kernel
theorem dM_give_17 : decode cM_give 17 = .ok (.aload_n 0, 1) := by decide +kernel
theorem dM_give_18 : decode cM_give 18 = .ok (.getfield 34, 3) := by decide +kernel
theorem dM_give_21 : decode cM_give 21 = .ok (.iload_n 1, 1) := by decide +kernel
theorem dM_give_22 : decode cM_give 22 = .ok (.dup2, 1) := by decide +kernel
theorem dM_give_23 : decode cM_give 23 = .ok (.iaload, 1) := by decide +kernel
theorem dM_give_24 : decode cM_give 24 = .ok (.iconst 1, 1) := by decide +kernel
theorem dM_give_25 : decode cM_give 25 = .ok (.iadd, 1) := by decide +kernel
theorem dM_give_26 : decode cM_give 26 = .ok (.iastore, 1) := by decide +kernel
theorem dM_give_27 : decode cM_give 27 = .ok (.aload_n 0, 1) := by decide +kernel
theorem dM_give_28 : decode cM_give 28 = .ok (.getfield 40, 3) := by decide +kernel
theorem dM_give_31 : decode cM_give 31 = .ok (.iload_n 2, 1) := by decide +kernel
theorem dM_give_32 : decode cM_give 32 = .ok (.iload_n 1, 1) := by decide +kernel
theorem dM_give_33 : decode cM_give 33 = .ok (.iconst 1, 1) := by decide +kernel
theorem dM_give_34 : decode cM_give 34 = .ok (.iadd, 1) := by decide +kernel
theorem dM_give_35 : decode cM_give 35 = .ok (.iastore, 1) := by decide +kernel
theorem dM_give_36 : decode cM_give 36 = .ok (.return_, 1) := by decide +kernel
theorem dM_freeSeats_0 : decode cM_freeSeats 0 = .ok (.iconst 0, 1) := by decide +kernel
theorem dM_freeSeats_1 : decode cM_freeSeats 1 = .ok (.istore_n 1, 1) := by decide +kernel
theorem dM_freeSeats_2 : decode cM_freeSeats 2 = .ok (.iconst 0, 1) := by decide +kernel
theorem dM_freeSeats_3 : decode cM_freeSeats 3 = .ok (.istore_n 2, 1) := by decide +kernel
theorem dM_freeSeats_4 : decode cM_freeSeats 4 = .ok (.iload_n 2, 1) := by decide +kernel
theorem dM_freeSeats_5 : decode cM_freeSeats 5 = .ok (.aload_n 0, 1) := by decide +kernel
theorem dM_freeSeats_6 : decode cM_freeSeats 6 = .ok (.getfield 43, 3) := by decide +kernel
theorem dM_freeSeats_9 : decode cM_freeSeats 9 = .ok (.if_icmp .ge 26, 3) := by decide +kernel
theorem dM_freeSeats_12 : decode cM_freeSeats 12 = .ok (.iload_n 1, 1) := by decide +kernel
theorem dM_freeSeats_13 : decode cM_freeSeats 13 = .ok (.aload_n 0, 1) := by decide +kernel
theorem dM_freeSeats_14 : decode cM_freeSeats 14 = .ok (.getfield 40, 3) := by decide +kernel
theorem dM_freeSeats_17 : decode cM_freeSeats 17 = .ok (.iload_n 2, 1) := by decide +kernel
theorem dM_freeSeats_18 : decode cM_freeSeats 18 = .ok (.iaload, 1) := by decide +kernel
theorem dM_freeSeats_19 : decode cM_freeSeats 19 = .ok (.ifCond .ne 7, 3) := by decide +kernel
theorem dM_freeSeats_22 : decode cM_freeSeats 22 = .ok (.iconst 1, 1) := by decide +kernel
theorem dM_freeSeats_23 : decode cM_freeSeats 23 = .ok (.goto 4, 3) := by decide +kernel
theorem dM_freeSeats_26 : decode cM_freeSeats 26 = .ok (.iconst 0, 1) := by decide +kernel
theorem dM_freeSeats_27 : decode cM_freeSeats 27 = .ok (.iadd, 1) := by decide +kernel
theorem dM_freeSeats_28 : decode cM_freeSeats 28 = .ok (.istore_n 1, 1) := by decide +kernel
theorem dM_freeSeats_29 : decode cM_freeSeats 29 = .ok (.iinc 2 1, 3) := by decide +kernel
theorem dM_freeSeats_32 : decode cM_freeSeats 32 = .ok (.goto (-28), 3) := by decide +kernel
theorem dM_freeSeats_35 : decode cM_freeSeats 35 = .ok (.iload_n 1, 1) := by decide +kernel
theorem dM_freeSeats_36 : decode cM_freeSeats 36 = .ok (.ireturn, 1) := by decide +kernel
theorem dM_hasAll_0 : decode cM_hasAll 0 = .ok (.aload_n 0, 1) := by decide +kernel
theorem dM_hasAll_1 : decode cM_hasAll 1 = .ok (.getfield 16, 3) := by decide +kernel
theorem dM_hasAll_4 : decode cM_hasAll 4 = .ok (.iload_n 1, 1) := by decide +kernel
theorem dM_hasAll_5 : decode cM_hasAll 5 = .ok (.iaload, 1) := by decide +kernel
theorem dM_hasAll_6 : decode cM_hasAll 6 = .ok (.iconst 2, 1) := by decide +kernel
theorem dM_hasAll_7 : decode cM_hasAll 7 = .ok (.if_icmp .ne 18, 3) := by decide +kernel
theorem dM_hasAll_10 : decode cM_hasAll 10 = .ok (.aload_n 0, 1) := by decide +kernel
theorem dM_hasAll_11 : decode cM_hasAll 11 = .ok (.getfield 34, 3) := by decide +kernel
theorem dM_hasAll_14 : decode cM_hasAll 14 = .ok (.iload_n 1, 1) := by decide +kernel
theorem dM_hasAll_15 : decode cM_hasAll 15 = .ok (.iaload, 1) := by decide +kernel
theorem dM_hasAll_16 : decode cM_hasAll 16 = .ok (.aload_n 0, 1) := by decide +kernel
theorem dM_hasAll_17 : decode cM_hasAll 17 = .ok (.getfield 22, 3) := by decide +kernel
theorem dM_hasAll_20 : decode cM_hasAll 20 = .ok (.iload_n 1, 1) := by decide +kernel
theorem dM_hasAll_21 : decode cM_hasAll 21 = .ok (.iaload, 1) := by decide +kernel
theorem dM_hasAll_22 : decode cM_hasAll 22 = .ok (.if_icmp .ne 7, 3) := by decide +kernel
theorem dM_hasAll_25 : decode cM_hasAll 25 = .ok (.iconst 1, 1) := by decide +kernel
theorem dM_hasAll_26 : decode cM_hasAll 26 = .ok (.goto 4, 3) := by decide +kernel
theorem dM_hasAll_29 : decode cM_hasAll 29 = .ok (.iconst 0, 1) := by decide +kernel
theorem dM_hasAll_30 : decode cM_hasAll 30 = .ok (.ireturn, 1) := by decide +kernel
theorem dM_seat_0 : decode cM_seat 0 = .ok (.aload_n 0, 1) := by decide +kernel
theorem dM_seat_1 : decode cM_seat 1 = .ok (.aload_n 0, 1) := by decide +kernel
theorem dM_seat_2 : decode cM_seat 2 = .ok (.iload_n 1, 1) := by decide +kernel
theorem dM_seat_3 : decode cM_seat 3 = .ok (.invokevirtual 82, 3) := by decide +kernel
theorem dM_seat_6 : decode cM_seat 6 = .ok (.ifCond .ne 15, 3) := by decide +kernel
theorem dM_seat_9 : decode cM_seat 9 = .ok (.iload_n 2, 1) := by decide +kernel
theorem dM_seat_10 : decode cM_seat 10 = .ok (.ifCond .lt 11, 3) := by decide +kernel
theorem dM_seat_13 : decode cM_seat 13 = .ok (.iload_n 2, 1) := by decide +kernel
theorem dM_seat_14 : decode cM_seat 14 = .ok (.aload_n 0, 1) := by decide +kernel
theorem dM_seat_15 : decode cM_seat 15 = .ok (.getfield 43, 3) := by decide +kernel
theorem dM_seat_18 : decode cM_seat 18 = .ok (.if_icmp .lt 7, 3) := by decide +kernel
theorem dM_seat_21 : decode cM_seat 21 = .ok (.iconst 1, 1) := by decide +kernel
theorem dM_seat_22 : decode cM_seat 22 = .ok (.goto 29, 3) := by decide +kernel
theorem dM_seat_25 : decode cM_seat 25 = .ok (.aload_n 0, 1) := by decide +kernel
theorem dM_seat_26 : decode cM_seat 26 = .ok (.iload_n 1, 1) := by decide +kernel
theorem dM_seat_27 : decode cM_seat 27 = .ok (.invokevirtual 95, 3) := by decide +kernel
theorem dM_seat_30 : decode cM_seat 30 = .ok (.ifCond .eq 7, 3) := by decide +kernel
theorem dM_seat_33 : decode cM_seat 33 = .ok (.iconst 2, 1) := by decide +kernel
theorem dM_seat_34 : decode cM_seat 34 = .ok (.goto 17, 3) := by decide +kernel
theorem dM_seat_37 : decode cM_seat 37 = .ok (.aload_n 0, 1) := by decide +kernel
theorem dM_seat_38 : decode cM_seat 38 = .ok (.getfield 40, 3) := by decide +kernel
theorem dM_seat_41 : decode cM_seat 41 = .ok (.iload_n 2, 1) := by decide +kernel
theorem dM_seat_42 : decode cM_seat 42 = .ok (.iaload, 1) := by decide +kernel
theorem dM_seat_43 : decode cM_seat 43 = .ok (.ifCond .le 7, 3) := by decide +kernel
theorem dM_seat_46 : decode cM_seat 46 = .ok (.iconst 3, 1) := by decide +kernel
theorem dM_seat_47 : decode cM_seat 47 = .ok (.goto 4, 3) := by decide +kernel
theorem dM_seat_50 : decode cM_seat 50 = .ok (.iconst 0, 1) := by decide +kernel
theorem dM_seat_51 : decode cM_seat 51 = .ok (.putfield 47, 3) := by decide +kernel
theorem dM_seat_54 : decode cM_seat 54 = .ok (.aload_n 0, 1) := by decide +kernel
theorem dM_seat_55 : decode cM_seat 55 = .ok (.getfield 47, 3) := by decide +kernel
theorem dM_seat_58 : decode cM_seat 58 = .ok (.ifCond .eq 5, 3) := by decide +kernel
theorem dM_seat_61 : decode cM_seat 61 = .ok (.iconst 0, 1) := by decide +kernel
theorem dM_seat_62 : decode cM_seat 62 = .ok (.ireturn, 1) := by decide +kernel
theorem dM_seat_63 : decode cM_seat 63 = .ok (.aload_n 0, 1) := by decide +kernel
theorem dM_seat_64 : decode cM_seat 64 = .ok (.iload_n 1, 1) := by decide +kernel
theorem dM_seat_65 : decode cM_seat 65 = .ok (.iload_n 2, 1) := by decide +kernel
theorem dM_seat_66 : decode cM_seat 66 = .ok (.invokevirtual 98, 3) := by decide +kernel
theorem dM_seat_69 : decode cM_seat 69 = .ok (.aload_n 0, 1) := by decide +kernel
theorem dM_seat_70 : decode cM_seat 70 = .ok (.getfield 34, 3) := by decide +kernel
theorem dM_seat_73 : decode cM_seat 73 = .ok (.iload_n 1, 1) := by decide +kernel
theorem dM_seat_74 : decode cM_seat 74 = .ok (.iaload, 1) := by decide +kernel
theorem dM_seat_75 : decode cM_seat 75 = .ok (.ireturn, 1) := by decide +kernel
theorem dM_isRun_0 : decode cM_isRun 0 = .ok (.iload_n 1, 1) := by decide +kernel
theorem dM_isRun_1 : decode cM_isRun 1 = .ok (.iload_n 2, 1) := by decide +kernel
theorem dM_isRun_2 : decode cM_isRun 2 = .ok (.iadd, 1) := by decide +kernel
theorem dM_isRun_3 : decode cM_isRun 3 = .ok (.iconst 1, 1) := by decide +kernel
theorem dM_isRun_4 : decode cM_isRun 4 = .ok (.isub, 1) := by decide +kernel
theorem dM_isRun_5 : decode cM_isRun 5 = .ok (.istore 4, 2) := by decide +kernel
theorem dM_isRun_7 : decode cM_isRun 7 = .ok (.iload_n 3, 1) := by decide +kernel
theorem dM_isRun_8 : decode cM_isRun 8 = .ok (.ifCond .eq 7, 3) := by decide +kernel
theorem dM_isRun_11 : decode cM_isRun 11 = .ok (.iconst 3, 1) := by decide +kernel
theorem dM_isRun_12 : decode cM_isRun 12 = .ok (.goto 5, 3) := by decide +kernel
theorem dM_isRun_15 : decode cM_isRun 15 = .ok (.bipush 6, 2) := by decide +kernel
theorem dM_isRun_17 : decode cM_isRun 17 = .ok (.istore 5, 2) := by decide +kernel
theorem dM_isRun_19 : decode cM_isRun 19 = .ok (.iload 4, 2) := by decide +kernel
theorem dM_isRun_21 : decode cM_isRun 21 = .ok (.aload_n 0, 1) := by decide +kernel
theorem dM_isRun_22 : decode cM_isRun 22 = .ok (.getfield 43, 3) := by decide +kernel
theorem dM_isRun_25 : decode cM_isRun 25 = .ok (.if_icmp .ge 19, 3) := by decide +kernel
theorem dM_isRun_28 : decode cM_isRun 28 = .ok (.iload_n 1, 1) := by decide +kernel
theorem dM_isRun_29 : decode cM_isRun 29 = .ok (.iload 5, 2) := by decide +kernel
theorem dM_isRun_31 : decode cM_isRun 31 = .ok (.idiv, 1) := by decide +kernel
theorem dM_isRun_32 : decode cM_isRun 32 = .ok (.iload 4, 2) := by decide +kernel
theorem dM_isRun_34 : decode cM_isRun 34 = .ok (.iload 5, 2) := by decide +kernel
theorem dM_isRun_36 : decode cM_isRun 36 = .ok (.idiv, 1) := by decide +kernel
theorem dM_isRun_37 : decode cM_isRun 37 = .ok (.if_icmp .ne 7, 3) := by decide +kernel
theorem dM_isRun_40 : decode cM_isRun 40 = .ok (.iconst 1, 1) := by decide +kernel
theorem dM_isRun_41 : decode cM_isRun 41 = .ok (.goto 4, 3) := by decide +kernel
theorem dM_isRun_44 : decode cM_isRun 44 = .ok (.iconst 0, 1) := by decide +kernel
theorem dM_isRun_45 : decode cM_isRun 45 = .ok (.istore 6, 2) := by decide +kernel
theorem dM_isRun_47 : decode cM_isRun 47 = .ok (.iload_n 1, 1) := by decide +kernel
theorem dM_isRun_48 : decode cM_isRun 48 = .ok (.istore 7, 2) := by decide +kernel
theorem dM_isRun_50 : decode cM_isRun 50 = .ok (.iload 7, 2) := by decide +kernel
theorem dM_isRun_52 : decode cM_isRun 52 = .ok (.iload 4, 2) := by decide +kernel
theorem dM_isRun_54 : decode cM_isRun 54 = .ok (.if_icmp .gt 31, 3) := by decide +kernel
theorem dM_isRun_57 : decode cM_isRun 57 = .ok (.iload 6, 2) := by decide +kernel
theorem dM_isRun_59 : decode cM_isRun 59 = .ok (.ifCond .eq 26, 3) := by decide +kernel
theorem dM_isRun_62 : decode cM_isRun 62 = .ok (.aload_n 0, 1) := by decide +kernel
theorem dM_isRun_63 : decode cM_isRun 63 = .ok (.getfield 40, 3) := by decide +kernel
theorem dM_isRun_66 : decode cM_isRun 66 = .ok (.iload 7, 2) := by decide +kernel
theorem dM_isRun_68 : decode cM_isRun 68 = .ok (.iaload, 1) := by decide +kernel
theorem dM_isRun_69 : decode cM_isRun 69 = .ok (.ifCond .ne 7, 3) := by decide +kernel
theorem dM_isRun_72 : decode cM_isRun 72 = .ok (.iconst 1, 1) := by decide +kernel
theorem dM_isRun_73 : decode cM_isRun 73 = .ok (.goto 4, 3) := by decide +kernel
theorem dM_isRun_76 : decode cM_isRun 76 = .ok (.iconst 0, 1) := by decide +kernel
theorem dM_isRun_77 : decode cM_isRun 77 = .ok (.istore 6, 2) := by decide +kernel
theorem dM_isRun_79 : decode cM_isRun 79 = .ok (.iinc 7 1, 3) := by decide +kernel
theorem dM_isRun_82 : decode cM_isRun 82 = .ok (.goto (-32), 3) := by decide +kernel
theorem dM_isRun_85 : decode cM_isRun 85 = .ok (.iload 6, 2) := by decide +kernel
theorem dM_isRun_87 : decode cM_isRun 87 = .ok (.ireturn, 1) := by decide +kernel
theorem dM_findRun_0 : decode cM_findRun 0 = .ok (.iconst 0, 1) := by decide +kernel
theorem dM_findRun_1 : decode cM_findRun 1 = .ok (.istore_n 3, 1) := by decide +kernel
theorem dM_findRun_2 : decode cM_findRun 2 = .ok (.iload_n 3, 1) := by decide +kernel
theorem dM_findRun_3 : decode cM_findRun 3 = .ok (.aload_n 0, 1) := by decide +kernel
theorem dM_findRun_4 : decode cM_findRun 4 = .ok (.getfield 43, 3) := by decide +kernel
theorem dM_findRun_7 : decode cM_findRun 7 = .ok (.if_icmp .ge 21, 3) := by decide +kernel
theorem dM_findRun_10 : decode cM_findRun 10 = .ok (.aload_n 0, 1) := by decide +kernel
theorem dM_findRun_11 : decode cM_findRun 11 = .ok (.iload_n 3, 1) := by decide +kernel
theorem dM_findRun_12 : decode cM_findRun 12 = .ok (.iload_n 1, 1) := by decide +kernel
theorem dM_findRun_13 : decode cM_findRun 13 = .ok (.iload_n 2, 1) := by decide +kernel
theorem dM_findRun_14 : decode cM_findRun 14 = .ok (.invokevirtual 101, 3) := by decide +kernel
theorem dM_findRun_17 : decode cM_findRun 17 = .ok (.ifCond .eq 5, 3) := by decide +kernel
theorem dM_findRun_20 : decode cM_findRun 20 = .ok (.iload_n 3, 1) := by decide +kernel
theorem dM_findRun_21 : decode cM_findRun 21 = .ok (.ireturn, 1) := by decide +kernel
theorem dM_findRun_22 : decode cM_findRun 22 = .ok (.iinc 3 1, 3) := by decide +kernel
theorem dM_findRun_25 : decode cM_findRun 25 = .ok (.goto (-23), 3) := by decide +kernel
theorem dM_findRun_28 : decode cM_findRun 28 = .ok (.iconst (-1), 1) := by decide +kernel
theorem dM_findRun_29 : decode cM_findRun 29 = .ok (.ireturn, 1) := by decide +kernel
theorem dM_giveFirst_0 : decode cM_giveFirst 0 = .ok (.iload_n 2, 1) := by decide +kernel
theorem dM_giveFirst_1 : decode cM_giveFirst 1 = .ok (.istore_n 3, 1) := by decide +kernel
theorem dM_giveFirst_2 : decode cM_giveFirst 2 = .ok (.iconst 0, 1) := by decide +kernel
theorem dM_giveFirst_3 : decode cM_giveFirst 3 = .ok (.istore 4, 2) := by decide +kernel
theorem dM_giveFirst_5 : decode cM_giveFirst 5 = .ok (.iload 4, 2) := by decide +kernel
theorem dM_giveFirst_7 : decode cM_giveFirst 7 = .ok (.aload_n 0, 1) := by decide +kernel
theorem dM_giveFirst_8 : decode cM_giveFirst 8 = .ok (.getfield 43, 3) := by decide +kernel
theorem dM_giveFirst_11 : decode cM_giveFirst 11 = .ok (.if_icmp .ge 33, 3) := by decide +kernel
theorem dM_giveFirst_14 : decode cM_giveFirst 14 = .ok (.iload_n 3, 1) := by decide +kernel
theorem dM_giveFirst_15 : decode cM_giveFirst 15 = .ok (.ifCond .le 29, 3) := by decide +kernel
theorem dM_giveFirst_18 : decode cM_giveFirst 18 = .ok (.aload_n 0, 1) := by decide +kernel
theorem dM_giveFirst_19 : decode cM_giveFirst 19 = .ok (.getfield 40, 3) := by decide +kernel
theorem dM_giveFirst_22 : decode cM_giveFirst 22 = .ok (.iload 4, 2) := by decide +kernel
theorem dM_giveFirst_24 : decode cM_giveFirst 24 = .ok (.iaload, 1) := by decide +kernel
theorem dM_giveFirst_25 : decode cM_giveFirst 25 = .ok (.ifCond .ne 13, 3) := by decide +kernel
theorem dM_giveFirst_28 : decode cM_giveFirst 28 = .ok (.aload_n 0, 1) := by decide +kernel
theorem dM_giveFirst_29 : decode cM_giveFirst 29 = .ok (.iload_n 1, 1) := by decide +kernel
theorem dM_giveFirst_30 : decode cM_giveFirst 30 = .ok (.iload 4, 2) := by decide +kernel
theorem dM_giveFirst_32 : decode cM_giveFirst 32 = .ok (.invokevirtual 98, 3) := by decide +kernel
theorem dM_giveFirst_35 : decode cM_giveFirst 35 = .ok (.iinc 3 (-1), 3) := by decide +kernel
theorem dM_giveFirst_38 : decode cM_giveFirst 38 = .ok (.iinc 4 1, 3) := by decide +kernel
theorem dM_giveFirst_41 : decode cM_giveFirst 41 = .ok (.goto (-36), 3) := by decide +kernel
theorem dM_giveFirst_44 : decode cM_giveFirst 44 = .ok (.return_, 1) := by decide +kernel
theorem dM_together_0 : decode cM_together 0 = .ok (.aload_n 0, 1) := by decide +kernel
theorem dM_together_1 : decode cM_together 1 = .ok (.aload_n 0, 1) := by decide +kernel
theorem dM_together_2 : decode cM_together 2 = .ok (.iload_n 1, 1) := by decide +kernel
theorem dM_together_3 : decode cM_together 3 = .ok (.invokevirtual 82, 3) := by decide +kernel
theorem dM_together_6 : decode cM_together 6 = .ok (.ifCond .eq 7, 3) := by decide +kernel
theorem dM_together_9 : decode cM_together 9 = .ok (.iconst 1, 1) := by decide +kernel
theorem dM_together_10 : decode cM_together 10 = .ok (.goto 40, 3) := by decide +kernel
theorem dM_together_13 : decode cM_together 13 = .ok (.aload_n 0, 1) := by decide +kernel
theorem dM_together_14 : decode cM_together 14 = .ok (.iload_n 1, 1) := by decide +kernel
theorem dM_together_15 : decode cM_together 15 = .ok (.invokevirtual 95, 3) := by decide +kernel
theorem dM_together_18 : decode cM_together 18 = .ok (.ifCond .eq 7, 3) := by decide +kernel
theorem dM_together_21 : decode cM_together 21 = .ok (.iconst 2, 1) := by decide +kernel
theorem dM_together_22 : decode cM_together 22 = .ok (.goto 28, 3) := by decide +kernel
theorem dM_together_25 : decode cM_together 25 = .ok (.aload_n 0, 1) := by decide +kernel
theorem dM_together_26 : decode cM_together 26 = .ok (.invokevirtual 105, 3) := by decide +kernel
theorem dM_together_29 : decode cM_together 29 = .ok (.aload_n 0, 1) := by decide +kernel
theorem dM_together_30 : decode cM_together 30 = .ok (.getfield 22, 3) := by decide +kernel
theorem dM_together_33 : decode cM_together 33 = .ok (.iload_n 1, 1) := by decide +kernel
theorem dM_together_34 : decode cM_together 34 = .ok (.iaload, 1) := by decide +kernel
theorem dM_together_35 : decode cM_together 35 = .ok (.aload_n 0, 1) := by decide +kernel
theorem dM_together_36 : decode cM_together 36 = .ok (.getfield 34, 3) := by decide +kernel
theorem dM_together_39 : decode cM_together 39 = .ok (.iload_n 1, 1) := by decide +kernel
theorem dM_together_40 : decode cM_together 40 = .ok (.iaload, 1) := by decide +kernel
theorem dM_together_41 : decode cM_together 41 = .ok (.isub, 1) := by decide +kernel
theorem dM_together_42 : decode cM_together 42 = .ok (.if_icmp .ge 7, 3) := by decide +kernel
theorem dM_together_45 : decode cM_together 45 = .ok (.iconst 3, 1) := by decide +kernel
theorem dM_together_46 : decode cM_together 46 = .ok (.goto 4, 3) := by decide +kernel
theorem dM_together_49 : decode cM_together 49 = .ok (.iconst 0, 1) := by decide +kernel
theorem dM_together_50 : decode cM_together 50 = .ok (.putfield 47, 3) := by decide +kernel
theorem dM_together_53 : decode cM_together 53 = .ok (.aload_n 0, 1) := by decide +kernel
theorem dM_together_54 : decode cM_together 54 = .ok (.getfield 47, 3) := by decide +kernel
theorem dM_together_57 : decode cM_together 57 = .ok (.ifCond .eq 5, 3) := by decide +kernel
theorem dM_together_60 : decode cM_together 60 = .ok (.iconst 0, 1) := by decide +kernel
theorem dM_together_61 : decode cM_together 61 = .ok (.ireturn, 1) := by decide +kernel
theorem dM_together_62 : decode cM_together 62 = .ok (.aload_n 0, 1) := by decide +kernel
theorem dM_together_63 : decode cM_together 63 = .ok (.getfield 34, 3) := by decide +kernel
theorem dM_together_66 : decode cM_together 66 = .ok (.iload_n 1, 1) := by decide +kernel
theorem dM_together_67 : decode cM_together 67 = .ok (.iaload, 1) := by decide +kernel
theorem dM_together_68 : decode cM_together 68 = .ok (.istore_n 2, 1) := by decide +kernel
theorem dM_together_69 : decode cM_together 69 = .ok (.aload_n 0, 1) := by decide +kernel
theorem dM_together_70 : decode cM_together 70 = .ok (.getfield 22, 3) := by decide +kernel
theorem dM_together_73 : decode cM_together 73 = .ok (.iload_n 1, 1) := by decide +kernel
theorem dM_together_74 : decode cM_together 74 = .ok (.iaload, 1) := by decide +kernel
theorem dM_together_75 : decode cM_together 75 = .ok (.iload_n 2, 1) := by decide +kernel
theorem dM_together_76 : decode cM_together 76 = .ok (.isub, 1) := by decide +kernel
theorem dM_together_77 : decode cM_together 77 = .ok (.istore_n 3, 1) := by decide +kernel
theorem dM_together_78 : decode cM_together 78 = .ok (.aload_n 0, 1) := by decide +kernel
theorem dM_together_79 : decode cM_together 79 = .ok (.iload_n 3, 1) := by decide +kernel
theorem dM_together_80 : decode cM_together 80 = .ok (.iconst 1, 1) := by decide +kernel
theorem dM_together_81 : decode cM_together 81 = .ok (.invokevirtual 109, 3) := by decide +kernel
theorem dM_together_84 : decode cM_together 84 = .ok (.istore 4, 2) := by decide +kernel
theorem dM_together_86 : decode cM_together 86 = .ok (.iload 4, 2) := by decide +kernel
theorem dM_together_88 : decode cM_together 88 = .ok (.ifCond .ge 12, 3) := by decide +kernel
theorem dM_together_91 : decode cM_together 91 = .ok (.aload_n 0, 1) := by decide +kernel
theorem dM_together_92 : decode cM_together 92 = .ok (.iload_n 3, 1) := by decide +kernel
theorem dM_together_93 : decode cM_together 93 = .ok (.iconst 0, 1) := by decide +kernel
theorem dM_together_94 : decode cM_together 94 = .ok (.invokevirtual 109, 3) := by decide +kernel
theorem dM_together_97 : decode cM_together 97 = .ok (.goto 5, 3) := by decide +kernel
theorem dM_together_100 : decode cM_together 100 = .ok (.iload 4, 2) := by decide +kernel
theorem dM_together_102 : decode cM_together 102 = .ok (.istore 4, 2) := by decide +kernel
theorem dM_together_104 : decode cM_together 104 = .ok (.iload 4, 2) := by decide +kernel
theorem dM_together_106 : decode cM_together 106 = .ok (.ifCond .ge 12, 3) := by decide +kernel
theorem dM_together_109 : decode cM_together 109 = .ok (.aload_n 0, 1) := by decide +kernel
theorem dM_together_110 : decode cM_together 110 = .ok (.iload_n 1, 1) := by decide +kernel
theorem dM_together_111 : decode cM_together 111 = .ok (.iload_n 3, 1) := by decide +kernel
theorem dM_together_112 : decode cM_together 112 = .ok (.invokevirtual 113, 3) := by decide +kernel
theorem dM_together_115 : decode cM_together 115 = .ok (.goto 29, 3) := by decide +kernel
theorem dM_together_118 : decode cM_together 118 = .ok (.iload 4, 2) := by decide +kernel
theorem dM_together_120 : decode cM_together 120 = .ok (.istore 5, 2) := by decide +kernel
theorem dM_together_122 : decode cM_together 122 = .ok (.iload 5, 2) := by decide +kernel
theorem dM_together_124 : decode cM_together 124 = .ok (.iload 4, 2) := by decide +kernel
theorem dM_together_126 : decode cM_together 126 = .ok (.iload_n 3, 1) := by decide +kernel
theorem dM_together_127 : decode cM_together 127 = .ok (.iadd, 1) := by decide +kernel
theorem dM_together_128 : decode cM_together 128 = .ok (.if_icmp .ge 16, 3) := by decide +kernel
theorem dM_together_131 : decode cM_together 131 = .ok (.aload_n 0, 1) := by decide +kernel
theorem dM_together_132 : decode cM_together 132 = .ok (.iload_n 1, 1) := by decide +kernel
theorem dM_together_133 : decode cM_together 133 = .ok (.iload 5, 2) := by decide +kernel
theorem dM_together_135 : decode cM_together 135 = .ok (.invokevirtual 98, 3) := by decide +kernel
theorem dM_together_138 : decode cM_together 138 = .ok (.iinc 5 1, 3) := by decide +kernel
theorem dM_together_141 : decode cM_together 141 = .ok (.goto (-19), 3) := by decide +kernel
theorem dM_together_144 : decode cM_together 144 = .ok (.aload_n 0, 1) := by decide +kernel
theorem dM_together_145 : decode cM_together 145 = .ok (.getfield 37, 3) := by decide +kernel
theorem dM_together_148 : decode cM_together 148 = .ok (.bipush 6, 2) := by decide +kernel
theorem dM_together_150 : decode cM_together 150 = .ok (.iload_n 1, 1) := by decide +kernel
theorem dM_together_151 : decode cM_together 151 = .ok (.imul, 1) := by decide +kernel
theorem dM_together_152 : decode cM_together 152 = .ok (.iload_n 2, 1) := by decide +kernel
theorem dM_together_153 : decode cM_together 153 = .ok (.iadd, 1) := by decide +kernel
theorem dM_together_154 : decode cM_together 154 = .ok (.iaload, 1) := by decide +kernel
theorem dM_together_155 : decode cM_together 155 = .ok (.ireturn, 1) := by decide +kernel
theorem dM_tick_0 : decode cM_tick 0 = .ok (.aload_n 0, 1) := by decide +kernel
theorem dM_tick_1 : decode cM_tick 1 = .ok (.iload_n 1, 1) := by decide +kernel
theorem dM_tick_2 : decode cM_tick 2 = .ok (.iconst 1, 1) := by decide +kernel
theorem dM_tick_3 : decode cM_tick 3 = .ok (.if_icmp .lt 9, 3) := by decide +kernel
theorem dM_tick_6 : decode cM_tick 6 = .ok (.iload_n 1, 1) := by decide +kernel
theorem dM_tick_7 : decode cM_tick 7 = .ok (.bipush 100, 2) := by decide +kernel
theorem dM_tick_9 : decode cM_tick 9 = .ok (.if_icmp .le 7, 3) := by decide +kernel
theorem dM_tick_12 : decode cM_tick 12 = .ok (.iconst 1, 1) := by decide +kernel
theorem dM_tick_13 : decode cM_tick 13 = .ok (.goto 4, 3) := by decide +kernel
theorem dM_tick_16 : decode cM_tick 16 = .ok (.iconst 0, 1) := by decide +kernel
theorem dM_tick_17 : decode cM_tick 17 = .ok (.putfield 47, 3) := by decide +kernel
theorem dM_tick_20 : decode cM_tick 20 = .ok (.iconst 0, 1) := by decide +kernel
theorem dM_tick_21 : decode cM_tick 21 = .ok (.istore_n 2, 1) := by decide +kernel
theorem dM_tick_22 : decode cM_tick 22 = .ok (.iload_n 2, 1) := by decide +kernel
theorem dM_tick_23 : decode cM_tick 23 = .ok (.iload_n 1, 1) := by decide +kernel
theorem dM_tick_24 : decode cM_tick 24 = .ok (.if_icmp .ge 89, 3) := by decide +kernel
theorem dM_tick_27 : decode cM_tick 27 = .ok (.aload_n 0, 1) := by decide +kernel
theorem dM_tick_28 : decode cM_tick 28 = .ok (.getfield 47, 3) := by decide +kernel
theorem dM_tick_31 : decode cM_tick 31 = .ok (.ifCond .ne 82, 3) := by decide +kernel
theorem dM_tick_34 : decode cM_tick 34 = .ok (.aload_n 0, 1) := by decide +kernel
theorem dM_tick_35 : decode cM_tick 35 = .ok (.dup, 1) := by decide +kernel
theorem dM_tick_36 : decode cM_tick 36 = .ok (.getfield 61, 3) := by decide +kernel
theorem dM_tick_39 : decode cM_tick 39 = .ok (.iconst 1, 1) := by decide +kernel
theorem dM_tick_40 : decode cM_tick 40 = .ok (.iadd, 1) := by decide +kernel
theorem dM_tick_41 : decode cM_tick 41 = .ok (.putfield 61, 3) := by decide +kernel
theorem dM_tick_44 : decode cM_tick 44 = .ok (.iconst 0, 1) := by decide +kernel
theorem dM_tick_45 : decode cM_tick 45 = .ok (.istore_n 3, 1) := by decide +kernel
theorem dM_tick_46 : decode cM_tick 46 = .ok (.iconst 0, 1) := by decide +kernel
theorem dM_tick_47 : decode cM_tick 47 = .ok (.istore 4, 2) := by decide +kernel
theorem dM_tick_49 : decode cM_tick 49 = .ok (.iload 4, 2) := by decide +kernel
theorem dM_tick_51 : decode cM_tick 51 = .ok (.aload_n 0, 1) := by decide +kernel
theorem dM_tick_52 : decode cM_tick 52 = .ok (.getfield 50, 3) := by decide +kernel
theorem dM_tick_55 : decode cM_tick 55 = .ok (.if_icmp .ge 44, 3) := by decide +kernel
theorem dM_tick_58 : decode cM_tick 58 = .ok (.aload_n 0, 1) := by decide +kernel
theorem dM_tick_59 : decode cM_tick 59 = .ok (.getfield 16, 3) := by decide +kernel
theorem dM_tick_62 : decode cM_tick 62 = .ok (.iload 4, 2) := by decide +kernel
theorem dM_tick_64 : decode cM_tick 64 = .ok (.iaload, 1) := by decide +kernel
theorem dM_tick_65 : decode cM_tick 65 = .ok (.iconst 1, 1) := by decide +kernel
theorem dM_tick_66 : decode cM_tick 66 = .ok (.if_icmp .ne 27, 3) := by decide +kernel
theorem dM_tick_69 : decode cM_tick 69 = .ok (.aload_n 0, 1) := by decide +kernel
theorem dM_tick_70 : decode cM_tick 70 = .ok (.getfield 28, 3) := by decide +kernel
theorem dM_tick_73 : decode cM_tick 73 = .ok (.iload 4, 2) := by decide +kernel
theorem dM_tick_75 : decode cM_tick 75 = .ok (.iaload, 1) := by decide +kernel
theorem dM_tick_76 : decode cM_tick 76 = .ok (.aload_n 0, 1) := by decide +kernel
theorem dM_tick_77 : decode cM_tick 77 = .ok (.getfield 61, 3) := by decide +kernel
theorem dM_tick_80 : decode cM_tick 80 = .ok (.if_icmp .gt 13, 3) := by decide +kernel
theorem dM_tick_83 : decode cM_tick 83 = .ok (.aload_n 0, 1) := by decide +kernel
theorem dM_tick_84 : decode cM_tick 84 = .ok (.getfield 16, 3) := by decide +kernel
theorem dM_tick_87 : decode cM_tick 87 = .ok (.iload 4, 2) := by decide +kernel
theorem dM_tick_89 : decode cM_tick 89 = .ok (.iconst 5, 1) := by decide +kernel
theorem dM_tick_90 : decode cM_tick 90 = .ok (.iastore, 1) := by decide +kernel
theorem dM_tick_91 : decode cM_tick 91 = .ok (.iconst 1, 1) := by decide +kernel
theorem dM_tick_92 : decode cM_tick 92 = .ok (.istore_n 3, 1) := by decide +kernel
theorem dM_tick_93 : decode cM_tick 93 = .ok (.iinc 4 1, 3) := by decide +kernel
theorem dM_tick_96 : decode cM_tick 96 = .ok (.goto (-47), 3) := by decide +kernel
theorem dM_tick_99 : decode cM_tick 99 = .ok (.iload_n 3, 1) := by decide +kernel
theorem dM_tick_100 : decode cM_tick 100 = .ok (.ifCond .eq 7, 3) := by decide +kernel
theorem dM_tick_103 : decode cM_tick 103 = .ok (.aload_n 0, 1) := by decide +kernel
theorem dM_tick_104 : decode cM_tick 104 = .ok (.invokevirtual 71, 3) := by decide +kernel
theorem dM_tick_107 : decode cM_tick 107 = .ok (.iinc 2 1, 3) := by decide +kernel
theorem dM_tick_110 : decode cM_tick 110 = .ok (.goto (-88), 3) := by decide +kernel
theorem dM_tick_113 : decode cM_tick 113 = .ok (.return_, 1) := by decide +kernel
theorem dM_board_0 : decode cM_board 0 = .ok (.aload_n 0, 1) := by decide +kernel
theorem dM_board_1 : decode cM_board 1 = .ok (.getfield 22, 3) := by decide +kernel
theorem dM_board_4 : decode cM_board 4 = .ok (.iload_n 1, 1) := by decide +kernel
theorem dM_board_5 : decode cM_board 5 = .ok (.iaload, 1) := by decide +kernel
theorem dM_board_6 : decode cM_board 6 = .ok (.aload_n 0, 1) := by decide +kernel
theorem dM_board_7 : decode cM_board 7 = .ok (.getfield 34, 3) := by decide +kernel
theorem dM_board_10 : decode cM_board 10 = .ok (.iload_n 1, 1) := by decide +kernel
theorem dM_board_11 : decode cM_board 11 = .ok (.iaload, 1) := by decide +kernel
theorem dM_board_12 : decode cM_board 12 = .ok (.isub, 1) := by decide +kernel
theorem dM_board_13 : decode cM_board 13 = .ok (.istore_n 2, 1) := by decide +kernel
theorem dM_board_14 : decode cM_board 14 = .ok (.aload_n 0, 1) := by decide +kernel
theorem dM_board_15 : decode cM_board 15 = .ok (.invokevirtual 105, 3) := by decide +kernel
theorem dM_board_18 : decode cM_board 18 = .ok (.iload_n 2, 1) := by decide +kernel
theorem dM_board_19 : decode cM_board 19 = .ok (.if_icmp .ge 41, 3) := by decide +kernel
theorem dM_board_22 : decode cM_board 22 = .ok (.aload_n 0, 1) := by decide +kernel
theorem dM_board_23 : decode cM_board 23 = .ok (.iload_n 1, 1) := by decide +kernel
theorem dM_board_24 : decode cM_board 24 = .ok (.iconst 0, 1) := by decide +kernel
theorem dM_board_25 : decode cM_board 25 = .ok (.invokevirtual 91, 3) := by decide +kernel
theorem dM_board_28 : decode cM_board 28 = .ok (.aload_n 0, 1) := by decide +kernel
theorem dM_board_29 : decode cM_board 29 = .ok (.getfield 16, 3) := by decide +kernel
theorem dM_board_32 : decode cM_board 32 = .ok (.iload_n 1, 1) := by decide +kernel
theorem dM_board_33 : decode cM_board 33 = .ok (.bipush 7, 2) := by decide +kernel
theorem dM_board_35 : decode cM_board 35 = .ok (.iastore, 1) := by decide +kernel
theorem dM_board_36 : decode cM_board 36 = .ok (.aload_n 0, 1) := by decide +kernel
theorem dM_board_37 : decode cM_board 37 = .ok (.dup, 1) := by decide +kernel
theorem dM_board_38 : decode cM_board 38 = .ok (.getfield 85, 3) := by decide +kernel
theorem dM_board_41 : decode cM_board 41 = .ok (.aload_n 0, 1) := by decide +kernel
theorem dM_board_42 : decode cM_board 42 = .ok (.getfield 31, 3) := by decide +kernel
theorem dM_board_45 : decode cM_board 45 = .ok (.iload_n 1, 1) := by decide +kernel
theorem dM_board_46 : decode cM_board 46 = .ok (.iaload, 1) := by decide +kernel
theorem dM_board_47 : decode cM_board 47 = .ok (.isub, 1) := by decide +kernel
theorem dM_board_48 : decode cM_board 48 = .ok (.putfield 85, 3) := by decide +kernel
theorem dM_board_51 : decode cM_board 51 = .ok (.aload_n 0, 1) := by decide +kernel
theorem dM_board_52 : decode cM_board 52 = .ok (.getfield 31, 3) := by decide +kernel
theorem dM_board_55 : decode cM_board 55 = .ok (.iload_n 1, 1) := by decide +kernel
theorem dM_board_56 : decode cM_board 56 = .ok (.iconst 0, 1) := by decide +kernel
theorem dM_board_57 : decode cM_board 57 = .ok (.iastore, 1) := by decide +kernel
theorem dM_board_58 : decode cM_board 58 = .ok (.iconst 0, 1) := by decide +kernel
theorem dM_board_59 : decode cM_board 59 = .ok (.ireturn, 1) := by decide +kernel
theorem dM_board_60 : decode cM_board 60 = .ok (.aload_n 0, 1) := by decide +kernel
theorem dM_board_61 : decode cM_board 61 = .ok (.iload_n 1, 1) := by decide +kernel
theorem dM_board_62 : decode cM_board 62 = .ok (.iload_n 2, 1) := by decide +kernel
theorem dM_board_63 : decode cM_board 63 = .ok (.invokevirtual 113, 3) := by decide +kernel
theorem dM_board_66 : decode cM_board 66 = .ok (.aload_n 0, 1) := by decide +kernel
theorem dM_board_67 : decode cM_board 67 = .ok (.getfield 16, 3) := by decide +kernel
theorem dM_board_70 : decode cM_board 70 = .ok (.iload_n 1, 1) := by decide +kernel
theorem dM_board_71 : decode cM_board 71 = .ok (.bipush 6, 2) := by decide +kernel
theorem dM_board_73 : decode cM_board 73 = .ok (.iastore, 1) := by decide +kernel
theorem dM_board_74 : decode cM_board 74 = .ok (.aload_n 0, 1) := by decide +kernel
theorem dM_board_75 : decode cM_board 75 = .ok (.getfield 22, 3) := by decide +kernel
theorem dM_board_78 : decode cM_board 78 = .ok (.iload_n 1, 1) := by decide +kernel
theorem dM_board_79 : decode cM_board 79 = .ok (.iaload, 1) := by decide +kernel
theorem dM_board_80 : decode cM_board 80 = .ok (.ireturn, 1) := by decide +kernel
theorem dM_close_0 : decode cM_close 0 = .ok (.aload_n 0, 1) := by decide +kernel
theorem dM_close_1 : decode cM_close 1 = .ok (.aload_n 0, 1) := by decide +kernel
theorem dM_close_2 : decode cM_close 2 = .ok (.getfield 67, 3) := by decide +kernel
theorem dM_close_5 : decode cM_close 5 = .ok (.ifCond .eq 7, 3) := by decide +kernel
theorem dM_close_8 : decode cM_close 8 = .ok (.iconst 1, 1) := by decide +kernel
theorem dM_close_9 : decode cM_close 9 = .ok (.goto 4, 3) := by decide +kernel
theorem dM_close_12 : decode cM_close 12 = .ok (.iconst 0, 1) := by decide +kernel
theorem dM_close_13 : decode cM_close 13 = .ok (.putfield 47, 3) := by decide +kernel
theorem dM_close_16 : decode cM_close 16 = .ok (.aload_n 0, 1) := by decide +kernel
theorem dM_close_17 : decode cM_close 17 = .ok (.getfield 67, 3) := by decide +kernel
theorem dM_close_20 : decode cM_close 20 = .ok (.ifCond .eq 5, 3) := by decide +kernel
theorem dM_close_23 : decode cM_close 23 = .ok (.iconst 0, 1) := by decide +kernel
theorem dM_close_24 : decode cM_close 24 = .ok (.ireturn, 1) := by decide +kernel
theorem dM_close_25 : decode cM_close 25 = .ok (.aload_n 0, 1) := by decide +kernel
theorem dM_close_26 : decode cM_close 26 = .ok (.iconst 1, 1) := by decide +kernel
theorem dM_close_27 : decode cM_close 27 = .ok (.putfield 67, 3) := by decide +kernel
theorem dM_close_30 : decode cM_close 30 = .ok (.iconst 0, 1) := by decide +kernel
theorem dM_close_31 : decode cM_close 31 = .ok (.istore_n 1, 1) := by decide +kernel
theorem dM_close_32 : decode cM_close 32 = .ok (.iload_n 1, 1) := by decide +kernel
theorem dM_close_33 : decode cM_close 33 = .ok (.aload_n 0, 1) := by decide +kernel
theorem dM_close_34 : decode cM_close 34 = .ok (.getfield 50, 3) := by decide +kernel
theorem dM_close_37 : decode cM_close 37 = .ok (.if_icmp .ge 49, 3) := by decide +kernel
theorem dM_close_40 : decode cM_close 40 = .ok (.aload_n 0, 1) := by decide +kernel
theorem dM_close_41 : decode cM_close 41 = .ok (.getfield 16, 3) := by decide +kernel
theorem dM_close_44 : decode cM_close 44 = .ok (.iload_n 1, 1) := by decide +kernel
theorem dM_close_45 : decode cM_close 45 = .ok (.aload_n 0, 1) := by decide +kernel
theorem dM_close_46 : decode cM_close 46 = .ok (.getfield 16, 3) := by decide +kernel
theorem dM_close_49 : decode cM_close 49 = .ok (.iload_n 1, 1) := by decide +kernel
theorem dM_close_50 : decode cM_close 50 = .ok (.iaload, 1) := by decide +kernel
theorem dM_close_51 : decode cM_close 51 = .ok (.iconst 1, 1) := by decide +kernel
theorem dM_close_52 : decode cM_close 52 = .ok (.if_icmp .ne 7, 3) := by decide +kernel
theorem dM_close_55 : decode cM_close 55 = .ok (.iconst 5, 1) := by decide +kernel
theorem dM_close_56 : decode cM_close 56 = .ok (.goto 23, 3) := by decide +kernel
theorem dM_close_59 : decode cM_close 59 = .ok (.aload_n 0, 1) := by decide +kernel
theorem dM_close_60 : decode cM_close 60 = .ok (.getfield 16, 3) := by decide +kernel
theorem dM_close_63 : decode cM_close 63 = .ok (.iload_n 1, 1) := by decide +kernel
theorem dM_close_64 : decode cM_close 64 = .ok (.iaload, 1) := by decide +kernel
theorem dM_close_65 : decode cM_close 65 = .ok (.iconst 3, 1) := by decide +kernel
theorem dM_close_66 : decode cM_close 66 = .ok (.if_icmp .ne 7, 3) := by decide +kernel
theorem dM_close_69 : decode cM_close 69 = .ok (.iconst 4, 1) := by decide +kernel
theorem dM_close_70 : decode cM_close 70 = .ok (.goto 9, 3) := by decide +kernel
theorem dM_close_73 : decode cM_close 73 = .ok (.aload_n 0, 1) := by decide +kernel
theorem dM_close_74 : decode cM_close 74 = .ok (.getfield 16, 3) := by decide +kernel
theorem dM_close_77 : decode cM_close 77 = .ok (.iload_n 1, 1) := by decide +kernel
theorem dM_close_78 : decode cM_close 78 = .ok (.iaload, 1) := by decide +kernel
theorem dM_close_79 : decode cM_close 79 = .ok (.iastore, 1) := by decide +kernel
theorem dM_close_80 : decode cM_close 80 = .ok (.iinc 1 1, 3) := by decide +kernel
theorem dM_close_83 : decode cM_close 83 = .ok (.goto (-51), 3) := by decide +kernel
theorem dM_close_86 : decode cM_close 86 = .ok (.iconst 0, 1) := by decide +kernel
theorem dM_close_87 : decode cM_close 87 = .ok (.istore_n 1, 1) := by decide +kernel
theorem dM_close_88 : decode cM_close 88 = .ok (.iconst 0, 1) := by decide +kernel
theorem dM_close_89 : decode cM_close 89 = .ok (.istore_n 2, 1) := by decide +kernel
theorem dM_close_90 : decode cM_close 90 = .ok (.iload_n 2, 1) := by decide +kernel
theorem dM_close_91 : decode cM_close 91 = .ok (.iconst 4, 1) := by decide +kernel
theorem dM_close_92 : decode cM_close 92 = .ok (.if_icmp .ge 57, 3) := by decide +kernel
theorem dM_close_95 : decode cM_close 95 = .ok (.iconst 0, 1) := by decide +kernel
theorem dM_close_96 : decode cM_close 96 = .ok (.istore_n 3, 1) := by decide +kernel
theorem dM_close_97 : decode cM_close 97 = .ok (.iload_n 3, 1) := by decide +kernel
theorem dM_close_98 : decode cM_close 98 = .ok (.aload_n 0, 1) := by decide +kernel
theorem dM_close_99 : decode cM_close 99 = .ok (.getfield 50, 3) := by decide +kernel
theorem dM_close_102 : decode cM_close 102 = .ok (.if_icmp .ge 41, 3) := by decide +kernel
theorem dM_close_105 : decode cM_close 105 = .ok (.iload_n 1, 1) := by decide +kernel
theorem dM_close_106 : decode cM_close 106 = .ok (.aload_n 0, 1) := by decide +kernel
theorem dM_close_107 : decode cM_close 107 = .ok (.getfield 16, 3) := by decide +kernel
theorem dM_close_110 : decode cM_close 110 = .ok (.iload_n 3, 1) := by decide +kernel
theorem dM_close_111 : decode cM_close 111 = .ok (.iaload, 1) := by decide +kernel
theorem dM_close_112 : decode cM_close 112 = .ok (.iconst 2, 1) := by decide +kernel
theorem dM_close_113 : decode cM_close 113 = .ok (.if_icmp .ne 21, 3) := by decide +kernel
theorem dM_close_116 : decode cM_close 116 = .ok (.aload_n 0, 1) := by decide +kernel
theorem dM_close_117 : decode cM_close 117 = .ok (.getfield 19, 3) := by decide +kernel
theorem dM_close_120 : decode cM_close 120 = .ok (.iload_n 3, 1) := by decide +kernel
theorem dM_close_121 : decode cM_close 121 = .ok (.iaload, 1) := by decide +kernel
theorem dM_close_122 : decode cM_close 122 = .ok (.iload_n 2, 1) := by decide +kernel
theorem dM_close_123 : decode cM_close 123 = .ok (.if_icmp .ne 11, 3) := by decide +kernel
theorem dM_close_126 : decode cM_close 126 = .ok (.aload_n 0, 1) := by decide +kernel
theorem dM_close_127 : decode cM_close 127 = .ok (.iload_n 3, 1) := by decide +kernel
theorem dM_close_128 : decode cM_close 128 = .ok (.invokevirtual 116, 3) := by decide +kernel
theorem dM_close_131 : decode cM_close 131 = .ok (.goto 4, 3) := by decide +kernel
theorem dM_close_134 : decode cM_close 134 = .ok (.iconst 0, 1) := by decide +kernel
theorem dM_close_135 : decode cM_close 135 = .ok (.iadd, 1) := by decide +kernel
theorem dM_close_136 : decode cM_close 136 = .ok (.istore_n 1, 1) := by decide +kernel
theorem dM_close_137 : decode cM_close 137 = .ok (.iinc 3 1, 3) := by decide +kernel
theorem dM_close_140 : decode cM_close 140 = .ok (.goto (-43), 3) := by decide +kernel
theorem dM_close_143 : decode cM_close 143 = .ok (.iinc 2 1, 3) := by decide +kernel
theorem dM_close_146 : decode cM_close 146 = .ok (.goto (-56), 3) := by decide +kernel
theorem dM_close_149 : decode cM_close 149 = .ok (.iload_n 1, 1) := by decide +kernel
theorem dM_close_150 : decode cM_close 150 = .ok (.ireturn, 1) := by decide +kernel
theorem dM_of_0 : decode cM_of 0 = .ok (.aload_n 0, 1) := by decide +kernel
theorem dM_of_1 : decode cM_of 1 = .ok (.aload_n 0, 1) := by decide +kernel
theorem dM_of_2 : decode cM_of 2 = .ok (.iload_n 1, 1) := by decide +kernel
theorem dM_of_3 : decode cM_of 3 = .ok (.invokevirtual 82, 3) := by decide +kernel
theorem dM_of_6 : decode cM_of 6 = .ok (.ifCond .ne 13, 3) := by decide +kernel
theorem dM_of_9 : decode cM_of 9 = .ok (.iload_n 2, 1) := by decide +kernel
theorem dM_of_10 : decode cM_of 10 = .ok (.ifCond .lt 9, 3) := by decide +kernel
theorem dM_of_13 : decode cM_of 13 = .ok (.iload_n 2, 1) := by decide +kernel
theorem dM_of_14 : decode cM_of 14 = .ok (.bipush 6, 2) := by decide +kernel
theorem dM_of_16 : decode cM_of 16 = .ok (.if_icmp .le 7, 3) := by decide +kernel
theorem dM_of_19 : decode cM_of 19 = .ok (.iconst 1, 1) := by decide +kernel
theorem dM_of_20 : decode cM_of 20 = .ok (.goto 4, 3) := by decide +kernel
theorem dM_of_23 : decode cM_of 23 = .ok (.iconst 0, 1) := by decide +kernel
theorem dM_of_24 : decode cM_of 24 = .ok (.putfield 47, 3) := by decide +kernel
theorem dM_of_27 : decode cM_of 27 = .ok (.aload_n 0, 1) := by decide +kernel
theorem dM_of_28 : decode cM_of 28 = .ok (.getfield 47, 3) := by decide +kernel
theorem dM_of_31 : decode cM_of 31 = .ok (.ifCond .eq 5, 3) := by decide +kernel
theorem dM_of_34 : decode cM_of 34 = .ok (.iconst 0, 1) := by decide +kernel
theorem dM_of_35 : decode cM_of 35 = .ok (.ireturn, 1) := by decide +kernel
theorem dM_of_36 : decode cM_of 36 = .ok (.iload_n 2, 1) := by decide +kernel
theorem dM_of_37 : decode cM_of 37 = .ok (.tableswitch 95 0 5 #[39, 46, 53, 60, 67, 74], 39) := by decide +kernel
theorem dM_of_76 : decode cM_of 76 = .ok (.aload_n 0, 1) := by decide +kernel
theorem dM_of_77 : decode cM_of 77 = .ok (.getfield 16, 3) := by decide +kernel
theorem dM_of_80 : decode cM_of 80 = .ok (.iload_n 1, 1) := by decide +kernel
theorem dM_of_81 : decode cM_of 81 = .ok (.iaload, 1) := by decide +kernel
theorem dM_of_82 : decode cM_of 82 = .ok (.ireturn, 1) := by decide +kernel
theorem dM_of_83 : decode cM_of 83 = .ok (.aload_n 0, 1) := by decide +kernel
theorem dM_of_84 : decode cM_of 84 = .ok (.getfield 19, 3) := by decide +kernel
theorem dM_of_87 : decode cM_of 87 = .ok (.iload_n 1, 1) := by decide +kernel
theorem dM_of_88 : decode cM_of 88 = .ok (.iaload, 1) := by decide +kernel
theorem dM_of_89 : decode cM_of 89 = .ok (.ireturn, 1) := by decide +kernel
theorem dM_of_90 : decode cM_of 90 = .ok (.aload_n 0, 1) := by decide +kernel
theorem dM_of_91 : decode cM_of 91 = .ok (.getfield 22, 3) := by decide +kernel
theorem dM_of_94 : decode cM_of 94 = .ok (.iload_n 1, 1) := by decide +kernel
theorem dM_of_95 : decode cM_of 95 = .ok (.iaload, 1) := by decide +kernel
theorem dM_of_96 : decode cM_of 96 = .ok (.ireturn, 1) := by decide +kernel
theorem dM_of_97 : decode cM_of 97 = .ok (.aload_n 0, 1) := by decide +kernel
theorem dM_of_98 : decode cM_of 98 = .ok (.getfield 34, 3) := by decide +kernel
theorem dM_of_101 : decode cM_of 101 = .ok (.iload_n 1, 1) := by decide +kernel
theorem dM_of_102 : decode cM_of 102 = .ok (.iaload, 1) := by decide +kernel
theorem dM_of_103 : decode cM_of 103 = .ok (.ireturn, 1) := by decide +kernel
theorem dM_of_104 : decode cM_of 104 = .ok (.aload_n 0, 1) := by decide +kernel
theorem dM_of_105 : decode cM_of 105 = .ok (.getfield 31, 3) := by decide +kernel
theorem dM_of_108 : decode cM_of 108 = .ok (.iload_n 1, 1) := by decide +kernel
theorem dM_of_109 : decode cM_of 109 = .ok (.iaload, 1) := by decide +kernel
theorem dM_of_110 : decode cM_of 110 = .ok (.ireturn, 1) := by decide +kernel
theorem dM_of_111 : decode cM_of 111 = .ok (.aload_n 0, 1) := by decide +kernel
theorem dM_of_112 : decode cM_of 112 = .ok (.getfield 16, 3) := by decide +kernel
theorem dM_of_115 : decode cM_of 115 = .ok (.iload_n 1, 1) := by decide +kernel
theorem dM_of_116 : decode cM_of 116 = .ok (.iaload, 1) := by decide +kernel
theorem dM_of_117 : decode cM_of 117 = .ok (.iconst 1, 1) := by decide +kernel
theorem dM_of_118 : decode cM_of 118 = .ok (.if_icmp .ne 12, 3) := by decide +kernel
theorem dM_of_121 : decode cM_of 121 = .ok (.aload_n 0, 1) := by decide +kernel
theorem dM_of_122 : decode cM_of 122 = .ok (.getfield 28, 3) := by decide +kernel
theorem dM_of_125 : decode cM_of 125 = .ok (.iload_n 1, 1) := by decide +kernel
theorem dM_of_126 : decode cM_of 126 = .ok (.iaload, 1) := by decide +kernel
theorem dM_of_127 : decode cM_of 127 = .ok (.goto 4, 3) := by decide +kernel
theorem dM_of_130 : decode cM_of 130 = .ok (.iconst (-1), 1) := by decide +kernel
theorem dM_of_131 : decode cM_of 131 = .ok (.ireturn, 1) := by decide +kernel
theorem dM_of_132 : decode cM_of 132 = .ok (.aload_n 0, 1) := by decide +kernel
theorem dM_of_133 : decode cM_of 133 = .ok (.getfield 34, 3) := by decide +kernel
theorem dM_of_136 : decode cM_of 136 = .ok (.iload_n 1, 1) := by decide +kernel
theorem dM_of_137 : decode cM_of 137 = .ok (.iaload, 1) := by decide +kernel
theorem dM_of_138 : decode cM_of 138 = .ok (.ifCond .le 15, 3) := by decide +kernel
theorem dM_of_141 : decode cM_of 141 = .ok (.aload_n 0, 1) := by decide +kernel
theorem dM_of_142 : decode cM_of 142 = .ok (.getfield 37, 3) := by decide +kernel
theorem dM_of_145 : decode cM_of 145 = .ok (.bipush 6, 2) := by decide +kernel
theorem dM_of_147 : decode cM_of 147 = .ok (.iload_n 1, 1) := by decide +kernel
theorem dM_of_148 : decode cM_of 148 = .ok (.imul, 1) := by decide +kernel
theorem dM_of_149 : decode cM_of 149 = .ok (.iaload, 1) := by decide +kernel
theorem dM_of_150 : decode cM_of 150 = .ok (.goto 4, 3) := by decide +kernel
theorem dM_of_153 : decode cM_of 153 = .ok (.iconst (-1), 1) := by decide +kernel
theorem dM_of_154 : decode cM_of 154 = .ok (.ireturn, 1) := by decide +kernel
theorem dM_at_0 : decode cM_at 0 = .ok (.aload_n 0, 1) := by decide +kernel
theorem dM_at_1 : decode cM_at 1 = .ok (.iconst 0, 1) := by decide +kernel
theorem dM_at_2 : decode cM_at 2 = .ok (.putfield 47, 3) := by decide +kernel
theorem dM_at_5 : decode cM_at 5 = .ok (.iload_n 1, 1) := by decide +kernel
theorem dM_at_6 : decode cM_at 6 = .ok (.ifCond .lt 11, 3) := by decide +kernel
theorem dM_at_9 : decode cM_at 9 = .ok (.iload_n 1, 1) := by decide +kernel
theorem dM_at_10 : decode cM_at 10 = .ok (.aload_n 0, 1) := by decide +kernel
theorem dM_at_11 : decode cM_at 11 = .ok (.getfield 43, 3) := by decide +kernel
theorem dM_at_14 : decode cM_at 14 = .ok (.if_icmp .lt 7, 3) := by decide +kernel
theorem dM_at_17 : decode cM_at 17 = .ok (.iconst (-1), 1) := by decide +kernel
theorem dM_at_18 : decode cM_at 18 = .ok (.goto 11, 3) := by decide +kernel
theorem dM_at_21 : decode cM_at 21 = .ok (.aload_n 0, 1) := by decide +kernel
theorem dM_at_22 : decode cM_at 22 = .ok (.getfield 40, 3) := by decide +kernel
theorem dM_at_25 : decode cM_at 25 = .ok (.iload_n 1, 1) := by decide +kernel
theorem dM_at_26 : decode cM_at 26 = .ok (.iaload, 1) := by decide +kernel
theorem dM_at_27 : decode cM_at 27 = .ok (.iconst 1, 1) := by decide +kernel
theorem dM_at_28 : decode cM_at 28 = .ok (.isub, 1) := by decide +kernel
theorem dM_at_29 : decode cM_at 29 = .ok (.ireturn, 1) := by decide +kernel
theorem dM_count_0 : decode cM_count 0 = .ok (.aload_n 0, 1) := by decide +kernel
theorem dM_count_1 : decode cM_count 1 = .ok (.iload_n 1, 1) := by decide +kernel
theorem dM_count_2 : decode cM_count 2 = .ok (.ifCond .lt 9, 3) := by decide +kernel
theorem dM_count_5 : decode cM_count 5 = .ok (.iload_n 1, 1) := by decide +kernel
theorem dM_count_6 : decode cM_count 6 = .ok (.bipush 6, 2) := by decide +kernel
theorem dM_count_8 : decode cM_count 8 = .ok (.if_icmp .le 7, 3) := by decide +kernel
theorem dM_count_11 : decode cM_count 11 = .ok (.iconst 1, 1) := by decide +kernel
theorem dM_count_12 : decode cM_count 12 = .ok (.goto 4, 3) := by decide +kernel
theorem dM_count_15 : decode cM_count 15 = .ok (.iconst 0, 1) := by decide +kernel
theorem dM_count_16 : decode cM_count 16 = .ok (.putfield 47, 3) := by decide +kernel
theorem dM_count_19 : decode cM_count 19 = .ok (.iconst 0, 1) := by decide +kernel
theorem dM_count_20 : decode cM_count 20 = .ok (.istore_n 2, 1) := by decide +kernel
theorem dM_count_21 : decode cM_count 21 = .ok (.iconst 0, 1) := by decide +kernel
theorem dM_count_22 : decode cM_count 22 = .ok (.istore_n 3, 1) := by decide +kernel
theorem dM_count_23 : decode cM_count 23 = .ok (.iload_n 3, 1) := by decide +kernel
theorem dM_count_24 : decode cM_count 24 = .ok (.aload_n 0, 1) := by decide +kernel
theorem dM_count_25 : decode cM_count 25 = .ok (.getfield 50, 3) := by decide +kernel
theorem dM_count_28 : decode cM_count 28 = .ok (.if_icmp .ge 65, 3) := by decide +kernel
theorem dM_count_31 : decode cM_count 31 = .ok (.iload_n 2, 1) := by decide +kernel
theorem dM_count_32 : decode cM_count 32 = .ok (.iload_n 1, 1) := by decide +kernel
theorem dM_count_33 : decode cM_count 33 = .ok (.iconst 2, 1) := by decide +kernel
theorem dM_count_34 : decode cM_count 34 = .ok (.if_icmp .ne 31, 3) := by decide +kernel
theorem dM_count_37 : decode cM_count 37 = .ok (.aload_n 0, 1) := by decide +kernel
theorem dM_count_38 : decode cM_count 38 = .ok (.iload_n 3, 1) := by decide +kernel
theorem dM_count_39 : decode cM_count 39 = .ok (.invokevirtual 53, 3) := by decide +kernel
theorem dM_count_42 : decode cM_count 42 = .ok (.ifCond .ne 14, 3) := by decide +kernel
theorem dM_count_45 : decode cM_count 45 = .ok (.aload_n 0, 1) := by decide +kernel
theorem dM_count_46 : decode cM_count 46 = .ok (.getfield 16, 3) := by decide +kernel
theorem dM_count_49 : decode cM_count 49 = .ok (.iload_n 3, 1) := by decide +kernel
theorem dM_count_50 : decode cM_count 50 = .ok (.iaload, 1) := by decide +kernel
theorem dM_count_51 : decode cM_count 51 = .ok (.bipush 6, 2) := by decide +kernel
theorem dM_count_53 : decode cM_count 53 = .ok (.if_icmp .ne 12, 3) := by decide +kernel
theorem dM_count_56 : decode cM_count 56 = .ok (.aload_n 0, 1) := by decide +kernel
theorem dM_count_57 : decode cM_count 57 = .ok (.getfield 22, 3) := by decide +kernel
theorem dM_count_60 : decode cM_count 60 = .ok (.iload_n 3, 1) := by decide +kernel
theorem dM_count_61 : decode cM_count 61 = .ok (.iaload, 1) := by decide +kernel
theorem dM_count_62 : decode cM_count 62 = .ok (.goto 23, 3) := by decide +kernel
theorem dM_count_65 : decode cM_count 65 = .ok (.iload_n 1, 1) := by decide +kernel
theorem dM_count_66 : decode cM_count 66 = .ok (.iconst 3, 1) := by decide +kernel
theorem dM_count_67 : decode cM_count 67 = .ok (.if_icmp .ne 17, 3) := by decide +kernel
theorem dM_count_70 : decode cM_count 70 = .ok (.aload_n 0, 1) := by decide +kernel
theorem dM_count_71 : decode cM_count 71 = .ok (.getfield 16, 3) := by decide +kernel
theorem dM_count_74 : decode cM_count 74 = .ok (.iload_n 3, 1) := by decide +kernel
theorem dM_count_75 : decode cM_count 75 = .ok (.iaload, 1) := by decide +kernel
theorem dM_count_76 : decode cM_count 76 = .ok (.iconst 3, 1) := by decide +kernel
theorem dM_count_77 : decode cM_count 77 = .ok (.if_icmp .ne 7, 3) := by decide +kernel
theorem dM_count_80 : decode cM_count 80 = .ok (.iconst 1, 1) := by decide +kernel
theorem dM_count_81 : decode cM_count 81 = .ok (.goto 4, 3) := by decide +kernel
theorem dM_count_84 : decode cM_count 84 = .ok (.iconst 0, 1) := by decide +kernel
theorem dM_count_85 : decode cM_count 85 = .ok (.iadd, 1) := by decide +kernel
theorem dM_count_86 : decode cM_count 86 = .ok (.istore_n 2, 1) := by decide +kernel
theorem dM_count_87 : decode cM_count 87 = .ok (.iinc 3 1, 3) := by decide +kernel
theorem dM_count_90 : decode cM_count 90 = .ok (.goto (-67), 3) := by decide +kernel
theorem dM_count_93 : decode cM_count 93 = .ok (.iload_n 1, 1) := by decide +kernel
theorem dM_count_94 : decode cM_count 94 = .ok (.tableswitch 77 0 6 #[42, 47, 52, 52, 54, 59, 64], 42) := by decide +kernel
theorem dM_count_136 : decode cM_count 136 = .ok (.aload_n 0, 1) := by decide +kernel
theorem dM_count_137 : decode cM_count 137 = .ok (.getfield 61, 3) := by decide +kernel
theorem dM_count_140 : decode cM_count 140 = .ok (.ireturn, 1) := by decide +kernel
theorem dM_count_141 : decode cM_count 141 = .ok (.aload_n 0, 1) := by decide +kernel
theorem dM_count_142 : decode cM_count 142 = .ok (.getfield 50, 3) := by decide +kernel
theorem dM_count_145 : decode cM_count 145 = .ok (.ireturn, 1) := by decide +kernel
theorem dM_count_146 : decode cM_count 146 = .ok (.iload_n 2, 1) := by decide +kernel
theorem dM_count_147 : decode cM_count 147 = .ok (.ireturn, 1) := by decide +kernel
theorem dM_count_148 : decode cM_count 148 = .ok (.aload_n 0, 1) := by decide +kernel
theorem dM_count_149 : decode cM_count 149 = .ok (.getfield 85, 3) := by decide +kernel
theorem dM_count_152 : decode cM_count 152 = .ok (.ireturn, 1) := by decide +kernel
theorem dM_count_153 : decode cM_count 153 = .ok (.aload_n 0, 1) := by decide +kernel
theorem dM_count_154 : decode cM_count 154 = .ok (.invokevirtual 105, 3) := by decide +kernel
theorem dM_count_157 : decode cM_count 157 = .ok (.ireturn, 1) := by decide +kernel
theorem dM_count_158 : decode cM_count 158 = .ok (.aload_n 0, 1) := by decide +kernel
theorem dM_count_159 : decode cM_count 159 = .ok (.getfield 67, 3) := by decide +kernel
theorem dM_count_162 : decode cM_count 162 = .ok (.ifCond .eq 7, 3) := by decide +kernel
theorem dM_count_165 : decode cM_count 165 = .ok (.iconst 1, 1) := by decide +kernel
theorem dM_count_166 : decode cM_count 166 = .ok (.goto 4, 3) := by decide +kernel
theorem dM_count_169 : decode cM_count 169 = .ok (.iconst 0, 1) := by decide +kernel
theorem dM_count_170 : decode cM_count 170 = .ok (.ireturn, 1) := by decide +kernel
theorem dM_count_171 : decode cM_count 171 = .ok (.iconst 0, 1) := by decide +kernel
theorem dM_count_172 : decode cM_count 172 = .ok (.ireturn, 1) := by decide +kernel
