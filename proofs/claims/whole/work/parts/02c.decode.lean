theorem dX7_choose_116 : decode cX7_choose 116 = .ok (.getfield 55, 3) := by decide +kernel
theorem dX7_choose_119 : decode cX7_choose 119 = .ok (.putfield 68, 3) := by decide +kernel
theorem dX7_choose_122 : decode cX7_choose 122 = .ok (.iinc 5 1, 3) := by decide +kernel
theorem dX7_choose_125 : decode cX7_choose 125 = .ok (.goto (-100), 3) := by decide +kernel
theorem dX7_choose_128 : decode cX7_choose 128 = .ok (.aload_n 0, 1) := by decide +kernel
theorem dX7_choose_129 : decode cX7_choose 129 = .ok (.getfield 48, 3) := by decide +kernel
theorem dX7_choose_132 : decode cX7_choose 132 = .ok (.iconst (-1), 1) := by decide +kernel
theorem dX7_choose_133 : decode cX7_choose 133 = .ok (.if_icmp .eq 7, 3) := by decide +kernel
theorem dX7_choose_136 : decode cX7_choose 136 = .ok (.iconst 1, 1) := by decide +kernel
theorem dX7_choose_137 : decode cX7_choose 137 = .ok (.goto 4, 3) := by decide +kernel
theorem dX7_choose_140 : decode cX7_choose 140 = .ok (.iconst 0, 1) := by decide +kernel
theorem dX7_choose_141 : decode cX7_choose 141 = .ok (.ireturn, 1) := by decide +kernel
theorem dX7_isBetter_0 : decode cX7_isBetter 0 = .ok (.aload_n 0, 1) := by decide +kernel
theorem dX7_isBetter_1 : decode cX7_isBetter 1 = .ok (.getfield 48, 3) := by decide +kernel
theorem dX7_isBetter_4 : decode cX7_isBetter 4 = .ok (.iconst (-1), 1) := by decide +kernel
theorem dX7_isBetter_5 : decode cX7_isBetter 5 = .ok (.if_icmp .eq 30, 3) := by decide +kernel
theorem dX7_isBetter_8 : decode cX7_isBetter 8 = .ok (.iload_n 1, 1) := by decide +kernel
theorem dX7_isBetter_9 : decode cX7_isBetter 9 = .ok (.aload_n 0, 1) := by decide +kernel
theorem dX7_isBetter_10 : decode cX7_isBetter 10 = .ok (.getfield 65, 3) := by decide +kernel
theorem dX7_isBetter_13 : decode cX7_isBetter 13 = .ok (.if_icmp .gt 22, 3) := by decide +kernel
theorem dX7_isBetter_16 : decode cX7_isBetter 16 = .ok (.iload_n 1, 1) := by decide +kernel
theorem dX7_isBetter_17 : decode cX7_isBetter 17 = .ok (.aload_n 0, 1) := by decide +kernel
theorem dX7_isBetter_18 : decode cX7_isBetter 18 = .ok (.getfield 65, 3) := by decide +kernel
theorem dX7_isBetter_21 : decode cX7_isBetter 21 = .ok (.if_icmp .ne 18, 3) := by decide +kernel
theorem dX7_isBetter_24 : decode cX7_isBetter 24 = .ok (.aload_n 0, 1) := by decide +kernel
theorem dX7_isBetter_25 : decode cX7_isBetter 25 = .ok (.getfield 55, 3) := by decide +kernel
theorem dX7_isBetter_28 : decode cX7_isBetter 28 = .ok (.aload_n 0, 1) := by decide +kernel
theorem dX7_isBetter_29 : decode cX7_isBetter 29 = .ok (.getfield 68, 3) := by decide +kernel
theorem dX7_isBetter_32 : decode cX7_isBetter 32 = .ok (.if_icmp .ge 7, 3) := by decide +kernel
theorem dX7_isBetter_35 : decode cX7_isBetter 35 = .ok (.iconst 1, 1) := by decide +kernel
theorem dX7_isBetter_36 : decode cX7_isBetter 36 = .ok (.goto 4, 3) := by decide +kernel
theorem dX7_isBetter_39 : decode cX7_isBetter 39 = .ok (.iconst 0, 1) := by decide +kernel
theorem dX7_isBetter_40 : decode cX7_isBetter 40 = .ok (.ireturn, 1) := by decide +kernel
theorem dX7_kindsOffered_0 : decode cX7_kindsOffered 0 = .ok (.iconst 0, 1) := by decide +kernel
theorem dX7_kindsOffered_1 : decode cX7_kindsOffered 1 = .ok (.istore_n 1, 1) := by decide +kernel
theorem dX7_kindsOffered_2 : decode cX7_kindsOffered 2 = .ok (.iconst 0, 1) := by decide +kernel
theorem dX7_kindsOffered_3 : decode cX7_kindsOffered 3 = .ok (.istore_n 2, 1) := by decide +kernel
theorem dX7_kindsOffered_4 : decode cX7_kindsOffered 4 = .ok (.iload_n 2, 1) := by decide +kernel
theorem dX7_kindsOffered_5 : decode cX7_kindsOffered 5 = .ok (.aload_n 0, 1) := by decide +kernel
theorem dX7_kindsOffered_6 : decode cX7_kindsOffered 6 = .ok (.getfield 33, 3) := by decide +kernel
theorem dX7_kindsOffered_9 : decode cX7_kindsOffered 9 = .ok (.if_icmp .ge 20, 3) := by decide +kernel
theorem dX7_kindsOffered_12 : decode cX7_kindsOffered 12 = .ok (.iload_n 1, 1) := by decide +kernel
theorem dX7_kindsOffered_13 : decode cX7_kindsOffered 13 = .ok (.iconst 1, 1) := by decide +kernel
theorem dX7_kindsOffered_14 : decode cX7_kindsOffered 14 = .ok (.aload_n 0, 1) := by decide +kernel
theorem dX7_kindsOffered_15 : decode cX7_kindsOffered 15 = .ok (.getfield 21, 3) := by decide +kernel
theorem dX7_kindsOffered_18 : decode cX7_kindsOffered 18 = .ok (.iload_n 2, 1) := by decide +kernel
theorem dX7_kindsOffered_19 : decode cX7_kindsOffered 19 = .ok (.iaload, 1) := by decide +kernel
theorem dX7_kindsOffered_20 : decode cX7_kindsOffered 20 = .ok (.ishl, 1) := by decide +kernel
theorem dX7_kindsOffered_21 : decode cX7_kindsOffered 21 = .ok (.ior, 1) := by decide +kernel
theorem dX7_kindsOffered_22 : decode cX7_kindsOffered 22 = .ok (.istore_n 1, 1) := by decide +kernel
theorem dX7_kindsOffered_23 : decode cX7_kindsOffered 23 = .ok (.iinc 2 1, 3) := by decide +kernel
theorem dX7_kindsOffered_26 : decode cX7_kindsOffered 26 = .ok (.goto (-22), 3) := by decide +kernel
theorem dX7_kindsOffered_29 : decode cX7_kindsOffered 29 = .ok (.iload_n 1, 1) := by decide +kernel
theorem dX7_kindsOffered_30 : decode cX7_kindsOffered 30 = .ok (.ireturn, 1) := by decide +kernel
theorem dX7_weigh_0 : decode cX7_weigh 0 = .ok (.iconst 0, 1) := by decide +kernel
theorem dX7_weigh_1 : decode cX7_weigh 1 = .ok (.istore_n 2, 1) := by decide +kernel
theorem dX7_weigh_2 : decode cX7_weigh 2 = .ok (.bipush 16, 2) := by decide +kernel
theorem dX7_weigh_4 : decode cX7_weigh 4 = .ok (.istore_n 3, 1) := by decide +kernel
theorem dX7_weigh_5 : decode cX7_weigh 5 = .ok (.aload_n 0, 1) := by decide +kernel
theorem dX7_weigh_6 : decode cX7_weigh 6 = .ok (.iconst 0, 1) := by decide +kernel
theorem dX7_weigh_7 : decode cX7_weigh 7 = .ok (.putfield 55, 3) := by decide +kernel
theorem dX7_weigh_10 : decode cX7_weigh 10 = .ok (.aload_n 0, 1) := by decide +kernel
theorem dX7_weigh_11 : decode cX7_weigh 11 = .ok (.iconst 0, 1) := by decide +kernel
theorem dX7_weigh_12 : decode cX7_weigh 12 = .ok (.putfield 58, 3) := by decide +kernel
theorem dX7_weigh_15 : decode cX7_weigh 15 = .ok (.iconst 0, 1) := by decide +kernel
theorem dX7_weigh_16 : decode cX7_weigh 16 = .ok (.istore 4, 2) := by decide +kernel
theorem dX7_weigh_18 : decode cX7_weigh 18 = .ok (.iload 4, 2) := by decide +kernel
theorem dX7_weigh_20 : decode cX7_weigh 20 = .ok (.aload_n 0, 1) := by decide +kernel
theorem dX7_weigh_21 : decode cX7_weigh 21 = .ok (.getfield 33, 3) := by decide +kernel
theorem dX7_weigh_24 : decode cX7_weigh 24 = .ok (.if_icmp .ge 82, 3) := by decide +kernel
theorem dX7_weigh_27 : decode cX7_weigh 27 = .ok (.iload_n 1, 1) := by decide +kernel
theorem dX7_weigh_28 : decode cX7_weigh 28 = .ok (.iload 4, 2) := by decide +kernel
theorem dX7_weigh_30 : decode cX7_weigh 30 = .ok (.invokestatic 71, 3) := by decide +kernel
theorem dX7_weigh_33 : decode cX7_weigh 33 = .ok (.ifCond .eq 67, 3) := by decide +kernel
theorem dX7_weigh_36 : decode cX7_weigh 36 = .ok (.iload_n 2, 1) := by decide +kernel
theorem dX7_weigh_37 : decode cX7_weigh 37 = .ok (.aload_n 0, 1) := by decide +kernel
theorem dX7_weigh_38 : decode cX7_weigh 38 = .ok (.getfield 15, 3) := by decide +kernel
theorem dX7_weigh_41 : decode cX7_weigh 41 = .ok (.iload 4, 2) := by decide +kernel
theorem dX7_weigh_43 : decode cX7_weigh 43 = .ok (.iaload, 1) := by decide +kernel
theorem dX7_weigh_44 : decode cX7_weigh 44 = .ok (.ior, 1) := by decide +kernel
theorem dX7_weigh_45 : decode cX7_weigh 45 = .ok (.istore_n 2, 1) := by decide +kernel
theorem dX7_weigh_46 : decode cX7_weigh 46 = .ok (.iload_n 3, 1) := by decide +kernel
theorem dX7_weigh_47 : decode cX7_weigh 47 = .ok (.aload_n 0, 1) := by decide +kernel
theorem dX7_weigh_48 : decode cX7_weigh 48 = .ok (.getfield 24, 3) := by decide +kernel
theorem dX7_weigh_51 : decode cX7_weigh 51 = .ok (.iload_n 1, 1) := by decide +kernel
theorem dX7_weigh_52 : decode cX7_weigh 52 = .ok (.iconst 1, 1) := by decide +kernel
theorem dX7_weigh_53 : decode cX7_weigh 53 = .ok (.iload 4, 2) := by decide +kernel
theorem dX7_weigh_55 : decode cX7_weigh 55 = .ok (.ishl, 1) := by decide +kernel
theorem dX7_weigh_56 : decode cX7_weigh 56 = .ok (.iconst (-1), 1) := by decide +kernel
theorem dX7_weigh_57 : decode cX7_weigh 57 = .ok (.ixor, 1) := by decide +kernel
theorem dX7_weigh_58 : decode cX7_weigh 58 = .ok (.iand, 1) := by decide +kernel
theorem dX7_weigh_59 : decode cX7_weigh 59 = .ok (.iaload, 1) := by decide +kernel
theorem dX7_weigh_60 : decode cX7_weigh 60 = .ok (.iconst 1, 1) := by decide +kernel
theorem dX7_weigh_61 : decode cX7_weigh 61 = .ok (.iadd, 1) := by decide +kernel
theorem dX7_weigh_62 : decode cX7_weigh 62 = .ok (.invokestatic 75, 3) := by decide +kernel
theorem dX7_weigh_65 : decode cX7_weigh 65 = .ok (.istore_n 3, 1) := by decide +kernel
theorem dX7_weigh_66 : decode cX7_weigh 66 = .ok (.aload_n 0, 1) := by decide +kernel
theorem dX7_weigh_67 : decode cX7_weigh 67 = .ok (.dup, 1) := by decide +kernel
theorem dX7_weigh_68 : decode cX7_weigh 68 = .ok (.getfield 55, 3) := by decide +kernel
theorem dX7_weigh_71 : decode cX7_weigh 71 = .ok (.aload_n 0, 1) := by decide +kernel
theorem dX7_weigh_72 : decode cX7_weigh 72 = .ok (.getfield 18, 3) := by decide +kernel
theorem dX7_weigh_75 : decode cX7_weigh 75 = .ok (.iload 4, 2) := by decide +kernel
theorem dX7_weigh_77 : decode cX7_weigh 77 = .ok (.iaload, 1) := by decide +kernel
theorem dX7_weigh_78 : decode cX7_weigh 78 = .ok (.iadd, 1) := by decide +kernel
theorem dX7_weigh_79 : decode cX7_weigh 79 = .ok (.putfield 55, 3) := by decide +kernel
theorem dX7_weigh_82 : decode cX7_weigh 82 = .ok (.aload_n 0, 1) := by decide +kernel
theorem dX7_weigh_83 : decode cX7_weigh 83 = .ok (.dup, 1) := by decide +kernel
theorem dX7_weigh_84 : decode cX7_weigh 84 = .ok (.getfield 58, 3) := by decide +kernel
theorem dX7_weigh_87 : decode cX7_weigh 87 = .ok (.iconst 1, 1) := by decide +kernel
theorem dX7_weigh_88 : decode cX7_weigh 88 = .ok (.aload_n 0, 1) := by decide +kernel
theorem dX7_weigh_89 : decode cX7_weigh 89 = .ok (.getfield 21, 3) := by decide +kernel
theorem dX7_weigh_92 : decode cX7_weigh 92 = .ok (.iload 4, 2) := by decide +kernel
theorem dX7_weigh_94 : decode cX7_weigh 94 = .ok (.iaload, 1) := by decide +kernel
theorem dX7_weigh_95 : decode cX7_weigh 95 = .ok (.ishl, 1) := by decide +kernel
theorem dX7_weigh_96 : decode cX7_weigh 96 = .ok (.ior, 1) := by decide +kernel
theorem dX7_weigh_97 : decode cX7_weigh 97 = .ok (.putfield 58, 3) := by decide +kernel
theorem dX7_weigh_100 : decode cX7_weigh 100 = .ok (.iinc 4 1, 3) := by decide +kernel
theorem dX7_weigh_103 : decode cX7_weigh 103 = .ok (.goto (-85), 3) := by decide +kernel
theorem dX7_weigh_106 : decode cX7_weigh 106 = .ok (.aload_n 0, 1) := by decide +kernel
theorem dX7_weigh_107 : decode cX7_weigh 107 = .ok (.getfield 24, 3) := by decide +kernel
theorem dX7_weigh_110 : decode cX7_weigh 110 = .ok (.iload_n 1, 1) := by decide +kernel
theorem dX7_weigh_111 : decode cX7_weigh 111 = .ok (.iload_n 3, 1) := by decide +kernel
theorem dX7_weigh_112 : decode cX7_weigh 112 = .ok (.iload_n 2, 1) := by decide +kernel
theorem dX7_weigh_113 : decode cX7_weigh 113 = .ok (.invokestatic 81, 3) := by decide +kernel
theorem dX7_weigh_116 : decode cX7_weigh 116 = .ok (.invokestatic 75, 3) := by decide +kernel
theorem dX7_weigh_119 : decode cX7_weigh 119 = .ok (.iastore, 1) := by decide +kernel
theorem dX7_weigh_120 : decode cX7_weigh 120 = .ok (.return_, 1) := by decide +kernel
theorem dX7_bestBooks_0 : decode cX7_bestBooks 0 = .ok (.iconst 0, 1) := by decide +kernel
theorem dX7_bestBooks_1 : decode cX7_bestBooks 1 = .ok (.istore_n 1, 1) := by decide +kernel
theorem dX7_bestBooks_2 : decode cX7_bestBooks 2 = .ok (.iconst 0, 1) := by decide +kernel
theorem dX7_bestBooks_3 : decode cX7_bestBooks 3 = .ok (.istore_n 2, 1) := by decide +kernel
theorem dX7_bestBooks_4 : decode cX7_bestBooks 4 = .ok (.iload_n 2, 1) := by decide +kernel
theorem dX7_bestBooks_5 : decode cX7_bestBooks 5 = .ok (.aload_n 0, 1) := by decide +kernel
theorem dX7_bestBooks_6 : decode cX7_bestBooks 6 = .ok (.getfield 33, 3) := by decide +kernel
theorem dX7_bestBooks_9 : decode cX7_bestBooks 9 = .ok (.if_icmp .ge 31, 3) := by decide +kernel
theorem dX7_bestBooks_12 : decode cX7_bestBooks 12 = .ok (.aload_n 0, 1) := by decide +kernel
theorem dX7_bestBooks_13 : decode cX7_bestBooks 13 = .ok (.getfield 48, 3) := by decide +kernel
theorem dX7_bestBooks_16 : decode cX7_bestBooks 16 = .ok (.iload_n 2, 1) := by decide +kernel
theorem dX7_bestBooks_17 : decode cX7_bestBooks 17 = .ok (.invokestatic 71, 3) := by decide +kernel
theorem dX7_bestBooks_20 : decode cX7_bestBooks 20 = .ok (.ifCond .eq 14, 3) := by decide +kernel
theorem dX7_bestBooks_23 : decode cX7_bestBooks 23 = .ok (.iload_n 1, 1) := by decide +kernel
theorem dX7_bestBooks_24 : decode cX7_bestBooks 24 = .ok (.iconst 1, 1) := by decide +kernel
theorem dX7_bestBooks_25 : decode cX7_bestBooks 25 = .ok (.aload_n 0, 1) := by decide +kernel
theorem dX7_bestBooks_26 : decode cX7_bestBooks 26 = .ok (.getfield 9, 3) := by decide +kernel
theorem dX7_bestBooks_29 : decode cX7_bestBooks 29 = .ok (.iload_n 2, 1) := by decide +kernel
theorem dX7_bestBooks_30 : decode cX7_bestBooks 30 = .ok (.iaload, 1) := by decide +kernel
theorem dX7_bestBooks_31 : decode cX7_bestBooks 31 = .ok (.ishl, 1) := by decide +kernel
theorem dX7_bestBooks_32 : decode cX7_bestBooks 32 = .ok (.ior, 1) := by decide +kernel
theorem dX7_bestBooks_33 : decode cX7_bestBooks 33 = .ok (.istore_n 1, 1) := by decide +kernel
theorem dX7_bestBooks_34 : decode cX7_bestBooks 34 = .ok (.iinc 2 1, 3) := by decide +kernel
theorem dX7_bestBooks_37 : decode cX7_bestBooks 37 = .ok (.goto (-33), 3) := by decide +kernel
theorem dX7_bestBooks_40 : decode cX7_bestBooks 40 = .ok (.iload_n 1, 1) := by decide +kernel
theorem dX7_bestBooks_41 : decode cX7_bestBooks 41 = .ok (.ireturn, 1) := by decide +kernel
theorem dX7_mostReaders_0 : decode cX7_mostReaders 0 = .ok (.iconst 0, 1) := by decide +kernel
theorem dX7_mostReaders_1 : decode cX7_mostReaders 1 = .ok (.istore_n 1, 1) := by decide +kernel
theorem dX7_mostReaders_2 : decode cX7_mostReaders 2 = .ok (.aload_n 0, 1) := by decide +kernel
theorem dX7_mostReaders_3 : decode cX7_mostReaders 3 = .ok (.getfield 30, 3) := by decide +kernel
theorem dX7_mostReaders_6 : decode cX7_mostReaders 6 = .ok (.iconst (-1), 1) := by decide +kernel
theorem dX7_mostReaders_7 : decode cX7_mostReaders 7 = .ok (.invokestatic 87, 3) := by decide +kernel
theorem dX7_mostReaders_10 : decode cX7_mostReaders 10 = .ok (.iconst 0, 1) := by decide +kernel
theorem dX7_mostReaders_11 : decode cX7_mostReaders 11 = .ok (.istore_n 2, 1) := by decide +kernel
theorem dX7_mostReaders_12 : decode cX7_mostReaders 12 = .ok (.iload_n 2, 1) := by decide +kernel
theorem dX7_mostReaders_13 : decode cX7_mostReaders 13 = .ok (.bipush 16, 2) := by decide +kernel
theorem dX7_mostReaders_15 : decode cX7_mostReaders 15 = .ok (.if_icmp .ge 26, 3) := by decide +kernel
theorem dX7_mostReaders_18 : decode cX7_mostReaders 18 = .ok (.aload_n 0, 1) := by decide +kernel
theorem dX7_mostReaders_19 : decode cX7_mostReaders 19 = .ok (.iconst 0, 1) := by decide +kernel
theorem dX7_mostReaders_20 : decode cX7_mostReaders 20 = .ok (.putfield 93, 3) := by decide +kernel
theorem dX7_mostReaders_23 : decode cX7_mostReaders 23 = .ok (.aload_n 0, 1) := by decide +kernel
theorem dX7_mostReaders_24 : decode cX7_mostReaders 24 = .ok (.iload_n 2, 1) := by decide +kernel
theorem dX7_mostReaders_25 : decode cX7_mostReaders 25 = .ok (.iconst 0, 1) := by decide +kernel
theorem dX7_mostReaders_26 : decode cX7_mostReaders 26 = .ok (.invokevirtual 96, 3) := by decide +kernel
theorem dX7_mostReaders_29 : decode cX7_mostReaders 29 = .ok (.ifCond .eq 6, 3) := by decide +kernel
theorem dX7_mostReaders_32 : decode cX7_mostReaders 32 = .ok (.iinc 1 1, 3) := by decide +kernel
theorem dX7_mostReaders_35 : decode cX7_mostReaders 35 = .ok (.iinc 2 1, 3) := by decide +kernel
theorem dX7_mostReaders_38 : decode cX7_mostReaders 38 = .ok (.goto (-26), 3) := by decide +kernel
theorem dX7_mostReaders_41 : decode cX7_mostReaders 41 = .ok (.iload_n 1, 1) := by decide +kernel
theorem dX7_mostReaders_42 : decode cX7_mostReaders 42 = .ok (.ireturn, 1) := by decide +kernel
theorem dX7_canServe_0 : decode cX7_canServe 0 = .ok (.iload_n 2, 1) := by decide +kernel
theorem dX7_canServe_1 : decode cX7_canServe 1 = .ok (.bipush 16, 2) := by decide +kernel
theorem dX7_canServe_3 : decode cX7_canServe 3 = .ok (.if_icmp .le 5, 3) := by decide +kernel
theorem dX7_canServe_6 : decode cX7_canServe 6 = .ok (.iconst 0, 1) := by decide +kernel
theorem dX7_canServe_7 : decode cX7_canServe 7 = .ok (.ireturn, 1) := by decide +kernel
theorem dX7_canServe_8 : decode cX7_canServe 8 = .ok (.iconst 0, 1) := by decide +kernel
theorem dX7_canServe_9 : decode cX7_canServe 9 = .ok (.istore_n 3, 1) := by decide +kernel
theorem dX7_canServe_10 : decode cX7_canServe 10 = .ok (.iload_n 3, 1) := by decide +kernel
theorem dX7_canServe_11 : decode cX7_canServe 11 = .ok (.bipush 32, 2) := by decide +kernel
theorem dX7_canServe_13 : decode cX7_canServe 13 = .ok (.if_icmp .ge 80, 3) := by decide +kernel
theorem dX7_canServe_16 : decode cX7_canServe 16 = .ok (.aload_n 0, 1) := by decide +kernel
theorem dX7_canServe_17 : decode cX7_canServe 17 = .ok (.getfield 27, 3) := by decide +kernel
theorem dX7_canServe_20 : decode cX7_canServe 20 = .ok (.iload_n 1, 1) := by decide +kernel
theorem dX7_canServe_21 : decode cX7_canServe 21 = .ok (.iaload, 1) := by decide +kernel
theorem dX7_canServe_22 : decode cX7_canServe 22 = .ok (.iload_n 3, 1) := by decide +kernel
theorem dX7_canServe_23 : decode cX7_canServe 23 = .ok (.invokestatic 71, 3) := by decide +kernel
theorem dX7_canServe_26 : decode cX7_canServe 26 = .ok (.ifCond .eq 61, 3) := by decide +kernel
theorem dX7_canServe_29 : decode cX7_canServe 29 = .ok (.aload_n 0, 1) := by decide +kernel
theorem dX7_canServe_30 : decode cX7_canServe 30 = .ok (.getfield 93, 3) := by decide +kernel
theorem dX7_canServe_33 : decode cX7_canServe 33 = .ok (.iload_n 3, 1) := by decide +kernel
theorem dX7_canServe_34 : decode cX7_canServe 34 = .ok (.invokestatic 71, 3) := by decide +kernel
theorem dX7_canServe_37 : decode cX7_canServe 37 = .ok (.ifCond .ne 50, 3) := by decide +kernel
theorem dX7_canServe_40 : decode cX7_canServe 40 = .ok (.aload_n 0, 1) := by decide +kernel
theorem dX7_canServe_41 : decode cX7_canServe 41 = .ok (.dup, 1) := by decide +kernel
theorem dX7_canServe_42 : decode cX7_canServe 42 = .ok (.getfield 93, 3) := by decide +kernel
theorem dX7_canServe_45 : decode cX7_canServe 45 = .ok (.iconst 1, 1) := by decide +kernel
theorem dX7_canServe_46 : decode cX7_canServe 46 = .ok (.iload_n 3, 1) := by decide +kernel
theorem dX7_canServe_47 : decode cX7_canServe 47 = .ok (.ishl, 1) := by decide +kernel
theorem dX7_canServe_48 : decode cX7_canServe 48 = .ok (.ior, 1) := by decide +kernel
theorem dX7_canServe_49 : decode cX7_canServe 49 = .ok (.putfield 93, 3) := by decide +kernel
theorem dX7_canServe_52 : decode cX7_canServe 52 = .ok (.aload_n 0, 1) := by decide +kernel
theorem dX7_canServe_53 : decode cX7_canServe 53 = .ok (.getfield 30, 3) := by decide +kernel
theorem dX7_canServe_56 : decode cX7_canServe 56 = .ok (.iload_n 3, 1) := by decide +kernel
theorem dX7_canServe_57 : decode cX7_canServe 57 = .ok (.iaload, 1) := by decide +kernel
theorem dX7_canServe_58 : decode cX7_canServe 58 = .ok (.iconst (-1), 1) := by decide +kernel
theorem dX7_canServe_59 : decode cX7_canServe 59 = .ok (.if_icmp .eq 19, 3) := by decide +kernel
theorem dX7_canServe_62 : decode cX7_canServe 62 = .ok (.aload_n 0, 1) := by decide +kernel
theorem dX7_canServe_63 : decode cX7_canServe 63 = .ok (.aload_n 0, 1) := by decide +kernel
theorem dX7_canServe_64 : decode cX7_canServe 64 = .ok (.getfield 30, 3) := by decide +kernel
theorem dX7_canServe_67 : decode cX7_canServe 67 = .ok (.iload_n 3, 1) := by decide +kernel
theorem dX7_canServe_68 : decode cX7_canServe 68 = .ok (.iaload, 1) := by decide +kernel
theorem dX7_canServe_69 : decode cX7_canServe 69 = .ok (.iload_n 2, 1) := by decide +kernel
theorem dX7_canServe_70 : decode cX7_canServe 70 = .ok (.iconst 1, 1) := by decide +kernel
theorem dX7_canServe_71 : decode cX7_canServe 71 = .ok (.iadd, 1) := by decide +kernel
theorem dX7_canServe_72 : decode cX7_canServe 72 = .ok (.invokevirtual 96, 3) := by decide +kernel
theorem dX7_canServe_75 : decode cX7_canServe 75 = .ok (.ifCond .eq 12, 3) := by decide +kernel
theorem dX7_canServe_78 : decode cX7_canServe 78 = .ok (.aload_n 0, 1) := by decide +kernel
theorem dX7_canServe_79 : decode cX7_canServe 79 = .ok (.getfield 30, 3) := by decide +kernel
theorem dX7_canServe_82 : decode cX7_canServe 82 = .ok (.iload_n 3, 1) := by decide +kernel
theorem dX7_canServe_83 : decode cX7_canServe 83 = .ok (.iload_n 1, 1) := by decide +kernel
theorem dX7_canServe_84 : decode cX7_canServe 84 = .ok (.iastore, 1) := by decide +kernel
theorem dX7_canServe_85 : decode cX7_canServe 85 = .ok (.iconst 1, 1) := by decide +kernel
theorem dX7_canServe_86 : decode cX7_canServe 86 = .ok (.ireturn, 1) := by decide +kernel
theorem dX7_canServe_87 : decode cX7_canServe 87 = .ok (.iinc 3 1, 3) := by decide +kernel
theorem dX7_canServe_90 : decode cX7_canServe 90 = .ok (.goto (-80), 3) := by decide +kernel
theorem dX7_canServe_93 : decode cX7_canServe 93 = .ok (.iconst 0, 1) := by decide +kernel
theorem dX7_canServe_94 : decode cX7_canServe 94 = .ok (.ireturn, 1) := by decide +kernel
theorem dX8_init_0 : decode cX8_init 0 = .ok (.aload_n 0, 1) := by decide +kernel
theorem dX8_init_1 : decode cX8_init 1 = .ok (.invokespecial 3, 3) := by decide +kernel
theorem dX8_init_4 : decode cX8_init 4 = .ok (.aload_n 0, 1) := by decide +kernel
theorem dX8_init_5 : decode cX8_init 5 = .ok (.bipush 10, 2) := by decide +kernel
theorem dX8_init_7 : decode cX8_init 7 = .ok (.newarray .int, 2) := by decide +kernel
theorem dX8_init_9 : decode cX8_init 9 = .ok (.putfield 9, 3) := by decide +kernel
theorem dX8_init_12 : decode cX8_init 12 = .ok (.aload_n 0, 1) := by decide +kernel
theorem dX8_init_13 : decode cX8_init 13 = .ok (.bipush 10, 2) := by decide +kernel
theorem dX8_init_15 : decode cX8_init 15 = .ok (.newarray .int, 2) := by decide +kernel
theorem dX8_init_17 : decode cX8_init 17 = .ok (.putfield 15, 3) := by decide +kernel
theorem dX8_init_20 : decode cX8_init 20 = .ok (.aload_n 0, 1) := by decide +kernel
theorem dX8_init_21 : decode cX8_init 21 = .ok (.bipush 10, 2) := by decide +kernel
theorem dX8_init_23 : decode cX8_init 23 = .ok (.newarray .int, 2) := by decide +kernel
theorem dX8_init_25 : decode cX8_init 25 = .ok (.putfield 18, 3) := by decide +kernel
theorem dX8_init_28 : decode cX8_init 28 = .ok (.aload_n 0, 1) := by decide +kernel
theorem dX8_init_29 : decode cX8_init 29 = .ok (.bipush 10, 2) := by decide +kernel
theorem dX8_init_31 : decode cX8_init 31 = .ok (.newarray .int, 2) := by decide +kernel
theorem dX8_init_33 : decode cX8_init 33 = .ok (.putfield 21, 3) := by decide +kernel
theorem dX8_init_36 : decode cX8_init 36 = .ok (.aload_n 0, 1) := by decide +kernel
theorem dX8_init_37 : decode cX8_init 37 = .ok (.bipush 10, 2) := by decide +kernel
theorem dX8_init_39 : decode cX8_init 39 = .ok (.newarray .int, 2) := by decide +kernel
theorem dX8_init_41 : decode cX8_init 41 = .ok (.putfield 24, 3) := by decide +kernel
theorem dX8_init_44 : decode cX8_init 44 = .ok (.aload_n 0, 1) := by decide +kernel
theorem dX8_init_45 : decode cX8_init 45 = .ok (.bipush 10, 2) := by decide +kernel
theorem dX8_init_47 : decode cX8_init 47 = .ok (.newarray .int, 2) := by decide +kernel
theorem dX8_init_49 : decode cX8_init 49 = .ok (.putfield 27, 3) := by decide +kernel
theorem dX8_init_52 : decode cX8_init 52 = .ok (.aload_n 0, 1) := by decide +kernel
theorem dX8_init_53 : decode cX8_init 53 = .ok (.bipush 10, 2) := by decide +kernel
theorem dX8_init_55 : decode cX8_init 55 = .ok (.newarray .int, 2) := by decide +kernel
theorem dX8_init_57 : decode cX8_init 57 = .ok (.putfield 30, 3) := by decide +kernel
theorem dX8_init_60 : decode cX8_init 60 = .ok (.aload_n 0, 1) := by decide +kernel
theorem dX8_init_61 : decode cX8_init 61 = .ok (.bipush 10, 2) := by decide +kernel
theorem dX8_init_63 : decode cX8_init 63 = .ok (.newarray .int, 2) := by decide +kernel
theorem dX8_init_65 : decode cX8_init 65 = .ok (.putfield 33, 3) := by decide +kernel
theorem dX8_init_68 : decode cX8_init 68 = .ok (.aload_n 0, 1) := by decide +kernel
theorem dX8_init_69 : decode cX8_init 69 = .ok (.bipush 10, 2) := by decide +kernel
theorem dX8_init_71 : decode cX8_init 71 = .ok (.newarray .int, 2) := by decide +kernel
theorem dX8_init_73 : decode cX8_init 73 = .ok (.putfield 36, 3) := by decide +kernel
theorem dX8_init_76 : decode cX8_init 76 = .ok (.aload_n 0, 1) := by decide +kernel
theorem dX8_init_77 : decode cX8_init 77 = .ok (.bipush 42, 2) := by decide +kernel
theorem dX8_init_79 : decode cX8_init 79 = .ok (.newarray .int, 2) := by decide +kernel
theorem dX8_init_81 : decode cX8_init 81 = .ok (.putfield 39, 3) := by decide +kernel
theorem dX8_init_84 : decode cX8_init 84 = .ok (.aload_n 0, 1) := by decide +kernel
theorem dX8_init_85 : decode cX8_init 85 = .ok (.sipush 600, 3) := by decide +kernel
theorem dX8_init_88 : decode cX8_init 88 = .ok (.newarray .int, 2) := by decide +kernel
theorem dX8_init_90 : decode cX8_init 90 = .ok (.putfield 42, 3) := by decide +kernel
theorem dX8_init_93 : decode cX8_init 93 = .ok (.aload_n 0, 1) := by decide +kernel
theorem dX8_init_94 : decode cX8_init 94 = .ok (.sipush 600, 3) := by decide +kernel
theorem dX8_init_97 : decode cX8_init 97 = .ok (.newarray .int, 2) := by decide +kernel
theorem dX8_init_99 : decode cX8_init 99 = .ok (.putfield 45, 3) := by decide +kernel
theorem dX8_init_102 : decode cX8_init 102 = .ok (.return_, 1) := by decide +kernel
theorem dX8_add_0 : decode cX8_add 0 = .ok (.aload_n 0, 1) := by decide +kernel
theorem dX8_add_1 : decode cX8_add 1 = .ok (.getfield 48, 3) := by decide +kernel
theorem dX8_add_4 : decode cX8_add 4 = .ok (.bipush 10, 2) := by decide +kernel
theorem dX8_add_6 : decode cX8_add 6 = .ok (.if_icmp .lt 5, 3) := by decide +kernel
theorem dX8_add_9 : decode cX8_add 9 = .ok (.iconst (-1), 1) := by decide +kernel
theorem dX8_add_10 : decode cX8_add 10 = .ok (.ireturn, 1) := by decide +kernel
theorem dX8_add_11 : decode cX8_add 11 = .ok (.aload_n 0, 1) := by decide +kernel
theorem dX8_add_12 : decode cX8_add 12 = .ok (.getfield 9, 3) := by decide +kernel
theorem dX8_add_15 : decode cX8_add 15 = .ok (.aload_n 0, 1) := by decide +kernel
theorem dX8_add_16 : decode cX8_add 16 = .ok (.getfield 48, 3) := by decide +kernel
theorem dX8_add_19 : decode cX8_add 19 = .ok (.iload_n 1, 1) := by decide +kernel
theorem dX8_add_20 : decode cX8_add 20 = .ok (.iastore, 1) := by decide +kernel
theorem dX8_add_21 : decode cX8_add 21 = .ok (.aload_n 0, 1) := by decide +kernel
theorem dX8_add_22 : decode cX8_add 22 = .ok (.getfield 15, 3) := by decide +kernel
theorem dX8_add_25 : decode cX8_add 25 = .ok (.aload_n 0, 1) := by decide +kernel
theorem dX8_add_26 : decode cX8_add 26 = .ok (.getfield 48, 3) := by decide +kernel
theorem dX8_add_29 : decode cX8_add 29 = .ok (.iload_n 2, 1) := by decide +kernel
theorem dX8_add_30 : decode cX8_add 30 = .ok (.iastore, 1) := by decide +kernel
theorem dX8_add_31 : decode cX8_add 31 = .ok (.aload_n 0, 1) := by decide +kernel
theorem dX8_add_32 : decode cX8_add 32 = .ok (.getfield 18, 3) := by decide +kernel
theorem dX8_add_35 : decode cX8_add 35 = .ok (.aload_n 0, 1) := by decide +kernel
theorem dX8_add_36 : decode cX8_add 36 = .ok (.getfield 48, 3) := by decide +kernel
theorem dX8_add_39 : decode cX8_add 39 = .ok (.iload_n 3, 1) := by decide +kernel
theorem dX8_add_40 : decode cX8_add 40 = .ok (.iastore, 1) := by decide +kernel
theorem dX8_add_41 : decode cX8_add 41 = .ok (.aload_n 0, 1) := by decide +kernel
theorem dX8_add_42 : decode cX8_add 42 = .ok (.getfield 21, 3) := by decide +kernel
theorem dX8_add_45 : decode cX8_add 45 = .ok (.aload_n 0, 1) := by decide +kernel
theorem dX8_add_46 : decode cX8_add 46 = .ok (.getfield 48, 3) := by decide +kernel
theorem dX8_add_49 : decode cX8_add 49 = .ok (.iconst (-1), 1) := by decide +kernel
theorem dX8_add_50 : decode cX8_add 50 = .ok (.iastore, 1) := by decide +kernel
theorem dX8_add_51 : decode cX8_add 51 = .ok (.aload_n 0, 1) := by decide +kernel
theorem dX8_add_52 : decode cX8_add 52 = .ok (.getfield 27, 3) := by decide +kernel
theorem dX8_add_55 : decode cX8_add 55 = .ok (.aload_n 0, 1) := by decide +kernel
theorem dX8_add_56 : decode cX8_add 56 = .ok (.getfield 48, 3) := by decide +kernel
theorem dX8_add_59 : decode cX8_add 59 = .ok (.iconst (-1), 1) := by decide +kernel
theorem dX8_add_60 : decode cX8_add 60 = .ok (.iastore, 1) := by decide +kernel
theorem dX8_add_61 : decode cX8_add 61 = .ok (.aload_n 0, 1) := by decide +kernel
theorem dX8_add_62 : decode cX8_add 62 = .ok (.getfield 30, 3) := by decide +kernel
theorem dX8_add_65 : decode cX8_add 65 = .ok (.aload_n 0, 1) := by decide +kernel
theorem dX8_add_66 : decode cX8_add 66 = .ok (.getfield 48, 3) := by decide +kernel
theorem dX8_add_69 : decode cX8_add 69 = .ok (.iconst (-1), 1) := by decide +kernel
theorem dX8_add_70 : decode cX8_add 70 = .ok (.iastore, 1) := by decide +kernel
theorem dX8_add_71 : decode cX8_add 71 = .ok (.aload_n 0, 1) := by decide +kernel
theorem dX8_add_72 : decode cX8_add 72 = .ok (.dup, 1) := by decide +kernel
theorem dX8_add_73 : decode cX8_add 73 = .ok (.getfield 48, 3) := by decide +kernel
theorem dX8_add_76 : decode cX8_add 76 = .ok (.iconst 1, 1) := by decide +kernel
theorem dX8_add_77 : decode cX8_add 77 = .ok (.iadd, 1) := by decide +kernel
theorem dX8_add_78 : decode cX8_add 78 = .ok (.putfield 48, 3) := by decide +kernel
theorem dX8_add_81 : decode cX8_add 81 = .ok (.aload_n 0, 1) := by decide +kernel
theorem dX8_add_82 : decode cX8_add 82 = .ok (.getfield 48, 3) := by decide +kernel
theorem dX8_add_85 : decode cX8_add 85 = .ok (.iconst 1, 1) := by decide +kernel
theorem dX8_add_86 : decode cX8_add 86 = .ok (.isub, 1) := by decide +kernel
theorem dX8_add_87 : decode cX8_add 87 = .ok (.ireturn, 1) := by decide +kernel
theorem dX8_has_0 : decode cX8_has 0 = .ok (.iload_n 1, 1) := by decide +kernel
theorem dX8_has_1 : decode cX8_has 1 = .ok (.iconst 0, 1) := by decide +kernel
theorem dX8_has_2 : decode cX8_has 2 = .ok (.aload_n 0, 1) := by decide +kernel
theorem dX8_has_3 : decode cX8_has 3 = .ok (.getfield 48, 3) := by decide +kernel
theorem dX8_has_6 : decode cX8_has 6 = .ok (.iconst 1, 1) := by decide +kernel
theorem dX8_has_7 : decode cX8_has 7 = .ok (.isub, 1) := by decide +kernel
theorem dX8_has_8 : decode cX8_has 8 = .ok (.invokestatic 52, 3) := by decide +kernel
theorem dX8_has_11 : decode cX8_has 11 = .ok (.ireturn, 1) := by decide +kernel
theorem dX8_tell_0 : decode cX8_tell 0 = .ok (.aload_n 0, 1) := by decide +kernel
theorem dX8_tell_1 : decode cX8_tell 1 = .ok (.getfield 21, 3) := by decide +kernel
theorem dX8_tell_4 : decode cX8_tell 4 = .ok (.iload_n 1, 1) := by decide +kernel
theorem dX8_tell_5 : decode cX8_tell 5 = .ok (.iaload, 1) := by decide +kernel
theorem dX8_tell_6 : decode cX8_tell 6 = .ok (.iconst (-1), 1) := by decide +kernel
theorem dX8_tell_7 : decode cX8_tell 7 = .ok (.if_icmp .eq 32, 3) := by decide +kernel
theorem dX8_tell_10 : decode cX8_tell 10 = .ok (.aload_n 0, 1) := by decide +kernel
theorem dX8_tell_11 : decode cX8_tell 11 = .ok (.getfield 39, 3) := by decide +kernel
theorem dX8_tell_14 : decode cX8_tell 14 = .ok (.aload_n 0, 1) := by decide +kernel
theorem dX8_tell_15 : decode cX8_tell 15 = .ok (.getfield 21, 3) := by decide +kernel
theorem dX8_tell_18 : decode cX8_tell 18 = .ok (.iload_n 1, 1) := by decide +kernel
theorem dX8_tell_19 : decode cX8_tell 19 = .ok (.iaload, 1) := by decide +kernel
theorem dX8_tell_20 : decode cX8_tell 20 = .ok (.bipush 14, 2) := by decide +kernel
theorem dX8_tell_22 : decode cX8_tell 22 = .ok (.imul, 1) := by decide +kernel
theorem dX8_tell_23 : decode cX8_tell 23 = .ok (.aload_n 0, 1) := by decide +kernel
theorem dX8_tell_24 : decode cX8_tell 24 = .ok (.getfield 24, 3) := by decide +kernel
theorem dX8_tell_27 : decode cX8_tell 27 = .ok (.iload_n 1, 1) := by decide +kernel
theorem dX8_tell_28 : decode cX8_tell 28 = .ok (.iaload, 1) := by decide +kernel
theorem dX8_tell_29 : decode cX8_tell 29 = .ok (.iadd, 1) := by decide +kernel
theorem dX8_tell_30 : decode cX8_tell 30 = .ok (.dup2, 1) := by decide +kernel
theorem dX8_tell_31 : decode cX8_tell 31 = .ok (.iaload, 1) := by decide +kernel
theorem dX8_tell_32 : decode cX8_tell 32 = .ok (.iconst 1, 1) := by decide +kernel
theorem dX8_tell_33 : decode cX8_tell 33 = .ok (.iload_n 1, 1) := by decide +kernel
theorem dX8_tell_34 : decode cX8_tell 34 = .ok (.ishl, 1) := by decide +kernel
theorem dX8_tell_35 : decode cX8_tell 35 = .ok (.iconst (-1), 1) := by decide +kernel
theorem dX8_tell_36 : decode cX8_tell 36 = .ok (.ixor, 1) := by decide +kernel
theorem dX8_tell_37 : decode cX8_tell 37 = .ok (.iand, 1) := by decide +kernel
theorem dX8_tell_38 : decode cX8_tell 38 = .ok (.iastore, 1) := by decide +kernel
theorem dX8_tell_39 : decode cX8_tell 39 = .ok (.iload_n 2, 1) := by decide +kernel
theorem dX8_tell_40 : decode cX8_tell 40 = .ok (.iconst (-1), 1) := by decide +kernel
theorem dX8_tell_41 : decode cX8_tell 41 = .ok (.if_icmp .eq 20, 3) := by decide +kernel
theorem dX8_tell_44 : decode cX8_tell 44 = .ok (.aload_n 0, 1) := by decide +kernel
theorem dX8_tell_45 : decode cX8_tell 45 = .ok (.getfield 39, 3) := by decide +kernel
theorem dX8_tell_48 : decode cX8_tell 48 = .ok (.iload_n 2, 1) := by decide +kernel
theorem dX8_tell_49 : decode cX8_tell 49 = .ok (.bipush 14, 2) := by decide +kernel
theorem dX8_tell_51 : decode cX8_tell 51 = .ok (.imul, 1) := by decide +kernel
theorem dX8_tell_52 : decode cX8_tell 52 = .ok (.iload_n 3, 1) := by decide +kernel
theorem dX8_tell_53 : decode cX8_tell 53 = .ok (.iadd, 1) := by decide +kernel
theorem dX8_tell_54 : decode cX8_tell 54 = .ok (.dup2, 1) := by decide +kernel
theorem dX8_tell_55 : decode cX8_tell 55 = .ok (.iaload, 1) := by decide +kernel
theorem dX8_tell_56 : decode cX8_tell 56 = .ok (.iconst 1, 1) := by decide +kernel
theorem dX8_tell_57 : decode cX8_tell 57 = .ok (.iload_n 1, 1) := by decide +kernel
theorem dX8_tell_58 : decode cX8_tell 58 = .ok (.ishl, 1) := by decide +kernel
theorem dX8_tell_59 : decode cX8_tell 59 = .ok (.ior, 1) := by decide +kernel
theorem dX8_tell_60 : decode cX8_tell 60 = .ok (.iastore, 1) := by decide +kernel
theorem dX8_tell_61 : decode cX8_tell 61 = .ok (.aload_n 0, 1) := by decide +kernel
theorem dX8_tell_62 : decode cX8_tell 62 = .ok (.getfield 21, 3) := by decide +kernel
theorem dX8_tell_65 : decode cX8_tell 65 = .ok (.iload_n 1, 1) := by decide +kernel
theorem dX8_tell_66 : decode cX8_tell 66 = .ok (.iload_n 2, 1) := by decide +kernel
theorem dX8_tell_67 : decode cX8_tell 67 = .ok (.iastore, 1) := by decide +kernel
theorem dX8_tell_68 : decode cX8_tell 68 = .ok (.aload_n 0, 1) := by decide +kernel
theorem dX8_tell_69 : decode cX8_tell 69 = .ok (.getfield 24, 3) := by decide +kernel
theorem dX8_tell_72 : decode cX8_tell 72 = .ok (.iload_n 1, 1) := by decide +kernel
theorem dX8_tell_73 : decode cX8_tell 73 = .ok (.iload_n 3, 1) := by decide +kernel
theorem dX8_tell_74 : decode cX8_tell 74 = .ok (.iastore, 1) := by decide +kernel
theorem dX8_tell_75 : decode cX8_tell 75 = .ok (.return_, 1) := by decide +kernel
theorem dX8_toldWith_0 : decode cX8_toldWith 0 = .ok (.aload_n 0, 1) := by decide +kernel
theorem dX8_toldWith_1 : decode cX8_toldWith 1 = .ok (.getfield 21, 3) := by decide +kernel
theorem dX8_toldWith_4 : decode cX8_toldWith 4 = .ok (.iload_n 1, 1) := by decide +kernel
theorem dX8_toldWith_5 : decode cX8_toldWith 5 = .ok (.iaload, 1) := by decide +kernel
theorem dX8_toldWith_6 : decode cX8_toldWith 6 = .ok (.iconst (-1), 1) := by decide +kernel
theorem dX8_toldWith_7 : decode cX8_toldWith 7 = .ok (.if_icmp .ne 7, 3) := by decide +kernel
theorem dX8_toldWith_10 : decode cX8_toldWith 10 = .ok (.iconst 0, 1) := by decide +kernel
theorem dX8_toldWith_11 : decode cX8_toldWith 11 = .ok (.goto 24, 3) := by decide +kernel
theorem dX8_toldWith_14 : decode cX8_toldWith 14 = .ok (.aload_n 0, 1) := by decide +kernel
theorem dX8_toldWith_15 : decode cX8_toldWith 15 = .ok (.getfield 39, 3) := by decide +kernel
theorem dX8_toldWith_18 : decode cX8_toldWith 18 = .ok (.aload_n 0, 1) := by decide +kernel
theorem dX8_toldWith_19 : decode cX8_toldWith 19 = .ok (.getfield 21, 3) := by decide +kernel
theorem dX8_toldWith_22 : decode cX8_toldWith 22 = .ok (.iload_n 1, 1) := by decide +kernel
theorem dX8_toldWith_23 : decode cX8_toldWith 23 = .ok (.iaload, 1) := by decide +kernel
theorem dX8_toldWith_24 : decode cX8_toldWith 24 = .ok (.bipush 14, 2) := by decide +kernel
theorem dX8_toldWith_26 : decode cX8_toldWith 26 = .ok (.imul, 1) := by decide +kernel
theorem dX8_toldWith_27 : decode cX8_toldWith 27 = .ok (.aload_n 0, 1) := by decide +kernel
theorem dX8_toldWith_28 : decode cX8_toldWith 28 = .ok (.getfield 24, 3) := by decide +kernel
theorem dX8_toldWith_31 : decode cX8_toldWith 31 = .ok (.iload_n 1, 1) := by decide +kernel
theorem dX8_toldWith_32 : decode cX8_toldWith 32 = .ok (.iaload, 1) := by decide +kernel
theorem dX8_toldWith_33 : decode cX8_toldWith 33 = .ok (.iadd, 1) := by decide +kernel
theorem dX8_toldWith_34 : decode cX8_toldWith 34 = .ok (.iaload, 1) := by decide +kernel
theorem dX8_toldWith_35 : decode cX8_toldWith 35 = .ok (.ireturn, 1) := by decide +kernel
theorem dX8_isLost_0 : decode cX8_isLost 0 = .ok (.aload_n 0, 1) := by decide +kernel
theorem dX8_isLost_1 : decode cX8_isLost 1 = .ok (.getfield 45, 3) := by decide +kernel
theorem dX8_isLost_4 : decode cX8_isLost 4 = .ok (.iload_n 1, 1) := by decide +kernel
theorem dX8_isLost_5 : decode cX8_isLost 5 = .ok (.sipush 200, 3) := by decide +kernel
theorem dX8_isLost_8 : decode cX8_isLost 8 = .ok (.imul, 1) := by decide +kernel
theorem dX8_isLost_9 : decode cX8_isLost 9 = .ok (.iload_n 2, 1) := by decide +kernel
theorem dX8_isLost_10 : decode cX8_isLost 10 = .ok (.iadd, 1) := by decide +kernel
theorem dX8_isLost_11 : decode cX8_isLost 11 = .ok (.iaload, 1) := by decide +kernel
theorem dX8_isLost_12 : decode cX8_isLost 12 = .ok (.ifCond .eq 7, 3) := by decide +kernel
theorem dX8_isLost_15 : decode cX8_isLost 15 = .ok (.iconst 1, 1) := by decide +kernel
theorem dX8_isLost_16 : decode cX8_isLost 16 = .ok (.goto 4, 3) := by decide +kernel
theorem dX8_isLost_19 : decode cX8_isLost 19 = .ok (.iconst 0, 1) := by decide +kernel
theorem dX8_isLost_20 : decode cX8_isLost 20 = .ok (.ireturn, 1) := by decide +kernel
theorem dX8_lose_0 : decode cX8_lose 0 = .ok (.aload_n 0, 1) := by decide +kernel
theorem dX8_lose_1 : decode cX8_lose 1 = .ok (.getfield 45, 3) := by decide +kernel
theorem dX8_lose_4 : decode cX8_lose 4 = .ok (.iload_n 1, 1) := by decide +kernel
theorem dX8_lose_5 : decode cX8_lose 5 = .ok (.sipush 200, 3) := by decide +kernel
theorem dX8_lose_8 : decode cX8_lose 8 = .ok (.imul, 1) := by decide +kernel
theorem dX8_lose_9 : decode cX8_lose 9 = .ok (.iload_n 2, 1) := by decide +kernel
theorem dX8_lose_10 : decode cX8_lose 10 = .ok (.iadd, 1) := by decide +kernel
theorem dX8_lose_11 : decode cX8_lose 11 = .ok (.iconst 1, 1) := by decide +kernel
theorem dX8_lose_12 : decode cX8_lose 12 = .ok (.iastore, 1) := by decide +kernel
theorem dX8_lose_13 : decode cX8_lose 13 = .ok (.aload_n 0, 1) := by decide +kernel
theorem dX8_lose_14 : decode cX8_lose 14 = .ok (.dup, 1) := by decide +kernel
theorem dX8_lose_15 : decode cX8_lose 15 = .ok (.getfield 56, 3) := by decide +kernel
theorem dX8_lose_18 : decode cX8_lose 18 = .ok (.iconst 1, 1) := by decide +kernel
theorem dX8_lose_19 : decode cX8_lose 19 = .ok (.iadd, 1) := by decide +kernel
theorem dX8_lose_20 : decode cX8_lose 20 = .ok (.putfield 56, 3) := by decide +kernel
theorem dX8_lose_23 : decode cX8_lose 23 = .ok (.return_, 1) := by decide +kernel
theorem dX8_forgetPut_0 : decode cX8_forgetPut 0 = .ok (.aload_n 0, 1) := by decide +kernel
theorem dX8_forgetPut_1 : decode cX8_forgetPut 1 = .ok (.getfield 27, 3) := by decide +kernel
theorem dX8_forgetPut_4 : decode cX8_forgetPut 4 = .ok (.iload_n 1, 1) := by decide +kernel
theorem dX8_forgetPut_5 : decode cX8_forgetPut 5 = .ok (.iconst (-1), 1) := by decide +kernel
theorem dX8_forgetPut_6 : decode cX8_forgetPut 6 = .ok (.iastore, 1) := by decide +kernel
theorem dX8_forgetPut_7 : decode cX8_forgetPut 7 = .ok (.aload_n 0, 1) := by decide +kernel
theorem dX8_forgetPut_8 : decode cX8_forgetPut 8 = .ok (.getfield 30, 3) := by decide +kernel
theorem dX8_forgetPut_11 : decode cX8_forgetPut 11 = .ok (.iload_n 1, 1) := by decide +kernel
theorem dX8_forgetPut_12 : decode cX8_forgetPut 12 = .ok (.iconst (-1), 1) := by decide +kernel
theorem dX8_forgetPut_13 : decode cX8_forgetPut 13 = .ok (.iastore, 1) := by decide +kernel
theorem dX8_forgetPut_14 : decode cX8_forgetPut 14 = .ok (.return_, 1) := by decide +kernel
theorem dX8_keepPut_0 : decode cX8_keepPut 0 = .ok (.aload_n 0, 1) := by decide +kernel
theorem dX8_keepPut_1 : decode cX8_keepPut 1 = .ok (.getfield 27, 3) := by decide +kernel
theorem dX8_keepPut_4 : decode cX8_keepPut 4 = .ok (.iload_n 1, 1) := by decide +kernel
theorem dX8_keepPut_5 : decode cX8_keepPut 5 = .ok (.iload_n 3, 1) := by decide +kernel
theorem dX8_keepPut_6 : decode cX8_keepPut 6 = .ok (.iastore, 1) := by decide +kernel
theorem dX8_keepPut_7 : decode cX8_keepPut 7 = .ok (.aload_n 0, 1) := by decide +kernel
theorem dX8_keepPut_8 : decode cX8_keepPut 8 = .ok (.getfield 30, 3) := by decide +kernel
theorem dX8_keepPut_11 : decode cX8_keepPut 11 = .ok (.iload_n 1, 1) := by decide +kernel
theorem dX8_keepPut_12 : decode cX8_keepPut 12 = .ok (.iload_n 2, 1) := by decide +kernel
theorem dX8_keepPut_13 : decode cX8_keepPut 13 = .ok (.iastore, 1) := by decide +kernel
theorem dX8_keepPut_14 : decode cX8_keepPut 14 = .ok (.aload_n 0, 1) := by decide +kernel
theorem dX8_keepPut_15 : decode cX8_keepPut 15 = .ok (.getfield 42, 3) := by decide +kernel
theorem dX8_keepPut_18 : decode cX8_keepPut 18 = .ok (.iload_n 2, 1) := by decide +kernel
theorem dX8_keepPut_19 : decode cX8_keepPut 19 = .ok (.sipush 200, 3) := by decide +kernel
theorem dX8_keepPut_22 : decode cX8_keepPut 22 = .ok (.imul, 1) := by decide +kernel
theorem dX8_keepPut_23 : decode cX8_keepPut 23 = .ok (.iload_n 3, 1) := by decide +kernel
theorem dX8_keepPut_24 : decode cX8_keepPut 24 = .ok (.iadd, 1) := by decide +kernel
theorem dX8_keepPut_25 : decode cX8_keepPut 25 = .ok (.dup2, 1) := by decide +kernel
theorem dX8_keepPut_26 : decode cX8_keepPut 26 = .ok (.iaload, 1) := by decide +kernel
theorem dX8_keepPut_27 : decode cX8_keepPut 27 = .ok (.iconst 1, 1) := by decide +kernel
theorem dX8_keepPut_28 : decode cX8_keepPut 28 = .ok (.iload_n 1, 1) := by decide +kernel
theorem dX8_keepPut_29 : decode cX8_keepPut 29 = .ok (.ishl, 1) := by decide +kernel
theorem dX8_keepPut_30 : decode cX8_keepPut 30 = .ok (.ior, 1) := by decide +kernel
theorem dX8_keepPut_31 : decode cX8_keepPut 31 = .ok (.iastore, 1) := by decide +kernel
theorem dX8_keepPut_32 : decode cX8_keepPut 32 = .ok (.return_, 1) := by decide +kernel
theorem dX8_stopsOn_0 : decode cX8_stopsOn 0 = .ok (.aload_n 0, 1) := by decide +kernel
theorem dX8_stopsOn_1 : decode cX8_stopsOn 1 = .ok (.iload_n 1, 1) := by decide +kernel
theorem dX8_stopsOn_2 : decode cX8_stopsOn 2 = .ok (.iload_n 2, 1) := by decide +kernel
theorem dX8_stopsOn_3 : decode cX8_stopsOn 3 = .ok (.invokevirtual 59, 3) := by decide +kernel
theorem dX8_stopsOn_6 : decode cX8_stopsOn 6 = .ok (.ifCond .eq 7, 3) := by decide +kernel
theorem dX8_stopsOn_9 : decode cX8_stopsOn 9 = .ok (.iconst 0, 1) := by decide +kernel
theorem dX8_stopsOn_10 : decode cX8_stopsOn 10 = .ok (.goto 30, 3) := by decide +kernel
theorem dX8_stopsOn_13 : decode cX8_stopsOn 13 = .ok (.aload_n 0, 1) := by decide +kernel
theorem dX8_stopsOn_14 : decode cX8_stopsOn 14 = .ok (.getfield 39, 3) := by decide +kernel
theorem dX8_stopsOn_17 : decode cX8_stopsOn 17 = .ok (.iload_n 1, 1) := by decide +kernel
theorem dX8_stopsOn_18 : decode cX8_stopsOn 18 = .ok (.bipush 14, 2) := by decide +kernel
theorem dX8_stopsOn_20 : decode cX8_stopsOn 20 = .ok (.imul, 1) := by decide +kernel
theorem dX8_stopsOn_21 : decode cX8_stopsOn 21 = .ok (.iload_n 2, 1) := by decide +kernel
theorem dX8_stopsOn_22 : decode cX8_stopsOn 22 = .ok (.bipush 14, 2) := by decide +kernel
theorem dX8_stopsOn_24 : decode cX8_stopsOn 24 = .ok (.irem, 1) := by decide +kernel
theorem dX8_stopsOn_25 : decode cX8_stopsOn 25 = .ok (.iadd, 1) := by decide +kernel
theorem dX8_stopsOn_26 : decode cX8_stopsOn 26 = .ok (.iaload, 1) := by decide +kernel
theorem dX8_stopsOn_27 : decode cX8_stopsOn 27 = .ok (.aload_n 0, 1) := by decide +kernel
theorem dX8_stopsOn_28 : decode cX8_stopsOn 28 = .ok (.getfield 42, 3) := by decide +kernel
theorem dX8_stopsOn_31 : decode cX8_stopsOn 31 = .ok (.iload_n 1, 1) := by decide +kernel
theorem dX8_stopsOn_32 : decode cX8_stopsOn 32 = .ok (.sipush 200, 3) := by decide +kernel
theorem dX8_stopsOn_35 : decode cX8_stopsOn 35 = .ok (.imul, 1) := by decide +kernel
theorem dX8_stopsOn_36 : decode cX8_stopsOn 36 = .ok (.iload_n 2, 1) := by decide +kernel
theorem dX8_stopsOn_37 : decode cX8_stopsOn 37 = .ok (.iadd, 1) := by decide +kernel
theorem dX8_stopsOn_38 : decode cX8_stopsOn 38 = .ok (.iaload, 1) := by decide +kernel
theorem dX8_stopsOn_39 : decode cX8_stopsOn 39 = .ok (.ior, 1) := by decide +kernel
theorem dX8_stopsOn_40 : decode cX8_stopsOn 40 = .ok (.ireturn, 1) := by decide +kernel
theorem dX8_goesTo_0 : decode cX8_goesTo 0 = .ok (.aload_n 0, 1) := by decide +kernel
theorem dX8_goesTo_1 : decode cX8_goesTo 1 = .ok (.iload_n 1, 1) := by decide +kernel
theorem dX8_goesTo_2 : decode cX8_goesTo 2 = .ok (.iload_n 3, 1) := by decide +kernel
theorem dX8_goesTo_3 : decode cX8_goesTo 3 = .ok (.invokevirtual 63, 3) := by decide +kernel
theorem dX8_goesTo_6 : decode cX8_goesTo 6 = .ok (.iload_n 2, 1) := by decide +kernel
theorem dX8_goesTo_7 : decode cX8_goesTo 7 = .ok (.invokestatic 67, 3) := by decide +kernel
theorem dX8_goesTo_10 : decode cX8_goesTo 10 = .ok (.ireturn, 1) := by decide +kernel
theorem dX8_vansAt_0 : decode cX8_vansAt 0 = .ok (.iconst 0, 1) := by decide +kernel
theorem dX8_vansAt_1 : decode cX8_vansAt 1 = .ok (.istore_n 3, 1) := by decide +kernel
theorem dX8_vansAt_2 : decode cX8_vansAt 2 = .ok (.iconst 0, 1) := by decide +kernel
theorem dX8_vansAt_3 : decode cX8_vansAt 3 = .ok (.istore 4, 2) := by decide +kernel
theorem dX8_vansAt_5 : decode cX8_vansAt 5 = .ok (.iload 4, 2) := by decide +kernel
theorem dX8_vansAt_7 : decode cX8_vansAt 7 = .ok (.iconst 3, 1) := by decide +kernel
theorem dX8_vansAt_8 : decode cX8_vansAt 8 = .ok (.if_icmp .ge 27, 3) := by decide +kernel
theorem dX8_vansAt_11 : decode cX8_vansAt 11 = .ok (.aload_n 0, 1) := by decide +kernel
theorem dX8_vansAt_12 : decode cX8_vansAt 12 = .ok (.iload 4, 2) := by decide +kernel
theorem dX8_vansAt_14 : decode cX8_vansAt 14 = .ok (.iload_n 1, 1) := by decide +kernel
theorem dX8_vansAt_15 : decode cX8_vansAt 15 = .ok (.iload_n 2, 1) := by decide +kernel
theorem dX8_vansAt_16 : decode cX8_vansAt 16 = .ok (.invokevirtual 70, 3) := by decide +kernel
theorem dX8_vansAt_19 : decode cX8_vansAt 19 = .ok (.ifCond .eq 10, 3) := by decide +kernel
theorem dX8_vansAt_22 : decode cX8_vansAt 22 = .ok (.iload_n 3, 1) := by decide +kernel
theorem dX8_vansAt_23 : decode cX8_vansAt 23 = .ok (.iconst 1, 1) := by decide +kernel
theorem dX8_vansAt_24 : decode cX8_vansAt 24 = .ok (.iload 4, 2) := by decide +kernel
theorem dX8_vansAt_26 : decode cX8_vansAt 26 = .ok (.ishl, 1) := by decide +kernel
theorem dX8_vansAt_27 : decode cX8_vansAt 27 = .ok (.ior, 1) := by decide +kernel
theorem dX8_vansAt_28 : decode cX8_vansAt 28 = .ok (.istore_n 3, 1) := by decide +kernel
theorem dX8_vansAt_29 : decode cX8_vansAt 29 = .ok (.iinc 4 1, 3) := by decide +kernel
theorem dX8_vansAt_32 : decode cX8_vansAt 32 = .ok (.goto (-27), 3) := by decide +kernel
theorem dX8_vansAt_35 : decode cX8_vansAt 35 = .ok (.iload_n 3, 1) := by decide +kernel
theorem dX8_vansAt_36 : decode cX8_vansAt 36 = .ok (.ireturn, 1) := by decide +kernel
theorem dX8_lowestVan_0 : decode cX8_lowestVan 0 = .ok (.iconst 0, 1) := by decide +kernel
theorem dX8_lowestVan_1 : decode cX8_lowestVan 1 = .ok (.istore_n 3, 1) := by decide +kernel
theorem dX8_lowestVan_2 : decode cX8_lowestVan 2 = .ok (.iload_n 3, 1) := by decide +kernel
theorem dX8_lowestVan_3 : decode cX8_lowestVan 3 = .ok (.iconst 3, 1) := by decide +kernel
theorem dX8_lowestVan_4 : decode cX8_lowestVan 4 = .ok (.if_icmp .ge 21, 3) := by decide +kernel
theorem dX8_lowestVan_7 : decode cX8_lowestVan 7 = .ok (.aload_n 0, 1) := by decide +kernel
theorem dX8_lowestVan_8 : decode cX8_lowestVan 8 = .ok (.iload_n 3, 1) := by decide +kernel
theorem dX8_lowestVan_9 : decode cX8_lowestVan 9 = .ok (.iload_n 1, 1) := by decide +kernel
theorem dX8_lowestVan_10 : decode cX8_lowestVan 10 = .ok (.iload_n 2, 1) := by decide +kernel
theorem dX8_lowestVan_11 : decode cX8_lowestVan 11 = .ok (.invokevirtual 70, 3) := by decide +kernel
theorem dX8_lowestVan_14 : decode cX8_lowestVan 14 = .ok (.ifCond .eq 5, 3) := by decide +kernel
theorem dX8_lowestVan_17 : decode cX8_lowestVan 17 = .ok (.iload_n 3, 1) := by decide +kernel
theorem dX8_lowestVan_18 : decode cX8_lowestVan 18 = .ok (.ireturn, 1) := by decide +kernel
theorem dX8_lowestVan_19 : decode cX8_lowestVan 19 = .ok (.iinc 3 1, 3) := by decide +kernel
theorem dX8_lowestVan_22 : decode cX8_lowestVan 22 = .ok (.goto (-20), 3) := by decide +kernel
theorem dX8_lowestVan_25 : decode cX8_lowestVan 25 = .ok (.iconst (-1), 1) := by decide +kernel
theorem dX8_lowestVan_26 : decode cX8_lowestVan 26 = .ok (.ireturn, 1) := by decide +kernel
theorem dX8_firstDay_0 : decode cX8_firstDay 0 = .ok (.iload_n 2, 1) := by decide +kernel
theorem dX8_firstDay_1 : decode cX8_firstDay 1 = .ok (.istore_n 3, 1) := by decide +kernel
theorem dX8_firstDay_2 : decode cX8_firstDay 2 = .ok (.iload_n 3, 1) := by decide +kernel
theorem dX8_firstDay_3 : decode cX8_firstDay 3 = .ok (.sipush 199, 3) := by decide +kernel
theorem dX8_firstDay_6 : decode cX8_firstDay 6 = .ok (.if_icmp .gt 21, 3) := by decide +kernel
theorem dX8_firstDay_9 : decode cX8_firstDay 9 = .ok (.aload_n 0, 1) := by decide +kernel
theorem dX8_firstDay_10 : decode cX8_firstDay 10 = .ok (.iload_n 1, 1) := by decide +kernel
theorem dX8_firstDay_11 : decode cX8_firstDay 11 = .ok (.iload_n 3, 1) := by decide +kernel
theorem dX8_firstDay_12 : decode cX8_firstDay 12 = .ok (.invokevirtual 73, 3) := by decide +kernel
theorem dX8_firstDay_15 : decode cX8_firstDay 15 = .ok (.iconst (-1), 1) := by decide +kernel
theorem dX8_firstDay_16 : decode cX8_firstDay 16 = .ok (.if_icmp .eq 5, 3) := by decide +kernel
theorem dX8_firstDay_19 : decode cX8_firstDay 19 = .ok (.iload_n 3, 1) := by decide +kernel
theorem dX8_firstDay_20 : decode cX8_firstDay 20 = .ok (.ireturn, 1) := by decide +kernel
theorem dX8_firstDay_21 : decode cX8_firstDay 21 = .ok (.iinc 3 1, 3) := by decide +kernel
theorem dX8_firstDay_24 : decode cX8_firstDay 24 = .ok (.goto (-22), 3) := by decide +kernel
theorem dX8_firstDay_27 : decode cX8_firstDay 27 = .ok (.iconst (-1), 1) := by decide +kernel
theorem dX8_firstDay_28 : decode cX8_firstDay 28 = .ok (.ireturn, 1) := by decide +kernel
theorem dX8_vansWithin_0 : decode cX8_vansWithin 0 = .ok (.iconst 0, 1) := by decide +kernel
theorem dX8_vansWithin_1 : decode cX8_vansWithin 1 = .ok (.istore 4, 2) := by decide +kernel
theorem dX8_vansWithin_3 : decode cX8_vansWithin 3 = .ok (.iload_n 2, 1) := by decide +kernel
theorem dX8_vansWithin_4 : decode cX8_vansWithin 4 = .ok (.istore 5, 2) := by decide +kernel
theorem dX8_vansWithin_6 : decode cX8_vansWithin 6 = .ok (.iload 5, 2) := by decide +kernel
theorem dX8_vansWithin_8 : decode cX8_vansWithin 8 = .ok (.iload_n 3, 1) := by decide +kernel
theorem dX8_vansWithin_9 : decode cX8_vansWithin 9 = .ok (.if_icmp .gt 21, 3) := by decide +kernel
theorem dX8_vansWithin_12 : decode cX8_vansWithin 12 = .ok (.iload 4, 2) := by decide +kernel
theorem dX8_vansWithin_14 : decode cX8_vansWithin 14 = .ok (.aload_n 0, 1) := by decide +kernel
theorem dX8_vansWithin_15 : decode cX8_vansWithin 15 = .ok (.iload_n 1, 1) := by decide +kernel
theorem dX8_vansWithin_16 : decode cX8_vansWithin 16 = .ok (.iload 5, 2) := by decide +kernel
theorem dX8_vansWithin_18 : decode cX8_vansWithin 18 = .ok (.invokevirtual 76, 3) := by decide +kernel
theorem dX8_vansWithin_21 : decode cX8_vansWithin 21 = .ok (.ior, 1) := by decide +kernel
theorem dX8_vansWithin_22 : decode cX8_vansWithin 22 = .ok (.istore 4, 2) := by decide +kernel
theorem dX8_vansWithin_24 : decode cX8_vansWithin 24 = .ok (.iinc 5 1, 3) := by decide +kernel
theorem dX8_vansWithin_27 : decode cX8_vansWithin 27 = .ok (.goto (-21), 3) := by decide +kernel
theorem dX8_vansWithin_30 : decode cX8_vansWithin 30 = .ok (.iload 4, 2) := by decide +kernel
theorem dX8_vansWithin_32 : decode cX8_vansWithin 32 = .ok (.ireturn, 1) := by decide +kernel
theorem dX8_visitsUpTo_0 : decode cX8_visitsUpTo 0 = .ok (.iconst 0, 1) := by decide +kernel
theorem dX8_visitsUpTo_1 : decode cX8_visitsUpTo 1 = .ok (.istore_n 3, 1) := by decide +kernel
theorem dX8_visitsUpTo_2 : decode cX8_visitsUpTo 2 = .ok (.iconst 0, 1) := by decide +kernel
theorem dX8_visitsUpTo_3 : decode cX8_visitsUpTo 3 = .ok (.istore 4, 2) := by decide +kernel
theorem dX8_visitsUpTo_5 : decode cX8_visitsUpTo 5 = .ok (.iload 4, 2) := by decide +kernel
theorem dX8_visitsUpTo_7 : decode cX8_visitsUpTo 7 = .ok (.iload_n 2, 1) := by decide +kernel
theorem dX8_visitsUpTo_8 : decode cX8_visitsUpTo 8 = .ok (.if_icmp .gt 22, 3) := by decide +kernel
theorem dX8_visitsUpTo_11 : decode cX8_visitsUpTo 11 = .ok (.iload_n 3, 1) := by decide +kernel
theorem dX8_visitsUpTo_12 : decode cX8_visitsUpTo 12 = .ok (.aload_n 0, 1) := by decide +kernel
theorem dX8_visitsUpTo_13 : decode cX8_visitsUpTo 13 = .ok (.iload_n 1, 1) := by decide +kernel
theorem dX8_visitsUpTo_14 : decode cX8_visitsUpTo 14 = .ok (.iload 4, 2) := by decide +kernel
theorem dX8_visitsUpTo_16 : decode cX8_visitsUpTo 16 = .ok (.invokevirtual 76, 3) := by decide +kernel
theorem dX8_visitsUpTo_19 : decode cX8_visitsUpTo 19 = .ok (.invokestatic 79, 3) := by decide +kernel
theorem dX8_visitsUpTo_22 : decode cX8_visitsUpTo 22 = .ok (.iadd, 1) := by decide +kernel
theorem dX8_visitsUpTo_23 : decode cX8_visitsUpTo 23 = .ok (.istore_n 3, 1) := by decide +kernel
theorem dX8_visitsUpTo_24 : decode cX8_visitsUpTo 24 = .ok (.iinc 4 1, 3) := by decide +kernel
theorem dX8_visitsUpTo_27 : decode cX8_visitsUpTo 27 = .ok (.goto (-22), 3) := by decide +kernel
theorem dX8_visitsUpTo_30 : decode cX8_visitsUpTo 30 = .ok (.iload_n 3, 1) := by decide +kernel
theorem dX8_visitsUpTo_31 : decode cX8_visitsUpTo 31 = .ok (.ireturn, 1) := by decide +kernel
theorem dX9_init_0 : decode cX9_init 0 = .ok (.aload_n 0, 1) := by decide +kernel
theorem dX9_init_1 : decode cX9_init 1 = .ok (.invokespecial 3, 3) := by decide +kernel
theorem dX9_init_4 : decode cX9_init 4 = .ok (.aload_n 0, 1) := by decide +kernel
theorem dX9_init_5 : decode cX9_init 5 = .ok (.sipush 400, 3) := by decide +kernel
theorem dX9_init_8 : decode cX9_init 8 = .ok (.newarray .int, 2) := by decide +kernel
theorem dX9_init_10 : decode cX9_init 10 = .ok (.putfield 9, 3) := by decide +kernel
theorem dX9_init_13 : decode cX9_init 13 = .ok (.return_, 1) := by decide +kernel
theorem dX9_clear_0 : decode cX9_clear 0 = .ok (.aload_n 0, 1) := by decide +kernel
theorem dX9_clear_1 : decode cX9_clear 1 = .ok (.iconst 0, 1) := by decide +kernel
theorem dX9_clear_2 : decode cX9_clear 2 = .ok (.putfield 15, 3) := by decide +kernel
theorem dX9_clear_5 : decode cX9_clear 5 = .ok (.return_, 1) := by decide +kernel
theorem dX9_append_0 : decode cX9_append 0 = .ok (.bipush 24, 2) := by decide +kernel
theorem dX9_append_2 : decode cX9_append 2 = .ok (.istore_n 2, 1) := by decide +kernel
theorem dX9_append_3 : decode cX9_append 3 = .ok (.iload_n 2, 1) := by decide +kernel
theorem dX9_append_4 : decode cX9_append 4 = .ok (.ifCond .lt 45, 3) := by decide +kernel
theorem dX9_append_7 : decode cX9_append 7 = .ok (.aload_n 0, 1) := by decide +kernel
theorem dX9_append_8 : decode cX9_append 8 = .ok (.getfield 15, 3) := by decide +kernel
theorem dX9_append_11 : decode cX9_append 11 = .ok (.sipush 400, 3) := by decide +kernel
theorem dX9_append_14 : decode cX9_append 14 = .ok (.if_icmp .ge 35, 3) := by decide +kernel
theorem dX9_append_17 : decode cX9_append 17 = .ok (.aload_n 0, 1) := by decide +kernel
theorem dX9_append_18 : decode cX9_append 18 = .ok (.getfield 9, 3) := by decide +kernel
theorem dX9_append_21 : decode cX9_append 21 = .ok (.aload_n 0, 1) := by decide +kernel
theorem dX9_append_22 : decode cX9_append 22 = .ok (.getfield 15, 3) := by decide +kernel
theorem dX9_append_25 : decode cX9_append 25 = .ok (.iload_n 1, 1) := by decide +kernel
theorem dX9_append_26 : decode cX9_append 26 = .ok (.iload_n 2, 1) := by decide +kernel
theorem dX9_append_27 : decode cX9_append 27 = .ok (.iushr, 1) := by decide +kernel
theorem dX9_append_28 : decode cX9_append 28 = .ok (.sipush 255, 3) := by decide +kernel
theorem dX9_append_31 : decode cX9_append 31 = .ok (.iand, 1) := by decide +kernel
theorem dX9_append_32 : decode cX9_append 32 = .ok (.iastore, 1) := by decide +kernel
theorem dX9_append_33 : decode cX9_append 33 = .ok (.aload_n 0, 1) := by decide +kernel
theorem dX9_append_34 : decode cX9_append 34 = .ok (.dup, 1) := by decide +kernel
theorem dX9_append_35 : decode cX9_append 35 = .ok (.getfield 15, 3) := by decide +kernel
theorem dX9_append_38 : decode cX9_append 38 = .ok (.iconst 1, 1) := by decide +kernel
theorem dX9_append_39 : decode cX9_append 39 = .ok (.iadd, 1) := by decide +kernel
theorem dX9_append_40 : decode cX9_append 40 = .ok (.putfield 15, 3) := by decide +kernel
theorem dX9_append_43 : decode cX9_append 43 = .ok (.iinc 2 (-8), 3) := by decide +kernel
theorem dX9_append_46 : decode cX9_append 46 = .ok (.goto (-43), 3) := by decide +kernel
theorem dX9_append_49 : decode cX9_append 49 = .ok (.return_, 1) := by decide +kernel
theorem dX9_byteAt_0 : decode cX9_byteAt 0 = .ok (.iload_n 1, 1) := by decide +kernel
theorem dX9_byteAt_1 : decode cX9_byteAt 1 = .ok (.iconst 0, 1) := by decide +kernel
theorem dX9_byteAt_2 : decode cX9_byteAt 2 = .ok (.aload_n 0, 1) := by decide +kernel
theorem dX9_byteAt_3 : decode cX9_byteAt 3 = .ok (.getfield 15, 3) := by decide +kernel
theorem dX9_byteAt_6 : decode cX9_byteAt 6 = .ok (.iconst 1, 1) := by decide +kernel
theorem dX9_byteAt_7 : decode cX9_byteAt 7 = .ok (.isub, 1) := by decide +kernel
theorem dX9_byteAt_8 : decode cX9_byteAt 8 = .ok (.invokestatic 19, 3) := by decide +kernel
theorem dX9_byteAt_11 : decode cX9_byteAt 11 = .ok (.ifCond .eq 12, 3) := by decide +kernel
theorem dX9_byteAt_14 : decode cX9_byteAt 14 = .ok (.aload_n 0, 1) := by decide +kernel
theorem dX9_byteAt_15 : decode cX9_byteAt 15 = .ok (.getfield 9, 3) := by decide +kernel
theorem dX9_byteAt_18 : decode cX9_byteAt 18 = .ok (.iload_n 1, 1) := by decide +kernel
theorem dX9_byteAt_19 : decode cX9_byteAt 19 = .ok (.iaload, 1) := by decide +kernel
theorem dX9_byteAt_20 : decode cX9_byteAt 20 = .ok (.goto 4, 3) := by decide +kernel
theorem dX9_byteAt_23 : decode cX9_byteAt 23 = .ok (.iconst (-1), 1) := by decide +kernel
theorem dX9_byteAt_24 : decode cX9_byteAt 24 = .ok (.ireturn, 1) := by decide +kernel
theorem dX9_numberAt_0 : decode cX9_numberAt 0 = .ok (.iconst 0, 1) := by decide +kernel
theorem dX9_numberAt_1 : decode cX9_numberAt 1 = .ok (.istore_n 2, 1) := by decide +kernel
theorem dX9_numberAt_2 : decode cX9_numberAt 2 = .ok (.iconst 0, 1) := by decide +kernel
theorem dX9_numberAt_3 : decode cX9_numberAt 3 = .ok (.istore_n 3, 1) := by decide +kernel
theorem dX9_numberAt_4 : decode cX9_numberAt 4 = .ok (.iload_n 3, 1) := by decide +kernel
theorem dX9_numberAt_5 : decode cX9_numberAt 5 = .ok (.iconst 4, 1) := by decide +kernel
theorem dX9_numberAt_6 : decode cX9_numberAt 6 = .ok (.if_icmp .ge 28, 3) := by decide +kernel
theorem dX9_numberAt_9 : decode cX9_numberAt 9 = .ok (.iload_n 2, 1) := by decide +kernel
theorem dX9_numberAt_10 : decode cX9_numberAt 10 = .ok (.bipush 8, 2) := by decide +kernel
theorem dX9_numberAt_12 : decode cX9_numberAt 12 = .ok (.ishl, 1) := by decide +kernel
theorem dX9_numberAt_13 : decode cX9_numberAt 13 = .ok (.aload_n 0, 1) := by decide +kernel
theorem dX9_numberAt_14 : decode cX9_numberAt 14 = .ok (.iconst 4, 1) := by decide +kernel
theorem dX9_numberAt_15 : decode cX9_numberAt 15 = .ok (.iload_n 1, 1) := by decide +kernel
theorem dX9_numberAt_16 : decode cX9_numberAt 16 = .ok (.imul, 1) := by decide +kernel
theorem dX9_numberAt_17 : decode cX9_numberAt 17 = .ok (.iload_n 3, 1) := by decide +kernel
theorem dX9_numberAt_18 : decode cX9_numberAt 18 = .ok (.iadd, 1) := by decide +kernel
theorem dX9_numberAt_19 : decode cX9_numberAt 19 = .ok (.invokevirtual 23, 3) := by decide +kernel
theorem dX9_numberAt_22 : decode cX9_numberAt 22 = .ok (.sipush 255, 3) := by decide +kernel
theorem dX9_numberAt_25 : decode cX9_numberAt 25 = .ok (.iand, 1) := by decide +kernel
theorem dX9_numberAt_26 : decode cX9_numberAt 26 = .ok (.ior, 1) := by decide +kernel
theorem dX9_numberAt_27 : decode cX9_numberAt 27 = .ok (.istore_n 2, 1) := by decide +kernel
theorem dX9_numberAt_28 : decode cX9_numberAt 28 = .ok (.iinc 3 1, 3) := by decide +kernel
theorem dX9_numberAt_31 : decode cX9_numberAt 31 = .ok (.goto (-27), 3) := by decide +kernel
theorem dX9_numberAt_34 : decode cX9_numberAt 34 = .ok (.iload_n 2, 1) := by decide +kernel
theorem dX9_numberAt_35 : decode cX9_numberAt 35 = .ok (.ireturn, 1) := by decide +kernel
theorem dX10_init_0 : decode cX10_init 0 = .ok (.aload_n 0, 1) := by decide +kernel
theorem dX10_init_1 : decode cX10_init 1 = .ok (.invokespecial 3, 3) := by decide +kernel
theorem dX10_init_4 : decode cX10_init 4 = .ok (.aload_n 0, 1) := by decide +kernel
theorem dX10_init_5 : decode cX10_init 5 = .ok (.sipush 128, 3) := by decide +kernel
theorem dX10_init_8 : decode cX10_init 8 = .ok (.newarray .int, 2) := by decide +kernel
theorem dX10_init_10 : decode cX10_init 10 = .ok (.putfield 9, 3) := by decide +kernel
theorem dX10_init_13 : decode cX10_init 13 = .ok (.aload_n 0, 1) := by decide +kernel
theorem dX10_init_14 : decode cX10_init 14 = .ok (.new 15, 3) := by decide +kernel
theorem dX10_init_17 : decode cX10_init 17 = .ok (.dup, 1) := by decide +kernel
theorem dX10_init_18 : decode cX10_init 18 = .ok (.invokespecial 17, 3) := by decide +kernel
theorem dX10_init_21 : decode cX10_init 21 = .ok (.putfield 18, 3) := by decide +kernel
theorem dX10_init_24 : decode cX10_init 24 = .ok (.aload_n 0, 1) := by decide +kernel
theorem dX10_init_25 : decode cX10_init 25 = .ok (.aload_n 1, 1) := by decide +kernel
theorem dX10_init_26 : decode cX10_init 26 = .ok (.putfield 22, 3) := by decide +kernel
theorem dX10_init_29 : decode cX10_init 29 = .ok (.aload_n 0, 1) := by decide +kernel
theorem dX10_init_30 : decode cX10_init 30 = .ok (.aload_n 2, 1) := by decide +kernel
theorem dX10_init_31 : decode cX10_init 31 = .ok (.putfield 26, 3) := by decide +kernel
theorem dX10_init_34 : decode cX10_init 34 = .ok (.aload_n 0, 1) := by decide +kernel
theorem dX10_init_35 : decode cX10_init 35 = .ok (.aload_n 3, 1) := by decide +kernel
theorem dX10_init_36 : decode cX10_init 36 = .ok (.putfield 30, 3) := by decide +kernel
theorem dX10_init_39 : decode cX10_init 39 = .ok (.return_, 1) := by decide +kernel
theorem dX10_wish_0 : decode cX10_wish 0 = .ok (.iload_n 3, 1) := by decide +kernel
theorem dX10_wish_1 : decode cX10_wish 1 = .ok (.ifCond .ne 19, 3) := by decide +kernel
theorem dX10_wish_4 : decode cX10_wish 4 = .ok (.aload_n 0, 1) := by decide +kernel
theorem dX10_wish_5 : decode cX10_wish 5 = .ok (.getfield 22, 3) := by decide +kernel
theorem dX10_wish_8 : decode cX10_wish 8 = .ok (.iload_n 2, 1) := by decide +kernel
theorem dX10_wish_9 : decode cX10_wish 9 = .ok (.iload_n 1, 1) := by decide +kernel
theorem dX10_wish_10 : decode cX10_wish 10 = .ok (.invokevirtual 34, 3) := by decide +kernel
theorem dX10_wish_13 : decode cX10_wish 13 = .ok (.ifCond .eq 7, 3) := by decide +kernel
theorem dX10_wish_16 : decode cX10_wish 16 = .ok (.iconst 1, 1) := by decide +kernel
theorem dX10_wish_17 : decode cX10_wish 17 = .ok (.goto 4, 3) := by decide +kernel
theorem dX10_wish_20 : decode cX10_wish 20 = .ok (.iconst 0, 1) := by decide +kernel
theorem dX10_wish_21 : decode cX10_wish 21 = .ok (.istore 5, 2) := by decide +kernel
theorem dX10_wish_23 : decode cX10_wish 23 = .ok (.aload_n 0, 1) := by decide +kernel
theorem dX10_wish_24 : decode cX10_wish 24 = .ok (.getfield 26, 3) := by decide +kernel
theorem dX10_wish_27 : decode cX10_wish 27 = .ok (.getfield 40, 3) := by decide +kernel
theorem dX10_wish_30 : decode cX10_wish 30 = .ok (.iload_n 1, 1) := by decide +kernel
theorem dX10_wish_31 : decode cX10_wish 31 = .ok (.iaload, 1) := by decide +kernel
theorem dX10_wish_32 : decode cX10_wish 32 = .ok (.ifCond .eq 28, 3) := by decide +kernel
theorem dX10_wish_35 : decode cX10_wish 35 = .ok (.aload_n 0, 1) := by decide +kernel
theorem dX10_wish_36 : decode cX10_wish 36 = .ok (.getfield 26, 3) := by decide +kernel
theorem dX10_wish_39 : decode cX10_wish 39 = .ok (.getfield 40, 3) := by decide +kernel
theorem dX10_wish_42 : decode cX10_wish 42 = .ok (.iload_n 1, 1) := by decide +kernel
theorem dX10_wish_43 : decode cX10_wish 43 = .ok (.iaload, 1) := by decide +kernel
theorem dX10_wish_44 : decode cX10_wish 44 = .ok (.aload_n 0, 1) := by decide +kernel
theorem dX10_wish_45 : decode cX10_wish 45 = .ok (.getfield 22, 3) := by decide +kernel
theorem dX10_wish_48 : decode cX10_wish 48 = .ok (.getfield 45, 3) := by decide +kernel
theorem dX10_wish_51 : decode cX10_wish 51 = .ok (.iload_n 2, 1) := by decide +kernel
theorem dX10_wish_52 : decode cX10_wish 52 = .ok (.iaload, 1) := by decide +kernel
theorem dX10_wish_53 : decode cX10_wish 53 = .ok (.if_icmp .eq 7, 3) := by decide +kernel
theorem dX10_wish_56 : decode cX10_wish 56 = .ok (.iconst 1, 1) := by decide +kernel
theorem dX10_wish_57 : decode cX10_wish 57 = .ok (.goto 4, 3) := by decide +kernel
theorem dX10_wish_60 : decode cX10_wish 60 = .ok (.iconst 0, 1) := by decide +kernel
theorem dX10_wish_61 : decode cX10_wish 61 = .ok (.istore 6, 2) := by decide +kernel
theorem dX10_wish_63 : decode cX10_wish 63 = .ok (.iload 5, 2) := by decide +kernel
theorem dX10_wish_65 : decode cX10_wish 65 = .ok (.ifCond .ne 8, 3) := by decide +kernel
theorem dX10_wish_68 : decode cX10_wish 68 = .ok (.iload 6, 2) := by decide +kernel
theorem dX10_wish_70 : decode cX10_wish 70 = .ok (.ifCond .eq 5, 3) := by decide +kernel
theorem dX10_wish_73 : decode cX10_wish 73 = .ok (.iconst 0, 1) := by decide +kernel
theorem dX10_wish_74 : decode cX10_wish 74 = .ok (.ireturn, 1) := by decide +kernel
theorem dX10_wish_75 : decode cX10_wish 75 = .ok (.aload_n 0, 1) := by decide +kernel
theorem dX10_wish_76 : decode cX10_wish 76 = .ok (.iload_n 1, 1) := by decide +kernel
theorem dX10_wish_77 : decode cX10_wish 77 = .ok (.iload_n 2, 1) := by decide +kernel
theorem dX10_wish_78 : decode cX10_wish 78 = .ok (.iconst 0, 1) := by decide +kernel
theorem dX10_wish_79 : decode cX10_wish 79 = .ok (.iload 4, 2) := by decide +kernel
theorem dX10_wish_81 : decode cX10_wish 81 = .ok (.invokevirtual 46, 3) := by decide +kernel
theorem dX10_wish_84 : decode cX10_wish 84 = .ok (.aload_n 0, 1) := by decide +kernel
theorem dX10_wish_85 : decode cX10_wish 85 = .ok (.getfield 18, 3) := by decide +kernel
theorem dX10_wish_88 : decode cX10_wish 88 = .ok (.bipush 119, 2) := by decide +kernel
theorem dX10_wish_90 : decode cX10_wish 90 = .ok (.aload_n 0, 1) := by decide +kernel
theorem dX10_wish_91 : decode cX10_wish 91 = .ok (.getfield 9, 3) := by decide +kernel
theorem dX10_wish_94 : decode cX10_wish 94 = .ok (.iconst 0, 1) := by decide +kernel
theorem dX10_wish_95 : decode cX10_wish 95 = .ok (.invokevirtual 50, 3) := by decide +kernel
theorem dX10_wish_98 : decode cX10_wish 98 = .ok (.iconst 0, 1) := by decide +kernel
theorem dX10_wish_99 : decode cX10_wish 99 = .ok (.sipush 1000, 3) := by decide +kernel
theorem dX10_wish_102 : decode cX10_wish 102 = .ok (.invokestatic 54, 3) := by decide +kernel
theorem dX10_wish_105 : decode cX10_wish 105 = .ok (.ireturn, 1) := by decide +kernel
theorem dX10_daysLent_0 : decode cX10_daysLent 0 = .ok (.aload_n 0, 1) := by decide +kernel
theorem dX10_daysLent_1 : decode cX10_daysLent 1 = .ok (.iload_n 1, 1) := by decide +kernel
theorem dX10_daysLent_2 : decode cX10_daysLent 2 = .ok (.iload_n 2, 1) := by decide +kernel
theorem dX10_daysLent_3 : decode cX10_daysLent 3 = .ok (.iconst 0, 1) := by decide +kernel
theorem dX10_daysLent_4 : decode cX10_daysLent 4 = .ok (.iload_n 3, 1) := by decide +kernel
theorem dX10_daysLent_5 : decode cX10_daysLent 5 = .ok (.invokevirtual 46, 3) := by decide +kernel
theorem dX10_daysLent_8 : decode cX10_daysLent 8 = .ok (.aload_n 0, 1) := by decide +kernel
theorem dX10_daysLent_9 : decode cX10_daysLent 9 = .ok (.getfield 18, 3) := by decide +kernel
theorem dX10_daysLent_12 : decode cX10_daysLent 12 = .ok (.bipush 100, 2) := by decide +kernel
theorem dX10_daysLent_14 : decode cX10_daysLent 14 = .ok (.aload_n 0, 1) := by decide +kernel
theorem dX10_daysLent_15 : decode cX10_daysLent 15 = .ok (.getfield 9, 3) := by decide +kernel
theorem dX10_daysLent_18 : decode cX10_daysLent 18 = .ok (.bipush 14, 2) := by decide +kernel
theorem dX10_daysLent_20 : decode cX10_daysLent 20 = .ok (.invokevirtual 50, 3) := by decide +kernel
theorem dX10_daysLent_23 : decode cX10_daysLent 23 = .ok (.iconst 1, 1) := by decide +kernel
theorem dX10_daysLent_24 : decode cX10_daysLent 24 = .ok (.bipush 60, 2) := by decide +kernel
theorem dX10_daysLent_26 : decode cX10_daysLent 26 = .ok (.invokestatic 54, 3) := by decide +kernel
theorem dX10_daysLent_29 : decode cX10_daysLent 29 = .ok (.ireturn, 1) := by decide +kernel
theorem dX10_fine_0 : decode cX10_fine 0 = .ok (.aload_n 0, 1) := by decide +kernel
theorem dX10_fine_1 : decode cX10_fine 1 = .ok (.iload_n 1, 1) := by decide +kernel
theorem dX10_fine_2 : decode cX10_fine 2 = .ok (.iload_n 2, 1) := by decide +kernel
theorem dX10_fine_3 : decode cX10_fine 3 = .ok (.iconst 0, 1) := by decide +kernel
theorem dX10_fine_4 : decode cX10_fine 4 = .ok (.iload_n 3, 1) := by decide +kernel
theorem dX10_fine_5 : decode cX10_fine 5 = .ok (.aload_n 0, 1) := by decide +kernel
theorem dX10_fine_6 : decode cX10_fine 6 = .ok (.getfield 22, 3) := by decide +kernel
theorem dX10_fine_9 : decode cX10_fine 9 = .ok (.getfield 58, 3) := by decide +kernel
theorem dX10_fine_12 : decode cX10_fine 12 = .ok (.iload_n 2, 1) := by decide +kernel
theorem dX10_fine_13 : decode cX10_fine 13 = .ok (.iaload, 1) := by decide +kernel
theorem dX10_fine_14 : decode cX10_fine 14 = .ok (.isub, 1) := by decide +kernel
theorem dX10_fine_15 : decode cX10_fine 15 = .ok (.invokestatic 61, 3) := by decide +kernel
theorem dX10_fine_18 : decode cX10_fine 18 = .ok (.iload_n 3, 1) := by decide +kernel
theorem dX10_fine_19 : decode cX10_fine 19 = .ok (.invokevirtual 46, 3) := by decide +kernel
theorem dX10_fine_22 : decode cX10_fine 22 = .ok (.aload_n 0, 1) := by decide +kernel
theorem dX10_fine_23 : decode cX10_fine 23 = .ok (.getfield 18, 3) := by decide +kernel
theorem dX10_fine_26 : decode cX10_fine 26 = .ok (.bipush 102, 2) := by decide +kernel
theorem dX10_fine_28 : decode cX10_fine 28 = .ok (.aload_n 0, 1) := by decide +kernel
theorem dX10_fine_29 : decode cX10_fine 29 = .ok (.getfield 9, 3) := by decide +kernel
theorem dX10_fine_32 : decode cX10_fine 32 = .ok (.iconst 0, 1) := by decide +kernel
theorem dX10_fine_33 : decode cX10_fine 33 = .ok (.invokevirtual 50, 3) := by decide +kernel
theorem dX10_fine_36 : decode cX10_fine 36 = .ok (.iconst 0, 1) := by decide +kernel
theorem dX10_fine_37 : decode cX10_fine 37 = .ok (.sipush 10000, 3) := by decide +kernel
theorem dX10_fine_40 : decode cX10_fine 40 = .ok (.invokestatic 54, 3) := by decide +kernel
theorem dX10_fine_43 : decode cX10_fine 43 = .ok (.ireturn, 1) := by decide +kernel
theorem dX10_bounded_0 : decode cX10_bounded 0 = .ok (.iload_n 1, 1) := by decide +kernel
theorem dX10_bounded_1 : decode cX10_bounded 1 = .ok (.iload_n 2, 1) := by decide +kernel
theorem dX10_bounded_2 : decode cX10_bounded 2 = .ok (.iload_n 0, 1) := by decide +kernel
theorem dX10_bounded_3 : decode cX10_bounded 3 = .ok (.invokestatic 67, 3) := by decide +kernel
theorem dX10_bounded_6 : decode cX10_bounded 6 = .ok (.invokestatic 61, 3) := by decide +kernel
theorem dX10_bounded_9 : decode cX10_bounded 9 = .ok (.ireturn, 1) := by decide +kernel
theorem dX10_look_0 : decode cX10_look 0 = .ok (.aload_n 0, 1) := by decide +kernel
theorem dX10_look_1 : decode cX10_look 1 = .ok (.getfield 22, 3) := by decide +kernel
theorem dX10_look_4 : decode cX10_look 4 = .ok (.getfield 70, 3) := by decide +kernel
theorem dX10_look_7 : decode cX10_look 7 = .ok (.iload_n 2, 1) := by decide +kernel
theorem dX10_look_8 : decode cX10_look 8 = .ok (.iaload, 1) := by decide +kernel
theorem dX10_look_9 : decode cX10_look 9 = .ok (.istore 5, 2) := by decide +kernel
theorem dX10_look_11 : decode cX10_look 11 = .ok (.aload_n 0, 1) := by decide +kernel
theorem dX10_look_12 : decode cX10_look 12 = .ok (.getfield 26, 3) := by decide +kernel
theorem dX10_look_15 : decode cX10_look 15 = .ok (.getfield 73, 3) := by decide +kernel
theorem dX10_look_18 : decode cX10_look 18 = .ok (.iload_n 1, 1) := by decide +kernel
theorem dX10_look_19 : decode cX10_look 19 = .ok (.iaload, 1) := by decide +kernel
theorem dX10_look_20 : decode cX10_look 20 = .ok (.istore 6, 2) := by decide +kernel
theorem dX10_look_22 : decode cX10_look 22 = .ok (.aload_n 0, 1) := by decide +kernel
theorem dX10_look_23 : decode cX10_look 23 = .ok (.getfield 9, 3) := by decide +kernel
theorem dX10_look_26 : decode cX10_look 26 = .ok (.bipush 116, 2) := by decide +kernel
theorem dX10_look_28 : decode cX10_look 28 = .ok (.aload_n 0, 1) := by decide +kernel
theorem dX10_look_29 : decode cX10_look 29 = .ok (.getfield 26, 3) := by decide +kernel
theorem dX10_look_32 : decode cX10_look 32 = .ok (.getfield 76, 3) := by decide +kernel
theorem dX10_look_35 : decode cX10_look 35 = .ok (.iload_n 1, 1) := by decide +kernel
theorem dX10_look_36 : decode cX10_look 36 = .ok (.bipush 8, 2) := by decide +kernel
theorem dX10_look_38 : decode cX10_look 38 = .ok (.imul, 1) := by decide +kernel
theorem dX10_look_39 : decode cX10_look 39 = .ok (.iload 5, 2) := by decide +kernel
theorem dX10_look_41 : decode cX10_look 41 = .ok (.iadd, 1) := by decide +kernel
theorem dX10_look_42 : decode cX10_look 42 = .ok (.iaload, 1) := by decide +kernel
theorem dX10_look_43 : decode cX10_look 43 = .ok (.iastore, 1) := by decide +kernel
theorem dX10_look_44 : decode cX10_look 44 = .ok (.aload_n 0, 1) := by decide +kernel
theorem dX10_look_45 : decode cX10_look 45 = .ok (.getfield 9, 3) := by decide +kernel
theorem dX10_look_48 : decode cX10_look 48 = .ok (.bipush 107, 2) := by decide +kernel
theorem dX10_look_50 : decode cX10_look 50 = .ok (.iload 5, 2) := by decide +kernel
theorem dX10_look_52 : decode cX10_look 52 = .ok (.iastore, 1) := by decide +kernel
theorem dX10_look_53 : decode cX10_look 53 = .ok (.aload_n 0, 1) := by decide +kernel
theorem dX10_look_54 : decode cX10_look 54 = .ok (.getfield 9, 3) := by decide +kernel
theorem dX10_look_57 : decode cX10_look 57 = .ok (.bipush 108, 2) := by decide +kernel
theorem dX10_look_59 : decode cX10_look 59 = .ok (.aload_n 0, 1) := by decide +kernel
theorem dX10_look_60 : decode cX10_look 60 = .ok (.getfield 22, 3) := by decide +kernel
theorem dX10_look_63 : decode cX10_look 63 = .ok (.getfield 79, 3) := by decide +kernel
theorem dX10_look_66 : decode cX10_look 66 = .ok (.iload_n 2, 1) := by decide +kernel
theorem dX10_look_67 : decode cX10_look 67 = .ok (.iaload, 1) := by decide +kernel
theorem dX10_look_68 : decode cX10_look 68 = .ok (.iastore, 1) := by decide +kernel
theorem dX10_look_69 : decode cX10_look 69 = .ok (.aload_n 0, 1) := by decide +kernel
theorem dX10_look_70 : decode cX10_look 70 = .ok (.getfield 9, 3) := by decide +kernel
theorem dX10_look_73 : decode cX10_look 73 = .ok (.bipush 102, 2) := by decide +kernel
theorem dX10_look_75 : decode cX10_look 75 = .ok (.aload_n 0, 1) := by decide +kernel
theorem dX10_look_76 : decode cX10_look 76 = .ok (.getfield 22, 3) := by decide +kernel
theorem dX10_look_79 : decode cX10_look 79 = .ok (.getfield 45, 3) := by decide +kernel
theorem dX10_look_82 : decode cX10_look 82 = .ok (.iload_n 2, 1) := by decide +kernel
theorem dX10_look_83 : decode cX10_look 83 = .ok (.iaload, 1) := by decide +kernel
theorem dX10_look_84 : decode cX10_look 84 = .ok (.iastore, 1) := by decide +kernel
theorem dX10_look_85 : decode cX10_look 85 = .ok (.aload_n 0, 1) := by decide +kernel
theorem dX10_look_86 : decode cX10_look 86 = .ok (.getfield 9, 3) := by decide +kernel
theorem dX10_look_89 : decode cX10_look 89 = .ok (.bipush 112, 2) := by decide +kernel
theorem dX10_look_91 : decode cX10_look 91 = .ok (.aload_n 0, 1) := by decide +kernel
theorem dX10_look_92 : decode cX10_look 92 = .ok (.getfield 22, 3) := by decide +kernel
theorem dX10_look_95 : decode cX10_look 95 = .ok (.getfield 82, 3) := by decide +kernel
theorem dX10_look_98 : decode cX10_look 98 = .ok (.iload_n 2, 1) := by decide +kernel
theorem dX10_look_99 : decode cX10_look 99 = .ok (.iaload, 1) := by decide +kernel
theorem dX10_look_100 : decode cX10_look 100 = .ok (.iastore, 1) := by decide +kernel
theorem dX10_look_101 : decode cX10_look 101 = .ok (.aload_n 0, 1) := by decide +kernel
theorem dX10_look_102 : decode cX10_look 102 = .ok (.getfield 9, 3) := by decide +kernel
theorem dX10_look_105 : decode cX10_look 105 = .ok (.bipush 110, 2) := by decide +kernel
theorem dX10_look_107 : decode cX10_look 107 = .ok (.aload_n 0, 1) := by decide +kernel
theorem dX10_look_108 : decode cX10_look 108 = .ok (.getfield 26, 3) := by decide +kernel
theorem dX10_look_111 : decode cX10_look 111 = .ok (.getfield 85, 3) := by decide +kernel
theorem dX10_look_114 : decode cX10_look 114 = .ok (.iload_n 1, 1) := by decide +kernel
theorem dX10_look_115 : decode cX10_look 115 = .ok (.iaload, 1) := by decide +kernel
theorem dX10_look_116 : decode cX10_look 116 = .ok (.aload_n 0, 1) := by decide +kernel
theorem dX10_look_117 : decode cX10_look 117 = .ok (.getfield 22, 3) := by decide +kernel
theorem dX10_look_120 : decode cX10_look 120 = .ok (.getfield 88, 3) := by decide +kernel
theorem dX10_look_123 : decode cX10_look 123 = .ok (.iload 5, 2) := by decide +kernel
theorem dX10_look_125 : decode cX10_look 125 = .ok (.iaload, 1) := by decide +kernel
theorem dX10_look_126 : decode cX10_look 126 = .ok (.iand, 1) := by decide +kernel
theorem dX10_look_127 : decode cX10_look 127 = .ok (.invokestatic 91, 3) := by decide +kernel
theorem dX10_look_130 : decode cX10_look 130 = .ok (.iastore, 1) := by decide +kernel
theorem dX10_look_131 : decode cX10_look 131 = .ok (.aload_n 0, 1) := by decide +kernel
theorem dX10_look_132 : decode cX10_look 132 = .ok (.getfield 9, 3) := by decide +kernel
theorem dX10_look_135 : decode cX10_look 135 = .ok (.bipush 104, 2) := by decide +kernel
theorem dX10_look_137 : decode cX10_look 137 = .ok (.aload_n 0, 1) := by decide +kernel
theorem dX10_look_138 : decode cX10_look 138 = .ok (.getfield 26, 3) := by decide +kernel
theorem dX10_look_141 : decode cX10_look 141 = .ok (.getfield 97, 3) := by decide +kernel
theorem dX10_look_144 : decode cX10_look 144 = .ok (.iload_n 1, 1) := by decide +kernel
theorem dX10_look_145 : decode cX10_look 145 = .ok (.iaload, 1) := by decide +kernel
theorem dX10_look_146 : decode cX10_look 146 = .ok (.iastore, 1) := by decide +kernel
theorem dX10_look_147 : decode cX10_look 147 = .ok (.aload_n 0, 1) := by decide +kernel
theorem dX10_look_148 : decode cX10_look 148 = .ok (.getfield 9, 3) := by decide +kernel
theorem dX10_look_151 : decode cX10_look 151 = .ok (.bipush 115, 2) := by decide +kernel
theorem dX10_look_153 : decode cX10_look 153 = .ok (.iload 6, 2) := by decide +kernel
theorem dX10_look_155 : decode cX10_look 155 = .ok (.iastore, 1) := by decide +kernel
theorem dX10_look_156 : decode cX10_look 156 = .ok (.aload_n 0, 1) := by decide +kernel
theorem dX10_look_157 : decode cX10_look 157 = .ok (.getfield 9, 3) := by decide +kernel
theorem dX10_look_160 : decode cX10_look 160 = .ok (.bipush 98, 2) := by decide +kernel
theorem dX10_look_162 : decode cX10_look 162 = .ok (.iload_n 2, 1) := by decide +kernel
theorem dX10_look_163 : decode cX10_look 163 = .ok (.iastore, 1) := by decide +kernel
theorem dX10_look_164 : decode cX10_look 164 = .ok (.aload_n 0, 1) := by decide +kernel
theorem dX10_look_165 : decode cX10_look 165 = .ok (.getfield 9, 3) := by decide +kernel
theorem dX10_look_168 : decode cX10_look 168 = .ok (.bipush 121, 2) := by decide +kernel
theorem dX10_look_170 : decode cX10_look 170 = .ok (.iload 4, 2) := by decide +kernel
theorem dX10_look_172 : decode cX10_look 172 = .ok (.iastore, 1) := by decide +kernel
theorem dX10_look_173 : decode cX10_look 173 = .ok (.aload_n 0, 1) := by decide +kernel
theorem dX10_look_174 : decode cX10_look 174 = .ok (.getfield 9, 3) := by decide +kernel
theorem dX10_look_177 : decode cX10_look 177 = .ok (.bipush 120, 2) := by decide +kernel
theorem dX10_look_179 : decode cX10_look 179 = .ok (.iload_n 3, 1) := by decide +kernel
theorem dX10_look_180 : decode cX10_look 180 = .ok (.iastore, 1) := by decide +kernel
theorem dX10_look_181 : decode cX10_look 181 = .ok (.aload_n 0, 1) := by decide +kernel
theorem dX10_look_182 : decode cX10_look 182 = .ok (.getfield 9, 3) := by decide +kernel
theorem dX10_look_185 : decode cX10_look 185 = .ok (.bipush 114, 2) := by decide +kernel
theorem dX10_look_187 : decode cX10_look 187 = .ok (.aload_n 0, 1) := by decide +kernel
theorem dX10_look_188 : decode cX10_look 188 = .ok (.getfield 22, 3) := by decide +kernel
theorem dX10_look_191 : decode cX10_look 191 = .ok (.getfield 100, 3) := by decide +kernel
theorem dX10_look_194 : decode cX10_look 194 = .ok (.iload_n 2, 1) := by decide +kernel
theorem dX10_look_195 : decode cX10_look 195 = .ok (.iaload, 1) := by decide +kernel
theorem dX10_look_196 : decode cX10_look 196 = .ok (.aload_n 0, 1) := by decide +kernel
theorem dX10_look_197 : decode cX10_look 197 = .ok (.getfield 30, 3) := by decide +kernel
theorem dX10_look_200 : decode cX10_look 200 = .ok (.getfield 103, 3) := by decide +kernel
theorem dX10_look_203 : decode cX10_look 203 = .ok (.iload 6, 2) := by decide +kernel
theorem dX10_look_205 : decode cX10_look 205 = .ok (.iaload, 1) := by decide +kernel
theorem dX10_look_206 : decode cX10_look 206 = .ok (.iand, 1) := by decide +kernel
theorem dX10_look_207 : decode cX10_look 207 = .ok (.invokestatic 91, 3) := by decide +kernel
theorem dX10_look_210 : decode cX10_look 210 = .ok (.iastore, 1) := by decide +kernel
theorem dX10_look_211 : decode cX10_look 211 = .ok (.return_, 1) := by decide +kernel
theorem dX11_init_0 : decode cX11_init 0 = .ok (.aload_n 0, 1) := by decide +kernel
theorem dX11_init_1 : decode cX11_init 1 = .ok (.invokespecial 3, 3) := by decide +kernel
theorem dX11_init_4 : decode cX11_init 4 = .ok (.aload_n 0, 1) := by decide +kernel
theorem dX11_init_5 : decode cX11_init 5 = .ok (.new 9, 3) := by decide +kernel
theorem dX11_init_8 : decode cX11_init 8 = .ok (.dup, 1) := by decide +kernel
theorem dX11_init_9 : decode cX11_init 9 = .ok (.invokespecial 11, 3) := by decide +kernel
theorem dX11_init_12 : decode cX11_init 12 = .ok (.putfield 12, 3) := by decide +kernel
theorem dX11_init_15 : decode cX11_init 15 = .ok (.aload_n 0, 1) := by decide +kernel
theorem dX11_init_16 : decode cX11_init 16 = .ok (.new 16, 3) := by decide +kernel
theorem dX11_init_19 : decode cX11_init 19 = .ok (.dup, 1) := by decide +kernel
theorem dX11_init_20 : decode cX11_init 20 = .ok (.invokespecial 18, 3) := by decide +kernel
theorem dX11_init_23 : decode cX11_init 23 = .ok (.putfield 19, 3) := by decide +kernel
theorem dX11_init_26 : decode cX11_init 26 = .ok (.aload_n 0, 1) := by decide +kernel
theorem dX11_init_27 : decode cX11_init 27 = .ok (.new 23, 3) := by decide +kernel
theorem dX11_init_30 : decode cX11_init 30 = .ok (.dup, 1) := by decide +kernel
theorem dX11_init_31 : decode cX11_init 31 = .ok (.invokespecial 25, 3) := by decide +kernel
theorem dX11_init_34 : decode cX11_init 34 = .ok (.putfield 26, 3) := by decide +kernel
theorem dX11_init_37 : decode cX11_init 37 = .ok (.aload_n 0, 1) := by decide +kernel
theorem dX11_init_38 : decode cX11_init 38 = .ok (.new 30, 3) := by decide +kernel
theorem dX11_init_41 : decode cX11_init 41 = .ok (.dup, 1) := by decide +kernel
theorem dX11_init_42 : decode cX11_init 42 = .ok (.invokespecial 32, 3) := by decide +kernel
theorem dX11_init_45 : decode cX11_init 45 = .ok (.putfield 33, 3) := by decide +kernel
theorem dX11_init_48 : decode cX11_init 48 = .ok (.aload_n 0, 1) := by decide +kernel
theorem dX11_init_49 : decode cX11_init 49 = .ok (.new 37, 3) := by decide +kernel
theorem dX11_init_52 : decode cX11_init 52 = .ok (.dup, 1) := by decide +kernel
theorem dX11_init_53 : decode cX11_init 53 = .ok (.invokespecial 39, 3) := by decide +kernel
theorem dX11_init_56 : decode cX11_init 56 = .ok (.putfield 40, 3) := by decide +kernel
theorem dX11_init_59 : decode cX11_init 59 = .ok (.aload_n 0, 1) := by decide +kernel
theorem dX11_init_60 : decode cX11_init 60 = .ok (.new 44, 3) := by decide +kernel
theorem dX11_init_63 : decode cX11_init 63 = .ok (.dup, 1) := by decide +kernel
theorem dX11_init_64 : decode cX11_init 64 = .ok (.invokespecial 46, 3) := by decide +kernel
theorem dX11_init_67 : decode cX11_init 67 = .ok (.putfield 47, 3) := by decide +kernel
theorem dX11_init_70 : decode cX11_init 70 = .ok (.aload_n 0, 1) := by decide +kernel
theorem dX11_init_71 : decode cX11_init 71 = .ok (.new 51, 3) := by decide +kernel
theorem dX11_init_74 : decode cX11_init 74 = .ok (.dup, 1) := by decide +kernel
theorem dX11_init_75 : decode cX11_init 75 = .ok (.aload_n 0, 1) := by decide +kernel
theorem dX11_init_76 : decode cX11_init 76 = .ok (.getfield 19, 3) := by decide +kernel
theorem dX11_init_79 : decode cX11_init 79 = .ok (.aload_n 0, 1) := by decide +kernel
theorem dX11_init_80 : decode cX11_init 80 = .ok (.getfield 26, 3) := by decide +kernel
theorem dX11_init_83 : decode cX11_init 83 = .ok (.aload_n 0, 1) := by decide +kernel
theorem dX11_init_84 : decode cX11_init 84 = .ok (.getfield 33, 3) := by decide +kernel
theorem dX11_init_87 : decode cX11_init 87 = .ok (.invokespecial 53, 3) := by decide +kernel
theorem dX11_init_90 : decode cX11_init 90 = .ok (.putfield 56, 3) := by decide +kernel
theorem dX11_init_93 : decode cX11_init 93 = .ok (.aload_n 0, 1) := by decide +kernel
theorem dX11_init_94 : decode cX11_init 94 = .ok (.new 60, 3) := by decide +kernel
theorem dX11_init_97 : decode cX11_init 97 = .ok (.dup, 1) := by decide +kernel
theorem dX11_init_98 : decode cX11_init 98 = .ok (.aload_n 0, 1) := by decide +kernel
theorem dX11_init_99 : decode cX11_init 99 = .ok (.getfield 33, 3) := by decide +kernel
theorem dX11_init_102 : decode cX11_init 102 = .ok (.invokespecial 62, 3) := by decide +kernel
theorem dX11_init_105 : decode cX11_init 105 = .ok (.putfield 65, 3) := by decide +kernel
theorem dX11_init_108 : decode cX11_init 108 = .ok (.aload_n 0, 1) := by decide +kernel
theorem dX11_init_109 : decode cX11_init 109 = .ok (.new 69, 3) := by decide +kernel
theorem dX11_init_112 : decode cX11_init 112 = .ok (.dup, 1) := by decide +kernel
theorem dX11_init_113 : decode cX11_init 113 = .ok (.invokespecial 71, 3) := by decide +kernel
theorem dX11_init_116 : decode cX11_init 116 = .ok (.putfield 72, 3) := by decide +kernel
theorem dX11_init_119 : decode cX11_init 119 = .ok (.aload_n 0, 1) := by decide +kernel
theorem dX11_init_120 : decode cX11_init 120 = .ok (.iconst 3, 1) := by decide +kernel
theorem dX11_init_121 : decode cX11_init 121 = .ok (.newarray .int, 2) := by decide +kernel
theorem dX11_init_123 : decode cX11_init 123 = .ok (.putfield 76, 3) := by decide +kernel
theorem dX11_init_126 : decode cX11_init 126 = .ok (.aload_n 0, 1) := by decide +kernel
theorem dX11_init_127 : decode cX11_init 127 = .ok (.getfield 76, 3) := by decide +kernel
theorem dX11_init_130 : decode cX11_init 130 = .ok (.bipush 30, 2) := by decide +kernel
theorem dX11_init_132 : decode cX11_init 132 = .ok (.invokestatic 80, 3) := by decide +kernel
theorem dX11_init_135 : decode cX11_init 135 = .ok (.aload_n 0, 1) := by decide +kernel
theorem dX11_init_136 : decode cX11_init 136 = .ok (.iconst 3, 1) := by decide +kernel
theorem dX11_init_137 : decode cX11_init 137 = .ok (.newarray .int, 2) := by decide +kernel
theorem dX11_init_139 : decode cX11_init 139 = .ok (.putfield 86, 3) := by decide +kernel
theorem dX11_init_142 : decode cX11_init 142 = .ok (.aload_n 0, 1) := by decide +kernel
theorem dX11_init_143 : decode cX11_init 143 = .ok (.new 89, 3) := by decide +kernel
theorem dX11_init_146 : decode cX11_init 146 = .ok (.dup, 1) := by decide +kernel
theorem dX11_init_147 : decode cX11_init 147 = .ok (.invokespecial 91, 3) := by decide +kernel
theorem dX11_init_150 : decode cX11_init 150 = .ok (.putfield 92, 3) := by decide +kernel
theorem dX11_init_153 : decode cX11_init 153 = .ok (.aload_n 0, 1) := by decide +kernel
theorem dX11_init_154 : decode cX11_init 154 = .ok (.iconst 0, 1) := by decide +kernel
theorem dX11_init_155 : decode cX11_init 155 = .ok (.putfield 96, 3) := by decide +kernel
theorem dX11_init_158 : decode cX11_init 158 = .ok (.return_, 1) := by decide +kernel
theorem dX11_now_0 : decode cX11_now 0 = .ok (.iload_n 1, 1) := by decide +kernel
theorem dX11_now_1 : decode cX11_now 1 = .ok (.aload_n 0, 1) := by decide +kernel
theorem dX11_now_2 : decode cX11_now 2 = .ok (.getfield 96, 3) := by decide +kernel
theorem dX11_now_5 : decode cX11_now 5 = .ok (.sipush 199, 3) := by decide +kernel
theorem dX11_now_8 : decode cX11_now 8 = .ok (.invokestatic 100, 3) := by decide +kernel
theorem dX11_now_11 : decode cX11_now 11 = .ok (.ifCond .ne 5, 3) := by decide +kernel
theorem dX11_now_14 : decode cX11_now 14 = .ok (.iconst 0, 1) := by decide +kernel
theorem dX11_now_15 : decode cX11_now 15 = .ok (.ireturn, 1) := by decide +kernel
theorem dX11_now_16 : decode cX11_now 16 = .ok (.aload_n 0, 1) := by decide +kernel
theorem dX11_now_17 : decode cX11_now 17 = .ok (.iload_n 1, 1) := by decide +kernel
theorem dX11_now_18 : decode cX11_now 18 = .ok (.putfield 96, 3) := by decide +kernel
theorem dX11_now_21 : decode cX11_now 21 = .ok (.iconst 1, 1) := by decide +kernel
theorem dX11_now_22 : decode cX11_now 22 = .ok (.ireturn, 1) := by decide +kernel
theorem dX11_book_0 : decode cX11_book 0 = .ok (.iload_n 1, 1) := by decide +kernel
theorem dX11_book_1 : decode cX11_book 1 = .ok (.iconst 0, 1) := by decide +kernel
theorem dX11_book_2 : decode cX11_book 2 = .ok (.bipush 7, 2) := by decide +kernel
theorem dX11_book_4 : decode cX11_book 4 = .ok (.invokestatic 100, 3) := by decide +kernel
theorem dX11_book_7 : decode cX11_book 7 = .ok (.ifCond .eq 38, 3) := by decide +kernel
theorem dX11_book_10 : decode cX11_book 10 = .ok (.iload_n 2, 1) := by decide +kernel
theorem dX11_book_11 : decode cX11_book 11 = .ok (.iconst 1, 1) := by decide +kernel
theorem dX11_book_12 : decode cX11_book 12 = .ok (.bipush 9, 2) := by decide +kernel
theorem dX11_book_14 : decode cX11_book 14 = .ok (.invokestatic 100, 3) := by decide +kernel
theorem dX11_book_17 : decode cX11_book 17 = .ok (.ifCond .eq 28, 3) := by decide +kernel
theorem dX11_book_20 : decode cX11_book 20 = .ok (.iload_n 3, 1) := by decide +kernel
theorem dX11_book_21 : decode cX11_book 21 = .ok (.iconst 0, 1) := by decide +kernel
theorem dX11_book_22 : decode cX11_book 22 = .ok (.iconst 2, 1) := by decide +kernel
theorem dX11_book_23 : decode cX11_book 23 = .ok (.invokestatic 100, 3) := by decide +kernel
theorem dX11_book_26 : decode cX11_book 26 = .ok (.ifCond .eq 19, 3) := by decide +kernel
theorem dX11_book_29 : decode cX11_book 29 = .ok (.iload 4, 2) := by decide +kernel
theorem dX11_book_31 : decode cX11_book 31 = .ok (.iconst 0, 1) := by decide +kernel
theorem dX11_book_32 : decode cX11_book 32 = .ok (.sipush 1000, 3) := by decide +kernel
theorem dX11_book_35 : decode cX11_book 35 = .ok (.invokestatic 100, 3) := by decide +kernel
theorem dX11_book_38 : decode cX11_book 38 = .ok (.ifCond .eq 7, 3) := by decide +kernel
theorem dX11_book_41 : decode cX11_book 41 = .ok (.iconst 1, 1) := by decide +kernel
theorem dX11_book_42 : decode cX11_book 42 = .ok (.goto 4, 3) := by decide +kernel
theorem dX11_book_45 : decode cX11_book 45 = .ok (.iconst 0, 1) := by decide +kernel
theorem dX11_book_46 : decode cX11_book 46 = .ok (.istore 5, 2) := by decide +kernel
theorem dX11_book_48 : decode cX11_book 48 = .ok (.iload 5, 2) := by decide +kernel
theorem dX11_book_50 : decode cX11_book 50 = .ok (.ifCond .eq 18, 3) := by decide +kernel
theorem dX11_book_53 : decode cX11_book 53 = .ok (.aload_n 0, 1) := by decide +kernel
theorem dX11_book_54 : decode cX11_book 54 = .ok (.getfield 19, 3) := by decide +kernel
theorem dX11_book_57 : decode cX11_book 57 = .ok (.iload_n 1, 1) := by decide +kernel
theorem dX11_book_58 : decode cX11_book 58 = .ok (.iload_n 2, 1) := by decide +kernel
theorem dX11_book_59 : decode cX11_book 59 = .ok (.iload_n 3, 1) := by decide +kernel
theorem dX11_book_60 : decode cX11_book 60 = .ok (.iload 4, 2) := by decide +kernel
theorem dX11_book_62 : decode cX11_book 62 = .ok (.invokevirtual 104, 3) := by decide +kernel
theorem dX11_book_65 : decode cX11_book 65 = .ok (.goto 4, 3) := by decide +kernel
theorem dX11_book_68 : decode cX11_book 68 = .ok (.iconst (-1), 1) := by decide +kernel
theorem dX11_book_69 : decode cX11_book 69 = .ok (.ireturn, 1) := by decide +kernel
theorem dX11_shelf_0 : decode cX11_shelf 0 = .ok (.iload_n 1, 1) := by decide +kernel
theorem dX11_shelf_1 : decode cX11_shelf 1 = .ok (.invokestatic 108, 3) := by decide +kernel
theorem dX11_shelf_4 : decode cX11_shelf 4 = .ok (.ifCond .eq 25, 3) := by decide +kernel
theorem dX11_shelf_7 : decode cX11_shelf 7 = .ok (.iload_n 2, 1) := by decide +kernel
theorem dX11_shelf_8 : decode cX11_shelf 8 = .ok (.iconst 0, 1) := by decide +kernel
theorem dX11_shelf_9 : decode cX11_shelf 9 = .ok (.bipush 99, 2) := by decide +kernel
theorem dX11_shelf_11 : decode cX11_shelf 11 = .ok (.invokestatic 100, 3) := by decide +kernel
theorem dX11_shelf_14 : decode cX11_shelf 14 = .ok (.ifCond .eq 15, 3) := by decide +kernel
theorem dX11_shelf_17 : decode cX11_shelf 17 = .ok (.aload_n 0, 1) := by decide +kernel
theorem dX11_shelf_18 : decode cX11_shelf 18 = .ok (.getfield 19, 3) := by decide +kernel
theorem dX11_shelf_21 : decode cX11_shelf 21 = .ok (.iload_n 1, 1) := by decide +kernel
theorem dX11_shelf_22 : decode cX11_shelf 22 = .ok (.invokevirtual 112, 3) := by decide +kernel
theorem dX11_shelf_25 : decode cX11_shelf 25 = .ok (.iload_n 2, 1) := by decide +kernel
theorem dX11_shelf_26 : decode cX11_shelf 26 = .ok (.if_icmp .le 5, 3) := by decide +kernel
theorem dX11_shelf_29 : decode cX11_shelf 29 = .ok (.iconst 0, 1) := by decide +kernel
theorem dX11_shelf_30 : decode cX11_shelf 30 = .ok (.ireturn, 1) := by decide +kernel
theorem dX11_shelf_31 : decode cX11_shelf 31 = .ok (.aload_n 0, 1) := by decide +kernel
theorem dX11_shelf_32 : decode cX11_shelf 32 = .ok (.getfield 76, 3) := by decide +kernel
theorem dX11_shelf_35 : decode cX11_shelf 35 = .ok (.iload_n 1, 1) := by decide +kernel
theorem dX11_shelf_36 : decode cX11_shelf 36 = .ok (.iload_n 2, 1) := by decide +kernel
theorem dX11_shelf_37 : decode cX11_shelf 37 = .ok (.iastore, 1) := by decide +kernel
theorem dX11_shelf_38 : decode cX11_shelf 38 = .ok (.iconst 1, 1) := by decide +kernel
theorem dX11_shelf_39 : decode cX11_shelf 39 = .ok (.ireturn, 1) := by decide +kernel
theorem dX11_stop_0 : decode cX11_stop 0 = .ok (.iload_n 1, 1) := by decide +kernel
theorem dX11_stop_1 : decode cX11_stop 1 = .ok (.iconst 0, 1) := by decide +kernel
theorem dX11_stop_2 : decode cX11_stop 2 = .ok (.bipush 99, 2) := by decide +kernel
theorem dX11_stop_4 : decode cX11_stop 4 = .ok (.invokestatic 100, 3) := by decide +kernel
theorem dX11_stop_7 : decode cX11_stop 7 = .ok (.ifCond .eq 28, 3) := by decide +kernel
theorem dX11_stop_10 : decode cX11_stop 10 = .ok (.iload_n 2, 1) := by decide +kernel
theorem dX11_stop_11 : decode cX11_stop 11 = .ok (.iconst 0, 1) := by decide +kernel
theorem dX11_stop_12 : decode cX11_stop 12 = .ok (.bipush 99, 2) := by decide +kernel
theorem dX11_stop_14 : decode cX11_stop 14 = .ok (.invokestatic 100, 3) := by decide +kernel
theorem dX11_stop_17 : decode cX11_stop 17 = .ok (.ifCond .eq 18, 3) := by decide +kernel
theorem dX11_stop_20 : decode cX11_stop 20 = .ok (.iload_n 3, 1) := by decide +kernel
theorem dX11_stop_21 : decode cX11_stop 21 = .ok (.iconst 1, 1) := by decide +kernel
theorem dX11_stop_22 : decode cX11_stop 22 = .ok (.sipush 200, 3) := by decide +kernel
theorem dX11_stop_25 : decode cX11_stop 25 = .ok (.invokestatic 100, 3) := by decide +kernel
theorem dX11_stop_28 : decode cX11_stop 28 = .ok (.ifCond .eq 7, 3) := by decide +kernel
theorem dX11_stop_31 : decode cX11_stop 31 = .ok (.iconst 1, 1) := by decide +kernel
theorem dX11_stop_32 : decode cX11_stop 32 = .ok (.goto 4, 3) := by decide +kernel
theorem dX11_stop_35 : decode cX11_stop 35 = .ok (.iconst 0, 1) := by decide +kernel
theorem dX11_stop_36 : decode cX11_stop 36 = .ok (.istore 4, 2) := by decide +kernel
theorem dX11_stop_38 : decode cX11_stop 38 = .ok (.iload 4, 2) := by decide +kernel
theorem dX11_stop_40 : decode cX11_stop 40 = .ok (.ifCond .eq 16, 3) := by decide +kernel
theorem dX11_stop_43 : decode cX11_stop 43 = .ok (.aload_n 0, 1) := by decide +kernel
theorem dX11_stop_44 : decode cX11_stop 44 = .ok (.getfield 33, 3) := by decide +kernel
theorem dX11_stop_47 : decode cX11_stop 47 = .ok (.iload_n 1, 1) := by decide +kernel
theorem dX11_stop_48 : decode cX11_stop 48 = .ok (.iload_n 2, 1) := by decide +kernel
theorem dX11_stop_49 : decode cX11_stop 49 = .ok (.iload_n 3, 1) := by decide +kernel
theorem dX11_stop_50 : decode cX11_stop 50 = .ok (.invokevirtual 116, 3) := by decide +kernel
theorem dX11_stop_53 : decode cX11_stop 53 = .ok (.goto 4, 3) := by decide +kernel
theorem dX11_stop_56 : decode cX11_stop 56 = .ok (.iconst (-1), 1) := by decide +kernel
theorem dX11_stop_57 : decode cX11_stop 57 = .ok (.ireturn, 1) := by decide +kernel
theorem dX11_visit_0 : decode cX11_visit 0 = .ok (.aload_n 0, 1) := by decide +kernel
theorem dX11_visit_1 : decode cX11_visit 1 = .ok (.getfield 33, 3) := by decide +kernel
theorem dX11_visit_4 : decode cX11_visit 4 = .ok (.iload_n 1, 1) := by decide +kernel
theorem dX11_visit_5 : decode cX11_visit 5 = .ok (.invokevirtual 119, 3) := by decide +kernel
theorem dX11_visit_8 : decode cX11_visit 8 = .ok (.ifCond .eq 25, 3) := by decide +kernel
theorem dX11_visit_11 : decode cX11_visit 11 = .ok (.iload_n 2, 1) := by decide +kernel
theorem dX11_visit_12 : decode cX11_visit 12 = .ok (.iconst (-1), 1) := by decide +kernel
theorem dX11_visit_13 : decode cX11_visit 13 = .ok (.if_icmp .eq 10, 3) := by decide +kernel
theorem dX11_visit_16 : decode cX11_visit 16 = .ok (.iload_n 2, 1) := by decide +kernel
theorem dX11_visit_17 : decode cX11_visit 17 = .ok (.invokestatic 108, 3) := by decide +kernel
theorem dX11_visit_20 : decode cX11_visit 20 = .ok (.ifCond .eq 13, 3) := by decide +kernel
theorem dX11_visit_23 : decode cX11_visit 23 = .ok (.iload_n 3, 1) := by decide +kernel
theorem dX11_visit_24 : decode cX11_visit 24 = .ok (.iconst 0, 1) := by decide +kernel
theorem dX11_visit_25 : decode cX11_visit 25 = .ok (.bipush 13, 2) := by decide +kernel
theorem dX11_visit_27 : decode cX11_visit 27 = .ok (.invokestatic 100, 3) := by decide +kernel
theorem dX11_visit_30 : decode cX11_visit 30 = .ok (.ifCond .ne 5, 3) := by decide +kernel
theorem dX11_visit_33 : decode cX11_visit 33 = .ok (.iconst 0, 1) := by decide +kernel
theorem dX11_visit_34 : decode cX11_visit 34 = .ok (.ireturn, 1) := by decide +kernel
theorem dX11_visit_35 : decode cX11_visit 35 = .ok (.aload_n 0, 1) := by decide +kernel
theorem dX11_visit_36 : decode cX11_visit 36 = .ok (.getfield 33, 3) := by decide +kernel
theorem dX11_visit_39 : decode cX11_visit 39 = .ok (.iload_n 1, 1) := by decide +kernel
theorem dX11_visit_40 : decode cX11_visit 40 = .ok (.iload_n 2, 1) := by decide +kernel
theorem dX11_visit_41 : decode cX11_visit 41 = .ok (.iload_n 3, 1) := by decide +kernel
theorem dX11_visit_42 : decode cX11_visit 42 = .ok (.invokevirtual 122, 3) := by decide +kernel
theorem dX11_visit_45 : decode cX11_visit 45 = .ok (.iconst 1, 1) := by decide +kernel
theorem dX11_visit_46 : decode cX11_visit 46 = .ok (.ireturn, 1) := by decide +kernel
theorem dX11_reader_0 : decode cX11_reader 0 = .ok (.aload_n 0, 1) := by decide +kernel
theorem dX11_reader_1 : decode cX11_reader 1 = .ok (.getfield 33, 3) := by decide +kernel
theorem dX11_reader_4 : decode cX11_reader 4 = .ok (.iload_n 1, 1) := by decide +kernel
theorem dX11_reader_5 : decode cX11_reader 5 = .ok (.invokevirtual 119, 3) := by decide +kernel
theorem dX11_reader_8 : decode cX11_reader 8 = .ok (.ifCond .eq 12, 3) := by decide +kernel
theorem dX11_reader_11 : decode cX11_reader 11 = .ok (.iload_n 2, 1) := by decide +kernel
theorem dX11_reader_12 : decode cX11_reader 12 = .ok (.iconst 0, 1) := by decide +kernel
theorem dX11_reader_13 : decode cX11_reader 13 = .ok (.iconst 2, 1) := by decide +kernel
theorem dX11_reader_14 : decode cX11_reader 14 = .ok (.invokestatic 100, 3) := by decide +kernel
theorem dX11_reader_17 : decode cX11_reader 17 = .ok (.ifCond .ne 5, 3) := by decide +kernel
theorem dX11_reader_20 : decode cX11_reader 20 = .ok (.iconst (-1), 1) := by decide +kernel
theorem dX11_reader_21 : decode cX11_reader 21 = .ok (.ireturn, 1) := by decide +kernel
theorem dX11_reader_22 : decode cX11_reader 22 = .ok (.aload_n 0, 1) := by decide +kernel
theorem dX11_reader_23 : decode cX11_reader 23 = .ok (.getfield 26, 3) := by decide +kernel
theorem dX11_reader_26 : decode cX11_reader 26 = .ok (.iload_n 1, 1) := by decide +kernel
theorem dX11_reader_27 : decode cX11_reader 27 = .ok (.iload_n 2, 1) := by decide +kernel
theorem dX11_reader_28 : decode cX11_reader 28 = .ok (.invokevirtual 126, 3) := by decide +kernel
theorem dX11_reader_31 : decode cX11_reader 31 = .ok (.istore_n 3, 1) := by decide +kernel
theorem dX11_reader_32 : decode cX11_reader 32 = .ok (.iload_n 3, 1) := by decide +kernel
theorem dX11_reader_33 : decode cX11_reader 33 = .ok (.iconst (-1), 1) := by decide +kernel
theorem dX11_reader_34 : decode cX11_reader 34 = .ok (.if_icmp .eq 18, 3) := by decide +kernel
theorem dX11_reader_37 : decode cX11_reader 37 = .ok (.aload_n 0, 1) := by decide +kernel
theorem dX11_reader_38 : decode cX11_reader 38 = .ok (.getfield 33, 3) := by decide +kernel
theorem dX11_reader_41 : decode cX11_reader 41 = .ok (.getfield 129, 3) := by decide +kernel
theorem dX11_reader_44 : decode cX11_reader 44 = .ok (.iload_n 1, 1) := by decide +kernel
theorem dX11_reader_45 : decode cX11_reader 45 = .ok (.dup2, 1) := by decide +kernel
theorem dX11_reader_46 : decode cX11_reader 46 = .ok (.iaload, 1) := by decide +kernel
theorem dX11_reader_47 : decode cX11_reader 47 = .ok (.iconst 1, 1) := by decide +kernel
theorem dX11_reader_48 : decode cX11_reader 48 = .ok (.iload_n 3, 1) := by decide +kernel
theorem dX11_reader_49 : decode cX11_reader 49 = .ok (.ishl, 1) := by decide +kernel
theorem dX11_reader_50 : decode cX11_reader 50 = .ok (.ior, 1) := by decide +kernel
theorem dX11_reader_51 : decode cX11_reader 51 = .ok (.iastore, 1) := by decide +kernel
theorem dX11_reader_52 : decode cX11_reader 52 = .ok (.iload_n 3, 1) := by decide +kernel
theorem dX11_reader_53 : decode cX11_reader 53 = .ok (.ireturn, 1) := by decide +kernel
theorem dX11_taste_0 : decode cX11_taste 0 = .ok (.aload_n 0, 1) := by decide +kernel
theorem dX11_taste_1 : decode cX11_taste 1 = .ok (.getfield 26, 3) := by decide +kernel
theorem dX11_taste_4 : decode cX11_taste 4 = .ok (.iload_n 1, 1) := by decide +kernel
theorem dX11_taste_5 : decode cX11_taste 5 = .ok (.invokevirtual 131, 3) := by decide +kernel
theorem dX11_taste_8 : decode cX11_taste 8 = .ok (.ifCond .eq 23, 3) := by decide +kernel
theorem dX11_taste_11 : decode cX11_taste 11 = .ok (.iload_n 2, 1) := by decide +kernel
theorem dX11_taste_12 : decode cX11_taste 12 = .ok (.iconst 0, 1) := by decide +kernel
theorem dX11_taste_13 : decode cX11_taste 13 = .ok (.bipush 7, 2) := by decide +kernel
theorem dX11_taste_15 : decode cX11_taste 15 = .ok (.invokestatic 100, 3) := by decide +kernel
theorem dX11_taste_18 : decode cX11_taste 18 = .ok (.ifCond .eq 13, 3) := by decide +kernel
theorem dX11_taste_21 : decode cX11_taste 21 = .ok (.iload_n 3, 1) := by decide +kernel
theorem dX11_taste_22 : decode cX11_taste 22 = .ok (.iconst 0, 1) := by decide +kernel
theorem dX11_taste_23 : decode cX11_taste 23 = .ok (.bipush 9, 2) := by decide +kernel
theorem dX11_taste_25 : decode cX11_taste 25 = .ok (.invokestatic 100, 3) := by decide +kernel
theorem dX11_taste_28 : decode cX11_taste 28 = .ok (.ifCond .ne 5, 3) := by decide +kernel
theorem dX11_taste_31 : decode cX11_taste 31 = .ok (.iconst 0, 1) := by decide +kernel
theorem dX11_taste_32 : decode cX11_taste 32 = .ok (.ireturn, 1) := by decide +kernel
theorem dX11_taste_33 : decode cX11_taste 33 = .ok (.aload_n 0, 1) := by decide +kernel
theorem dX11_taste_34 : decode cX11_taste 34 = .ok (.getfield 26, 3) := by decide +kernel
theorem dX11_taste_37 : decode cX11_taste 37 = .ok (.getfield 132, 3) := by decide +kernel
theorem dX11_taste_40 : decode cX11_taste 40 = .ok (.iload_n 1, 1) := by decide +kernel
theorem dX11_taste_41 : decode cX11_taste 41 = .ok (.bipush 8, 2) := by decide +kernel
theorem dX11_taste_43 : decode cX11_taste 43 = .ok (.imul, 1) := by decide +kernel
theorem dX11_taste_44 : decode cX11_taste 44 = .ok (.iload_n 2, 1) := by decide +kernel
theorem dX11_taste_45 : decode cX11_taste 45 = .ok (.iadd, 1) := by decide +kernel
theorem dX11_taste_46 : decode cX11_taste 46 = .ok (.iload_n 3, 1) := by decide +kernel
theorem dX11_taste_47 : decode cX11_taste 47 = .ok (.iastore, 1) := by decide +kernel
theorem dX11_taste_48 : decode cX11_taste 48 = .ok (.iconst 1, 1) := by decide +kernel
theorem dX11_taste_49 : decode cX11_taste 49 = .ok (.ireturn, 1) := by decide +kernel
theorem dX11_had_0 : decode cX11_had 0 = .ok (.aload_n 0, 1) := by decide +kernel
theorem dX11_had_1 : decode cX11_had 1 = .ok (.iload_n 1, 1) := by decide +kernel
theorem dX11_had_2 : decode cX11_had 2 = .ok (.iload_n 2, 1) := by decide +kernel
theorem dX11_had_3 : decode cX11_had 3 = .ok (.invokevirtual 135, 3) := by decide +kernel
theorem dX11_had_6 : decode cX11_had 6 = .ok (.ifCond .eq 15, 3) := by decide +kernel
theorem dX11_had_9 : decode cX11_had 9 = .ok (.aload_n 0, 1) := by decide +kernel
theorem dX11_had_10 : decode cX11_had 10 = .ok (.getfield 19, 3) := by decide +kernel
theorem dX11_had_13 : decode cX11_had 13 = .ok (.iload_n 2, 1) := by decide +kernel
theorem dX11_had_14 : decode cX11_had 14 = .ok (.iload_n 1, 1) := by decide +kernel
theorem dX11_had_15 : decode cX11_had 15 = .ok (.invokevirtual 139, 3) := by decide +kernel
theorem dX11_had_18 : decode cX11_had 18 = .ok (.ifCond .eq 5, 3) := by decide +kernel
theorem dX11_had_21 : decode cX11_had 21 = .ok (.iconst 0, 1) := by decide +kernel
theorem dX11_had_22 : decode cX11_had 22 = .ok (.ireturn, 1) := by decide +kernel
theorem dX11_had_23 : decode cX11_had 23 = .ok (.aload_n 0, 1) := by decide +kernel
theorem dX11_had_24 : decode cX11_had 24 = .ok (.iload_n 1, 1) := by decide +kernel
theorem dX11_had_25 : decode cX11_had 25 = .ok (.iload_n 2, 1) := by decide +kernel
theorem dX11_had_26 : decode cX11_had 26 = .ok (.invokevirtual 142, 3) := by decide +kernel
theorem dX11_had_29 : decode cX11_had 29 = .ok (.iconst 1, 1) := by decide +kernel
theorem dX11_had_30 : decode cX11_had 30 = .ok (.ireturn, 1) := by decide +kernel
theorem dX11_feed_0 : decode cX11_feed 0 = .ok (.aload_n 0, 1) := by decide +kernel
theorem dX11_feed_1 : decode cX11_feed 1 = .ok (.getfield 12, 3) := by decide +kernel
theorem dX11_feed_4 : decode cX11_feed 4 = .ok (.getfield 146, 3) := by decide +kernel
theorem dX11_feed_7 : decode cX11_feed 7 = .ok (.sipush 380, 3) := by decide +kernel
theorem dX11_feed_10 : decode cX11_feed 10 = .ok (.if_icmp .le 5, 3) := by decide +kernel
theorem dX11_feed_13 : decode cX11_feed 13 = .ok (.iconst (-1), 1) := by decide +kernel
theorem dX11_feed_14 : decode cX11_feed 14 = .ok (.ireturn, 1) := by decide +kernel
theorem dX11_feed_15 : decode cX11_feed 15 = .ok (.aload_n 0, 1) := by decide +kernel
theorem dX11_feed_16 : decode cX11_feed 16 = .ok (.getfield 12, 3) := by decide +kernel
theorem dX11_feed_19 : decode cX11_feed 19 = .ok (.iload_n 1, 1) := by decide +kernel
theorem dX11_feed_20 : decode cX11_feed 20 = .ok (.invokevirtual 149, 3) := by decide +kernel
theorem dX11_feed_23 : decode cX11_feed 23 = .ok (.aload_n 0, 1) := by decide +kernel
theorem dX11_feed_24 : decode cX11_feed 24 = .ok (.getfield 12, 3) := by decide +kernel
theorem dX11_feed_27 : decode cX11_feed 27 = .ok (.iload_n 2, 1) := by decide +kernel
theorem dX11_feed_28 : decode cX11_feed 28 = .ok (.invokevirtual 149, 3) := by decide +kernel
theorem dX11_feed_31 : decode cX11_feed 31 = .ok (.aload_n 0, 1) := by decide +kernel
theorem dX11_feed_32 : decode cX11_feed 32 = .ok (.getfield 12, 3) := by decide +kernel
theorem dX11_feed_35 : decode cX11_feed 35 = .ok (.iload_n 3, 1) := by decide +kernel
theorem dX11_feed_36 : decode cX11_feed 36 = .ok (.invokevirtual 149, 3) := by decide +kernel
theorem dX11_feed_39 : decode cX11_feed 39 = .ok (.aload_n 0, 1) := by decide +kernel
theorem dX11_feed_40 : decode cX11_feed 40 = .ok (.getfield 12, 3) := by decide +kernel
theorem dX11_feed_43 : decode cX11_feed 43 = .ok (.iload 4, 2) := by decide +kernel
theorem dX11_feed_45 : decode cX11_feed 45 = .ok (.invokevirtual 149, 3) := by decide +kernel
theorem dX11_feed_48 : decode cX11_feed 48 = .ok (.aload_n 0, 1) := by decide +kernel
theorem dX11_feed_49 : decode cX11_feed 49 = .ok (.getfield 12, 3) := by decide +kernel
theorem dX11_feed_52 : decode cX11_feed 52 = .ok (.iload 5, 2) := by decide +kernel
theorem dX11_feed_54 : decode cX11_feed 54 = .ok (.invokevirtual 149, 3) := by decide +kernel
theorem dX11_feed_57 : decode cX11_feed 57 = .ok (.aload_n 0, 1) := by decide +kernel
theorem dX11_feed_58 : decode cX11_feed 58 = .ok (.getfield 12, 3) := by decide +kernel
theorem dX11_feed_61 : decode cX11_feed 61 = .ok (.getfield 146, 3) := by decide +kernel
theorem dX11_feed_64 : decode cX11_feed 64 = .ok (.ireturn, 1) := by decide +kernel
theorem dX11_law_0 : decode cX11_law 0 = .ok (.iload_n 1, 1) := by decide +kernel
theorem dX11_law_1 : decode cX11_law 1 = .ok (.iconst 1, 1) := by decide +kernel
theorem dX11_law_2 : decode cX11_law 2 = .ok (.sipush 200, 3) := by decide +kernel
theorem dX11_law_5 : decode cX11_law 5 = .ok (.invokestatic 100, 3) := by decide +kernel
theorem dX11_law_8 : decode cX11_law 8 = .ok (.ifCond .eq 14, 3) := by decide +kernel
theorem dX11_law_11 : decode cX11_law 11 = .ok (.iload_n 1, 1) := by decide +kernel
theorem dX11_law_12 : decode cX11_law 12 = .ok (.aload_n 0, 1) := by decide +kernel
theorem dX11_law_13 : decode cX11_law 13 = .ok (.getfield 12, 3) := by decide +kernel
theorem dX11_law_16 : decode cX11_law 16 = .ok (.getfield 146, 3) := by decide +kernel
theorem dX11_law_19 : decode cX11_law 19 = .ok (.if_icmp .le 5, 3) := by decide +kernel
theorem dX11_law_22 : decode cX11_law 22 = .ok (.iconst (-1), 1) := by decide +kernel
theorem dX11_law_23 : decode cX11_law 23 = .ok (.ireturn, 1) := by decide +kernel
theorem dX11_law_24 : decode cX11_law 24 = .ok (.aload_n 0, 1) := by decide +kernel
theorem dX11_law_25 : decode cX11_law 25 = .ok (.getfield 92, 3) := by decide +kernel
theorem dX11_law_28 : decode cX11_law 28 = .ok (.invokevirtual 153, 3) := by decide +kernel
theorem dX11_law_31 : decode cX11_law 31 = .ok (.new 156, 3) := by decide +kernel
theorem dX11_law_34 : decode cX11_law 34 = .ok (.dup, 1) := by decide +kernel
theorem dX11_law_35 : decode cX11_law 35 = .ok (.aload_n 0, 1) := by decide +kernel
theorem dX11_law_36 : decode cX11_law 36 = .ok (.getfield 12, 3) := by decide +kernel
theorem dX11_law_39 : decode cX11_law 39 = .ok (.getfield 158, 3) := by decide +kernel
theorem dX11_law_42 : decode cX11_law 42 = .ok (.iload_n 1, 1) := by decide +kernel
theorem dX11_law_43 : decode cX11_law 43 = .ok (.aload_n 0, 1) := by decide +kernel
theorem dX11_law_44 : decode cX11_law 44 = .ok (.getfield 92, 3) := by decide +kernel
theorem dX11_law_47 : decode cX11_law 47 = .ok (.invokespecial 161, 3) := by decide +kernel
theorem dX11_law_50 : decode cX11_law 50 = .ok (.invokevirtual 164, 3) := by decide +kernel
theorem dX11_law_53 : decode cX11_law 53 = .ok (.istore_n 2, 1) := by decide +kernel
theorem dX11_law_54 : decode cX11_law 54 = .ok (.aload_n 0, 1) := by decide +kernel
theorem dX11_law_55 : decode cX11_law 55 = .ok (.getfield 12, 3) := by decide +kernel
theorem dX11_law_58 : decode cX11_law 58 = .ok (.invokevirtual 168, 3) := by decide +kernel
theorem dX11_law_61 : decode cX11_law 61 = .ok (.iload_n 2, 1) := by decide +kernel
theorem dX11_law_62 : decode cX11_law 62 = .ok (.ifCond .eq 6, 3) := by decide +kernel
theorem dX11_law_65 : decode cX11_law 65 = .ok (.iload_n 2, 1) := by decide +kernel
theorem dX11_law_66 : decode cX11_law 66 = .ok (.ineg, 1) := by decide +kernel
theorem dX11_law_67 : decode cX11_law 67 = .ok (.ireturn, 1) := by decide +kernel
theorem dX11_law_68 : decode cX11_law 68 = .ok (.aload_n 0, 1) := by decide +kernel
theorem dX11_law_69 : decode cX11_law 69 = .ok (.getfield 56, 3) := by decide +kernel
theorem dX11_law_72 : decode cX11_law 72 = .ok (.getfield 169, 3) := by decide +kernel
theorem dX11_law_75 : decode cX11_law 75 = .ok (.astore_n 3, 1) := by decide +kernel
theorem dX11_law_76 : decode cX11_law 76 = .ok (.aload_n 0, 1) := by decide +kernel
theorem dX11_law_77 : decode cX11_law 77 = .ok (.getfield 56, 3) := by decide +kernel
theorem dX11_law_80 : decode cX11_law 80 = .ok (.aload_n 0, 1) := by decide +kernel
theorem dX11_law_81 : decode cX11_law 81 = .ok (.getfield 92, 3) := by decide +kernel
theorem dX11_law_84 : decode cX11_law 84 = .ok (.putfield 169, 3) := by decide +kernel
theorem dX11_law_87 : decode cX11_law 87 = .ok (.aload_n 0, 1) := by decide +kernel
theorem dX11_law_88 : decode cX11_law 88 = .ok (.aload_n 3, 1) := by decide +kernel
theorem dX11_law_89 : decode cX11_law 89 = .ok (.putfield 92, 3) := by decide +kernel
theorem dX11_law_92 : decode cX11_law 92 = .ok (.aload_n 0, 1) := by decide +kernel
theorem dX11_law_93 : decode cX11_law 93 = .ok (.getfield 56, 3) := by decide +kernel
theorem dX11_law_96 : decode cX11_law 96 = .ok (.getfield 169, 3) := by decide +kernel
theorem dX11_law_99 : decode cX11_law 99 = .ok (.getfield 172, 3) := by decide +kernel
theorem dX11_law_102 : decode cX11_law 102 = .ok (.ireturn, 1) := by decide +kernel
theorem dX11_wants_0 : decode cX11_wants 0 = .ok (.aload_n 0, 1) := by decide +kernel
theorem dX11_wants_1 : decode cX11_wants 1 = .ok (.iload_n 1, 1) := by decide +kernel
theorem dX11_wants_2 : decode cX11_wants 2 = .ok (.iload_n 2, 1) := by decide +kernel
theorem dX11_wants_3 : decode cX11_wants 3 = .ok (.invokevirtual 135, 3) := by decide +kernel
theorem dX11_wants_6 : decode cX11_wants 6 = .ok (.ifCond .eq 20, 3) := by decide +kernel
theorem dX11_wants_9 : decode cX11_wants 9 = .ok (.aload_n 0, 1) := by decide +kernel
theorem dX11_wants_10 : decode cX11_wants 10 = .ok (.getfield 56, 3) := by decide +kernel
theorem dX11_wants_13 : decode cX11_wants 13 = .ok (.iload_n 1, 1) := by decide +kernel
theorem dX11_wants_14 : decode cX11_wants 14 = .ok (.iload_n 2, 1) := by decide +kernel
theorem dX11_wants_15 : decode cX11_wants 15 = .ok (.iload_n 3, 1) := by decide +kernel
theorem dX11_wants_16 : decode cX11_wants 16 = .ok (.aload_n 0, 1) := by decide +kernel
theorem dX11_wants_17 : decode cX11_wants 17 = .ok (.getfield 96, 3) := by decide +kernel
theorem dX11_wants_20 : decode cX11_wants 20 = .ok (.invokevirtual 175, 3) := by decide +kernel
theorem dX11_wants_23 : decode cX11_wants 23 = .ok (.goto 4, 3) := by decide +kernel
theorem dX11_wants_26 : decode cX11_wants 26 = .ok (.iconst (-1), 1) := by decide +kernel
theorem dX11_wants_27 : decode cX11_wants 27 = .ok (.ireturn, 1) := by decide +kernel
theorem dX11_visits_0 : decode cX11_visits 0 = .ok (.iload_n 1, 1) := by decide +kernel
theorem dX11_visits_1 : decode cX11_visits 1 = .ok (.invokestatic 108, 3) := by decide +kernel
theorem dX11_visits_4 : decode cX11_visits 4 = .ok (.ifCond .eq 21, 3) := by decide +kernel
theorem dX11_visits_7 : decode cX11_visits 7 = .ok (.aload_n 0, 1) := by decide +kernel
theorem dX11_visits_8 : decode cX11_visits 8 = .ok (.getfield 33, 3) := by decide +kernel
theorem dX11_visits_11 : decode cX11_visits 11 = .ok (.iload_n 2, 1) := by decide +kernel
theorem dX11_visits_12 : decode cX11_visits 12 = .ok (.invokevirtual 119, 3) := by decide +kernel
theorem dX11_visits_15 : decode cX11_visits 15 = .ok (.ifCond .eq 10, 3) := by decide +kernel
theorem dX11_visits_18 : decode cX11_visits 18 = .ok (.iload_n 3, 1) := by decide +kernel
theorem dX11_visits_19 : decode cX11_visits 19 = .ok (.invokestatic 179, 3) := by decide +kernel
theorem dX11_visits_22 : decode cX11_visits 22 = .ok (.ifCond .ne 5, 3) := by decide +kernel
theorem dX11_visits_25 : decode cX11_visits 25 = .ok (.iconst (-1), 1) := by decide +kernel
theorem dX11_visits_26 : decode cX11_visits 26 = .ok (.ireturn, 1) := by decide +kernel
theorem dX11_visits_27 : decode cX11_visits 27 = .ok (.aload_n 0, 1) := by decide +kernel
theorem dX11_visits_28 : decode cX11_visits 28 = .ok (.getfield 33, 3) := by decide +kernel
theorem dX11_visits_31 : decode cX11_visits 31 = .ok (.iload_n 1, 1) := by decide +kernel
theorem dX11_visits_32 : decode cX11_visits 32 = .ok (.iload_n 2, 1) := by decide +kernel
theorem dX11_visits_33 : decode cX11_visits 33 = .ok (.iload_n 3, 1) := by decide +kernel
theorem dX11_visits_34 : decode cX11_visits 34 = .ok (.invokevirtual 182, 3) := by decide +kernel
theorem dX11_visits_37 : decode cX11_visits 37 = .ok (.ifCond .eq 7, 3) := by decide +kernel
theorem dX11_visits_40 : decode cX11_visits 40 = .ok (.iconst 1, 1) := by decide +kernel
theorem dX11_visits_41 : decode cX11_visits 41 = .ok (.goto 4, 3) := by decide +kernel
theorem dX11_visits_44 : decode cX11_visits 44 = .ok (.iconst 0, 1) := by decide +kernel
theorem dX11_visits_45 : decode cX11_visits 45 = .ok (.ireturn, 1) := by decide +kernel
theorem dX11_move_0 : decode cX11_move 0 = .ok (.aload_n 0, 1) := by decide +kernel
theorem dX11_move_1 : decode cX11_move 1 = .ok (.getfield 19, 3) := by decide +kernel
theorem dX11_move_4 : decode cX11_move 4 = .ok (.iload_n 1, 1) := by decide +kernel
theorem dX11_move_5 : decode cX11_move 5 = .ok (.invokevirtual 185, 3) := by decide +kernel
theorem dX11_move_8 : decode cX11_move 8 = .ok (.ifCond .eq 25, 3) := by decide +kernel
theorem dX11_move_11 : decode cX11_move 11 = .ok (.iload_n 2, 1) := by decide +kernel
theorem dX11_move_12 : decode cX11_move 12 = .ok (.iconst (-1), 1) := by decide +kernel
theorem dX11_move_13 : decode cX11_move 13 = .ok (.if_icmp .eq 10, 3) := by decide +kernel
theorem dX11_move_16 : decode cX11_move 16 = .ok (.iload_n 2, 1) := by decide +kernel
theorem dX11_move_17 : decode cX11_move 17 = .ok (.invokestatic 108, 3) := by decide +kernel
theorem dX11_move_20 : decode cX11_move 20 = .ok (.ifCond .eq 13, 3) := by decide +kernel
theorem dX11_move_23 : decode cX11_move 23 = .ok (.aload_n 0, 1) := by decide +kernel
theorem dX11_move_24 : decode cX11_move 24 = .ok (.getfield 47, 3) := by decide +kernel
theorem dX11_move_27 : decode cX11_move 27 = .ok (.invokevirtual 186, 3) := by decide +kernel
theorem dX11_move_30 : decode cX11_move 30 = .ok (.ifCond .eq 5, 3) := by decide +kernel
theorem dX11_move_33 : decode cX11_move 33 = .ok (.iconst 0, 1) := by decide +kernel
theorem dX11_move_34 : decode cX11_move 34 = .ok (.ireturn, 1) := by decide +kernel
theorem dX11_move_35 : decode cX11_move 35 = .ok (.iload_n 2, 1) := by decide +kernel
theorem dX11_move_36 : decode cX11_move 36 = .ok (.iconst (-1), 1) := by decide +kernel
theorem dX11_move_37 : decode cX11_move 37 = .ok (.if_icmp .ne 7, 3) := by decide +kernel
theorem dX11_move_40 : decode cX11_move 40 = .ok (.iconst 0, 1) := by decide +kernel
theorem dX11_move_41 : decode cX11_move 41 = .ok (.goto 6, 3) := by decide +kernel
theorem dX11_move_44 : decode cX11_move 44 = .ok (.iconst 1, 1) := by decide +kernel
theorem dX11_move_45 : decode cX11_move 45 = .ok (.iload_n 2, 1) := by decide +kernel
theorem dX11_move_46 : decode cX11_move 46 = .ok (.iadd, 1) := by decide +kernel
theorem dX11_move_47 : decode cX11_move 47 = .ok (.istore_n 3, 1) := by decide +kernel
theorem dX11_move_48 : decode cX11_move 48 = .ok (.aload_n 0, 1) := by decide +kernel
theorem dX11_move_49 : decode cX11_move 49 = .ok (.getfield 19, 3) := by decide +kernel
theorem dX11_move_52 : decode cX11_move 52 = .ok (.getfield 190, 3) := by decide +kernel
theorem dX11_move_55 : decode cX11_move 55 = .ok (.iload_n 1, 1) := by decide +kernel
theorem dX11_move_56 : decode cX11_move 56 = .ok (.iaload, 1) := by decide +kernel
theorem dX11_move_57 : decode cX11_move 57 = .ok (.istore 4, 2) := by decide +kernel
theorem dX11_move_59 : decode cX11_move 59 = .ok (.iload 4, 2) := by decide +kernel
theorem dX11_move_61 : decode cX11_move 61 = .ok (.bipush 10, 2) := by decide +kernel
theorem dX11_move_63 : decode cX11_move 63 = .ok (.if_icmp .ge 23, 3) := by decide +kernel
theorem dX11_move_66 : decode cX11_move 66 = .ok (.iload 4, 2) := by decide +kernel
theorem dX11_move_68 : decode cX11_move 68 = .ok (.iload_n 3, 1) := by decide +kernel
theorem dX11_move_69 : decode cX11_move 69 = .ok (.if_icmp .eq 17, 3) := by decide +kernel
theorem dX11_move_72 : decode cX11_move 72 = .ok (.iload_n 2, 1) := by decide +kernel
theorem dX11_move_73 : decode cX11_move 73 = .ok (.iconst (-1), 1) := by decide +kernel
theorem dX11_move_74 : decode cX11_move 74 = .ok (.if_icmp .eq 14, 3) := by decide +kernel
theorem dX11_move_77 : decode cX11_move 77 = .ok (.aload_n 0, 1) := by decide +kernel
theorem dX11_move_78 : decode cX11_move 78 = .ok (.iload_n 1, 1) := by decide +kernel
theorem dX11_move_79 : decode cX11_move 79 = .ok (.iload_n 2, 1) := by decide +kernel
theorem dX11_move_80 : decode cX11_move 80 = .ok (.invokevirtual 193, 3) := by decide +kernel
theorem dX11_move_83 : decode cX11_move 83 = .ok (.ifCond .ne 5, 3) := by decide +kernel
theorem dX11_move_86 : decode cX11_move 86 = .ok (.iconst 0, 1) := by decide +kernel
theorem dX11_move_87 : decode cX11_move 87 = .ok (.ireturn, 1) := by decide +kernel
theorem dX11_move_88 : decode cX11_move 88 = .ok (.aload_n 0, 1) := by decide +kernel
theorem dX11_move_89 : decode cX11_move 89 = .ok (.iload_n 1, 1) := by decide +kernel
theorem dX11_move_90 : decode cX11_move 90 = .ok (.iload_n 3, 1) := by decide +kernel
theorem dX11_move_91 : decode cX11_move 91 = .ok (.invokevirtual 196, 3) := by decide +kernel
theorem dX11_move_94 : decode cX11_move 94 = .ok (.iconst 1, 1) := by decide +kernel
theorem dX11_move_95 : decode cX11_move 95 = .ok (.ireturn, 1) := by decide +kernel
theorem dX11_lend_0 : decode cX11_lend 0 = .ok (.aload_n 0, 1) := by decide +kernel
theorem dX11_lend_1 : decode cX11_lend 1 = .ok (.iload_n 2, 1) := by decide +kernel
theorem dX11_lend_2 : decode cX11_lend 2 = .ok (.iload_n 1, 1) := by decide +kernel
theorem dX11_lend_3 : decode cX11_lend 3 = .ok (.invokevirtual 135, 3) := by decide +kernel
theorem dX11_lend_6 : decode cX11_lend 6 = .ok (.ifCond .eq 13, 3) := by decide +kernel
theorem dX11_lend_9 : decode cX11_lend 9 = .ok (.aload_n 0, 1) := by decide +kernel
theorem dX11_lend_10 : decode cX11_lend 10 = .ok (.getfield 47, 3) := by decide +kernel
theorem dX11_lend_13 : decode cX11_lend 13 = .ok (.invokevirtual 186, 3) := by decide +kernel
theorem dX11_lend_16 : decode cX11_lend 16 = .ok (.ifCond .eq 5, 3) := by decide +kernel
theorem dX11_lend_19 : decode cX11_lend 19 = .ok (.iconst (-1), 1) := by decide +kernel
theorem dX11_lend_20 : decode cX11_lend 20 = .ok (.ireturn, 1) := by decide +kernel
theorem dX11_lend_21 : decode cX11_lend 21 = .ok (.aload_n 0, 1) := by decide +kernel
theorem dX11_lend_22 : decode cX11_lend 22 = .ok (.getfield 19, 3) := by decide +kernel
theorem dX11_lend_25 : decode cX11_lend 25 = .ok (.iload_n 1, 1) := by decide +kernel
theorem dX11_lend_26 : decode cX11_lend 26 = .ok (.invokevirtual 199, 3) := by decide +kernel
theorem dX11_lend_29 : decode cX11_lend 29 = .ok (.istore_n 3, 1) := by decide +kernel
theorem dX11_lend_30 : decode cX11_lend 30 = .ok (.iload_n 3, 1) := by decide +kernel
theorem dX11_lend_31 : decode cX11_lend 31 = .ok (.iconst (-1), 1) := by decide +kernel
theorem dX11_lend_32 : decode cX11_lend 32 = .ok (.if_icmp .eq 27, 3) := by decide +kernel
theorem dX11_lend_35 : decode cX11_lend 35 = .ok (.aload_n 0, 1) := by decide +kernel
theorem dX11_lend_36 : decode cX11_lend 36 = .ok (.getfield 33, 3) := by decide +kernel
theorem dX11_lend_39 : decode cX11_lend 39 = .ok (.iload_n 3, 1) := by decide +kernel
theorem dX11_lend_40 : decode cX11_lend 40 = .ok (.aload_n 0, 1) := by decide +kernel
theorem dX11_lend_41 : decode cX11_lend 41 = .ok (.getfield 26, 3) := by decide +kernel
theorem dX11_lend_44 : decode cX11_lend 44 = .ok (.getfield 202, 3) := by decide +kernel
theorem dX11_lend_47 : decode cX11_lend 47 = .ok (.iload_n 2, 1) := by decide +kernel
theorem dX11_lend_48 : decode cX11_lend 48 = .ok (.iaload, 1) := by decide +kernel
theorem dX11_lend_49 : decode cX11_lend 49 = .ok (.aload_n 0, 1) := by decide +kernel
theorem dX11_lend_50 : decode cX11_lend 50 = .ok (.getfield 96, 3) := by decide +kernel
theorem dX11_lend_53 : decode cX11_lend 53 = .ok (.invokevirtual 182, 3) := by decide +kernel
theorem dX11_lend_56 : decode cX11_lend 56 = .ok (.ifCond .ne 5, 3) := by decide +kernel
theorem dX11_lend_59 : decode cX11_lend 59 = .ok (.iconst (-1), 1) := by decide +kernel
theorem dX11_lend_60 : decode cX11_lend 60 = .ok (.ireturn, 1) := by decide +kernel
theorem dX11_lend_61 : decode cX11_lend 61 = .ok (.aload_n 0, 1) := by decide +kernel
theorem dX11_lend_62 : decode cX11_lend 62 = .ok (.getfield 96, 3) := by decide +kernel
theorem dX11_lend_65 : decode cX11_lend 65 = .ok (.aload_n 0, 1) := by decide +kernel
theorem dX11_lend_66 : decode cX11_lend 66 = .ok (.getfield 56, 3) := by decide +kernel
theorem dX11_lend_69 : decode cX11_lend 69 = .ok (.iload_n 2, 1) := by decide +kernel
theorem dX11_lend_70 : decode cX11_lend 70 = .ok (.iload_n 1, 1) := by decide +kernel
theorem dX11_lend_71 : decode cX11_lend 71 = .ok (.aload_n 0, 1) := by decide +kernel
theorem dX11_lend_72 : decode cX11_lend 72 = .ok (.getfield 96, 3) := by decide +kernel
theorem dX11_lend_75 : decode cX11_lend 75 = .ok (.invokevirtual 205, 3) := by decide +kernel
theorem dX11_lend_78 : decode cX11_lend 78 = .ok (.iadd, 1) := by decide +kernel
theorem dX11_lend_79 : decode cX11_lend 79 = .ok (.istore 4, 2) := by decide +kernel
theorem dX11_lend_81 : decode cX11_lend 81 = .ok (.aload_n 0, 1) := by decide +kernel
theorem dX11_lend_82 : decode cX11_lend 82 = .ok (.iload_n 1, 1) := by decide +kernel
theorem dX11_lend_83 : decode cX11_lend 83 = .ok (.bipush 10, 2) := by decide +kernel
theorem dX11_lend_85 : decode cX11_lend 85 = .ok (.iload_n 2, 1) := by decide +kernel
theorem dX11_lend_86 : decode cX11_lend 86 = .ok (.iadd, 1) := by decide +kernel
theorem dX11_lend_87 : decode cX11_lend 87 = .ok (.invokevirtual 196, 3) := by decide +kernel
theorem dX11_lend_90 : decode cX11_lend 90 = .ok (.aload_n 0, 1) := by decide +kernel
theorem dX11_lend_91 : decode cX11_lend 91 = .ok (.getfield 19, 3) := by decide +kernel
theorem dX11_lend_94 : decode cX11_lend 94 = .ok (.getfield 208, 3) := by decide +kernel
theorem dX11_lend_97 : decode cX11_lend 97 = .ok (.iload_n 1, 1) := by decide +kernel
theorem dX11_lend_98 : decode cX11_lend 98 = .ok (.iload 4, 2) := by decide +kernel
theorem dX11_lend_100 : decode cX11_lend 100 = .ok (.iastore, 1) := by decide +kernel
theorem dX11_lend_101 : decode cX11_lend 101 = .ok (.aload_n 0, 1) := by decide +kernel
theorem dX11_lend_102 : decode cX11_lend 102 = .ok (.getfield 19, 3) := by decide +kernel
theorem dX11_lend_105 : decode cX11_lend 105 = .ok (.getfield 211, 3) := by decide +kernel
theorem dX11_lend_108 : decode cX11_lend 108 = .ok (.iload_n 1, 1) := by decide +kernel
theorem dX11_lend_109 : decode cX11_lend 109 = .ok (.dup2, 1) := by decide +kernel
theorem dX11_lend_110 : decode cX11_lend 110 = .ok (.iaload, 1) := by decide +kernel
theorem dX11_lend_111 : decode cX11_lend 111 = .ok (.iconst 1, 1) := by decide +kernel
theorem dX11_lend_112 : decode cX11_lend 112 = .ok (.iadd, 1) := by decide +kernel
theorem dX11_lend_113 : decode cX11_lend 113 = .ok (.iastore, 1) := by decide +kernel
theorem dX11_lend_114 : decode cX11_lend 114 = .ok (.aload_n 0, 1) := by decide +kernel
theorem dX11_lend_115 : decode cX11_lend 115 = .ok (.getfield 26, 3) := by decide +kernel
theorem dX11_lend_118 : decode cX11_lend 118 = .ok (.getfield 214, 3) := by decide +kernel
theorem dX11_lend_121 : decode cX11_lend 121 = .ok (.iload_n 2, 1) := by decide +kernel
theorem dX11_lend_122 : decode cX11_lend 122 = .ok (.dup2, 1) := by decide +kernel
theorem dX11_lend_123 : decode cX11_lend 123 = .ok (.iaload, 1) := by decide +kernel
theorem dX11_lend_124 : decode cX11_lend 124 = .ok (.iconst 1, 1) := by decide +kernel
theorem dX11_lend_125 : decode cX11_lend 125 = .ok (.iadd, 1) := by decide +kernel
theorem dX11_lend_126 : decode cX11_lend 126 = .ok (.iastore, 1) := by decide +kernel
theorem dX11_lend_127 : decode cX11_lend 127 = .ok (.aload_n 0, 1) := by decide +kernel
theorem dX11_lend_128 : decode cX11_lend 128 = .ok (.getfield 26, 3) := by decide +kernel
theorem dX11_lend_131 : decode cX11_lend 131 = .ok (.getfield 215, 3) := by decide +kernel
theorem dX11_lend_134 : decode cX11_lend 134 = .ok (.iload_n 2, 1) := by decide +kernel
theorem dX11_lend_135 : decode cX11_lend 135 = .ok (.dup2, 1) := by decide +kernel
theorem dX11_lend_136 : decode cX11_lend 136 = .ok (.iaload, 1) := by decide +kernel
theorem dX11_lend_137 : decode cX11_lend 137 = .ok (.iconst 1, 1) := by decide +kernel
theorem dX11_lend_138 : decode cX11_lend 138 = .ok (.iadd, 1) := by decide +kernel
theorem dX11_lend_139 : decode cX11_lend 139 = .ok (.iastore, 1) := by decide +kernel
theorem dX11_lend_140 : decode cX11_lend 140 = .ok (.aload_n 0, 1) := by decide +kernel
theorem dX11_lend_141 : decode cX11_lend 141 = .ok (.getfield 86, 3) := by decide +kernel
theorem dX11_lend_144 : decode cX11_lend 144 = .ok (.iload_n 3, 1) := by decide +kernel
theorem dX11_lend_145 : decode cX11_lend 145 = .ok (.dup2, 1) := by decide +kernel
theorem dX11_lend_146 : decode cX11_lend 146 = .ok (.iaload, 1) := by decide +kernel
theorem dX11_lend_147 : decode cX11_lend 147 = .ok (.iconst 1, 1) := by decide +kernel
theorem dX11_lend_148 : decode cX11_lend 148 = .ok (.iadd, 1) := by decide +kernel
theorem dX11_lend_149 : decode cX11_lend 149 = .ok (.iastore, 1) := by decide +kernel
theorem dX11_lend_150 : decode cX11_lend 150 = .ok (.aload_n 0, 1) := by decide +kernel
theorem dX11_lend_151 : decode cX11_lend 151 = .ok (.iload_n 2, 1) := by decide +kernel
theorem dX11_lend_152 : decode cX11_lend 152 = .ok (.iload_n 1, 1) := by decide +kernel
theorem dX11_lend_153 : decode cX11_lend 153 = .ok (.invokevirtual 142, 3) := by decide +kernel
theorem dX11_lend_156 : decode cX11_lend 156 = .ok (.aload_n 0, 1) := by decide +kernel
theorem dX11_lend_157 : decode cX11_lend 157 = .ok (.getfield 40, 3) := by decide +kernel
theorem dX11_lend_160 : decode cX11_lend 160 = .ok (.iload_n 2, 1) := by decide +kernel
theorem dX11_lend_161 : decode cX11_lend 161 = .ok (.iload_n 1, 1) := by decide +kernel
theorem dX11_lend_162 : decode cX11_lend 162 = .ok (.invokevirtual 218, 3) := by decide +kernel
theorem dX11_lend_165 : decode cX11_lend 165 = .ok (.pop, 1) := by decide +kernel
theorem dX11_lend_166 : decode cX11_lend 166 = .ok (.iload 4, 2) := by decide +kernel
theorem dX11_lend_168 : decode cX11_lend 168 = .ok (.ireturn, 1) := by decide +kernel
theorem dX11_back_0 : decode cX11_back 0 = .ok (.aload_n 0, 1) := by decide +kernel
theorem dX11_back_1 : decode cX11_back 1 = .ok (.iload_n 3, 1) := by decide +kernel
theorem dX11_back_2 : decode cX11_back 2 = .ok (.iload_n 1, 1) := by decide +kernel
theorem dX11_back_3 : decode cX11_back 3 = .ok (.invokevirtual 135, 3) := by decide +kernel
theorem dX11_back_6 : decode cX11_back 6 = .ok (.ifCond .eq 20, 3) := by decide +kernel
theorem dX11_back_9 : decode cX11_back 9 = .ok (.iload_n 2, 1) := by decide +kernel
theorem dX11_back_10 : decode cX11_back 10 = .ok (.invokestatic 108, 3) := by decide +kernel
theorem dX11_back_13 : decode cX11_back 13 = .ok (.ifCond .eq 13, 3) := by decide +kernel
theorem dX11_back_16 : decode cX11_back 16 = .ok (.aload_n 0, 1) := by decide +kernel
theorem dX11_back_17 : decode cX11_back 17 = .ok (.getfield 47, 3) := by decide +kernel
theorem dX11_back_20 : decode cX11_back 20 = .ok (.invokevirtual 186, 3) := by decide +kernel
theorem dX11_back_23 : decode cX11_back 23 = .ok (.ifCond .eq 5, 3) := by decide +kernel
theorem dX11_back_26 : decode cX11_back 26 = .ok (.iconst (-1), 1) := by decide +kernel
theorem dX11_back_27 : decode cX11_back 27 = .ok (.ireturn, 1) := by decide +kernel
theorem dX11_back_28 : decode cX11_back 28 = .ok (.aload_n 0, 1) := by decide +kernel
theorem dX11_back_29 : decode cX11_back 29 = .ok (.getfield 19, 3) := by decide +kernel
theorem dX11_back_32 : decode cX11_back 32 = .ok (.iload_n 1, 1) := by decide +kernel
theorem dX11_back_33 : decode cX11_back 33 = .ok (.invokevirtual 221, 3) := by decide +kernel
theorem dX11_back_36 : decode cX11_back 36 = .ok (.istore 4, 2) := by decide +kernel
theorem dX11_back_38 : decode cX11_back 38 = .ok (.iload 4, 2) := by decide +kernel
theorem dX11_back_40 : decode cX11_back 40 = .ok (.iconst (-1), 1) := by decide +kernel
theorem dX11_back_41 : decode cX11_back 41 = .ok (.if_icmp .eq 36, 3) := by decide +kernel
theorem dX11_back_44 : decode cX11_back 44 = .ok (.aload_n 0, 1) := by decide +kernel
theorem dX11_back_45 : decode cX11_back 45 = .ok (.getfield 33, 3) := by decide +kernel
theorem dX11_back_48 : decode cX11_back 48 = .ok (.iload_n 2, 1) := by decide +kernel
theorem dX11_back_49 : decode cX11_back 49 = .ok (.aload_n 0, 1) := by decide +kernel
theorem dX11_back_50 : decode cX11_back 50 = .ok (.getfield 26, 3) := by decide +kernel
theorem dX11_back_53 : decode cX11_back 53 = .ok (.getfield 202, 3) := by decide +kernel
theorem dX11_back_56 : decode cX11_back 56 = .ok (.iload_n 3, 1) := by decide +kernel
theorem dX11_back_57 : decode cX11_back 57 = .ok (.iaload, 1) := by decide +kernel
theorem dX11_back_58 : decode cX11_back 58 = .ok (.aload_n 0, 1) := by decide +kernel
theorem dX11_back_59 : decode cX11_back 59 = .ok (.getfield 96, 3) := by decide +kernel
theorem dX11_back_62 : decode cX11_back 62 = .ok (.invokevirtual 182, 3) := by decide +kernel
theorem dX11_back_65 : decode cX11_back 65 = .ok (.ifCond .eq 12, 3) := by decide +kernel
theorem dX11_back_68 : decode cX11_back 68 = .ok (.aload_n 0, 1) := by decide +kernel
theorem dX11_back_69 : decode cX11_back 69 = .ok (.iload_n 1, 1) := by decide +kernel
theorem dX11_back_70 : decode cX11_back 70 = .ok (.iload_n 2, 1) := by decide +kernel
theorem dX11_back_71 : decode cX11_back 71 = .ok (.invokevirtual 193, 3) := by decide +kernel
theorem dX11_back_74 : decode cX11_back 74 = .ok (.ifCond .ne 5, 3) := by decide +kernel
theorem dX11_back_77 : decode cX11_back 77 = .ok (.iconst (-1), 1) := by decide +kernel
theorem dX11_back_78 : decode cX11_back 78 = .ok (.ireturn, 1) := by decide +kernel
theorem dX11_back_79 : decode cX11_back 79 = .ok (.aload_n 0, 1) := by decide +kernel
theorem dX11_back_80 : decode cX11_back 80 = .ok (.getfield 56, 3) := by decide +kernel
theorem dX11_back_83 : decode cX11_back 83 = .ok (.iload 4, 2) := by decide +kernel
theorem dX11_back_85 : decode cX11_back 85 = .ok (.iload_n 1, 1) := by decide +kernel
theorem dX11_back_86 : decode cX11_back 86 = .ok (.aload_n 0, 1) := by decide +kernel
theorem dX11_back_87 : decode cX11_back 87 = .ok (.getfield 96, 3) := by decide +kernel
theorem dX11_back_90 : decode cX11_back 90 = .ok (.invokevirtual 224, 3) := by decide +kernel
theorem dX11_back_93 : decode cX11_back 93 = .ok (.istore 5, 2) := by decide +kernel
theorem dX11_back_95 : decode cX11_back 95 = .ok (.iload 4, 2) := by decide +kernel
theorem dX11_back_97 : decode cX11_back 97 = .ok (.iload_n 3, 1) := by decide +kernel
theorem dX11_back_98 : decode cX11_back 98 = .ok (.if_icmp .eq 37, 3) := by decide +kernel
theorem dX11_back_101 : decode cX11_back 101 = .ok (.aload_n 0, 1) := by decide +kernel
theorem dX11_back_102 : decode cX11_back 102 = .ok (.getfield 19, 3) := by decide +kernel
theorem dX11_back_105 : decode cX11_back 105 = .ok (.getfield 227, 3) := by decide +kernel
theorem dX11_back_108 : decode cX11_back 108 = .ok (.iload_n 1, 1) := by decide +kernel
theorem dX11_back_109 : decode cX11_back 109 = .ok (.dup2, 1) := by decide +kernel
theorem dX11_back_110 : decode cX11_back 110 = .ok (.iaload, 1) := by decide +kernel
theorem dX11_back_111 : decode cX11_back 111 = .ok (.iconst 1, 1) := by decide +kernel
theorem dX11_back_112 : decode cX11_back 112 = .ok (.iadd, 1) := by decide +kernel
theorem dX11_back_113 : decode cX11_back 113 = .ok (.iastore, 1) := by decide +kernel
theorem dX11_back_114 : decode cX11_back 114 = .ok (.aload_n 0, 1) := by decide +kernel
theorem dX11_back_115 : decode cX11_back 115 = .ok (.getfield 33, 3) := by decide +kernel
theorem dX11_back_118 : decode cX11_back 118 = .ok (.getfield 230, 3) := by decide +kernel
theorem dX11_back_121 : decode cX11_back 121 = .ok (.aload_n 0, 1) := by decide +kernel
theorem dX11_back_122 : decode cX11_back 122 = .ok (.getfield 26, 3) := by decide +kernel
theorem dX11_back_125 : decode cX11_back 125 = .ok (.getfield 202, 3) := by decide +kernel
theorem dX11_back_128 : decode cX11_back 128 = .ok (.iload_n 3, 1) := by decide +kernel
theorem dX11_back_129 : decode cX11_back 129 = .ok (.iaload, 1) := by decide +kernel
theorem dX11_back_130 : decode cX11_back 130 = .ok (.dup2, 1) := by decide +kernel
theorem dX11_back_131 : decode cX11_back 131 = .ok (.iaload, 1) := by decide +kernel
theorem dX11_back_132 : decode cX11_back 132 = .ok (.iconst 1, 1) := by decide +kernel
theorem dX11_back_133 : decode cX11_back 133 = .ok (.iadd, 1) := by decide +kernel
theorem dX11_back_134 : decode cX11_back 134 = .ok (.iastore, 1) := by decide +kernel
theorem dX11_back_135 : decode cX11_back 135 = .ok (.aload_n 0, 1) := by decide +kernel
theorem dX11_back_136 : decode cX11_back 136 = .ok (.iload_n 1, 1) := by decide +kernel
theorem dX11_back_137 : decode cX11_back 137 = .ok (.iload 4, 2) := by decide +kernel
theorem dX11_back_139 : decode cX11_back 139 = .ok (.iload 5, 2) := by decide +kernel
theorem dX11_back_141 : decode cX11_back 141 = .ok (.iconst 1, 1) := by decide +kernel
theorem dX11_back_142 : decode cX11_back 142 = .ok (.iload_n 2, 1) := by decide +kernel
theorem dX11_back_143 : decode cX11_back 143 = .ok (.iadd, 1) := by decide +kernel
theorem dX11_back_144 : decode cX11_back 144 = .ok (.invokevirtual 231, 3) := by decide +kernel
theorem dX11_back_147 : decode cX11_back 147 = .ok (.iload 5, 2) := by decide +kernel
theorem dX11_back_149 : decode cX11_back 149 = .ok (.ireturn, 1) := by decide +kernel
theorem dX11_lost_0 : decode cX11_lost 0 = .ok (.aload_n 0, 1) := by decide +kernel
theorem dX11_lost_1 : decode cX11_lost 1 = .ok (.getfield 19, 3) := by decide +kernel
theorem dX11_lost_4 : decode cX11_lost 4 = .ok (.iload_n 1, 1) := by decide +kernel
theorem dX11_lost_5 : decode cX11_lost 5 = .ok (.invokevirtual 185, 3) := by decide +kernel
theorem dX11_lost_8 : decode cX11_lost 8 = .ok (.ifCond .eq 13, 3) := by decide +kernel
theorem dX11_lost_11 : decode cX11_lost 11 = .ok (.aload_n 0, 1) := by decide +kernel
theorem dX11_lost_12 : decode cX11_lost 12 = .ok (.getfield 47, 3) := by decide +kernel
theorem dX11_lost_15 : decode cX11_lost 15 = .ok (.invokevirtual 186, 3) := by decide +kernel
theorem dX11_lost_18 : decode cX11_lost 18 = .ok (.ifCond .eq 5, 3) := by decide +kernel
theorem dX11_lost_21 : decode cX11_lost 21 = .ok (.iconst (-1), 1) := by decide +kernel
theorem dX11_lost_22 : decode cX11_lost 22 = .ok (.ireturn, 1) := by decide +kernel
theorem dX11_lost_23 : decode cX11_lost 23 = .ok (.aload_n 0, 1) := by decide +kernel
theorem dX11_lost_24 : decode cX11_lost 24 = .ok (.getfield 19, 3) := by decide +kernel
theorem dX11_lost_27 : decode cX11_lost 27 = .ok (.iload_n 1, 1) := by decide +kernel
theorem dX11_lost_28 : decode cX11_lost 28 = .ok (.invokevirtual 221, 3) := by decide +kernel
theorem dX11_lost_31 : decode cX11_lost 31 = .ok (.istore_n 2, 1) := by decide +kernel
theorem dX11_lost_32 : decode cX11_lost 32 = .ok (.iload_n 2, 1) := by decide +kernel
theorem dX11_lost_33 : decode cX11_lost 33 = .ok (.iconst (-1), 1) := by decide +kernel
theorem dX11_lost_34 : decode cX11_lost 34 = .ok (.if_icmp .ne 5, 3) := by decide +kernel
theorem dX11_lost_37 : decode cX11_lost 37 = .ok (.iconst (-1), 1) := by decide +kernel
theorem dX11_lost_38 : decode cX11_lost 38 = .ok (.ireturn, 1) := by decide +kernel
theorem dX11_lost_39 : decode cX11_lost 39 = .ok (.aload_n 0, 1) := by decide +kernel
theorem dX11_lost_40 : decode cX11_lost 40 = .ok (.iload_n 1, 1) := by decide +kernel
theorem dX11_lost_41 : decode cX11_lost 41 = .ok (.iload_n 2, 1) := by decide +kernel
theorem dX11_lost_42 : decode cX11_lost 42 = .ok (.aload_n 0, 1) := by decide +kernel
theorem dX11_lost_43 : decode cX11_lost 43 = .ok (.getfield 19, 3) := by decide +kernel
theorem dX11_lost_46 : decode cX11_lost 46 = .ok (.getfield 235, 3) := by decide +kernel
theorem dX11_lost_49 : decode cX11_lost 49 = .ok (.iload_n 1, 1) := by decide +kernel
theorem dX11_lost_50 : decode cX11_lost 50 = .ok (.iaload, 1) := by decide +kernel
theorem dX11_lost_51 : decode cX11_lost 51 = .ok (.bipush 40, 2) := by decide +kernel
theorem dX11_lost_53 : decode cX11_lost 53 = .ok (.invokevirtual 231, 3) := by decide +kernel
theorem dX11_lost_56 : decode cX11_lost 56 = .ok (.aload_n 0, 1) := by decide +kernel
theorem dX11_lost_57 : decode cX11_lost 57 = .ok (.getfield 19, 3) := by decide +kernel
theorem dX11_lost_60 : decode cX11_lost 60 = .ok (.getfield 235, 3) := by decide +kernel
theorem dX11_lost_63 : decode cX11_lost 63 = .ok (.iload_n 1, 1) := by decide +kernel
theorem dX11_lost_64 : decode cX11_lost 64 = .ok (.iaload, 1) := by decide +kernel
theorem dX11_lost_65 : decode cX11_lost 65 = .ok (.ireturn, 1) := by decide +kernel
theorem dX11_bookIs_0 : decode cX11_bookIs 0 = .ok (.aload_n 0, 1) := by decide +kernel
theorem dX11_bookIs_1 : decode cX11_bookIs 1 = .ok (.getfield 19, 3) := by decide +kernel
theorem dX11_bookIs_4 : decode cX11_bookIs 4 = .ok (.iload_n 1, 1) := by decide +kernel
theorem dX11_bookIs_5 : decode cX11_bookIs 5 = .ok (.invokevirtual 185, 3) := by decide +kernel
theorem dX11_bookIs_8 : decode cX11_bookIs 8 = .ok (.ifCond .ne 5, 3) := by decide +kernel
theorem dX11_bookIs_11 : decode cX11_bookIs 11 = .ok (.iconst (-1), 1) := by decide +kernel
theorem dX11_bookIs_12 : decode cX11_bookIs 12 = .ok (.ireturn, 1) := by decide +kernel
theorem dX11_bookIs_13 : decode cX11_bookIs 13 = .ok (.iload_n 2, 1) := by decide +kernel
theorem dX11_bookIs_14 : decode cX11_bookIs 14 = .ok (.tableswitch 87 0 4 #[34, 44, 54, 64, 74], 34) := by decide +kernel
theorem dX11_bookIs_48 : decode cX11_bookIs 48 = .ok (.aload_n 0, 1) := by decide +kernel
theorem dX11_bookIs_49 : decode cX11_bookIs 49 = .ok (.getfield 19, 3) := by decide +kernel
theorem dX11_bookIs_52 : decode cX11_bookIs 52 = .ok (.getfield 190, 3) := by decide +kernel
theorem dX11_bookIs_55 : decode cX11_bookIs 55 = .ok (.iload_n 1, 1) := by decide +kernel
theorem dX11_bookIs_56 : decode cX11_bookIs 56 = .ok (.iaload, 1) := by decide +kernel
theorem dX11_bookIs_57 : decode cX11_bookIs 57 = .ok (.ireturn, 1) := by decide +kernel
theorem dX11_bookIs_58 : decode cX11_bookIs 58 = .ok (.aload_n 0, 1) := by decide +kernel
theorem dX11_bookIs_59 : decode cX11_bookIs 59 = .ok (.getfield 19, 3) := by decide +kernel
theorem dX11_bookIs_62 : decode cX11_bookIs 62 = .ok (.getfield 208, 3) := by decide +kernel
theorem dX11_bookIs_65 : decode cX11_bookIs 65 = .ok (.iload_n 1, 1) := by decide +kernel
theorem dX11_bookIs_66 : decode cX11_bookIs 66 = .ok (.iaload, 1) := by decide +kernel
theorem dX11_bookIs_67 : decode cX11_bookIs 67 = .ok (.ireturn, 1) := by decide +kernel
theorem dX11_bookIs_68 : decode cX11_bookIs 68 = .ok (.aload_n 0, 1) := by decide +kernel
theorem dX11_bookIs_69 : decode cX11_bookIs 69 = .ok (.getfield 19, 3) := by decide +kernel
theorem dX11_bookIs_72 : decode cX11_bookIs 72 = .ok (.getfield 211, 3) := by decide +kernel
theorem dX11_bookIs_75 : decode cX11_bookIs 75 = .ok (.iload_n 1, 1) := by decide +kernel
theorem dX11_bookIs_76 : decode cX11_bookIs 76 = .ok (.iaload, 1) := by decide +kernel
theorem dX11_bookIs_77 : decode cX11_bookIs 77 = .ok (.ireturn, 1) := by decide +kernel
theorem dX11_bookIs_78 : decode cX11_bookIs 78 = .ok (.aload_n 0, 1) := by decide +kernel
theorem dX11_bookIs_79 : decode cX11_bookIs 79 = .ok (.getfield 19, 3) := by decide +kernel
theorem dX11_bookIs_82 : decode cX11_bookIs 82 = .ok (.getfield 227, 3) := by decide +kernel
theorem dX11_bookIs_85 : decode cX11_bookIs 85 = .ok (.iload_n 1, 1) := by decide +kernel
theorem dX11_bookIs_86 : decode cX11_bookIs 86 = .ok (.iaload, 1) := by decide +kernel
theorem dX11_bookIs_87 : decode cX11_bookIs 87 = .ok (.ireturn, 1) := by decide +kernel
theorem dX11_bookIs_88 : decode cX11_bookIs 88 = .ok (.aload_n 0, 1) := by decide +kernel
theorem dX11_bookIs_89 : decode cX11_bookIs 89 = .ok (.getfield 19, 3) := by decide +kernel
theorem dX11_bookIs_92 : decode cX11_bookIs 92 = .ok (.getfield 238, 3) := by decide +kernel
theorem dX11_bookIs_95 : decode cX11_bookIs 95 = .ok (.iload_n 1, 1) := by decide +kernel
theorem dX11_bookIs_96 : decode cX11_bookIs 96 = .ok (.iaload, 1) := by decide +kernel
theorem dX11_bookIs_97 : decode cX11_bookIs 97 = .ok (.invokestatic 241, 3) := by decide +kernel
theorem dX11_bookIs_100 : decode cX11_bookIs 100 = .ok (.ireturn, 1) := by decide +kernel
theorem dX11_bookIs_101 : decode cX11_bookIs 101 = .ok (.iconst (-1), 1) := by decide +kernel
theorem dX11_bookIs_102 : decode cX11_bookIs 102 = .ok (.ireturn, 1) := by decide +kernel
theorem dX11_readerIs_0 : decode cX11_readerIs 0 = .ok (.aload_n 0, 1) := by decide +kernel
theorem dX11_readerIs_1 : decode cX11_readerIs 1 = .ok (.getfield 26, 3) := by decide +kernel
theorem dX11_readerIs_4 : decode cX11_readerIs 4 = .ok (.iload_n 1, 1) := by decide +kernel
theorem dX11_readerIs_5 : decode cX11_readerIs 5 = .ok (.invokevirtual 131, 3) := by decide +kernel
theorem dX11_readerIs_8 : decode cX11_readerIs 8 = .ok (.ifCond .ne 5, 3) := by decide +kernel
theorem dX11_readerIs_11 : decode cX11_readerIs 11 = .ok (.iconst (-1), 1) := by decide +kernel
theorem dX11_readerIs_12 : decode cX11_readerIs 12 = .ok (.ireturn, 1) := by decide +kernel
theorem dX11_readerIs_13 : decode cX11_readerIs 13 = .ok (.iload_n 2, 1) := by decide +kernel
theorem dX11_readerIs_14 : decode cX11_readerIs 14 = .ok (.tableswitch 86 0 4 #[34, 44, 54, 64, 77], 34) := by decide +kernel
theorem dX11_readerIs_48 : decode cX11_readerIs 48 = .ok (.aload_n 0, 1) := by decide +kernel
theorem dX11_readerIs_49 : decode cX11_readerIs 49 = .ok (.getfield 26, 3) := by decide +kernel
theorem dX11_readerIs_52 : decode cX11_readerIs 52 = .ok (.getfield 215, 3) := by decide +kernel
theorem dX11_readerIs_55 : decode cX11_readerIs 55 = .ok (.iload_n 1, 1) := by decide +kernel
theorem dX11_readerIs_56 : decode cX11_readerIs 56 = .ok (.iaload, 1) := by decide +kernel
theorem dX11_readerIs_57 : decode cX11_readerIs 57 = .ok (.ireturn, 1) := by decide +kernel
theorem dX11_readerIs_58 : decode cX11_readerIs 58 = .ok (.aload_n 0, 1) := by decide +kernel
theorem dX11_readerIs_59 : decode cX11_readerIs 59 = .ok (.getfield 26, 3) := by decide +kernel
theorem dX11_readerIs_62 : decode cX11_readerIs 62 = .ok (.getfield 214, 3) := by decide +kernel
theorem dX11_readerIs_65 : decode cX11_readerIs 65 = .ok (.iload_n 1, 1) := by decide +kernel
theorem dX11_readerIs_66 : decode cX11_readerIs 66 = .ok (.iaload, 1) := by decide +kernel
theorem dX11_readerIs_67 : decode cX11_readerIs 67 = .ok (.ireturn, 1) := by decide +kernel
theorem dX11_readerIs_68 : decode cX11_readerIs 68 = .ok (.aload_n 0, 1) := by decide +kernel
theorem dX11_readerIs_69 : decode cX11_readerIs 69 = .ok (.getfield 26, 3) := by decide +kernel
theorem dX11_readerIs_72 : decode cX11_readerIs 72 = .ok (.getfield 246, 3) := by decide +kernel
theorem dX11_readerIs_75 : decode cX11_readerIs 75 = .ok (.iload_n 1, 1) := by decide +kernel
theorem dX11_readerIs_76 : decode cX11_readerIs 76 = .ok (.iaload, 1) := by decide +kernel
theorem dX11_readerIs_77 : decode cX11_readerIs 77 = .ok (.ireturn, 1) := by decide +kernel
theorem dX11_readerIs_78 : decode cX11_readerIs 78 = .ok (.aload_n 0, 1) := by decide +kernel
theorem dX11_readerIs_79 : decode cX11_readerIs 79 = .ok (.getfield 26, 3) := by decide +kernel
theorem dX11_readerIs_82 : decode cX11_readerIs 82 = .ok (.getfield 249, 3) := by decide +kernel
theorem dX11_readerIs_85 : decode cX11_readerIs 85 = .ok (.iload_n 1, 1) := by decide +kernel
theorem dX11_readerIs_86 : decode cX11_readerIs 86 = .ok (.iaload, 1) := by decide +kernel
theorem dX11_readerIs_87 : decode cX11_readerIs 87 = .ok (.invokestatic 241, 3) := by decide +kernel
theorem dX11_readerIs_90 : decode cX11_readerIs 90 = .ok (.ireturn, 1) := by decide +kernel
theorem dX11_readerIs_91 : decode cX11_readerIs 91 = .ok (.aload_n 0, 1) := by decide +kernel
theorem dX11_readerIs_92 : decode cX11_readerIs 92 = .ok (.getfield 40, 3) := by decide +kernel
theorem dX11_readerIs_95 : decode cX11_readerIs 95 = .ok (.iload_n 1, 1) := by decide +kernel
theorem dX11_readerIs_96 : decode cX11_readerIs 96 = .ok (.invokevirtual 252, 3) := by decide +kernel
theorem dX11_readerIs_99 : decode cX11_readerIs 99 = .ok (.ireturn, 1) := by decide +kernel
theorem dX11_readerIs_100 : decode cX11_readerIs 100 = .ok (.iconst (-1), 1) := by decide +kernel
theorem dX11_readerIs_101 : decode cX11_readerIs 101 = .ok (.ireturn, 1) := by decide +kernel
theorem dX11_pays_0 : decode cX11_pays 0 = .ok (.aload_n 0, 1) := by decide +kernel
theorem dX11_pays_1 : decode cX11_pays 1 = .ok (.getfield 26, 3) := by decide +kernel
theorem dX11_pays_4 : decode cX11_pays 4 = .ok (.iload_n 1, 1) := by decide +kernel
theorem dX11_pays_5 : decode cX11_pays 5 = .ok (.invokevirtual 131, 3) := by decide +kernel
theorem dX11_pays_8 : decode cX11_pays 8 = .ok (.ifCond .eq 20, 3) := by decide +kernel
theorem dX11_pays_11 : decode cX11_pays 11 = .ok (.iload_n 2, 1) := by decide +kernel
theorem dX11_pays_12 : decode cX11_pays 12 = .ok (.iconst 1, 1) := by decide +kernel
theorem dX11_pays_13 : decode cX11_pays 13 = .ok (.aload_n 0, 1) := by decide +kernel
theorem dX11_pays_14 : decode cX11_pays 14 = .ok (.getfield 26, 3) := by decide +kernel
theorem dX11_pays_17 : decode cX11_pays 17 = .ok (.getfield 246, 3) := by decide +kernel
theorem dX11_pays_20 : decode cX11_pays 20 = .ok (.iload_n 1, 1) := by decide +kernel
theorem dX11_pays_21 : decode cX11_pays 21 = .ok (.iaload, 1) := by decide +kernel
theorem dX11_pays_22 : decode cX11_pays 22 = .ok (.invokestatic 100, 3) := by decide +kernel
theorem dX11_pays_25 : decode cX11_pays 25 = .ok (.ifCond .ne 5, 3) := by decide +kernel
theorem dX11_pays_28 : decode cX11_pays 28 = .ok (.iconst (-1), 1) := by decide +kernel
theorem dX11_pays_29 : decode cX11_pays 29 = .ok (.ireturn, 1) := by decide +kernel
theorem dX11_pays_30 : decode cX11_pays 30 = .ok (.aload_n 0, 1) := by decide +kernel
theorem dX11_pays_31 : decode cX11_pays 31 = .ok (.getfield 26, 3) := by decide +kernel
theorem dX11_pays_34 : decode cX11_pays 34 = .ok (.getfield 246, 3) := by decide +kernel
theorem dX11_pays_37 : decode cX11_pays 37 = .ok (.iload_n 1, 1) := by decide +kernel
theorem dX11_pays_38 : decode cX11_pays 38 = .ok (.dup2, 1) := by decide +kernel
theorem dX11_pays_39 : decode cX11_pays 39 = .ok (.iaload, 1) := by decide +kernel
theorem dX11_pays_40 : decode cX11_pays 40 = .ok (.iload_n 2, 1) := by decide +kernel
theorem dX11_pays_41 : decode cX11_pays 41 = .ok (.isub, 1) := by decide +kernel
theorem dX11_pays_42 : decode cX11_pays 42 = .ok (.iastore, 1) := by decide +kernel
theorem dX11_pays_43 : decode cX11_pays 43 = .ok (.aload_n 0, 1) := by decide +kernel
theorem dX11_pays_44 : decode cX11_pays 44 = .ok (.getfield 26, 3) := by decide +kernel
theorem dX11_pays_47 : decode cX11_pays 47 = .ok (.getfield 246, 3) := by decide +kernel
theorem dX11_pays_50 : decode cX11_pays 50 = .ok (.iload_n 1, 1) := by decide +kernel
theorem dX11_pays_51 : decode cX11_pays 51 = .ok (.iaload, 1) := by decide +kernel
theorem dX11_pays_52 : decode cX11_pays 52 = .ok (.ireturn, 1) := by decide +kernel
theorem dX11_ask_0 : decode cX11_ask 0 = .ok (.aload_n 0, 1) := by decide +kernel
theorem dX11_ask_1 : decode cX11_ask 1 = .ok (.iload_n 1, 1) := by decide +kernel
theorem dX11_ask_2 : decode cX11_ask 2 = .ok (.iload_n 2, 1) := by decide +kernel
theorem dX11_ask_3 : decode cX11_ask 3 = .ok (.invokevirtual 135, 3) := by decide +kernel
theorem dX11_ask_6 : decode cX11_ask 6 = .ok (.ifCond .eq 17, 3) := by decide +kernel
theorem dX11_ask_9 : decode cX11_ask 9 = .ok (.iload_n 3, 1) := by decide +kernel
theorem dX11_ask_10 : decode cX11_ask 10 = .ok (.aload_n 0, 1) := by decide +kernel
theorem dX11_ask_11 : decode cX11_ask 11 = .ok (.getfield 96, 3) := by decide +kernel
theorem dX11_ask_14 : decode cX11_ask 14 = .ok (.sipush 199, 3) := by decide +kernel
theorem dX11_ask_17 : decode cX11_ask 17 = .ok (.invokestatic 100, 3) := by decide +kernel
theorem dX11_ask_20 : decode cX11_ask 20 = .ok (.ifCond .ne 5, 3) := by decide +kernel
theorem dX11_ask_23 : decode cX11_ask 23 = .ok (.iconst 0, 1) := by decide +kernel
theorem dX11_ask_24 : decode cX11_ask 24 = .ok (.ireturn, 1) := by decide +kernel
theorem dX11_ask_25 : decode cX11_ask 25 = .ok (.aload_n 0, 1) := by decide +kernel
theorem dX11_ask_26 : decode cX11_ask 26 = .ok (.getfield 33, 3) := by decide +kernel
theorem dX11_ask_29 : decode cX11_ask 29 = .ok (.aload_n 0, 1) := by decide +kernel
theorem dX11_ask_30 : decode cX11_ask 30 = .ok (.getfield 26, 3) := by decide +kernel
theorem dX11_ask_33 : decode cX11_ask 33 = .ok (.getfield 202, 3) := by decide +kernel
theorem dX11_ask_36 : decode cX11_ask 36 = .ok (.iload_n 1, 1) := by decide +kernel
theorem dX11_ask_37 : decode cX11_ask 37 = .ok (.iaload, 1) := by decide +kernel
theorem dX11_ask_38 : decode cX11_ask 38 = .ok (.iload_n 3, 1) := by decide +kernel
theorem dX11_ask_39 : decode cX11_ask 39 = .ok (.invokevirtual 255, 3) := by decide +kernel
theorem dX11_ask_42 : decode cX11_ask 42 = .ok (.iconst (-1), 1) := by decide +kernel
theorem dX11_ask_43 : decode cX11_ask 43 = .ok (.if_icmp .eq 7, 3) := by decide +kernel
theorem dX11_ask_46 : decode cX11_ask 46 = .ok (.iconst 1, 1) := by decide +kernel
theorem dX11_ask_47 : decode cX11_ask 47 = .ok (.goto 4, 3) := by decide +kernel
theorem dX11_ask_50 : decode cX11_ask 50 = .ok (.iconst 0, 1) := by decide +kernel
theorem dX11_ask_51 : decode cX11_ask 51 = .ok (.istore 4, 2) := by decide +kernel
theorem dX11_ask_53 : decode cX11_ask 53 = .ok (.iload 4, 2) := by decide +kernel
theorem dX11_ask_55 : decode cX11_ask 55 = .ok (.ifCond .eq 28, 3) := by decide +kernel
theorem dX11_ask_58 : decode cX11_ask 58 = .ok (.aload_n 0, 1) := by decide +kernel
theorem dX11_ask_59 : decode cX11_ask 59 = .ok (.getfield 40, 3) := by decide +kernel
theorem dX11_ask_62 : decode cX11_ask 62 = .ok (.iload_n 1, 1) := by decide +kernel
theorem dX11_ask_63 : decode cX11_ask 63 = .ok (.iload_n 2, 1) := by decide +kernel
theorem dX11_ask_64 : decode cX11_ask 64 = .ok (.invokevirtual 258, 3) := by decide +kernel
theorem dX11_ask_67 : decode cX11_ask 67 = .ok (.iconst (-1), 1) := by decide +kernel
theorem dX11_ask_68 : decode cX11_ask 68 = .ok (.if_icmp .ne 15, 3) := by decide +kernel
theorem dX11_ask_71 : decode cX11_ask 71 = .ok (.aload_n 0, 1) := by decide +kernel
theorem dX11_ask_72 : decode cX11_ask 72 = .ok (.getfield 19, 3) := by decide +kernel
theorem dX11_ask_75 : decode cX11_ask 75 = .ok (.iload_n 2, 1) := by decide +kernel
theorem dX11_ask_76 : decode cX11_ask 76 = .ok (.invokevirtual 221, 3) := by decide +kernel
theorem dX11_ask_79 : decode cX11_ask 79 = .ok (.iload_n 1, 1) := by decide +kernel
theorem dX11_ask_80 : decode cX11_ask 80 = .ok (.if_icmp .ne 5, 3) := by decide +kernel
theorem dX11_ask_83 : decode cX11_ask 83 = .ok (.iconst 0, 1) := by decide +kernel
theorem dX11_ask_84 : decode cX11_ask 84 = .ok (.ireturn, 1) := by decide +kernel
theorem dX11_ask_85 : decode cX11_ask 85 = .ok (.aload_n 0, 1) := by decide +kernel
theorem dX11_ask_86 : decode cX11_ask 86 = .ok (.getfield 40, 3) := by decide +kernel
theorem dX11_ask_89 : decode cX11_ask 89 = .ok (.iload_n 1, 1) := by decide +kernel
theorem dX11_ask_90 : decode cX11_ask 90 = .ok (.iload_n 2, 1) := by decide +kernel
theorem dX11_ask_91 : decode cX11_ask 91 = .ok (.iload_n 3, 1) := by decide +kernel
theorem dX11_ask_92 : decode cX11_ask 92 = .ok (.invokevirtual 261, 3) := by decide +kernel
theorem dX11_ask_95 : decode cX11_ask 95 = .ok (.iconst 1, 1) := by decide +kernel
theorem dX11_ask_96 : decode cX11_ask 96 = .ok (.ireturn, 1) := by decide +kernel
theorem dX11_unask_0 : decode cX11_unask 0 = .ok (.aload_n 0, 1) := by decide +kernel
theorem dX11_unask_1 : decode cX11_unask 1 = .ok (.iload_n 1, 1) := by decide +kernel
theorem dX11_unask_2 : decode cX11_unask 2 = .ok (.iload_n 2, 1) := by decide +kernel
theorem dX11_unask_3 : decode cX11_unask 3 = .ok (.invokevirtual 135, 3) := by decide +kernel
theorem dX11_unask_6 : decode cX11_unask 6 = .ok (.ifCond .eq 19, 3) := by decide +kernel
theorem dX11_unask_9 : decode cX11_unask 9 = .ok (.aload_n 0, 1) := by decide +kernel
theorem dX11_unask_10 : decode cX11_unask 10 = .ok (.getfield 40, 3) := by decide +kernel
theorem dX11_unask_13 : decode cX11_unask 13 = .ok (.iload_n 1, 1) := by decide +kernel
theorem dX11_unask_14 : decode cX11_unask 14 = .ok (.iload_n 2, 1) := by decide +kernel
theorem dX11_unask_15 : decode cX11_unask 15 = .ok (.invokevirtual 218, 3) := by decide +kernel
theorem dX11_unask_18 : decode cX11_unask 18 = .ok (.ifCond .eq 7, 3) := by decide +kernel
theorem dX11_unask_21 : decode cX11_unask 21 = .ok (.iconst 1, 1) := by decide +kernel
theorem dX11_unask_22 : decode cX11_unask 22 = .ok (.goto 4, 3) := by decide +kernel
theorem dX11_unask_25 : decode cX11_unask 25 = .ok (.iconst 0, 1) := by decide +kernel
theorem dX11_unask_26 : decode cX11_unask 26 = .ok (.ireturn, 1) := by decide +kernel
theorem dX11_aboard_0 : decode cX11_aboard 0 = .ok (.iload_n 1, 1) := by decide +kernel
theorem dX11_aboard_1 : decode cX11_aboard 1 = .ok (.invokestatic 179, 3) := by decide +kernel
theorem dX11_aboard_4 : decode cX11_aboard 4 = .ok (.ifCond .eq 22, 3) := by decide +kernel
theorem dX11_aboard_7 : decode cX11_aboard 7 = .ok (.iload_n 2, 1) := by decide +kernel
theorem dX11_aboard_8 : decode cX11_aboard 8 = .ok (.invokestatic 108, 3) := by decide +kernel
theorem dX11_aboard_11 : decode cX11_aboard 11 = .ok (.ifCond .eq 15, 3) := by decide +kernel
theorem dX11_aboard_14 : decode cX11_aboard 14 = .ok (.aload_n 0, 1) := by decide +kernel
theorem dX11_aboard_15 : decode cX11_aboard 15 = .ok (.iload_n 1, 1) := by decide +kernel
theorem dX11_aboard_16 : decode cX11_aboard 16 = .ok (.iload_n 2, 1) := by decide +kernel
theorem dX11_aboard_17 : decode cX11_aboard 17 = .ok (.invokevirtual 263, 3) := by decide +kernel
theorem dX11_aboard_20 : decode cX11_aboard 20 = .ok (.invokestatic 266, 3) := by decide +kernel
theorem dX11_aboard_23 : decode cX11_aboard 23 = .ok (.goto 6, 3) := by decide +kernel
theorem dX11_aboard_26 : decode cX11_aboard 26 = .ok (.ldc2_w 270, 3) := by decide +kernel
theorem dX11_aboard_29 : decode cX11_aboard 29 = .ok (.lreturn, 1) := by decide +kernel
theorem dX11_promise_0 : decode cX11_promise 0 = .ok (.aload_n 0, 1) := by decide +kernel
theorem dX11_promise_1 : decode cX11_promise 1 = .ok (.iload_n 1, 1) := by decide +kernel
theorem dX11_promise_2 : decode cX11_promise 2 = .ok (.iload_n 2, 1) := by decide +kernel
theorem dX11_promise_3 : decode cX11_promise 3 = .ok (.invokevirtual 135, 3) := by decide +kernel
theorem dX11_promise_6 : decode cX11_promise 6 = .ok (.ifCond .eq 12, 3) := by decide +kernel
theorem dX11_promise_9 : decode cX11_promise 9 = .ok (.aload_n 0, 1) := by decide +kernel
theorem dX11_promise_10 : decode cX11_promise 10 = .ok (.iload_n 1, 1) := by decide +kernel
theorem dX11_promise_11 : decode cX11_promise 11 = .ok (.iload_n 2, 1) := by decide +kernel
theorem dX11_promise_12 : decode cX11_promise 12 = .ok (.invokevirtual 272, 3) := by decide +kernel
theorem dX11_promise_15 : decode cX11_promise 15 = .ok (.goto 4, 3) := by decide +kernel
theorem dX11_promise_18 : decode cX11_promise 18 = .ok (.iconst (-1), 1) := by decide +kernel
theorem dX11_promise_19 : decode cX11_promise 19 = .ok (.ireturn, 1) := by decide +kernel
theorem dX11_whyNot_0 : decode cX11_whyNot 0 = .ok (.aload_n 0, 1) := by decide +kernel
theorem dX11_whyNot_1 : decode cX11_whyNot 1 = .ok (.iload_n 1, 1) := by decide +kernel
theorem dX11_whyNot_2 : decode cX11_whyNot 2 = .ok (.iload_n 2, 1) := by decide +kernel
theorem dX11_whyNot_3 : decode cX11_whyNot 3 = .ok (.invokevirtual 135, 3) := by decide +kernel
theorem dX11_whyNot_6 : decode cX11_whyNot 6 = .ok (.ifCond .ne 5, 3) := by decide +kernel
theorem dX11_whyNot_9 : decode cX11_whyNot 9 = .ok (.iconst (-1), 1) := by decide +kernel
theorem dX11_whyNot_10 : decode cX11_whyNot 10 = .ok (.ireturn, 1) := by decide +kernel
theorem dX11_whyNot_11 : decode cX11_whyNot 11 = .ok (.aload_n 0, 1) := by decide +kernel
theorem dX11_whyNot_12 : decode cX11_whyNot 12 = .ok (.getfield 40, 3) := by decide +kernel
theorem dX11_whyNot_15 : decode cX11_whyNot 15 = .ok (.iload_n 1, 1) := by decide +kernel
theorem dX11_whyNot_16 : decode cX11_whyNot 16 = .ok (.iload_n 2, 1) := by decide +kernel
theorem dX11_whyNot_17 : decode cX11_whyNot 17 = .ok (.invokevirtual 258, 3) := by decide +kernel
theorem dX11_whyNot_20 : decode cX11_whyNot 20 = .ok (.istore_n 3, 1) := by decide +kernel
theorem dX11_whyNot_21 : decode cX11_whyNot 21 = .ok (.iload_n 3, 1) := by decide +kernel
theorem dX11_whyNot_22 : decode cX11_whyNot 22 = .ok (.iconst (-1), 1) := by decide +kernel
theorem dX11_whyNot_23 : decode cX11_whyNot 23 = .ok (.if_icmp .eq 11, 3) := by decide +kernel
theorem dX11_whyNot_26 : decode cX11_whyNot 26 = .ok (.iload_n 3, 1) := by decide +kernel
theorem dX11_whyNot_27 : decode cX11_whyNot 27 = .ok (.aload_n 0, 1) := by decide +kernel
theorem dX11_whyNot_28 : decode cX11_whyNot 28 = .ok (.getfield 96, 3) := by decide +kernel
theorem dX11_whyNot_31 : decode cX11_whyNot 31 = .ok (.if_icmp .ge 7, 3) := by decide +kernel
theorem dX11_whyNot_34 : decode cX11_whyNot 34 = .ok (.iconst (-1), 1) := by decide +kernel
theorem dX11_whyNot_35 : decode cX11_whyNot 35 = .ok (.goto 10, 3) := by decide +kernel
theorem dX11_whyNot_38 : decode cX11_whyNot 38 = .ok (.aload_n 0, 1) := by decide +kernel
theorem dX11_whyNot_39 : decode cX11_whyNot 39 = .ok (.iload_n 1, 1) := by decide +kernel
theorem dX11_whyNot_40 : decode cX11_whyNot 40 = .ok (.iload_n 2, 1) := by decide +kernel
theorem dX11_whyNot_41 : decode cX11_whyNot 41 = .ok (.iload_n 3, 1) := by decide +kernel
theorem dX11_whyNot_42 : decode cX11_whyNot 42 = .ok (.invokevirtual 275, 3) := by decide +kernel
theorem dX11_whyNot_45 : decode cX11_whyNot 45 = .ok (.ireturn, 1) := by decide +kernel
theorem dX11_ring_0 : decode cX11_ring 0 = .ok (.aload_n 0, 1) := by decide +kernel
theorem dX11_ring_1 : decode cX11_ring 1 = .ok (.getfield 40, 3) := by decide +kernel
theorem dX11_ring_4 : decode cX11_ring 4 = .ok (.aload_n 0, 1) := by decide +kernel
theorem dX11_ring_5 : decode cX11_ring 5 = .ok (.getfield 19, 3) := by decide +kernel
theorem dX11_ring_8 : decode cX11_ring 8 = .ok (.aload_n 0, 1) := by decide +kernel
theorem dX11_ring_9 : decode cX11_ring 9 = .ok (.getfield 26, 3) := by decide +kernel
theorem dX11_ring_12 : decode cX11_ring 12 = .ok (.getfield 278, 3) := by decide +kernel
theorem dX11_ring_15 : decode cX11_ring 15 = .ok (.invokevirtual 279, 3) := by decide +kernel
theorem dX11_ring_18 : decode cX11_ring 18 = .ok (.iload_n 1, 1) := by decide +kernel
theorem dX11_ring_19 : decode cX11_ring 19 = .ok (.iconst (-1), 1) := by decide +kernel
theorem dX11_ring_20 : decode cX11_ring 20 = .ok (.if_icmp .ne 11, 3) := by decide +kernel
theorem dX11_ring_23 : decode cX11_ring 23 = .ok (.aload_n 0, 1) := by decide +kernel
theorem dX11_ring_24 : decode cX11_ring 24 = .ok (.getfield 40, 3) := by decide +kernel
theorem dX11_ring_27 : decode cX11_ring 27 = .ok (.getfield 283, 3) := by decide +kernel
theorem dX11_ring_30 : decode cX11_ring 30 = .ok (.ireturn, 1) := by decide +kernel
theorem dX11_ring_31 : decode cX11_ring 31 = .ok (.iload_n 1, 1) := by decide +kernel
theorem dX11_ring_32 : decode cX11_ring 32 = .ok (.iconst 0, 1) := by decide +kernel
theorem dX11_ring_33 : decode cX11_ring 33 = .ok (.aload_n 0, 1) := by decide +kernel
theorem dX11_ring_34 : decode cX11_ring 34 = .ok (.getfield 40, 3) := by decide +kernel
theorem dX11_ring_37 : decode cX11_ring 37 = .ok (.getfield 283, 3) := by decide +kernel
theorem dX11_ring_40 : decode cX11_ring 40 = .ok (.iconst 1, 1) := by decide +kernel
theorem dX11_ring_41 : decode cX11_ring 41 = .ok (.isub, 1) := by decide +kernel
theorem dX11_ring_42 : decode cX11_ring 42 = .ok (.invokestatic 100, 3) := by decide +kernel
theorem dX11_ring_45 : decode cX11_ring 45 = .ok (.ifCond .eq 15, 3) := by decide +kernel
theorem dX11_ring_48 : decode cX11_ring 48 = .ok (.aload_n 0, 1) := by decide +kernel
theorem dX11_ring_49 : decode cX11_ring 49 = .ok (.getfield 40, 3) := by decide +kernel
theorem dX11_ring_52 : decode cX11_ring 52 = .ok (.getfield 286, 3) := by decide +kernel
theorem dX11_ring_55 : decode cX11_ring 55 = .ok (.iload_n 1, 1) := by decide +kernel
theorem dX11_ring_56 : decode cX11_ring 56 = .ok (.iaload, 1) := by decide +kernel
theorem dX11_ring_57 : decode cX11_ring 57 = .ok (.goto 4, 3) := by decide +kernel
theorem dX11_ring_60 : decode cX11_ring 60 = .ok (.iconst (-1), 1) := by decide +kernel
theorem dX11_ring_61 : decode cX11_ring 61 = .ok (.ireturn, 1) := by decide +kernel
theorem dX11_load_0 : decode cX11_load 0 = .ok (.iload_n 1, 1) := by decide +kernel
theorem dX11_load_1 : decode cX11_load 1 = .ok (.invokestatic 108, 3) := by decide +kernel
theorem dX11_load_4 : decode cX11_load 4 = .ok (.ifCond .eq 31, 3) := by decide +kernel
theorem dX11_load_7 : decode cX11_load 7 = .ok (.iload_n 2, 1) := by decide +kernel
theorem dX11_load_8 : decode cX11_load 8 = .ok (.invokestatic 289, 3) := by decide +kernel
theorem dX11_load_11 : decode cX11_load 11 = .ok (.ifCond .eq 24, 3) := by decide +kernel
theorem dX11_load_14 : decode cX11_load 14 = .ok (.iload_n 3, 1) := by decide +kernel
theorem dX11_load_15 : decode cX11_load 15 = .ok (.iconst 0, 1) := by decide +kernel
theorem dX11_load_16 : decode cX11_load 16 = .ok (.sipush 255, 3) := by decide +kernel
theorem dX11_load_19 : decode cX11_load 19 = .ok (.invokestatic 100, 3) := by decide +kernel
theorem dX11_load_22 : decode cX11_load 22 = .ok (.ifCond .eq 13, 3) := by decide +kernel
theorem dX11_load_25 : decode cX11_load 25 = .ok (.iload 4, 2) := by decide +kernel
theorem dX11_load_27 : decode cX11_load 27 = .ok (.iconst 0, 1) := by decide +kernel
theorem dX11_load_28 : decode cX11_load 28 = .ok (.iconst 2, 1) := by decide +kernel
theorem dX11_load_29 : decode cX11_load 29 = .ok (.invokestatic 100, 3) := by decide +kernel
theorem dX11_load_32 : decode cX11_load 32 = .ok (.ifCond .ne 7, 3) := by decide +kernel
theorem dX11_load_35 : decode cX11_load 35 = .ok (.ldc2_w 270, 3) := by decide +kernel
theorem dX11_load_38 : decode cX11_load 38 = .ok (.lreturn, 1) := by decide +kernel
theorem dX11_load_39 : decode cX11_load 39 = .ok (.aload_n 0, 1) := by decide +kernel
theorem dX11_load_40 : decode cX11_load 40 = .ok (.iload_n 1, 1) := by decide +kernel
theorem dX11_load_41 : decode cX11_load 41 = .ok (.iload_n 2, 1) := by decide +kernel
theorem dX11_load_42 : decode cX11_load 42 = .ok (.invokevirtual 292, 3) := by decide +kernel
theorem dX11_load_45 : decode cX11_load 45 = .ok (.aload_n 0, 1) := by decide +kernel
theorem dX11_load_46 : decode cX11_load 46 = .ok (.getfield 72, 3) := by decide +kernel
theorem dX11_load_49 : decode cX11_load 49 = .ok (.aload_n 0, 1) := by decide +kernel
theorem dX11_load_50 : decode cX11_load 50 = .ok (.getfield 76, 3) := by decide +kernel
theorem dX11_load_53 : decode cX11_load 53 = .ok (.iload_n 1, 1) := by decide +kernel
theorem dX11_load_54 : decode cX11_load 54 = .ok (.iaload, 1) := by decide +kernel
theorem dX11_load_55 : decode cX11_load 55 = .ok (.iload_n 3, 1) := by decide +kernel
theorem dX11_load_56 : decode cX11_load 56 = .ok (.invokevirtual 295, 3) := by decide +kernel
theorem dX11_load_59 : decode cX11_load 59 = .ok (.ifCond .ne 7, 3) := by decide +kernel
theorem dX11_load_62 : decode cX11_load 62 = .ok (.ldc2_w 298, 3) := by decide +kernel
theorem dX11_load_65 : decode cX11_load 65 = .ok (.lreturn, 1) := by decide +kernel
theorem dX11_load_66 : decode cX11_load 66 = .ok (.iload 4, 2) := by decide +kernel
theorem dX11_load_68 : decode cX11_load 68 = .ok (.lookupswitch 48 #[(0, 28), (1, 39)], 28) := by decide +kernel
theorem dX11_load_96 : decode cX11_load 96 = .ok (.aload_n 0, 1) := by decide +kernel
theorem dX11_load_97 : decode cX11_load 97 = .ok (.getfield 72, 3) := by decide +kernel
theorem dX11_load_100 : decode cX11_load 100 = .ok (.invokevirtual 300, 3) := by decide +kernel
theorem dX11_load_103 : decode cX11_load 103 = .ok (.invokestatic 266, 3) := by decide +kernel
theorem dX11_load_106 : decode cX11_load 106 = .ok (.lreturn, 1) := by decide +kernel
theorem dX11_load_107 : decode cX11_load 107 = .ok (.aload_n 0, 1) := by decide +kernel
theorem dX11_load_108 : decode cX11_load 108 = .ok (.getfield 72, 3) := by decide +kernel
theorem dX11_load_111 : decode cX11_load 111 = .ok (.getfield 303, 3) := by decide +kernel
theorem dX11_load_114 : decode cX11_load 114 = .ok (.i2l, 1) := by decide +kernel
theorem dX11_load_115 : decode cX11_load 115 = .ok (.lreturn, 1) := by decide +kernel
theorem dX11_load_116 : decode cX11_load 116 = .ok (.aload_n 0, 1) := by decide +kernel
theorem dX11_load_117 : decode cX11_load 117 = .ok (.getfield 72, 3) := by decide +kernel
theorem dX11_load_120 : decode cX11_load 120 = .ok (.getfield 306, 3) := by decide +kernel
theorem dX11_load_123 : decode cX11_load 123 = .ok (.i2l, 1) := by decide +kernel
theorem dX11_load_124 : decode cX11_load 124 = .ok (.lreturn, 1) := by decide +kernel
theorem dX11_served_0 : decode cX11_served 0 = .ok (.iload_n 1, 1) := by decide +kernel
theorem dX11_served_1 : decode cX11_served 1 = .ok (.invokestatic 108, 3) := by decide +kernel
theorem dX11_served_4 : decode cX11_served 4 = .ok (.ifCond .eq 25, 3) := by decide +kernel
theorem dX11_served_7 : decode cX11_served 7 = .ok (.iload 4, 2) := by decide +kernel
theorem dX11_served_9 : decode cX11_served 9 = .ok (.invokestatic 289, 3) := by decide +kernel
theorem dX11_served_12 : decode cX11_served 12 = .ok (.ifCond .eq 17, 3) := by decide +kernel
theorem dX11_served_15 : decode cX11_served 15 = .ok (.lload_n 2, 1) := by decide +kernel
theorem dX11_served_16 : decode cX11_served 16 = .ok (.lconst 0, 1) := by decide +kernel
theorem dX11_served_17 : decode cX11_served 17 = .ok (.lcmp, 1) := by decide +kernel
theorem dX11_served_18 : decode cX11_served 18 = .ok (.ifCond .lt 11, 3) := by decide +kernel
theorem dX11_served_21 : decode cX11_served 21 = .ok (.lload_n 2, 1) := by decide +kernel
theorem dX11_served_22 : decode cX11_served 22 = .ok (.ldc2_w 309, 3) := by decide +kernel
theorem dX11_served_25 : decode cX11_served 25 = .ok (.lcmp, 1) := by decide +kernel
theorem dX11_served_26 : decode cX11_served 26 = .ok (.ifCond .le 5, 3) := by decide +kernel
theorem dX11_served_29 : decode cX11_served 29 = .ok (.iconst (-1), 1) := by decide +kernel
theorem dX11_served_30 : decode cX11_served 30 = .ok (.ireturn, 1) := by decide +kernel
theorem dX11_served_31 : decode cX11_served 31 = .ok (.lload_n 2, 1) := by decide +kernel
theorem dX11_served_32 : decode cX11_served 32 = .ok (.l2i, 1) := by decide +kernel
theorem dX11_served_33 : decode cX11_served 33 = .ok (.istore 5, 2) := by decide +kernel
theorem dX11_served_35 : decode cX11_served 35 = .ok (.iload 5, 2) := by decide +kernel
theorem dX11_served_37 : decode cX11_served 37 = .ok (.aload_n 0, 1) := by decide +kernel
theorem dX11_served_38 : decode cX11_served 38 = .ok (.getfield 19, 3) := by decide +kernel
theorem dX11_served_41 : decode cX11_served 41 = .ok (.invokevirtual 311, 3) := by decide +kernel
theorem dX11_served_44 : decode cX11_served 44 = .ok (.iconst (-1), 1) := by decide +kernel
theorem dX11_served_45 : decode cX11_served 45 = .ok (.ixor, 1) := by decide +kernel
theorem dX11_served_46 : decode cX11_served 46 = .ok (.iand, 1) := by decide +kernel
theorem dX11_served_47 : decode cX11_served 47 = .ok (.ifCond .eq 5, 3) := by decide +kernel
theorem dX11_served_50 : decode cX11_served 50 = .ok (.iconst (-1), 1) := by decide +kernel
theorem dX11_served_51 : decode cX11_served 51 = .ok (.ireturn, 1) := by decide +kernel
theorem dX11_served_52 : decode cX11_served 52 = .ok (.aload_n 0, 1) := by decide +kernel
theorem dX11_served_53 : decode cX11_served 53 = .ok (.iload_n 1, 1) := by decide +kernel
theorem dX11_served_54 : decode cX11_served 54 = .ok (.invokevirtual 314, 3) := by decide +kernel
theorem dX11_served_57 : decode cX11_served 57 = .ok (.istore 6, 2) := by decide +kernel
theorem dX11_served_59 : decode cX11_served 59 = .ok (.iconst 0, 1) := by decide +kernel
theorem dX11_served_60 : decode cX11_served 60 = .ok (.istore 7, 2) := by decide +kernel
theorem dX11_served_62 : decode cX11_served 62 = .ok (.iload 7, 2) := by decide +kernel
theorem dX11_served_64 : decode cX11_served 64 = .ok (.bipush 16, 2) := by decide +kernel
theorem dX11_served_66 : decode cX11_served 66 = .ok (.if_icmp .ge 43, 3) := by decide +kernel
theorem dX11_served_69 : decode cX11_served 69 = .ok (.aload_n 0, 1) := by decide +kernel
theorem dX11_served_70 : decode cX11_served 70 = .ok (.getfield 72, 3) := by decide +kernel
theorem dX11_served_73 : decode cX11_served 73 = .ok (.getfield 317, 3) := by decide +kernel
theorem dX11_served_76 : decode cX11_served 76 = .ok (.iload 7, 2) := by decide +kernel
theorem dX11_served_78 : decode cX11_served 78 = .ok (.iload 6, 2) := by decide +kernel
theorem dX11_served_80 : decode cX11_served 80 = .ok (.iload 7, 2) := by decide +kernel
theorem dX11_served_82 : decode cX11_served 82 = .ok (.invokestatic 320, 3) := by decide +kernel
theorem dX11_served_85 : decode cX11_served 85 = .ok (.ifCond .eq 16, 3) := by decide +kernel
theorem dX11_served_88 : decode cX11_served 88 = .ok (.aload_n 0, 1) := by decide +kernel
theorem dX11_served_89 : decode cX11_served 89 = .ok (.iload 7, 2) := by decide +kernel
theorem dX11_served_91 : decode cX11_served 91 = .ok (.iload 5, 2) := by decide +kernel
theorem dX11_served_93 : decode cX11_served 93 = .ok (.iload 4, 2) := by decide +kernel
theorem dX11_served_95 : decode cX11_served 95 = .ok (.invokevirtual 323, 3) := by decide +kernel
theorem dX11_served_98 : decode cX11_served 98 = .ok (.goto 4, 3) := by decide +kernel
theorem dX11_served_101 : decode cX11_served 101 = .ok (.iconst 0, 1) := by decide +kernel
theorem dX11_served_102 : decode cX11_served 102 = .ok (.iastore, 1) := by decide +kernel
theorem dX11_served_103 : decode cX11_served 103 = .ok (.iinc 7 1, 3) := by decide +kernel
theorem dX11_served_106 : decode cX11_served 106 = .ok (.goto (-44), 3) := by decide +kernel
theorem dX11_served_109 : decode cX11_served 109 = .ok (.aload_n 0, 1) := by decide +kernel
theorem dX11_served_110 : decode cX11_served 110 = .ok (.getfield 72, 3) := by decide +kernel
theorem dX11_served_113 : decode cX11_served 113 = .ok (.invokevirtual 326, 3) := by decide +kernel
theorem dX11_served_116 : decode cX11_served 116 = .ok (.ireturn, 1) := by decide +kernel
theorem dX11_least_0 : decode cX11_least 0 = .ok (.iconst (-1), 1) := by decide +kernel
theorem dX11_least_1 : decode cX11_least 1 = .ok (.istore_n 2, 1) := by decide +kernel
theorem dX11_least_2 : decode cX11_least 2 = .ok (.iconst 0, 1) := by decide +kernel
theorem dX11_least_3 : decode cX11_least 3 = .ok (.istore_n 3, 1) := by decide +kernel
theorem dX11_least_4 : decode cX11_least 4 = .ok (.iconst 0, 1) := by decide +kernel
theorem dX11_least_5 : decode cX11_least 5 = .ok (.istore 4, 2) := by decide +kernel
theorem dX11_least_7 : decode cX11_least 7 = .ok (.iload 4, 2) := by decide +kernel
theorem dX11_least_9 : decode cX11_least 9 = .ok (.aload_n 0, 1) := by decide +kernel
theorem dX11_least_10 : decode cX11_least 10 = .ok (.getfield 26, 3) := by decide +kernel
theorem dX11_least_13 : decode cX11_least 13 = .ok (.getfield 278, 3) := by decide +kernel
theorem dX11_least_16 : decode cX11_least 16 = .ok (.if_icmp .ge 75, 3) := by decide +kernel
theorem dX11_least_19 : decode cX11_least 19 = .ok (.aload_n 0, 1) := by decide +kernel
theorem dX11_least_20 : decode cX11_least 20 = .ok (.getfield 33, 3) := by decide +kernel
theorem dX11_least_23 : decode cX11_least 23 = .ok (.aload_n 0, 1) := by decide +kernel
theorem dX11_least_24 : decode cX11_least 24 = .ok (.getfield 26, 3) := by decide +kernel
theorem dX11_least_27 : decode cX11_least 27 = .ok (.getfield 202, 3) := by decide +kernel
theorem dX11_least_30 : decode cX11_least 30 = .ok (.iload 4, 2) := by decide +kernel
theorem dX11_least_32 : decode cX11_least 32 = .ok (.iaload, 1) := by decide +kernel
theorem dX11_least_33 : decode cX11_least 33 = .ok (.aload_n 0, 1) := by decide +kernel
theorem dX11_least_34 : decode cX11_least 34 = .ok (.getfield 96, 3) := by decide +kernel
theorem dX11_least_37 : decode cX11_least 37 = .ok (.invokevirtual 329, 3) := by decide +kernel
theorem dX11_least_40 : decode cX11_least 40 = .ok (.istore 5, 2) := by decide +kernel
theorem dX11_least_42 : decode cX11_least 42 = .ok (.iload 5, 2) := by decide +kernel
theorem dX11_least_44 : decode cX11_least 44 = .ok (.ifCond .le 41, 3) := by decide +kernel
theorem dX11_least_47 : decode cX11_least 47 = .ok (.iload_n 2, 1) := by decide +kernel
theorem dX11_least_48 : decode cX11_least 48 = .ok (.iconst (-1), 1) := by decide +kernel
theorem dX11_least_49 : decode cX11_least 49 = .ok (.if_icmp .eq 30, 3) := by decide +kernel
theorem dX11_least_52 : decode cX11_least 52 = .ok (.aload_n 0, 1) := by decide +kernel
theorem dX11_least_53 : decode cX11_least 53 = .ok (.getfield 26, 3) := by decide +kernel
theorem dX11_least_56 : decode cX11_least 56 = .ok (.getfield 214, 3) := by decide +kernel
theorem dX11_least_59 : decode cX11_least 59 = .ok (.iload 4, 2) := by decide +kernel
theorem dX11_least_61 : decode cX11_least 61 = .ok (.iaload, 1) := by decide +kernel
theorem dX11_least_62 : decode cX11_least 62 = .ok (.iload_n 3, 1) := by decide +kernel
theorem dX11_least_63 : decode cX11_least 63 = .ok (.imul, 1) := by decide +kernel
theorem dX11_least_64 : decode cX11_least 64 = .ok (.aload_n 0, 1) := by decide +kernel
theorem dX11_least_65 : decode cX11_least 65 = .ok (.getfield 26, 3) := by decide +kernel
theorem dX11_least_68 : decode cX11_least 68 = .ok (.getfield 214, 3) := by decide +kernel
theorem dX11_least_71 : decode cX11_least 71 = .ok (.iload_n 2, 1) := by decide +kernel
theorem dX11_least_72 : decode cX11_least 72 = .ok (.iaload, 1) := by decide +kernel
theorem dX11_least_73 : decode cX11_least 73 = .ok (.iload 5, 2) := by decide +kernel
theorem dX11_least_75 : decode cX11_least 75 = .ok (.imul, 1) := by decide +kernel
theorem dX11_least_76 : decode cX11_least 76 = .ok (.if_icmp .ge 9, 3) := by decide +kernel
theorem dX11_least_79 : decode cX11_least 79 = .ok (.iload 4, 2) := by decide +kernel
theorem dX11_least_81 : decode cX11_least 81 = .ok (.istore_n 2, 1) := by decide +kernel
theorem dX11_least_82 : decode cX11_least 82 = .ok (.iload 5, 2) := by decide +kernel
theorem dX11_least_84 : decode cX11_least 84 = .ok (.istore_n 3, 1) := by decide +kernel
theorem dX11_least_85 : decode cX11_least 85 = .ok (.iinc 4 1, 3) := by decide +kernel
theorem dX11_least_88 : decode cX11_least 88 = .ok (.goto (-81), 3) := by decide +kernel
theorem dX11_least_91 : decode cX11_least 91 = .ok (.iload_n 2, 1) := by decide +kernel
theorem dX11_least_92 : decode cX11_least 92 = .ok (.iconst (-1), 1) := by decide +kernel
theorem dX11_least_93 : decode cX11_least 93 = .ok (.if_icmp .ne 5, 3) := by decide +kernel
theorem dX11_least_96 : decode cX11_least 96 = .ok (.iconst (-1), 1) := by decide +kernel
theorem dX11_least_97 : decode cX11_least 97 = .ok (.ireturn, 1) := by decide +kernel
theorem dX11_least_98 : decode cX11_least 98 = .ok (.iload_n 1, 1) := by decide +kernel
theorem dX11_least_99 : decode cX11_least 99 = .ok (.tableswitch 39 0 2 #[25, 27, 37], 25) := by decide +kernel
theorem dX11_least_124 : decode cX11_least 124 = .ok (.iload_n 2, 1) := by decide +kernel
theorem dX11_least_125 : decode cX11_least 125 = .ok (.ireturn, 1) := by decide +kernel
theorem dX11_least_126 : decode cX11_least 126 = .ok (.aload_n 0, 1) := by decide +kernel
theorem dX11_least_127 : decode cX11_least 127 = .ok (.getfield 26, 3) := by decide +kernel
theorem dX11_least_130 : decode cX11_least 130 = .ok (.getfield 214, 3) := by decide +kernel
theorem dX11_least_133 : decode cX11_least 133 = .ok (.iload_n 2, 1) := by decide +kernel
theorem dX11_least_134 : decode cX11_least 134 = .ok (.iaload, 1) := by decide +kernel
theorem dX11_least_135 : decode cX11_least 135 = .ok (.ireturn, 1) := by decide +kernel
theorem dX11_least_136 : decode cX11_least 136 = .ok (.iload_n 3, 1) := by decide +kernel
theorem dX11_least_137 : decode cX11_least 137 = .ok (.ireturn, 1) := by decide +kernel
theorem dX11_least_138 : decode cX11_least 138 = .ok (.iconst (-1), 1) := by decide +kernel
theorem dX11_least_139 : decode cX11_least 139 = .ok (.ireturn, 1) := by decide +kernel
theorem dX11_dull_0 : decode cX11_dull 0 = .ok (.iload_n 1, 1) := by decide +kernel
theorem dX11_dull_1 : decode cX11_dull 1 = .ok (.invokestatic 108, 3) := by decide +kernel
theorem dX11_dull_4 : decode cX11_dull 4 = .ok (.ifCond .eq 10, 3) := by decide +kernel
theorem dX11_dull_7 : decode cX11_dull 7 = .ok (.iload_n 2, 1) := by decide +kernel
theorem dX11_dull_8 : decode cX11_dull 8 = .ok (.invokestatic 289, 3) := by decide +kernel
theorem dX11_dull_11 : decode cX11_dull 11 = .ok (.ifCond .ne 7, 3) := by decide +kernel
theorem dX11_dull_14 : decode cX11_dull 14 = .ok (.ldc2_w 270, 3) := by decide +kernel
theorem dX11_dull_17 : decode cX11_dull 17 = .ok (.lreturn, 1) := by decide +kernel
theorem dX11_dull_18 : decode cX11_dull 18 = .ok (.aload_n 0, 1) := by decide +kernel
theorem dX11_dull_19 : decode cX11_dull 19 = .ok (.iload_n 1, 1) := by decide +kernel
theorem dX11_dull_20 : decode cX11_dull 20 = .ok (.invokevirtual 332, 3) := by decide +kernel
theorem dX11_dull_23 : decode cX11_dull 23 = .ok (.istore_n 3, 1) := by decide +kernel
theorem dX11_dull_24 : decode cX11_dull 24 = .ok (.iconst 0, 1) := by decide +kernel
theorem dX11_dull_25 : decode cX11_dull 25 = .ok (.istore 4, 2) := by decide +kernel
theorem dX11_dull_27 : decode cX11_dull 27 = .ok (.iconst 0, 1) := by decide +kernel
theorem dX11_dull_28 : decode cX11_dull 28 = .ok (.istore 5, 2) := by decide +kernel
theorem dX11_dull_30 : decode cX11_dull 30 = .ok (.iload 5, 2) := by decide +kernel
theorem dX11_dull_32 : decode cX11_dull 32 = .ok (.aload_n 0, 1) := by decide +kernel
theorem dX11_dull_33 : decode cX11_dull 33 = .ok (.getfield 19, 3) := by decide +kernel
theorem dX11_dull_36 : decode cX11_dull 36 = .ok (.getfield 335, 3) := by decide +kernel
theorem dX11_dull_39 : decode cX11_dull 39 = .ok (.if_icmp .ge 42, 3) := by decide +kernel
theorem dX11_dull_42 : decode cX11_dull 42 = .ok (.aload_n 0, 1) := by decide +kernel
theorem dX11_dull_43 : decode cX11_dull 43 = .ok (.getfield 19, 3) := by decide +kernel
theorem dX11_dull_46 : decode cX11_dull 46 = .ok (.iload 5, 2) := by decide +kernel
theorem dX11_dull_48 : decode cX11_dull 48 = .ok (.invokevirtual 199, 3) := by decide +kernel
theorem dX11_dull_51 : decode cX11_dull 51 = .ok (.iload_n 1, 1) := by decide +kernel
theorem dX11_dull_52 : decode cX11_dull 52 = .ok (.if_icmp .ne 23, 3) := by decide +kernel
theorem dX11_dull_55 : decode cX11_dull 55 = .ok (.aload_n 0, 1) := by decide +kernel
theorem dX11_dull_56 : decode cX11_dull 56 = .ok (.iload 5, 2) := by decide +kernel
theorem dX11_dull_58 : decode cX11_dull 58 = .ok (.iload_n 3, 1) := by decide +kernel
theorem dX11_dull_59 : decode cX11_dull 59 = .ok (.iload_n 2, 1) := by decide +kernel
theorem dX11_dull_60 : decode cX11_dull 60 = .ok (.invokevirtual 336, 3) := by decide +kernel
theorem dX11_dull_63 : decode cX11_dull 63 = .ok (.ifCond .ne 12, 3) := by decide +kernel
theorem dX11_dull_66 : decode cX11_dull 66 = .ok (.iload 4, 2) := by decide +kernel
theorem dX11_dull_68 : decode cX11_dull 68 = .ok (.iconst 1, 1) := by decide +kernel
theorem dX11_dull_69 : decode cX11_dull 69 = .ok (.iload 5, 2) := by decide +kernel
theorem dX11_dull_71 : decode cX11_dull 71 = .ok (.ishl, 1) := by decide +kernel
theorem dX11_dull_72 : decode cX11_dull 72 = .ok (.ior, 1) := by decide +kernel
theorem dX11_dull_73 : decode cX11_dull 73 = .ok (.istore 4, 2) := by decide +kernel
theorem dX11_dull_75 : decode cX11_dull 75 = .ok (.iinc 5 1, 3) := by decide +kernel
theorem dX11_dull_78 : decode cX11_dull 78 = .ok (.goto (-48), 3) := by decide +kernel
theorem dX11_dull_81 : decode cX11_dull 81 = .ok (.iload 4, 2) := by decide +kernel
theorem dX11_dull_83 : decode cX11_dull 83 = .ok (.invokestatic 266, 3) := by decide +kernel
theorem dX11_dull_86 : decode cX11_dull 86 = .ok (.lreturn, 1) := by decide +kernel
theorem dX11_onward_0 : decode cX11_onward 0 = .ok (.aload_n 0, 1) := by decide +kernel
theorem dX11_onward_1 : decode cX11_onward 1 = .ok (.getfield 19, 3) := by decide +kernel
theorem dX11_onward_4 : decode cX11_onward 4 = .ok (.iload_n 1, 1) := by decide +kernel
theorem dX11_onward_5 : decode cX11_onward 5 = .ok (.invokevirtual 185, 3) := by decide +kernel
theorem dX11_onward_8 : decode cX11_onward 8 = .ok (.ifCond .eq 10, 3) := by decide +kernel
theorem dX11_onward_11 : decode cX11_onward 11 = .ok (.iload_n 2, 1) := by decide +kernel
theorem dX11_onward_12 : decode cX11_onward 12 = .ok (.invokestatic 289, 3) := by decide +kernel
theorem dX11_onward_15 : decode cX11_onward 15 = .ok (.ifCond .ne 5, 3) := by decide +kernel
theorem dX11_onward_18 : decode cX11_onward 18 = .ok (.iconst (-1), 1) := by decide +kernel
theorem dX11_onward_19 : decode cX11_onward 19 = .ok (.ireturn, 1) := by decide +kernel
theorem dX11_onward_20 : decode cX11_onward 20 = .ok (.bipush (-2), 2) := by decide +kernel
theorem dX11_onward_22 : decode cX11_onward 22 = .ok (.istore_n 3, 1) := by decide +kernel
theorem dX11_onward_23 : decode cX11_onward 23 = .ok (.iconst 0, 1) := by decide +kernel
theorem dX11_onward_24 : decode cX11_onward 24 = .ok (.istore 4, 2) := by decide +kernel
theorem dX11_onward_26 : decode cX11_onward 26 = .ok (.iconst 0, 1) := by decide +kernel
theorem dX11_onward_27 : decode cX11_onward 27 = .ok (.istore 5, 2) := by decide +kernel
theorem dX11_onward_29 : decode cX11_onward 29 = .ok (.iload 5, 2) := by decide +kernel
theorem dX11_onward_31 : decode cX11_onward 31 = .ok (.iconst 3, 1) := by decide +kernel
theorem dX11_onward_32 : decode cX11_onward 32 = .ok (.if_icmp .ge 40, 3) := by decide +kernel
theorem dX11_onward_35 : decode cX11_onward 35 = .ok (.aload_n 0, 1) := by decide +kernel
theorem dX11_onward_36 : decode cX11_onward 36 = .ok (.iload_n 1, 1) := by decide +kernel
theorem dX11_onward_37 : decode cX11_onward 37 = .ok (.aload_n 0, 1) := by decide +kernel
theorem dX11_onward_38 : decode cX11_onward 38 = .ok (.iload 5, 2) := by decide +kernel
theorem dX11_onward_40 : decode cX11_onward 40 = .ok (.invokevirtual 332, 3) := by decide +kernel
theorem dX11_onward_43 : decode cX11_onward 43 = .ok (.iload_n 2, 1) := by decide +kernel
theorem dX11_onward_44 : decode cX11_onward 44 = .ok (.invokevirtual 336, 3) := by decide +kernel
theorem dX11_onward_47 : decode cX11_onward 47 = .ok (.invokestatic 241, 3) := by decide +kernel
theorem dX11_onward_50 : decode cX11_onward 50 = .ok (.istore 6, 2) := by decide +kernel
theorem dX11_onward_52 : decode cX11_onward 52 = .ok (.iload 6, 2) := by decide +kernel
theorem dX11_onward_54 : decode cX11_onward 54 = .ok (.iload 4, 2) := by decide +kernel
theorem dX11_onward_56 : decode cX11_onward 56 = .ok (.if_icmp .le 10, 3) := by decide +kernel
theorem dX11_onward_59 : decode cX11_onward 59 = .ok (.iload 5, 2) := by decide +kernel
theorem dX11_onward_61 : decode cX11_onward 61 = .ok (.istore_n 3, 1) := by decide +kernel
theorem dX11_onward_62 : decode cX11_onward 62 = .ok (.iload 6, 2) := by decide +kernel
theorem dX11_onward_64 : decode cX11_onward 64 = .ok (.istore 4, 2) := by decide +kernel
theorem dX11_onward_66 : decode cX11_onward 66 = .ok (.iinc 5 1, 3) := by decide +kernel
theorem dX11_onward_69 : decode cX11_onward 69 = .ok (.goto (-40), 3) := by decide +kernel
theorem dX11_onward_72 : decode cX11_onward 72 = .ok (.iload_n 3, 1) := by decide +kernel
theorem dX11_onward_73 : decode cX11_onward 73 = .ok (.ireturn, 1) := by decide +kernel
theorem dX11_different_0 : decode cX11_different 0 = .ok (.aload_n 0, 1) := by decide +kernel
theorem dX11_different_1 : decode cX11_different 1 = .ok (.getfield 33, 3) := by decide +kernel
theorem dX11_different_4 : decode cX11_different 4 = .ok (.iload_n 1, 1) := by decide +kernel
theorem dX11_different_5 : decode cX11_different 5 = .ok (.invokevirtual 119, 3) := by decide +kernel
theorem dX11_different_8 : decode cX11_different 8 = .ok (.ifCond .eq 10, 3) := by decide +kernel
theorem dX11_different_11 : decode cX11_different 11 = .ok (.iload_n 2, 1) := by decide +kernel
theorem dX11_different_12 : decode cX11_different 12 = .ok (.invokestatic 179, 3) := by decide +kernel
theorem dX11_different_15 : decode cX11_different 15 = .ok (.ifCond .ne 5, 3) := by decide +kernel
theorem dX11_different_18 : decode cX11_different 18 = .ok (.iconst (-1), 1) := by decide +kernel
theorem dX11_different_19 : decode cX11_different 19 = .ok (.ireturn, 1) := by decide +kernel
theorem dX11_different_20 : decode cX11_different 20 = .ok (.aload_n 0, 1) := by decide +kernel
theorem dX11_different_21 : decode cX11_different 21 = .ok (.getfield 33, 3) := by decide +kernel
theorem dX11_different_24 : decode cX11_different 24 = .ok (.iload_n 1, 1) := by decide +kernel
theorem dX11_different_25 : decode cX11_different 25 = .ok (.iload_n 2, 1) := by decide +kernel
theorem dX11_different_26 : decode cX11_different 26 = .ok (.iload_n 2, 1) := by decide +kernel
theorem dX11_different_27 : decode cX11_different 27 = .ok (.bipush 14, 2) := by decide +kernel
theorem dX11_different_29 : decode cX11_different 29 = .ok (.iadd, 1) := by decide +kernel
theorem dX11_different_30 : decode cX11_different 30 = .ok (.iconst 1, 1) := by decide +kernel
theorem dX11_different_31 : decode cX11_different 31 = .ok (.isub, 1) := by decide +kernel
theorem dX11_different_32 : decode cX11_different 32 = .ok (.sipush 199, 3) := by decide +kernel
theorem dX11_different_35 : decode cX11_different 35 = .ok (.invokestatic 339, 3) := by decide +kernel
theorem dX11_different_38 : decode cX11_different 38 = .ok (.invokevirtual 344, 3) := by decide +kernel
theorem dX11_different_41 : decode cX11_different 41 = .ok (.istore_n 3, 1) := by decide +kernel
theorem dX11_different_42 : decode cX11_different 42 = .ok (.iload_n 3, 1) := by decide +kernel
theorem dX11_different_43 : decode cX11_different 43 = .ok (.ifCond .ne 5, 3) := by decide +kernel
theorem dX11_different_46 : decode cX11_different 46 = .ok (.iconst (-1), 1) := by decide +kernel
theorem dX11_different_47 : decode cX11_different 47 = .ok (.ireturn, 1) := by decide +kernel
theorem dX11_different_48 : decode cX11_different 48 = .ok (.iconst 0, 1) := by decide +kernel
theorem dX11_different_49 : decode cX11_different 49 = .ok (.istore 4, 2) := by decide +kernel
theorem dX11_different_51 : decode cX11_different 51 = .ok (.iconst 0, 1) := by decide +kernel
theorem dX11_different_52 : decode cX11_different 52 = .ok (.istore 5, 2) := by decide +kernel
theorem dX11_different_54 : decode cX11_different 54 = .ok (.iload 5, 2) := by decide +kernel
theorem dX11_different_56 : decode cX11_different 56 = .ok (.aload_n 0, 1) := by decide +kernel
theorem dX11_different_57 : decode cX11_different 57 = .ok (.getfield 19, 3) := by decide +kernel
theorem dX11_different_60 : decode cX11_different 60 = .ok (.getfield 335, 3) := by decide +kernel
theorem dX11_different_63 : decode cX11_different 63 = .ok (.if_icmp .ge 61, 3) := by decide +kernel
theorem dX11_different_66 : decode cX11_different 66 = .ok (.aload_n 0, 1) := by decide +kernel
theorem dX11_different_67 : decode cX11_different 67 = .ok (.getfield 19, 3) := by decide +kernel
theorem dX11_different_70 : decode cX11_different 70 = .ok (.iload 5, 2) := by decide +kernel
theorem dX11_different_72 : decode cX11_different 72 = .ok (.invokevirtual 199, 3) := by decide +kernel
theorem dX11_different_75 : decode cX11_different 75 = .ok (.istore 6, 2) := by decide +kernel
theorem dX11_different_77 : decode cX11_different 77 = .ok (.iload 6, 2) := by decide +kernel
theorem dX11_different_79 : decode cX11_different 79 = .ok (.iconst (-1), 1) := by decide +kernel
theorem dX11_different_80 : decode cX11_different 80 = .ok (.if_icmp .eq 38, 3) := by decide +kernel
theorem dX11_different_83 : decode cX11_different 83 = .ok (.iload_n 3, 1) := by decide +kernel
theorem dX11_different_84 : decode cX11_different 84 = .ok (.iload 6, 2) := by decide +kernel
