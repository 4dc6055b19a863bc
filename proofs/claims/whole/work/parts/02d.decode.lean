theorem dX11_different_86 : decode cX11_different 86 = .ok (.invokestatic 320, 3) := by decide +kernel
theorem dX11_different_89 : decode cX11_different 89 = .ok (.ifCond .eq 29, 3) := by decide +kernel
theorem dX11_different_92 : decode cX11_different 92 = .ok (.aload_n 0, 1) := by decide +kernel
theorem dX11_different_93 : decode cX11_different 93 = .ok (.getfield 19, 3) := by decide +kernel
theorem dX11_different_96 : decode cX11_different 96 = .ok (.getfield 238, 3) := by decide +kernel
theorem dX11_different_99 : decode cX11_different 99 = .ok (.iload 5, 2) := by decide +kernel
theorem dX11_different_101 : decode cX11_different 101 = .ok (.iaload, 1) := by decide +kernel
theorem dX11_different_102 : decode cX11_different 102 = .ok (.aload_n 0, 1) := by decide +kernel
theorem dX11_different_103 : decode cX11_different 103 = .ok (.getfield 33, 3) := by decide +kernel
theorem dX11_different_106 : decode cX11_different 106 = .ok (.getfield 129, 3) := by decide +kernel
theorem dX11_different_109 : decode cX11_different 109 = .ok (.iload_n 1, 1) := by decide +kernel
theorem dX11_different_110 : decode cX11_different 110 = .ok (.iaload, 1) := by decide +kernel
theorem dX11_different_111 : decode cX11_different 111 = .ok (.iand, 1) := by decide +kernel
theorem dX11_different_112 : decode cX11_different 112 = .ok (.ifCond .ne 6, 3) := by decide +kernel
theorem dX11_different_115 : decode cX11_different 115 = .ok (.iinc 4 1, 3) := by decide +kernel
theorem dX11_different_118 : decode cX11_different 118 = .ok (.iinc 5 1, 3) := by decide +kernel
theorem dX11_different_121 : decode cX11_different 121 = .ok (.goto (-67), 3) := by decide +kernel
theorem dX11_different_124 : decode cX11_different 124 = .ok (.iload 4, 2) := by decide +kernel
theorem dX11_different_126 : decode cX11_different 126 = .ok (.ireturn, 1) := by decide +kernel
theorem dX11_pace_0 : decode cX11_pace 0 = .ok (.iload_n 1, 1) := by decide +kernel
theorem dX11_pace_1 : decode cX11_pace 1 = .ok (.iconst 1, 1) := by decide +kernel
theorem dX11_pace_2 : decode cX11_pace 2 = .ok (.bipush 9, 2) := by decide +kernel
theorem dX11_pace_4 : decode cX11_pace 4 = .ok (.invokestatic 100, 3) := by decide +kernel
theorem dX11_pace_7 : decode cX11_pace 7 = .ok (.ifCond .ne 5, 3) := by decide +kernel
theorem dX11_pace_10 : decode cX11_pace 10 = .ok (.iconst 0, 1) := by decide +kernel
theorem dX11_pace_11 : decode cX11_pace 11 = .ok (.ireturn, 1) := by decide +kernel
theorem dX11_pace_12 : decode cX11_pace 12 = .ok (.aload_n 0, 1) := by decide +kernel
theorem dX11_pace_13 : decode cX11_pace 13 = .ok (.getfield 65, 3) := by decide +kernel
theorem dX11_pace_16 : decode cX11_pace 16 = .ok (.iload_n 1, 1) := by decide +kernel
theorem dX11_pace_17 : decode cX11_pace 17 = .ok (.putfield 347, 3) := by decide +kernel
theorem dX11_pace_20 : decode cX11_pace 20 = .ok (.iconst 1, 1) := by decide +kernel
theorem dX11_pace_21 : decode cX11_pace 21 = .ok (.ireturn, 1) := by decide +kernel
theorem dX11_round_0 : decode cX11_round 0 = .ok (.iload_n 1, 1) := by decide +kernel
theorem dX11_round_1 : decode cX11_round 1 = .ok (.invokestatic 108, 3) := by decide +kernel
theorem dX11_round_4 : decode cX11_round 4 = .ok (.ifCond .eq 20, 3) := by decide +kernel
theorem dX11_round_7 : decode cX11_round 7 = .ok (.iload_n 2, 1) := by decide +kernel
theorem dX11_round_8 : decode cX11_round 8 = .ok (.invokestatic 179, 3) := by decide +kernel
theorem dX11_round_11 : decode cX11_round 11 = .ok (.ifCond .eq 13, 3) := by decide +kernel
theorem dX11_round_14 : decode cX11_round 14 = .ok (.iload_n 3, 1) := by decide +kernel
theorem dX11_round_15 : decode cX11_round 15 = .ok (.iconst (-1), 1) := by decide +kernel
theorem dX11_round_16 : decode cX11_round 16 = .ok (.bipush 8, 2) := by decide +kernel
theorem dX11_round_18 : decode cX11_round 18 = .ok (.invokestatic 100, 3) := by decide +kernel
theorem dX11_round_21 : decode cX11_round 21 = .ok (.ifCond .ne 5, 3) := by decide +kernel
theorem dX11_round_24 : decode cX11_round 24 = .ok (.iconst (-1), 1) := by decide +kernel
theorem dX11_round_25 : decode cX11_round 25 = .ok (.ireturn, 1) := by decide +kernel
theorem dX11_round_26 : decode cX11_round 26 = .ok (.aload_n 0, 1) := by decide +kernel
theorem dX11_round_27 : decode cX11_round 27 = .ok (.getfield 33, 3) := by decide +kernel
theorem dX11_round_30 : decode cX11_round 30 = .ok (.iload_n 1, 1) := by decide +kernel
theorem dX11_round_31 : decode cX11_round 31 = .ok (.iload_n 2, 1) := by decide +kernel
theorem dX11_round_32 : decode cX11_round 32 = .ok (.invokevirtual 350, 3) := by decide +kernel
theorem dX11_round_35 : decode cX11_round 35 = .ok (.istore 4, 2) := by decide +kernel
theorem dX11_round_37 : decode cX11_round 37 = .ok (.aload_n 0, 1) := by decide +kernel
theorem dX11_round_38 : decode cX11_round 38 = .ok (.getfield 65, 3) := by decide +kernel
theorem dX11_round_41 : decode cX11_round 41 = .ok (.iload 4, 2) := by decide +kernel
theorem dX11_round_43 : decode cX11_round 43 = .ok (.invokevirtual 353, 3) := by decide +kernel
theorem dX11_round_46 : decode cX11_round 46 = .ok (.istore 5, 2) := by decide +kernel
theorem dX11_round_48 : decode cX11_round 48 = .ok (.iload 5, 2) := by decide +kernel
theorem dX11_round_50 : decode cX11_round 50 = .ok (.bipush (-2), 2) := by decide +kernel
theorem dX11_round_52 : decode cX11_round 52 = .ok (.if_icmp .eq 8, 3) := by decide +kernel
theorem dX11_round_55 : decode cX11_round 55 = .ok (.iload_n 3, 1) := by decide +kernel
theorem dX11_round_56 : decode cX11_round 56 = .ok (.iconst (-1), 1) := by decide +kernel
theorem dX11_round_57 : decode cX11_round 57 = .ok (.if_icmp .ne 6, 3) := by decide +kernel
theorem dX11_round_60 : decode cX11_round 60 = .ok (.iload 5, 2) := by decide +kernel
theorem dX11_round_62 : decode cX11_round 62 = .ok (.ireturn, 1) := by decide +kernel
theorem dX11_round_63 : decode cX11_round 63 = .ok (.iload_n 3, 1) := by decide +kernel
theorem dX11_round_64 : decode cX11_round 64 = .ok (.bipush 8, 2) := by decide +kernel
theorem dX11_round_66 : decode cX11_round 66 = .ok (.if_icmp .ne 17, 3) := by decide +kernel
theorem dX11_round_69 : decode cX11_round 69 = .ok (.aload_n 0, 1) := by decide +kernel
theorem dX11_round_70 : decode cX11_round 70 = .ok (.getfield 65, 3) := by decide +kernel
theorem dX11_round_73 : decode cX11_round 73 = .ok (.iload 4, 2) := by decide +kernel
theorem dX11_round_75 : decode cX11_round 75 = .ok (.iload 5, 2) := by decide +kernel
theorem dX11_round_77 : decode cX11_round 77 = .ok (.invokevirtual 356, 3) := by decide +kernel
theorem dX11_round_80 : decode cX11_round 80 = .ok (.goto 11, 3) := by decide +kernel
theorem dX11_round_83 : decode cX11_round 83 = .ok (.aload_n 0, 1) := by decide +kernel
theorem dX11_round_84 : decode cX11_round 84 = .ok (.getfield 65, 3) := by decide +kernel
theorem dX11_round_87 : decode cX11_round 87 = .ok (.iload_n 3, 1) := by decide +kernel
theorem dX11_round_88 : decode cX11_round 88 = .ok (.invokevirtual 359, 3) := by decide +kernel
theorem dX11_round_91 : decode cX11_round 91 = .ok (.ireturn, 1) := by decide +kernel
theorem dX11_went_0 : decode cX11_went 0 = .ok (.aload_n 0, 1) := by decide +kernel
theorem dX11_went_1 : decode cX11_went 1 = .ok (.getfield 33, 3) := by decide +kernel
theorem dX11_went_4 : decode cX11_went 4 = .ok (.iload_n 1, 1) := by decide +kernel
theorem dX11_went_5 : decode cX11_went 5 = .ok (.invokevirtual 119, 3) := by decide +kernel
theorem dX11_went_8 : decode cX11_went 8 = .ok (.ifCond .ne 5, 3) := by decide +kernel
theorem dX11_went_11 : decode cX11_went 11 = .ok (.iconst (-1), 1) := by decide +kernel
theorem dX11_went_12 : decode cX11_went 12 = .ok (.ireturn, 1) := by decide +kernel
theorem dX11_went_13 : decode cX11_went 13 = .ok (.iload_n 2, 1) := by decide +kernel
theorem dX11_went_14 : decode cX11_went 14 = .ok (.tableswitch 51 0 2 #[26, 32, 45], 26) := by decide +kernel
theorem dX11_went_40 : decode cX11_went 40 = .ok (.aload_n 0, 1) := by decide +kernel
theorem dX11_went_41 : decode cX11_went 41 = .ok (.iload_n 1, 1) := by decide +kernel
theorem dX11_went_42 : decode cX11_went 42 = .ok (.invokevirtual 362, 3) := by decide +kernel
theorem dX11_went_45 : decode cX11_went 45 = .ok (.ireturn, 1) := by decide +kernel
theorem dX11_went_46 : decode cX11_went 46 = .ok (.aload_n 0, 1) := by decide +kernel
theorem dX11_went_47 : decode cX11_went 47 = .ok (.getfield 33, 3) := by decide +kernel
theorem dX11_went_50 : decode cX11_went 50 = .ok (.getfield 129, 3) := by decide +kernel
theorem dX11_went_53 : decode cX11_went 53 = .ok (.iload_n 1, 1) := by decide +kernel
theorem dX11_went_54 : decode cX11_went 54 = .ok (.iaload, 1) := by decide +kernel
theorem dX11_went_55 : decode cX11_went 55 = .ok (.invokestatic 241, 3) := by decide +kernel
theorem dX11_went_58 : decode cX11_went 58 = .ok (.ireturn, 1) := by decide +kernel
theorem dX11_went_59 : decode cX11_went 59 = .ok (.aload_n 0, 1) := by decide +kernel
theorem dX11_went_60 : decode cX11_went 60 = .ok (.iload_n 1, 1) := by decide +kernel
theorem dX11_went_61 : decode cX11_went 61 = .ok (.invokevirtual 365, 3) := by decide +kernel
theorem dX11_went_64 : decode cX11_went 64 = .ok (.ireturn, 1) := by decide +kernel
theorem dX11_went_65 : decode cX11_went 65 = .ok (.iconst (-1), 1) := by decide +kernel
theorem dX11_went_66 : decode cX11_went 66 = .ok (.ireturn, 1) := by decide +kernel
theorem dX11_lostDay_0 : decode cX11_lostDay 0 = .ok (.iload_n 1, 1) := by decide +kernel
theorem dX11_lostDay_1 : decode cX11_lostDay 1 = .ok (.invokestatic 108, 3) := by decide +kernel
theorem dX11_lostDay_4 : decode cX11_lostDay 4 = .ok (.ifCond .eq 43, 3) := by decide +kernel
theorem dX11_lostDay_7 : decode cX11_lostDay 7 = .ok (.iload_n 2, 1) := by decide +kernel
theorem dX11_lostDay_8 : decode cX11_lostDay 8 = .ok (.aload_n 0, 1) := by decide +kernel
theorem dX11_lostDay_9 : decode cX11_lostDay 9 = .ok (.getfield 96, 3) := by decide +kernel
theorem dX11_lostDay_12 : decode cX11_lostDay 12 = .ok (.sipush 199, 3) := by decide +kernel
theorem dX11_lostDay_15 : decode cX11_lostDay 15 = .ok (.invokestatic 100, 3) := by decide +kernel
theorem dX11_lostDay_18 : decode cX11_lostDay 18 = .ok (.ifCond .eq 29, 3) := by decide +kernel
theorem dX11_lostDay_21 : decode cX11_lostDay 21 = .ok (.iload_n 3, 1) := by decide +kernel
theorem dX11_lostDay_22 : decode cX11_lostDay 22 = .ok (.iconst 1, 1) := by decide +kernel
theorem dX11_lostDay_23 : decode cX11_lostDay 23 = .ok (.bipush 28, 2) := by decide +kernel
theorem dX11_lostDay_25 : decode cX11_lostDay 25 = .ok (.invokestatic 100, 3) := by decide +kernel
theorem dX11_lostDay_28 : decode cX11_lostDay 28 = .ok (.ifCond .eq 19, 3) := by decide +kernel
theorem dX11_lostDay_31 : decode cX11_lostDay 31 = .ok (.iload 4, 2) := by decide +kernel
theorem dX11_lostDay_33 : decode cX11_lostDay 33 = .ok (.iconst 1, 1) := by decide +kernel
theorem dX11_lostDay_34 : decode cX11_lostDay 34 = .ok (.sipush 1000, 3) := by decide +kernel
theorem dX11_lostDay_37 : decode cX11_lostDay 37 = .ok (.invokestatic 100, 3) := by decide +kernel
theorem dX11_lostDay_40 : decode cX11_lostDay 40 = .ok (.ifCond .eq 7, 3) := by decide +kernel
theorem dX11_lostDay_43 : decode cX11_lostDay 43 = .ok (.iconst 1, 1) := by decide +kernel
theorem dX11_lostDay_44 : decode cX11_lostDay 44 = .ok (.goto 4, 3) := by decide +kernel
theorem dX11_lostDay_47 : decode cX11_lostDay 47 = .ok (.iconst 0, 1) := by decide +kernel
theorem dX11_lostDay_48 : decode cX11_lostDay 48 = .ok (.istore 5, 2) := by decide +kernel
theorem dX11_lostDay_50 : decode cX11_lostDay 50 = .ok (.iload 5, 2) := by decide +kernel
theorem dX11_lostDay_52 : decode cX11_lostDay 52 = .ok (.ifCond .eq 15, 3) := by decide +kernel
theorem dX11_lostDay_55 : decode cX11_lostDay 55 = .ok (.aload_n 0, 1) := by decide +kernel
theorem dX11_lostDay_56 : decode cX11_lostDay 56 = .ok (.getfield 33, 3) := by decide +kernel
theorem dX11_lostDay_59 : decode cX11_lostDay 59 = .ok (.iload_n 1, 1) := by decide +kernel
theorem dX11_lostDay_60 : decode cX11_lostDay 60 = .ok (.iload_n 2, 1) := by decide +kernel
theorem dX11_lostDay_61 : decode cX11_lostDay 61 = .ok (.invokevirtual 368, 3) := by decide +kernel
theorem dX11_lostDay_64 : decode cX11_lostDay 64 = .ok (.ifCond .eq 5, 3) := by decide +kernel
theorem dX11_lostDay_67 : decode cX11_lostDay 67 = .ok (.iconst (-1), 1) := by decide +kernel
theorem dX11_lostDay_68 : decode cX11_lostDay 68 = .ok (.ireturn, 1) := by decide +kernel
theorem dX11_lostDay_69 : decode cX11_lostDay 69 = .ok (.aload_n 0, 1) := by decide +kernel
theorem dX11_lostDay_70 : decode cX11_lostDay 70 = .ok (.getfield 33, 3) := by decide +kernel
theorem dX11_lostDay_73 : decode cX11_lostDay 73 = .ok (.iload_n 1, 1) := by decide +kernel
theorem dX11_lostDay_74 : decode cX11_lostDay 74 = .ok (.iload_n 2, 1) := by decide +kernel
theorem dX11_lostDay_75 : decode cX11_lostDay 75 = .ok (.invokevirtual 350, 3) := by decide +kernel
theorem dX11_lostDay_78 : decode cX11_lostDay 78 = .ok (.istore 6, 2) := by decide +kernel
theorem dX11_lostDay_80 : decode cX11_lostDay 80 = .ok (.aload_n 0, 1) := by decide +kernel
theorem dX11_lostDay_81 : decode cX11_lostDay 81 = .ok (.getfield 33, 3) := by decide +kernel
theorem dX11_lostDay_84 : decode cX11_lostDay 84 = .ok (.iload_n 1, 1) := by decide +kernel
theorem dX11_lostDay_85 : decode cX11_lostDay 85 = .ok (.iload_n 2, 1) := by decide +kernel
theorem dX11_lostDay_86 : decode cX11_lostDay 86 = .ok (.invokevirtual 371, 3) := by decide +kernel
theorem dX11_lostDay_89 : decode cX11_lostDay 89 = .ok (.iload_n 2, 1) := by decide +kernel
theorem dX11_lostDay_90 : decode cX11_lostDay 90 = .ok (.iload_n 3, 1) := by decide +kernel
theorem dX11_lostDay_91 : decode cX11_lostDay 91 = .ok (.iadd, 1) := by decide +kernel
theorem dX11_lostDay_92 : decode cX11_lostDay 92 = .ok (.sipush 199, 3) := by decide +kernel
theorem dX11_lostDay_95 : decode cX11_lostDay 95 = .ok (.invokestatic 339, 3) := by decide +kernel
theorem dX11_lostDay_98 : decode cX11_lostDay 98 = .ok (.istore 7, 2) := by decide +kernel
theorem dX11_lostDay_100 : decode cX11_lostDay 100 = .ok (.iconst 0, 1) := by decide +kernel
theorem dX11_lostDay_101 : decode cX11_lostDay 101 = .ok (.istore 8, 2) := by decide +kernel
theorem dX11_lostDay_103 : decode cX11_lostDay 103 = .ok (.iconst 0, 1) := by decide +kernel
theorem dX11_lostDay_104 : decode cX11_lostDay 104 = .ok (.istore 9, 2) := by decide +kernel
theorem dX11_lostDay_106 : decode cX11_lostDay 106 = .ok (.iload 9, 2) := by decide +kernel
theorem dX11_lostDay_108 : decode cX11_lostDay 108 = .ok (.aload_n 0, 1) := by decide +kernel
theorem dX11_lostDay_109 : decode cX11_lostDay 109 = .ok (.getfield 33, 3) := by decide +kernel
theorem dX11_lostDay_112 : decode cX11_lostDay 112 = .ok (.getfield 374, 3) := by decide +kernel
theorem dX11_lostDay_115 : decode cX11_lostDay 115 = .ok (.if_icmp .ge 38, 3) := by decide +kernel
theorem dX11_lostDay_118 : decode cX11_lostDay 118 = .ok (.iload 6, 2) := by decide +kernel
theorem dX11_lostDay_120 : decode cX11_lostDay 120 = .ok (.iload 9, 2) := by decide +kernel
theorem dX11_lostDay_122 : decode cX11_lostDay 122 = .ok (.invokestatic 320, 3) := by decide +kernel
theorem dX11_lostDay_125 : decode cX11_lostDay 125 = .ok (.ifCond .eq 22, 3) := by decide +kernel
theorem dX11_lostDay_128 : decode cX11_lostDay 128 = .ok (.aload_n 0, 1) := by decide +kernel
theorem dX11_lostDay_129 : decode cX11_lostDay 129 = .ok (.iload 9, 2) := by decide +kernel
theorem dX11_lostDay_131 : decode cX11_lostDay 131 = .ok (.iload_n 2, 1) := by decide +kernel
theorem dX11_lostDay_132 : decode cX11_lostDay 132 = .ok (.iconst 1, 1) := by decide +kernel
theorem dX11_lostDay_133 : decode cX11_lostDay 133 = .ok (.iadd, 1) := by decide +kernel
theorem dX11_lostDay_134 : decode cX11_lostDay 134 = .ok (.iload 7, 2) := by decide +kernel
theorem dX11_lostDay_136 : decode cX11_lostDay 136 = .ok (.iload 4, 2) := by decide +kernel
theorem dX11_lostDay_138 : decode cX11_lostDay 138 = .ok (.invokevirtual 375, 3) := by decide +kernel
theorem dX11_lostDay_141 : decode cX11_lostDay 141 = .ok (.ifCond .eq 6, 3) := by decide +kernel
theorem dX11_lostDay_144 : decode cX11_lostDay 144 = .ok (.iinc 8 1, 3) := by decide +kernel
theorem dX11_lostDay_147 : decode cX11_lostDay 147 = .ok (.iinc 9 1, 3) := by decide +kernel
theorem dX11_lostDay_150 : decode cX11_lostDay 150 = .ok (.goto (-44), 3) := by decide +kernel
theorem dX11_lostDay_153 : decode cX11_lostDay 153 = .ok (.iload 8, 2) := by decide +kernel
theorem dX11_lostDay_155 : decode cX11_lostDay 155 = .ok (.ireturn, 1) := by decide +kernel
theorem dX11_put_0 : decode cX11_put 0 = .ok (.aload_n 0, 1) := by decide +kernel
theorem dX11_put_1 : decode cX11_put 1 = .ok (.getfield 33, 3) := by decide +kernel
theorem dX11_put_4 : decode cX11_put 4 = .ok (.iload_n 1, 1) := by decide +kernel
theorem dX11_put_5 : decode cX11_put 5 = .ok (.invokevirtual 119, 3) := by decide +kernel
theorem dX11_put_8 : decode cX11_put 8 = .ok (.ifCond .ne 5, 3) := by decide +kernel
theorem dX11_put_11 : decode cX11_put 11 = .ok (.iconst (-1), 1) := by decide +kernel
theorem dX11_put_12 : decode cX11_put 12 = .ok (.ireturn, 1) := by decide +kernel
theorem dX11_put_13 : decode cX11_put 13 = .ok (.iload_n 2, 1) := by decide +kernel
theorem dX11_put_14 : decode cX11_put 14 = .ok (.lookupswitch 46 #[(0, 26), (1, 36)], 26) := by decide +kernel
theorem dX11_put_40 : decode cX11_put 40 = .ok (.aload_n 0, 1) := by decide +kernel
theorem dX11_put_41 : decode cX11_put 41 = .ok (.getfield 33, 3) := by decide +kernel
theorem dX11_put_44 : decode cX11_put 44 = .ok (.getfield 379, 3) := by decide +kernel
theorem dX11_put_47 : decode cX11_put 47 = .ok (.iload_n 1, 1) := by decide +kernel
theorem dX11_put_48 : decode cX11_put 48 = .ok (.iaload, 1) := by decide +kernel
theorem dX11_put_49 : decode cX11_put 49 = .ok (.ireturn, 1) := by decide +kernel
theorem dX11_put_50 : decode cX11_put 50 = .ok (.aload_n 0, 1) := by decide +kernel
theorem dX11_put_51 : decode cX11_put 51 = .ok (.getfield 33, 3) := by decide +kernel
theorem dX11_put_54 : decode cX11_put 54 = .ok (.getfield 382, 3) := by decide +kernel
theorem dX11_put_57 : decode cX11_put 57 = .ok (.iload_n 1, 1) := by decide +kernel
theorem dX11_put_58 : decode cX11_put 58 = .ok (.iaload, 1) := by decide +kernel
theorem dX11_put_59 : decode cX11_put 59 = .ok (.ireturn, 1) := by decide +kernel
theorem dX11_put_60 : decode cX11_put 60 = .ok (.iconst (-1), 1) := by decide +kernel
theorem dX11_put_61 : decode cX11_put 61 = .ok (.ireturn, 1) := by decide +kernel
theorem dX11_knownIn_0 : decode cX11_knownIn 0 = .ok (.iload_n 1, 1) := by decide +kernel
theorem dX11_knownIn_1 : decode cX11_knownIn 1 = .ok (.iconst 0, 1) := by decide +kernel
theorem dX11_knownIn_2 : decode cX11_knownIn 2 = .ok (.bipush 20, 2) := by decide +kernel
theorem dX11_knownIn_4 : decode cX11_knownIn 4 = .ok (.invokestatic 100, 3) := by decide +kernel
theorem dX11_knownIn_7 : decode cX11_knownIn 7 = .ok (.ifCond .ne 5, 3) := by decide +kernel
theorem dX11_knownIn_10 : decode cX11_knownIn 10 = .ok (.iconst 0, 1) := by decide +kernel
theorem dX11_knownIn_11 : decode cX11_knownIn 11 = .ok (.ireturn, 1) := by decide +kernel
theorem dX11_knownIn_12 : decode cX11_knownIn 12 = .ok (.aload_n 0, 1) := by decide +kernel
theorem dX11_knownIn_13 : decode cX11_knownIn 13 = .ok (.getfield 47, 3) := by decide +kernel
theorem dX11_knownIn_16 : decode cX11_knownIn 16 = .ok (.iload_n 1, 1) := by decide +kernel
theorem dX11_knownIn_17 : decode cX11_knownIn 17 = .ok (.putfield 385, 3) := by decide +kernel
theorem dX11_knownIn_20 : decode cX11_knownIn 20 = .ok (.iconst 1, 1) := by decide +kernel
theorem dX11_knownIn_21 : decode cX11_knownIn 21 = .ok (.ireturn, 1) := by decide +kernel
theorem dX11_where_0 : decode cX11_where 0 = .ok (.aload_n 0, 1) := by decide +kernel
theorem dX11_where_1 : decode cX11_where 1 = .ok (.getfield 19, 3) := by decide +kernel
theorem dX11_where_4 : decode cX11_where 4 = .ok (.iload_n 1, 1) := by decide +kernel
theorem dX11_where_5 : decode cX11_where 5 = .ok (.invokevirtual 185, 3) := by decide +kernel
theorem dX11_where_8 : decode cX11_where 8 = .ok (.ifCond .eq 26, 3) := by decide +kernel
theorem dX11_where_11 : decode cX11_where 11 = .ok (.iload_n 2, 1) := by decide +kernel
theorem dX11_where_12 : decode cX11_where 12 = .ok (.iconst 0, 1) := by decide +kernel
theorem dX11_where_13 : decode cX11_where 13 = .ok (.aload_n 0, 1) := by decide +kernel
theorem dX11_where_14 : decode cX11_where 14 = .ok (.getfield 96, 3) := by decide +kernel
theorem dX11_where_17 : decode cX11_where 17 = .ok (.invokestatic 100, 3) := by decide +kernel
theorem dX11_where_20 : decode cX11_where 20 = .ok (.ifCond .eq 14, 3) := by decide +kernel
theorem dX11_where_23 : decode cX11_where 23 = .ok (.iload_n 3, 1) := by decide +kernel
theorem dX11_where_24 : decode cX11_where 24 = .ok (.iload_n 2, 1) := by decide +kernel
theorem dX11_where_25 : decode cX11_where 25 = .ok (.sipush 199, 3) := by decide +kernel
theorem dX11_where_28 : decode cX11_where 28 = .ok (.invokestatic 100, 3) := by decide +kernel
theorem dX11_where_31 : decode cX11_where 31 = .ok (.ifCond .ne 5, 3) := by decide +kernel
theorem dX11_where_34 : decode cX11_where 34 = .ok (.iconst (-1), 1) := by decide +kernel
theorem dX11_where_35 : decode cX11_where 35 = .ok (.ireturn, 1) := by decide +kernel
theorem dX11_where_36 : decode cX11_where 36 = .ok (.aload_n 0, 1) := by decide +kernel
theorem dX11_where_37 : decode cX11_where 37 = .ok (.getfield 47, 3) := by decide +kernel
theorem dX11_where_40 : decode cX11_where 40 = .ok (.iload_n 1, 1) := by decide +kernel
theorem dX11_where_41 : decode cX11_where 41 = .ok (.iload_n 2, 1) := by decide +kernel
theorem dX11_where_42 : decode cX11_where 42 = .ok (.iload_n 3, 1) := by decide +kernel
theorem dX11_where_43 : decode cX11_where 43 = .ok (.invokevirtual 388, 3) := by decide +kernel
theorem dX11_where_46 : decode cX11_where 46 = .ok (.ireturn, 1) := by decide +kernel
theorem dX11_counts_0 : decode cX11_counts 0 = .ok (.iload_n 1, 1) := by decide +kernel
theorem dX11_counts_1 : decode cX11_counts 1 = .ok (.tableswitch 176 0 5 #[39, 60, 83, 101, 122, 147], 39) := by decide +kernel
theorem dX11_counts_40 : decode cX11_counts 40 = .ok (.aload_n 0, 1) := by decide +kernel
theorem dX11_counts_41 : decode cX11_counts 41 = .ok (.getfield 33, 3) := by decide +kernel
theorem dX11_counts_44 : decode cX11_counts 44 = .ok (.iload_n 2, 1) := by decide +kernel
theorem dX11_counts_45 : decode cX11_counts 45 = .ok (.invokevirtual 119, 3) := by decide +kernel
theorem dX11_counts_48 : decode cX11_counts 48 = .ok (.ifCond .eq 11, 3) := by decide +kernel
theorem dX11_counts_51 : decode cX11_counts 51 = .ok (.aload_n 0, 1) := by decide +kernel
theorem dX11_counts_52 : decode cX11_counts 52 = .ok (.iload_n 2, 1) := by decide +kernel
theorem dX11_counts_53 : decode cX11_counts 53 = .ok (.invokevirtual 365, 3) := by decide +kernel
theorem dX11_counts_56 : decode cX11_counts 56 = .ok (.goto 4, 3) := by decide +kernel
theorem dX11_counts_59 : decode cX11_counts 59 = .ok (.iconst (-1), 1) := by decide +kernel
theorem dX11_counts_60 : decode cX11_counts 60 = .ok (.ireturn, 1) := by decide +kernel
theorem dX11_counts_61 : decode cX11_counts 61 = .ok (.iload_n 2, 1) := by decide +kernel
theorem dX11_counts_62 : decode cX11_counts 62 = .ok (.iconst 0, 1) := by decide +kernel
theorem dX11_counts_63 : decode cX11_counts 63 = .ok (.bipush 7, 2) := by decide +kernel
theorem dX11_counts_65 : decode cX11_counts 65 = .ok (.invokestatic 100, 3) := by decide +kernel
theorem dX11_counts_68 : decode cX11_counts 68 = .ok (.ifCond .eq 14, 3) := by decide +kernel
theorem dX11_counts_71 : decode cX11_counts 71 = .ok (.aload_n 0, 1) := by decide +kernel
theorem dX11_counts_72 : decode cX11_counts 72 = .ok (.getfield 19, 3) := by decide +kernel
theorem dX11_counts_75 : decode cX11_counts 75 = .ok (.iload_n 2, 1) := by decide +kernel
theorem dX11_counts_76 : decode cX11_counts 76 = .ok (.invokevirtual 391, 3) := by decide +kernel
theorem dX11_counts_79 : decode cX11_counts 79 = .ok (.goto 4, 3) := by decide +kernel
theorem dX11_counts_82 : decode cX11_counts 82 = .ok (.iconst (-1), 1) := by decide +kernel
theorem dX11_counts_83 : decode cX11_counts 83 = .ok (.ireturn, 1) := by decide +kernel
theorem dX11_counts_84 : decode cX11_counts 84 = .ok (.iload_n 2, 1) := by decide +kernel
theorem dX11_counts_85 : decode cX11_counts 85 = .ok (.invokestatic 108, 3) := by decide +kernel
theorem dX11_counts_88 : decode cX11_counts 88 = .ok (.ifCond .eq 12, 3) := by decide +kernel
theorem dX11_counts_91 : decode cX11_counts 91 = .ok (.aload_n 0, 1) := by decide +kernel
theorem dX11_counts_92 : decode cX11_counts 92 = .ok (.getfield 86, 3) := by decide +kernel
theorem dX11_counts_95 : decode cX11_counts 95 = .ok (.iload_n 2, 1) := by decide +kernel
theorem dX11_counts_96 : decode cX11_counts 96 = .ok (.iaload, 1) := by decide +kernel
theorem dX11_counts_97 : decode cX11_counts 97 = .ok (.goto 4, 3) := by decide +kernel
theorem dX11_counts_100 : decode cX11_counts 100 = .ok (.iconst (-1), 1) := by decide +kernel
theorem dX11_counts_101 : decode cX11_counts 101 = .ok (.ireturn, 1) := by decide +kernel
theorem dX11_counts_102 : decode cX11_counts 102 = .ok (.aload_n 0, 1) := by decide +kernel
theorem dX11_counts_103 : decode cX11_counts 103 = .ok (.getfield 33, 3) := by decide +kernel
theorem dX11_counts_106 : decode cX11_counts 106 = .ok (.iload_n 2, 1) := by decide +kernel
theorem dX11_counts_107 : decode cX11_counts 107 = .ok (.invokevirtual 119, 3) := by decide +kernel
theorem dX11_counts_110 : decode cX11_counts 110 = .ok (.ifCond .eq 11, 3) := by decide +kernel
theorem dX11_counts_113 : decode cX11_counts 113 = .ok (.aload_n 0, 1) := by decide +kernel
theorem dX11_counts_114 : decode cX11_counts 114 = .ok (.iload_n 2, 1) := by decide +kernel
theorem dX11_counts_115 : decode cX11_counts 115 = .ok (.invokevirtual 394, 3) := by decide +kernel
theorem dX11_counts_118 : decode cX11_counts 118 = .ok (.goto 4, 3) := by decide +kernel
theorem dX11_counts_121 : decode cX11_counts 121 = .ok (.iconst (-1), 1) := by decide +kernel
theorem dX11_counts_122 : decode cX11_counts 122 = .ok (.ireturn, 1) := by decide +kernel
theorem dX11_counts_123 : decode cX11_counts 123 = .ok (.aload_n 0, 1) := by decide +kernel
theorem dX11_counts_124 : decode cX11_counts 124 = .ok (.getfield 33, 3) := by decide +kernel
theorem dX11_counts_127 : decode cX11_counts 127 = .ok (.iload_n 2, 1) := by decide +kernel
theorem dX11_counts_128 : decode cX11_counts 128 = .ok (.invokevirtual 119, 3) := by decide +kernel
theorem dX11_counts_131 : decode cX11_counts 131 = .ok (.ifCond .eq 15, 3) := by decide +kernel
theorem dX11_counts_134 : decode cX11_counts 134 = .ok (.aload_n 0, 1) := by decide +kernel
theorem dX11_counts_135 : decode cX11_counts 135 = .ok (.getfield 33, 3) := by decide +kernel
theorem dX11_counts_138 : decode cX11_counts 138 = .ok (.getfield 230, 3) := by decide +kernel
theorem dX11_counts_141 : decode cX11_counts 141 = .ok (.iload_n 2, 1) := by decide +kernel
theorem dX11_counts_142 : decode cX11_counts 142 = .ok (.iaload, 1) := by decide +kernel
theorem dX11_counts_143 : decode cX11_counts 143 = .ok (.goto 4, 3) := by decide +kernel
theorem dX11_counts_146 : decode cX11_counts 146 = .ok (.iconst (-1), 1) := by decide +kernel
theorem dX11_counts_147 : decode cX11_counts 147 = .ok (.ireturn, 1) := by decide +kernel
theorem dX11_counts_148 : decode cX11_counts 148 = .ok (.iload_n 2, 1) := by decide +kernel
theorem dX11_counts_149 : decode cX11_counts 149 = .ok (.ifCond .ne 26, 3) := by decide +kernel
theorem dX11_counts_152 : decode cX11_counts 152 = .ok (.aload_n 0, 1) := by decide +kernel
theorem dX11_counts_153 : decode cX11_counts 153 = .ok (.getfield 86, 3) := by decide +kernel
theorem dX11_counts_156 : decode cX11_counts 156 = .ok (.iconst 0, 1) := by decide +kernel
theorem dX11_counts_157 : decode cX11_counts 157 = .ok (.iaload, 1) := by decide +kernel
theorem dX11_counts_158 : decode cX11_counts 158 = .ok (.aload_n 0, 1) := by decide +kernel
theorem dX11_counts_159 : decode cX11_counts 159 = .ok (.getfield 86, 3) := by decide +kernel
theorem dX11_counts_162 : decode cX11_counts 162 = .ok (.iconst 1, 1) := by decide +kernel
theorem dX11_counts_163 : decode cX11_counts 163 = .ok (.iaload, 1) := by decide +kernel
theorem dX11_counts_164 : decode cX11_counts 164 = .ok (.iadd, 1) := by decide +kernel
theorem dX11_counts_165 : decode cX11_counts 165 = .ok (.aload_n 0, 1) := by decide +kernel
theorem dX11_counts_166 : decode cX11_counts 166 = .ok (.getfield 86, 3) := by decide +kernel
theorem dX11_counts_169 : decode cX11_counts 169 = .ok (.iconst 2, 1) := by decide +kernel
theorem dX11_counts_170 : decode cX11_counts 170 = .ok (.iaload, 1) := by decide +kernel
theorem dX11_counts_171 : decode cX11_counts 171 = .ok (.iadd, 1) := by decide +kernel
theorem dX11_counts_172 : decode cX11_counts 172 = .ok (.goto 4, 3) := by decide +kernel
theorem dX11_counts_175 : decode cX11_counts 175 = .ok (.iconst (-1), 1) := by decide +kernel
theorem dX11_counts_176 : decode cX11_counts 176 = .ok (.ireturn, 1) := by decide +kernel
theorem dX11_counts_177 : decode cX11_counts 177 = .ok (.iconst (-1), 1) := by decide +kernel
theorem dX11_counts_178 : decode cX11_counts 178 = .ok (.ireturn, 1) := by decide +kernel
theorem dX11_council_0 : decode cX11_council 0 = .ok (.aload_n 0, 1) := by decide +kernel
theorem dX11_council_1 : decode cX11_council 1 = .ok (.getfield 33, 3) := by decide +kernel
theorem dX11_council_4 : decode cX11_council 4 = .ok (.iload_n 1, 1) := by decide +kernel
theorem dX11_council_5 : decode cX11_council 5 = .ok (.invokevirtual 119, 3) := by decide +kernel
theorem dX11_council_8 : decode cX11_council 8 = .ok (.ifCond .eq 13, 3) := by decide +kernel
theorem dX11_council_11 : decode cX11_council 11 = .ok (.iload_n 2, 1) := by decide +kernel
theorem dX11_council_12 : decode cX11_council 12 = .ok (.iconst 1, 1) := by decide +kernel
theorem dX11_council_13 : decode cX11_council 13 = .ok (.bipush 16, 2) := by decide +kernel
theorem dX11_council_15 : decode cX11_council 15 = .ok (.invokestatic 100, 3) := by decide +kernel
theorem dX11_council_18 : decode cX11_council 18 = .ok (.ifCond .ne 5, 3) := by decide +kernel
theorem dX11_council_21 : decode cX11_council 21 = .ok (.iconst (-1), 1) := by decide +kernel
theorem dX11_council_22 : decode cX11_council 22 = .ok (.ireturn, 1) := by decide +kernel
theorem dX11_council_23 : decode cX11_council 23 = .ok (.aload_n 0, 1) := by decide +kernel
theorem dX11_council_24 : decode cX11_council 24 = .ok (.getfield 33, 3) := by decide +kernel
theorem dX11_council_27 : decode cX11_council 27 = .ok (.getfield 129, 3) := by decide +kernel
theorem dX11_council_30 : decode cX11_council 30 = .ok (.iload_n 1, 1) := by decide +kernel
theorem dX11_council_31 : decode cX11_council 31 = .ok (.iaload, 1) := by decide +kernel
theorem dX11_council_32 : decode cX11_council 32 = .ok (.invokestatic 241, 3) := by decide +kernel
theorem dX11_council_35 : decode cX11_council 35 = .ok (.istore_n 3, 1) := by decide +kernel
theorem dX11_council_36 : decode cX11_council 36 = .ok (.iload_n 3, 1) := by decide +kernel
theorem dX11_council_37 : decode cX11_council 37 = .ok (.iload_n 2, 1) := by decide +kernel
theorem dX11_council_38 : decode cX11_council 38 = .ok (.if_icmp .ge 7, 3) := by decide +kernel
theorem dX11_council_41 : decode cX11_council 41 = .ok (.iconst 0, 1) := by decide +kernel
theorem dX11_council_42 : decode cX11_council 42 = .ok (.goto 4, 3) := by decide +kernel
theorem dX11_council_45 : decode cX11_council 45 = .ok (.iload_n 3, 1) := by decide +kernel
theorem dX11_council_46 : decode cX11_council 46 = .ok (.ireturn, 1) := by decide +kernel
theorem dX11_check_0 : decode cX11_check 0 = .ok (.iload_n 1, 1) := by decide +kernel
theorem dX11_check_1 : decode cX11_check 1 = .ok (.iconst 0, 1) := by decide +kernel
theorem dX11_check_2 : decode cX11_check 2 = .ok (.aload_n 0, 1) := by decide +kernel
theorem dX11_check_3 : decode cX11_check 3 = .ok (.getfield 12, 3) := by decide +kernel
theorem dX11_check_6 : decode cX11_check 6 = .ok (.getfield 146, 3) := by decide +kernel
theorem dX11_check_9 : decode cX11_check 9 = .ok (.bipush 12, 2) := by decide +kernel
theorem dX11_check_11 : decode cX11_check 11 = .ok (.idiv, 1) := by decide +kernel
theorem dX11_check_12 : decode cX11_check 12 = .ok (.invokestatic 100, 3) := by decide +kernel
theorem dX11_check_15 : decode cX11_check 15 = .ok (.ifCond .ne 6, 3) := by decide +kernel
theorem dX11_check_18 : decode cX11_check 18 = .ok (.bipush (-2), 2) := by decide +kernel
theorem dX11_check_20 : decode cX11_check 20 = .ok (.ireturn, 1) := by decide +kernel
theorem dX11_check_21 : decode cX11_check 21 = .ok (.aload_n 0, 1) := by decide +kernel
theorem dX11_check_22 : decode cX11_check 22 = .ok (.iload_n 1, 1) := by decide +kernel
theorem dX11_check_23 : decode cX11_check 23 = .ok (.invokevirtual 397, 3) := by decide +kernel
theorem dX11_check_26 : decode cX11_check 26 = .ok (.istore_n 2, 1) := by decide +kernel
theorem dX11_check_27 : decode cX11_check 27 = .ok (.aload_n 0, 1) := by decide +kernel
theorem dX11_check_28 : decode cX11_check 28 = .ok (.getfield 12, 3) := by decide +kernel
theorem dX11_check_31 : decode cX11_check 31 = .ok (.invokevirtual 168, 3) := by decide +kernel
theorem dX11_check_34 : decode cX11_check 34 = .ok (.iload_n 2, 1) := by decide +kernel
theorem dX11_check_35 : decode cX11_check 35 = .ok (.ireturn, 1) := by decide +kernel
theorem dX11_count_0 : decode cX11_count 0 = .ok (.iload_n 1, 1) := by decide +kernel
theorem dX11_count_1 : decode cX11_count 1 = .ok (.bipush 10, 2) := by decide +kernel
theorem dX11_count_3 : decode cX11_count 3 = .ok (.bipush 12, 2) := by decide +kernel
theorem dX11_count_5 : decode cX11_count 5 = .ok (.invokestatic 100, 3) := by decide +kernel
theorem dX11_count_8 : decode cX11_count 8 = .ok (.ifCond .eq 15, 3) := by decide +kernel
theorem dX11_count_11 : decode cX11_count 11 = .ok (.aload_n 0, 1) := by decide +kernel
theorem dX11_count_12 : decode cX11_count 12 = .ok (.getfield 19, 3) := by decide +kernel
theorem dX11_count_15 : decode cX11_count 15 = .ok (.iload_n 1, 1) := by decide +kernel
theorem dX11_count_16 : decode cX11_count 16 = .ok (.bipush 10, 2) := by decide +kernel
theorem dX11_count_18 : decode cX11_count 18 = .ok (.isub, 1) := by decide +kernel
theorem dX11_count_19 : decode cX11_count 19 = .ok (.invokevirtual 112, 3) := by decide +kernel
theorem dX11_count_22 : decode cX11_count 22 = .ok (.ireturn, 1) := by decide +kernel
theorem dX11_count_23 : decode cX11_count 23 = .ok (.iload_n 1, 1) := by decide +kernel
theorem dX11_count_24 : decode cX11_count 24 = .ok (.bipush 20, 2) := by decide +kernel
theorem dX11_count_26 : decode cX11_count 26 = .ok (.bipush 20, 2) := by decide +kernel
theorem dX11_count_28 : decode cX11_count 28 = .ok (.aload_n 0, 1) := by decide +kernel
theorem dX11_count_29 : decode cX11_count 29 = .ok (.getfield 33, 3) := by decide +kernel
theorem dX11_count_32 : decode cX11_count 32 = .ok (.getfield 374, 3) := by decide +kernel
theorem dX11_count_35 : decode cX11_count 35 = .ok (.iadd, 1) := by decide +kernel
theorem dX11_count_36 : decode cX11_count 36 = .ok (.iconst 1, 1) := by decide +kernel
theorem dX11_count_37 : decode cX11_count 37 = .ok (.isub, 1) := by decide +kernel
theorem dX11_count_38 : decode cX11_count 38 = .ok (.invokestatic 100, 3) := by decide +kernel
theorem dX11_count_41 : decode cX11_count 41 = .ok (.ifCond .eq 19, 3) := by decide +kernel
theorem dX11_count_44 : decode cX11_count 44 = .ok (.aload_n 0, 1) := by decide +kernel
theorem dX11_count_45 : decode cX11_count 45 = .ok (.getfield 33, 3) := by decide +kernel
theorem dX11_count_48 : decode cX11_count 48 = .ok (.getfield 129, 3) := by decide +kernel
theorem dX11_count_51 : decode cX11_count 51 = .ok (.iload_n 1, 1) := by decide +kernel
theorem dX11_count_52 : decode cX11_count 52 = .ok (.bipush 20, 2) := by decide +kernel
theorem dX11_count_54 : decode cX11_count 54 = .ok (.isub, 1) := by decide +kernel
theorem dX11_count_55 : decode cX11_count 55 = .ok (.iaload, 1) := by decide +kernel
theorem dX11_count_56 : decode cX11_count 56 = .ok (.invokestatic 241, 3) := by decide +kernel
theorem dX11_count_59 : decode cX11_count 59 = .ok (.ireturn, 1) := by decide +kernel
theorem dX11_count_60 : decode cX11_count 60 = .ok (.iload_n 1, 1) := by decide +kernel
theorem dX11_count_61 : decode cX11_count 61 = .ok (.tableswitch 123 0 8 #[51, 56, 64, 72, 80, 91, 99, 107, 115], 51) := by decide +kernel
theorem dX11_count_112 : decode cX11_count 112 = .ok (.aload_n 0, 1) := by decide +kernel
theorem dX11_count_113 : decode cX11_count 113 = .ok (.getfield 96, 3) := by decide +kernel
theorem dX11_count_116 : decode cX11_count 116 = .ok (.ireturn, 1) := by decide +kernel
theorem dX11_count_117 : decode cX11_count 117 = .ok (.aload_n 0, 1) := by decide +kernel
theorem dX11_count_118 : decode cX11_count 118 = .ok (.getfield 19, 3) := by decide +kernel
theorem dX11_count_121 : decode cX11_count 121 = .ok (.getfield 335, 3) := by decide +kernel
theorem dX11_count_124 : decode cX11_count 124 = .ok (.ireturn, 1) := by decide +kernel
theorem dX11_count_125 : decode cX11_count 125 = .ok (.aload_n 0, 1) := by decide +kernel
theorem dX11_count_126 : decode cX11_count 126 = .ok (.getfield 33, 3) := by decide +kernel
theorem dX11_count_129 : decode cX11_count 129 = .ok (.getfield 374, 3) := by decide +kernel
theorem dX11_count_132 : decode cX11_count 132 = .ok (.ireturn, 1) := by decide +kernel
theorem dX11_count_133 : decode cX11_count 133 = .ok (.aload_n 0, 1) := by decide +kernel
theorem dX11_count_134 : decode cX11_count 134 = .ok (.getfield 26, 3) := by decide +kernel
theorem dX11_count_137 : decode cX11_count 137 = .ok (.getfield 278, 3) := by decide +kernel
theorem dX11_count_140 : decode cX11_count 140 = .ok (.ireturn, 1) := by decide +kernel
theorem dX11_count_141 : decode cX11_count 141 = .ok (.aload_n 0, 1) := by decide +kernel
theorem dX11_count_142 : decode cX11_count 142 = .ok (.getfield 56, 3) := by decide +kernel
theorem dX11_count_145 : decode cX11_count 145 = .ok (.getfield 169, 3) := by decide +kernel
theorem dX11_count_148 : decode cX11_count 148 = .ok (.getfield 172, 3) := by decide +kernel
theorem dX11_count_151 : decode cX11_count 151 = .ok (.ireturn, 1) := by decide +kernel
theorem dX11_count_152 : decode cX11_count 152 = .ok (.aload_n 0, 1) := by decide +kernel
theorem dX11_count_153 : decode cX11_count 153 = .ok (.getfield 12, 3) := by decide +kernel
theorem dX11_count_156 : decode cX11_count 156 = .ok (.getfield 146, 3) := by decide +kernel
theorem dX11_count_159 : decode cX11_count 159 = .ok (.ireturn, 1) := by decide +kernel
theorem dX11_count_160 : decode cX11_count 160 = .ok (.aload_n 0, 1) := by decide +kernel
theorem dX11_count_161 : decode cX11_count 161 = .ok (.getfield 47, 3) := by decide +kernel
theorem dX11_count_164 : decode cX11_count 164 = .ok (.getfield 400, 3) := by decide +kernel
theorem dX11_count_167 : decode cX11_count 167 = .ok (.ireturn, 1) := by decide +kernel
theorem dX11_count_168 : decode cX11_count 168 = .ok (.aload_n 0, 1) := by decide +kernel
theorem dX11_count_169 : decode cX11_count 169 = .ok (.getfield 40, 3) := by decide +kernel
theorem dX11_count_172 : decode cX11_count 172 = .ok (.getfield 401, 3) := by decide +kernel
theorem dX11_count_175 : decode cX11_count 175 = .ok (.ireturn, 1) := by decide +kernel
theorem dX11_count_176 : decode cX11_count 176 = .ok (.aload_n 0, 1) := by decide +kernel
theorem dX11_count_177 : decode cX11_count 177 = .ok (.getfield 33, 3) := by decide +kernel
theorem dX11_count_180 : decode cX11_count 180 = .ok (.getfield 402, 3) := by decide +kernel
theorem dX11_count_183 : decode cX11_count 183 = .ok (.ireturn, 1) := by decide +kernel
theorem dX11_count_184 : decode cX11_count 184 = .ok (.iconst (-1), 1) := by decide +kernel
theorem dX11_count_185 : decode cX11_count 185 = .ok (.ireturn, 1) := by decide +kernel
theorem dX11_within_0 : decode cX11_within 0 = .ok (.iload_n 0, 1) := by decide +kernel
theorem dX11_within_1 : decode cX11_within 1 = .ok (.iload_n 1, 1) := by decide +kernel
theorem dX11_within_2 : decode cX11_within 2 = .ok (.if_icmp .lt 12, 3) := by decide +kernel
theorem dX11_within_5 : decode cX11_within 5 = .ok (.iload_n 0, 1) := by decide +kernel
theorem dX11_within_6 : decode cX11_within 6 = .ok (.iload_n 2, 1) := by decide +kernel
theorem dX11_within_7 : decode cX11_within 7 = .ok (.if_icmp .gt 7, 3) := by decide +kernel
theorem dX11_within_10 : decode cX11_within 10 = .ok (.iconst 1, 1) := by decide +kernel
theorem dX11_within_11 : decode cX11_within 11 = .ok (.goto 4, 3) := by decide +kernel
theorem dX11_within_14 : decode cX11_within 14 = .ok (.iconst 0, 1) := by decide +kernel
theorem dX11_within_15 : decode cX11_within 15 = .ok (.ireturn, 1) := by decide +kernel
theorem dX11_isVan_0 : decode cX11_isVan 0 = .ok (.iload_n 0, 1) := by decide +kernel
theorem dX11_isVan_1 : decode cX11_isVan 1 = .ok (.iconst 0, 1) := by decide +kernel
theorem dX11_isVan_2 : decode cX11_isVan 2 = .ok (.iconst 2, 1) := by decide +kernel
theorem dX11_isVan_3 : decode cX11_isVan 3 = .ok (.invokestatic 100, 3) := by decide +kernel
theorem dX11_isVan_6 : decode cX11_isVan 6 = .ok (.ireturn, 1) := by decide +kernel
theorem dX11_isDay_0 : decode cX11_isDay 0 = .ok (.iload_n 0, 1) := by decide +kernel
theorem dX11_isDay_1 : decode cX11_isDay 1 = .ok (.iconst 0, 1) := by decide +kernel
theorem dX11_isDay_2 : decode cX11_isDay 2 = .ok (.sipush 199, 3) := by decide +kernel
theorem dX11_isDay_5 : decode cX11_isDay 5 = .ok (.invokestatic 100, 3) := by decide +kernel
theorem dX11_isDay_8 : decode cX11_isDay 8 = .ok (.ireturn, 1) := by decide +kernel
theorem dX11_isMuch_0 : decode cX11_isMuch 0 = .ok (.iload_n 0, 1) := by decide +kernel
theorem dX11_isMuch_1 : decode cX11_isMuch 1 = .ok (.iconst 1, 1) := by decide +kernel
theorem dX11_isMuch_2 : decode cX11_isMuch 2 = .ok (.sipush 1000, 3) := by decide +kernel
theorem dX11_isMuch_5 : decode cX11_isMuch 5 = .ok (.invokestatic 100, 3) := by decide +kernel
theorem dX11_isMuch_8 : decode cX11_isMuch 8 = .ok (.ireturn, 1) := by decide +kernel
theorem dX11_hasBit_0 : decode cX11_hasBit 0 = .ok (.iload_n 0, 1) := by decide +kernel
theorem dX11_hasBit_1 : decode cX11_hasBit 1 = .ok (.iload_n 1, 1) := by decide +kernel
theorem dX11_hasBit_2 : decode cX11_hasBit 2 = .ok (.iushr, 1) := by decide +kernel
theorem dX11_hasBit_3 : decode cX11_hasBit 3 = .ok (.iconst 1, 1) := by decide +kernel
theorem dX11_hasBit_4 : decode cX11_hasBit 4 = .ok (.iand, 1) := by decide +kernel
theorem dX11_hasBit_5 : decode cX11_hasBit 5 = .ok (.ifCond .eq 7, 3) := by decide +kernel
theorem dX11_hasBit_8 : decode cX11_hasBit 8 = .ok (.iconst 1, 1) := by decide +kernel
theorem dX11_hasBit_9 : decode cX11_hasBit 9 = .ok (.goto 4, 3) := by decide +kernel
theorem dX11_hasBit_12 : decode cX11_hasBit 12 = .ok (.iconst 0, 1) := by decide +kernel
theorem dX11_hasBit_13 : decode cX11_hasBit 13 = .ok (.ireturn, 1) := by decide +kernel
theorem dX11_asLong_0 : decode cX11_asLong 0 = .ok (.iload_n 0, 1) := by decide +kernel
theorem dX11_asLong_1 : decode cX11_asLong 1 = .ok (.i2l, 1) := by decide +kernel
theorem dX11_asLong_2 : decode cX11_asLong 2 = .ok (.ldc2_w 309, 3) := by decide +kernel
theorem dX11_asLong_5 : decode cX11_asLong 5 = .ok (.land, 1) := by decide +kernel
theorem dX11_asLong_6 : decode cX11_asLong 6 = .ok (.lreturn, 1) := by decide +kernel
theorem dX11_isPair_0 : decode cX11_isPair 0 = .ok (.aload_n 0, 1) := by decide +kernel
theorem dX11_isPair_1 : decode cX11_isPair 1 = .ok (.getfield 26, 3) := by decide +kernel
theorem dX11_isPair_4 : decode cX11_isPair 4 = .ok (.iload_n 1, 1) := by decide +kernel
theorem dX11_isPair_5 : decode cX11_isPair 5 = .ok (.invokevirtual 131, 3) := by decide +kernel
theorem dX11_isPair_8 : decode cX11_isPair 8 = .ok (.ifCond .eq 18, 3) := by decide +kernel
theorem dX11_isPair_11 : decode cX11_isPair 11 = .ok (.aload_n 0, 1) := by decide +kernel
theorem dX11_isPair_12 : decode cX11_isPair 12 = .ok (.getfield 19, 3) := by decide +kernel
theorem dX11_isPair_15 : decode cX11_isPair 15 = .ok (.iload_n 2, 1) := by decide +kernel
theorem dX11_isPair_16 : decode cX11_isPair 16 = .ok (.invokevirtual 185, 3) := by decide +kernel
theorem dX11_isPair_19 : decode cX11_isPair 19 = .ok (.ifCond .eq 7, 3) := by decide +kernel
theorem dX11_isPair_22 : decode cX11_isPair 22 = .ok (.iconst 1, 1) := by decide +kernel
theorem dX11_isPair_23 : decode cX11_isPair 23 = .ok (.goto 4, 3) := by decide +kernel
theorem dX11_isPair_26 : decode cX11_isPair 26 = .ok (.iconst 0, 1) := by decide +kernel
theorem dX11_isPair_27 : decode cX11_isPair 27 = .ok (.ireturn, 1) := by decide +kernel
theorem dX11_fits_0 : decode cX11_fits 0 = .ok (.aload_n 0, 1) := by decide +kernel
theorem dX11_fits_1 : decode cX11_fits 1 = .ok (.getfield 19, 3) := by decide +kernel
theorem dX11_fits_4 : decode cX11_fits 4 = .ok (.iload_n 2, 1) := by decide +kernel
theorem dX11_fits_5 : decode cX11_fits 5 = .ok (.invokevirtual 112, 3) := by decide +kernel
theorem dX11_fits_8 : decode cX11_fits 8 = .ok (.aload_n 0, 1) := by decide +kernel
theorem dX11_fits_9 : decode cX11_fits 9 = .ok (.getfield 19, 3) := by decide +kernel
theorem dX11_fits_12 : decode cX11_fits 12 = .ok (.getfield 405, 3) := by decide +kernel
theorem dX11_fits_15 : decode cX11_fits 15 = .ok (.iload_n 1, 1) := by decide +kernel
theorem dX11_fits_16 : decode cX11_fits 16 = .ok (.iaload, 1) := by decide +kernel
theorem dX11_fits_17 : decode cX11_fits 17 = .ok (.iadd, 1) := by decide +kernel
theorem dX11_fits_18 : decode cX11_fits 18 = .ok (.aload_n 0, 1) := by decide +kernel
theorem dX11_fits_19 : decode cX11_fits 19 = .ok (.getfield 76, 3) := by decide +kernel
theorem dX11_fits_22 : decode cX11_fits 22 = .ok (.iload_n 2, 1) := by decide +kernel
theorem dX11_fits_23 : decode cX11_fits 23 = .ok (.iaload, 1) := by decide +kernel
theorem dX11_fits_24 : decode cX11_fits 24 = .ok (.if_icmp .gt 7, 3) := by decide +kernel
theorem dX11_fits_27 : decode cX11_fits 27 = .ok (.iconst 1, 1) := by decide +kernel
theorem dX11_fits_28 : decode cX11_fits 28 = .ok (.goto 4, 3) := by decide +kernel
theorem dX11_fits_31 : decode cX11_fits 31 = .ok (.iconst 0, 1) := by decide +kernel
theorem dX11_fits_32 : decode cX11_fits 32 = .ok (.ireturn, 1) := by decide +kernel
theorem dX11_remember_0 : decode cX11_remember 0 = .ok (.aload_n 0, 1) := by decide +kernel
theorem dX11_remember_1 : decode cX11_remember 1 = .ok (.getfield 19, 3) := by decide +kernel
theorem dX11_remember_4 : decode cX11_remember 4 = .ok (.getfield 238, 3) := by decide +kernel
theorem dX11_remember_7 : decode cX11_remember 7 = .ok (.iload_n 2, 1) := by decide +kernel
theorem dX11_remember_8 : decode cX11_remember 8 = .ok (.dup2, 1) := by decide +kernel
theorem dX11_remember_9 : decode cX11_remember 9 = .ok (.iaload, 1) := by decide +kernel
theorem dX11_remember_10 : decode cX11_remember 10 = .ok (.iconst 1, 1) := by decide +kernel
theorem dX11_remember_11 : decode cX11_remember 11 = .ok (.iload_n 1, 1) := by decide +kernel
theorem dX11_remember_12 : decode cX11_remember 12 = .ok (.ishl, 1) := by decide +kernel
theorem dX11_remember_13 : decode cX11_remember 13 = .ok (.ior, 1) := by decide +kernel
theorem dX11_remember_14 : decode cX11_remember 14 = .ok (.iastore, 1) := by decide +kernel
theorem dX11_remember_15 : decode cX11_remember 15 = .ok (.aload_n 0, 1) := by decide +kernel
theorem dX11_remember_16 : decode cX11_remember 16 = .ok (.getfield 26, 3) := by decide +kernel
theorem dX11_remember_19 : decode cX11_remember 19 = .ok (.getfield 249, 3) := by decide +kernel
theorem dX11_remember_22 : decode cX11_remember 22 = .ok (.iload_n 1, 1) := by decide +kernel
theorem dX11_remember_23 : decode cX11_remember 23 = .ok (.dup2, 1) := by decide +kernel
theorem dX11_remember_24 : decode cX11_remember 24 = .ok (.iaload, 1) := by decide +kernel
theorem dX11_remember_25 : decode cX11_remember 25 = .ok (.iconst 1, 1) := by decide +kernel
theorem dX11_remember_26 : decode cX11_remember 26 = .ok (.iload_n 2, 1) := by decide +kernel
theorem dX11_remember_27 : decode cX11_remember 27 = .ok (.ishl, 1) := by decide +kernel
theorem dX11_remember_28 : decode cX11_remember 28 = .ok (.ior, 1) := by decide +kernel
theorem dX11_remember_29 : decode cX11_remember 29 = .ok (.iastore, 1) := by decide +kernel
theorem dX11_remember_30 : decode cX11_remember 30 = .ok (.return_, 1) := by decide +kernel
theorem dX11_transfer_0 : decode cX11_transfer 0 = .ok (.aload_n 0, 1) := by decide +kernel
theorem dX11_transfer_1 : decode cX11_transfer 1 = .ok (.getfield 19, 3) := by decide +kernel
theorem dX11_transfer_4 : decode cX11_transfer 4 = .ok (.getfield 190, 3) := by decide +kernel
theorem dX11_transfer_7 : decode cX11_transfer 7 = .ok (.iload_n 1, 1) := by decide +kernel
theorem dX11_transfer_8 : decode cX11_transfer 8 = .ok (.iload_n 2, 1) := by decide +kernel
theorem dX11_transfer_9 : decode cX11_transfer 9 = .ok (.iastore, 1) := by decide +kernel
theorem dX11_transfer_10 : decode cX11_transfer 10 = .ok (.aload_n 0, 1) := by decide +kernel
theorem dX11_transfer_11 : decode cX11_transfer 11 = .ok (.getfield 47, 3) := by decide +kernel
theorem dX11_transfer_14 : decode cX11_transfer 14 = .ok (.iload_n 1, 1) := by decide +kernel
theorem dX11_transfer_15 : decode cX11_transfer 15 = .ok (.iload_n 2, 1) := by decide +kernel
theorem dX11_transfer_16 : decode cX11_transfer 16 = .ok (.aload_n 0, 1) := by decide +kernel
theorem dX11_transfer_17 : decode cX11_transfer 17 = .ok (.getfield 96, 3) := by decide +kernel
theorem dX11_transfer_20 : decode cX11_transfer 20 = .ok (.invokevirtual 408, 3) := by decide +kernel
theorem dX11_transfer_23 : decode cX11_transfer 23 = .ok (.return_, 1) := by decide +kernel
theorem dX11_settle_0 : decode cX11_settle 0 = .ok (.aload_n 0, 1) := by decide +kernel
theorem dX11_settle_1 : decode cX11_settle 1 = .ok (.getfield 26, 3) := by decide +kernel
theorem dX11_settle_4 : decode cX11_settle 4 = .ok (.getfield 246, 3) := by decide +kernel
theorem dX11_settle_7 : decode cX11_settle 7 = .ok (.iload_n 2, 1) := by decide +kernel
theorem dX11_settle_8 : decode cX11_settle 8 = .ok (.dup2, 1) := by decide +kernel
theorem dX11_settle_9 : decode cX11_settle 9 = .ok (.iaload, 1) := by decide +kernel
theorem dX11_settle_10 : decode cX11_settle 10 = .ok (.iload_n 3, 1) := by decide +kernel
theorem dX11_settle_11 : decode cX11_settle 11 = .ok (.iadd, 1) := by decide +kernel
theorem dX11_settle_12 : decode cX11_settle 12 = .ok (.iastore, 1) := by decide +kernel
theorem dX11_settle_13 : decode cX11_settle 13 = .ok (.aload_n 0, 1) := by decide +kernel
theorem dX11_settle_14 : decode cX11_settle 14 = .ok (.getfield 26, 3) := by decide +kernel
theorem dX11_settle_17 : decode cX11_settle 17 = .ok (.getfield 215, 3) := by decide +kernel
theorem dX11_settle_20 : decode cX11_settle 20 = .ok (.iload_n 2, 1) := by decide +kernel
theorem dX11_settle_21 : decode cX11_settle 21 = .ok (.dup2, 1) := by decide +kernel
theorem dX11_settle_22 : decode cX11_settle 22 = .ok (.iaload, 1) := by decide +kernel
theorem dX11_settle_23 : decode cX11_settle 23 = .ok (.iconst 1, 1) := by decide +kernel
theorem dX11_settle_24 : decode cX11_settle 24 = .ok (.isub, 1) := by decide +kernel
theorem dX11_settle_25 : decode cX11_settle 25 = .ok (.iastore, 1) := by decide +kernel
theorem dX11_settle_26 : decode cX11_settle 26 = .ok (.aload_n 0, 1) := by decide +kernel
theorem dX11_settle_27 : decode cX11_settle 27 = .ok (.getfield 19, 3) := by decide +kernel
theorem dX11_settle_30 : decode cX11_settle 30 = .ok (.getfield 208, 3) := by decide +kernel
theorem dX11_settle_33 : decode cX11_settle 33 = .ok (.iload_n 1, 1) := by decide +kernel
theorem dX11_settle_34 : decode cX11_settle 34 = .ok (.iconst (-1), 1) := by decide +kernel
theorem dX11_settle_35 : decode cX11_settle 35 = .ok (.iastore, 1) := by decide +kernel
theorem dX11_settle_36 : decode cX11_settle 36 = .ok (.aload_n 0, 1) := by decide +kernel
theorem dX11_settle_37 : decode cX11_settle 37 = .ok (.iload_n 1, 1) := by decide +kernel
theorem dX11_settle_38 : decode cX11_settle 38 = .ok (.iload 4, 2) := by decide +kernel
theorem dX11_settle_40 : decode cX11_settle 40 = .ok (.invokevirtual 196, 3) := by decide +kernel
theorem dX11_settle_43 : decode cX11_settle 43 = .ok (.return_, 1) := by decide +kernel
theorem dX11_boardOf_0 : decode cX11_boardOf 0 = .ok (.aload_n 0, 1) := by decide +kernel
theorem dX11_boardOf_1 : decode cX11_boardOf 1 = .ok (.getfield 33, 3) := by decide +kernel
theorem dX11_boardOf_4 : decode cX11_boardOf 4 = .ok (.iload_n 2, 1) := by decide +kernel
theorem dX11_boardOf_5 : decode cX11_boardOf 5 = .ok (.iload_n 1, 1) := by decide +kernel
theorem dX11_boardOf_6 : decode cX11_boardOf 6 = .ok (.invokevirtual 350, 3) := by decide +kernel
theorem dX11_boardOf_9 : decode cX11_boardOf 9 = .ok (.istore_n 3, 1) := by decide +kernel
theorem dX11_boardOf_10 : decode cX11_boardOf 10 = .ok (.iconst 0, 1) := by decide +kernel
theorem dX11_boardOf_11 : decode cX11_boardOf 11 = .ok (.istore 4, 2) := by decide +kernel
theorem dX11_boardOf_13 : decode cX11_boardOf 13 = .ok (.iconst 0, 1) := by decide +kernel
theorem dX11_boardOf_14 : decode cX11_boardOf 14 = .ok (.istore 5, 2) := by decide +kernel
theorem dX11_boardOf_16 : decode cX11_boardOf 16 = .ok (.iload 5, 2) := by decide +kernel
theorem dX11_boardOf_18 : decode cX11_boardOf 18 = .ok (.aload_n 0, 1) := by decide +kernel
theorem dX11_boardOf_19 : decode cX11_boardOf 19 = .ok (.getfield 26, 3) := by decide +kernel
theorem dX11_boardOf_22 : decode cX11_boardOf 22 = .ok (.getfield 278, 3) := by decide +kernel
theorem dX11_boardOf_25 : decode cX11_boardOf 25 = .ok (.if_icmp .ge 41, 3) := by decide +kernel
theorem dX11_boardOf_28 : decode cX11_boardOf 28 = .ok (.iload_n 3, 1) := by decide +kernel
theorem dX11_boardOf_29 : decode cX11_boardOf 29 = .ok (.aload_n 0, 1) := by decide +kernel
theorem dX11_boardOf_30 : decode cX11_boardOf 30 = .ok (.getfield 26, 3) := by decide +kernel
theorem dX11_boardOf_33 : decode cX11_boardOf 33 = .ok (.getfield 202, 3) := by decide +kernel
theorem dX11_boardOf_36 : decode cX11_boardOf 36 = .ok (.iload 5, 2) := by decide +kernel
theorem dX11_boardOf_38 : decode cX11_boardOf 38 = .ok (.iaload, 1) := by decide +kernel
theorem dX11_boardOf_39 : decode cX11_boardOf 39 = .ok (.invokestatic 320, 3) := by decide +kernel
theorem dX11_boardOf_42 : decode cX11_boardOf 42 = .ok (.ifCond .eq 18, 3) := by decide +kernel
theorem dX11_boardOf_45 : decode cX11_boardOf 45 = .ok (.iload 4, 2) := by decide +kernel
theorem dX11_boardOf_47 : decode cX11_boardOf 47 = .ok (.aload_n 0, 1) := by decide +kernel
theorem dX11_boardOf_48 : decode cX11_boardOf 48 = .ok (.getfield 40, 3) := by decide +kernel
theorem dX11_boardOf_51 : decode cX11_boardOf 51 = .ok (.iload 5, 2) := by decide +kernel
theorem dX11_boardOf_53 : decode cX11_boardOf 53 = .ok (.iload_n 1, 1) := by decide +kernel
theorem dX11_boardOf_54 : decode cX11_boardOf 54 = .ok (.invokevirtual 409, 3) := by decide +kernel
theorem dX11_boardOf_57 : decode cX11_boardOf 57 = .ok (.ior, 1) := by decide +kernel
theorem dX11_boardOf_58 : decode cX11_boardOf 58 = .ok (.istore 4, 2) := by decide +kernel
theorem dX11_boardOf_60 : decode cX11_boardOf 60 = .ok (.iinc 5 1, 3) := by decide +kernel
theorem dX11_boardOf_63 : decode cX11_boardOf 63 = .ok (.goto (-47), 3) := by decide +kernel
theorem dX11_boardOf_66 : decode cX11_boardOf 66 = .ok (.iload 4, 2) := by decide +kernel
theorem dX11_boardOf_68 : decode cX11_boardOf 68 = .ok (.ireturn, 1) := by decide +kernel
theorem dX11_promisedDay_0 : decode cX11_promisedDay 0 = .ok (.aload_n 0, 1) := by decide +kernel
theorem dX11_promisedDay_1 : decode cX11_promisedDay 1 = .ok (.getfield 26, 3) := by decide +kernel
theorem dX11_promisedDay_4 : decode cX11_promisedDay 4 = .ok (.getfield 202, 3) := by decide +kernel
theorem dX11_promisedDay_7 : decode cX11_promisedDay 7 = .ok (.iload_n 1, 1) := by decide +kernel
theorem dX11_promisedDay_8 : decode cX11_promisedDay 8 = .ok (.iaload, 1) := by decide +kernel
theorem dX11_promisedDay_9 : decode cX11_promisedDay 9 = .ok (.istore_n 3, 1) := by decide +kernel
theorem dX11_promisedDay_10 : decode cX11_promisedDay 10 = .ok (.aload_n 0, 1) := by decide +kernel
theorem dX11_promisedDay_11 : decode cX11_promisedDay 11 = .ok (.getfield 19, 3) := by decide +kernel
theorem dX11_promisedDay_14 : decode cX11_promisedDay 14 = .ok (.iload_n 2, 1) := by decide +kernel
theorem dX11_promisedDay_15 : decode cX11_promisedDay 15 = .ok (.invokevirtual 221, 3) := by decide +kernel
theorem dX11_promisedDay_18 : decode cX11_promisedDay 18 = .ok (.istore 4, 2) := by decide +kernel
theorem dX11_promisedDay_20 : decode cX11_promisedDay 20 = .ok (.aload_n 0, 1) := by decide +kernel
theorem dX11_promisedDay_21 : decode cX11_promisedDay 21 = .ok (.getfield 96, 3) := by decide +kernel
theorem dX11_promisedDay_24 : decode cX11_promisedDay 24 = .ok (.istore 5, 2) := by decide +kernel
theorem dX11_promisedDay_26 : decode cX11_promisedDay 26 = .ok (.aload_n 0, 1) := by decide +kernel
theorem dX11_promisedDay_27 : decode cX11_promisedDay 27 = .ok (.getfield 19, 3) := by decide +kernel
theorem dX11_promisedDay_30 : decode cX11_promisedDay 30 = .ok (.getfield 190, 3) := by decide +kernel
theorem dX11_promisedDay_33 : decode cX11_promisedDay 33 = .ok (.iload_n 2, 1) := by decide +kernel
theorem dX11_promisedDay_34 : decode cX11_promisedDay 34 = .ok (.iaload, 1) := by decide +kernel
theorem dX11_promisedDay_35 : decode cX11_promisedDay 35 = .ok (.bipush 40, 2) := by decide +kernel
theorem dX11_promisedDay_37 : decode cX11_promisedDay 37 = .ok (.if_icmp .ne 6, 3) := by decide +kernel
theorem dX11_promisedDay_40 : decode cX11_promisedDay 40 = .ok (.bipush (-2), 2) := by decide +kernel
theorem dX11_promisedDay_42 : decode cX11_promisedDay 42 = .ok (.ireturn, 1) := by decide +kernel
theorem dX11_promisedDay_43 : decode cX11_promisedDay 43 = .ok (.iload 4, 2) := by decide +kernel
theorem dX11_promisedDay_45 : decode cX11_promisedDay 45 = .ok (.iconst (-1), 1) := by decide +kernel
theorem dX11_promisedDay_46 : decode cX11_promisedDay 46 = .ok (.if_icmp .eq 71, 3) := by decide +kernel
theorem dX11_promisedDay_49 : decode cX11_promisedDay 49 = .ok (.aload_n 0, 1) := by decide +kernel
theorem dX11_promisedDay_50 : decode cX11_promisedDay 50 = .ok (.getfield 26, 3) := by decide +kernel
theorem dX11_promisedDay_53 : decode cX11_promisedDay 53 = .ok (.getfield 202, 3) := by decide +kernel
theorem dX11_promisedDay_56 : decode cX11_promisedDay 56 = .ok (.iload 4, 2) := by decide +kernel
theorem dX11_promisedDay_58 : decode cX11_promisedDay 58 = .ok (.iaload, 1) := by decide +kernel
theorem dX11_promisedDay_59 : decode cX11_promisedDay 59 = .ok (.istore 6, 2) := by decide +kernel
theorem dX11_promisedDay_61 : decode cX11_promisedDay 61 = .ok (.aload_n 0, 1) := by decide +kernel
theorem dX11_promisedDay_62 : decode cX11_promisedDay 62 = .ok (.getfield 33, 3) := by decide +kernel
theorem dX11_promisedDay_65 : decode cX11_promisedDay 65 = .ok (.iload 6, 2) := by decide +kernel
theorem dX11_promisedDay_67 : decode cX11_promisedDay 67 = .ok (.aload_n 0, 1) := by decide +kernel
theorem dX11_promisedDay_68 : decode cX11_promisedDay 68 = .ok (.getfield 19, 3) := by decide +kernel
theorem dX11_promisedDay_71 : decode cX11_promisedDay 71 = .ok (.getfield 208, 3) := by decide +kernel
theorem dX11_promisedDay_74 : decode cX11_promisedDay 74 = .ok (.iload_n 2, 1) := by decide +kernel
theorem dX11_promisedDay_75 : decode cX11_promisedDay 75 = .ok (.iaload, 1) := by decide +kernel
theorem dX11_promisedDay_76 : decode cX11_promisedDay 76 = .ok (.aload_n 0, 1) := by decide +kernel
theorem dX11_promisedDay_77 : decode cX11_promisedDay 77 = .ok (.getfield 96, 3) := by decide +kernel
theorem dX11_promisedDay_80 : decode cX11_promisedDay 80 = .ok (.invokestatic 412, 3) := by decide +kernel
theorem dX11_promisedDay_83 : decode cX11_promisedDay 83 = .ok (.invokevirtual 415, 3) := by decide +kernel
theorem dX11_promisedDay_86 : decode cX11_promisedDay 86 = .ok (.istore 7, 2) := by decide +kernel
theorem dX11_promisedDay_88 : decode cX11_promisedDay 88 = .ok (.iload 7, 2) := by decide +kernel
theorem dX11_promisedDay_90 : decode cX11_promisedDay 90 = .ok (.iconst (-1), 1) := by decide +kernel
theorem dX11_promisedDay_91 : decode cX11_promisedDay 91 = .ok (.if_icmp .ne 6, 3) := by decide +kernel
theorem dX11_promisedDay_94 : decode cX11_promisedDay 94 = .ok (.bipush (-2), 2) := by decide +kernel
theorem dX11_promisedDay_96 : decode cX11_promisedDay 96 = .ok (.ireturn, 1) := by decide +kernel
theorem dX11_promisedDay_97 : decode cX11_promisedDay 97 = .ok (.iload 6, 2) := by decide +kernel
theorem dX11_promisedDay_99 : decode cX11_promisedDay 99 = .ok (.iload_n 3, 1) := by decide +kernel
theorem dX11_promisedDay_100 : decode cX11_promisedDay 100 = .ok (.if_icmp .ne 8, 3) := by decide +kernel
theorem dX11_promisedDay_103 : decode cX11_promisedDay 103 = .ok (.iload 7, 2) := by decide +kernel
theorem dX11_promisedDay_105 : decode cX11_promisedDay 105 = .ok (.goto 7, 3) := by decide +kernel
theorem dX11_promisedDay_108 : decode cX11_promisedDay 108 = .ok (.iload 7, 2) := by decide +kernel
theorem dX11_promisedDay_110 : decode cX11_promisedDay 110 = .ok (.iconst 1, 1) := by decide +kernel
theorem dX11_promisedDay_111 : decode cX11_promisedDay 111 = .ok (.iadd, 1) := by decide +kernel
theorem dX11_promisedDay_112 : decode cX11_promisedDay 112 = .ok (.istore 5, 2) := by decide +kernel
theorem dX11_promisedDay_114 : decode cX11_promisedDay 114 = .ok (.goto 20, 3) := by decide +kernel
theorem dX11_promisedDay_117 : decode cX11_promisedDay 117 = .ok (.aload_n 0, 1) := by decide +kernel
theorem dX11_promisedDay_118 : decode cX11_promisedDay 118 = .ok (.iload_n 2, 1) := by decide +kernel
theorem dX11_promisedDay_119 : decode cX11_promisedDay 119 = .ok (.iload_n 3, 1) := by decide +kernel
theorem dX11_promisedDay_120 : decode cX11_promisedDay 120 = .ok (.invokevirtual 418, 3) := by decide +kernel
theorem dX11_promisedDay_123 : decode cX11_promisedDay 123 = .ok (.ifCond .eq 11, 3) := by decide +kernel
theorem dX11_promisedDay_126 : decode cX11_promisedDay 126 = .ok (.aload_n 0, 1) := by decide +kernel
theorem dX11_promisedDay_127 : decode cX11_promisedDay 127 = .ok (.getfield 96, 3) := by decide +kernel
theorem dX11_promisedDay_130 : decode cX11_promisedDay 130 = .ok (.iconst 1, 1) := by decide +kernel
theorem dX11_promisedDay_131 : decode cX11_promisedDay 131 = .ok (.iadd, 1) := by decide +kernel
theorem dX11_promisedDay_132 : decode cX11_promisedDay 132 = .ok (.istore 5, 2) := by decide +kernel
theorem dX11_promisedDay_134 : decode cX11_promisedDay 134 = .ok (.aload_n 0, 1) := by decide +kernel
theorem dX11_promisedDay_135 : decode cX11_promisedDay 135 = .ok (.getfield 33, 3) := by decide +kernel
theorem dX11_promisedDay_138 : decode cX11_promisedDay 138 = .ok (.iload_n 3, 1) := by decide +kernel
theorem dX11_promisedDay_139 : decode cX11_promisedDay 139 = .ok (.iload 5, 2) := by decide +kernel
theorem dX11_promisedDay_141 : decode cX11_promisedDay 141 = .ok (.invokevirtual 415, 3) := by decide +kernel
theorem dX11_promisedDay_144 : decode cX11_promisedDay 144 = .ok (.istore 6, 2) := by decide +kernel
theorem dX11_promisedDay_146 : decode cX11_promisedDay 146 = .ok (.iload 6, 2) := by decide +kernel
theorem dX11_promisedDay_148 : decode cX11_promisedDay 148 = .ok (.iconst (-1), 1) := by decide +kernel
theorem dX11_promisedDay_149 : decode cX11_promisedDay 149 = .ok (.if_icmp .ne 8, 3) := by decide +kernel
theorem dX11_promisedDay_152 : decode cX11_promisedDay 152 = .ok (.bipush (-2), 2) := by decide +kernel
theorem dX11_promisedDay_154 : decode cX11_promisedDay 154 = .ok (.goto 5, 3) := by decide +kernel
theorem dX11_promisedDay_157 : decode cX11_promisedDay 157 = .ok (.iload 6, 2) := by decide +kernel
theorem dX11_promisedDay_159 : decode cX11_promisedDay 159 = .ok (.ireturn, 1) := by decide +kernel
theorem dX11_isElsewhereToday_0 : decode cX11_isElsewhereToday 0 = .ok (.aload_n 0, 1) := by decide +kernel
theorem dX11_isElsewhereToday_1 : decode cX11_isElsewhereToday 1 = .ok (.getfield 19, 3) := by decide +kernel
theorem dX11_isElsewhereToday_4 : decode cX11_isElsewhereToday 4 = .ok (.iload_n 1, 1) := by decide +kernel
theorem dX11_isElsewhereToday_5 : decode cX11_isElsewhereToday 5 = .ok (.invokevirtual 199, 3) := by decide +kernel
theorem dX11_isElsewhereToday_8 : decode cX11_isElsewhereToday 8 = .ok (.istore_n 3, 1) := by decide +kernel
theorem dX11_isElsewhereToday_9 : decode cX11_isElsewhereToday 9 = .ok (.iload_n 3, 1) := by decide +kernel
theorem dX11_isElsewhereToday_10 : decode cX11_isElsewhereToday 10 = .ok (.iconst (-1), 1) := by decide +kernel
theorem dX11_isElsewhereToday_11 : decode cX11_isElsewhereToday 11 = .ok (.if_icmp .eq 23, 3) := by decide +kernel
theorem dX11_isElsewhereToday_14 : decode cX11_isElsewhereToday 14 = .ok (.aload_n 0, 1) := by decide +kernel
theorem dX11_isElsewhereToday_15 : decode cX11_isElsewhereToday 15 = .ok (.getfield 33, 3) := by decide +kernel
theorem dX11_isElsewhereToday_18 : decode cX11_isElsewhereToday 18 = .ok (.iload_n 3, 1) := by decide +kernel
theorem dX11_isElsewhereToday_19 : decode cX11_isElsewhereToday 19 = .ok (.iload_n 2, 1) := by decide +kernel
theorem dX11_isElsewhereToday_20 : decode cX11_isElsewhereToday 20 = .ok (.aload_n 0, 1) := by decide +kernel
theorem dX11_isElsewhereToday_21 : decode cX11_isElsewhereToday 21 = .ok (.getfield 96, 3) := by decide +kernel
theorem dX11_isElsewhereToday_24 : decode cX11_isElsewhereToday 24 = .ok (.invokevirtual 182, 3) := by decide +kernel
theorem dX11_isElsewhereToday_27 : decode cX11_isElsewhereToday 27 = .ok (.ifCond .ne 7, 3) := by decide +kernel
theorem dX11_isElsewhereToday_30 : decode cX11_isElsewhereToday 30 = .ok (.iconst 1, 1) := by decide +kernel
theorem dX11_isElsewhereToday_31 : decode cX11_isElsewhereToday 31 = .ok (.goto 4, 3) := by decide +kernel
theorem dX11_isElsewhereToday_34 : decode cX11_isElsewhereToday 34 = .ok (.iconst 0, 1) := by decide +kernel
theorem dX11_isElsewhereToday_35 : decode cX11_isElsewhereToday 35 = .ok (.ireturn, 1) := by decide +kernel
theorem dX11_hindrance_0 : decode cX11_hindrance 0 = .ok (.aload_n 0, 1) := by decide +kernel
theorem dX11_hindrance_1 : decode cX11_hindrance 1 = .ok (.getfield 26, 3) := by decide +kernel
theorem dX11_hindrance_4 : decode cX11_hindrance 4 = .ok (.getfield 202, 3) := by decide +kernel
theorem dX11_hindrance_7 : decode cX11_hindrance 7 = .ok (.iload_n 1, 1) := by decide +kernel
theorem dX11_hindrance_8 : decode cX11_hindrance 8 = .ok (.iaload, 1) := by decide +kernel
theorem dX11_hindrance_9 : decode cX11_hindrance 9 = .ok (.istore 4, 2) := by decide +kernel
theorem dX11_hindrance_11 : decode cX11_hindrance 11 = .ok (.aload_n 0, 1) := by decide +kernel
theorem dX11_hindrance_12 : decode cX11_hindrance 12 = .ok (.getfield 33, 3) := by decide +kernel
theorem dX11_hindrance_15 : decode cX11_hindrance 15 = .ok (.iload 4, 2) := by decide +kernel
theorem dX11_hindrance_17 : decode cX11_hindrance 17 = .ok (.iload_n 3, 1) := by decide +kernel
theorem dX11_hindrance_18 : decode cX11_hindrance 18 = .ok (.invokevirtual 255, 3) := by decide +kernel
theorem dX11_hindrance_21 : decode cX11_hindrance 21 = .ok (.istore 5, 2) := by decide +kernel
theorem dX11_hindrance_23 : decode cX11_hindrance 23 = .ok (.aload_n 0, 1) := by decide +kernel
theorem dX11_hindrance_24 : decode cX11_hindrance 24 = .ok (.getfield 19, 3) := by decide +kernel
theorem dX11_hindrance_27 : decode cX11_hindrance 27 = .ok (.getfield 190, 3) := by decide +kernel
theorem dX11_hindrance_30 : decode cX11_hindrance 30 = .ok (.iload_n 2, 1) := by decide +kernel
theorem dX11_hindrance_31 : decode cX11_hindrance 31 = .ok (.iaload, 1) := by decide +kernel
theorem dX11_hindrance_32 : decode cX11_hindrance 32 = .ok (.bipush 40, 2) := by decide +kernel
theorem dX11_hindrance_34 : decode cX11_hindrance 34 = .ok (.if_icmp .ne 5, 3) := by decide +kernel
theorem dX11_hindrance_37 : decode cX11_hindrance 37 = .ok (.iconst 1, 1) := by decide +kernel
theorem dX11_hindrance_38 : decode cX11_hindrance 38 = .ok (.ireturn, 1) := by decide +kernel
theorem dX11_hindrance_39 : decode cX11_hindrance 39 = .ok (.iload 5, 2) := by decide +kernel
theorem dX11_hindrance_41 : decode cX11_hindrance 41 = .ok (.iconst (-1), 1) := by decide +kernel
theorem dX11_hindrance_42 : decode cX11_hindrance 42 = .ok (.if_icmp .ne 5, 3) := by decide +kernel
theorem dX11_hindrance_45 : decode cX11_hindrance 45 = .ok (.iconst 2, 1) := by decide +kernel
theorem dX11_hindrance_46 : decode cX11_hindrance 46 = .ok (.ireturn, 1) := by decide +kernel
theorem dX11_hindrance_47 : decode cX11_hindrance 47 = .ok (.aload_n 0, 1) := by decide +kernel
theorem dX11_hindrance_48 : decode cX11_hindrance 48 = .ok (.getfield 19, 3) := by decide +kernel
theorem dX11_hindrance_51 : decode cX11_hindrance 51 = .ok (.iload_n 2, 1) := by decide +kernel
theorem dX11_hindrance_52 : decode cX11_hindrance 52 = .ok (.invokevirtual 221, 3) := by decide +kernel
theorem dX11_hindrance_55 : decode cX11_hindrance 55 = .ok (.iconst (-1), 1) := by decide +kernel
theorem dX11_hindrance_56 : decode cX11_hindrance 56 = .ok (.if_icmp .eq 26, 3) := by decide +kernel
theorem dX11_hindrance_59 : decode cX11_hindrance 59 = .ok (.aload_n 0, 1) := by decide +kernel
theorem dX11_hindrance_60 : decode cX11_hindrance 60 = .ok (.iload_n 1, 1) := by decide +kernel
theorem dX11_hindrance_61 : decode cX11_hindrance 61 = .ok (.iload_n 2, 1) := by decide +kernel
theorem dX11_hindrance_62 : decode cX11_hindrance 62 = .ok (.invokevirtual 272, 3) := by decide +kernel
theorem dX11_hindrance_65 : decode cX11_hindrance 65 = .ok (.istore 6, 2) := by decide +kernel
theorem dX11_hindrance_67 : decode cX11_hindrance 67 = .ok (.iload 6, 2) := by decide +kernel
theorem dX11_hindrance_69 : decode cX11_hindrance 69 = .ok (.bipush (-2), 2) := by decide +kernel
theorem dX11_hindrance_71 : decode cX11_hindrance 71 = .ok (.if_icmp .eq 9, 3) := by decide +kernel
theorem dX11_hindrance_74 : decode cX11_hindrance 74 = .ok (.iload 6, 2) := by decide +kernel
theorem dX11_hindrance_76 : decode cX11_hindrance 76 = .ok (.iload_n 3, 1) := by decide +kernel
theorem dX11_hindrance_77 : decode cX11_hindrance 77 = .ok (.if_icmp .le 5, 3) := by decide +kernel
theorem dX11_hindrance_80 : decode cX11_hindrance 80 = .ok (.iconst 3, 1) := by decide +kernel
theorem dX11_hindrance_81 : decode cX11_hindrance 81 = .ok (.ireturn, 1) := by decide +kernel
theorem dX11_hindrance_82 : decode cX11_hindrance 82 = .ok (.iload_n 3, 1) := by decide +kernel
theorem dX11_hindrance_83 : decode cX11_hindrance 83 = .ok (.aload_n 0, 1) := by decide +kernel
theorem dX11_hindrance_84 : decode cX11_hindrance 84 = .ok (.getfield 96, 3) := by decide +kernel
theorem dX11_hindrance_87 : decode cX11_hindrance 87 = .ok (.if_icmp .ne 15, 3) := by decide +kernel
theorem dX11_hindrance_90 : decode cX11_hindrance 90 = .ok (.aload_n 0, 1) := by decide +kernel
theorem dX11_hindrance_91 : decode cX11_hindrance 91 = .ok (.iload_n 2, 1) := by decide +kernel
theorem dX11_hindrance_92 : decode cX11_hindrance 92 = .ok (.iload 4, 2) := by decide +kernel
theorem dX11_hindrance_94 : decode cX11_hindrance 94 = .ok (.invokevirtual 418, 3) := by decide +kernel
theorem dX11_hindrance_97 : decode cX11_hindrance 97 = .ok (.ifCond .eq 5, 3) := by decide +kernel
theorem dX11_hindrance_100 : decode cX11_hindrance 100 = .ok (.iconst 4, 1) := by decide +kernel
theorem dX11_hindrance_101 : decode cX11_hindrance 101 = .ok (.ireturn, 1) := by decide +kernel
theorem dX11_hindrance_102 : decode cX11_hindrance 102 = .ok (.aload_n 0, 1) := by decide +kernel
theorem dX11_hindrance_103 : decode cX11_hindrance 103 = .ok (.getfield 40, 3) := by decide +kernel
theorem dX11_hindrance_106 : decode cX11_hindrance 106 = .ok (.iload_n 1, 1) := by decide +kernel
theorem dX11_hindrance_107 : decode cX11_hindrance 107 = .ok (.iload_n 2, 1) := by decide +kernel
theorem dX11_hindrance_108 : decode cX11_hindrance 108 = .ok (.aload_n 0, 1) := by decide +kernel
theorem dX11_hindrance_109 : decode cX11_hindrance 109 = .ok (.getfield 96, 3) := by decide +kernel
theorem dX11_hindrance_112 : decode cX11_hindrance 112 = .ok (.invokevirtual 421, 3) := by decide +kernel
theorem dX11_hindrance_115 : decode cX11_hindrance 115 = .ok (.ifCond .eq 5, 3) := by decide +kernel
theorem dX11_hindrance_118 : decode cX11_hindrance 118 = .ok (.iconst 5, 1) := by decide +kernel
theorem dX11_hindrance_119 : decode cX11_hindrance 119 = .ok (.ireturn, 1) := by decide +kernel
theorem dX11_hindrance_120 : decode cX11_hindrance 120 = .ok (.aload_n 0, 1) := by decide +kernel
theorem dX11_hindrance_121 : decode cX11_hindrance 121 = .ok (.getfield 19, 3) := by decide +kernel
theorem dX11_hindrance_124 : decode cX11_hindrance 124 = .ok (.aload_n 0, 1) := by decide +kernel
theorem dX11_hindrance_125 : decode cX11_hindrance 125 = .ok (.iload_n 3, 1) := by decide +kernel
theorem dX11_hindrance_126 : decode cX11_hindrance 126 = .ok (.iload 5, 2) := by decide +kernel
theorem dX11_hindrance_128 : decode cX11_hindrance 128 = .ok (.invokevirtual 263, 3) := by decide +kernel
theorem dX11_hindrance_131 : decode cX11_hindrance 131 = .ok (.invokevirtual 424, 3) := by decide +kernel
theorem dX11_hindrance_134 : decode cX11_hindrance 134 = .ok (.aload_n 0, 1) := by decide +kernel
theorem dX11_hindrance_135 : decode cX11_hindrance 135 = .ok (.getfield 76, 3) := by decide +kernel
theorem dX11_hindrance_138 : decode cX11_hindrance 138 = .ok (.iload 5, 2) := by decide +kernel
theorem dX11_hindrance_140 : decode cX11_hindrance 140 = .ok (.iaload, 1) := by decide +kernel
theorem dX11_hindrance_141 : decode cX11_hindrance 141 = .ok (.if_icmp .le 8, 3) := by decide +kernel
theorem dX11_hindrance_144 : decode cX11_hindrance 144 = .ok (.bipush 6, 2) := by decide +kernel
theorem dX11_hindrance_146 : decode cX11_hindrance 146 = .ok (.goto 4, 3) := by decide +kernel
theorem dX11_hindrance_149 : decode cX11_hindrance 149 = .ok (.iconst 0, 1) := by decide +kernel
theorem dX11_hindrance_150 : decode cX11_hindrance 150 = .ok (.ireturn, 1) := by decide +kernel
theorem dX11_readersOf_0 : decode cX11_readersOf 0 = .ok (.iconst 0, 1) := by decide +kernel
theorem dX11_readersOf_1 : decode cX11_readersOf 1 = .ok (.istore_n 2, 1) := by decide +kernel
theorem dX11_readersOf_2 : decode cX11_readersOf 2 = .ok (.iconst 0, 1) := by decide +kernel
theorem dX11_readersOf_3 : decode cX11_readersOf 3 = .ok (.istore_n 3, 1) := by decide +kernel
theorem dX11_readersOf_4 : decode cX11_readersOf 4 = .ok (.iload_n 3, 1) := by decide +kernel
theorem dX11_readersOf_5 : decode cX11_readersOf 5 = .ok (.aload_n 0, 1) := by decide +kernel
theorem dX11_readersOf_6 : decode cX11_readersOf 6 = .ok (.getfield 33, 3) := by decide +kernel
theorem dX11_readersOf_9 : decode cX11_readersOf 9 = .ok (.getfield 374, 3) := by decide +kernel
theorem dX11_readersOf_12 : decode cX11_readersOf 12 = .ok (.if_icmp .ge 29, 3) := by decide +kernel
theorem dX11_readersOf_15 : decode cX11_readersOf 15 = .ok (.iload_n 1, 1) := by decide +kernel
theorem dX11_readersOf_16 : decode cX11_readersOf 16 = .ok (.iload_n 3, 1) := by decide +kernel
theorem dX11_readersOf_17 : decode cX11_readersOf 17 = .ok (.invokestatic 320, 3) := by decide +kernel
theorem dX11_readersOf_20 : decode cX11_readersOf 20 = .ok (.ifCond .eq 15, 3) := by decide +kernel
theorem dX11_readersOf_23 : decode cX11_readersOf 23 = .ok (.iload_n 2, 1) := by decide +kernel
theorem dX11_readersOf_24 : decode cX11_readersOf 24 = .ok (.aload_n 0, 1) := by decide +kernel
theorem dX11_readersOf_25 : decode cX11_readersOf 25 = .ok (.getfield 33, 3) := by decide +kernel
theorem dX11_readersOf_28 : decode cX11_readersOf 28 = .ok (.getfield 129, 3) := by decide +kernel
theorem dX11_readersOf_31 : decode cX11_readersOf 31 = .ok (.iload_n 3, 1) := by decide +kernel
theorem dX11_readersOf_32 : decode cX11_readersOf 32 = .ok (.iaload, 1) := by decide +kernel
theorem dX11_readersOf_33 : decode cX11_readersOf 33 = .ok (.ior, 1) := by decide +kernel
theorem dX11_readersOf_34 : decode cX11_readersOf 34 = .ok (.istore_n 2, 1) := by decide +kernel
theorem dX11_readersOf_35 : decode cX11_readersOf 35 = .ok (.iinc 3 1, 3) := by decide +kernel
theorem dX11_readersOf_38 : decode cX11_readersOf 38 = .ok (.goto (-34), 3) := by decide +kernel
theorem dX11_readersOf_41 : decode cX11_readersOf 41 = .ok (.iload_n 2, 1) := by decide +kernel
theorem dX11_readersOf_42 : decode cX11_readersOf 42 = .ok (.ireturn, 1) := by decide +kernel
theorem dX11_readersToday_0 : decode cX11_readersToday 0 = .ok (.aload_n 0, 1) := by decide +kernel
theorem dX11_readersToday_1 : decode cX11_readersToday 1 = .ok (.aload_n 0, 1) := by decide +kernel
theorem dX11_readersToday_2 : decode cX11_readersToday 2 = .ok (.getfield 33, 3) := by decide +kernel
theorem dX11_readersToday_5 : decode cX11_readersToday 5 = .ok (.iload_n 1, 1) := by decide +kernel
theorem dX11_readersToday_6 : decode cX11_readersToday 6 = .ok (.aload_n 0, 1) := by decide +kernel
theorem dX11_readersToday_7 : decode cX11_readersToday 7 = .ok (.getfield 96, 3) := by decide +kernel
theorem dX11_readersToday_10 : decode cX11_readersToday 10 = .ok (.invokevirtual 350, 3) := by decide +kernel
theorem dX11_readersToday_13 : decode cX11_readersToday 13 = .ok (.invokevirtual 427, 3) := by decide +kernel
theorem dX11_readersToday_16 : decode cX11_readersToday 16 = .ok (.ireturn, 1) := by decide +kernel
theorem dX11_readersTold_0 : decode cX11_readersTold 0 = .ok (.iconst 0, 1) := by decide +kernel
theorem dX11_readersTold_1 : decode cX11_readersTold 1 = .ok (.istore_n 2, 1) := by decide +kernel
theorem dX11_readersTold_2 : decode cX11_readersTold 2 = .ok (.iconst 0, 1) := by decide +kernel
theorem dX11_readersTold_3 : decode cX11_readersTold 3 = .ok (.istore_n 3, 1) := by decide +kernel
theorem dX11_readersTold_4 : decode cX11_readersTold 4 = .ok (.iload_n 3, 1) := by decide +kernel
theorem dX11_readersTold_5 : decode cX11_readersTold 5 = .ok (.aload_n 0, 1) := by decide +kernel
theorem dX11_readersTold_6 : decode cX11_readersTold 6 = .ok (.getfield 33, 3) := by decide +kernel
theorem dX11_readersTold_9 : decode cX11_readersTold 9 = .ok (.getfield 374, 3) := by decide +kernel
theorem dX11_readersTold_12 : decode cX11_readersTold 12 = .ok (.if_icmp .ge 34, 3) := by decide +kernel
theorem dX11_readersTold_15 : decode cX11_readersTold 15 = .ok (.aload_n 0, 1) := by decide +kernel
theorem dX11_readersTold_16 : decode cX11_readersTold 16 = .ok (.getfield 33, 3) := by decide +kernel
theorem dX11_readersTold_19 : decode cX11_readersTold 19 = .ok (.getfield 430, 3) := by decide +kernel
theorem dX11_readersTold_22 : decode cX11_readersTold 22 = .ok (.iload_n 3, 1) := by decide +kernel
theorem dX11_readersTold_23 : decode cX11_readersTold 23 = .ok (.iaload, 1) := by decide +kernel
theorem dX11_readersTold_24 : decode cX11_readersTold 24 = .ok (.iload_n 1, 1) := by decide +kernel
theorem dX11_readersTold_25 : decode cX11_readersTold 25 = .ok (.if_icmp .ne 15, 3) := by decide +kernel
theorem dX11_readersTold_28 : decode cX11_readersTold 28 = .ok (.iload_n 2, 1) := by decide +kernel
theorem dX11_readersTold_29 : decode cX11_readersTold 29 = .ok (.aload_n 0, 1) := by decide +kernel
theorem dX11_readersTold_30 : decode cX11_readersTold 30 = .ok (.getfield 33, 3) := by decide +kernel
theorem dX11_readersTold_33 : decode cX11_readersTold 33 = .ok (.getfield 129, 3) := by decide +kernel
theorem dX11_readersTold_36 : decode cX11_readersTold 36 = .ok (.iload_n 3, 1) := by decide +kernel
theorem dX11_readersTold_37 : decode cX11_readersTold 37 = .ok (.iaload, 1) := by decide +kernel
theorem dX11_readersTold_38 : decode cX11_readersTold 38 = .ok (.ior, 1) := by decide +kernel
theorem dX11_readersTold_39 : decode cX11_readersTold 39 = .ok (.istore_n 2, 1) := by decide +kernel
theorem dX11_readersTold_40 : decode cX11_readersTold 40 = .ok (.iinc 3 1, 3) := by decide +kernel
theorem dX11_readersTold_43 : decode cX11_readersTold 43 = .ok (.goto (-39), 3) := by decide +kernel
theorem dX11_readersTold_46 : decode cX11_readersTold 46 = .ok (.iload_n 2, 1) := by decide +kernel
theorem dX11_readersTold_47 : decode cX11_readersTold 47 = .ok (.ireturn, 1) := by decide +kernel
theorem dX11_wantersOf_0 : decode cX11_wantersOf 0 = .ok (.iconst 0, 1) := by decide +kernel
theorem dX11_wantersOf_1 : decode cX11_wantersOf 1 = .ok (.istore 4, 2) := by decide +kernel
theorem dX11_wantersOf_3 : decode cX11_wantersOf 3 = .ok (.iconst 0, 1) := by decide +kernel
theorem dX11_wantersOf_4 : decode cX11_wantersOf 4 = .ok (.istore 5, 2) := by decide +kernel
theorem dX11_wantersOf_6 : decode cX11_wantersOf 6 = .ok (.iload 5, 2) := by decide +kernel
theorem dX11_wantersOf_8 : decode cX11_wantersOf 8 = .ok (.aload_n 0, 1) := by decide +kernel
theorem dX11_wantersOf_9 : decode cX11_wantersOf 9 = .ok (.getfield 26, 3) := by decide +kernel
theorem dX11_wantersOf_12 : decode cX11_wantersOf 12 = .ok (.getfield 278, 3) := by decide +kernel
theorem dX11_wantersOf_15 : decode cX11_wantersOf 15 = .ok (.if_icmp .ge 46, 3) := by decide +kernel
theorem dX11_wantersOf_18 : decode cX11_wantersOf 18 = .ok (.iload_n 2, 1) := by decide +kernel
theorem dX11_wantersOf_19 : decode cX11_wantersOf 19 = .ok (.iload 5, 2) := by decide +kernel
theorem dX11_wantersOf_21 : decode cX11_wantersOf 21 = .ok (.invokestatic 320, 3) := by decide +kernel
theorem dX11_wantersOf_24 : decode cX11_wantersOf 24 = .ok (.ifCond .eq 31, 3) := by decide +kernel
theorem dX11_wantersOf_27 : decode cX11_wantersOf 27 = .ok (.aload_n 0, 1) := by decide +kernel
theorem dX11_wantersOf_28 : decode cX11_wantersOf 28 = .ok (.getfield 56, 3) := by decide +kernel
theorem dX11_wantersOf_31 : decode cX11_wantersOf 31 = .ok (.iload 5, 2) := by decide +kernel
theorem dX11_wantersOf_33 : decode cX11_wantersOf 33 = .ok (.iload_n 1, 1) := by decide +kernel
theorem dX11_wantersOf_34 : decode cX11_wantersOf 34 = .ok (.iconst 0, 1) := by decide +kernel
theorem dX11_wantersOf_35 : decode cX11_wantersOf 35 = .ok (.aload_n 0, 1) := by decide +kernel
theorem dX11_wantersOf_36 : decode cX11_wantersOf 36 = .ok (.getfield 96, 3) := by decide +kernel
theorem dX11_wantersOf_39 : decode cX11_wantersOf 39 = .ok (.invokevirtual 175, 3) := by decide +kernel
theorem dX11_wantersOf_42 : decode cX11_wantersOf 42 = .ok (.iload_n 3, 1) := by decide +kernel
theorem dX11_wantersOf_43 : decode cX11_wantersOf 43 = .ok (.if_icmp .lt 12, 3) := by decide +kernel
theorem dX11_wantersOf_46 : decode cX11_wantersOf 46 = .ok (.iload 4, 2) := by decide +kernel
theorem dX11_wantersOf_48 : decode cX11_wantersOf 48 = .ok (.iconst 1, 1) := by decide +kernel
theorem dX11_wantersOf_49 : decode cX11_wantersOf 49 = .ok (.iload 5, 2) := by decide +kernel
theorem dX11_wantersOf_51 : decode cX11_wantersOf 51 = .ok (.ishl, 1) := by decide +kernel
theorem dX11_wantersOf_52 : decode cX11_wantersOf 52 = .ok (.ior, 1) := by decide +kernel
theorem dX11_wantersOf_53 : decode cX11_wantersOf 53 = .ok (.istore 4, 2) := by decide +kernel
theorem dX11_wantersOf_55 : decode cX11_wantersOf 55 = .ok (.iinc 5 1, 3) := by decide +kernel
theorem dX11_wantersOf_58 : decode cX11_wantersOf 58 = .ok (.goto (-52), 3) := by decide +kernel
theorem dX11_wantersOf_61 : decode cX11_wantersOf 61 = .ok (.iload 4, 2) := by decide +kernel
theorem dX11_wantersOf_63 : decode cX11_wantersOf 63 = .ok (.ireturn, 1) := by decide +kernel
theorem dX11_wantedOf_0 : decode cX11_wantedOf 0 = .ok (.iconst 0, 1) := by decide +kernel
theorem dX11_wantedOf_1 : decode cX11_wantedOf 1 = .ok (.istore 4, 2) := by decide +kernel
theorem dX11_wantedOf_3 : decode cX11_wantedOf 3 = .ok (.iconst 0, 1) := by decide +kernel
theorem dX11_wantedOf_4 : decode cX11_wantedOf 4 = .ok (.istore 5, 2) := by decide +kernel
theorem dX11_wantedOf_6 : decode cX11_wantedOf 6 = .ok (.iload 5, 2) := by decide +kernel
theorem dX11_wantedOf_8 : decode cX11_wantedOf 8 = .ok (.aload_n 0, 1) := by decide +kernel
theorem dX11_wantedOf_9 : decode cX11_wantedOf 9 = .ok (.getfield 19, 3) := by decide +kernel
theorem dX11_wantedOf_12 : decode cX11_wantedOf 12 = .ok (.getfield 335, 3) := by decide +kernel
theorem dX11_wantedOf_15 : decode cX11_wantedOf 15 = .ok (.if_icmp .ge 46, 3) := by decide +kernel
theorem dX11_wantedOf_18 : decode cX11_wantedOf 18 = .ok (.iload_n 2, 1) := by decide +kernel
theorem dX11_wantedOf_19 : decode cX11_wantedOf 19 = .ok (.iload 5, 2) := by decide +kernel
theorem dX11_wantedOf_21 : decode cX11_wantedOf 21 = .ok (.invokestatic 320, 3) := by decide +kernel
theorem dX11_wantedOf_24 : decode cX11_wantedOf 24 = .ok (.ifCond .eq 31, 3) := by decide +kernel
theorem dX11_wantedOf_27 : decode cX11_wantedOf 27 = .ok (.aload_n 0, 1) := by decide +kernel
theorem dX11_wantedOf_28 : decode cX11_wantedOf 28 = .ok (.getfield 56, 3) := by decide +kernel
theorem dX11_wantedOf_31 : decode cX11_wantedOf 31 = .ok (.iload_n 1, 1) := by decide +kernel
theorem dX11_wantedOf_32 : decode cX11_wantedOf 32 = .ok (.iload 5, 2) := by decide +kernel
theorem dX11_wantedOf_34 : decode cX11_wantedOf 34 = .ok (.iconst 0, 1) := by decide +kernel
theorem dX11_wantedOf_35 : decode cX11_wantedOf 35 = .ok (.aload_n 0, 1) := by decide +kernel
theorem dX11_wantedOf_36 : decode cX11_wantedOf 36 = .ok (.getfield 96, 3) := by decide +kernel
theorem dX11_wantedOf_39 : decode cX11_wantedOf 39 = .ok (.invokevirtual 175, 3) := by decide +kernel
theorem dX11_wantedOf_42 : decode cX11_wantedOf 42 = .ok (.iload_n 3, 1) := by decide +kernel
theorem dX11_wantedOf_43 : decode cX11_wantedOf 43 = .ok (.if_icmp .lt 12, 3) := by decide +kernel
theorem dX11_wantedOf_46 : decode cX11_wantedOf 46 = .ok (.iload 4, 2) := by decide +kernel
theorem dX11_wantedOf_48 : decode cX11_wantedOf 48 = .ok (.iconst 1, 1) := by decide +kernel
theorem dX11_wantedOf_49 : decode cX11_wantedOf 49 = .ok (.iload 5, 2) := by decide +kernel
theorem dX11_wantedOf_51 : decode cX11_wantedOf 51 = .ok (.ishl, 1) := by decide +kernel
theorem dX11_wantedOf_52 : decode cX11_wantedOf 52 = .ok (.ior, 1) := by decide +kernel
theorem dX11_wantedOf_53 : decode cX11_wantedOf 53 = .ok (.istore 4, 2) := by decide +kernel
theorem dX11_wantedOf_55 : decode cX11_wantedOf 55 = .ok (.iinc 5 1, 3) := by decide +kernel
theorem dX11_wantedOf_58 : decode cX11_wantedOf 58 = .ok (.goto (-52), 3) := by decide +kernel
theorem dX11_wantedOf_61 : decode cX11_wantedOf 61 = .ok (.iload 4, 2) := by decide +kernel
theorem dX11_wantedOf_63 : decode cX11_wantedOf 63 = .ok (.ireturn, 1) := by decide +kernel
theorem dX11_gatherLoad_0 : decode cX11_gatherLoad 0 = .ok (.aload_n 0, 1) := by decide +kernel
theorem dX11_gatherLoad_1 : decode cX11_gatherLoad 1 = .ok (.iload_n 1, 1) := by decide +kernel
theorem dX11_gatherLoad_2 : decode cX11_gatherLoad 2 = .ok (.invokevirtual 314, 3) := by decide +kernel
theorem dX11_gatherLoad_5 : decode cX11_gatherLoad 5 = .ok (.istore_n 3, 1) := by decide +kernel
theorem dX11_gatherLoad_6 : decode cX11_gatherLoad 6 = .ok (.aload_n 0, 1) := by decide +kernel
theorem dX11_gatherLoad_7 : decode cX11_gatherLoad 7 = .ok (.aload_n 0, 1) := by decide +kernel
theorem dX11_gatherLoad_8 : decode cX11_gatherLoad 8 = .ok (.getfield 96, 3) := by decide +kernel
theorem dX11_gatherLoad_11 : decode cX11_gatherLoad 11 = .ok (.iload_n 1, 1) := by decide +kernel
theorem dX11_gatherLoad_12 : decode cX11_gatherLoad 12 = .ok (.invokevirtual 263, 3) := by decide +kernel
theorem dX11_gatherLoad_15 : decode cX11_gatherLoad 15 = .ok (.istore 4, 2) := by decide +kernel
theorem dX11_gatherLoad_17 : decode cX11_gatherLoad 17 = .ok (.aload_n 0, 1) := by decide +kernel
theorem dX11_gatherLoad_18 : decode cX11_gatherLoad 18 = .ok (.getfield 72, 3) := by decide +kernel
theorem dX11_gatherLoad_21 : decode cX11_gatherLoad 21 = .ok (.invokevirtual 433, 3) := by decide +kernel
theorem dX11_gatherLoad_24 : decode cX11_gatherLoad 24 = .ok (.iconst 0, 1) := by decide +kernel
theorem dX11_gatherLoad_25 : decode cX11_gatherLoad 25 = .ok (.istore 5, 2) := by decide +kernel
theorem dX11_gatherLoad_27 : decode cX11_gatherLoad 27 = .ok (.iload 5, 2) := by decide +kernel
theorem dX11_gatherLoad_29 : decode cX11_gatherLoad 29 = .ok (.aload_n 0, 1) := by decide +kernel
theorem dX11_gatherLoad_30 : decode cX11_gatherLoad 30 = .ok (.getfield 19, 3) := by decide +kernel
theorem dX11_gatherLoad_33 : decode cX11_gatherLoad 33 = .ok (.getfield 335, 3) := by decide +kernel
theorem dX11_gatherLoad_36 : decode cX11_gatherLoad 36 = .ok (.if_icmp .ge 114, 3) := by decide +kernel
theorem dX11_gatherLoad_39 : decode cX11_gatherLoad 39 = .ok (.aload_n 0, 1) := by decide +kernel
theorem dX11_gatherLoad_40 : decode cX11_gatherLoad 40 = .ok (.getfield 72, 3) := by decide +kernel
theorem dX11_gatherLoad_43 : decode cX11_gatherLoad 43 = .ok (.getfield 434, 3) := by decide +kernel
theorem dX11_gatherLoad_46 : decode cX11_gatherLoad 46 = .ok (.bipush 12, 2) := by decide +kernel
theorem dX11_gatherLoad_48 : decode cX11_gatherLoad 48 = .ok (.if_icmp .ge 102, 3) := by decide +kernel
theorem dX11_gatherLoad_51 : decode cX11_gatherLoad 51 = .ok (.aload_n 0, 1) := by decide +kernel
theorem dX11_gatherLoad_52 : decode cX11_gatherLoad 52 = .ok (.getfield 19, 3) := by decide +kernel
theorem dX11_gatherLoad_55 : decode cX11_gatherLoad 55 = .ok (.getfield 190, 3) := by decide +kernel
theorem dX11_gatherLoad_58 : decode cX11_gatherLoad 58 = .ok (.iload 5, 2) := by decide +kernel
theorem dX11_gatherLoad_60 : decode cX11_gatherLoad 60 = .ok (.iaload, 1) := by decide +kernel
theorem dX11_gatherLoad_61 : decode cX11_gatherLoad 61 = .ok (.ifCond .eq 16, 3) := by decide +kernel
theorem dX11_gatherLoad_64 : decode cX11_gatherLoad 64 = .ok (.aload_n 0, 1) := by decide +kernel
theorem dX11_gatherLoad_65 : decode cX11_gatherLoad 65 = .ok (.getfield 19, 3) := by decide +kernel
theorem dX11_gatherLoad_68 : decode cX11_gatherLoad 68 = .ok (.iload 5, 2) := by decide +kernel
theorem dX11_gatherLoad_70 : decode cX11_gatherLoad 70 = .ok (.invokevirtual 199, 3) := by decide +kernel
theorem dX11_gatherLoad_73 : decode cX11_gatherLoad 73 = .ok (.iload_n 1, 1) := by decide +kernel
theorem dX11_gatherLoad_74 : decode cX11_gatherLoad 74 = .ok (.if_icmp .ne 7, 3) := by decide +kernel
theorem dX11_gatherLoad_77 : decode cX11_gatherLoad 77 = .ok (.iconst 1, 1) := by decide +kernel
theorem dX11_gatherLoad_78 : decode cX11_gatherLoad 78 = .ok (.goto 4, 3) := by decide +kernel
theorem dX11_gatherLoad_81 : decode cX11_gatherLoad 81 = .ok (.iconst 0, 1) := by decide +kernel
theorem dX11_gatherLoad_82 : decode cX11_gatherLoad 82 = .ok (.istore 6, 2) := by decide +kernel
theorem dX11_gatherLoad_84 : decode cX11_gatherLoad 84 = .ok (.iload 6, 2) := by decide +kernel
theorem dX11_gatherLoad_86 : decode cX11_gatherLoad 86 = .ok (.ifCond .eq 14, 3) := by decide +kernel
theorem dX11_gatherLoad_89 : decode cX11_gatherLoad 89 = .ok (.aload_n 0, 1) := by decide +kernel
theorem dX11_gatherLoad_90 : decode cX11_gatherLoad 90 = .ok (.iload 5, 2) := by decide +kernel
theorem dX11_gatherLoad_92 : decode cX11_gatherLoad 92 = .ok (.iload_n 3, 1) := by decide +kernel
theorem dX11_gatherLoad_93 : decode cX11_gatherLoad 93 = .ok (.iload_n 2, 1) := by decide +kernel
theorem dX11_gatherLoad_94 : decode cX11_gatherLoad 94 = .ok (.invokevirtual 336, 3) := by decide +kernel
theorem dX11_gatherLoad_97 : decode cX11_gatherLoad 97 = .ok (.goto 4, 3) := by decide +kernel
theorem dX11_gatherLoad_100 : decode cX11_gatherLoad 100 = .ok (.iconst 0, 1) := by decide +kernel
theorem dX11_gatherLoad_101 : decode cX11_gatherLoad 101 = .ok (.istore 7, 2) := by decide +kernel
theorem dX11_gatherLoad_103 : decode cX11_gatherLoad 103 = .ok (.iload 4, 2) := by decide +kernel
theorem dX11_gatherLoad_105 : decode cX11_gatherLoad 105 = .ok (.iload 5, 2) := by decide +kernel
theorem dX11_gatherLoad_107 : decode cX11_gatherLoad 107 = .ok (.invokestatic 320, 3) := by decide +kernel
theorem dX11_gatherLoad_110 : decode cX11_gatherLoad 110 = .ok (.istore 8, 2) := by decide +kernel
theorem dX11_gatherLoad_112 : decode cX11_gatherLoad 112 = .ok (.iload 6, 2) := by decide +kernel
theorem dX11_gatherLoad_114 : decode cX11_gatherLoad 114 = .ok (.ifCond .eq 30, 3) := by decide +kernel
theorem dX11_gatherLoad_117 : decode cX11_gatherLoad 117 = .ok (.iload 8, 2) := by decide +kernel
theorem dX11_gatherLoad_119 : decode cX11_gatherLoad 119 = .ok (.ifCond .ne 8, 3) := by decide +kernel
theorem dX11_gatherLoad_122 : decode cX11_gatherLoad 122 = .ok (.iload 7, 2) := by decide +kernel
theorem dX11_gatherLoad_124 : decode cX11_gatherLoad 124 = .ok (.ifCond .eq 20, 3) := by decide +kernel
theorem dX11_gatherLoad_127 : decode cX11_gatherLoad 127 = .ok (.aload_n 0, 1) := by decide +kernel
theorem dX11_gatherLoad_128 : decode cX11_gatherLoad 128 = .ok (.getfield 72, 3) := by decide +kernel
theorem dX11_gatherLoad_131 : decode cX11_gatherLoad 131 = .ok (.iload 5, 2) := by decide +kernel
theorem dX11_gatherLoad_133 : decode cX11_gatherLoad 133 = .ok (.iload 7, 2) := by decide +kernel
theorem dX11_gatherLoad_135 : decode cX11_gatherLoad 135 = .ok (.iload 8, 2) := by decide +kernel
theorem dX11_gatherLoad_137 : decode cX11_gatherLoad 137 = .ok (.aload_n 0, 1) := by decide +kernel
theorem dX11_gatherLoad_138 : decode cX11_gatherLoad 138 = .ok (.getfield 19, 3) := by decide +kernel
theorem dX11_gatherLoad_141 : decode cX11_gatherLoad 141 = .ok (.invokevirtual 435, 3) := by decide +kernel
theorem dX11_gatherLoad_144 : decode cX11_gatherLoad 144 = .ok (.iinc 5 1, 3) := by decide +kernel
theorem dX11_gatherLoad_147 : decode cX11_gatherLoad 147 = .ok (.goto (-120), 3) := by decide +kernel
theorem dX11_gatherLoad_150 : decode cX11_gatherLoad 150 = .ok (.return_, 1) := by decide +kernel
theorem dX11_milesSaved_0 : decode cX11_milesSaved 0 = .ok (.aload_n 0, 1) := by decide +kernel
theorem dX11_milesSaved_1 : decode cX11_milesSaved 1 = .ok (.getfield 33, 3) := by decide +kernel
theorem dX11_milesSaved_4 : decode cX11_milesSaved 4 = .ok (.iload_n 1, 1) := by decide +kernel
theorem dX11_milesSaved_5 : decode cX11_milesSaved 5 = .ok (.invokevirtual 439, 3) := by decide +kernel
theorem dX11_milesSaved_8 : decode cX11_milesSaved 8 = .ok (.istore_n 2, 1) := by decide +kernel
theorem dX11_milesSaved_9 : decode cX11_milesSaved 9 = .ok (.aload_n 0, 1) := by decide +kernel
theorem dX11_milesSaved_10 : decode cX11_milesSaved 10 = .ok (.getfield 65, 3) := by decide +kernel
theorem dX11_milesSaved_13 : decode cX11_milesSaved 13 = .ok (.iload_n 2, 1) := by decide +kernel
theorem dX11_milesSaved_14 : decode cX11_milesSaved 14 = .ok (.invokevirtual 353, 3) := by decide +kernel
theorem dX11_milesSaved_17 : decode cX11_milesSaved 17 = .ok (.istore_n 3, 1) := by decide +kernel
theorem dX11_milesSaved_18 : decode cX11_milesSaved 18 = .ok (.aload_n 0, 1) := by decide +kernel
theorem dX11_milesSaved_19 : decode cX11_milesSaved 19 = .ok (.getfield 65, 3) := by decide +kernel
theorem dX11_milesSaved_22 : decode cX11_milesSaved 22 = .ok (.iload_n 2, 1) := by decide +kernel
theorem dX11_milesSaved_23 : decode cX11_milesSaved 23 = .ok (.iconst 1, 1) := by decide +kernel
theorem dX11_milesSaved_24 : decode cX11_milesSaved 24 = .ok (.iload_n 1, 1) := by decide +kernel
theorem dX11_milesSaved_25 : decode cX11_milesSaved 25 = .ok (.ishl, 1) := by decide +kernel
theorem dX11_milesSaved_26 : decode cX11_milesSaved 26 = .ok (.iconst (-1), 1) := by decide +kernel
theorem dX11_milesSaved_27 : decode cX11_milesSaved 27 = .ok (.ixor, 1) := by decide +kernel
theorem dX11_milesSaved_28 : decode cX11_milesSaved 28 = .ok (.iand, 1) := by decide +kernel
theorem dX11_milesSaved_29 : decode cX11_milesSaved 29 = .ok (.invokevirtual 353, 3) := by decide +kernel
theorem dX11_milesSaved_32 : decode cX11_milesSaved 32 = .ok (.istore 4, 2) := by decide +kernel
theorem dX11_milesSaved_34 : decode cX11_milesSaved 34 = .ok (.iload_n 3, 1) := by decide +kernel
theorem dX11_milesSaved_35 : decode cX11_milesSaved 35 = .ok (.bipush (-2), 2) := by decide +kernel
theorem dX11_milesSaved_37 : decode cX11_milesSaved 37 = .ok (.if_icmp .eq 10, 3) := by decide +kernel
theorem dX11_milesSaved_40 : decode cX11_milesSaved 40 = .ok (.iload 4, 2) := by decide +kernel
theorem dX11_milesSaved_42 : decode cX11_milesSaved 42 = .ok (.bipush (-2), 2) := by decide +kernel
theorem dX11_milesSaved_44 : decode cX11_milesSaved 44 = .ok (.if_icmp .ne 8, 3) := by decide +kernel
theorem dX11_milesSaved_47 : decode cX11_milesSaved 47 = .ok (.bipush (-2), 2) := by decide +kernel
theorem dX11_milesSaved_49 : decode cX11_milesSaved 49 = .ok (.goto 7, 3) := by decide +kernel
theorem dX11_milesSaved_52 : decode cX11_milesSaved 52 = .ok (.iload_n 3, 1) := by decide +kernel
theorem dX11_milesSaved_53 : decode cX11_milesSaved 53 = .ok (.iload 4, 2) := by decide +kernel
theorem dX11_milesSaved_55 : decode cX11_milesSaved 55 = .ok (.isub, 1) := by decide +kernel
theorem dX11_milesSaved_56 : decode cX11_milesSaved 56 = .ok (.ireturn, 1) := by decide +kernel
theorem dX11_putElsewhere_0 : decode cX11_putElsewhere 0 = .ok (.iconst (-1), 1) := by decide +kernel
theorem dX11_putElsewhere_1 : decode cX11_putElsewhere 1 = .ok (.istore 5, 2) := by decide +kernel
theorem dX11_putElsewhere_3 : decode cX11_putElsewhere 3 = .ok (.iconst (-1), 1) := by decide +kernel
theorem dX11_putElsewhere_4 : decode cX11_putElsewhere 4 = .ok (.istore 6, 2) := by decide +kernel
theorem dX11_putElsewhere_6 : decode cX11_putElsewhere 6 = .ok (.iconst (-1), 1) := by decide +kernel
theorem dX11_putElsewhere_7 : decode cX11_putElsewhere 7 = .ok (.istore 7, 2) := by decide +kernel
theorem dX11_putElsewhere_9 : decode cX11_putElsewhere 9 = .ok (.iload_n 2, 1) := by decide +kernel
theorem dX11_putElsewhere_10 : decode cX11_putElsewhere 10 = .ok (.istore 8, 2) := by decide +kernel
theorem dX11_putElsewhere_12 : decode cX11_putElsewhere 12 = .ok (.iload 8, 2) := by decide +kernel
theorem dX11_putElsewhere_14 : decode cX11_putElsewhere 14 = .ok (.iload_n 3, 1) := by decide +kernel
theorem dX11_putElsewhere_15 : decode cX11_putElsewhere 15 = .ok (.if_icmp .gt 96, 3) := by decide +kernel
theorem dX11_putElsewhere_18 : decode cX11_putElsewhere 18 = .ok (.iconst 0, 1) := by decide +kernel
theorem dX11_putElsewhere_19 : decode cX11_putElsewhere 19 = .ok (.istore 9, 2) := by decide +kernel
theorem dX11_putElsewhere_21 : decode cX11_putElsewhere 21 = .ok (.iload 9, 2) := by decide +kernel
theorem dX11_putElsewhere_23 : decode cX11_putElsewhere 23 = .ok (.iconst 3, 1) := by decide +kernel
theorem dX11_putElsewhere_24 : decode cX11_putElsewhere 24 = .ok (.if_icmp .ge 81, 3) := by decide +kernel
theorem dX11_putElsewhere_27 : decode cX11_putElsewhere 27 = .ok (.aload_n 0, 1) := by decide +kernel
theorem dX11_putElsewhere_28 : decode cX11_putElsewhere 28 = .ok (.getfield 33, 3) := by decide +kernel
theorem dX11_putElsewhere_31 : decode cX11_putElsewhere 31 = .ok (.iload 9, 2) := by decide +kernel
theorem dX11_putElsewhere_33 : decode cX11_putElsewhere 33 = .ok (.iload 8, 2) := by decide +kernel
theorem dX11_putElsewhere_35 : decode cX11_putElsewhere 35 = .ok (.invokevirtual 368, 3) := by decide +kernel
theorem dX11_putElsewhere_38 : decode cX11_putElsewhere 38 = .ok (.ifCond .eq 7, 3) := by decide +kernel
theorem dX11_putElsewhere_41 : decode cX11_putElsewhere 41 = .ok (.iconst (-1), 1) := by decide +kernel
theorem dX11_putElsewhere_42 : decode cX11_putElsewhere 42 = .ok (.goto 24, 3) := by decide +kernel
theorem dX11_putElsewhere_45 : decode cX11_putElsewhere 45 = .ok (.aload_n 0, 1) := by decide +kernel
theorem dX11_putElsewhere_46 : decode cX11_putElsewhere 46 = .ok (.getfield 65, 3) := by decide +kernel
theorem dX11_putElsewhere_49 : decode cX11_putElsewhere 49 = .ok (.aload_n 0, 1) := by decide +kernel
theorem dX11_putElsewhere_50 : decode cX11_putElsewhere 50 = .ok (.getfield 33, 3) := by decide +kernel
theorem dX11_putElsewhere_53 : decode cX11_putElsewhere 53 = .ok (.iload 9, 2) := by decide +kernel
theorem dX11_putElsewhere_55 : decode cX11_putElsewhere 55 = .ok (.iload 8, 2) := by decide +kernel
theorem dX11_putElsewhere_57 : decode cX11_putElsewhere 57 = .ok (.invokevirtual 350, 3) := by decide +kernel
theorem dX11_putElsewhere_60 : decode cX11_putElsewhere 60 = .ok (.iload_n 1, 1) := by decide +kernel
theorem dX11_putElsewhere_61 : decode cX11_putElsewhere 61 = .ok (.iload 4, 2) := by decide +kernel
theorem dX11_putElsewhere_63 : decode cX11_putElsewhere 63 = .ok (.invokevirtual 442, 3) := by decide +kernel
theorem dX11_putElsewhere_66 : decode cX11_putElsewhere 66 = .ok (.istore 10, 2) := by decide +kernel
theorem dX11_putElsewhere_68 : decode cX11_putElsewhere 68 = .ok (.iload 10, 2) := by decide +kernel
theorem dX11_putElsewhere_70 : decode cX11_putElsewhere 70 = .ok (.iconst (-1), 1) := by decide +kernel
theorem dX11_putElsewhere_71 : decode cX11_putElsewhere 71 = .ok (.if_icmp .eq 28, 3) := by decide +kernel
theorem dX11_putElsewhere_74 : decode cX11_putElsewhere 74 = .ok (.iload 5, 2) := by decide +kernel
theorem dX11_putElsewhere_76 : decode cX11_putElsewhere 76 = .ok (.iconst (-1), 1) := by decide +kernel
theorem dX11_putElsewhere_77 : decode cX11_putElsewhere 77 = .ok (.if_icmp .eq 10, 3) := by decide +kernel
theorem dX11_putElsewhere_80 : decode cX11_putElsewhere 80 = .ok (.iload 10, 2) := by decide +kernel
theorem dX11_putElsewhere_82 : decode cX11_putElsewhere 82 = .ok (.iload 5, 2) := by decide +kernel
theorem dX11_putElsewhere_84 : decode cX11_putElsewhere 84 = .ok (.if_icmp .ge 15, 3) := by decide +kernel
theorem dX11_putElsewhere_87 : decode cX11_putElsewhere 87 = .ok (.iload 10, 2) := by decide +kernel
theorem dX11_putElsewhere_89 : decode cX11_putElsewhere 89 = .ok (.istore 5, 2) := by decide +kernel
theorem dX11_putElsewhere_91 : decode cX11_putElsewhere 91 = .ok (.iload 8, 2) := by decide +kernel
theorem dX11_putElsewhere_93 : decode cX11_putElsewhere 93 = .ok (.istore 6, 2) := by decide +kernel
theorem dX11_putElsewhere_95 : decode cX11_putElsewhere 95 = .ok (.iload 9, 2) := by decide +kernel
theorem dX11_putElsewhere_97 : decode cX11_putElsewhere 97 = .ok (.istore 7, 2) := by decide +kernel
theorem dX11_putElsewhere_99 : decode cX11_putElsewhere 99 = .ok (.iinc 9 1, 3) := by decide +kernel
theorem dX11_putElsewhere_102 : decode cX11_putElsewhere 102 = .ok (.goto (-81), 3) := by decide +kernel
theorem dX11_putElsewhere_105 : decode cX11_putElsewhere 105 = .ok (.iinc 8 1, 3) := by decide +kernel
theorem dX11_putElsewhere_108 : decode cX11_putElsewhere 108 = .ok (.goto (-96), 3) := by decide +kernel
theorem dX11_putElsewhere_111 : decode cX11_putElsewhere 111 = .ok (.iload 5, 2) := by decide +kernel
theorem dX11_putElsewhere_113 : decode cX11_putElsewhere 113 = .ok (.iconst (-1), 1) := by decide +kernel
theorem dX11_putElsewhere_114 : decode cX11_putElsewhere 114 = .ok (.if_icmp .ne 13, 3) := by decide +kernel
theorem dX11_putElsewhere_117 : decode cX11_putElsewhere 117 = .ok (.aload_n 0, 1) := by decide +kernel
theorem dX11_putElsewhere_118 : decode cX11_putElsewhere 118 = .ok (.getfield 33, 3) := by decide +kernel
theorem dX11_putElsewhere_121 : decode cX11_putElsewhere 121 = .ok (.iload_n 1, 1) := by decide +kernel
theorem dX11_putElsewhere_122 : decode cX11_putElsewhere 122 = .ok (.invokevirtual 445, 3) := by decide +kernel
theorem dX11_putElsewhere_125 : decode cX11_putElsewhere 125 = .ok (.iconst 0, 1) := by decide +kernel
theorem dX11_putElsewhere_126 : decode cX11_putElsewhere 126 = .ok (.ireturn, 1) := by decide +kernel
theorem dX11_putElsewhere_127 : decode cX11_putElsewhere 127 = .ok (.aload_n 0, 1) := by decide +kernel
theorem dX11_putElsewhere_128 : decode cX11_putElsewhere 128 = .ok (.getfield 33, 3) := by decide +kernel
theorem dX11_putElsewhere_131 : decode cX11_putElsewhere 131 = .ok (.iload_n 1, 1) := by decide +kernel
theorem dX11_putElsewhere_132 : decode cX11_putElsewhere 132 = .ok (.iload 7, 2) := by decide +kernel
theorem dX11_putElsewhere_134 : decode cX11_putElsewhere 134 = .ok (.iload 6, 2) := by decide +kernel
theorem dX11_putElsewhere_136 : decode cX11_putElsewhere 136 = .ok (.invokevirtual 448, 3) := by decide +kernel
theorem dX11_putElsewhere_139 : decode cX11_putElsewhere 139 = .ok (.iconst 1, 1) := by decide +kernel
theorem dX11_putElsewhere_140 : decode cX11_putElsewhere 140 = .ok (.ireturn, 1) := by decide +kernel
theorem dX11_loansOf_0 : decode cX11_loansOf 0 = .ok (.iconst 0, 1) := by decide +kernel
theorem dX11_loansOf_1 : decode cX11_loansOf 1 = .ok (.istore_n 2, 1) := by decide +kernel
theorem dX11_loansOf_2 : decode cX11_loansOf 2 = .ok (.iconst 0, 1) := by decide +kernel
theorem dX11_loansOf_3 : decode cX11_loansOf 3 = .ok (.istore_n 3, 1) := by decide +kernel
theorem dX11_loansOf_4 : decode cX11_loansOf 4 = .ok (.iload_n 3, 1) := by decide +kernel
theorem dX11_loansOf_5 : decode cX11_loansOf 5 = .ok (.aload_n 0, 1) := by decide +kernel
theorem dX11_loansOf_6 : decode cX11_loansOf 6 = .ok (.getfield 26, 3) := by decide +kernel
theorem dX11_loansOf_9 : decode cX11_loansOf 9 = .ok (.getfield 278, 3) := by decide +kernel
theorem dX11_loansOf_12 : decode cX11_loansOf 12 = .ok (.if_icmp .ge 34, 3) := by decide +kernel
theorem dX11_loansOf_15 : decode cX11_loansOf 15 = .ok (.aload_n 0, 1) := by decide +kernel
theorem dX11_loansOf_16 : decode cX11_loansOf 16 = .ok (.getfield 26, 3) := by decide +kernel
theorem dX11_loansOf_19 : decode cX11_loansOf 19 = .ok (.getfield 202, 3) := by decide +kernel
theorem dX11_loansOf_22 : decode cX11_loansOf 22 = .ok (.iload_n 3, 1) := by decide +kernel
theorem dX11_loansOf_23 : decode cX11_loansOf 23 = .ok (.iaload, 1) := by decide +kernel
theorem dX11_loansOf_24 : decode cX11_loansOf 24 = .ok (.iload_n 1, 1) := by decide +kernel
theorem dX11_loansOf_25 : decode cX11_loansOf 25 = .ok (.if_icmp .ne 15, 3) := by decide +kernel
theorem dX11_loansOf_28 : decode cX11_loansOf 28 = .ok (.iload_n 2, 1) := by decide +kernel
theorem dX11_loansOf_29 : decode cX11_loansOf 29 = .ok (.aload_n 0, 1) := by decide +kernel
theorem dX11_loansOf_30 : decode cX11_loansOf 30 = .ok (.getfield 26, 3) := by decide +kernel
theorem dX11_loansOf_33 : decode cX11_loansOf 33 = .ok (.getfield 214, 3) := by decide +kernel
theorem dX11_loansOf_36 : decode cX11_loansOf 36 = .ok (.iload_n 3, 1) := by decide +kernel
theorem dX11_loansOf_37 : decode cX11_loansOf 37 = .ok (.iaload, 1) := by decide +kernel
theorem dX11_loansOf_38 : decode cX11_loansOf 38 = .ok (.iadd, 1) := by decide +kernel
theorem dX11_loansOf_39 : decode cX11_loansOf 39 = .ok (.istore_n 2, 1) := by decide +kernel
theorem dX11_loansOf_40 : decode cX11_loansOf 40 = .ok (.iinc 3 1, 3) := by decide +kernel
theorem dX11_loansOf_43 : decode cX11_loansOf 43 = .ok (.goto (-39), 3) := by decide +kernel
theorem dX11_loansOf_46 : decode cX11_loansOf 46 = .ok (.iload_n 2, 1) := by decide +kernel
theorem dX11_loansOf_47 : decode cX11_loansOf 47 = .ok (.ireturn, 1) := by decide +kernel
theorem dX11_borrowersOf_0 : decode cX11_borrowersOf 0 = .ok (.iconst 0, 1) := by decide +kernel
theorem dX11_borrowersOf_1 : decode cX11_borrowersOf 1 = .ok (.istore_n 2, 1) := by decide +kernel
theorem dX11_borrowersOf_2 : decode cX11_borrowersOf 2 = .ok (.iconst 0, 1) := by decide +kernel
theorem dX11_borrowersOf_3 : decode cX11_borrowersOf 3 = .ok (.istore_n 3, 1) := by decide +kernel
theorem dX11_borrowersOf_4 : decode cX11_borrowersOf 4 = .ok (.iload_n 3, 1) := by decide +kernel
theorem dX11_borrowersOf_5 : decode cX11_borrowersOf 5 = .ok (.aload_n 0, 1) := by decide +kernel
theorem dX11_borrowersOf_6 : decode cX11_borrowersOf 6 = .ok (.getfield 26, 3) := by decide +kernel
theorem dX11_borrowersOf_9 : decode cX11_borrowersOf 9 = .ok (.getfield 278, 3) := by decide +kernel
theorem dX11_borrowersOf_12 : decode cX11_borrowersOf 12 = .ok (.if_icmp .ge 37, 3) := by decide +kernel
theorem dX11_borrowersOf_15 : decode cX11_borrowersOf 15 = .ok (.aload_n 0, 1) := by decide +kernel
theorem dX11_borrowersOf_16 : decode cX11_borrowersOf 16 = .ok (.getfield 26, 3) := by decide +kernel
theorem dX11_borrowersOf_19 : decode cX11_borrowersOf 19 = .ok (.getfield 202, 3) := by decide +kernel
theorem dX11_borrowersOf_22 : decode cX11_borrowersOf 22 = .ok (.iload_n 3, 1) := by decide +kernel
theorem dX11_borrowersOf_23 : decode cX11_borrowersOf 23 = .ok (.iaload, 1) := by decide +kernel
theorem dX11_borrowersOf_24 : decode cX11_borrowersOf 24 = .ok (.iload_n 1, 1) := by decide +kernel
theorem dX11_borrowersOf_25 : decode cX11_borrowersOf 25 = .ok (.if_icmp .ne 18, 3) := by decide +kernel
theorem dX11_borrowersOf_28 : decode cX11_borrowersOf 28 = .ok (.aload_n 0, 1) := by decide +kernel
theorem dX11_borrowersOf_29 : decode cX11_borrowersOf 29 = .ok (.getfield 26, 3) := by decide +kernel
theorem dX11_borrowersOf_32 : decode cX11_borrowersOf 32 = .ok (.getfield 214, 3) := by decide +kernel
theorem dX11_borrowersOf_35 : decode cX11_borrowersOf 35 = .ok (.iload_n 3, 1) := by decide +kernel
theorem dX11_borrowersOf_36 : decode cX11_borrowersOf 36 = .ok (.iaload, 1) := by decide +kernel
theorem dX11_borrowersOf_37 : decode cX11_borrowersOf 37 = .ok (.ifCond .le 6, 3) := by decide +kernel
theorem dX11_borrowersOf_40 : decode cX11_borrowersOf 40 = .ok (.iinc 2 1, 3) := by decide +kernel
theorem dX11_borrowersOf_43 : decode cX11_borrowersOf 43 = .ok (.iinc 3 1, 3) := by decide +kernel
theorem dX11_borrowersOf_46 : decode cX11_borrowersOf 46 = .ok (.goto (-42), 3) := by decide +kernel
theorem dX11_borrowersOf_49 : decode cX11_borrowersOf 49 = .ok (.iload_n 2, 1) := by decide +kernel
theorem dX11_borrowersOf_50 : decode cX11_borrowersOf 50 = .ok (.ireturn, 1) := by decide +kernel
theorem dX11_firstWrong_0 : decode cX11_firstWrong 0 = .ok (.iconst 0, 1) := by decide +kernel
theorem dX11_firstWrong_1 : decode cX11_firstWrong 1 = .ok (.istore_n 2, 1) := by decide +kernel
theorem dX11_firstWrong_2 : decode cX11_firstWrong 2 = .ok (.iload_n 2, 1) := by decide +kernel
theorem dX11_firstWrong_3 : decode cX11_firstWrong 3 = .ok (.iload_n 1, 1) := by decide +kernel
theorem dX11_firstWrong_4 : decode cX11_firstWrong 4 = .ok (.if_icmp .ge 98, 3) := by decide +kernel
theorem dX11_firstWrong_7 : decode cX11_firstWrong 7 = .ok (.iload_n 2, 1) := by decide +kernel
theorem dX11_firstWrong_8 : decode cX11_firstWrong 8 = .ok (.aload_n 0, 1) := by decide +kernel
theorem dX11_firstWrong_9 : decode cX11_firstWrong 9 = .ok (.getfield 19, 3) := by decide +kernel
theorem dX11_firstWrong_12 : decode cX11_firstWrong 12 = .ok (.getfield 335, 3) := by decide +kernel
theorem dX11_firstWrong_15 : decode cX11_firstWrong 15 = .ok (.if_icmp .ge 17, 3) := by decide +kernel
theorem dX11_firstWrong_18 : decode cX11_firstWrong 18 = .ok (.aload_n 0, 1) := by decide +kernel
theorem dX11_firstWrong_19 : decode cX11_firstWrong 19 = .ok (.getfield 12, 3) := by decide +kernel
theorem dX11_firstWrong_22 : decode cX11_firstWrong 22 = .ok (.iconst 3, 1) := by decide +kernel
theorem dX11_firstWrong_23 : decode cX11_firstWrong 23 = .ok (.iload_n 2, 1) := by decide +kernel
theorem dX11_firstWrong_24 : decode cX11_firstWrong 24 = .ok (.imul, 1) := by decide +kernel
theorem dX11_firstWrong_25 : decode cX11_firstWrong 25 = .ok (.invokevirtual 451, 3) := by decide +kernel
theorem dX11_firstWrong_28 : decode cX11_firstWrong 28 = .ok (.iload_n 2, 1) := by decide +kernel
theorem dX11_firstWrong_29 : decode cX11_firstWrong 29 = .ok (.if_icmp .eq 7, 3) := by decide +kernel
theorem dX11_firstWrong_32 : decode cX11_firstWrong 32 = .ok (.iconst 3, 1) := by decide +kernel
theorem dX11_firstWrong_33 : decode cX11_firstWrong 33 = .ok (.iload_n 2, 1) := by decide +kernel
theorem dX11_firstWrong_34 : decode cX11_firstWrong 34 = .ok (.imul, 1) := by decide +kernel
theorem dX11_firstWrong_35 : decode cX11_firstWrong 35 = .ok (.ireturn, 1) := by decide +kernel
theorem dX11_firstWrong_36 : decode cX11_firstWrong 36 = .ok (.aload_n 0, 1) := by decide +kernel
theorem dX11_firstWrong_37 : decode cX11_firstWrong 37 = .ok (.getfield 12, 3) := by decide +kernel
theorem dX11_firstWrong_40 : decode cX11_firstWrong 40 = .ok (.iconst 3, 1) := by decide +kernel
theorem dX11_firstWrong_41 : decode cX11_firstWrong 41 = .ok (.iload_n 2, 1) := by decide +kernel
theorem dX11_firstWrong_42 : decode cX11_firstWrong 42 = .ok (.imul, 1) := by decide +kernel
theorem dX11_firstWrong_43 : decode cX11_firstWrong 43 = .ok (.iconst 1, 1) := by decide +kernel
theorem dX11_firstWrong_44 : decode cX11_firstWrong 44 = .ok (.iadd, 1) := by decide +kernel
theorem dX11_firstWrong_45 : decode cX11_firstWrong 45 = .ok (.invokevirtual 451, 3) := by decide +kernel
theorem dX11_firstWrong_48 : decode cX11_firstWrong 48 = .ok (.aload_n 0, 1) := by decide +kernel
theorem dX11_firstWrong_49 : decode cX11_firstWrong 49 = .ok (.getfield 19, 3) := by decide +kernel
theorem dX11_firstWrong_52 : decode cX11_firstWrong 52 = .ok (.getfield 190, 3) := by decide +kernel
theorem dX11_firstWrong_55 : decode cX11_firstWrong 55 = .ok (.iload_n 2, 1) := by decide +kernel
theorem dX11_firstWrong_56 : decode cX11_firstWrong 56 = .ok (.iaload, 1) := by decide +kernel
theorem dX11_firstWrong_57 : decode cX11_firstWrong 57 = .ok (.if_icmp .eq 9, 3) := by decide +kernel
theorem dX11_firstWrong_60 : decode cX11_firstWrong 60 = .ok (.iconst 3, 1) := by decide +kernel
theorem dX11_firstWrong_61 : decode cX11_firstWrong 61 = .ok (.iload_n 2, 1) := by decide +kernel
theorem dX11_firstWrong_62 : decode cX11_firstWrong 62 = .ok (.imul, 1) := by decide +kernel
theorem dX11_firstWrong_63 : decode cX11_firstWrong 63 = .ok (.iconst 1, 1) := by decide +kernel
theorem dX11_firstWrong_64 : decode cX11_firstWrong 64 = .ok (.iadd, 1) := by decide +kernel
theorem dX11_firstWrong_65 : decode cX11_firstWrong 65 = .ok (.ireturn, 1) := by decide +kernel
theorem dX11_firstWrong_66 : decode cX11_firstWrong 66 = .ok (.aload_n 0, 1) := by decide +kernel
theorem dX11_firstWrong_67 : decode cX11_firstWrong 67 = .ok (.getfield 12, 3) := by decide +kernel
theorem dX11_firstWrong_70 : decode cX11_firstWrong 70 = .ok (.iconst 3, 1) := by decide +kernel
theorem dX11_firstWrong_71 : decode cX11_firstWrong 71 = .ok (.iload_n 2, 1) := by decide +kernel
theorem dX11_firstWrong_72 : decode cX11_firstWrong 72 = .ok (.imul, 1) := by decide +kernel
theorem dX11_firstWrong_73 : decode cX11_firstWrong 73 = .ok (.iconst 2, 1) := by decide +kernel
theorem dX11_firstWrong_74 : decode cX11_firstWrong 74 = .ok (.iadd, 1) := by decide +kernel
theorem dX11_firstWrong_75 : decode cX11_firstWrong 75 = .ok (.invokevirtual 451, 3) := by decide +kernel
theorem dX11_firstWrong_78 : decode cX11_firstWrong 78 = .ok (.aload_n 0, 1) := by decide +kernel
theorem dX11_firstWrong_79 : decode cX11_firstWrong 79 = .ok (.getfield 19, 3) := by decide +kernel
theorem dX11_firstWrong_82 : decode cX11_firstWrong 82 = .ok (.getfield 208, 3) := by decide +kernel
theorem dX11_firstWrong_85 : decode cX11_firstWrong 85 = .ok (.iload_n 2, 1) := by decide +kernel
theorem dX11_firstWrong_86 : decode cX11_firstWrong 86 = .ok (.iaload, 1) := by decide +kernel
theorem dX11_firstWrong_87 : decode cX11_firstWrong 87 = .ok (.if_icmp .eq 9, 3) := by decide +kernel
theorem dX11_firstWrong_90 : decode cX11_firstWrong 90 = .ok (.iconst 3, 1) := by decide +kernel
theorem dX11_firstWrong_91 : decode cX11_firstWrong 91 = .ok (.iload_n 2, 1) := by decide +kernel
theorem dX11_firstWrong_92 : decode cX11_firstWrong 92 = .ok (.imul, 1) := by decide +kernel
theorem dX11_firstWrong_93 : decode cX11_firstWrong 93 = .ok (.iconst 2, 1) := by decide +kernel
theorem dX11_firstWrong_94 : decode cX11_firstWrong 94 = .ok (.iadd, 1) := by decide +kernel
theorem dX11_firstWrong_95 : decode cX11_firstWrong 95 = .ok (.ireturn, 1) := by decide +kernel
theorem dX11_firstWrong_96 : decode cX11_firstWrong 96 = .ok (.iinc 2 1, 3) := by decide +kernel
theorem dX11_firstWrong_99 : decode cX11_firstWrong 99 = .ok (.goto (-97), 3) := by decide +kernel
theorem dX11_firstWrong_102 : decode cX11_firstWrong 102 = .ok (.iload_n 1, 1) := by decide +kernel
theorem dX11_firstWrong_103 : decode cX11_firstWrong 103 = .ok (.aload_n 0, 1) := by decide +kernel
theorem dX11_firstWrong_104 : decode cX11_firstWrong 104 = .ok (.getfield 19, 3) := by decide +kernel
theorem dX11_firstWrong_107 : decode cX11_firstWrong 107 = .ok (.getfield 335, 3) := by decide +kernel
theorem dX11_firstWrong_110 : decode cX11_firstWrong 110 = .ok (.if_icmp .ge 9, 3) := by decide +kernel
theorem dX11_firstWrong_113 : decode cX11_firstWrong 113 = .ok (.iconst 3, 1) := by decide +kernel
theorem dX11_firstWrong_114 : decode cX11_firstWrong 114 = .ok (.iload_n 1, 1) := by decide +kernel
theorem dX11_firstWrong_115 : decode cX11_firstWrong 115 = .ok (.imul, 1) := by decide +kernel
theorem dX11_firstWrong_116 : decode cX11_firstWrong 116 = .ok (.goto 4, 3) := by decide +kernel
theorem dX11_firstWrong_119 : decode cX11_firstWrong 119 = .ok (.iconst (-1), 1) := by decide +kernel
theorem dX11_firstWrong_120 : decode cX11_firstWrong 120 = .ok (.ireturn, 1) := by decide +kernel
theorem dX12_init_0 : decode cX12_init 0 = .ok (.aload_n 0, 1) := by decide +kernel
theorem dX12_init_1 : decode cX12_init 1 = .ok (.invokespecial 1, 3) := by decide +kernel
theorem dX12_init_4 : decode cX12_init 4 = .ok (.aload_n 0, 1) := by decide +kernel
theorem dX12_init_5 : decode cX12_init 5 = .ok (.bipush 32, 2) := by decide +kernel
theorem dX12_init_7 : decode cX12_init 7 = .ok (.newarray .int, 2) := by decide +kernel
theorem dX12_init_9 : decode cX12_init 9 = .ok (.putfield 7, 3) := by decide +kernel
theorem dX12_init_12 : decode cX12_init 12 = .ok (.aload_n 0, 1) := by decide +kernel
theorem dX12_init_13 : decode cX12_init 13 = .ok (.bipush 32, 2) := by decide +kernel
theorem dX12_init_15 : decode cX12_init 15 = .ok (.newarray .int, 2) := by decide +kernel
theorem dX12_init_17 : decode cX12_init 17 = .ok (.putfield 13, 3) := by decide +kernel
theorem dX12_init_20 : decode cX12_init 20 = .ok (.aload_n 0, 1) := by decide +kernel
theorem dX12_init_21 : decode cX12_init 21 = .ok (.bipush 32, 2) := by decide +kernel
theorem dX12_init_23 : decode cX12_init 23 = .ok (.newarray .int, 2) := by decide +kernel
theorem dX12_init_25 : decode cX12_init 25 = .ok (.putfield 16, 3) := by decide +kernel
theorem dX12_init_28 : decode cX12_init 28 = .ok (.aload_n 0, 1) := by decide +kernel
theorem dX12_init_29 : decode cX12_init 29 = .ok (.bipush 32, 2) := by decide +kernel
theorem dX12_init_31 : decode cX12_init 31 = .ok (.newarray .int, 2) := by decide +kernel
theorem dX12_init_33 : decode cX12_init 33 = .ok (.putfield 19, 3) := by decide +kernel
theorem dX12_init_36 : decode cX12_init 36 = .ok (.aload_n 0, 1) := by decide +kernel
theorem dX12_init_37 : decode cX12_init 37 = .ok (.bipush 32, 2) := by decide +kernel
theorem dX12_init_39 : decode cX12_init 39 = .ok (.newarray .int, 2) := by decide +kernel
theorem dX12_init_41 : decode cX12_init 41 = .ok (.putfield 22, 3) := by decide +kernel
theorem dX12_init_44 : decode cX12_init 44 = .ok (.aload_n 0, 1) := by decide +kernel
theorem dX12_init_45 : decode cX12_init 45 = .ok (.bipush 32, 2) := by decide +kernel
theorem dX12_init_47 : decode cX12_init 47 = .ok (.newarray .int, 2) := by decide +kernel
theorem dX12_init_49 : decode cX12_init 49 = .ok (.putfield 25, 3) := by decide +kernel
theorem dX12_init_52 : decode cX12_init 52 = .ok (.aload_n 0, 1) := by decide +kernel
theorem dX12_init_53 : decode cX12_init 53 = .ok (.bipush 32, 2) := by decide +kernel
theorem dX12_init_55 : decode cX12_init 55 = .ok (.newarray .int, 2) := by decide +kernel
theorem dX12_init_57 : decode cX12_init 57 = .ok (.putfield 28, 3) := by decide +kernel
theorem dX12_init_60 : decode cX12_init 60 = .ok (.aload_n 0, 1) := by decide +kernel
theorem dX12_init_61 : decode cX12_init 61 = .ok (.bipush 32, 2) := by decide +kernel
theorem dX12_init_63 : decode cX12_init 63 = .ok (.newarray .int, 2) := by decide +kernel
theorem dX12_init_65 : decode cX12_init 65 = .ok (.putfield 31, 3) := by decide +kernel
theorem dX12_init_68 : decode cX12_init 68 = .ok (.aload_n 0, 1) := by decide +kernel
theorem dX12_init_69 : decode cX12_init 69 = .ok (.iconst 3, 1) := by decide +kernel
theorem dX12_init_70 : decode cX12_init 70 = .ok (.newarray .int, 2) := by decide +kernel
theorem dX12_init_72 : decode cX12_init 72 = .ok (.putfield 34, 3) := by decide +kernel
theorem dX12_init_75 : decode cX12_init 75 = .ok (.aload_n 0, 1) := by decide +kernel
theorem dX12_init_76 : decode cX12_init 76 = .ok (.bipush 10, 2) := by decide +kernel
theorem dX12_init_78 : decode cX12_init 78 = .ok (.newarray .int, 2) := by decide +kernel
theorem dX12_init_80 : decode cX12_init 80 = .ok (.putfield 37, 3) := by decide +kernel
theorem dX12_init_83 : decode cX12_init 83 = .ok (.aload_n 0, 1) := by decide +kernel
theorem dX12_init_84 : decode cX12_init 84 = .ok (.bipush 10, 2) := by decide +kernel
theorem dX12_init_86 : decode cX12_init 86 = .ok (.newarray .int, 2) := by decide +kernel
theorem dX12_init_88 : decode cX12_init 88 = .ok (.putfield 40, 3) := by decide +kernel
theorem dX12_init_91 : decode cX12_init 91 = .ok (.aload_n 0, 1) := by decide +kernel
theorem dX12_init_92 : decode cX12_init 92 = .ok (.bipush 10, 2) := by decide +kernel
theorem dX12_init_94 : decode cX12_init 94 = .ok (.newarray .int, 2) := by decide +kernel
theorem dX12_init_96 : decode cX12_init 96 = .ok (.putfield 43, 3) := by decide +kernel
theorem dX12_init_99 : decode cX12_init 99 = .ok (.aload_n 0, 1) := by decide +kernel
theorem dX12_init_100 : decode cX12_init 100 = .ok (.bipush 10, 2) := by decide +kernel
theorem dX12_init_102 : decode cX12_init 102 = .ok (.newarray .int, 2) := by decide +kernel
theorem dX12_init_104 : decode cX12_init 104 = .ok (.putfield 46, 3) := by decide +kernel
theorem dX12_init_107 : decode cX12_init 107 = .ok (.aload_n 0, 1) := by decide +kernel
theorem dX12_init_108 : decode cX12_init 108 = .ok (.bipush 10, 2) := by decide +kernel
theorem dX12_init_110 : decode cX12_init 110 = .ok (.newarray .int, 2) := by decide +kernel
theorem dX12_init_112 : decode cX12_init 112 = .ok (.putfield 49, 3) := by decide +kernel
theorem dX12_init_115 : decode cX12_init 115 = .ok (.aload_n 0, 1) := by decide +kernel
theorem dX12_init_116 : decode cX12_init 116 = .ok (.bipush 16, 2) := by decide +kernel
theorem dX12_init_118 : decode cX12_init 118 = .ok (.newarray .int, 2) := by decide +kernel
theorem dX12_init_120 : decode cX12_init 120 = .ok (.putfield 52, 3) := by decide +kernel
theorem dX12_init_123 : decode cX12_init 123 = .ok (.aload_n 0, 1) := by decide +kernel
theorem dX12_init_124 : decode cX12_init 124 = .ok (.bipush 16, 2) := by decide +kernel
theorem dX12_init_126 : decode cX12_init 126 = .ok (.newarray .int, 2) := by decide +kernel
theorem dX12_init_128 : decode cX12_init 128 = .ok (.putfield 55, 3) := by decide +kernel
theorem dX12_init_131 : decode cX12_init 131 = .ok (.aload_n 0, 1) := by decide +kernel
theorem dX12_init_132 : decode cX12_init 132 = .ok (.sipush 128, 3) := by decide +kernel
theorem dX12_init_135 : decode cX12_init 135 = .ok (.newarray .int, 2) := by decide +kernel
theorem dX12_init_137 : decode cX12_init 137 = .ok (.putfield 58, 3) := by decide +kernel
theorem dX12_init_140 : decode cX12_init 140 = .ok (.aload_n 0, 1) := by decide +kernel
theorem dX12_init_141 : decode cX12_init 141 = .ok (.bipush 16, 2) := by decide +kernel
theorem dX12_init_143 : decode cX12_init 143 = .ok (.newarray .int, 2) := by decide +kernel
theorem dX12_init_145 : decode cX12_init 145 = .ok (.putfield 61, 3) := by decide +kernel
theorem dX12_init_148 : decode cX12_init 148 = .ok (.aload_n 0, 1) := by decide +kernel
theorem dX12_init_149 : decode cX12_init 149 = .ok (.bipush 16, 2) := by decide +kernel
theorem dX12_init_151 : decode cX12_init 151 = .ok (.newarray .int, 2) := by decide +kernel
theorem dX12_init_153 : decode cX12_init 153 = .ok (.putfield 64, 3) := by decide +kernel
theorem dX12_init_156 : decode cX12_init 156 = .ok (.aload_n 0, 1) := by decide +kernel
theorem dX12_init_157 : decode cX12_init 157 = .ok (.sipush 512, 3) := by decide +kernel
theorem dX12_init_160 : decode cX12_init 160 = .ok (.newarray .int, 2) := by decide +kernel
theorem dX12_init_162 : decode cX12_init 162 = .ok (.putfield 67, 3) := by decide +kernel
theorem dX12_init_165 : decode cX12_init 165 = .ok (.aload_n 0, 1) := by decide +kernel
theorem dX12_init_166 : decode cX12_init 166 = .ok (.sipush 512, 3) := by decide +kernel
theorem dX12_init_169 : decode cX12_init 169 = .ok (.newarray .boolean, 2) := by decide +kernel
theorem dX12_init_171 : decode cX12_init 171 = .ok (.putfield 70, 3) := by decide +kernel
theorem dX12_init_174 : decode cX12_init 174 = .ok (.aload_n 0, 1) := by decide +kernel
theorem dX12_init_175 : decode cX12_init 175 = .ok (.sipush 600, 3) := by decide +kernel
theorem dX12_init_178 : decode cX12_init 178 = .ok (.newarray .boolean, 2) := by decide +kernel
theorem dX12_init_180 : decode cX12_init 180 = .ok (.putfield 74, 3) := by decide +kernel
theorem dX12_init_183 : decode cX12_init 183 = .ok (.aload_n 0, 1) := by decide +kernel
theorem dX12_init_184 : decode cX12_init 184 = .ok (.sipush 6000, 3) := by decide +kernel
theorem dX12_init_187 : decode cX12_init 187 = .ok (.newarray .boolean, 2) := by decide +kernel
theorem dX12_init_189 : decode cX12_init 189 = .ok (.putfield 77, 3) := by decide +kernel
theorem dX12_init_192 : decode cX12_init 192 = .ok (.aload_n 0, 1) := by decide +kernel
theorem dX12_init_193 : decode cX12_init 193 = .ok (.bipush 10, 2) := by decide +kernel
theorem dX12_init_195 : decode cX12_init 195 = .ok (.newarray .int, 2) := by decide +kernel
theorem dX12_init_197 : decode cX12_init 197 = .ok (.putfield 80, 3) := by decide +kernel
theorem dX12_init_200 : decode cX12_init 200 = .ok (.aload_n 0, 1) := by decide +kernel
theorem dX12_init_201 : decode cX12_init 201 = .ok (.bipush 10, 2) := by decide +kernel
theorem dX12_init_203 : decode cX12_init 203 = .ok (.newarray .int, 2) := by decide +kernel
theorem dX12_init_205 : decode cX12_init 205 = .ok (.putfield 83, 3) := by decide +kernel
theorem dX12_init_208 : decode cX12_init 208 = .ok (.aload_n 0, 1) := by decide +kernel
theorem dX12_init_209 : decode cX12_init 209 = .ok (.bipush 10, 2) := by decide +kernel
theorem dX12_init_211 : decode cX12_init 211 = .ok (.newarray .int, 2) := by decide +kernel
theorem dX12_init_213 : decode cX12_init 213 = .ok (.putfield 86, 3) := by decide +kernel
theorem dX12_init_216 : decode cX12_init 216 = .ok (.aload_n 0, 1) := by decide +kernel
theorem dX12_init_217 : decode cX12_init 217 = .ok (.bipush 8, 2) := by decide +kernel
theorem dX12_init_219 : decode cX12_init 219 = .ok (.newarray .int, 2) := by decide +kernel
theorem dX12_init_221 : decode cX12_init 221 = .ok (.putfield 89, 3) := by decide +kernel
theorem dX12_init_224 : decode cX12_init 224 = .ok (.aload_n 0, 1) := by decide +kernel
theorem dX12_init_225 : decode cX12_init 225 = .ok (.iconst 3, 1) := by decide +kernel
theorem dX12_init_226 : decode cX12_init 226 = .ok (.newarray .int, 2) := by decide +kernel
theorem dX12_init_228 : decode cX12_init 228 = .ok (.putfield 92, 3) := by decide +kernel
theorem dX12_init_231 : decode cX12_init 231 = .ok (.aload_n 0, 1) := by decide +kernel
theorem dX12_init_232 : decode cX12_init 232 = .ok (.bipush 10, 2) := by decide +kernel
theorem dX12_init_234 : decode cX12_init 234 = .ok (.newarray .int, 2) := by decide +kernel
theorem dX12_init_236 : decode cX12_init 236 = .ok (.putfield 95, 3) := by decide +kernel
theorem dX12_init_239 : decode cX12_init 239 = .ok (.aload_n 0, 1) := by decide +kernel
theorem dX12_init_240 : decode cX12_init 240 = .ok (.sipush 400, 3) := by decide +kernel
theorem dX12_init_243 : decode cX12_init 243 = .ok (.newarray .byte, 2) := by decide +kernel
theorem dX12_init_245 : decode cX12_init 245 = .ok (.putfield 98, 3) := by decide +kernel
theorem dX12_init_248 : decode cX12_init 248 = .ok (.aload_n 0, 1) := by decide +kernel
theorem dX12_init_249 : decode cX12_init 249 = .ok (.sipush 220, 3) := by decide +kernel
theorem dX12_init_252 : decode cX12_init 252 = .ok (.newarray .int, 2) := by decide +kernel
theorem dX12_init_254 : decode cX12_init 254 = .ok (.putfield 102, 3) := by decide +kernel
theorem dX12_init_257 : decode cX12_init 257 = .ok (.aload_n 0, 1) := by decide +kernel
theorem dX12_init_258 : decode cX12_init 258 = .ok (.sipush 220, 3) := by decide +kernel
theorem dX12_init_261 : decode cX12_init 261 = .ok (.newarray .int, 2) := by decide +kernel
theorem dX12_init_263 : decode cX12_init 263 = .ok (.putfield 105, 3) := by decide +kernel
theorem dX12_init_266 : decode cX12_init 266 = .ok (.aload_n 0, 1) := by decide +kernel
theorem dX12_init_267 : decode cX12_init 267 = .ok (.bipush 14, 2) := by decide +kernel
theorem dX12_init_269 : decode cX12_init 269 = .ok (.newarray .int, 2) := by decide +kernel
theorem dX12_init_271 : decode cX12_init 271 = .ok (.putfield 108, 3) := by decide +kernel
theorem dX12_init_274 : decode cX12_init 274 = .ok (.aload_n 0, 1) := by decide +kernel
theorem dX12_init_275 : decode cX12_init 275 = .ok (.bipush 14, 2) := by decide +kernel
theorem dX12_init_277 : decode cX12_init 277 = .ok (.newarray .int, 2) := by decide +kernel
theorem dX12_init_279 : decode cX12_init 279 = .ok (.putfield 111, 3) := by decide +kernel
theorem dX12_init_282 : decode cX12_init 282 = .ok (.aload_n 0, 1) := by decide +kernel
theorem dX12_init_283 : decode cX12_init 283 = .ok (.bipush 14, 2) := by decide +kernel
theorem dX12_init_285 : decode cX12_init 285 = .ok (.newarray .int, 2) := by decide +kernel
theorem dX12_init_287 : decode cX12_init 287 = .ok (.putfield 114, 3) := by decide +kernel
theorem dX12_init_290 : decode cX12_init 290 = .ok (.aload_n 0, 1) := by decide +kernel
theorem dX12_init_291 : decode cX12_init 291 = .ok (.bipush 14, 2) := by decide +kernel
theorem dX12_init_293 : decode cX12_init 293 = .ok (.newarray .int, 2) := by decide +kernel
theorem dX12_init_295 : decode cX12_init 295 = .ok (.putfield 117, 3) := by decide +kernel
theorem dX12_init_298 : decode cX12_init 298 = .ok (.aload_n 0, 1) := by decide +kernel
theorem dX12_init_299 : decode cX12_init 299 = .ok (.sipush 220, 3) := by decide +kernel
theorem dX12_init_302 : decode cX12_init 302 = .ok (.newarray .int, 2) := by decide +kernel
theorem dX12_init_304 : decode cX12_init 304 = .ok (.putfield 120, 3) := by decide +kernel
theorem dX12_init_307 : decode cX12_init 307 = .ok (.aload_n 0, 1) := by decide +kernel
theorem dX12_init_308 : decode cX12_init 308 = .ok (.bipush 14, 2) := by decide +kernel
theorem dX12_init_310 : decode cX12_init 310 = .ok (.newarray .int, 2) := by decide +kernel
theorem dX12_init_312 : decode cX12_init 312 = .ok (.putfield 123, 3) := by decide +kernel
theorem dX12_init_315 : decode cX12_init 315 = .ok (.aload_n 0, 1) := by decide +kernel
theorem dX12_init_316 : decode cX12_init 316 = .ok (.bipush 14, 2) := by decide +kernel
theorem dX12_init_318 : decode cX12_init 318 = .ok (.newarray .int, 2) := by decide +kernel
theorem dX12_init_320 : decode cX12_init 320 = .ok (.putfield 126, 3) := by decide +kernel
theorem dX12_init_323 : decode cX12_init 323 = .ok (.aload_n 0, 1) := by decide +kernel
theorem dX12_init_324 : decode cX12_init 324 = .ok (.bipush 14, 2) := by decide +kernel
theorem dX12_init_326 : decode cX12_init 326 = .ok (.newarray .int, 2) := by decide +kernel
theorem dX12_init_328 : decode cX12_init 328 = .ok (.putfield 129, 3) := by decide +kernel
theorem dX12_init_331 : decode cX12_init 331 = .ok (.aload_n 0, 1) := by decide +kernel
theorem dX12_init_332 : decode cX12_init 332 = .ok (.bipush 14, 2) := by decide +kernel
theorem dX12_init_334 : decode cX12_init 334 = .ok (.newarray .int, 2) := by decide +kernel
theorem dX12_init_336 : decode cX12_init 336 = .ok (.putfield 132, 3) := by decide +kernel
theorem dX12_init_339 : decode cX12_init 339 = .ok (.aload_n 0, 1) := by decide +kernel
theorem dX12_init_340 : decode cX12_init 340 = .ok (.sipush 220, 3) := by decide +kernel
theorem dX12_init_343 : decode cX12_init 343 = .ok (.newarray .int, 2) := by decide +kernel
theorem dX12_init_345 : decode cX12_init 345 = .ok (.putfield 135, 3) := by decide +kernel
theorem dX12_init_348 : decode cX12_init 348 = .ok (.aload_n 0, 1) := by decide +kernel
theorem dX12_init_349 : decode cX12_init 349 = .ok (.bipush 12, 2) := by decide +kernel
theorem dX12_init_351 : decode cX12_init 351 = .ok (.newarray .int, 2) := by decide +kernel
theorem dX12_init_353 : decode cX12_init 353 = .ok (.putfield 138, 3) := by decide +kernel
theorem dX12_init_356 : decode cX12_init 356 = .ok (.aload_n 0, 1) := by decide +kernel
theorem dX12_init_357 : decode cX12_init 357 = .ok (.sipush 200, 3) := by decide +kernel
theorem dX12_init_360 : decode cX12_init 360 = .ok (.newarray .int, 2) := by decide +kernel
theorem dX12_init_362 : decode cX12_init 362 = .ok (.putfield 141, 3) := by decide +kernel
theorem dX12_init_365 : decode cX12_init 365 = .ok (.aload_n 0, 1) := by decide +kernel
theorem dX12_init_366 : decode cX12_init 366 = .ok (.sipush 200, 3) := by decide +kernel
theorem dX12_init_369 : decode cX12_init 369 = .ok (.newarray .int, 2) := by decide +kernel
theorem dX12_init_371 : decode cX12_init 371 = .ok (.putfield 144, 3) := by decide +kernel
theorem dX12_init_374 : decode cX12_init 374 = .ok (.aload_n 0, 1) := by decide +kernel
theorem dX12_init_375 : decode cX12_init 375 = .ok (.sipush 200, 3) := by decide +kernel
theorem dX12_init_378 : decode cX12_init 378 = .ok (.newarray .int, 2) := by decide +kernel
theorem dX12_init_380 : decode cX12_init 380 = .ok (.putfield 147, 3) := by decide +kernel
theorem dX12_init_383 : decode cX12_init 383 = .ok (.aload_n 0, 1) := by decide +kernel
theorem dX12_init_384 : decode cX12_init 384 = .ok (.sipush 200, 3) := by decide +kernel
theorem dX12_init_387 : decode cX12_init 387 = .ok (.newarray .int, 2) := by decide +kernel
theorem dX12_init_389 : decode cX12_init 389 = .ok (.putfield 150, 3) := by decide +kernel
theorem dX12_init_392 : decode cX12_init 392 = .ok (.aload_n 0, 1) := by decide +kernel
theorem dX12_init_393 : decode cX12_init 393 = .ok (.bipush 16, 2) := by decide +kernel
theorem dX12_init_395 : decode cX12_init 395 = .ok (.newarray .int, 2) := by decide +kernel
theorem dX12_init_397 : decode cX12_init 397 = .ok (.putfield 153, 3) := by decide +kernel
theorem dX12_init_400 : decode cX12_init 400 = .ok (.aload_n 0, 1) := by decide +kernel
theorem dX12_init_401 : decode cX12_init 401 = .ok (.bipush 16, 2) := by decide +kernel
theorem dX12_init_403 : decode cX12_init 403 = .ok (.newarray .int, 2) := by decide +kernel
theorem dX12_init_405 : decode cX12_init 405 = .ok (.putfield 156, 3) := by decide +kernel
theorem dX12_init_408 : decode cX12_init 408 = .ok (.aload_n 0, 1) := by decide +kernel
theorem dX12_init_409 : decode cX12_init 409 = .ok (.sipush 512, 3) := by decide +kernel
theorem dX12_init_412 : decode cX12_init 412 = .ok (.newarray .boolean, 2) := by decide +kernel
theorem dX12_init_414 : decode cX12_init 414 = .ok (.putfield 159, 3) := by decide +kernel
theorem dX12_init_417 : decode cX12_init 417 = .ok (.aload_n 0, 1) := by decide +kernel
theorem dX12_init_418 : decode cX12_init 418 = .ok (.bipush 16, 2) := by decide +kernel
theorem dX12_init_420 : decode cX12_init 420 = .ok (.newarray .int, 2) := by decide +kernel
theorem dX12_init_422 : decode cX12_init 422 = .ok (.putfield 162, 3) := by decide +kernel
theorem dX12_init_425 : decode cX12_init 425 = .ok (.aload_n 0, 1) := by decide +kernel
theorem dX12_init_426 : decode cX12_init 426 = .ok (.bipush 32, 2) := by decide +kernel
theorem dX12_init_428 : decode cX12_init 428 = .ok (.newarray .int, 2) := by decide +kernel
theorem dX12_init_430 : decode cX12_init 430 = .ok (.putfield 165, 3) := by decide +kernel
theorem dX12_init_433 : decode cX12_init 433 = .ok (.aload_n 0, 1) := by decide +kernel
theorem dX12_init_434 : decode cX12_init 434 = .ok (.bipush 16, 2) := by decide +kernel
theorem dX12_init_436 : decode cX12_init 436 = .ok (.newarray .int, 2) := by decide +kernel
theorem dX12_init_438 : decode cX12_init 438 = .ok (.putfield 168, 3) := by decide +kernel
theorem dX12_init_441 : decode cX12_init 441 = .ok (.aload_n 0, 1) := by decide +kernel
theorem dX12_init_442 : decode cX12_init 442 = .ok (.bipush 32, 2) := by decide +kernel
theorem dX12_init_444 : decode cX12_init 444 = .ok (.newarray .int, 2) := by decide +kernel
theorem dX12_init_446 : decode cX12_init 446 = .ok (.putfield 171, 3) := by decide +kernel
theorem dX12_init_449 : decode cX12_init 449 = .ok (.aload_n 0, 1) := by decide +kernel
theorem dX12_init_450 : decode cX12_init 450 = .ok (.bipush 12, 2) := by decide +kernel
theorem dX12_init_452 : decode cX12_init 452 = .ok (.newarray .int, 2) := by decide +kernel
theorem dX12_init_454 : decode cX12_init 454 = .ok (.putfield 174, 3) := by decide +kernel
theorem dX12_init_457 : decode cX12_init 457 = .ok (.aload_n 0, 1) := by decide +kernel
theorem dX12_init_458 : decode cX12_init 458 = .ok (.bipush 10, 2) := by decide +kernel
theorem dX12_init_460 : decode cX12_init 460 = .ok (.newarray .int, 2) := by decide +kernel
theorem dX12_init_462 : decode cX12_init 462 = .ok (.putfield 177, 3) := by decide +kernel
theorem dX12_init_465 : decode cX12_init 465 = .ok (.aload_n 0, 1) := by decide +kernel
theorem dX12_init_466 : decode cX12_init 466 = .ok (.sipush 2048, 3) := by decide +kernel
theorem dX12_init_469 : decode cX12_init 469 = .ok (.newarray .int, 2) := by decide +kernel
theorem dX12_init_471 : decode cX12_init 471 = .ok (.putfield 180, 3) := by decide +kernel
theorem dX12_init_474 : decode cX12_init 474 = .ok (.iconst 0, 1) := by decide +kernel
theorem dX12_init_475 : decode cX12_init 475 = .ok (.istore_n 1, 1) := by decide +kernel
theorem dX12_init_476 : decode cX12_init 476 = .ok (.iload_n 1, 1) := by decide +kernel
theorem dX12_init_477 : decode cX12_init 477 = .ok (.iconst 3, 1) := by decide +kernel
theorem dX12_init_478 : decode cX12_init 478 = .ok (.if_icmp .ge 17, 3) := by decide +kernel
theorem dX12_init_481 : decode cX12_init 481 = .ok (.aload_n 0, 1) := by decide +kernel
theorem dX12_init_482 : decode cX12_init 482 = .ok (.getfield 34, 3) := by decide +kernel
theorem dX12_init_485 : decode cX12_init 485 = .ok (.iload_n 1, 1) := by decide +kernel
theorem dX12_init_486 : decode cX12_init 486 = .ok (.bipush 30, 2) := by decide +kernel
theorem dX12_init_488 : decode cX12_init 488 = .ok (.iastore, 1) := by decide +kernel
theorem dX12_init_489 : decode cX12_init 489 = .ok (.iinc 1 1, 3) := by decide +kernel
theorem dX12_init_492 : decode cX12_init 492 = .ok (.goto (-16), 3) := by decide +kernel
theorem dX12_init_495 : decode cX12_init 495 = .ok (.aload_n 0, 1) := by decide +kernel
theorem dX12_init_496 : decode cX12_init 496 = .ok (.iconst 2, 1) := by decide +kernel
theorem dX12_init_497 : decode cX12_init 497 = .ok (.putfield 183, 3) := by decide +kernel
theorem dX12_init_500 : decode cX12_init 500 = .ok (.return_, 1) := by decide +kernel
theorem dX12_in_0 : decode cX12_in 0 = .ok (.iload_n 0, 1) := by decide +kernel
theorem dX12_in_1 : decode cX12_in 1 = .ok (.iload_n 1, 1) := by decide +kernel
theorem dX12_in_2 : decode cX12_in 2 = .ok (.if_icmp .lt 12, 3) := by decide +kernel
theorem dX12_in_5 : decode cX12_in 5 = .ok (.iload_n 0, 1) := by decide +kernel
theorem dX12_in_6 : decode cX12_in 6 = .ok (.iload_n 2, 1) := by decide +kernel
theorem dX12_in_7 : decode cX12_in 7 = .ok (.if_icmp .gt 7, 3) := by decide +kernel
theorem dX12_in_10 : decode cX12_in 10 = .ok (.iconst 1, 1) := by decide +kernel
theorem dX12_in_11 : decode cX12_in 11 = .ok (.goto 4, 3) := by decide +kernel
theorem dX12_in_14 : decode cX12_in 14 = .ok (.iconst 0, 1) := by decide +kernel
theorem dX12_in_15 : decode cX12_in 15 = .ok (.ireturn, 1) := by decide +kernel
theorem dX12_isBook_0 : decode cX12_isBook 0 = .ok (.iload_n 1, 1) := by decide +kernel
theorem dX12_isBook_1 : decode cX12_isBook 1 = .ok (.ifCond .lt 15, 3) := by decide +kernel
theorem dX12_isBook_4 : decode cX12_isBook 4 = .ok (.iload_n 1, 1) := by decide +kernel
theorem dX12_isBook_5 : decode cX12_isBook 5 = .ok (.aload_n 0, 1) := by decide +kernel
theorem dX12_isBook_6 : decode cX12_isBook 6 = .ok (.getfield 187, 3) := by decide +kernel
theorem dX12_isBook_9 : decode cX12_isBook 9 = .ok (.if_icmp .ge 7, 3) := by decide +kernel
theorem dX12_isBook_12 : decode cX12_isBook 12 = .ok (.iconst 1, 1) := by decide +kernel
theorem dX12_isBook_13 : decode cX12_isBook 13 = .ok (.goto 4, 3) := by decide +kernel
theorem dX12_isBook_16 : decode cX12_isBook 16 = .ok (.iconst 0, 1) := by decide +kernel
theorem dX12_isBook_17 : decode cX12_isBook 17 = .ok (.ireturn, 1) := by decide +kernel
theorem dX12_isStop_0 : decode cX12_isStop 0 = .ok (.iload_n 1, 1) := by decide +kernel
theorem dX12_isStop_1 : decode cX12_isStop 1 = .ok (.ifCond .lt 15, 3) := by decide +kernel
theorem dX12_isStop_4 : decode cX12_isStop 4 = .ok (.iload_n 1, 1) := by decide +kernel
theorem dX12_isStop_5 : decode cX12_isStop 5 = .ok (.aload_n 0, 1) := by decide +kernel
theorem dX12_isStop_6 : decode cX12_isStop 6 = .ok (.getfield 190, 3) := by decide +kernel
theorem dX12_isStop_9 : decode cX12_isStop 9 = .ok (.if_icmp .ge 7, 3) := by decide +kernel
theorem dX12_isStop_12 : decode cX12_isStop 12 = .ok (.iconst 1, 1) := by decide +kernel
theorem dX12_isStop_13 : decode cX12_isStop 13 = .ok (.goto 4, 3) := by decide +kernel
theorem dX12_isStop_16 : decode cX12_isStop 16 = .ok (.iconst 0, 1) := by decide +kernel
theorem dX12_isStop_17 : decode cX12_isStop 17 = .ok (.ireturn, 1) := by decide +kernel
theorem dX12_isReader_0 : decode cX12_isReader 0 = .ok (.iload_n 1, 1) := by decide +kernel
theorem dX12_isReader_1 : decode cX12_isReader 1 = .ok (.ifCond .lt 15, 3) := by decide +kernel
theorem dX12_isReader_4 : decode cX12_isReader 4 = .ok (.iload_n 1, 1) := by decide +kernel
theorem dX12_isReader_5 : decode cX12_isReader 5 = .ok (.aload_n 0, 1) := by decide +kernel
theorem dX12_isReader_6 : decode cX12_isReader 6 = .ok (.getfield 193, 3) := by decide +kernel
theorem dX12_isReader_9 : decode cX12_isReader 9 = .ok (.if_icmp .ge 7, 3) := by decide +kernel
theorem dX12_isReader_12 : decode cX12_isReader 12 = .ok (.iconst 1, 1) := by decide +kernel
theorem dX12_isReader_13 : decode cX12_isReader 13 = .ok (.goto 4, 3) := by decide +kernel
theorem dX12_isReader_16 : decode cX12_isReader 16 = .ok (.iconst 0, 1) := by decide +kernel
theorem dX12_isReader_17 : decode cX12_isReader 17 = .ok (.ireturn, 1) := by decide +kernel
theorem dX12_isVan_0 : decode cX12_isVan 0 = .ok (.iload_n 0, 1) := by decide +kernel
theorem dX12_isVan_1 : decode cX12_isVan 1 = .ok (.ifCond .lt 12, 3) := by decide +kernel
theorem dX12_isVan_4 : decode cX12_isVan 4 = .ok (.iload_n 0, 1) := by decide +kernel
theorem dX12_isVan_5 : decode cX12_isVan 5 = .ok (.iconst 3, 1) := by decide +kernel
theorem dX12_isVan_6 : decode cX12_isVan 6 = .ok (.if_icmp .ge 7, 3) := by decide +kernel
theorem dX12_isVan_9 : decode cX12_isVan 9 = .ok (.iconst 1, 1) := by decide +kernel
theorem dX12_isVan_10 : decode cX12_isVan 10 = .ok (.goto 4, 3) := by decide +kernel
theorem dX12_isVan_13 : decode cX12_isVan 13 = .ok (.iconst 0, 1) := by decide +kernel
theorem dX12_isVan_14 : decode cX12_isVan 14 = .ok (.ireturn, 1) := by decide +kernel
theorem dX12_isDay_0 : decode cX12_isDay 0 = .ok (.iload_n 0, 1) := by decide +kernel
theorem dX12_isDay_1 : decode cX12_isDay 1 = .ok (.ifCond .lt 14, 3) := by decide +kernel
theorem dX12_isDay_4 : decode cX12_isDay 4 = .ok (.iload_n 0, 1) := by decide +kernel
theorem dX12_isDay_5 : decode cX12_isDay 5 = .ok (.sipush 199, 3) := by decide +kernel
theorem dX12_isDay_8 : decode cX12_isDay 8 = .ok (.if_icmp .gt 7, 3) := by decide +kernel
theorem dX12_isDay_11 : decode cX12_isDay 11 = .ok (.iconst 1, 1) := by decide +kernel
theorem dX12_isDay_12 : decode cX12_isDay 12 = .ok (.goto 4, 3) := by decide +kernel
theorem dX12_isDay_15 : decode cX12_isDay 15 = .ok (.iconst 0, 1) := by decide +kernel
theorem dX12_isDay_16 : decode cX12_isDay 16 = .ok (.ireturn, 1) := by decide +kernel
theorem dX12_now_0 : decode cX12_now 0 = .ok (.iload_n 1, 1) := by decide +kernel
theorem dX12_now_1 : decode cX12_now 1 = .ok (.aload_n 0, 1) := by decide +kernel
theorem dX12_now_2 : decode cX12_now 2 = .ok (.getfield 196, 3) := by decide +kernel
theorem dX12_now_5 : decode cX12_now 5 = .ok (.sipush 199, 3) := by decide +kernel
theorem dX12_now_8 : decode cX12_now 8 = .ok (.invokestatic 199, 3) := by decide +kernel
theorem dX12_now_11 : decode cX12_now 11 = .ok (.ifCond .ne 5, 3) := by decide +kernel
theorem dX12_now_14 : decode cX12_now 14 = .ok (.iconst 0, 1) := by decide +kernel
theorem dX12_now_15 : decode cX12_now 15 = .ok (.ireturn, 1) := by decide +kernel
theorem dX12_now_16 : decode cX12_now 16 = .ok (.aload_n 0, 1) := by decide +kernel
theorem dX12_now_17 : decode cX12_now 17 = .ok (.iload_n 1, 1) := by decide +kernel
theorem dX12_now_18 : decode cX12_now 18 = .ok (.putfield 196, 3) := by decide +kernel
theorem dX12_now_21 : decode cX12_now 21 = .ok (.iconst 1, 1) := by decide +kernel
theorem dX12_now_22 : decode cX12_now 22 = .ok (.ireturn, 1) := by decide +kernel
theorem dX12_book_0 : decode cX12_book 0 = .ok (.iload_n 1, 1) := by decide +kernel
theorem dX12_book_1 : decode cX12_book 1 = .ok (.iconst 0, 1) := by decide +kernel
theorem dX12_book_2 : decode cX12_book 2 = .ok (.bipush 7, 2) := by decide +kernel
theorem dX12_book_4 : decode cX12_book 4 = .ok (.invokestatic 199, 3) := by decide +kernel
theorem dX12_book_7 : decode cX12_book 7 = .ok (.ifCond .eq 43, 3) := by decide +kernel
theorem dX12_book_10 : decode cX12_book 10 = .ok (.iload_n 2, 1) := by decide +kernel
theorem dX12_book_11 : decode cX12_book 11 = .ok (.iconst 1, 1) := by decide +kernel
theorem dX12_book_12 : decode cX12_book 12 = .ok (.bipush 9, 2) := by decide +kernel
theorem dX12_book_14 : decode cX12_book 14 = .ok (.invokestatic 199, 3) := by decide +kernel
theorem dX12_book_17 : decode cX12_book 17 = .ok (.ifCond .eq 33, 3) := by decide +kernel
theorem dX12_book_20 : decode cX12_book 20 = .ok (.iload_n 3, 1) := by decide +kernel
theorem dX12_book_21 : decode cX12_book 21 = .ok (.iconst 0, 1) := by decide +kernel
theorem dX12_book_22 : decode cX12_book 22 = .ok (.iconst 2, 1) := by decide +kernel
theorem dX12_book_23 : decode cX12_book 23 = .ok (.invokestatic 199, 3) := by decide +kernel
theorem dX12_book_26 : decode cX12_book 26 = .ok (.ifCond .eq 24, 3) := by decide +kernel
theorem dX12_book_29 : decode cX12_book 29 = .ok (.iload 4, 2) := by decide +kernel
theorem dX12_book_31 : decode cX12_book 31 = .ok (.iconst 0, 1) := by decide +kernel
theorem dX12_book_32 : decode cX12_book 32 = .ok (.sipush 1000, 3) := by decide +kernel
theorem dX12_book_35 : decode cX12_book 35 = .ok (.invokestatic 199, 3) := by decide +kernel
theorem dX12_book_38 : decode cX12_book 38 = .ok (.ifCond .eq 12, 3) := by decide +kernel
theorem dX12_book_41 : decode cX12_book 41 = .ok (.aload_n 0, 1) := by decide +kernel
theorem dX12_book_42 : decode cX12_book 42 = .ok (.getfield 187, 3) := by decide +kernel
theorem dX12_book_45 : decode cX12_book 45 = .ok (.bipush 32, 2) := by decide +kernel
theorem dX12_book_47 : decode cX12_book 47 = .ok (.if_icmp .ne 5, 3) := by decide +kernel
theorem dX12_book_50 : decode cX12_book 50 = .ok (.iconst (-1), 1) := by decide +kernel
theorem dX12_book_51 : decode cX12_book 51 = .ok (.ireturn, 1) := by decide +kernel
theorem dX12_book_52 : decode cX12_book 52 = .ok (.aload_n 0, 1) := by decide +kernel
theorem dX12_book_53 : decode cX12_book 53 = .ok (.getfield 7, 3) := by decide +kernel
theorem dX12_book_56 : decode cX12_book 56 = .ok (.aload_n 0, 1) := by decide +kernel
theorem dX12_book_57 : decode cX12_book 57 = .ok (.getfield 187, 3) := by decide +kernel
theorem dX12_book_60 : decode cX12_book 60 = .ok (.iload_n 1, 1) := by decide +kernel
theorem dX12_book_61 : decode cX12_book 61 = .ok (.iastore, 1) := by decide +kernel
theorem dX12_book_62 : decode cX12_book 62 = .ok (.aload_n 0, 1) := by decide +kernel
theorem dX12_book_63 : decode cX12_book 63 = .ok (.getfield 13, 3) := by decide +kernel
theorem dX12_book_66 : decode cX12_book 66 = .ok (.aload_n 0, 1) := by decide +kernel
theorem dX12_book_67 : decode cX12_book 67 = .ok (.getfield 187, 3) := by decide +kernel
theorem dX12_book_70 : decode cX12_book 70 = .ok (.iload_n 2, 1) := by decide +kernel
theorem dX12_book_71 : decode cX12_book 71 = .ok (.iastore, 1) := by decide +kernel
theorem dX12_book_72 : decode cX12_book 72 = .ok (.aload_n 0, 1) := by decide +kernel
theorem dX12_book_73 : decode cX12_book 73 = .ok (.getfield 16, 3) := by decide +kernel
theorem dX12_book_76 : decode cX12_book 76 = .ok (.aload_n 0, 1) := by decide +kernel
theorem dX12_book_77 : decode cX12_book 77 = .ok (.getfield 187, 3) := by decide +kernel
theorem dX12_book_80 : decode cX12_book 80 = .ok (.iload_n 3, 1) := by decide +kernel
theorem dX12_book_81 : decode cX12_book 81 = .ok (.iastore, 1) := by decide +kernel
theorem dX12_book_82 : decode cX12_book 82 = .ok (.aload_n 0, 1) := by decide +kernel
theorem dX12_book_83 : decode cX12_book 83 = .ok (.getfield 19, 3) := by decide +kernel
theorem dX12_book_86 : decode cX12_book 86 = .ok (.aload_n 0, 1) := by decide +kernel
theorem dX12_book_87 : decode cX12_book 87 = .ok (.getfield 187, 3) := by decide +kernel
theorem dX12_book_90 : decode cX12_book 90 = .ok (.iload 4, 2) := by decide +kernel
theorem dX12_book_92 : decode cX12_book 92 = .ok (.iastore, 1) := by decide +kernel
theorem dX12_book_93 : decode cX12_book 93 = .ok (.aload_n 0, 1) := by decide +kernel
theorem dX12_book_94 : decode cX12_book 94 = .ok (.getfield 22, 3) := by decide +kernel
theorem dX12_book_97 : decode cX12_book 97 = .ok (.aload_n 0, 1) := by decide +kernel
theorem dX12_book_98 : decode cX12_book 98 = .ok (.getfield 187, 3) := by decide +kernel
theorem dX12_book_101 : decode cX12_book 101 = .ok (.iconst 0, 1) := by decide +kernel
theorem dX12_book_102 : decode cX12_book 102 = .ok (.iastore, 1) := by decide +kernel
theorem dX12_book_103 : decode cX12_book 103 = .ok (.aload_n 0, 1) := by decide +kernel
theorem dX12_book_104 : decode cX12_book 104 = .ok (.getfield 25, 3) := by decide +kernel
theorem dX12_book_107 : decode cX12_book 107 = .ok (.aload_n 0, 1) := by decide +kernel
theorem dX12_book_108 : decode cX12_book 108 = .ok (.getfield 187, 3) := by decide +kernel
theorem dX12_book_111 : decode cX12_book 111 = .ok (.iconst (-1), 1) := by decide +kernel
theorem dX12_book_112 : decode cX12_book 112 = .ok (.iastore, 1) := by decide +kernel
theorem dX12_book_113 : decode cX12_book 113 = .ok (.aload_n 0, 1) := by decide +kernel
theorem dX12_book_114 : decode cX12_book 114 = .ok (.aload_n 0, 1) := by decide +kernel
theorem dX12_book_115 : decode cX12_book 115 = .ok (.getfield 187, 3) := by decide +kernel
theorem dX12_book_118 : decode cX12_book 118 = .ok (.iconst 1, 1) := by decide +kernel
theorem dX12_book_119 : decode cX12_book 119 = .ok (.iadd, 1) := by decide +kernel
theorem dX12_book_120 : decode cX12_book 120 = .ok (.putfield 187, 3) := by decide +kernel
theorem dX12_book_123 : decode cX12_book 123 = .ok (.aload_n 0, 1) := by decide +kernel
theorem dX12_book_124 : decode cX12_book 124 = .ok (.getfield 187, 3) := by decide +kernel
theorem dX12_book_127 : decode cX12_book 127 = .ok (.iconst 1, 1) := by decide +kernel
theorem dX12_book_128 : decode cX12_book 128 = .ok (.isub, 1) := by decide +kernel
theorem dX12_book_129 : decode cX12_book 129 = .ok (.ireturn, 1) := by decide +kernel
theorem dX12_lengthOn_0 : decode cX12_lengthOn 0 = .ok (.iconst 0, 1) := by decide +kernel
theorem dX12_lengthOn_1 : decode cX12_lengthOn 1 = .ok (.istore_n 2, 1) := by decide +kernel
theorem dX12_lengthOn_2 : decode cX12_lengthOn 2 = .ok (.iconst 0, 1) := by decide +kernel
theorem dX12_lengthOn_3 : decode cX12_lengthOn 3 = .ok (.istore_n 3, 1) := by decide +kernel
theorem dX12_lengthOn_4 : decode cX12_lengthOn 4 = .ok (.iload_n 3, 1) := by decide +kernel
theorem dX12_lengthOn_5 : decode cX12_lengthOn 5 = .ok (.aload_n 0, 1) := by decide +kernel
theorem dX12_lengthOn_6 : decode cX12_lengthOn 6 = .ok (.getfield 187, 3) := by decide +kernel
theorem dX12_lengthOn_9 : decode cX12_lengthOn 9 = .ok (.if_icmp .ge 34, 3) := by decide +kernel
theorem dX12_lengthOn_12 : decode cX12_lengthOn 12 = .ok (.iload_n 2, 1) := by decide +kernel
theorem dX12_lengthOn_13 : decode cX12_lengthOn 13 = .ok (.aload_n 0, 1) := by decide +kernel
theorem dX12_lengthOn_14 : decode cX12_lengthOn 14 = .ok (.getfield 22, 3) := by decide +kernel
theorem dX12_lengthOn_17 : decode cX12_lengthOn 17 = .ok (.iload_n 3, 1) := by decide +kernel
theorem dX12_lengthOn_18 : decode cX12_lengthOn 18 = .ok (.iaload, 1) := by decide +kernel
theorem dX12_lengthOn_19 : decode cX12_lengthOn 19 = .ok (.iconst 1, 1) := by decide +kernel
theorem dX12_lengthOn_20 : decode cX12_lengthOn 20 = .ok (.iload_n 1, 1) := by decide +kernel
theorem dX12_lengthOn_21 : decode cX12_lengthOn 21 = .ok (.iadd, 1) := by decide +kernel
theorem dX12_lengthOn_22 : decode cX12_lengthOn 22 = .ok (.if_icmp .ne 12, 3) := by decide +kernel
theorem dX12_lengthOn_25 : decode cX12_lengthOn 25 = .ok (.aload_n 0, 1) := by decide +kernel
theorem dX12_lengthOn_26 : decode cX12_lengthOn 26 = .ok (.getfield 13, 3) := by decide +kernel
theorem dX12_lengthOn_29 : decode cX12_lengthOn 29 = .ok (.iload_n 3, 1) := by decide +kernel
theorem dX12_lengthOn_30 : decode cX12_lengthOn 30 = .ok (.iaload, 1) := by decide +kernel
theorem dX12_lengthOn_31 : decode cX12_lengthOn 31 = .ok (.goto 4, 3) := by decide +kernel
theorem dX12_lengthOn_34 : decode cX12_lengthOn 34 = .ok (.iconst 0, 1) := by decide +kernel
theorem dX12_lengthOn_35 : decode cX12_lengthOn 35 = .ok (.iadd, 1) := by decide +kernel
theorem dX12_lengthOn_36 : decode cX12_lengthOn 36 = .ok (.istore_n 2, 1) := by decide +kernel
theorem dX12_lengthOn_37 : decode cX12_lengthOn 37 = .ok (.iinc 3 1, 3) := by decide +kernel
theorem dX12_lengthOn_40 : decode cX12_lengthOn 40 = .ok (.goto (-36), 3) := by decide +kernel
theorem dX12_lengthOn_43 : decode cX12_lengthOn 43 = .ok (.iload_n 2, 1) := by decide +kernel
theorem dX12_lengthOn_44 : decode cX12_lengthOn 44 = .ok (.ireturn, 1) := by decide +kernel
theorem dX12_shelf_0 : decode cX12_shelf 0 = .ok (.iload_n 1, 1) := by decide +kernel
theorem dX12_shelf_1 : decode cX12_shelf 1 = .ok (.invokestatic 203, 3) := by decide +kernel
theorem dX12_shelf_4 : decode cX12_shelf 4 = .ok (.ifCond .eq 22, 3) := by decide +kernel
theorem dX12_shelf_7 : decode cX12_shelf 7 = .ok (.iload_n 2, 1) := by decide +kernel
theorem dX12_shelf_8 : decode cX12_shelf 8 = .ok (.iconst 0, 1) := by decide +kernel
theorem dX12_shelf_9 : decode cX12_shelf 9 = .ok (.bipush 99, 2) := by decide +kernel
theorem dX12_shelf_11 : decode cX12_shelf 11 = .ok (.invokestatic 199, 3) := by decide +kernel
theorem dX12_shelf_14 : decode cX12_shelf 14 = .ok (.ifCond .eq 12, 3) := by decide +kernel
theorem dX12_shelf_17 : decode cX12_shelf 17 = .ok (.aload_n 0, 1) := by decide +kernel
theorem dX12_shelf_18 : decode cX12_shelf 18 = .ok (.iload_n 1, 1) := by decide +kernel
theorem dX12_shelf_19 : decode cX12_shelf 19 = .ok (.invokevirtual 207, 3) := by decide +kernel
theorem dX12_shelf_22 : decode cX12_shelf 22 = .ok (.iload_n 2, 1) := by decide +kernel
theorem dX12_shelf_23 : decode cX12_shelf 23 = .ok (.if_icmp .le 5, 3) := by decide +kernel
theorem dX12_shelf_26 : decode cX12_shelf 26 = .ok (.iconst 0, 1) := by decide +kernel
theorem dX12_shelf_27 : decode cX12_shelf 27 = .ok (.ireturn, 1) := by decide +kernel
theorem dX12_shelf_28 : decode cX12_shelf 28 = .ok (.aload_n 0, 1) := by decide +kernel
theorem dX12_shelf_29 : decode cX12_shelf 29 = .ok (.getfield 34, 3) := by decide +kernel
theorem dX12_shelf_32 : decode cX12_shelf 32 = .ok (.iload_n 1, 1) := by decide +kernel
theorem dX12_shelf_33 : decode cX12_shelf 33 = .ok (.iload_n 2, 1) := by decide +kernel
theorem dX12_shelf_34 : decode cX12_shelf 34 = .ok (.iastore, 1) := by decide +kernel
theorem dX12_shelf_35 : decode cX12_shelf 35 = .ok (.iconst 1, 1) := by decide +kernel
theorem dX12_shelf_36 : decode cX12_shelf 36 = .ok (.ireturn, 1) := by decide +kernel
theorem dX12_stop_0 : decode cX12_stop 0 = .ok (.iload_n 1, 1) := by decide +kernel
theorem dX12_stop_1 : decode cX12_stop 1 = .ok (.iconst 0, 1) := by decide +kernel
theorem dX12_stop_2 : decode cX12_stop 2 = .ok (.bipush 99, 2) := by decide +kernel
theorem dX12_stop_4 : decode cX12_stop 4 = .ok (.invokestatic 199, 3) := by decide +kernel
theorem dX12_stop_7 : decode cX12_stop 7 = .ok (.ifCond .eq 33, 3) := by decide +kernel
theorem dX12_stop_10 : decode cX12_stop 10 = .ok (.iload_n 2, 1) := by decide +kernel
theorem dX12_stop_11 : decode cX12_stop 11 = .ok (.iconst 0, 1) := by decide +kernel
theorem dX12_stop_12 : decode cX12_stop 12 = .ok (.bipush 99, 2) := by decide +kernel
theorem dX12_stop_14 : decode cX12_stop 14 = .ok (.invokestatic 199, 3) := by decide +kernel
theorem dX12_stop_17 : decode cX12_stop 17 = .ok (.ifCond .eq 23, 3) := by decide +kernel
theorem dX12_stop_20 : decode cX12_stop 20 = .ok (.iload_n 3, 1) := by decide +kernel
theorem dX12_stop_21 : decode cX12_stop 21 = .ok (.iconst 1, 1) := by decide +kernel
theorem dX12_stop_22 : decode cX12_stop 22 = .ok (.sipush 200, 3) := by decide +kernel
theorem dX12_stop_25 : decode cX12_stop 25 = .ok (.invokestatic 199, 3) := by decide +kernel
theorem dX12_stop_28 : decode cX12_stop 28 = .ok (.ifCond .eq 12, 3) := by decide +kernel
theorem dX12_stop_31 : decode cX12_stop 31 = .ok (.aload_n 0, 1) := by decide +kernel
theorem dX12_stop_32 : decode cX12_stop 32 = .ok (.getfield 190, 3) := by decide +kernel
theorem dX12_stop_35 : decode cX12_stop 35 = .ok (.bipush 10, 2) := by decide +kernel
theorem dX12_stop_37 : decode cX12_stop 37 = .ok (.if_icmp .ne 5, 3) := by decide +kernel
theorem dX12_stop_40 : decode cX12_stop 40 = .ok (.iconst (-1), 1) := by decide +kernel
theorem dX12_stop_41 : decode cX12_stop 41 = .ok (.ireturn, 1) := by decide +kernel
theorem dX12_stop_42 : decode cX12_stop 42 = .ok (.aload_n 0, 1) := by decide +kernel
theorem dX12_stop_43 : decode cX12_stop 43 = .ok (.getfield 37, 3) := by decide +kernel
theorem dX12_stop_46 : decode cX12_stop 46 = .ok (.aload_n 0, 1) := by decide +kernel
theorem dX12_stop_47 : decode cX12_stop 47 = .ok (.getfield 190, 3) := by decide +kernel
theorem dX12_stop_50 : decode cX12_stop 50 = .ok (.iload_n 1, 1) := by decide +kernel
theorem dX12_stop_51 : decode cX12_stop 51 = .ok (.iastore, 1) := by decide +kernel
theorem dX12_stop_52 : decode cX12_stop 52 = .ok (.aload_n 0, 1) := by decide +kernel
theorem dX12_stop_53 : decode cX12_stop 53 = .ok (.getfield 40, 3) := by decide +kernel
theorem dX12_stop_56 : decode cX12_stop 56 = .ok (.aload_n 0, 1) := by decide +kernel
theorem dX12_stop_57 : decode cX12_stop 57 = .ok (.getfield 190, 3) := by decide +kernel
theorem dX12_stop_60 : decode cX12_stop 60 = .ok (.iload_n 2, 1) := by decide +kernel
theorem dX12_stop_61 : decode cX12_stop 61 = .ok (.iastore, 1) := by decide +kernel
theorem dX12_stop_62 : decode cX12_stop 62 = .ok (.aload_n 0, 1) := by decide +kernel
theorem dX12_stop_63 : decode cX12_stop 63 = .ok (.getfield 43, 3) := by decide +kernel
theorem dX12_stop_66 : decode cX12_stop 66 = .ok (.aload_n 0, 1) := by decide +kernel
theorem dX12_stop_67 : decode cX12_stop 67 = .ok (.getfield 190, 3) := by decide +kernel
theorem dX12_stop_70 : decode cX12_stop 70 = .ok (.iload_n 3, 1) := by decide +kernel
theorem dX12_stop_71 : decode cX12_stop 71 = .ok (.iastore, 1) := by decide +kernel
theorem dX12_stop_72 : decode cX12_stop 72 = .ok (.aload_n 0, 1) := by decide +kernel
theorem dX12_stop_73 : decode cX12_stop 73 = .ok (.getfield 46, 3) := by decide +kernel
theorem dX12_stop_76 : decode cX12_stop 76 = .ok (.aload_n 0, 1) := by decide +kernel
theorem dX12_stop_77 : decode cX12_stop 77 = .ok (.getfield 190, 3) := by decide +kernel
theorem dX12_stop_80 : decode cX12_stop 80 = .ok (.iconst (-1), 1) := by decide +kernel
theorem dX12_stop_81 : decode cX12_stop 81 = .ok (.iastore, 1) := by decide +kernel
theorem dX12_stop_82 : decode cX12_stop 82 = .ok (.aload_n 0, 1) := by decide +kernel
theorem dX12_stop_83 : decode cX12_stop 83 = .ok (.getfield 80, 3) := by decide +kernel
theorem dX12_stop_86 : decode cX12_stop 86 = .ok (.aload_n 0, 1) := by decide +kernel
theorem dX12_stop_87 : decode cX12_stop 87 = .ok (.getfield 190, 3) := by decide +kernel
theorem dX12_stop_90 : decode cX12_stop 90 = .ok (.iconst (-1), 1) := by decide +kernel
theorem dX12_stop_91 : decode cX12_stop 91 = .ok (.iastore, 1) := by decide +kernel
theorem dX12_stop_92 : decode cX12_stop 92 = .ok (.aload_n 0, 1) := by decide +kernel
theorem dX12_stop_93 : decode cX12_stop 93 = .ok (.aload_n 0, 1) := by decide +kernel
theorem dX12_stop_94 : decode cX12_stop 94 = .ok (.getfield 190, 3) := by decide +kernel
theorem dX12_stop_97 : decode cX12_stop 97 = .ok (.iconst 1, 1) := by decide +kernel
theorem dX12_stop_98 : decode cX12_stop 98 = .ok (.iadd, 1) := by decide +kernel
theorem dX12_stop_99 : decode cX12_stop 99 = .ok (.putfield 190, 3) := by decide +kernel
theorem dX12_stop_102 : decode cX12_stop 102 = .ok (.aload_n 0, 1) := by decide +kernel
theorem dX12_stop_103 : decode cX12_stop 103 = .ok (.getfield 190, 3) := by decide +kernel
theorem dX12_stop_106 : decode cX12_stop 106 = .ok (.iconst 1, 1) := by decide +kernel
theorem dX12_stop_107 : decode cX12_stop 107 = .ok (.isub, 1) := by decide +kernel
theorem dX12_stop_108 : decode cX12_stop 108 = .ok (.ireturn, 1) := by decide +kernel
theorem dX12_visit_0 : decode cX12_visit 0 = .ok (.aload_n 0, 1) := by decide +kernel
theorem dX12_visit_1 : decode cX12_visit 1 = .ok (.iload_n 1, 1) := by decide +kernel
theorem dX12_visit_2 : decode cX12_visit 2 = .ok (.invokevirtual 211, 3) := by decide +kernel
theorem dX12_visit_5 : decode cX12_visit 5 = .ok (.ifCond .eq 25, 3) := by decide +kernel
theorem dX12_visit_8 : decode cX12_visit 8 = .ok (.iload_n 2, 1) := by decide +kernel
theorem dX12_visit_9 : decode cX12_visit 9 = .ok (.iconst (-1), 1) := by decide +kernel
theorem dX12_visit_10 : decode cX12_visit 10 = .ok (.if_icmp .eq 10, 3) := by decide +kernel
theorem dX12_visit_13 : decode cX12_visit 13 = .ok (.iload_n 2, 1) := by decide +kernel
theorem dX12_visit_14 : decode cX12_visit 14 = .ok (.invokestatic 203, 3) := by decide +kernel
theorem dX12_visit_17 : decode cX12_visit 17 = .ok (.ifCond .eq 13, 3) := by decide +kernel
theorem dX12_visit_20 : decode cX12_visit 20 = .ok (.iload_n 3, 1) := by decide +kernel
theorem dX12_visit_21 : decode cX12_visit 21 = .ok (.iconst 0, 1) := by decide +kernel
theorem dX12_visit_22 : decode cX12_visit 22 = .ok (.bipush 13, 2) := by decide +kernel
theorem dX12_visit_24 : decode cX12_visit 24 = .ok (.invokestatic 199, 3) := by decide +kernel
theorem dX12_visit_27 : decode cX12_visit 27 = .ok (.ifCond .ne 5, 3) := by decide +kernel
theorem dX12_visit_30 : decode cX12_visit 30 = .ok (.iconst 0, 1) := by decide +kernel
theorem dX12_visit_31 : decode cX12_visit 31 = .ok (.ireturn, 1) := by decide +kernel
theorem dX12_visit_32 : decode cX12_visit 32 = .ok (.aload_n 0, 1) := by decide +kernel
theorem dX12_visit_33 : decode cX12_visit 33 = .ok (.getfield 46, 3) := by decide +kernel
theorem dX12_visit_36 : decode cX12_visit 36 = .ok (.iload_n 1, 1) := by decide +kernel
theorem dX12_visit_37 : decode cX12_visit 37 = .ok (.iload_n 2, 1) := by decide +kernel
theorem dX12_visit_38 : decode cX12_visit 38 = .ok (.iastore, 1) := by decide +kernel
theorem dX12_visit_39 : decode cX12_visit 39 = .ok (.aload_n 0, 1) := by decide +kernel
theorem dX12_visit_40 : decode cX12_visit 40 = .ok (.getfield 49, 3) := by decide +kernel
theorem dX12_visit_43 : decode cX12_visit 43 = .ok (.iload_n 1, 1) := by decide +kernel
theorem dX12_visit_44 : decode cX12_visit 44 = .ok (.iload_n 3, 1) := by decide +kernel
theorem dX12_visit_45 : decode cX12_visit 45 = .ok (.iastore, 1) := by decide +kernel
theorem dX12_visit_46 : decode cX12_visit 46 = .ok (.iconst 1, 1) := by decide +kernel
theorem dX12_visit_47 : decode cX12_visit 47 = .ok (.ireturn, 1) := by decide +kernel
theorem dX12_reader_0 : decode cX12_reader 0 = .ok (.aload_n 0, 1) := by decide +kernel
theorem dX12_reader_1 : decode cX12_reader 1 = .ok (.iload_n 1, 1) := by decide +kernel
theorem dX12_reader_2 : decode cX12_reader 2 = .ok (.invokevirtual 211, 3) := by decide +kernel
theorem dX12_reader_5 : decode cX12_reader 5 = .ok (.ifCond .eq 21, 3) := by decide +kernel
theorem dX12_reader_8 : decode cX12_reader 8 = .ok (.iload_n 2, 1) := by decide +kernel
theorem dX12_reader_9 : decode cX12_reader 9 = .ok (.iconst 0, 1) := by decide +kernel
theorem dX12_reader_10 : decode cX12_reader 10 = .ok (.iconst 2, 1) := by decide +kernel
theorem dX12_reader_11 : decode cX12_reader 11 = .ok (.invokestatic 199, 3) := by decide +kernel
theorem dX12_reader_14 : decode cX12_reader 14 = .ok (.ifCond .eq 12, 3) := by decide +kernel
theorem dX12_reader_17 : decode cX12_reader 17 = .ok (.aload_n 0, 1) := by decide +kernel
theorem dX12_reader_18 : decode cX12_reader 18 = .ok (.getfield 193, 3) := by decide +kernel
theorem dX12_reader_21 : decode cX12_reader 21 = .ok (.bipush 16, 2) := by decide +kernel
theorem dX12_reader_23 : decode cX12_reader 23 = .ok (.if_icmp .ne 5, 3) := by decide +kernel
theorem dX12_reader_26 : decode cX12_reader 26 = .ok (.iconst (-1), 1) := by decide +kernel
theorem dX12_reader_27 : decode cX12_reader 27 = .ok (.ireturn, 1) := by decide +kernel
theorem dX12_reader_28 : decode cX12_reader 28 = .ok (.aload_n 0, 1) := by decide +kernel
theorem dX12_reader_29 : decode cX12_reader 29 = .ok (.getfield 52, 3) := by decide +kernel
theorem dX12_reader_32 : decode cX12_reader 32 = .ok (.aload_n 0, 1) := by decide +kernel
theorem dX12_reader_33 : decode cX12_reader 33 = .ok (.getfield 193, 3) := by decide +kernel
theorem dX12_reader_36 : decode cX12_reader 36 = .ok (.iload_n 1, 1) := by decide +kernel
theorem dX12_reader_37 : decode cX12_reader 37 = .ok (.iastore, 1) := by decide +kernel
theorem dX12_reader_38 : decode cX12_reader 38 = .ok (.aload_n 0, 1) := by decide +kernel
theorem dX12_reader_39 : decode cX12_reader 39 = .ok (.getfield 55, 3) := by decide +kernel
theorem dX12_reader_42 : decode cX12_reader 42 = .ok (.aload_n 0, 1) := by decide +kernel
theorem dX12_reader_43 : decode cX12_reader 43 = .ok (.getfield 193, 3) := by decide +kernel
theorem dX12_reader_46 : decode cX12_reader 46 = .ok (.iload_n 2, 1) := by decide +kernel
theorem dX12_reader_47 : decode cX12_reader 47 = .ok (.iastore, 1) := by decide +kernel
theorem dX12_reader_48 : decode cX12_reader 48 = .ok (.iconst 0, 1) := by decide +kernel
theorem dX12_reader_49 : decode cX12_reader 49 = .ok (.istore_n 3, 1) := by decide +kernel
theorem dX12_reader_50 : decode cX12_reader 50 = .ok (.iload_n 3, 1) := by decide +kernel
theorem dX12_reader_51 : decode cX12_reader 51 = .ok (.bipush 32, 2) := by decide +kernel
theorem dX12_reader_53 : decode cX12_reader 53 = .ok (.if_icmp .ge 24, 3) := by decide +kernel
theorem dX12_reader_56 : decode cX12_reader 56 = .ok (.aload_n 0, 1) := by decide +kernel
theorem dX12_reader_57 : decode cX12_reader 57 = .ok (.getfield 67, 3) := by decide +kernel
theorem dX12_reader_60 : decode cX12_reader 60 = .ok (.bipush 32, 2) := by decide +kernel
theorem dX12_reader_62 : decode cX12_reader 62 = .ok (.aload_n 0, 1) := by decide +kernel
theorem dX12_reader_63 : decode cX12_reader 63 = .ok (.getfield 193, 3) := by decide +kernel
theorem dX12_reader_66 : decode cX12_reader 66 = .ok (.imul, 1) := by decide +kernel
theorem dX12_reader_67 : decode cX12_reader 67 = .ok (.iload_n 3, 1) := by decide +kernel
theorem dX12_reader_68 : decode cX12_reader 68 = .ok (.iadd, 1) := by decide +kernel
theorem dX12_reader_69 : decode cX12_reader 69 = .ok (.iconst (-1), 1) := by decide +kernel
theorem dX12_reader_70 : decode cX12_reader 70 = .ok (.iastore, 1) := by decide +kernel
theorem dX12_reader_71 : decode cX12_reader 71 = .ok (.iinc 3 1, 3) := by decide +kernel
theorem dX12_reader_74 : decode cX12_reader 74 = .ok (.goto (-24), 3) := by decide +kernel
theorem dX12_reader_77 : decode cX12_reader 77 = .ok (.aload_n 0, 1) := by decide +kernel
theorem dX12_reader_78 : decode cX12_reader 78 = .ok (.aload_n 0, 1) := by decide +kernel
theorem dX12_reader_79 : decode cX12_reader 79 = .ok (.getfield 193, 3) := by decide +kernel
theorem dX12_reader_82 : decode cX12_reader 82 = .ok (.iconst 1, 1) := by decide +kernel
theorem dX12_reader_83 : decode cX12_reader 83 = .ok (.iadd, 1) := by decide +kernel
theorem dX12_reader_84 : decode cX12_reader 84 = .ok (.putfield 193, 3) := by decide +kernel
theorem dX12_reader_87 : decode cX12_reader 87 = .ok (.aload_n 0, 1) := by decide +kernel
theorem dX12_reader_88 : decode cX12_reader 88 = .ok (.getfield 193, 3) := by decide +kernel
theorem dX12_reader_91 : decode cX12_reader 91 = .ok (.iconst 1, 1) := by decide +kernel
theorem dX12_reader_92 : decode cX12_reader 92 = .ok (.isub, 1) := by decide +kernel
theorem dX12_reader_93 : decode cX12_reader 93 = .ok (.ireturn, 1) := by decide +kernel
theorem dX12_taste_0 : decode cX12_taste 0 = .ok (.aload_n 0, 1) := by decide +kernel
theorem dX12_taste_1 : decode cX12_taste 1 = .ok (.iload_n 1, 1) := by decide +kernel
theorem dX12_taste_2 : decode cX12_taste 2 = .ok (.invokevirtual 214, 3) := by decide +kernel
theorem dX12_taste_5 : decode cX12_taste 5 = .ok (.ifCond .eq 23, 3) := by decide +kernel
theorem dX12_taste_8 : decode cX12_taste 8 = .ok (.iload_n 2, 1) := by decide +kernel
theorem dX12_taste_9 : decode cX12_taste 9 = .ok (.iconst 0, 1) := by decide +kernel
theorem dX12_taste_10 : decode cX12_taste 10 = .ok (.bipush 7, 2) := by decide +kernel
theorem dX12_taste_12 : decode cX12_taste 12 = .ok (.invokestatic 199, 3) := by decide +kernel
theorem dX12_taste_15 : decode cX12_taste 15 = .ok (.ifCond .eq 13, 3) := by decide +kernel
theorem dX12_taste_18 : decode cX12_taste 18 = .ok (.iload_n 3, 1) := by decide +kernel
theorem dX12_taste_19 : decode cX12_taste 19 = .ok (.iconst 0, 1) := by decide +kernel
theorem dX12_taste_20 : decode cX12_taste 20 = .ok (.bipush 9, 2) := by decide +kernel
theorem dX12_taste_22 : decode cX12_taste 22 = .ok (.invokestatic 199, 3) := by decide +kernel
theorem dX12_taste_25 : decode cX12_taste 25 = .ok (.ifCond .ne 5, 3) := by decide +kernel
theorem dX12_taste_28 : decode cX12_taste 28 = .ok (.iconst 0, 1) := by decide +kernel
theorem dX12_taste_29 : decode cX12_taste 29 = .ok (.ireturn, 1) := by decide +kernel
theorem dX12_taste_30 : decode cX12_taste 30 = .ok (.aload_n 0, 1) := by decide +kernel
theorem dX12_taste_31 : decode cX12_taste 31 = .ok (.getfield 58, 3) := by decide +kernel
theorem dX12_taste_34 : decode cX12_taste 34 = .ok (.bipush 8, 2) := by decide +kernel
theorem dX12_taste_36 : decode cX12_taste 36 = .ok (.iload_n 1, 1) := by decide +kernel
theorem dX12_taste_37 : decode cX12_taste 37 = .ok (.imul, 1) := by decide +kernel
theorem dX12_taste_38 : decode cX12_taste 38 = .ok (.iload_n 2, 1) := by decide +kernel
theorem dX12_taste_39 : decode cX12_taste 39 = .ok (.iadd, 1) := by decide +kernel
theorem dX12_taste_40 : decode cX12_taste 40 = .ok (.iload_n 3, 1) := by decide +kernel
theorem dX12_taste_41 : decode cX12_taste 41 = .ok (.iastore, 1) := by decide +kernel
theorem dX12_taste_42 : decode cX12_taste 42 = .ok (.iconst 1, 1) := by decide +kernel
theorem dX12_taste_43 : decode cX12_taste 43 = .ok (.ireturn, 1) := by decide +kernel
theorem dX12_had_0 : decode cX12_had 0 = .ok (.aload_n 0, 1) := by decide +kernel
theorem dX12_had_1 : decode cX12_had 1 = .ok (.iload_n 1, 1) := by decide +kernel
theorem dX12_had_2 : decode cX12_had 2 = .ok (.invokevirtual 214, 3) := by decide +kernel
theorem dX12_had_5 : decode cX12_had 5 = .ok (.ifCond .eq 25, 3) := by decide +kernel
theorem dX12_had_8 : decode cX12_had 8 = .ok (.aload_n 0, 1) := by decide +kernel
theorem dX12_had_9 : decode cX12_had 9 = .ok (.iload_n 2, 1) := by decide +kernel
theorem dX12_had_10 : decode cX12_had 10 = .ok (.invokevirtual 217, 3) := by decide +kernel
theorem dX12_had_13 : decode cX12_had 13 = .ok (.ifCond .eq 17, 3) := by decide +kernel
theorem dX12_had_16 : decode cX12_had 16 = .ok (.aload_n 0, 1) := by decide +kernel
theorem dX12_had_17 : decode cX12_had 17 = .ok (.getfield 70, 3) := by decide +kernel
theorem dX12_had_20 : decode cX12_had 20 = .ok (.bipush 32, 2) := by decide +kernel
theorem dX12_had_22 : decode cX12_had 22 = .ok (.iload_n 1, 1) := by decide +kernel
theorem dX12_had_23 : decode cX12_had 23 = .ok (.imul, 1) := by decide +kernel
theorem dX12_had_24 : decode cX12_had 24 = .ok (.iload_n 2, 1) := by decide +kernel
theorem dX12_had_25 : decode cX12_had 25 = .ok (.iadd, 1) := by decide +kernel
theorem dX12_had_26 : decode cX12_had 26 = .ok (.baload, 1) := by decide +kernel
theorem dX12_had_27 : decode cX12_had 27 = .ok (.ifCond .eq 5, 3) := by decide +kernel
theorem dX12_had_30 : decode cX12_had 30 = .ok (.iconst 0, 1) := by decide +kernel
theorem dX12_had_31 : decode cX12_had 31 = .ok (.ireturn, 1) := by decide +kernel
theorem dX12_had_32 : decode cX12_had 32 = .ok (.aload_n 0, 1) := by decide +kernel
theorem dX12_had_33 : decode cX12_had 33 = .ok (.getfield 70, 3) := by decide +kernel
theorem dX12_had_36 : decode cX12_had 36 = .ok (.bipush 32, 2) := by decide +kernel
theorem dX12_had_38 : decode cX12_had 38 = .ok (.iload_n 1, 1) := by decide +kernel
theorem dX12_had_39 : decode cX12_had 39 = .ok (.imul, 1) := by decide +kernel
theorem dX12_had_40 : decode cX12_had 40 = .ok (.iload_n 2, 1) := by decide +kernel
theorem dX12_had_41 : decode cX12_had 41 = .ok (.iadd, 1) := by decide +kernel
theorem dX12_had_42 : decode cX12_had 42 = .ok (.iconst 1, 1) := by decide +kernel
theorem dX12_had_43 : decode cX12_had 43 = .ok (.bastore, 1) := by decide +kernel
theorem dX12_had_44 : decode cX12_had 44 = .ok (.iconst 1, 1) := by decide +kernel
theorem dX12_had_45 : decode cX12_had 45 = .ok (.ireturn, 1) := by decide +kernel
theorem dX12_types_0 : decode cX12_types 0 = .ok (.iconst 3, 1) := by decide +kernel
theorem dX12_types_1 : decode cX12_types 1 = .ok (.istore_n 2, 1) := by decide +kernel
theorem dX12_types_2 : decode cX12_types 2 = .ok (.iload_n 2, 1) := by decide +kernel
theorem dX12_types_3 : decode cX12_types 3 = .ok (.ifCond .lt 35, 3) := by decide +kernel
theorem dX12_types_6 : decode cX12_types 6 = .ok (.aload_n 0, 1) := by decide +kernel
theorem dX12_types_7 : decode cX12_types 7 = .ok (.getfield 98, 3) := by decide +kernel
theorem dX12_types_10 : decode cX12_types 10 = .ok (.aload_n 0, 1) := by decide +kernel
theorem dX12_types_11 : decode cX12_types 11 = .ok (.getfield 220, 3) := by decide +kernel
theorem dX12_types_14 : decode cX12_types 14 = .ok (.iload_n 1, 1) := by decide +kernel
theorem dX12_types_15 : decode cX12_types 15 = .ok (.bipush 8, 2) := by decide +kernel
theorem dX12_types_17 : decode cX12_types 17 = .ok (.iload_n 2, 1) := by decide +kernel
theorem dX12_types_18 : decode cX12_types 18 = .ok (.imul, 1) := by decide +kernel
theorem dX12_types_19 : decode cX12_types 19 = .ok (.ishr, 1) := by decide +kernel
theorem dX12_types_20 : decode cX12_types 20 = .ok (.i2b, 1) := by decide +kernel
theorem dX12_types_21 : decode cX12_types 21 = .ok (.bastore, 1) := by decide +kernel
theorem dX12_types_22 : decode cX12_types 22 = .ok (.aload_n 0, 1) := by decide +kernel
theorem dX12_types_23 : decode cX12_types 23 = .ok (.aload_n 0, 1) := by decide +kernel
theorem dX12_types_24 : decode cX12_types 24 = .ok (.getfield 220, 3) := by decide +kernel
theorem dX12_types_27 : decode cX12_types 27 = .ok (.iconst 1, 1) := by decide +kernel
theorem dX12_types_28 : decode cX12_types 28 = .ok (.iadd, 1) := by decide +kernel
theorem dX12_types_29 : decode cX12_types 29 = .ok (.putfield 220, 3) := by decide +kernel
theorem dX12_types_32 : decode cX12_types 32 = .ok (.iinc 2 (-1), 3) := by decide +kernel
theorem dX12_types_35 : decode cX12_types 35 = .ok (.goto (-33), 3) := by decide +kernel
theorem dX12_types_38 : decode cX12_types 38 = .ok (.return_, 1) := by decide +kernel
theorem dX12_feed_0 : decode cX12_feed 0 = .ok (.aload_n 0, 1) := by decide +kernel
theorem dX12_feed_1 : decode cX12_feed 1 = .ok (.getfield 220, 3) := by decide +kernel
theorem dX12_feed_4 : decode cX12_feed 4 = .ok (.bipush 20, 2) := by decide +kernel
theorem dX12_feed_6 : decode cX12_feed 6 = .ok (.iadd, 1) := by decide +kernel
theorem dX12_feed_7 : decode cX12_feed 7 = .ok (.sipush 400, 3) := by decide +kernel
theorem dX12_feed_10 : decode cX12_feed 10 = .ok (.if_icmp .le 5, 3) := by decide +kernel
theorem dX12_feed_13 : decode cX12_feed 13 = .ok (.iconst (-1), 1) := by decide +kernel
theorem dX12_feed_14 : decode cX12_feed 14 = .ok (.ireturn, 1) := by decide +kernel
theorem dX12_feed_15 : decode cX12_feed 15 = .ok (.aload_n 0, 1) := by decide +kernel
theorem dX12_feed_16 : decode cX12_feed 16 = .ok (.iload_n 1, 1) := by decide +kernel
theorem dX12_feed_17 : decode cX12_feed 17 = .ok (.invokevirtual 223, 3) := by decide +kernel
theorem dX12_feed_20 : decode cX12_feed 20 = .ok (.aload_n 0, 1) := by decide +kernel
theorem dX12_feed_21 : decode cX12_feed 21 = .ok (.iload_n 2, 1) := by decide +kernel
theorem dX12_feed_22 : decode cX12_feed 22 = .ok (.invokevirtual 223, 3) := by decide +kernel
theorem dX12_feed_25 : decode cX12_feed 25 = .ok (.aload_n 0, 1) := by decide +kernel
theorem dX12_feed_26 : decode cX12_feed 26 = .ok (.iload_n 3, 1) := by decide +kernel
theorem dX12_feed_27 : decode cX12_feed 27 = .ok (.invokevirtual 223, 3) := by decide +kernel
theorem dX12_feed_30 : decode cX12_feed 30 = .ok (.aload_n 0, 1) := by decide +kernel
theorem dX12_feed_31 : decode cX12_feed 31 = .ok (.iload 4, 2) := by decide +kernel
theorem dX12_feed_33 : decode cX12_feed 33 = .ok (.invokevirtual 223, 3) := by decide +kernel
theorem dX12_feed_36 : decode cX12_feed 36 = .ok (.aload_n 0, 1) := by decide +kernel
theorem dX12_feed_37 : decode cX12_feed 37 = .ok (.iload 5, 2) := by decide +kernel
theorem dX12_feed_39 : decode cX12_feed 39 = .ok (.invokevirtual 223, 3) := by decide +kernel
theorem dX12_feed_42 : decode cX12_feed 42 = .ok (.aload_n 0, 1) := by decide +kernel
theorem dX12_feed_43 : decode cX12_feed 43 = .ok (.getfield 220, 3) := by decide +kernel
theorem dX12_feed_46 : decode cX12_feed 46 = .ok (.ireturn, 1) := by decide +kernel
theorem dX12_here_0 : decode cX12_here 0 = .ok (.aload_n 0, 1) := by decide +kernel
theorem dX12_here_1 : decode cX12_here 1 = .ok (.getfield 227, 3) := by decide +kernel
theorem dX12_here_4 : decode cX12_here 4 = .ok (.aload_n 0, 1) := by decide +kernel
theorem dX12_here_5 : decode cX12_here 5 = .ok (.getfield 230, 3) := by decide +kernel
theorem dX12_here_8 : decode cX12_here 8 = .ok (.if_icmp .ge 19, 3) := by decide +kernel
theorem dX12_here_11 : decode cX12_here 11 = .ok (.aload_n 0, 1) := by decide +kernel
theorem dX12_here_12 : decode cX12_here 12 = .ok (.getfield 98, 3) := by decide +kernel
theorem dX12_here_15 : decode cX12_here 15 = .ok (.aload_n 0, 1) := by decide +kernel
theorem dX12_here_16 : decode cX12_here 16 = .ok (.getfield 227, 3) := by decide +kernel
theorem dX12_here_19 : decode cX12_here 19 = .ok (.baload, 1) := by decide +kernel
theorem dX12_here_20 : decode cX12_here 20 = .ok (.sipush 255, 3) := by decide +kernel
theorem dX12_here_23 : decode cX12_here 23 = .ok (.iand, 1) := by decide +kernel
theorem dX12_here_24 : decode cX12_here 24 = .ok (.goto 4, 3) := by decide +kernel
theorem dX12_here_27 : decode cX12_here 27 = .ok (.iconst (-1), 1) := by decide +kernel
theorem dX12_here_28 : decode cX12_here 28 = .ok (.ireturn, 1) := by decide +kernel
theorem dX12_isDigit_0 : decode cX12_isDigit 0 = .ok (.aload_n 0, 1) := by decide +kernel
theorem dX12_isDigit_1 : decode cX12_isDigit 1 = .ok (.invokevirtual 233, 3) := by decide +kernel
theorem dX12_isDigit_4 : decode cX12_isDigit 4 = .ok (.bipush 48, 2) := by decide +kernel
theorem dX12_isDigit_6 : decode cX12_isDigit 6 = .ok (.if_icmp .lt 16, 3) := by decide +kernel
theorem dX12_isDigit_9 : decode cX12_isDigit 9 = .ok (.aload_n 0, 1) := by decide +kernel
theorem dX12_isDigit_10 : decode cX12_isDigit 10 = .ok (.invokevirtual 233, 3) := by decide +kernel
theorem dX12_isDigit_13 : decode cX12_isDigit 13 = .ok (.bipush 57, 2) := by decide +kernel
theorem dX12_isDigit_15 : decode cX12_isDigit 15 = .ok (.if_icmp .gt 7, 3) := by decide +kernel
theorem dX12_isDigit_18 : decode cX12_isDigit 18 = .ok (.iconst 1, 1) := by decide +kernel
theorem dX12_isDigit_19 : decode cX12_isDigit 19 = .ok (.goto 4, 3) := by decide +kernel
theorem dX12_isDigit_22 : decode cX12_isDigit 22 = .ok (.iconst 0, 1) := by decide +kernel
theorem dX12_isDigit_23 : decode cX12_isDigit 23 = .ok (.ireturn, 1) := by decide +kernel
theorem dX12_wrong_0 : decode cX12_wrong 0 = .ok (.aload_n 0, 1) := by decide +kernel
theorem dX12_wrong_1 : decode cX12_wrong 1 = .ok (.sipush (-1000), 3) := by decide +kernel
theorem dX12_wrong_4 : decode cX12_wrong 4 = .ok (.iload_n 1, 1) := by decide +kernel
theorem dX12_wrong_5 : decode cX12_wrong 5 = .ok (.imul, 1) := by decide +kernel
theorem dX12_wrong_6 : decode cX12_wrong 6 = .ok (.iload_n 2, 1) := by decide +kernel
theorem dX12_wrong_7 : decode cX12_wrong 7 = .ok (.isub, 1) := by decide +kernel
theorem dX12_wrong_8 : decode cX12_wrong 8 = .ok (.putfield 237, 3) := by decide +kernel
theorem dX12_wrong_11 : decode cX12_wrong 11 = .ok (.iconst 0, 1) := by decide +kernel
theorem dX12_wrong_12 : decode cX12_wrong 12 = .ok (.ireturn, 1) := by decide +kernel
theorem dX12_takes_0 : decode cX12_takes 0 = .ok (.aload_n 0, 1) := by decide +kernel
theorem dX12_takes_1 : decode cX12_takes 1 = .ok (.invokevirtual 233, 3) := by decide +kernel
theorem dX12_takes_4 : decode cX12_takes 4 = .ok (.iload_n 1, 1) := by decide +kernel
theorem dX12_takes_5 : decode cX12_takes 5 = .ok (.if_icmp .eq 13, 3) := by decide +kernel
theorem dX12_takes_8 : decode cX12_takes 8 = .ok (.aload_n 0, 1) := by decide +kernel
theorem dX12_takes_9 : decode cX12_takes 9 = .ok (.iconst 1, 1) := by decide +kernel
theorem dX12_takes_10 : decode cX12_takes 10 = .ok (.aload_n 0, 1) := by decide +kernel
theorem dX12_takes_11 : decode cX12_takes 11 = .ok (.getfield 227, 3) := by decide +kernel
theorem dX12_takes_14 : decode cX12_takes 14 = .ok (.invokevirtual 240, 3) := by decide +kernel
theorem dX12_takes_17 : decode cX12_takes 17 = .ok (.ireturn, 1) := by decide +kernel
theorem dX12_takes_18 : decode cX12_takes 18 = .ok (.aload_n 0, 1) := by decide +kernel
theorem dX12_takes_19 : decode cX12_takes 19 = .ok (.aload_n 0, 1) := by decide +kernel
theorem dX12_takes_20 : decode cX12_takes 20 = .ok (.getfield 227, 3) := by decide +kernel
theorem dX12_takes_23 : decode cX12_takes 23 = .ok (.iconst 1, 1) := by decide +kernel
theorem dX12_takes_24 : decode cX12_takes 24 = .ok (.iadd, 1) := by decide +kernel
theorem dX12_takes_25 : decode cX12_takes 25 = .ok (.putfield 227, 3) := by decide +kernel
theorem dX12_takes_28 : decode cX12_takes 28 = .ok (.iconst 1, 1) := by decide +kernel
theorem dX12_takes_29 : decode cX12_takes 29 = .ok (.ireturn, 1) := by decide +kernel
theorem dX12_readsNumber_0 : decode cX12_readsNumber 0 = .ok (.aload_n 0, 1) := by decide +kernel
theorem dX12_readsNumber_1 : decode cX12_readsNumber 1 = .ok (.getfield 227, 3) := by decide +kernel
theorem dX12_readsNumber_4 : decode cX12_readsNumber 4 = .ok (.istore_n 1, 1) := by decide +kernel
theorem dX12_readsNumber_5 : decode cX12_readsNumber 5 = .ok (.aload_n 0, 1) := by decide +kernel
theorem dX12_readsNumber_6 : decode cX12_readsNumber 6 = .ok (.iconst 0, 1) := by decide +kernel
theorem dX12_readsNumber_7 : decode cX12_readsNumber 7 = .ok (.putfield 244, 3) := by decide +kernel
theorem dX12_readsNumber_10 : decode cX12_readsNumber 10 = .ok (.aload_n 0, 1) := by decide +kernel
theorem dX12_readsNumber_11 : decode cX12_readsNumber 11 = .ok (.invokevirtual 247, 3) := by decide +kernel
theorem dX12_readsNumber_14 : decode cX12_readsNumber 14 = .ok (.ifCond .eq 55, 3) := by decide +kernel
theorem dX12_readsNumber_17 : decode cX12_readsNumber 17 = .ok (.aload_n 0, 1) := by decide +kernel
theorem dX12_readsNumber_18 : decode cX12_readsNumber 18 = .ok (.getfield 227, 3) := by decide +kernel
theorem dX12_readsNumber_21 : decode cX12_readsNumber 21 = .ok (.iload_n 1, 1) := by decide +kernel
theorem dX12_readsNumber_22 : decode cX12_readsNumber 22 = .ok (.iconst 5, 1) := by decide +kernel
theorem dX12_readsNumber_23 : decode cX12_readsNumber 23 = .ok (.iadd, 1) := by decide +kernel
theorem dX12_readsNumber_24 : decode cX12_readsNumber 24 = .ok (.if_icmp .ne 13, 3) := by decide +kernel
theorem dX12_readsNumber_27 : decode cX12_readsNumber 27 = .ok (.aload_n 0, 1) := by decide +kernel
theorem dX12_readsNumber_28 : decode cX12_readsNumber 28 = .ok (.iconst 2, 1) := by decide +kernel
theorem dX12_readsNumber_29 : decode cX12_readsNumber 29 = .ok (.aload_n 0, 1) := by decide +kernel
theorem dX12_readsNumber_30 : decode cX12_readsNumber 30 = .ok (.getfield 227, 3) := by decide +kernel
theorem dX12_readsNumber_33 : decode cX12_readsNumber 33 = .ok (.invokevirtual 240, 3) := by decide +kernel
theorem dX12_readsNumber_36 : decode cX12_readsNumber 36 = .ok (.ireturn, 1) := by decide +kernel
theorem dX12_readsNumber_37 : decode cX12_readsNumber 37 = .ok (.aload_n 0, 1) := by decide +kernel
theorem dX12_readsNumber_38 : decode cX12_readsNumber 38 = .ok (.bipush 10, 2) := by decide +kernel
theorem dX12_readsNumber_40 : decode cX12_readsNumber 40 = .ok (.aload_n 0, 1) := by decide +kernel
theorem dX12_readsNumber_41 : decode cX12_readsNumber 41 = .ok (.getfield 244, 3) := by decide +kernel
theorem dX12_readsNumber_44 : decode cX12_readsNumber 44 = .ok (.imul, 1) := by decide +kernel
theorem dX12_readsNumber_45 : decode cX12_readsNumber 45 = .ok (.aload_n 0, 1) := by decide +kernel
theorem dX12_readsNumber_46 : decode cX12_readsNumber 46 = .ok (.invokevirtual 233, 3) := by decide +kernel
theorem dX12_readsNumber_49 : decode cX12_readsNumber 49 = .ok (.iadd, 1) := by decide +kernel
theorem dX12_readsNumber_50 : decode cX12_readsNumber 50 = .ok (.bipush 48, 2) := by decide +kernel
theorem dX12_readsNumber_52 : decode cX12_readsNumber 52 = .ok (.isub, 1) := by decide +kernel
theorem dX12_readsNumber_53 : decode cX12_readsNumber 53 = .ok (.putfield 244, 3) := by decide +kernel
theorem dX12_readsNumber_56 : decode cX12_readsNumber 56 = .ok (.aload_n 0, 1) := by decide +kernel
theorem dX12_readsNumber_57 : decode cX12_readsNumber 57 = .ok (.aload_n 0, 1) := by decide +kernel
theorem dX12_readsNumber_58 : decode cX12_readsNumber 58 = .ok (.getfield 227, 3) := by decide +kernel
theorem dX12_readsNumber_61 : decode cX12_readsNumber 61 = .ok (.iconst 1, 1) := by decide +kernel
theorem dX12_readsNumber_62 : decode cX12_readsNumber 62 = .ok (.iadd, 1) := by decide +kernel
theorem dX12_readsNumber_63 : decode cX12_readsNumber 63 = .ok (.putfield 227, 3) := by decide +kernel
theorem dX12_readsNumber_66 : decode cX12_readsNumber 66 = .ok (.goto (-56), 3) := by decide +kernel
theorem dX12_readsNumber_69 : decode cX12_readsNumber 69 = .ok (.iconst 1, 1) := by decide +kernel
theorem dX12_readsNumber_70 : decode cX12_readsNumber 70 = .ok (.ireturn, 1) := by decide +kernel
theorem dX12_says_0 : decode cX12_says 0 = .ok (.aload_n 0, 1) := by decide +kernel
theorem dX12_says_1 : decode cX12_says 1 = .ok (.getfield 102, 3) := by decide +kernel
theorem dX12_says_4 : decode cX12_says 4 = .ok (.aload_n 0, 1) := by decide +kernel
theorem dX12_says_5 : decode cX12_says 5 = .ok (.getfield 251, 3) := by decide +kernel
theorem dX12_says_8 : decode cX12_says 8 = .ok (.ldc 254, 2) := by decide +kernel
theorem dX12_says_10 : decode cX12_says 10 = .ok (.iload_n 1, 1) := by decide +kernel
theorem dX12_says_11 : decode cX12_says 11 = .ok (.imul, 1) := by decide +kernel
theorem dX12_says_12 : decode cX12_says 12 = .ok (.iload_n 2, 1) := by decide +kernel
theorem dX12_says_13 : decode cX12_says 13 = .ok (.iadd, 1) := by decide +kernel
theorem dX12_says_14 : decode cX12_says 14 = .ok (.iastore, 1) := by decide +kernel
theorem dX12_says_15 : decode cX12_says 15 = .ok (.aload_n 0, 1) := by decide +kernel
theorem dX12_says_16 : decode cX12_says 16 = .ok (.aload_n 0, 1) := by decide +kernel
theorem dX12_says_17 : decode cX12_says 17 = .ok (.getfield 251, 3) := by decide +kernel
theorem dX12_says_20 : decode cX12_says 20 = .ok (.iconst 1, 1) := by decide +kernel
theorem dX12_says_21 : decode cX12_says 21 = .ok (.iadd, 1) := by decide +kernel
theorem dX12_says_22 : decode cX12_says 22 = .ok (.putfield 251, 3) := by decide +kernel
theorem dX12_says_25 : decode cX12_says 25 = .ok (.return_, 1) := by decide +kernel
theorem dX12_opens_0 : decode cX12_opens 0 = .ok (.aload_n 0, 1) := by decide +kernel
theorem dX12_opens_1 : decode cX12_opens 1 = .ok (.getfield 255, 3) := by decide +kernel
theorem dX12_opens_4 : decode cX12_opens 4 = .ok (.bipush 6, 2) := by decide +kernel
theorem dX12_opens_6 : decode cX12_opens 6 = .ok (.if_icmp .ne 13, 3) := by decide +kernel
theorem dX12_opens_9 : decode cX12_opens 9 = .ok (.aload_n 0, 1) := by decide +kernel
theorem dX12_opens_10 : decode cX12_opens 10 = .ok (.iconst 5, 1) := by decide +kernel
theorem dX12_opens_11 : decode cX12_opens 11 = .ok (.aload_n 0, 1) := by decide +kernel
theorem dX12_opens_12 : decode cX12_opens 12 = .ok (.getfield 227, 3) := by decide +kernel
theorem dX12_opens_15 : decode cX12_opens 15 = .ok (.invokevirtual 240, 3) := by decide +kernel
theorem dX12_opens_18 : decode cX12_opens 18 = .ok (.ireturn, 1) := by decide +kernel
theorem dX12_opens_19 : decode cX12_opens 19 = .ok (.aload_n 0, 1) := by decide +kernel
theorem dX12_opens_20 : decode cX12_opens 20 = .ok (.aload_n 0, 1) := by decide +kernel
theorem dX12_opens_21 : decode cX12_opens 21 = .ok (.getfield 255, 3) := by decide +kernel
theorem dX12_opens_24 : decode cX12_opens 24 = .ok (.iconst 1, 1) := by decide +kernel
theorem dX12_opens_25 : decode cX12_opens 25 = .ok (.iadd, 1) := by decide +kernel
theorem dX12_opens_26 : decode cX12_opens 26 = .ok (.putfield 255, 3) := by decide +kernel
theorem dX12_opens_29 : decode cX12_opens 29 = .ok (.aload_n 0, 1) := by decide +kernel
theorem dX12_opens_30 : decode cX12_opens 30 = .ok (.getfield 105, 3) := by decide +kernel
theorem dX12_opens_33 : decode cX12_opens 33 = .ok (.aload_n 0, 1) := by decide +kernel
theorem dX12_opens_34 : decode cX12_opens 34 = .ok (.getfield 258, 3) := by decide +kernel
theorem dX12_opens_37 : decode cX12_opens 37 = .ok (.ldc 254, 2) := by decide +kernel
theorem dX12_opens_39 : decode cX12_opens 39 = .ok (.iload_n 1, 1) := by decide +kernel
theorem dX12_opens_40 : decode cX12_opens 40 = .ok (.imul, 1) := by decide +kernel
theorem dX12_opens_41 : decode cX12_opens 41 = .ok (.iastore, 1) := by decide +kernel
theorem dX12_opens_42 : decode cX12_opens 42 = .ok (.aload_n 0, 1) := by decide +kernel
theorem dX12_opens_43 : decode cX12_opens 43 = .ok (.aload_n 0, 1) := by decide +kernel
theorem dX12_opens_44 : decode cX12_opens 44 = .ok (.getfield 258, 3) := by decide +kernel
theorem dX12_opens_47 : decode cX12_opens 47 = .ok (.iconst 1, 1) := by decide +kernel
theorem dX12_opens_48 : decode cX12_opens 48 = .ok (.iadd, 1) := by decide +kernel
theorem dX12_opens_49 : decode cX12_opens 49 = .ok (.putfield 258, 3) := by decide +kernel
theorem dX12_opens_52 : decode cX12_opens 52 = .ok (.aload_n 0, 1) := by decide +kernel
theorem dX12_opens_53 : decode cX12_opens 53 = .ok (.aload_n 0, 1) := by decide +kernel
theorem dX12_opens_54 : decode cX12_opens 54 = .ok (.getfield 227, 3) := by decide +kernel
theorem dX12_opens_57 : decode cX12_opens 57 = .ok (.iconst 1, 1) := by decide +kernel
theorem dX12_opens_58 : decode cX12_opens 58 = .ok (.iadd, 1) := by decide +kernel
theorem dX12_opens_59 : decode cX12_opens 59 = .ok (.putfield 227, 3) := by decide +kernel
theorem dX12_opens_62 : decode cX12_opens 62 = .ok (.iconst 1, 1) := by decide +kernel
theorem dX12_opens_63 : decode cX12_opens 63 = .ok (.ireturn, 1) := by decide +kernel
theorem dX12_top_0 : decode cX12_top 0 = .ok (.aload_n 0, 1) := by decide +kernel
theorem dX12_top_1 : decode cX12_top 1 = .ok (.getfield 258, 3) := by decide +kernel
theorem dX12_top_4 : decode cX12_top 4 = .ok (.ifCond .ne 7, 3) := by decide +kernel
theorem dX12_top_7 : decode cX12_top 7 = .ok (.iconst (-1), 1) := by decide +kernel
theorem dX12_top_8 : decode cX12_top 8 = .ok (.goto 17, 3) := by decide +kernel
theorem dX12_top_11 : decode cX12_top 11 = .ok (.aload_n 0, 1) := by decide +kernel
theorem dX12_top_12 : decode cX12_top 12 = .ok (.getfield 105, 3) := by decide +kernel
theorem dX12_top_15 : decode cX12_top 15 = .ok (.aload_n 0, 1) := by decide +kernel
theorem dX12_top_16 : decode cX12_top 16 = .ok (.getfield 258, 3) := by decide +kernel
theorem dX12_top_19 : decode cX12_top 19 = .ok (.iconst 1, 1) := by decide +kernel
theorem dX12_top_20 : decode cX12_top 20 = .ok (.isub, 1) := by decide +kernel
theorem dX12_top_21 : decode cX12_top 21 = .ok (.iaload, 1) := by decide +kernel
theorem dX12_top_22 : decode cX12_top 22 = .ok (.ldc 254, 2) := by decide +kernel
theorem dX12_top_24 : decode cX12_top 24 = .ok (.idiv, 1) := by decide +kernel
theorem dX12_top_25 : decode cX12_top 25 = .ok (.ireturn, 1) := by decide +kernel
theorem dX12_factOf_0 : decode cX12_factOf 0 = .ok (.iload_n 0, 1) := by decide +kernel
theorem dX12_factOf_1 : decode cX12_factOf 1 = .ok (.tableswitch 141 98 121 #[129, 141, 141, 141, 117, 141, 123, 141, 141, 113, 115, 141, 121, 141, 119, 141, 138, 126, 111, 141, 141, 141, 135, 132], 111) := by decide +kernel
theorem dX12_factOf_112 : decode cX12_factOf 112 = .ok (.iconst 0, 1) := by decide +kernel
theorem dX12_factOf_113 : decode cX12_factOf 113 = .ok (.ireturn, 1) := by decide +kernel
theorem dX12_factOf_114 : decode cX12_factOf 114 = .ok (.iconst 1, 1) := by decide +kernel
theorem dX12_factOf_115 : decode cX12_factOf 115 = .ok (.ireturn, 1) := by decide +kernel
theorem dX12_factOf_116 : decode cX12_factOf 116 = .ok (.iconst 2, 1) := by decide +kernel
theorem dX12_factOf_117 : decode cX12_factOf 117 = .ok (.ireturn, 1) := by decide +kernel
theorem dX12_factOf_118 : decode cX12_factOf 118 = .ok (.iconst 3, 1) := by decide +kernel
theorem dX12_factOf_119 : decode cX12_factOf 119 = .ok (.ireturn, 1) := by decide +kernel
theorem dX12_factOf_120 : decode cX12_factOf 120 = .ok (.iconst 4, 1) := by decide +kernel
theorem dX12_factOf_121 : decode cX12_factOf 121 = .ok (.ireturn, 1) := by decide +kernel
theorem dX12_factOf_122 : decode cX12_factOf 122 = .ok (.iconst 5, 1) := by decide +kernel
theorem dX12_factOf_123 : decode cX12_factOf 123 = .ok (.ireturn, 1) := by decide +kernel
theorem dX12_factOf_124 : decode cX12_factOf 124 = .ok (.bipush 6, 2) := by decide +kernel
theorem dX12_factOf_126 : decode cX12_factOf 126 = .ok (.ireturn, 1) := by decide +kernel
theorem dX12_factOf_127 : decode cX12_factOf 127 = .ok (.bipush 7, 2) := by decide +kernel
theorem dX12_factOf_129 : decode cX12_factOf 129 = .ok (.ireturn, 1) := by decide +kernel
theorem dX12_factOf_130 : decode cX12_factOf 130 = .ok (.bipush 8, 2) := by decide +kernel
theorem dX12_factOf_132 : decode cX12_factOf 132 = .ok (.ireturn, 1) := by decide +kernel
theorem dX12_factOf_133 : decode cX12_factOf 133 = .ok (.bipush 9, 2) := by decide +kernel
theorem dX12_factOf_135 : decode cX12_factOf 135 = .ok (.ireturn, 1) := by decide +kernel
theorem dX12_factOf_136 : decode cX12_factOf 136 = .ok (.bipush 10, 2) := by decide +kernel
theorem dX12_factOf_138 : decode cX12_factOf 138 = .ok (.ireturn, 1) := by decide +kernel
theorem dX12_factOf_139 : decode cX12_factOf 139 = .ok (.bipush 11, 2) := by decide +kernel
theorem dX12_factOf_141 : decode cX12_factOf 141 = .ok (.ireturn, 1) := by decide +kernel
theorem dX12_factOf_142 : decode cX12_factOf 142 = .ok (.iconst (-1), 1) := by decide +kernel
theorem dX12_factOf_143 : decode cX12_factOf 143 = .ok (.ireturn, 1) := by decide +kernel
theorem dX12_sumSign_0 : decode cX12_sumSign 0 = .ok (.iload_n 0, 1) := by decide +kernel
theorem dX12_sumSign_1 : decode cX12_sumSign 1 = .ok (.bipush 43, 2) := by decide +kernel
theorem dX12_sumSign_3 : decode cX12_sumSign 3 = .ok (.if_icmp .ne 7, 3) := by decide +kernel
theorem dX12_sumSign_6 : decode cX12_sumSign 6 = .ok (.iconst 2, 1) := by decide +kernel
theorem dX12_sumSign_7 : decode cX12_sumSign 7 = .ok (.goto 45, 3) := by decide +kernel
theorem dX12_sumSign_10 : decode cX12_sumSign 10 = .ok (.iload_n 0, 1) := by decide +kernel
theorem dX12_sumSign_11 : decode cX12_sumSign 11 = .ok (.bipush 45, 2) := by decide +kernel
theorem dX12_sumSign_13 : decode cX12_sumSign 13 = .ok (.if_icmp .ne 7, 3) := by decide +kernel
theorem dX12_sumSign_16 : decode cX12_sumSign 16 = .ok (.iconst 3, 1) := by decide +kernel
theorem dX12_sumSign_17 : decode cX12_sumSign 17 = .ok (.goto 35, 3) := by decide +kernel
theorem dX12_sumSign_20 : decode cX12_sumSign 20 = .ok (.iload_n 0, 1) := by decide +kernel
theorem dX12_sumSign_21 : decode cX12_sumSign 21 = .ok (.bipush 42, 2) := by decide +kernel
theorem dX12_sumSign_23 : decode cX12_sumSign 23 = .ok (.if_icmp .ne 7, 3) := by decide +kernel
theorem dX12_sumSign_26 : decode cX12_sumSign 26 = .ok (.iconst 4, 1) := by decide +kernel
theorem dX12_sumSign_27 : decode cX12_sumSign 27 = .ok (.goto 25, 3) := by decide +kernel
theorem dX12_sumSign_30 : decode cX12_sumSign 30 = .ok (.iload_n 0, 1) := by decide +kernel
theorem dX12_sumSign_31 : decode cX12_sumSign 31 = .ok (.bipush 47, 2) := by decide +kernel
theorem dX12_sumSign_33 : decode cX12_sumSign 33 = .ok (.if_icmp .ne 7, 3) := by decide +kernel
theorem dX12_sumSign_36 : decode cX12_sumSign 36 = .ok (.iconst 5, 1) := by decide +kernel
theorem dX12_sumSign_37 : decode cX12_sumSign 37 = .ok (.goto 15, 3) := by decide +kernel
theorem dX12_sumSign_40 : decode cX12_sumSign 40 = .ok (.iload_n 0, 1) := by decide +kernel
theorem dX12_sumSign_41 : decode cX12_sumSign 41 = .ok (.bipush 37, 2) := by decide +kernel
theorem dX12_sumSign_43 : decode cX12_sumSign 43 = .ok (.if_icmp .ne 8, 3) := by decide +kernel
theorem dX12_sumSign_46 : decode cX12_sumSign 46 = .ok (.bipush 6, 2) := by decide +kernel
theorem dX12_sumSign_48 : decode cX12_sumSign 48 = .ok (.goto 4, 3) := by decide +kernel
theorem dX12_sumSign_51 : decode cX12_sumSign 51 = .ok (.iconst (-1), 1) := by decide +kernel
theorem dX12_sumSign_52 : decode cX12_sumSign 52 = .ok (.ireturn, 1) := by decide +kernel
theorem dX12_closesSums_0 : decode cX12_closesSums 0 = .ok (.aload_n 0, 1) := by decide +kernel
theorem dX12_closesSums_1 : decode cX12_closesSums 1 = .ok (.invokevirtual 261, 3) := by decide +kernel
theorem dX12_closesSums_4 : decode cX12_closesSums 4 = .ok (.iconst 4, 1) := by decide +kernel
theorem dX12_closesSums_5 : decode cX12_closesSums 5 = .ok (.if_icmp .lt 12, 3) := by decide +kernel
theorem dX12_closesSums_8 : decode cX12_closesSums 8 = .ok (.aload_n 0, 1) := by decide +kernel
theorem dX12_closesSums_9 : decode cX12_closesSums 9 = .ok (.invokevirtual 261, 3) := by decide +kernel
theorem dX12_closesSums_12 : decode cX12_closesSums 12 = .ok (.bipush 6, 2) := by decide +kernel
theorem dX12_closesSums_14 : decode cX12_closesSums 14 = .ok (.if_icmp .le 23, 3) := by decide +kernel
theorem dX12_closesSums_17 : decode cX12_closesSums 17 = .ok (.iload_n 1, 1) := by decide +kernel
theorem dX12_closesSums_18 : decode cX12_closesSums 18 = .ok (.ifCond .eq 41, 3) := by decide +kernel
theorem dX12_closesSums_21 : decode cX12_closesSums 21 = .ok (.aload_n 0, 1) := by decide +kernel
theorem dX12_closesSums_22 : decode cX12_closesSums 22 = .ok (.invokevirtual 261, 3) := by decide +kernel
theorem dX12_closesSums_25 : decode cX12_closesSums 25 = .ok (.iconst 2, 1) := by decide +kernel
theorem dX12_closesSums_26 : decode cX12_closesSums 26 = .ok (.if_icmp .eq 11, 3) := by decide +kernel
theorem dX12_closesSums_29 : decode cX12_closesSums 29 = .ok (.aload_n 0, 1) := by decide +kernel
theorem dX12_closesSums_30 : decode cX12_closesSums 30 = .ok (.invokevirtual 261, 3) := by decide +kernel
theorem dX12_closesSums_33 : decode cX12_closesSums 33 = .ok (.iconst 3, 1) := by decide +kernel
theorem dX12_closesSums_34 : decode cX12_closesSums 34 = .ok (.if_icmp .ne 25, 3) := by decide +kernel
theorem dX12_closesSums_37 : decode cX12_closesSums 37 = .ok (.aload_n 0, 1) := by decide +kernel
theorem dX12_closesSums_38 : decode cX12_closesSums 38 = .ok (.aload_n 0, 1) := by decide +kernel
theorem dX12_closesSums_39 : decode cX12_closesSums 39 = .ok (.invokevirtual 261, 3) := by decide +kernel
theorem dX12_closesSums_42 : decode cX12_closesSums 42 = .ok (.iconst 0, 1) := by decide +kernel
theorem dX12_closesSums_43 : decode cX12_closesSums 43 = .ok (.invokevirtual 264, 3) := by decide +kernel
theorem dX12_closesSums_46 : decode cX12_closesSums 46 = .ok (.aload_n 0, 1) := by decide +kernel
theorem dX12_closesSums_47 : decode cX12_closesSums 47 = .ok (.aload_n 0, 1) := by decide +kernel
theorem dX12_closesSums_48 : decode cX12_closesSums 48 = .ok (.getfield 258, 3) := by decide +kernel
theorem dX12_closesSums_51 : decode cX12_closesSums 51 = .ok (.iconst 1, 1) := by decide +kernel
theorem dX12_closesSums_52 : decode cX12_closesSums 52 = .ok (.isub, 1) := by decide +kernel
theorem dX12_closesSums_53 : decode cX12_closesSums 53 = .ok (.putfield 258, 3) := by decide +kernel
theorem dX12_closesSums_56 : decode cX12_closesSums 56 = .ok (.goto (-56), 3) := by decide +kernel
theorem dX12_closesSums_59 : decode cX12_closesSums 59 = .ok (.return_, 1) := by decide +kernel
theorem dX12_readsFactor_0 : decode cX12_readsFactor 0 = .ok (.aload_n 0, 1) := by decide +kernel
theorem dX12_readsFactor_1 : decode cX12_readsFactor 1 = .ok (.invokevirtual 233, 3) := by decide +kernel
theorem dX12_readsFactor_4 : decode cX12_readsFactor 4 = .ok (.bipush 91, 2) := by decide +kernel
theorem dX12_readsFactor_6 : decode cX12_readsFactor 6 = .ok (.if_icmp .ne 14, 3) := by decide +kernel
theorem dX12_readsFactor_9 : decode cX12_readsFactor 9 = .ok (.aload_n 0, 1) := by decide +kernel
theorem dX12_readsFactor_10 : decode cX12_readsFactor 10 = .ok (.bipush 14, 2) := by decide +kernel
theorem dX12_readsFactor_12 : decode cX12_readsFactor 12 = .ok (.invokevirtual 268, 3) := by decide +kernel
theorem dX12_readsFactor_15 : decode cX12_readsFactor 15 = .ok (.ifCond .ne (-15), 3) := by decide +kernel
theorem dX12_readsFactor_18 : decode cX12_readsFactor 18 = .ok (.iconst 0, 1) := by decide +kernel
theorem dX12_readsFactor_19 : decode cX12_readsFactor 19 = .ok (.ireturn, 1) := by decide +kernel
theorem dX12_readsFactor_20 : decode cX12_readsFactor 20 = .ok (.aload_n 0, 1) := by decide +kernel
theorem dX12_readsFactor_21 : decode cX12_readsFactor 21 = .ok (.invokevirtual 247, 3) := by decide +kernel
theorem dX12_readsFactor_24 : decode cX12_readsFactor 24 = .ok (.ifCond .eq 23, 3) := by decide +kernel
theorem dX12_readsFactor_27 : decode cX12_readsFactor 27 = .ok (.aload_n 0, 1) := by decide +kernel
theorem dX12_readsFactor_28 : decode cX12_readsFactor 28 = .ok (.invokevirtual 271, 3) := by decide +kernel
theorem dX12_readsFactor_31 : decode cX12_readsFactor 31 = .ok (.ifCond .ne 5, 3) := by decide +kernel
theorem dX12_readsFactor_34 : decode cX12_readsFactor 34 = .ok (.iconst 0, 1) := by decide +kernel
theorem dX12_readsFactor_35 : decode cX12_readsFactor 35 = .ok (.ireturn, 1) := by decide +kernel
theorem dX12_readsFactor_36 : decode cX12_readsFactor 36 = .ok (.aload_n 0, 1) := by decide +kernel
theorem dX12_readsFactor_37 : decode cX12_readsFactor 37 = .ok (.iconst 0, 1) := by decide +kernel
theorem dX12_readsFactor_38 : decode cX12_readsFactor 38 = .ok (.aload_n 0, 1) := by decide +kernel
theorem dX12_readsFactor_39 : decode cX12_readsFactor 39 = .ok (.getfield 244, 3) := by decide +kernel
