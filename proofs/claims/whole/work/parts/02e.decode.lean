theorem dX12_readsFactor_42 : decode cX12_readsFactor 42 = .ok (.invokevirtual 264, 3) := by decide +kernel
theorem dX12_readsFactor_45 : decode cX12_readsFactor 45 = .ok (.iconst 1, 1) := by decide +kernel
theorem dX12_readsFactor_46 : decode cX12_readsFactor 46 = .ok (.ireturn, 1) := by decide +kernel
theorem dX12_readsFactor_47 : decode cX12_readsFactor 47 = .ok (.aload_n 0, 1) := by decide +kernel
theorem dX12_readsFactor_48 : decode cX12_readsFactor 48 = .ok (.invokevirtual 233, 3) := by decide +kernel
theorem dX12_readsFactor_51 : decode cX12_readsFactor 51 = .ok (.invokestatic 274, 3) := by decide +kernel
theorem dX12_readsFactor_54 : decode cX12_readsFactor 54 = .ok (.istore_n 1, 1) := by decide +kernel
theorem dX12_readsFactor_55 : decode cX12_readsFactor 55 = .ok (.iload_n 1, 1) := by decide +kernel
theorem dX12_readsFactor_56 : decode cX12_readsFactor 56 = .ok (.iconst (-1), 1) := by decide +kernel
theorem dX12_readsFactor_57 : decode cX12_readsFactor 57 = .ok (.if_icmp .ne 13, 3) := by decide +kernel
theorem dX12_readsFactor_60 : decode cX12_readsFactor 60 = .ok (.aload_n 0, 1) := by decide +kernel
theorem dX12_readsFactor_61 : decode cX12_readsFactor 61 = .ok (.iconst 1, 1) := by decide +kernel
theorem dX12_readsFactor_62 : decode cX12_readsFactor 62 = .ok (.aload_n 0, 1) := by decide +kernel
theorem dX12_readsFactor_63 : decode cX12_readsFactor 63 = .ok (.getfield 227, 3) := by decide +kernel
theorem dX12_readsFactor_66 : decode cX12_readsFactor 66 = .ok (.invokevirtual 240, 3) := by decide +kernel
theorem dX12_readsFactor_69 : decode cX12_readsFactor 69 = .ok (.ireturn, 1) := by decide +kernel
theorem dX12_readsFactor_70 : decode cX12_readsFactor 70 = .ok (.aload_n 0, 1) := by decide +kernel
theorem dX12_readsFactor_71 : decode cX12_readsFactor 71 = .ok (.iconst 1, 1) := by decide +kernel
theorem dX12_readsFactor_72 : decode cX12_readsFactor 72 = .ok (.iload_n 1, 1) := by decide +kernel
theorem dX12_readsFactor_73 : decode cX12_readsFactor 73 = .ok (.invokevirtual 264, 3) := by decide +kernel
theorem dX12_readsFactor_76 : decode cX12_readsFactor 76 = .ok (.aload_n 0, 1) := by decide +kernel
theorem dX12_readsFactor_77 : decode cX12_readsFactor 77 = .ok (.aload_n 0, 1) := by decide +kernel
theorem dX12_readsFactor_78 : decode cX12_readsFactor 78 = .ok (.getfield 227, 3) := by decide +kernel
theorem dX12_readsFactor_81 : decode cX12_readsFactor 81 = .ok (.iconst 1, 1) := by decide +kernel
theorem dX12_readsFactor_82 : decode cX12_readsFactor 82 = .ok (.iadd, 1) := by decide +kernel
theorem dX12_readsFactor_83 : decode cX12_readsFactor 83 = .ok (.putfield 227, 3) := by decide +kernel
theorem dX12_readsFactor_86 : decode cX12_readsFactor 86 = .ok (.iconst 1, 1) := by decide +kernel
theorem dX12_readsFactor_87 : decode cX12_readsFactor 87 = .ok (.ireturn, 1) := by decide +kernel
theorem dX12_hasOpenSum_0 : decode cX12_hasOpenSum 0 = .ok (.iload_n 1, 1) := by decide +kernel
theorem dX12_hasOpenSum_1 : decode cX12_hasOpenSum 1 = .ok (.istore_n 2, 1) := by decide +kernel
theorem dX12_hasOpenSum_2 : decode cX12_hasOpenSum 2 = .ok (.iload_n 2, 1) := by decide +kernel
theorem dX12_hasOpenSum_3 : decode cX12_hasOpenSum 3 = .ok (.aload_n 0, 1) := by decide +kernel
theorem dX12_hasOpenSum_4 : decode cX12_hasOpenSum 4 = .ok (.getfield 258, 3) := by decide +kernel
theorem dX12_hasOpenSum_7 : decode cX12_hasOpenSum 7 = .ok (.if_icmp .ge 25, 3) := by decide +kernel
theorem dX12_hasOpenSum_10 : decode cX12_hasOpenSum 10 = .ok (.aload_n 0, 1) := by decide +kernel
theorem dX12_hasOpenSum_11 : decode cX12_hasOpenSum 11 = .ok (.getfield 105, 3) := by decide +kernel
theorem dX12_hasOpenSum_14 : decode cX12_hasOpenSum 14 = .ok (.iload_n 2, 1) := by decide +kernel
theorem dX12_hasOpenSum_15 : decode cX12_hasOpenSum 15 = .ok (.iaload, 1) := by decide +kernel
theorem dX12_hasOpenSum_16 : decode cX12_hasOpenSum 16 = .ok (.ldc 254, 2) := by decide +kernel
theorem dX12_hasOpenSum_18 : decode cX12_hasOpenSum 18 = .ok (.idiv, 1) := by decide +kernel
theorem dX12_hasOpenSum_19 : decode cX12_hasOpenSum 19 = .ok (.bipush 14, 2) := by decide +kernel
theorem dX12_hasOpenSum_21 : decode cX12_hasOpenSum 21 = .ok (.if_icmp .ne 5, 3) := by decide +kernel
theorem dX12_hasOpenSum_24 : decode cX12_hasOpenSum 24 = .ok (.iconst 1, 1) := by decide +kernel
theorem dX12_hasOpenSum_25 : decode cX12_hasOpenSum 25 = .ok (.ireturn, 1) := by decide +kernel
theorem dX12_hasOpenSum_26 : decode cX12_hasOpenSum 26 = .ok (.iinc 2 1, 3) := by decide +kernel
theorem dX12_hasOpenSum_29 : decode cX12_hasOpenSum 29 = .ok (.goto (-27), 3) := by decide +kernel
theorem dX12_hasOpenSum_32 : decode cX12_hasOpenSum 32 = .ok (.iconst 0, 1) := by decide +kernel
theorem dX12_hasOpenSum_33 : decode cX12_hasOpenSum 33 = .ok (.ireturn, 1) := by decide +kernel
theorem dX12_readsSum_0 : decode cX12_readsSum 0 = .ok (.aload_n 0, 1) := by decide +kernel
theorem dX12_readsSum_1 : decode cX12_readsSum 1 = .ok (.getfield 258, 3) := by decide +kernel
theorem dX12_readsSum_4 : decode cX12_readsSum 4 = .ok (.istore_n 1, 1) := by decide +kernel
theorem dX12_readsSum_5 : decode cX12_readsSum 5 = .ok (.aload_n 0, 1) := by decide +kernel
theorem dX12_readsSum_6 : decode cX12_readsSum 6 = .ok (.invokevirtual 277, 3) := by decide +kernel
theorem dX12_readsSum_9 : decode cX12_readsSum 9 = .ok (.ifCond .ne 5, 3) := by decide +kernel
theorem dX12_readsSum_12 : decode cX12_readsSum 12 = .ok (.iconst 0, 1) := by decide +kernel
theorem dX12_readsSum_13 : decode cX12_readsSum 13 = .ok (.ireturn, 1) := by decide +kernel
theorem dX12_readsSum_14 : decode cX12_readsSum 14 = .ok (.aload_n 0, 1) := by decide +kernel
theorem dX12_readsSum_15 : decode cX12_readsSum 15 = .ok (.invokevirtual 233, 3) := by decide +kernel
theorem dX12_readsSum_18 : decode cX12_readsSum 18 = .ok (.invokestatic 280, 3) := by decide +kernel
theorem dX12_readsSum_21 : decode cX12_readsSum 21 = .ok (.istore_n 2, 1) := by decide +kernel
theorem dX12_readsSum_22 : decode cX12_readsSum 22 = .ok (.iload_n 2, 1) := by decide +kernel
theorem dX12_readsSum_23 : decode cX12_readsSum 23 = .ok (.iconst (-1), 1) := by decide +kernel
theorem dX12_readsSum_24 : decode cX12_readsSum 24 = .ok (.if_icmp .eq 59, 3) := by decide +kernel
theorem dX12_readsSum_27 : decode cX12_readsSum 27 = .ok (.aload_n 0, 1) := by decide +kernel
theorem dX12_readsSum_28 : decode cX12_readsSum 28 = .ok (.iload_n 2, 1) := by decide +kernel
theorem dX12_readsSum_29 : decode cX12_readsSum 29 = .ok (.iconst 4, 1) := by decide +kernel
theorem dX12_readsSum_30 : decode cX12_readsSum 30 = .ok (.if_icmp .ge 7, 3) := by decide +kernel
theorem dX12_readsSum_33 : decode cX12_readsSum 33 = .ok (.iconst 1, 1) := by decide +kernel
theorem dX12_readsSum_34 : decode cX12_readsSum 34 = .ok (.goto 4, 3) := by decide +kernel
theorem dX12_readsSum_37 : decode cX12_readsSum 37 = .ok (.iconst 0, 1) := by decide +kernel
theorem dX12_readsSum_38 : decode cX12_readsSum 38 = .ok (.invokevirtual 283, 3) := by decide +kernel
theorem dX12_readsSum_41 : decode cX12_readsSum 41 = .ok (.aload_n 0, 1) := by decide +kernel
theorem dX12_readsSum_42 : decode cX12_readsSum 42 = .ok (.getfield 105, 3) := by decide +kernel
theorem dX12_readsSum_45 : decode cX12_readsSum 45 = .ok (.aload_n 0, 1) := by decide +kernel
theorem dX12_readsSum_46 : decode cX12_readsSum 46 = .ok (.getfield 258, 3) := by decide +kernel
theorem dX12_readsSum_49 : decode cX12_readsSum 49 = .ok (.ldc 254, 2) := by decide +kernel
theorem dX12_readsSum_51 : decode cX12_readsSum 51 = .ok (.iload_n 2, 1) := by decide +kernel
theorem dX12_readsSum_52 : decode cX12_readsSum 52 = .ok (.imul, 1) := by decide +kernel
theorem dX12_readsSum_53 : decode cX12_readsSum 53 = .ok (.iastore, 1) := by decide +kernel
theorem dX12_readsSum_54 : decode cX12_readsSum 54 = .ok (.aload_n 0, 1) := by decide +kernel
theorem dX12_readsSum_55 : decode cX12_readsSum 55 = .ok (.aload_n 0, 1) := by decide +kernel
theorem dX12_readsSum_56 : decode cX12_readsSum 56 = .ok (.getfield 258, 3) := by decide +kernel
theorem dX12_readsSum_59 : decode cX12_readsSum 59 = .ok (.iconst 1, 1) := by decide +kernel
theorem dX12_readsSum_60 : decode cX12_readsSum 60 = .ok (.iadd, 1) := by decide +kernel
theorem dX12_readsSum_61 : decode cX12_readsSum 61 = .ok (.putfield 258, 3) := by decide +kernel
theorem dX12_readsSum_64 : decode cX12_readsSum 64 = .ok (.aload_n 0, 1) := by decide +kernel
theorem dX12_readsSum_65 : decode cX12_readsSum 65 = .ok (.aload_n 0, 1) := by decide +kernel
theorem dX12_readsSum_66 : decode cX12_readsSum 66 = .ok (.getfield 227, 3) := by decide +kernel
theorem dX12_readsSum_69 : decode cX12_readsSum 69 = .ok (.iconst 1, 1) := by decide +kernel
theorem dX12_readsSum_70 : decode cX12_readsSum 70 = .ok (.iadd, 1) := by decide +kernel
theorem dX12_readsSum_71 : decode cX12_readsSum 71 = .ok (.putfield 227, 3) := by decide +kernel
theorem dX12_readsSum_74 : decode cX12_readsSum 74 = .ok (.aload_n 0, 1) := by decide +kernel
theorem dX12_readsSum_75 : decode cX12_readsSum 75 = .ok (.invokevirtual 277, 3) := by decide +kernel
theorem dX12_readsSum_78 : decode cX12_readsSum 78 = .ok (.ifCond .ne 85, 3) := by decide +kernel
theorem dX12_readsSum_81 : decode cX12_readsSum 81 = .ok (.iconst 0, 1) := by decide +kernel
theorem dX12_readsSum_82 : decode cX12_readsSum 82 = .ok (.ireturn, 1) := by decide +kernel
theorem dX12_readsSum_83 : decode cX12_readsSum 83 = .ok (.aload_n 0, 1) := by decide +kernel
theorem dX12_readsSum_84 : decode cX12_readsSum 84 = .ok (.invokevirtual 233, 3) := by decide +kernel
theorem dX12_readsSum_87 : decode cX12_readsSum 87 = .ok (.bipush 93, 2) := by decide +kernel
theorem dX12_readsSum_89 : decode cX12_readsSum 89 = .ok (.if_icmp .ne 49, 3) := by decide +kernel
theorem dX12_readsSum_92 : decode cX12_readsSum 92 = .ok (.aload_n 0, 1) := by decide +kernel
theorem dX12_readsSum_93 : decode cX12_readsSum 93 = .ok (.iload_n 1, 1) := by decide +kernel
theorem dX12_readsSum_94 : decode cX12_readsSum 94 = .ok (.invokevirtual 287, 3) := by decide +kernel
theorem dX12_readsSum_97 : decode cX12_readsSum 97 = .ok (.ifCond .eq 41, 3) := by decide +kernel
theorem dX12_readsSum_100 : decode cX12_readsSum 100 = .ok (.aload_n 0, 1) := by decide +kernel
theorem dX12_readsSum_101 : decode cX12_readsSum 101 = .ok (.iconst 1, 1) := by decide +kernel
theorem dX12_readsSum_102 : decode cX12_readsSum 102 = .ok (.invokevirtual 283, 3) := by decide +kernel
theorem dX12_readsSum_105 : decode cX12_readsSum 105 = .ok (.aload_n 0, 1) := by decide +kernel
theorem dX12_readsSum_106 : decode cX12_readsSum 106 = .ok (.aload_n 0, 1) := by decide +kernel
theorem dX12_readsSum_107 : decode cX12_readsSum 107 = .ok (.getfield 258, 3) := by decide +kernel
theorem dX12_readsSum_110 : decode cX12_readsSum 110 = .ok (.iconst 1, 1) := by decide +kernel
theorem dX12_readsSum_111 : decode cX12_readsSum 111 = .ok (.isub, 1) := by decide +kernel
theorem dX12_readsSum_112 : decode cX12_readsSum 112 = .ok (.putfield 258, 3) := by decide +kernel
theorem dX12_readsSum_115 : decode cX12_readsSum 115 = .ok (.aload_n 0, 1) := by decide +kernel
theorem dX12_readsSum_116 : decode cX12_readsSum 116 = .ok (.aload_n 0, 1) := by decide +kernel
theorem dX12_readsSum_117 : decode cX12_readsSum 117 = .ok (.getfield 255, 3) := by decide +kernel
theorem dX12_readsSum_120 : decode cX12_readsSum 120 = .ok (.iconst 1, 1) := by decide +kernel
theorem dX12_readsSum_121 : decode cX12_readsSum 121 = .ok (.isub, 1) := by decide +kernel
theorem dX12_readsSum_122 : decode cX12_readsSum 122 = .ok (.putfield 255, 3) := by decide +kernel
theorem dX12_readsSum_125 : decode cX12_readsSum 125 = .ok (.aload_n 0, 1) := by decide +kernel
theorem dX12_readsSum_126 : decode cX12_readsSum 126 = .ok (.aload_n 0, 1) := by decide +kernel
theorem dX12_readsSum_127 : decode cX12_readsSum 127 = .ok (.getfield 227, 3) := by decide +kernel
theorem dX12_readsSum_130 : decode cX12_readsSum 130 = .ok (.iconst 1, 1) := by decide +kernel
theorem dX12_readsSum_131 : decode cX12_readsSum 131 = .ok (.iadd, 1) := by decide +kernel
theorem dX12_readsSum_132 : decode cX12_readsSum 132 = .ok (.putfield 227, 3) := by decide +kernel
theorem dX12_readsSum_135 : decode cX12_readsSum 135 = .ok (.goto 28, 3) := by decide +kernel
theorem dX12_readsSum_138 : decode cX12_readsSum 138 = .ok (.aload_n 0, 1) := by decide +kernel
theorem dX12_readsSum_139 : decode cX12_readsSum 139 = .ok (.iload_n 1, 1) := by decide +kernel
theorem dX12_readsSum_140 : decode cX12_readsSum 140 = .ok (.invokevirtual 287, 3) := by decide +kernel
theorem dX12_readsSum_143 : decode cX12_readsSum 143 = .ok (.ifCond .eq 13, 3) := by decide +kernel
theorem dX12_readsSum_146 : decode cX12_readsSum 146 = .ok (.aload_n 0, 1) := by decide +kernel
theorem dX12_readsSum_147 : decode cX12_readsSum 147 = .ok (.iconst 1, 1) := by decide +kernel
theorem dX12_readsSum_148 : decode cX12_readsSum 148 = .ok (.aload_n 0, 1) := by decide +kernel
theorem dX12_readsSum_149 : decode cX12_readsSum 149 = .ok (.getfield 227, 3) := by decide +kernel
theorem dX12_readsSum_152 : decode cX12_readsSum 152 = .ok (.invokevirtual 240, 3) := by decide +kernel
theorem dX12_readsSum_155 : decode cX12_readsSum 155 = .ok (.ireturn, 1) := by decide +kernel
theorem dX12_readsSum_156 : decode cX12_readsSum 156 = .ok (.aload_n 0, 1) := by decide +kernel
theorem dX12_readsSum_157 : decode cX12_readsSum 157 = .ok (.iconst 1, 1) := by decide +kernel
theorem dX12_readsSum_158 : decode cX12_readsSum 158 = .ok (.invokevirtual 283, 3) := by decide +kernel
theorem dX12_readsSum_161 : decode cX12_readsSum 161 = .ok (.iconst 1, 1) := by decide +kernel
theorem dX12_readsSum_162 : decode cX12_readsSum 162 = .ok (.ireturn, 1) := by decide +kernel
theorem dX12_readsSum_163 : decode cX12_readsSum 163 = .ok (.goto (-149), 3) := by decide +kernel
theorem dX12_endsPiece_0 : decode cX12_endsPiece 0 = .ok (.aload_n 0, 1) := by decide +kernel
theorem dX12_endsPiece_1 : decode cX12_endsPiece 1 = .ok (.invokevirtual 261, 3) := by decide +kernel
theorem dX12_endsPiece_4 : decode cX12_endsPiece 4 = .ok (.bipush 10, 2) := by decide +kernel
theorem dX12_endsPiece_6 : decode cX12_endsPiece 6 = .ok (.if_icmp .ne 33, 3) := by decide +kernel
theorem dX12_endsPiece_9 : decode cX12_endsPiece 9 = .ok (.aload_n 0, 1) := by decide +kernel
theorem dX12_endsPiece_10 : decode cX12_endsPiece 10 = .ok (.bipush 10, 2) := by decide +kernel
theorem dX12_endsPiece_12 : decode cX12_endsPiece 12 = .ok (.iconst 0, 1) := by decide +kernel
theorem dX12_endsPiece_13 : decode cX12_endsPiece 13 = .ok (.invokevirtual 264, 3) := by decide +kernel
theorem dX12_endsPiece_16 : decode cX12_endsPiece 16 = .ok (.aload_n 0, 1) := by decide +kernel
theorem dX12_endsPiece_17 : decode cX12_endsPiece 17 = .ok (.aload_n 0, 1) := by decide +kernel
theorem dX12_endsPiece_18 : decode cX12_endsPiece 18 = .ok (.getfield 258, 3) := by decide +kernel
theorem dX12_endsPiece_21 : decode cX12_endsPiece 21 = .ok (.iconst 1, 1) := by decide +kernel
theorem dX12_endsPiece_22 : decode cX12_endsPiece 22 = .ok (.isub, 1) := by decide +kernel
theorem dX12_endsPiece_23 : decode cX12_endsPiece 23 = .ok (.putfield 258, 3) := by decide +kernel
theorem dX12_endsPiece_26 : decode cX12_endsPiece 26 = .ok (.aload_n 0, 1) := by decide +kernel
theorem dX12_endsPiece_27 : decode cX12_endsPiece 27 = .ok (.aload_n 0, 1) := by decide +kernel
theorem dX12_endsPiece_28 : decode cX12_endsPiece 28 = .ok (.getfield 255, 3) := by decide +kernel
theorem dX12_endsPiece_31 : decode cX12_endsPiece 31 = .ok (.iconst 1, 1) := by decide +kernel
theorem dX12_endsPiece_32 : decode cX12_endsPiece 32 = .ok (.isub, 1) := by decide +kernel
theorem dX12_endsPiece_33 : decode cX12_endsPiece 33 = .ok (.putfield 255, 3) := by decide +kernel
theorem dX12_endsPiece_36 : decode cX12_endsPiece 36 = .ok (.goto (-36), 3) := by decide +kernel
theorem dX12_endsPiece_39 : decode cX12_endsPiece 39 = .ok (.return_, 1) := by decide +kernel
theorem dX12_lands_0 : decode cX12_lands 0 = .ok (.aload_n 0, 1) := by decide +kernel
theorem dX12_lands_1 : decode cX12_lands 1 = .ok (.invokevirtual 261, 3) := by decide +kernel
theorem dX12_lands_4 : decode cX12_lands 4 = .ok (.bipush 11, 2) := by decide +kernel
theorem dX12_lands_6 : decode cX12_lands 6 = .ok (.if_icmp .eq 16, 3) := by decide +kernel
theorem dX12_lands_9 : decode cX12_lands 9 = .ok (.iload_n 1, 1) := by decide +kernel
theorem dX12_lands_10 : decode cX12_lands 10 = .ok (.ifCond .eq 63, 3) := by decide +kernel
theorem dX12_lands_13 : decode cX12_lands 13 = .ok (.aload_n 0, 1) := by decide +kernel
theorem dX12_lands_14 : decode cX12_lands 14 = .ok (.invokevirtual 261, 3) := by decide +kernel
theorem dX12_lands_17 : decode cX12_lands 17 = .ok (.bipush 12, 2) := by decide +kernel
theorem dX12_lands_19 : decode cX12_lands 19 = .ok (.if_icmp .ne 54, 3) := by decide +kernel
theorem dX12_lands_22 : decode cX12_lands 22 = .ok (.aload_n 0, 1) := by decide +kernel
theorem dX12_lands_23 : decode cX12_lands 23 = .ok (.getfield 105, 3) := by decide +kernel
theorem dX12_lands_26 : decode cX12_lands 26 = .ok (.aload_n 0, 1) := by decide +kernel
theorem dX12_lands_27 : decode cX12_lands 27 = .ok (.getfield 258, 3) := by decide +kernel
theorem dX12_lands_30 : decode cX12_lands 30 = .ok (.iconst 1, 1) := by decide +kernel
theorem dX12_lands_31 : decode cX12_lands 31 = .ok (.isub, 1) := by decide +kernel
theorem dX12_lands_32 : decode cX12_lands 32 = .ok (.iaload, 1) := by decide +kernel
theorem dX12_lands_33 : decode cX12_lands 33 = .ok (.ldc 254, 2) := by decide +kernel
theorem dX12_lands_35 : decode cX12_lands 35 = .ok (.irem, 1) := by decide +kernel
theorem dX12_lands_36 : decode cX12_lands 36 = .ok (.istore_n 2, 1) := by decide +kernel
theorem dX12_lands_37 : decode cX12_lands 37 = .ok (.aload_n 0, 1) := by decide +kernel
theorem dX12_lands_38 : decode cX12_lands 38 = .ok (.getfield 102, 3) := by decide +kernel
theorem dX12_lands_41 : decode cX12_lands 41 = .ok (.iload_n 2, 1) := by decide +kernel
theorem dX12_lands_42 : decode cX12_lands 42 = .ok (.ldc 254, 2) := by decide +kernel
theorem dX12_lands_44 : decode cX12_lands 44 = .ok (.aload_n 0, 1) := by decide +kernel
theorem dX12_lands_45 : decode cX12_lands 45 = .ok (.getfield 102, 3) := by decide +kernel
theorem dX12_lands_48 : decode cX12_lands 48 = .ok (.iload_n 2, 1) := by decide +kernel
theorem dX12_lands_49 : decode cX12_lands 49 = .ok (.iaload, 1) := by decide +kernel
theorem dX12_lands_50 : decode cX12_lands 50 = .ok (.ldc 254, 2) := by decide +kernel
theorem dX12_lands_52 : decode cX12_lands 52 = .ok (.idiv, 1) := by decide +kernel
theorem dX12_lands_53 : decode cX12_lands 53 = .ok (.imul, 1) := by decide +kernel
theorem dX12_lands_54 : decode cX12_lands 54 = .ok (.aload_n 0, 1) := by decide +kernel
theorem dX12_lands_55 : decode cX12_lands 55 = .ok (.getfield 251, 3) := by decide +kernel
theorem dX12_lands_58 : decode cX12_lands 58 = .ok (.iadd, 1) := by decide +kernel
theorem dX12_lands_59 : decode cX12_lands 59 = .ok (.iastore, 1) := by decide +kernel
theorem dX12_lands_60 : decode cX12_lands 60 = .ok (.aload_n 0, 1) := by decide +kernel
theorem dX12_lands_61 : decode cX12_lands 61 = .ok (.aload_n 0, 1) := by decide +kernel
theorem dX12_lands_62 : decode cX12_lands 62 = .ok (.getfield 258, 3) := by decide +kernel
theorem dX12_lands_65 : decode cX12_lands 65 = .ok (.iconst 1, 1) := by decide +kernel
theorem dX12_lands_66 : decode cX12_lands 66 = .ok (.isub, 1) := by decide +kernel
theorem dX12_lands_67 : decode cX12_lands 67 = .ok (.putfield 258, 3) := by decide +kernel
theorem dX12_lands_70 : decode cX12_lands 70 = .ok (.goto (-70), 3) := by decide +kernel
theorem dX12_lands_73 : decode cX12_lands 73 = .ok (.return_, 1) := by decide +kernel
theorem dX12_jumps_0 : decode cX12_jumps 0 = .ok (.aload_n 0, 1) := by decide +kernel
theorem dX12_jumps_1 : decode cX12_jumps 1 = .ok (.getfield 105, 3) := by decide +kernel
theorem dX12_jumps_4 : decode cX12_jumps 4 = .ok (.aload_n 0, 1) := by decide +kernel
theorem dX12_jumps_5 : decode cX12_jumps 5 = .ok (.getfield 258, 3) := by decide +kernel
theorem dX12_jumps_8 : decode cX12_jumps 8 = .ok (.ldc 254, 2) := by decide +kernel
theorem dX12_jumps_10 : decode cX12_jumps 10 = .ok (.iload_n 1, 1) := by decide +kernel
theorem dX12_jumps_11 : decode cX12_jumps 11 = .ok (.imul, 1) := by decide +kernel
theorem dX12_jumps_12 : decode cX12_jumps 12 = .ok (.aload_n 0, 1) := by decide +kernel
theorem dX12_jumps_13 : decode cX12_jumps 13 = .ok (.getfield 251, 3) := by decide +kernel
theorem dX12_jumps_16 : decode cX12_jumps 16 = .ok (.iadd, 1) := by decide +kernel
theorem dX12_jumps_17 : decode cX12_jumps 17 = .ok (.iastore, 1) := by decide +kernel
theorem dX12_jumps_18 : decode cX12_jumps 18 = .ok (.aload_n 0, 1) := by decide +kernel
theorem dX12_jumps_19 : decode cX12_jumps 19 = .ok (.aload_n 0, 1) := by decide +kernel
theorem dX12_jumps_20 : decode cX12_jumps 20 = .ok (.getfield 258, 3) := by decide +kernel
theorem dX12_jumps_23 : decode cX12_jumps 23 = .ok (.iconst 1, 1) := by decide +kernel
theorem dX12_jumps_24 : decode cX12_jumps 24 = .ok (.iadd, 1) := by decide +kernel
theorem dX12_jumps_25 : decode cX12_jumps 25 = .ok (.putfield 258, 3) := by decide +kernel
theorem dX12_jumps_28 : decode cX12_jumps 28 = .ok (.aload_n 0, 1) := by decide +kernel
theorem dX12_jumps_29 : decode cX12_jumps 29 = .ok (.iload_n 1, 1) := by decide +kernel
theorem dX12_jumps_30 : decode cX12_jumps 30 = .ok (.iconst 0, 1) := by decide +kernel
theorem dX12_jumps_31 : decode cX12_jumps 31 = .ok (.invokevirtual 264, 3) := by decide +kernel
theorem dX12_jumps_34 : decode cX12_jumps 34 = .ok (.aload_n 0, 1) := by decide +kernel
theorem dX12_jumps_35 : decode cX12_jumps 35 = .ok (.aload_n 0, 1) := by decide +kernel
theorem dX12_jumps_36 : decode cX12_jumps 36 = .ok (.getfield 227, 3) := by decide +kernel
theorem dX12_jumps_39 : decode cX12_jumps 39 = .ok (.iconst 1, 1) := by decide +kernel
theorem dX12_jumps_40 : decode cX12_jumps 40 = .ok (.iadd, 1) := by decide +kernel
theorem dX12_jumps_41 : decode cX12_jumps 41 = .ok (.putfield 227, 3) := by decide +kernel
theorem dX12_jumps_44 : decode cX12_jumps 44 = .ok (.return_, 1) := by decide +kernel
theorem dX12_readsCompared_0 : decode cX12_readsCompared 0 = .ok (.aload_n 0, 1) := by decide +kernel
theorem dX12_readsCompared_1 : decode cX12_readsCompared 1 = .ok (.invokevirtual 290, 3) := by decide +kernel
theorem dX12_readsCompared_4 : decode cX12_readsCompared 4 = .ok (.ifCond .ne 5, 3) := by decide +kernel
theorem dX12_readsCompared_7 : decode cX12_readsCompared 7 = .ok (.iconst 0, 1) := by decide +kernel
theorem dX12_readsCompared_8 : decode cX12_readsCompared 8 = .ok (.ireturn, 1) := by decide +kernel
theorem dX12_readsCompared_9 : decode cX12_readsCompared 9 = .ok (.aload_n 0, 1) := by decide +kernel
theorem dX12_readsCompared_10 : decode cX12_readsCompared 10 = .ok (.invokevirtual 233, 3) := by decide +kernel
theorem dX12_readsCompared_13 : decode cX12_readsCompared 13 = .ok (.bipush 60, 2) := by decide +kernel
theorem dX12_readsCompared_15 : decode cX12_readsCompared 15 = .ok (.if_icmp .ne 8, 3) := by decide +kernel
theorem dX12_readsCompared_18 : decode cX12_readsCompared 18 = .ok (.bipush 7, 2) := by decide +kernel
theorem dX12_readsCompared_20 : decode cX12_readsCompared 20 = .ok (.goto 32, 3) := by decide +kernel
theorem dX12_readsCompared_23 : decode cX12_readsCompared 23 = .ok (.aload_n 0, 1) := by decide +kernel
theorem dX12_readsCompared_24 : decode cX12_readsCompared 24 = .ok (.invokevirtual 233, 3) := by decide +kernel
theorem dX12_readsCompared_27 : decode cX12_readsCompared 27 = .ok (.bipush 62, 2) := by decide +kernel
theorem dX12_readsCompared_29 : decode cX12_readsCompared 29 = .ok (.if_icmp .ne 8, 3) := by decide +kernel
theorem dX12_readsCompared_32 : decode cX12_readsCompared 32 = .ok (.bipush 8, 2) := by decide +kernel
theorem dX12_readsCompared_34 : decode cX12_readsCompared 34 = .ok (.goto 18, 3) := by decide +kernel
theorem dX12_readsCompared_37 : decode cX12_readsCompared 37 = .ok (.aload_n 0, 1) := by decide +kernel
theorem dX12_readsCompared_38 : decode cX12_readsCompared 38 = .ok (.invokevirtual 233, 3) := by decide +kernel
theorem dX12_readsCompared_41 : decode cX12_readsCompared 41 = .ok (.bipush 61, 2) := by decide +kernel
theorem dX12_readsCompared_43 : decode cX12_readsCompared 43 = .ok (.if_icmp .ne 8, 3) := by decide +kernel
theorem dX12_readsCompared_46 : decode cX12_readsCompared 46 = .ok (.bipush 9, 2) := by decide +kernel
theorem dX12_readsCompared_48 : decode cX12_readsCompared 48 = .ok (.goto 4, 3) := by decide +kernel
theorem dX12_readsCompared_51 : decode cX12_readsCompared 51 = .ok (.iconst (-1), 1) := by decide +kernel
theorem dX12_readsCompared_52 : decode cX12_readsCompared 52 = .ok (.istore_n 1, 1) := by decide +kernel
theorem dX12_readsCompared_53 : decode cX12_readsCompared 53 = .ok (.iload_n 1, 1) := by decide +kernel
theorem dX12_readsCompared_54 : decode cX12_readsCompared 54 = .ok (.iconst (-1), 1) := by decide +kernel
theorem dX12_readsCompared_55 : decode cX12_readsCompared 55 = .ok (.if_icmp .ne 13, 3) := by decide +kernel
theorem dX12_readsCompared_58 : decode cX12_readsCompared 58 = .ok (.aload_n 0, 1) := by decide +kernel
theorem dX12_readsCompared_59 : decode cX12_readsCompared 59 = .ok (.iconst 1, 1) := by decide +kernel
theorem dX12_readsCompared_60 : decode cX12_readsCompared 60 = .ok (.aload_n 0, 1) := by decide +kernel
theorem dX12_readsCompared_61 : decode cX12_readsCompared 61 = .ok (.getfield 227, 3) := by decide +kernel
theorem dX12_readsCompared_64 : decode cX12_readsCompared 64 = .ok (.invokevirtual 240, 3) := by decide +kernel
theorem dX12_readsCompared_67 : decode cX12_readsCompared 67 = .ok (.ireturn, 1) := by decide +kernel
theorem dX12_readsCompared_68 : decode cX12_readsCompared 68 = .ok (.aload_n 0, 1) := by decide +kernel
theorem dX12_readsCompared_69 : decode cX12_readsCompared 69 = .ok (.aload_n 0, 1) := by decide +kernel
theorem dX12_readsCompared_70 : decode cX12_readsCompared 70 = .ok (.getfield 227, 3) := by decide +kernel
theorem dX12_readsCompared_73 : decode cX12_readsCompared 73 = .ok (.iconst 1, 1) := by decide +kernel
theorem dX12_readsCompared_74 : decode cX12_readsCompared 74 = .ok (.iadd, 1) := by decide +kernel
theorem dX12_readsCompared_75 : decode cX12_readsCompared 75 = .ok (.putfield 227, 3) := by decide +kernel
theorem dX12_readsCompared_78 : decode cX12_readsCompared 78 = .ok (.aload_n 0, 1) := by decide +kernel
theorem dX12_readsCompared_79 : decode cX12_readsCompared 79 = .ok (.invokevirtual 290, 3) := by decide +kernel
theorem dX12_readsCompared_82 : decode cX12_readsCompared 82 = .ok (.ifCond .ne 5, 3) := by decide +kernel
theorem dX12_readsCompared_85 : decode cX12_readsCompared 85 = .ok (.iconst 0, 1) := by decide +kernel
theorem dX12_readsCompared_86 : decode cX12_readsCompared 86 = .ok (.ireturn, 1) := by decide +kernel
theorem dX12_readsCompared_87 : decode cX12_readsCompared 87 = .ok (.aload_n 0, 1) := by decide +kernel
theorem dX12_readsCompared_88 : decode cX12_readsCompared 88 = .ok (.iload_n 1, 1) := by decide +kernel
theorem dX12_readsCompared_89 : decode cX12_readsCompared 89 = .ok (.iconst 0, 1) := by decide +kernel
theorem dX12_readsCompared_90 : decode cX12_readsCompared 90 = .ok (.invokevirtual 264, 3) := by decide +kernel
theorem dX12_readsCompared_93 : decode cX12_readsCompared 93 = .ok (.aload_n 0, 1) := by decide +kernel
theorem dX12_readsCompared_94 : decode cX12_readsCompared 94 = .ok (.invokevirtual 293, 3) := by decide +kernel
theorem dX12_readsCompared_97 : decode cX12_readsCompared 97 = .ok (.iconst 1, 1) := by decide +kernel
theorem dX12_readsCompared_98 : decode cX12_readsCompared 98 = .ok (.ireturn, 1) := by decide +kernel
theorem dX12_readsCondition_0 : decode cX12_readsCondition 0 = .ok (.aload_n 0, 1) := by decide +kernel
theorem dX12_readsCondition_1 : decode cX12_readsCondition 1 = .ok (.invokevirtual 233, 3) := by decide +kernel
theorem dX12_readsCondition_4 : decode cX12_readsCondition 4 = .ok (.bipush 40, 2) := by decide +kernel
theorem dX12_readsCondition_6 : decode cX12_readsCondition 6 = .ok (.if_icmp .eq 13, 3) := by decide +kernel
theorem dX12_readsCondition_9 : decode cX12_readsCondition 9 = .ok (.aload_n 0, 1) := by decide +kernel
theorem dX12_readsCondition_10 : decode cX12_readsCondition 10 = .ok (.iconst 1, 1) := by decide +kernel
theorem dX12_readsCondition_11 : decode cX12_readsCondition 11 = .ok (.aload_n 0, 1) := by decide +kernel
theorem dX12_readsCondition_12 : decode cX12_readsCondition 12 = .ok (.getfield 227, 3) := by decide +kernel
theorem dX12_readsCondition_15 : decode cX12_readsCondition 15 = .ok (.invokevirtual 240, 3) := by decide +kernel
theorem dX12_readsCondition_18 : decode cX12_readsCondition 18 = .ok (.ireturn, 1) := by decide +kernel
theorem dX12_readsCondition_19 : decode cX12_readsCondition 19 = .ok (.aload_n 0, 1) := by decide +kernel
theorem dX12_readsCondition_20 : decode cX12_readsCondition 20 = .ok (.iconst 0, 1) := by decide +kernel
theorem dX12_readsCondition_21 : decode cX12_readsCondition 21 = .ok (.putfield 255, 3) := by decide +kernel
theorem dX12_readsCondition_24 : decode cX12_readsCondition 24 = .ok (.aload_n 0, 1) := by decide +kernel
theorem dX12_readsCondition_25 : decode cX12_readsCondition 25 = .ok (.iconst 0, 1) := by decide +kernel
theorem dX12_readsCondition_26 : decode cX12_readsCondition 26 = .ok (.putfield 258, 3) := by decide +kernel
theorem dX12_readsCondition_29 : decode cX12_readsCondition 29 = .ok (.aload_n 0, 1) := by decide +kernel
theorem dX12_readsCondition_30 : decode cX12_readsCondition 30 = .ok (.bipush 13, 2) := by decide +kernel
theorem dX12_readsCondition_32 : decode cX12_readsCondition 32 = .ok (.invokevirtual 268, 3) := by decide +kernel
theorem dX12_readsCondition_35 : decode cX12_readsCondition 35 = .ok (.ifCond .ne 5, 3) := by decide +kernel
theorem dX12_readsCondition_38 : decode cX12_readsCondition 38 = .ok (.iconst 0, 1) := by decide +kernel
theorem dX12_readsCondition_39 : decode cX12_readsCondition 39 = .ok (.ireturn, 1) := by decide +kernel
theorem dX12_readsCondition_40 : decode cX12_readsCondition 40 = .ok (.aload_n 0, 1) := by decide +kernel
theorem dX12_readsCondition_41 : decode cX12_readsCondition 41 = .ok (.invokevirtual 233, 3) := by decide +kernel
theorem dX12_readsCondition_44 : decode cX12_readsCondition 44 = .ok (.bipush 33, 2) := by decide +kernel
theorem dX12_readsCondition_46 : decode cX12_readsCondition 46 = .ok (.if_icmp .eq 12, 3) := by decide +kernel
theorem dX12_readsCondition_49 : decode cX12_readsCondition 49 = .ok (.aload_n 0, 1) := by decide +kernel
theorem dX12_readsCondition_50 : decode cX12_readsCondition 50 = .ok (.invokevirtual 233, 3) := by decide +kernel
theorem dX12_readsCondition_53 : decode cX12_readsCondition 53 = .ok (.bipush 40, 2) := by decide +kernel
theorem dX12_readsCondition_55 : decode cX12_readsCondition 55 = .ok (.if_icmp .ne 28, 3) := by decide +kernel
theorem dX12_readsCondition_58 : decode cX12_readsCondition 58 = .ok (.aload_n 0, 1) := by decide +kernel
theorem dX12_readsCondition_59 : decode cX12_readsCondition 59 = .ok (.aload_n 0, 1) := by decide +kernel
theorem dX12_readsCondition_60 : decode cX12_readsCondition 60 = .ok (.invokevirtual 233, 3) := by decide +kernel
theorem dX12_readsCondition_63 : decode cX12_readsCondition 63 = .ok (.bipush 33, 2) := by decide +kernel
theorem dX12_readsCondition_65 : decode cX12_readsCondition 65 = .ok (.if_icmp .ne 8, 3) := by decide +kernel
theorem dX12_readsCondition_68 : decode cX12_readsCondition 68 = .ok (.bipush 10, 2) := by decide +kernel
theorem dX12_readsCondition_70 : decode cX12_readsCondition 70 = .ok (.goto 5, 3) := by decide +kernel
theorem dX12_readsCondition_73 : decode cX12_readsCondition 73 = .ok (.bipush 13, 2) := by decide +kernel
theorem dX12_readsCondition_75 : decode cX12_readsCondition 75 = .ok (.invokevirtual 268, 3) := by decide +kernel
theorem dX12_readsCondition_78 : decode cX12_readsCondition 78 = .ok (.ifCond .ne (-38), 3) := by decide +kernel
theorem dX12_readsCondition_81 : decode cX12_readsCondition 81 = .ok (.iconst 0, 1) := by decide +kernel
theorem dX12_readsCondition_82 : decode cX12_readsCondition 82 = .ok (.ireturn, 1) := by decide +kernel
theorem dX12_readsCondition_83 : decode cX12_readsCondition 83 = .ok (.aload_n 0, 1) := by decide +kernel
theorem dX12_readsCondition_84 : decode cX12_readsCondition 84 = .ok (.invokevirtual 296, 3) := by decide +kernel
theorem dX12_readsCondition_87 : decode cX12_readsCondition 87 = .ok (.ifCond .ne 5, 3) := by decide +kernel
theorem dX12_readsCondition_90 : decode cX12_readsCondition 90 = .ok (.iconst 0, 1) := by decide +kernel
theorem dX12_readsCondition_91 : decode cX12_readsCondition 91 = .ok (.ireturn, 1) := by decide +kernel
theorem dX12_readsCondition_92 : decode cX12_readsCondition 92 = .ok (.aload_n 0, 1) := by decide +kernel
theorem dX12_readsCondition_93 : decode cX12_readsCondition 93 = .ok (.invokevirtual 233, 3) := by decide +kernel
theorem dX12_readsCondition_96 : decode cX12_readsCondition 96 = .ok (.bipush 41, 2) := by decide +kernel
theorem dX12_readsCondition_98 : decode cX12_readsCondition 98 = .ok (.if_icmp .ne 54, 3) := by decide +kernel
theorem dX12_readsCondition_101 : decode cX12_readsCondition 101 = .ok (.aload_n 0, 1) := by decide +kernel
theorem dX12_readsCondition_102 : decode cX12_readsCondition 102 = .ok (.iconst 1, 1) := by decide +kernel
theorem dX12_readsCondition_103 : decode cX12_readsCondition 103 = .ok (.invokevirtual 299, 3) := by decide +kernel
theorem dX12_readsCondition_106 : decode cX12_readsCondition 106 = .ok (.aload_n 0, 1) := by decide +kernel
theorem dX12_readsCondition_107 : decode cX12_readsCondition 107 = .ok (.aload_n 0, 1) := by decide +kernel
theorem dX12_readsCondition_108 : decode cX12_readsCondition 108 = .ok (.getfield 258, 3) := by decide +kernel
theorem dX12_readsCondition_111 : decode cX12_readsCondition 111 = .ok (.iconst 1, 1) := by decide +kernel
theorem dX12_readsCondition_112 : decode cX12_readsCondition 112 = .ok (.isub, 1) := by decide +kernel
theorem dX12_readsCondition_113 : decode cX12_readsCondition 113 = .ok (.putfield 258, 3) := by decide +kernel
theorem dX12_readsCondition_116 : decode cX12_readsCondition 116 = .ok (.aload_n 0, 1) := by decide +kernel
theorem dX12_readsCondition_117 : decode cX12_readsCondition 117 = .ok (.aload_n 0, 1) := by decide +kernel
theorem dX12_readsCondition_118 : decode cX12_readsCondition 118 = .ok (.getfield 255, 3) := by decide +kernel
theorem dX12_readsCondition_121 : decode cX12_readsCondition 121 = .ok (.iconst 1, 1) := by decide +kernel
theorem dX12_readsCondition_122 : decode cX12_readsCondition 122 = .ok (.isub, 1) := by decide +kernel
theorem dX12_readsCondition_123 : decode cX12_readsCondition 123 = .ok (.putfield 255, 3) := by decide +kernel
theorem dX12_readsCondition_126 : decode cX12_readsCondition 126 = .ok (.aload_n 0, 1) := by decide +kernel
theorem dX12_readsCondition_127 : decode cX12_readsCondition 127 = .ok (.aload_n 0, 1) := by decide +kernel
theorem dX12_readsCondition_128 : decode cX12_readsCondition 128 = .ok (.getfield 227, 3) := by decide +kernel
theorem dX12_readsCondition_131 : decode cX12_readsCondition 131 = .ok (.iconst 1, 1) := by decide +kernel
theorem dX12_readsCondition_132 : decode cX12_readsCondition 132 = .ok (.iadd, 1) := by decide +kernel
theorem dX12_readsCondition_133 : decode cX12_readsCondition 133 = .ok (.putfield 227, 3) := by decide +kernel
theorem dX12_readsCondition_136 : decode cX12_readsCondition 136 = .ok (.aload_n 0, 1) := by decide +kernel
theorem dX12_readsCondition_137 : decode cX12_readsCondition 137 = .ok (.getfield 258, 3) := by decide +kernel
theorem dX12_readsCondition_140 : decode cX12_readsCondition 140 = .ok (.ifCond .ne 5, 3) := by decide +kernel
theorem dX12_readsCondition_143 : decode cX12_readsCondition 143 = .ok (.iconst 1, 1) := by decide +kernel
theorem dX12_readsCondition_144 : decode cX12_readsCondition 144 = .ok (.ireturn, 1) := by decide +kernel
theorem dX12_readsCondition_145 : decode cX12_readsCondition 145 = .ok (.aload_n 0, 1) := by decide +kernel
theorem dX12_readsCondition_146 : decode cX12_readsCondition 146 = .ok (.invokevirtual 293, 3) := by decide +kernel
theorem dX12_readsCondition_149 : decode cX12_readsCondition 149 = .ok (.goto (-57), 3) := by decide +kernel
theorem dX12_readsCondition_152 : decode cX12_readsCondition 152 = .ok (.aload_n 0, 1) := by decide +kernel
theorem dX12_readsCondition_153 : decode cX12_readsCondition 153 = .ok (.invokevirtual 233, 3) := by decide +kernel
theorem dX12_readsCondition_156 : decode cX12_readsCondition 156 = .ok (.bipush 38, 2) := by decide +kernel
theorem dX12_readsCondition_158 : decode cX12_readsCondition 158 = .ok (.if_icmp .eq 22, 3) := by decide +kernel
theorem dX12_readsCondition_161 : decode cX12_readsCondition 161 = .ok (.aload_n 0, 1) := by decide +kernel
theorem dX12_readsCondition_162 : decode cX12_readsCondition 162 = .ok (.invokevirtual 233, 3) := by decide +kernel
theorem dX12_readsCondition_165 : decode cX12_readsCondition 165 = .ok (.bipush 124, 2) := by decide +kernel
theorem dX12_readsCondition_167 : decode cX12_readsCondition 167 = .ok (.if_icmp .eq 13, 3) := by decide +kernel
theorem dX12_readsCondition_170 : decode cX12_readsCondition 170 = .ok (.aload_n 0, 1) := by decide +kernel
theorem dX12_readsCondition_171 : decode cX12_readsCondition 171 = .ok (.iconst 1, 1) := by decide +kernel
theorem dX12_readsCondition_172 : decode cX12_readsCondition 172 = .ok (.aload_n 0, 1) := by decide +kernel
theorem dX12_readsCondition_173 : decode cX12_readsCondition 173 = .ok (.getfield 227, 3) := by decide +kernel
theorem dX12_readsCondition_176 : decode cX12_readsCondition 176 = .ok (.invokevirtual 240, 3) := by decide +kernel
theorem dX12_readsCondition_179 : decode cX12_readsCondition 179 = .ok (.ireturn, 1) := by decide +kernel
theorem dX12_readsCondition_180 : decode cX12_readsCondition 180 = .ok (.aload_n 0, 1) := by decide +kernel
theorem dX12_readsCondition_181 : decode cX12_readsCondition 181 = .ok (.aload_n 0, 1) := by decide +kernel
theorem dX12_readsCondition_182 : decode cX12_readsCondition 182 = .ok (.invokevirtual 233, 3) := by decide +kernel
theorem dX12_readsCondition_185 : decode cX12_readsCondition 185 = .ok (.bipush 124, 2) := by decide +kernel
theorem dX12_readsCondition_187 : decode cX12_readsCondition 187 = .ok (.if_icmp .ne 7, 3) := by decide +kernel
theorem dX12_readsCondition_190 : decode cX12_readsCondition 190 = .ok (.iconst 1, 1) := by decide +kernel
theorem dX12_readsCondition_191 : decode cX12_readsCondition 191 = .ok (.goto 4, 3) := by decide +kernel
theorem dX12_readsCondition_194 : decode cX12_readsCondition 194 = .ok (.iconst 0, 1) := by decide +kernel
theorem dX12_readsCondition_195 : decode cX12_readsCondition 195 = .ok (.invokevirtual 299, 3) := by decide +kernel
theorem dX12_readsCondition_198 : decode cX12_readsCondition 198 = .ok (.aload_n 0, 1) := by decide +kernel
theorem dX12_readsCondition_199 : decode cX12_readsCondition 199 = .ok (.aload_n 0, 1) := by decide +kernel
theorem dX12_readsCondition_200 : decode cX12_readsCondition 200 = .ok (.invokevirtual 233, 3) := by decide +kernel
theorem dX12_readsCondition_203 : decode cX12_readsCondition 203 = .ok (.bipush 38, 2) := by decide +kernel
theorem dX12_readsCondition_205 : decode cX12_readsCondition 205 = .ok (.if_icmp .ne 8, 3) := by decide +kernel
theorem dX12_readsCondition_208 : decode cX12_readsCondition 208 = .ok (.bipush 11, 2) := by decide +kernel
theorem dX12_readsCondition_210 : decode cX12_readsCondition 210 = .ok (.goto 5, 3) := by decide +kernel
theorem dX12_readsCondition_213 : decode cX12_readsCondition 213 = .ok (.bipush 12, 2) := by decide +kernel
theorem dX12_readsCondition_215 : decode cX12_readsCondition 215 = .ok (.invokevirtual 302, 3) := by decide +kernel
theorem dX12_readsCondition_218 : decode cX12_readsCondition 218 = .ok (.goto (-178), 3) := by decide +kernel
theorem dX12_readsClause_0 : decode cX12_readsClause 0 = .ok (.aload_n 0, 1) := by decide +kernel
theorem dX12_readsClause_1 : decode cX12_readsClause 1 = .ok (.invokevirtual 233, 3) := by decide +kernel
theorem dX12_readsClause_4 : decode cX12_readsClause 4 = .ok (.istore_n 1, 1) := by decide +kernel
theorem dX12_readsClause_5 : decode cX12_readsClause 5 = .ok (.iload_n 1, 1) := by decide +kernel
theorem dX12_readsClause_6 : decode cX12_readsClause 6 = .ok (.bipush 119, 2) := by decide +kernel
theorem dX12_readsClause_8 : decode cX12_readsClause 8 = .ok (.if_icmp .eq 25, 3) := by decide +kernel
theorem dX12_readsClause_11 : decode cX12_readsClause 11 = .ok (.iload_n 1, 1) := by decide +kernel
theorem dX12_readsClause_12 : decode cX12_readsClause 12 = .ok (.bipush 100, 2) := by decide +kernel
theorem dX12_readsClause_14 : decode cX12_readsClause 14 = .ok (.if_icmp .eq 19, 3) := by decide +kernel
theorem dX12_readsClause_17 : decode cX12_readsClause 17 = .ok (.iload_n 1, 1) := by decide +kernel
theorem dX12_readsClause_18 : decode cX12_readsClause 18 = .ok (.bipush 102, 2) := by decide +kernel
theorem dX12_readsClause_20 : decode cX12_readsClause 20 = .ok (.if_icmp .eq 13, 3) := by decide +kernel
theorem dX12_readsClause_23 : decode cX12_readsClause 23 = .ok (.aload_n 0, 1) := by decide +kernel
theorem dX12_readsClause_24 : decode cX12_readsClause 24 = .ok (.iconst 1, 1) := by decide +kernel
theorem dX12_readsClause_25 : decode cX12_readsClause 25 = .ok (.aload_n 0, 1) := by decide +kernel
theorem dX12_readsClause_26 : decode cX12_readsClause 26 = .ok (.getfield 227, 3) := by decide +kernel
theorem dX12_readsClause_29 : decode cX12_readsClause 29 = .ok (.invokevirtual 240, 3) := by decide +kernel
theorem dX12_readsClause_32 : decode cX12_readsClause 32 = .ok (.ireturn, 1) := by decide +kernel
theorem dX12_readsClause_33 : decode cX12_readsClause 33 = .ok (.aload_n 0, 1) := by decide +kernel
theorem dX12_readsClause_34 : decode cX12_readsClause 34 = .ok (.getfield 305, 3) := by decide +kernel
theorem dX12_readsClause_37 : decode cX12_readsClause 37 = .ok (.bipush 14, 2) := by decide +kernel
theorem dX12_readsClause_39 : decode cX12_readsClause 39 = .ok (.if_icmp .ne 13, 3) := by decide +kernel
theorem dX12_readsClause_42 : decode cX12_readsClause 42 = .ok (.aload_n 0, 1) := by decide +kernel
theorem dX12_readsClause_43 : decode cX12_readsClause 43 = .ok (.iconst 4, 1) := by decide +kernel
theorem dX12_readsClause_44 : decode cX12_readsClause 44 = .ok (.aload_n 0, 1) := by decide +kernel
theorem dX12_readsClause_45 : decode cX12_readsClause 45 = .ok (.getfield 227, 3) := by decide +kernel
theorem dX12_readsClause_48 : decode cX12_readsClause 48 = .ok (.invokevirtual 240, 3) := by decide +kernel
theorem dX12_readsClause_51 : decode cX12_readsClause 51 = .ok (.ireturn, 1) := by decide +kernel
theorem dX12_readsClause_52 : decode cX12_readsClause 52 = .ok (.aload_n 0, 1) := by decide +kernel
theorem dX12_readsClause_53 : decode cX12_readsClause 53 = .ok (.getfield 108, 3) := by decide +kernel
theorem dX12_readsClause_56 : decode cX12_readsClause 56 = .ok (.aload_n 0, 1) := by decide +kernel
theorem dX12_readsClause_57 : decode cX12_readsClause 57 = .ok (.getfield 305, 3) := by decide +kernel
theorem dX12_readsClause_60 : decode cX12_readsClause 60 = .ok (.iload_n 1, 1) := by decide +kernel
theorem dX12_readsClause_61 : decode cX12_readsClause 61 = .ok (.iastore, 1) := by decide +kernel
theorem dX12_readsClause_62 : decode cX12_readsClause 62 = .ok (.aload_n 0, 1) := by decide +kernel
theorem dX12_readsClause_63 : decode cX12_readsClause 63 = .ok (.aload_n 0, 1) := by decide +kernel
theorem dX12_readsClause_64 : decode cX12_readsClause 64 = .ok (.getfield 227, 3) := by decide +kernel
theorem dX12_readsClause_67 : decode cX12_readsClause 67 = .ok (.iconst 1, 1) := by decide +kernel
theorem dX12_readsClause_68 : decode cX12_readsClause 68 = .ok (.iadd, 1) := by decide +kernel
theorem dX12_readsClause_69 : decode cX12_readsClause 69 = .ok (.putfield 227, 3) := by decide +kernel
theorem dX12_readsClause_72 : decode cX12_readsClause 72 = .ok (.aload_n 0, 1) := by decide +kernel
theorem dX12_readsClause_73 : decode cX12_readsClause 73 = .ok (.getfield 111, 3) := by decide +kernel
theorem dX12_readsClause_76 : decode cX12_readsClause 76 = .ok (.aload_n 0, 1) := by decide +kernel
theorem dX12_readsClause_77 : decode cX12_readsClause 77 = .ok (.getfield 305, 3) := by decide +kernel
theorem dX12_readsClause_80 : decode cX12_readsClause 80 = .ok (.aload_n 0, 1) := by decide +kernel
theorem dX12_readsClause_81 : decode cX12_readsClause 81 = .ok (.getfield 251, 3) := by decide +kernel
theorem dX12_readsClause_84 : decode cX12_readsClause 84 = .ok (.iastore, 1) := by decide +kernel
theorem dX12_readsClause_85 : decode cX12_readsClause 85 = .ok (.aload_n 0, 1) := by decide +kernel
theorem dX12_readsClause_86 : decode cX12_readsClause 86 = .ok (.iconst 0, 1) := by decide +kernel
theorem dX12_readsClause_87 : decode cX12_readsClause 87 = .ok (.putfield 255, 3) := by decide +kernel
theorem dX12_readsClause_90 : decode cX12_readsClause 90 = .ok (.aload_n 0, 1) := by decide +kernel
theorem dX12_readsClause_91 : decode cX12_readsClause 91 = .ok (.iconst 0, 1) := by decide +kernel
theorem dX12_readsClause_92 : decode cX12_readsClause 92 = .ok (.putfield 258, 3) := by decide +kernel
theorem dX12_readsClause_95 : decode cX12_readsClause 95 = .ok (.aload_n 0, 1) := by decide +kernel
theorem dX12_readsClause_96 : decode cX12_readsClause 96 = .ok (.invokevirtual 290, 3) := by decide +kernel
theorem dX12_readsClause_99 : decode cX12_readsClause 99 = .ok (.ifCond .ne 5, 3) := by decide +kernel
theorem dX12_readsClause_102 : decode cX12_readsClause 102 = .ok (.iconst 0, 1) := by decide +kernel
theorem dX12_readsClause_103 : decode cX12_readsClause 103 = .ok (.ireturn, 1) := by decide +kernel
theorem dX12_readsClause_104 : decode cX12_readsClause 104 = .ok (.aload_n 0, 1) := by decide +kernel
theorem dX12_readsClause_105 : decode cX12_readsClause 105 = .ok (.getfield 114, 3) := by decide +kernel
theorem dX12_readsClause_108 : decode cX12_readsClause 108 = .ok (.aload_n 0, 1) := by decide +kernel
theorem dX12_readsClause_109 : decode cX12_readsClause 109 = .ok (.getfield 305, 3) := by decide +kernel
theorem dX12_readsClause_112 : decode cX12_readsClause 112 = .ok (.aload_n 0, 1) := by decide +kernel
theorem dX12_readsClause_113 : decode cX12_readsClause 113 = .ok (.getfield 251, 3) := by decide +kernel
theorem dX12_readsClause_116 : decode cX12_readsClause 116 = .ok (.iastore, 1) := by decide +kernel
theorem dX12_readsClause_117 : decode cX12_readsClause 117 = .ok (.aload_n 0, 1) := by decide +kernel
theorem dX12_readsClause_118 : decode cX12_readsClause 118 = .ok (.invokevirtual 308, 3) := by decide +kernel
theorem dX12_readsClause_121 : decode cX12_readsClause 121 = .ok (.ifCond .ne 5, 3) := by decide +kernel
theorem dX12_readsClause_124 : decode cX12_readsClause 124 = .ok (.iconst 0, 1) := by decide +kernel
theorem dX12_readsClause_125 : decode cX12_readsClause 125 = .ok (.ireturn, 1) := by decide +kernel
theorem dX12_readsClause_126 : decode cX12_readsClause 126 = .ok (.aload_n 0, 1) := by decide +kernel
theorem dX12_readsClause_127 : decode cX12_readsClause 127 = .ok (.getfield 117, 3) := by decide +kernel
theorem dX12_readsClause_130 : decode cX12_readsClause 130 = .ok (.aload_n 0, 1) := by decide +kernel
theorem dX12_readsClause_131 : decode cX12_readsClause 131 = .ok (.getfield 305, 3) := by decide +kernel
theorem dX12_readsClause_134 : decode cX12_readsClause 134 = .ok (.aload_n 0, 1) := by decide +kernel
theorem dX12_readsClause_135 : decode cX12_readsClause 135 = .ok (.getfield 251, 3) := by decide +kernel
theorem dX12_readsClause_138 : decode cX12_readsClause 138 = .ok (.iastore, 1) := by decide +kernel
theorem dX12_readsClause_139 : decode cX12_readsClause 139 = .ok (.aload_n 0, 1) := by decide +kernel
theorem dX12_readsClause_140 : decode cX12_readsClause 140 = .ok (.aload_n 0, 1) := by decide +kernel
theorem dX12_readsClause_141 : decode cX12_readsClause 141 = .ok (.getfield 305, 3) := by decide +kernel
theorem dX12_readsClause_144 : decode cX12_readsClause 144 = .ok (.iconst 1, 1) := by decide +kernel
theorem dX12_readsClause_145 : decode cX12_readsClause 145 = .ok (.iadd, 1) := by decide +kernel
theorem dX12_readsClause_146 : decode cX12_readsClause 146 = .ok (.putfield 305, 3) := by decide +kernel
theorem dX12_readsClause_149 : decode cX12_readsClause 149 = .ok (.iconst 1, 1) := by decide +kernel
theorem dX12_readsClause_150 : decode cX12_readsClause 150 = .ok (.ireturn, 1) := by decide +kernel
theorem dX12_law_0 : decode cX12_law 0 = .ok (.iload_n 1, 1) := by decide +kernel
theorem dX12_law_1 : decode cX12_law 1 = .ok (.iconst 1, 1) := by decide +kernel
theorem dX12_law_2 : decode cX12_law 2 = .ok (.sipush 200, 3) := by decide +kernel
theorem dX12_law_5 : decode cX12_law 5 = .ok (.invokestatic 199, 3) := by decide +kernel
theorem dX12_law_8 : decode cX12_law 8 = .ok (.ifCond .eq 11, 3) := by decide +kernel
theorem dX12_law_11 : decode cX12_law 11 = .ok (.iload_n 1, 1) := by decide +kernel
theorem dX12_law_12 : decode cX12_law 12 = .ok (.aload_n 0, 1) := by decide +kernel
theorem dX12_law_13 : decode cX12_law 13 = .ok (.getfield 220, 3) := by decide +kernel
theorem dX12_law_16 : decode cX12_law 16 = .ok (.if_icmp .le 5, 3) := by decide +kernel
theorem dX12_law_19 : decode cX12_law 19 = .ok (.iconst (-1), 1) := by decide +kernel
theorem dX12_law_20 : decode cX12_law 20 = .ok (.ireturn, 1) := by decide +kernel
theorem dX12_law_21 : decode cX12_law 21 = .ok (.aload_n 0, 1) := by decide +kernel
theorem dX12_law_22 : decode cX12_law 22 = .ok (.iconst 0, 1) := by decide +kernel
theorem dX12_law_23 : decode cX12_law 23 = .ok (.putfield 227, 3) := by decide +kernel
theorem dX12_law_26 : decode cX12_law 26 = .ok (.aload_n 0, 1) := by decide +kernel
theorem dX12_law_27 : decode cX12_law 27 = .ok (.iload_n 1, 1) := by decide +kernel
theorem dX12_law_28 : decode cX12_law 28 = .ok (.putfield 230, 3) := by decide +kernel
theorem dX12_law_31 : decode cX12_law 31 = .ok (.aload_n 0, 1) := by decide +kernel
theorem dX12_law_32 : decode cX12_law 32 = .ok (.iconst 0, 1) := by decide +kernel
theorem dX12_law_33 : decode cX12_law 33 = .ok (.putfield 251, 3) := by decide +kernel
theorem dX12_law_36 : decode cX12_law 36 = .ok (.aload_n 0, 1) := by decide +kernel
theorem dX12_law_37 : decode cX12_law 37 = .ok (.iconst 0, 1) := by decide +kernel
theorem dX12_law_38 : decode cX12_law 38 = .ok (.putfield 305, 3) := by decide +kernel
theorem dX12_law_41 : decode cX12_law 41 = .ok (.aload_n 0, 1) := by decide +kernel
theorem dX12_law_42 : decode cX12_law 42 = .ok (.invokevirtual 311, 3) := by decide +kernel
theorem dX12_law_45 : decode cX12_law 45 = .ok (.istore_n 2, 1) := by decide +kernel
theorem dX12_law_46 : decode cX12_law 46 = .ok (.iload_n 2, 1) := by decide +kernel
theorem dX12_law_47 : decode cX12_law 47 = .ok (.ifCond .eq 39, 3) := by decide +kernel
theorem dX12_law_50 : decode cX12_law 50 = .ok (.aload_n 0, 1) := by decide +kernel
theorem dX12_law_51 : decode cX12_law 51 = .ok (.getfield 227, 3) := by decide +kernel
theorem dX12_law_54 : decode cX12_law 54 = .ok (.aload_n 0, 1) := by decide +kernel
theorem dX12_law_55 : decode cX12_law 55 = .ok (.getfield 230, 3) := by decide +kernel
theorem dX12_law_58 : decode cX12_law 58 = .ok (.if_icmp .ge 28, 3) := by decide +kernel
theorem dX12_law_61 : decode cX12_law 61 = .ok (.aload_n 0, 1) := by decide +kernel
theorem dX12_law_62 : decode cX12_law 62 = .ok (.bipush 59, 2) := by decide +kernel
theorem dX12_law_64 : decode cX12_law 64 = .ok (.invokevirtual 314, 3) := by decide +kernel
theorem dX12_law_67 : decode cX12_law 67 = .ok (.ifCond .eq 14, 3) := by decide +kernel
theorem dX12_law_70 : decode cX12_law 70 = .ok (.aload_n 0, 1) := by decide +kernel
theorem dX12_law_71 : decode cX12_law 71 = .ok (.invokevirtual 311, 3) := by decide +kernel
theorem dX12_law_74 : decode cX12_law 74 = .ok (.ifCond .eq 7, 3) := by decide +kernel
theorem dX12_law_77 : decode cX12_law 77 = .ok (.iconst 1, 1) := by decide +kernel
theorem dX12_law_78 : decode cX12_law 78 = .ok (.goto 4, 3) := by decide +kernel
theorem dX12_law_81 : decode cX12_law 81 = .ok (.iconst 0, 1) := by decide +kernel
theorem dX12_law_82 : decode cX12_law 82 = .ok (.istore_n 2, 1) := by decide +kernel
theorem dX12_law_83 : decode cX12_law 83 = .ok (.goto (-37), 3) := by decide +kernel
theorem dX12_law_86 : decode cX12_law 86 = .ok (.aload_n 0, 1) := by decide +kernel
theorem dX12_law_87 : decode cX12_law 87 = .ok (.iconst 0, 1) := by decide +kernel
theorem dX12_law_88 : decode cX12_law 88 = .ok (.putfield 220, 3) := by decide +kernel
theorem dX12_law_91 : decode cX12_law 91 = .ok (.iload_n 2, 1) := by decide +kernel
theorem dX12_law_92 : decode cX12_law 92 = .ok (.ifCond .ne 8, 3) := by decide +kernel
theorem dX12_law_95 : decode cX12_law 95 = .ok (.aload_n 0, 1) := by decide +kernel
theorem dX12_law_96 : decode cX12_law 96 = .ok (.getfield 237, 3) := by decide +kernel
theorem dX12_law_99 : decode cX12_law 99 = .ok (.ireturn, 1) := by decide +kernel
theorem dX12_law_100 : decode cX12_law 100 = .ok (.aload_n 0, 1) := by decide +kernel
theorem dX12_law_101 : decode cX12_law 101 = .ok (.aload_n 0, 1) := by decide +kernel
theorem dX12_law_102 : decode cX12_law 102 = .ok (.getfield 305, 3) := by decide +kernel
theorem dX12_law_105 : decode cX12_law 105 = .ok (.putfield 317, 3) := by decide +kernel
theorem dX12_law_108 : decode cX12_law 108 = .ok (.iconst 0, 1) := by decide +kernel
theorem dX12_law_109 : decode cX12_law 109 = .ok (.istore_n 3, 1) := by decide +kernel
theorem dX12_law_110 : decode cX12_law 110 = .ok (.iload_n 3, 1) := by decide +kernel
theorem dX12_law_111 : decode cX12_law 111 = .ok (.aload_n 0, 1) := by decide +kernel
theorem dX12_law_112 : decode cX12_law 112 = .ok (.getfield 251, 3) := by decide +kernel
theorem dX12_law_115 : decode cX12_law 115 = .ok (.if_icmp .ge 21, 3) := by decide +kernel
theorem dX12_law_118 : decode cX12_law 118 = .ok (.aload_n 0, 1) := by decide +kernel
theorem dX12_law_119 : decode cX12_law 119 = .ok (.getfield 120, 3) := by decide +kernel
theorem dX12_law_122 : decode cX12_law 122 = .ok (.iload_n 3, 1) := by decide +kernel
theorem dX12_law_123 : decode cX12_law 123 = .ok (.aload_n 0, 1) := by decide +kernel
theorem dX12_law_124 : decode cX12_law 124 = .ok (.getfield 102, 3) := by decide +kernel
theorem dX12_law_127 : decode cX12_law 127 = .ok (.iload_n 3, 1) := by decide +kernel
theorem dX12_law_128 : decode cX12_law 128 = .ok (.iaload, 1) := by decide +kernel
theorem dX12_law_129 : decode cX12_law 129 = .ok (.iastore, 1) := by decide +kernel
theorem dX12_law_130 : decode cX12_law 130 = .ok (.iinc 3 1, 3) := by decide +kernel
theorem dX12_law_133 : decode cX12_law 133 = .ok (.goto (-23), 3) := by decide +kernel
theorem dX12_law_136 : decode cX12_law 136 = .ok (.iconst 0, 1) := by decide +kernel
theorem dX12_law_137 : decode cX12_law 137 = .ok (.istore_n 3, 1) := by decide +kernel
theorem dX12_law_138 : decode cX12_law 138 = .ok (.iload_n 3, 1) := by decide +kernel
theorem dX12_law_139 : decode cX12_law 139 = .ok (.aload_n 0, 1) := by decide +kernel
theorem dX12_law_140 : decode cX12_law 140 = .ok (.getfield 305, 3) := by decide +kernel
theorem dX12_law_143 : decode cX12_law 143 = .ok (.if_icmp .ge 57, 3) := by decide +kernel
theorem dX12_law_146 : decode cX12_law 146 = .ok (.aload_n 0, 1) := by decide +kernel
theorem dX12_law_147 : decode cX12_law 147 = .ok (.getfield 123, 3) := by decide +kernel
theorem dX12_law_150 : decode cX12_law 150 = .ok (.iload_n 3, 1) := by decide +kernel
theorem dX12_law_151 : decode cX12_law 151 = .ok (.aload_n 0, 1) := by decide +kernel
theorem dX12_law_152 : decode cX12_law 152 = .ok (.getfield 108, 3) := by decide +kernel
theorem dX12_law_155 : decode cX12_law 155 = .ok (.iload_n 3, 1) := by decide +kernel
theorem dX12_law_156 : decode cX12_law 156 = .ok (.iaload, 1) := by decide +kernel
theorem dX12_law_157 : decode cX12_law 157 = .ok (.iastore, 1) := by decide +kernel
theorem dX12_law_158 : decode cX12_law 158 = .ok (.aload_n 0, 1) := by decide +kernel
theorem dX12_law_159 : decode cX12_law 159 = .ok (.getfield 126, 3) := by decide +kernel
theorem dX12_law_162 : decode cX12_law 162 = .ok (.iload_n 3, 1) := by decide +kernel
theorem dX12_law_163 : decode cX12_law 163 = .ok (.aload_n 0, 1) := by decide +kernel
theorem dX12_law_164 : decode cX12_law 164 = .ok (.getfield 111, 3) := by decide +kernel
theorem dX12_law_167 : decode cX12_law 167 = .ok (.iload_n 3, 1) := by decide +kernel
theorem dX12_law_168 : decode cX12_law 168 = .ok (.iaload, 1) := by decide +kernel
theorem dX12_law_169 : decode cX12_law 169 = .ok (.iastore, 1) := by decide +kernel
theorem dX12_law_170 : decode cX12_law 170 = .ok (.aload_n 0, 1) := by decide +kernel
theorem dX12_law_171 : decode cX12_law 171 = .ok (.getfield 129, 3) := by decide +kernel
theorem dX12_law_174 : decode cX12_law 174 = .ok (.iload_n 3, 1) := by decide +kernel
theorem dX12_law_175 : decode cX12_law 175 = .ok (.aload_n 0, 1) := by decide +kernel
theorem dX12_law_176 : decode cX12_law 176 = .ok (.getfield 114, 3) := by decide +kernel
theorem dX12_law_179 : decode cX12_law 179 = .ok (.iload_n 3, 1) := by decide +kernel
theorem dX12_law_180 : decode cX12_law 180 = .ok (.iaload, 1) := by decide +kernel
theorem dX12_law_181 : decode cX12_law 181 = .ok (.iastore, 1) := by decide +kernel
theorem dX12_law_182 : decode cX12_law 182 = .ok (.aload_n 0, 1) := by decide +kernel
theorem dX12_law_183 : decode cX12_law 183 = .ok (.getfield 132, 3) := by decide +kernel
theorem dX12_law_186 : decode cX12_law 186 = .ok (.iload_n 3, 1) := by decide +kernel
theorem dX12_law_187 : decode cX12_law 187 = .ok (.aload_n 0, 1) := by decide +kernel
theorem dX12_law_188 : decode cX12_law 188 = .ok (.getfield 117, 3) := by decide +kernel
theorem dX12_law_191 : decode cX12_law 191 = .ok (.iload_n 3, 1) := by decide +kernel
theorem dX12_law_192 : decode cX12_law 192 = .ok (.iaload, 1) := by decide +kernel
theorem dX12_law_193 : decode cX12_law 193 = .ok (.iastore, 1) := by decide +kernel
theorem dX12_law_194 : decode cX12_law 194 = .ok (.iinc 3 1, 3) := by decide +kernel
theorem dX12_law_197 : decode cX12_law 197 = .ok (.goto (-59), 3) := by decide +kernel
theorem dX12_law_200 : decode cX12_law 200 = .ok (.aload_n 0, 1) := by decide +kernel
theorem dX12_law_201 : decode cX12_law 201 = .ok (.getfield 305, 3) := by decide +kernel
theorem dX12_law_204 : decode cX12_law 204 = .ok (.ireturn, 1) := by decide +kernel
theorem dX12_reckon_0 : decode cX12_reckon 0 = .ok (.iload_n 0, 1) := by decide +kernel
theorem dX12_reckon_1 : decode cX12_reckon 1 = .ok (.tableswitch 85 2 8 #[43, 47, 51, 55, 59, 63, 74], 43) := by decide +kernel
theorem dX12_reckon_44 : decode cX12_reckon 44 = .ok (.iload_n 1, 1) := by decide +kernel
theorem dX12_reckon_45 : decode cX12_reckon 45 = .ok (.iload_n 2, 1) := by decide +kernel
theorem dX12_reckon_46 : decode cX12_reckon 46 = .ok (.iadd, 1) := by decide +kernel
theorem dX12_reckon_47 : decode cX12_reckon 47 = .ok (.ireturn, 1) := by decide +kernel
theorem dX12_reckon_48 : decode cX12_reckon 48 = .ok (.iload_n 1, 1) := by decide +kernel
theorem dX12_reckon_49 : decode cX12_reckon 49 = .ok (.iload_n 2, 1) := by decide +kernel
theorem dX12_reckon_50 : decode cX12_reckon 50 = .ok (.isub, 1) := by decide +kernel
theorem dX12_reckon_51 : decode cX12_reckon 51 = .ok (.ireturn, 1) := by decide +kernel
theorem dX12_reckon_52 : decode cX12_reckon 52 = .ok (.iload_n 1, 1) := by decide +kernel
theorem dX12_reckon_53 : decode cX12_reckon 53 = .ok (.iload_n 2, 1) := by decide +kernel
theorem dX12_reckon_54 : decode cX12_reckon 54 = .ok (.imul, 1) := by decide +kernel
theorem dX12_reckon_55 : decode cX12_reckon 55 = .ok (.ireturn, 1) := by decide +kernel
theorem dX12_reckon_56 : decode cX12_reckon 56 = .ok (.iload_n 1, 1) := by decide +kernel
theorem dX12_reckon_57 : decode cX12_reckon 57 = .ok (.iload_n 2, 1) := by decide +kernel
theorem dX12_reckon_58 : decode cX12_reckon 58 = .ok (.idiv, 1) := by decide +kernel
theorem dX12_reckon_59 : decode cX12_reckon 59 = .ok (.ireturn, 1) := by decide +kernel
theorem dX12_reckon_60 : decode cX12_reckon 60 = .ok (.iload_n 1, 1) := by decide +kernel
theorem dX12_reckon_61 : decode cX12_reckon 61 = .ok (.iload_n 2, 1) := by decide +kernel
theorem dX12_reckon_62 : decode cX12_reckon 62 = .ok (.irem, 1) := by decide +kernel
theorem dX12_reckon_63 : decode cX12_reckon 63 = .ok (.ireturn, 1) := by decide +kernel
theorem dX12_reckon_64 : decode cX12_reckon 64 = .ok (.iload_n 1, 1) := by decide +kernel
theorem dX12_reckon_65 : decode cX12_reckon 65 = .ok (.iload_n 2, 1) := by decide +kernel
theorem dX12_reckon_66 : decode cX12_reckon 66 = .ok (.if_icmp .ge 7, 3) := by decide +kernel
theorem dX12_reckon_69 : decode cX12_reckon 69 = .ok (.iconst 1, 1) := by decide +kernel
theorem dX12_reckon_70 : decode cX12_reckon 70 = .ok (.goto 4, 3) := by decide +kernel
theorem dX12_reckon_73 : decode cX12_reckon 73 = .ok (.iconst 0, 1) := by decide +kernel
theorem dX12_reckon_74 : decode cX12_reckon 74 = .ok (.ireturn, 1) := by decide +kernel
theorem dX12_reckon_75 : decode cX12_reckon 75 = .ok (.iload_n 1, 1) := by decide +kernel
theorem dX12_reckon_76 : decode cX12_reckon 76 = .ok (.iload_n 2, 1) := by decide +kernel
theorem dX12_reckon_77 : decode cX12_reckon 77 = .ok (.if_icmp .le 7, 3) := by decide +kernel
theorem dX12_reckon_80 : decode cX12_reckon 80 = .ok (.iconst 1, 1) := by decide +kernel
theorem dX12_reckon_81 : decode cX12_reckon 81 = .ok (.goto 4, 3) := by decide +kernel
theorem dX12_reckon_84 : decode cX12_reckon 84 = .ok (.iconst 0, 1) := by decide +kernel
theorem dX12_reckon_85 : decode cX12_reckon 85 = .ok (.ireturn, 1) := by decide +kernel
theorem dX12_reckon_86 : decode cX12_reckon 86 = .ok (.iload_n 1, 1) := by decide +kernel
theorem dX12_reckon_87 : decode cX12_reckon 87 = .ok (.iload_n 2, 1) := by decide +kernel
theorem dX12_reckon_88 : decode cX12_reckon 88 = .ok (.if_icmp .ne 7, 3) := by decide +kernel
theorem dX12_reckon_91 : decode cX12_reckon 91 = .ok (.iconst 1, 1) := by decide +kernel
theorem dX12_reckon_92 : decode cX12_reckon 92 = .ok (.goto 4, 3) := by decide +kernel
theorem dX12_reckon_95 : decode cX12_reckon 95 = .ok (.iconst 0, 1) := by decide +kernel
theorem dX12_reckon_96 : decode cX12_reckon 96 = .ok (.ireturn, 1) := by decide +kernel
theorem dX12_comesTo_0 : decode cX12_comesTo 0 = .ok (.iconst 0, 1) := by decide +kernel
theorem dX12_comesTo_1 : decode cX12_comesTo 1 = .ok (.istore_n 3, 1) := by decide +kernel
theorem dX12_comesTo_2 : decode cX12_comesTo 2 = .ok (.sipush 220, 3) := by decide +kernel
theorem dX12_comesTo_5 : decode cX12_comesTo 5 = .ok (.iload_n 1, 1) := by decide +kernel
theorem dX12_comesTo_6 : decode cX12_comesTo 6 = .ok (.sipush 220, 3) := by decide +kernel
theorem dX12_comesTo_9 : decode cX12_comesTo 9 = .ok (.idiv, 1) := by decide +kernel
theorem dX12_comesTo_10 : decode cX12_comesTo 10 = .ok (.imul, 1) := by decide +kernel
theorem dX12_comesTo_11 : decode cX12_comesTo 11 = .ok (.istore 4, 2) := by decide +kernel
theorem dX12_comesTo_13 : decode cX12_comesTo 13 = .ok (.iload_n 1, 1) := by decide +kernel
theorem dX12_comesTo_14 : decode cX12_comesTo 14 = .ok (.istore 5, 2) := by decide +kernel
theorem dX12_comesTo_16 : decode cX12_comesTo 16 = .ok (.iload 5, 2) := by decide +kernel
theorem dX12_comesTo_18 : decode cX12_comesTo 18 = .ok (.iload_n 2, 1) := by decide +kernel
theorem dX12_comesTo_19 : decode cX12_comesTo 19 = .ok (.if_icmp .ge 214, 3) := by decide +kernel
theorem dX12_comesTo_22 : decode cX12_comesTo 22 = .ok (.aload_n 0, 1) := by decide +kernel
theorem dX12_comesTo_23 : decode cX12_comesTo 23 = .ok (.getfield 120, 3) := by decide +kernel
theorem dX12_comesTo_26 : decode cX12_comesTo 26 = .ok (.iload 5, 2) := by decide +kernel
theorem dX12_comesTo_28 : decode cX12_comesTo 28 = .ok (.iaload, 1) := by decide +kernel
theorem dX12_comesTo_29 : decode cX12_comesTo 29 = .ok (.ldc 254, 2) := by decide +kernel
theorem dX12_comesTo_31 : decode cX12_comesTo 31 = .ok (.idiv, 1) := by decide +kernel
theorem dX12_comesTo_32 : decode cX12_comesTo 32 = .ok (.istore 6, 2) := by decide +kernel
theorem dX12_comesTo_34 : decode cX12_comesTo 34 = .ok (.aload_n 0, 1) := by decide +kernel
theorem dX12_comesTo_35 : decode cX12_comesTo 35 = .ok (.getfield 120, 3) := by decide +kernel
theorem dX12_comesTo_38 : decode cX12_comesTo 38 = .ok (.iload 5, 2) := by decide +kernel
theorem dX12_comesTo_40 : decode cX12_comesTo 40 = .ok (.iaload, 1) := by decide +kernel
theorem dX12_comesTo_41 : decode cX12_comesTo 41 = .ok (.ldc 254, 2) := by decide +kernel
theorem dX12_comesTo_43 : decode cX12_comesTo 43 = .ok (.irem, 1) := by decide +kernel
theorem dX12_comesTo_44 : decode cX12_comesTo 44 = .ok (.istore 7, 2) := by decide +kernel
theorem dX12_comesTo_46 : decode cX12_comesTo 46 = .ok (.iload 5, 2) := by decide +kernel
theorem dX12_comesTo_48 : decode cX12_comesTo 48 = .ok (.iconst 1, 1) := by decide +kernel
theorem dX12_comesTo_49 : decode cX12_comesTo 49 = .ok (.iadd, 1) := by decide +kernel
theorem dX12_comesTo_50 : decode cX12_comesTo 50 = .ok (.istore 5, 2) := by decide +kernel
theorem dX12_comesTo_52 : decode cX12_comesTo 52 = .ok (.iload 6, 2) := by decide +kernel
theorem dX12_comesTo_54 : decode cX12_comesTo 54 = .ok (.ifCond .eq 9, 3) := by decide +kernel
theorem dX12_comesTo_57 : decode cX12_comesTo 57 = .ok (.iload 6, 2) := by decide +kernel
theorem dX12_comesTo_59 : decode cX12_comesTo 59 = .ok (.iconst 1, 1) := by decide +kernel
theorem dX12_comesTo_60 : decode cX12_comesTo 60 = .ok (.if_icmp .ne 33, 3) := by decide +kernel
theorem dX12_comesTo_63 : decode cX12_comesTo 63 = .ok (.aload_n 0, 1) := by decide +kernel
theorem dX12_comesTo_64 : decode cX12_comesTo 64 = .ok (.getfield 135, 3) := by decide +kernel
theorem dX12_comesTo_67 : decode cX12_comesTo 67 = .ok (.iload_n 3, 1) := by decide +kernel
theorem dX12_comesTo_68 : decode cX12_comesTo 68 = .ok (.iload 6, 2) := by decide +kernel
theorem dX12_comesTo_70 : decode cX12_comesTo 70 = .ok (.ifCond .ne 8, 3) := by decide +kernel
theorem dX12_comesTo_73 : decode cX12_comesTo 73 = .ok (.iload 7, 2) := by decide +kernel
theorem dX12_comesTo_75 : decode cX12_comesTo 75 = .ok (.goto 10, 3) := by decide +kernel
theorem dX12_comesTo_78 : decode cX12_comesTo 78 = .ok (.aload_n 0, 1) := by decide +kernel
theorem dX12_comesTo_79 : decode cX12_comesTo 79 = .ok (.getfield 138, 3) := by decide +kernel
theorem dX12_comesTo_82 : decode cX12_comesTo 82 = .ok (.iload 7, 2) := by decide +kernel
theorem dX12_comesTo_84 : decode cX12_comesTo 84 = .ok (.iaload, 1) := by decide +kernel
theorem dX12_comesTo_85 : decode cX12_comesTo 85 = .ok (.iastore, 1) := by decide +kernel
theorem dX12_comesTo_86 : decode cX12_comesTo 86 = .ok (.iload_n 3, 1) := by decide +kernel
theorem dX12_comesTo_87 : decode cX12_comesTo 87 = .ok (.iconst 1, 1) := by decide +kernel
theorem dX12_comesTo_88 : decode cX12_comesTo 88 = .ok (.iadd, 1) := by decide +kernel
theorem dX12_comesTo_89 : decode cX12_comesTo 89 = .ok (.istore_n 3, 1) := by decide +kernel
theorem dX12_comesTo_90 : decode cX12_comesTo 90 = .ok (.goto 140, 3) := by decide +kernel
theorem dX12_comesTo_93 : decode cX12_comesTo 93 = .ok (.iload 6, 2) := by decide +kernel
theorem dX12_comesTo_95 : decode cX12_comesTo 95 = .ok (.bipush 10, 2) := by decide +kernel
theorem dX12_comesTo_97 : decode cX12_comesTo 97 = .ok (.if_icmp .ne 24, 3) := by decide +kernel
theorem dX12_comesTo_100 : decode cX12_comesTo 100 = .ok (.aload_n 0, 1) := by decide +kernel
theorem dX12_comesTo_101 : decode cX12_comesTo 101 = .ok (.getfield 135, 3) := by decide +kernel
theorem dX12_comesTo_104 : decode cX12_comesTo 104 = .ok (.iload_n 3, 1) := by decide +kernel
theorem dX12_comesTo_105 : decode cX12_comesTo 105 = .ok (.iconst 1, 1) := by decide +kernel
theorem dX12_comesTo_106 : decode cX12_comesTo 106 = .ok (.isub, 1) := by decide +kernel
theorem dX12_comesTo_107 : decode cX12_comesTo 107 = .ok (.iconst 1, 1) := by decide +kernel
theorem dX12_comesTo_108 : decode cX12_comesTo 108 = .ok (.aload_n 0, 1) := by decide +kernel
theorem dX12_comesTo_109 : decode cX12_comesTo 109 = .ok (.getfield 135, 3) := by decide +kernel
theorem dX12_comesTo_112 : decode cX12_comesTo 112 = .ok (.iload_n 3, 1) := by decide +kernel
theorem dX12_comesTo_113 : decode cX12_comesTo 113 = .ok (.iconst 1, 1) := by decide +kernel
theorem dX12_comesTo_114 : decode cX12_comesTo 114 = .ok (.isub, 1) := by decide +kernel
theorem dX12_comesTo_115 : decode cX12_comesTo 115 = .ok (.iaload, 1) := by decide +kernel
theorem dX12_comesTo_116 : decode cX12_comesTo 116 = .ok (.isub, 1) := by decide +kernel
theorem dX12_comesTo_117 : decode cX12_comesTo 117 = .ok (.iastore, 1) := by decide +kernel
theorem dX12_comesTo_118 : decode cX12_comesTo 118 = .ok (.goto 112, 3) := by decide +kernel
theorem dX12_comesTo_121 : decode cX12_comesTo 121 = .ok (.iload 6, 2) := by decide +kernel
theorem dX12_comesTo_123 : decode cX12_comesTo 123 = .ok (.bipush 11, 2) := by decide +kernel
theorem dX12_comesTo_125 : decode cX12_comesTo 125 = .ok (.if_icmp .eq 10, 3) := by decide +kernel
theorem dX12_comesTo_128 : decode cX12_comesTo 128 = .ok (.iload 6, 2) := by decide +kernel
theorem dX12_comesTo_130 : decode cX12_comesTo 130 = .ok (.bipush 12, 2) := by decide +kernel
theorem dX12_comesTo_132 : decode cX12_comesTo 132 = .ok (.if_icmp .ne 43, 3) := by decide +kernel
theorem dX12_comesTo_135 : decode cX12_comesTo 135 = .ok (.aload_n 0, 1) := by decide +kernel
theorem dX12_comesTo_136 : decode cX12_comesTo 136 = .ok (.getfield 135, 3) := by decide +kernel
theorem dX12_comesTo_139 : decode cX12_comesTo 139 = .ok (.iload_n 3, 1) := by decide +kernel
theorem dX12_comesTo_140 : decode cX12_comesTo 140 = .ok (.iconst 1, 1) := by decide +kernel
theorem dX12_comesTo_141 : decode cX12_comesTo 141 = .ok (.isub, 1) := by decide +kernel
theorem dX12_comesTo_142 : decode cX12_comesTo 142 = .ok (.iaload, 1) := by decide +kernel
theorem dX12_comesTo_143 : decode cX12_comesTo 143 = .ok (.iload 6, 2) := by decide +kernel
theorem dX12_comesTo_145 : decode cX12_comesTo 145 = .ok (.bipush 12, 2) := by decide +kernel
theorem dX12_comesTo_147 : decode cX12_comesTo 147 = .ok (.if_icmp .ne 7, 3) := by decide +kernel
theorem dX12_comesTo_150 : decode cX12_comesTo 150 = .ok (.iconst 1, 1) := by decide +kernel
theorem dX12_comesTo_151 : decode cX12_comesTo 151 = .ok (.goto 4, 3) := by decide +kernel
theorem dX12_comesTo_154 : decode cX12_comesTo 154 = .ok (.iconst 0, 1) := by decide +kernel
theorem dX12_comesTo_155 : decode cX12_comesTo 155 = .ok (.if_icmp .ne 13, 3) := by decide +kernel
theorem dX12_comesTo_158 : decode cX12_comesTo 158 = .ok (.iload 4, 2) := by decide +kernel
theorem dX12_comesTo_160 : decode cX12_comesTo 160 = .ok (.iload 7, 2) := by decide +kernel
theorem dX12_comesTo_162 : decode cX12_comesTo 162 = .ok (.iadd, 1) := by decide +kernel
theorem dX12_comesTo_163 : decode cX12_comesTo 163 = .ok (.istore 5, 2) := by decide +kernel
theorem dX12_comesTo_165 : decode cX12_comesTo 165 = .ok (.goto 65, 3) := by decide +kernel
theorem dX12_comesTo_168 : decode cX12_comesTo 168 = .ok (.iload_n 3, 1) := by decide +kernel
theorem dX12_comesTo_169 : decode cX12_comesTo 169 = .ok (.iconst 1, 1) := by decide +kernel
theorem dX12_comesTo_170 : decode cX12_comesTo 170 = .ok (.isub, 1) := by decide +kernel
theorem dX12_comesTo_171 : decode cX12_comesTo 171 = .ok (.istore_n 3, 1) := by decide +kernel
theorem dX12_comesTo_172 : decode cX12_comesTo 172 = .ok (.goto 58, 3) := by decide +kernel
theorem dX12_comesTo_175 : decode cX12_comesTo 175 = .ok (.iload_n 3, 1) := by decide +kernel
theorem dX12_comesTo_176 : decode cX12_comesTo 176 = .ok (.iconst 1, 1) := by decide +kernel
theorem dX12_comesTo_177 : decode cX12_comesTo 177 = .ok (.isub, 1) := by decide +kernel
theorem dX12_comesTo_178 : decode cX12_comesTo 178 = .ok (.istore_n 3, 1) := by decide +kernel
theorem dX12_comesTo_179 : decode cX12_comesTo 179 = .ok (.iload 6, 2) := by decide +kernel
theorem dX12_comesTo_181 : decode cX12_comesTo 181 = .ok (.iconst 5, 1) := by decide +kernel
theorem dX12_comesTo_182 : decode cX12_comesTo 182 = .ok (.if_icmp .eq 10, 3) := by decide +kernel
theorem dX12_comesTo_185 : decode cX12_comesTo 185 = .ok (.iload 6, 2) := by decide +kernel
theorem dX12_comesTo_187 : decode cX12_comesTo 187 = .ok (.bipush 6, 2) := by decide +kernel
theorem dX12_comesTo_189 : decode cX12_comesTo 189 = .ok (.if_icmp .ne 14, 3) := by decide +kernel
theorem dX12_comesTo_192 : decode cX12_comesTo 192 = .ok (.aload_n 0, 1) := by decide +kernel
theorem dX12_comesTo_193 : decode cX12_comesTo 193 = .ok (.getfield 135, 3) := by decide +kernel
theorem dX12_comesTo_196 : decode cX12_comesTo 196 = .ok (.iload_n 3, 1) := by decide +kernel
theorem dX12_comesTo_197 : decode cX12_comesTo 197 = .ok (.iaload, 1) := by decide +kernel
theorem dX12_comesTo_198 : decode cX12_comesTo 198 = .ok (.ifCond .ne 5, 3) := by decide +kernel
theorem dX12_comesTo_201 : decode cX12_comesTo 201 = .ok (.iconst 0, 1) := by decide +kernel
theorem dX12_comesTo_202 : decode cX12_comesTo 202 = .ok (.ireturn, 1) := by decide +kernel
theorem dX12_comesTo_203 : decode cX12_comesTo 203 = .ok (.aload_n 0, 1) := by decide +kernel
theorem dX12_comesTo_204 : decode cX12_comesTo 204 = .ok (.getfield 135, 3) := by decide +kernel
theorem dX12_comesTo_207 : decode cX12_comesTo 207 = .ok (.iload_n 3, 1) := by decide +kernel
theorem dX12_comesTo_208 : decode cX12_comesTo 208 = .ok (.iconst 1, 1) := by decide +kernel
theorem dX12_comesTo_209 : decode cX12_comesTo 209 = .ok (.isub, 1) := by decide +kernel
theorem dX12_comesTo_210 : decode cX12_comesTo 210 = .ok (.iload 6, 2) := by decide +kernel
theorem dX12_comesTo_212 : decode cX12_comesTo 212 = .ok (.aload_n 0, 1) := by decide +kernel
theorem dX12_comesTo_213 : decode cX12_comesTo 213 = .ok (.getfield 135, 3) := by decide +kernel
theorem dX12_comesTo_216 : decode cX12_comesTo 216 = .ok (.iload_n 3, 1) := by decide +kernel
theorem dX12_comesTo_217 : decode cX12_comesTo 217 = .ok (.iconst 1, 1) := by decide +kernel
theorem dX12_comesTo_218 : decode cX12_comesTo 218 = .ok (.isub, 1) := by decide +kernel
theorem dX12_comesTo_219 : decode cX12_comesTo 219 = .ok (.iaload, 1) := by decide +kernel
theorem dX12_comesTo_220 : decode cX12_comesTo 220 = .ok (.aload_n 0, 1) := by decide +kernel
theorem dX12_comesTo_221 : decode cX12_comesTo 221 = .ok (.getfield 135, 3) := by decide +kernel
theorem dX12_comesTo_224 : decode cX12_comesTo 224 = .ok (.iload_n 3, 1) := by decide +kernel
theorem dX12_comesTo_225 : decode cX12_comesTo 225 = .ok (.iaload, 1) := by decide +kernel
theorem dX12_comesTo_226 : decode cX12_comesTo 226 = .ok (.invokestatic 320, 3) := by decide +kernel
theorem dX12_comesTo_229 : decode cX12_comesTo 229 = .ok (.iastore, 1) := by decide +kernel
theorem dX12_comesTo_230 : decode cX12_comesTo 230 = .ok (.goto (-214), 3) := by decide +kernel
theorem dX12_comesTo_233 : decode cX12_comesTo 233 = .ok (.aload_n 0, 1) := by decide +kernel
theorem dX12_comesTo_234 : decode cX12_comesTo 234 = .ok (.getfield 135, 3) := by decide +kernel
theorem dX12_comesTo_237 : decode cX12_comesTo 237 = .ok (.iconst 0, 1) := by decide +kernel
theorem dX12_comesTo_238 : decode cX12_comesTo 238 = .ok (.iaload, 1) := by decide +kernel
theorem dX12_comesTo_239 : decode cX12_comesTo 239 = .ok (.ireturn, 1) := by decide +kernel
theorem dX12_byLaw_0 : decode cX12_byLaw 0 = .ok (.iconst 0, 1) := by decide +kernel
theorem dX12_byLaw_1 : decode cX12_byLaw 1 = .ok (.istore 5, 2) := by decide +kernel
theorem dX12_byLaw_3 : decode cX12_byLaw 3 = .ok (.iload 5, 2) := by decide +kernel
theorem dX12_byLaw_5 : decode cX12_byLaw 5 = .ok (.aload_n 0, 1) := by decide +kernel
theorem dX12_byLaw_6 : decode cX12_byLaw 6 = .ok (.getfield 317, 3) := by decide +kernel
theorem dX12_byLaw_9 : decode cX12_byLaw 9 = .ok (.if_icmp .ge 88, 3) := by decide +kernel
theorem dX12_byLaw_12 : decode cX12_byLaw 12 = .ok (.aload_n 0, 1) := by decide +kernel
theorem dX12_byLaw_13 : decode cX12_byLaw 13 = .ok (.getfield 123, 3) := by decide +kernel
theorem dX12_byLaw_16 : decode cX12_byLaw 16 = .ok (.iload 5, 2) := by decide +kernel
theorem dX12_byLaw_18 : decode cX12_byLaw 18 = .ok (.iaload, 1) := by decide +kernel
theorem dX12_byLaw_19 : decode cX12_byLaw 19 = .ok (.iload_n 1, 1) := by decide +kernel
theorem dX12_byLaw_20 : decode cX12_byLaw 20 = .ok (.if_icmp .ne 71, 3) := by decide +kernel
theorem dX12_byLaw_23 : decode cX12_byLaw 23 = .ok (.aload_n 0, 1) := by decide +kernel
theorem dX12_byLaw_24 : decode cX12_byLaw 24 = .ok (.aload_n 0, 1) := by decide +kernel
theorem dX12_byLaw_25 : decode cX12_byLaw 25 = .ok (.getfield 129, 3) := by decide +kernel
theorem dX12_byLaw_28 : decode cX12_byLaw 28 = .ok (.iload 5, 2) := by decide +kernel
theorem dX12_byLaw_30 : decode cX12_byLaw 30 = .ok (.iaload, 1) := by decide +kernel
theorem dX12_byLaw_31 : decode cX12_byLaw 31 = .ok (.aload_n 0, 1) := by decide +kernel
theorem dX12_byLaw_32 : decode cX12_byLaw 32 = .ok (.getfield 132, 3) := by decide +kernel
theorem dX12_byLaw_35 : decode cX12_byLaw 35 = .ok (.iload 5, 2) := by decide +kernel
theorem dX12_byLaw_37 : decode cX12_byLaw 37 = .ok (.iaload, 1) := by decide +kernel
theorem dX12_byLaw_38 : decode cX12_byLaw 38 = .ok (.invokevirtual 324, 3) := by decide +kernel
theorem dX12_byLaw_41 : decode cX12_byLaw 41 = .ok (.iconst 1, 1) := by decide +kernel
theorem dX12_byLaw_42 : decode cX12_byLaw 42 = .ok (.if_icmp .eq 6, 3) := by decide +kernel
theorem dX12_byLaw_45 : decode cX12_byLaw 45 = .ok (.goto 46, 3) := by decide +kernel
theorem dX12_byLaw_48 : decode cX12_byLaw 48 = .ok (.aload_n 0, 1) := by decide +kernel
theorem dX12_byLaw_49 : decode cX12_byLaw 49 = .ok (.aload_n 0, 1) := by decide +kernel
theorem dX12_byLaw_50 : decode cX12_byLaw 50 = .ok (.getfield 126, 3) := by decide +kernel
theorem dX12_byLaw_53 : decode cX12_byLaw 53 = .ok (.iload 5, 2) := by decide +kernel
theorem dX12_byLaw_55 : decode cX12_byLaw 55 = .ok (.iaload, 1) := by decide +kernel
theorem dX12_byLaw_56 : decode cX12_byLaw 56 = .ok (.aload_n 0, 1) := by decide +kernel
theorem dX12_byLaw_57 : decode cX12_byLaw 57 = .ok (.getfield 129, 3) := by decide +kernel
theorem dX12_byLaw_60 : decode cX12_byLaw 60 = .ok (.iload 5, 2) := by decide +kernel
theorem dX12_byLaw_62 : decode cX12_byLaw 62 = .ok (.iaload, 1) := by decide +kernel
theorem dX12_byLaw_63 : decode cX12_byLaw 63 = .ok (.invokevirtual 324, 3) := by decide +kernel
theorem dX12_byLaw_66 : decode cX12_byLaw 66 = .ok (.istore 6, 2) := by decide +kernel
theorem dX12_byLaw_68 : decode cX12_byLaw 68 = .ok (.iload 6, 2) := by decide +kernel
theorem dX12_byLaw_70 : decode cX12_byLaw 70 = .ok (.iload_n 2, 1) := by decide +kernel
theorem dX12_byLaw_71 : decode cX12_byLaw 71 = .ok (.if_icmp .ge 7, 3) := by decide +kernel
theorem dX12_byLaw_74 : decode cX12_byLaw 74 = .ok (.iload_n 2, 1) := by decide +kernel
theorem dX12_byLaw_75 : decode cX12_byLaw 75 = .ok (.goto 15, 3) := by decide +kernel
theorem dX12_byLaw_78 : decode cX12_byLaw 78 = .ok (.iload 6, 2) := by decide +kernel
theorem dX12_byLaw_80 : decode cX12_byLaw 80 = .ok (.iload_n 3, 1) := by decide +kernel
theorem dX12_byLaw_81 : decode cX12_byLaw 81 = .ok (.if_icmp .le 7, 3) := by decide +kernel
theorem dX12_byLaw_84 : decode cX12_byLaw 84 = .ok (.iload_n 3, 1) := by decide +kernel
theorem dX12_byLaw_85 : decode cX12_byLaw 85 = .ok (.goto 5, 3) := by decide +kernel
theorem dX12_byLaw_88 : decode cX12_byLaw 88 = .ok (.iload 6, 2) := by decide +kernel
theorem dX12_byLaw_90 : decode cX12_byLaw 90 = .ok (.ireturn, 1) := by decide +kernel
theorem dX12_byLaw_91 : decode cX12_byLaw 91 = .ok (.iinc 5 1, 3) := by decide +kernel
theorem dX12_byLaw_94 : decode cX12_byLaw 94 = .ok (.goto (-91), 3) := by decide +kernel
theorem dX12_byLaw_97 : decode cX12_byLaw 97 = .ok (.iload 4, 2) := by decide +kernel
theorem dX12_byLaw_99 : decode cX12_byLaw 99 = .ok (.ireturn, 1) := by decide +kernel
theorem dX12_outWith_0 : decode cX12_outWith 0 = .ok (.iconst 0, 1) := by decide +kernel
theorem dX12_outWith_1 : decode cX12_outWith 1 = .ok (.istore_n 2, 1) := by decide +kernel
theorem dX12_outWith_2 : decode cX12_outWith 2 = .ok (.iconst 0, 1) := by decide +kernel
theorem dX12_outWith_3 : decode cX12_outWith 3 = .ok (.istore_n 3, 1) := by decide +kernel
theorem dX12_outWith_4 : decode cX12_outWith 4 = .ok (.iload_n 3, 1) := by decide +kernel
theorem dX12_outWith_5 : decode cX12_outWith 5 = .ok (.aload_n 0, 1) := by decide +kernel
theorem dX12_outWith_6 : decode cX12_outWith 6 = .ok (.getfield 187, 3) := by decide +kernel
theorem dX12_outWith_9 : decode cX12_outWith 9 = .ok (.if_icmp .ge 30, 3) := by decide +kernel
theorem dX12_outWith_12 : decode cX12_outWith 12 = .ok (.iload_n 2, 1) := by decide +kernel
theorem dX12_outWith_13 : decode cX12_outWith 13 = .ok (.aload_n 0, 1) := by decide +kernel
theorem dX12_outWith_14 : decode cX12_outWith 14 = .ok (.getfield 22, 3) := by decide +kernel
theorem dX12_outWith_17 : decode cX12_outWith 17 = .ok (.iload_n 3, 1) := by decide +kernel
theorem dX12_outWith_18 : decode cX12_outWith 18 = .ok (.iaload, 1) := by decide +kernel
theorem dX12_outWith_19 : decode cX12_outWith 19 = .ok (.bipush 10, 2) := by decide +kernel
theorem dX12_outWith_21 : decode cX12_outWith 21 = .ok (.iload_n 1, 1) := by decide +kernel
theorem dX12_outWith_22 : decode cX12_outWith 22 = .ok (.iadd, 1) := by decide +kernel
theorem dX12_outWith_23 : decode cX12_outWith 23 = .ok (.if_icmp .ne 7, 3) := by decide +kernel
theorem dX12_outWith_26 : decode cX12_outWith 26 = .ok (.iconst 1, 1) := by decide +kernel
theorem dX12_outWith_27 : decode cX12_outWith 27 = .ok (.goto 4, 3) := by decide +kernel
theorem dX12_outWith_30 : decode cX12_outWith 30 = .ok (.iconst 0, 1) := by decide +kernel
theorem dX12_outWith_31 : decode cX12_outWith 31 = .ok (.iadd, 1) := by decide +kernel
theorem dX12_outWith_32 : decode cX12_outWith 32 = .ok (.istore_n 2, 1) := by decide +kernel
theorem dX12_outWith_33 : decode cX12_outWith 33 = .ok (.iinc 3 1, 3) := by decide +kernel
theorem dX12_outWith_36 : decode cX12_outWith 36 = .ok (.goto (-32), 3) := by decide +kernel
theorem dX12_outWith_39 : decode cX12_outWith 39 = .ok (.iload_n 2, 1) := by decide +kernel
theorem dX12_outWith_40 : decode cX12_outWith 40 = .ok (.ireturn, 1) := by decide +kernel
theorem dX12_feels_0 : decode cX12_feels 0 = .ok (.iconst 0, 1) := by decide +kernel
theorem dX12_feels_1 : decode cX12_feels 1 = .ok (.istore 4, 2) := by decide +kernel
theorem dX12_feels_3 : decode cX12_feels 3 = .ok (.iconst 0, 1) := by decide +kernel
theorem dX12_feels_4 : decode cX12_feels 4 = .ok (.istore 5, 2) := by decide +kernel
theorem dX12_feels_6 : decode cX12_feels 6 = .ok (.iload 5, 2) := by decide +kernel
theorem dX12_feels_8 : decode cX12_feels 8 = .ok (.aload_n 0, 1) := by decide +kernel
theorem dX12_feels_9 : decode cX12_feels 9 = .ok (.getfield 187, 3) := by decide +kernel
theorem dX12_feels_12 : decode cX12_feels 12 = .ok (.if_icmp .ge 50, 3) := by decide +kernel
theorem dX12_feels_15 : decode cX12_feels 15 = .ok (.iload 4, 2) := by decide +kernel
theorem dX12_feels_17 : decode cX12_feels 17 = .ok (.aload_n 0, 1) := by decide +kernel
theorem dX12_feels_18 : decode cX12_feels 18 = .ok (.getfield 70, 3) := by decide +kernel
theorem dX12_feels_21 : decode cX12_feels 21 = .ok (.bipush 32, 2) := by decide +kernel
theorem dX12_feels_23 : decode cX12_feels 23 = .ok (.iload_n 1, 1) := by decide +kernel
theorem dX12_feels_24 : decode cX12_feels 24 = .ok (.imul, 1) := by decide +kernel
theorem dX12_feels_25 : decode cX12_feels 25 = .ok (.iload 5, 2) := by decide +kernel
theorem dX12_feels_27 : decode cX12_feels 27 = .ok (.iadd, 1) := by decide +kernel
theorem dX12_feels_28 : decode cX12_feels 28 = .ok (.baload, 1) := by decide +kernel
theorem dX12_feels_29 : decode cX12_feels 29 = .ok (.ifCond .eq 23, 3) := by decide +kernel
theorem dX12_feels_32 : decode cX12_feels 32 = .ok (.aload_n 0, 1) := by decide +kernel
theorem dX12_feels_33 : decode cX12_feels 33 = .ok (.getfield 7, 3) := by decide +kernel
theorem dX12_feels_36 : decode cX12_feels 36 = .ok (.iload 5, 2) := by decide +kernel
theorem dX12_feels_38 : decode cX12_feels 38 = .ok (.iaload, 1) := by decide +kernel
theorem dX12_feels_39 : decode cX12_feels 39 = .ok (.aload_n 0, 1) := by decide +kernel
theorem dX12_feels_40 : decode cX12_feels 40 = .ok (.getfield 7, 3) := by decide +kernel
theorem dX12_feels_43 : decode cX12_feels 43 = .ok (.iload_n 2, 1) := by decide +kernel
theorem dX12_feels_44 : decode cX12_feels 44 = .ok (.iaload, 1) := by decide +kernel
theorem dX12_feels_45 : decode cX12_feels 45 = .ok (.if_icmp .ne 7, 3) := by decide +kernel
theorem dX12_feels_48 : decode cX12_feels 48 = .ok (.iconst 1, 1) := by decide +kernel
theorem dX12_feels_49 : decode cX12_feels 49 = .ok (.goto 4, 3) := by decide +kernel
theorem dX12_feels_52 : decode cX12_feels 52 = .ok (.iconst 0, 1) := by decide +kernel
theorem dX12_feels_53 : decode cX12_feels 53 = .ok (.iadd, 1) := by decide +kernel
theorem dX12_feels_54 : decode cX12_feels 54 = .ok (.istore 4, 2) := by decide +kernel
theorem dX12_feels_56 : decode cX12_feels 56 = .ok (.iinc 5 1, 3) := by decide +kernel
theorem dX12_feels_59 : decode cX12_feels 59 = .ok (.goto (-53), 3) := by decide +kernel
theorem dX12_feels_62 : decode cX12_feels 62 = .ok (.iconst 0, 1) := by decide +kernel
theorem dX12_feels_63 : decode cX12_feels 63 = .ok (.istore 5, 2) := by decide +kernel
theorem dX12_feels_65 : decode cX12_feels 65 = .ok (.iconst 0, 1) := by decide +kernel
theorem dX12_feels_66 : decode cX12_feels 66 = .ok (.istore 6, 2) := by decide +kernel
theorem dX12_feels_68 : decode cX12_feels 68 = .ok (.iload 6, 2) := by decide +kernel
theorem dX12_feels_70 : decode cX12_feels 70 = .ok (.aload_n 0, 1) := by decide +kernel
theorem dX12_feels_71 : decode cX12_feels 71 = .ok (.getfield 193, 3) := by decide +kernel
theorem dX12_feels_74 : decode cX12_feels 74 = .ok (.if_icmp .ge 50, 3) := by decide +kernel
theorem dX12_feels_77 : decode cX12_feels 77 = .ok (.iload 5, 2) := by decide +kernel
theorem dX12_feels_79 : decode cX12_feels 79 = .ok (.aload_n 0, 1) := by decide +kernel
theorem dX12_feels_80 : decode cX12_feels 80 = .ok (.getfield 52, 3) := by decide +kernel
theorem dX12_feels_83 : decode cX12_feels 83 = .ok (.iload 6, 2) := by decide +kernel
theorem dX12_feels_85 : decode cX12_feels 85 = .ok (.iaload, 1) := by decide +kernel
theorem dX12_feels_86 : decode cX12_feels 86 = .ok (.aload_n 0, 1) := by decide +kernel
theorem dX12_feels_87 : decode cX12_feels 87 = .ok (.getfield 52, 3) := by decide +kernel
theorem dX12_feels_90 : decode cX12_feels 90 = .ok (.iload_n 1, 1) := by decide +kernel
theorem dX12_feels_91 : decode cX12_feels 91 = .ok (.iaload, 1) := by decide +kernel
theorem dX12_feels_92 : decode cX12_feels 92 = .ok (.if_icmp .ne 22, 3) := by decide +kernel
theorem dX12_feels_95 : decode cX12_feels 95 = .ok (.aload_n 0, 1) := by decide +kernel
theorem dX12_feels_96 : decode cX12_feels 96 = .ok (.getfield 70, 3) := by decide +kernel
theorem dX12_feels_99 : decode cX12_feels 99 = .ok (.bipush 32, 2) := by decide +kernel
theorem dX12_feels_101 : decode cX12_feels 101 = .ok (.iload 6, 2) := by decide +kernel
theorem dX12_feels_103 : decode cX12_feels 103 = .ok (.imul, 1) := by decide +kernel
theorem dX12_feels_104 : decode cX12_feels 104 = .ok (.iload_n 2, 1) := by decide +kernel
theorem dX12_feels_105 : decode cX12_feels 105 = .ok (.iadd, 1) := by decide +kernel
theorem dX12_feels_106 : decode cX12_feels 106 = .ok (.baload, 1) := by decide +kernel
theorem dX12_feels_107 : decode cX12_feels 107 = .ok (.ifCond .eq 7, 3) := by decide +kernel
theorem dX12_feels_110 : decode cX12_feels 110 = .ok (.iconst 1, 1) := by decide +kernel
theorem dX12_feels_111 : decode cX12_feels 111 = .ok (.goto 4, 3) := by decide +kernel
theorem dX12_feels_114 : decode cX12_feels 114 = .ok (.iconst 0, 1) := by decide +kernel
theorem dX12_feels_115 : decode cX12_feels 115 = .ok (.iadd, 1) := by decide +kernel
theorem dX12_feels_116 : decode cX12_feels 116 = .ok (.istore 5, 2) := by decide +kernel
theorem dX12_feels_118 : decode cX12_feels 118 = .ok (.iinc 6 1, 3) := by decide +kernel
theorem dX12_feels_121 : decode cX12_feels 121 = .ok (.goto (-53), 3) := by decide +kernel
theorem dX12_feels_124 : decode cX12_feels 124 = .ok (.aload_n 0, 1) := by decide +kernel
theorem dX12_feels_125 : decode cX12_feels 125 = .ok (.getfield 138, 3) := by decide +kernel
theorem dX12_feels_128 : decode cX12_feels 128 = .ok (.iconst 0, 1) := by decide +kernel
theorem dX12_feels_129 : decode cX12_feels 129 = .ok (.aload_n 0, 1) := by decide +kernel
theorem dX12_feels_130 : decode cX12_feels 130 = .ok (.getfield 58, 3) := by decide +kernel
theorem dX12_feels_133 : decode cX12_feels 133 = .ok (.bipush 8, 2) := by decide +kernel
theorem dX12_feels_135 : decode cX12_feels 135 = .ok (.iload_n 1, 1) := by decide +kernel
theorem dX12_feels_136 : decode cX12_feels 136 = .ok (.imul, 1) := by decide +kernel
theorem dX12_feels_137 : decode cX12_feels 137 = .ok (.aload_n 0, 1) := by decide +kernel
theorem dX12_feels_138 : decode cX12_feels 138 = .ok (.getfield 7, 3) := by decide +kernel
theorem dX12_feels_141 : decode cX12_feels 141 = .ok (.iload_n 2, 1) := by decide +kernel
theorem dX12_feels_142 : decode cX12_feels 142 = .ok (.iaload, 1) := by decide +kernel
theorem dX12_feels_143 : decode cX12_feels 143 = .ok (.iadd, 1) := by decide +kernel
theorem dX12_feels_144 : decode cX12_feels 144 = .ok (.iaload, 1) := by decide +kernel
theorem dX12_feels_145 : decode cX12_feels 145 = .ok (.iastore, 1) := by decide +kernel
theorem dX12_feels_146 : decode cX12_feels 146 = .ok (.aload_n 0, 1) := by decide +kernel
theorem dX12_feels_147 : decode cX12_feels 147 = .ok (.getfield 138, 3) := by decide +kernel
theorem dX12_feels_150 : decode cX12_feels 150 = .ok (.iconst 1, 1) := by decide +kernel
theorem dX12_feels_151 : decode cX12_feels 151 = .ok (.aload_n 0, 1) := by decide +kernel
theorem dX12_feels_152 : decode cX12_feels 152 = .ok (.getfield 7, 3) := by decide +kernel
theorem dX12_feels_155 : decode cX12_feels 155 = .ok (.iload_n 2, 1) := by decide +kernel
theorem dX12_feels_156 : decode cX12_feels 156 = .ok (.iaload, 1) := by decide +kernel
theorem dX12_feels_157 : decode cX12_feels 157 = .ok (.iastore, 1) := by decide +kernel
theorem dX12_feels_158 : decode cX12_feels 158 = .ok (.aload_n 0, 1) := by decide +kernel
theorem dX12_feels_159 : decode cX12_feels 159 = .ok (.getfield 138, 3) := by decide +kernel
theorem dX12_feels_162 : decode cX12_feels 162 = .ok (.iconst 2, 1) := by decide +kernel
theorem dX12_feels_163 : decode cX12_feels 163 = .ok (.aload_n 0, 1) := by decide +kernel
theorem dX12_feels_164 : decode cX12_feels 164 = .ok (.getfield 13, 3) := by decide +kernel
theorem dX12_feels_167 : decode cX12_feels 167 = .ok (.iload_n 2, 1) := by decide +kernel
theorem dX12_feels_168 : decode cX12_feels 168 = .ok (.iaload, 1) := by decide +kernel
theorem dX12_feels_169 : decode cX12_feels 169 = .ok (.iastore, 1) := by decide +kernel
theorem dX12_feels_170 : decode cX12_feels 170 = .ok (.aload_n 0, 1) := by decide +kernel
theorem dX12_feels_171 : decode cX12_feels 171 = .ok (.getfield 138, 3) := by decide +kernel
theorem dX12_feels_174 : decode cX12_feels 174 = .ok (.iconst 3, 1) := by decide +kernel
theorem dX12_feels_175 : decode cX12_feels 175 = .ok (.aload_n 0, 1) := by decide +kernel
theorem dX12_feels_176 : decode cX12_feels 176 = .ok (.getfield 16, 3) := by decide +kernel
theorem dX12_feels_179 : decode cX12_feels 179 = .ok (.iload_n 2, 1) := by decide +kernel
theorem dX12_feels_180 : decode cX12_feels 180 = .ok (.iaload, 1) := by decide +kernel
theorem dX12_feels_181 : decode cX12_feels 181 = .ok (.iastore, 1) := by decide +kernel
theorem dX12_feels_182 : decode cX12_feels 182 = .ok (.aload_n 0, 1) := by decide +kernel
theorem dX12_feels_183 : decode cX12_feels 183 = .ok (.getfield 138, 3) := by decide +kernel
theorem dX12_feels_186 : decode cX12_feels 186 = .ok (.iconst 4, 1) := by decide +kernel
theorem dX12_feels_187 : decode cX12_feels 187 = .ok (.aload_n 0, 1) := by decide +kernel
theorem dX12_feels_188 : decode cX12_feels 188 = .ok (.getfield 19, 3) := by decide +kernel
theorem dX12_feels_191 : decode cX12_feels 191 = .ok (.iload_n 2, 1) := by decide +kernel
theorem dX12_feels_192 : decode cX12_feels 192 = .ok (.iaload, 1) := by decide +kernel
theorem dX12_feels_193 : decode cX12_feels 193 = .ok (.iastore, 1) := by decide +kernel
theorem dX12_feels_194 : decode cX12_feels 194 = .ok (.aload_n 0, 1) := by decide +kernel
theorem dX12_feels_195 : decode cX12_feels 195 = .ok (.getfield 138, 3) := by decide +kernel
theorem dX12_feels_198 : decode cX12_feels 198 = .ok (.iconst 5, 1) := by decide +kernel
theorem dX12_feels_199 : decode cX12_feels 199 = .ok (.iload 4, 2) := by decide +kernel
theorem dX12_feels_201 : decode cX12_feels 201 = .ok (.iastore, 1) := by decide +kernel
theorem dX12_feels_202 : decode cX12_feels 202 = .ok (.aload_n 0, 1) := by decide +kernel
theorem dX12_feels_203 : decode cX12_feels 203 = .ok (.getfield 138, 3) := by decide +kernel
theorem dX12_feels_206 : decode cX12_feels 206 = .ok (.bipush 6, 2) := by decide +kernel
theorem dX12_feels_208 : decode cX12_feels 208 = .ok (.aload_n 0, 1) := by decide +kernel
theorem dX12_feels_209 : decode cX12_feels 209 = .ok (.iload_n 1, 1) := by decide +kernel
theorem dX12_feels_210 : decode cX12_feels 210 = .ok (.invokevirtual 328, 3) := by decide +kernel
theorem dX12_feels_213 : decode cX12_feels 213 = .ok (.iastore, 1) := by decide +kernel
theorem dX12_feels_214 : decode cX12_feels 214 = .ok (.aload_n 0, 1) := by decide +kernel
theorem dX12_feels_215 : decode cX12_feels 215 = .ok (.getfield 138, 3) := by decide +kernel
theorem dX12_feels_218 : decode cX12_feels 218 = .ok (.bipush 7, 2) := by decide +kernel
theorem dX12_feels_220 : decode cX12_feels 220 = .ok (.aload_n 0, 1) := by decide +kernel
theorem dX12_feels_221 : decode cX12_feels 221 = .ok (.getfield 52, 3) := by decide +kernel
theorem dX12_feels_224 : decode cX12_feels 224 = .ok (.iload_n 1, 1) := by decide +kernel
theorem dX12_feels_225 : decode cX12_feels 225 = .ok (.iaload, 1) := by decide +kernel
theorem dX12_feels_226 : decode cX12_feels 226 = .ok (.iastore, 1) := by decide +kernel
theorem dX12_feels_227 : decode cX12_feels 227 = .ok (.aload_n 0, 1) := by decide +kernel
theorem dX12_feels_228 : decode cX12_feels 228 = .ok (.getfield 138, 3) := by decide +kernel
theorem dX12_feels_231 : decode cX12_feels 231 = .ok (.bipush 8, 2) := by decide +kernel
theorem dX12_feels_233 : decode cX12_feels 233 = .ok (.iload_n 2, 1) := by decide +kernel
theorem dX12_feels_234 : decode cX12_feels 234 = .ok (.iastore, 1) := by decide +kernel
theorem dX12_feels_235 : decode cX12_feels 235 = .ok (.aload_n 0, 1) := by decide +kernel
theorem dX12_feels_236 : decode cX12_feels 236 = .ok (.getfield 138, 3) := by decide +kernel
theorem dX12_feels_239 : decode cX12_feels 239 = .ok (.bipush 9, 2) := by decide +kernel
theorem dX12_feels_241 : decode cX12_feels 241 = .ok (.aload_n 0, 1) := by decide +kernel
theorem dX12_feels_242 : decode cX12_feels 242 = .ok (.getfield 196, 3) := by decide +kernel
theorem dX12_feels_245 : decode cX12_feels 245 = .ok (.iastore, 1) := by decide +kernel
theorem dX12_feels_246 : decode cX12_feels 246 = .ok (.aload_n 0, 1) := by decide +kernel
theorem dX12_feels_247 : decode cX12_feels 247 = .ok (.getfield 138, 3) := by decide +kernel
theorem dX12_feels_250 : decode cX12_feels 250 = .ok (.bipush 10, 2) := by decide +kernel
theorem dX12_feels_252 : decode cX12_feels 252 = .ok (.iload_n 3, 1) := by decide +kernel
theorem dX12_feels_253 : decode cX12_feels 253 = .ok (.iastore, 1) := by decide +kernel
theorem dX12_feels_254 : decode cX12_feels 254 = .ok (.aload_n 0, 1) := by decide +kernel
theorem dX12_feels_255 : decode cX12_feels 255 = .ok (.getfield 138, 3) := by decide +kernel
theorem dX12_feels_258 : decode cX12_feels 258 = .ok (.bipush 11, 2) := by decide +kernel
theorem dX12_feels_260 : decode cX12_feels 260 = .ok (.iload 5, 2) := by decide +kernel
theorem dX12_feels_262 : decode cX12_feels 262 = .ok (.iastore, 1) := by decide +kernel
theorem dX12_feels_263 : decode cX12_feels 263 = .ok (.return_, 1) := by decide +kernel
theorem dX12_wantsBy_0 : decode cX12_wantsBy 0 = .ok (.aload_n 0, 1) := by decide +kernel
theorem dX12_wantsBy_1 : decode cX12_wantsBy 1 = .ok (.getfield 70, 3) := by decide +kernel
theorem dX12_wantsBy_4 : decode cX12_wantsBy 4 = .ok (.bipush 32, 2) := by decide +kernel
theorem dX12_wantsBy_6 : decode cX12_wantsBy 6 = .ok (.iload_n 1, 1) := by decide +kernel
theorem dX12_wantsBy_7 : decode cX12_wantsBy 7 = .ok (.imul, 1) := by decide +kernel
theorem dX12_wantsBy_8 : decode cX12_wantsBy 8 = .ok (.iload_n 2, 1) := by decide +kernel
theorem dX12_wantsBy_9 : decode cX12_wantsBy 9 = .ok (.iadd, 1) := by decide +kernel
theorem dX12_wantsBy_10 : decode cX12_wantsBy 10 = .ok (.baload, 1) := by decide +kernel
theorem dX12_wantsBy_11 : decode cX12_wantsBy 11 = .ok (.ifCond .eq 7, 3) := by decide +kernel
theorem dX12_wantsBy_14 : decode cX12_wantsBy 14 = .ok (.iload_n 3, 1) := by decide +kernel
theorem dX12_wantsBy_15 : decode cX12_wantsBy 15 = .ok (.ifCond .eq 27, 3) := by decide +kernel
theorem dX12_wantsBy_18 : decode cX12_wantsBy 18 = .ok (.aload_n 0, 1) := by decide +kernel
theorem dX12_wantsBy_19 : decode cX12_wantsBy 19 = .ok (.getfield 55, 3) := by decide +kernel
theorem dX12_wantsBy_22 : decode cX12_wantsBy 22 = .ok (.iload_n 1, 1) := by decide +kernel
theorem dX12_wantsBy_23 : decode cX12_wantsBy 23 = .ok (.iaload, 1) := by decide +kernel
theorem dX12_wantsBy_24 : decode cX12_wantsBy 24 = .ok (.ifCond .eq 20, 3) := by decide +kernel
theorem dX12_wantsBy_27 : decode cX12_wantsBy 27 = .ok (.aload_n 0, 1) := by decide +kernel
theorem dX12_wantsBy_28 : decode cX12_wantsBy 28 = .ok (.getfield 55, 3) := by decide +kernel
theorem dX12_wantsBy_31 : decode cX12_wantsBy 31 = .ok (.iload_n 1, 1) := by decide +kernel
theorem dX12_wantsBy_32 : decode cX12_wantsBy 32 = .ok (.iaload, 1) := by decide +kernel
theorem dX12_wantsBy_33 : decode cX12_wantsBy 33 = .ok (.aload_n 0, 1) := by decide +kernel
theorem dX12_wantsBy_34 : decode cX12_wantsBy 34 = .ok (.getfield 16, 3) := by decide +kernel
theorem dX12_wantsBy_37 : decode cX12_wantsBy 37 = .ok (.iload_n 2, 1) := by decide +kernel
theorem dX12_wantsBy_38 : decode cX12_wantsBy 38 = .ok (.iaload, 1) := by decide +kernel
theorem dX12_wantsBy_39 : decode cX12_wantsBy 39 = .ok (.if_icmp .eq 5, 3) := by decide +kernel
theorem dX12_wantsBy_42 : decode cX12_wantsBy 42 = .ok (.iconst 0, 1) := by decide +kernel
theorem dX12_wantsBy_43 : decode cX12_wantsBy 43 = .ok (.ireturn, 1) := by decide +kernel
theorem dX12_wantsBy_44 : decode cX12_wantsBy 44 = .ok (.aload_n 0, 1) := by decide +kernel
theorem dX12_wantsBy_45 : decode cX12_wantsBy 45 = .ok (.iload_n 1, 1) := by decide +kernel
theorem dX12_wantsBy_46 : decode cX12_wantsBy 46 = .ok (.iload_n 2, 1) := by decide +kernel
theorem dX12_wantsBy_47 : decode cX12_wantsBy 47 = .ok (.iconst 0, 1) := by decide +kernel
theorem dX12_wantsBy_48 : decode cX12_wantsBy 48 = .ok (.invokevirtual 331, 3) := by decide +kernel
theorem dX12_wantsBy_51 : decode cX12_wantsBy 51 = .ok (.aload_n 0, 1) := by decide +kernel
theorem dX12_wantsBy_52 : decode cX12_wantsBy 52 = .ok (.bipush 119, 2) := by decide +kernel
theorem dX12_wantsBy_54 : decode cX12_wantsBy 54 = .ok (.iconst 0, 1) := by decide +kernel
theorem dX12_wantsBy_55 : decode cX12_wantsBy 55 = .ok (.sipush 1000, 3) := by decide +kernel
theorem dX12_wantsBy_58 : decode cX12_wantsBy 58 = .ok (.iconst 0, 1) := by decide +kernel
theorem dX12_wantsBy_59 : decode cX12_wantsBy 59 = .ok (.invokevirtual 335, 3) := by decide +kernel
theorem dX12_wantsBy_62 : decode cX12_wantsBy 62 = .ok (.ireturn, 1) := by decide +kernel
theorem dX12_wants_0 : decode cX12_wants 0 = .ok (.aload_n 0, 1) := by decide +kernel
theorem dX12_wants_1 : decode cX12_wants 1 = .ok (.iload_n 1, 1) := by decide +kernel
theorem dX12_wants_2 : decode cX12_wants 2 = .ok (.invokevirtual 214, 3) := by decide +kernel
theorem dX12_wants_5 : decode cX12_wants 5 = .ok (.ifCond .eq 21, 3) := by decide +kernel
theorem dX12_wants_8 : decode cX12_wants 8 = .ok (.aload_n 0, 1) := by decide +kernel
theorem dX12_wants_9 : decode cX12_wants 9 = .ok (.iload_n 2, 1) := by decide +kernel
theorem dX12_wants_10 : decode cX12_wants 10 = .ok (.invokevirtual 217, 3) := by decide +kernel
theorem dX12_wants_13 : decode cX12_wants 13 = .ok (.ifCond .eq 13, 3) := by decide +kernel
theorem dX12_wants_16 : decode cX12_wants 16 = .ok (.aload_n 0, 1) := by decide +kernel
theorem dX12_wants_17 : decode cX12_wants 17 = .ok (.iload_n 1, 1) := by decide +kernel
theorem dX12_wants_18 : decode cX12_wants 18 = .ok (.iload_n 2, 1) := by decide +kernel
theorem dX12_wants_19 : decode cX12_wants 19 = .ok (.iload_n 3, 1) := by decide +kernel
theorem dX12_wants_20 : decode cX12_wants 20 = .ok (.invokevirtual 339, 3) := by decide +kernel
theorem dX12_wants_23 : decode cX12_wants 23 = .ok (.goto 4, 3) := by decide +kernel
theorem dX12_wants_26 : decode cX12_wants 26 = .ok (.iconst (-1), 1) := by decide +kernel
theorem dX12_wants_27 : decode cX12_wants 27 = .ok (.ireturn, 1) := by decide +kernel
theorem dX12_putAt_0 : decode cX12_putAt 0 = .ok (.sipush 2000, 3) := by decide +kernel
theorem dX12_putAt_3 : decode cX12_putAt 3 = .ok (.iload_n 0, 1) := by decide +kernel
theorem dX12_putAt_4 : decode cX12_putAt 4 = .ok (.imul, 1) := by decide +kernel
theorem dX12_putAt_5 : decode cX12_putAt 5 = .ok (.bipush 10, 2) := by decide +kernel
theorem dX12_putAt_7 : decode cX12_putAt 7 = .ok (.iload_n 1, 1) := by decide +kernel
theorem dX12_putAt_8 : decode cX12_putAt 8 = .ok (.imul, 1) := by decide +kernel
theorem dX12_putAt_9 : decode cX12_putAt 9 = .ok (.iadd, 1) := by decide +kernel
theorem dX12_putAt_10 : decode cX12_putAt 10 = .ok (.iload_n 2, 1) := by decide +kernel
theorem dX12_putAt_11 : decode cX12_putAt 11 = .ok (.iadd, 1) := by decide +kernel
theorem dX12_putAt_12 : decode cX12_putAt 12 = .ok (.ireturn, 1) := by decide +kernel
theorem dX12_isVisited_0 : decode cX12_isVisited 0 = .ok (.aload_n 0, 1) := by decide +kernel
theorem dX12_isVisited_1 : decode cX12_isVisited 1 = .ok (.getfield 74, 3) := by decide +kernel
theorem dX12_isVisited_4 : decode cX12_isVisited 4 = .ok (.sipush 200, 3) := by decide +kernel
theorem dX12_isVisited_7 : decode cX12_isVisited 7 = .ok (.iload_n 1, 1) := by decide +kernel
theorem dX12_isVisited_8 : decode cX12_isVisited 8 = .ok (.imul, 1) := by decide +kernel
theorem dX12_isVisited_9 : decode cX12_isVisited 9 = .ok (.iload_n 3, 1) := by decide +kernel
theorem dX12_isVisited_10 : decode cX12_isVisited 10 = .ok (.iadd, 1) := by decide +kernel
theorem dX12_isVisited_11 : decode cX12_isVisited 11 = .ok (.baload, 1) := by decide +kernel
theorem dX12_isVisited_12 : decode cX12_isVisited 12 = .ok (.ifCond .eq 5, 3) := by decide +kernel
theorem dX12_isVisited_15 : decode cX12_isVisited 15 = .ok (.iconst 0, 1) := by decide +kernel
theorem dX12_isVisited_16 : decode cX12_isVisited 16 = .ok (.ireturn, 1) := by decide +kernel
theorem dX12_isVisited_17 : decode cX12_isVisited 17 = .ok (.aload_n 0, 1) := by decide +kernel
theorem dX12_isVisited_18 : decode cX12_isVisited 18 = .ok (.getfield 46, 3) := by decide +kernel
theorem dX12_isVisited_21 : decode cX12_isVisited 21 = .ok (.iload_n 2, 1) := by decide +kernel
theorem dX12_isVisited_22 : decode cX12_isVisited 22 = .ok (.iaload, 1) := by decide +kernel
theorem dX12_isVisited_23 : decode cX12_isVisited 23 = .ok (.iload_n 1, 1) := by decide +kernel
theorem dX12_isVisited_24 : decode cX12_isVisited 24 = .ok (.if_icmp .ne 16, 3) := by decide +kernel
theorem dX12_isVisited_27 : decode cX12_isVisited 27 = .ok (.iload_n 3, 1) := by decide +kernel
theorem dX12_isVisited_28 : decode cX12_isVisited 28 = .ok (.bipush 14, 2) := by decide +kernel
theorem dX12_isVisited_30 : decode cX12_isVisited 30 = .ok (.irem, 1) := by decide +kernel
theorem dX12_isVisited_31 : decode cX12_isVisited 31 = .ok (.aload_n 0, 1) := by decide +kernel
theorem dX12_isVisited_32 : decode cX12_isVisited 32 = .ok (.getfield 49, 3) := by decide +kernel
theorem dX12_isVisited_35 : decode cX12_isVisited 35 = .ok (.iload_n 2, 1) := by decide +kernel
theorem dX12_isVisited_36 : decode cX12_isVisited 36 = .ok (.iaload, 1) := by decide +kernel
theorem dX12_isVisited_37 : decode cX12_isVisited 37 = .ok (.if_icmp .eq 17, 3) := by decide +kernel
theorem dX12_isVisited_40 : decode cX12_isVisited 40 = .ok (.aload_n 0, 1) := by decide +kernel
theorem dX12_isVisited_41 : decode cX12_isVisited 41 = .ok (.getfield 77, 3) := by decide +kernel
theorem dX12_isVisited_44 : decode cX12_isVisited 44 = .ok (.iload_n 1, 1) := by decide +kernel
theorem dX12_isVisited_45 : decode cX12_isVisited 45 = .ok (.iload_n 3, 1) := by decide +kernel
theorem dX12_isVisited_46 : decode cX12_isVisited 46 = .ok (.iload_n 2, 1) := by decide +kernel
theorem dX12_isVisited_47 : decode cX12_isVisited 47 = .ok (.invokestatic 343, 3) := by decide +kernel
theorem dX12_isVisited_50 : decode cX12_isVisited 50 = .ok (.baload, 1) := by decide +kernel
theorem dX12_isVisited_51 : decode cX12_isVisited 51 = .ok (.ifCond .eq 7, 3) := by decide +kernel
theorem dX12_isVisited_54 : decode cX12_isVisited 54 = .ok (.iconst 1, 1) := by decide +kernel
theorem dX12_isVisited_55 : decode cX12_isVisited 55 = .ok (.goto 4, 3) := by decide +kernel
theorem dX12_isVisited_58 : decode cX12_isVisited 58 = .ok (.iconst 0, 1) := by decide +kernel
theorem dX12_isVisited_59 : decode cX12_isVisited 59 = .ok (.ireturn, 1) := by decide +kernel
theorem dX12_isVisitedByAny_0 : decode cX12_isVisitedByAny 0 = .ok (.iconst 0, 1) := by decide +kernel
theorem dX12_isVisitedByAny_1 : decode cX12_isVisitedByAny 1 = .ok (.istore_n 3, 1) := by decide +kernel
theorem dX12_isVisitedByAny_2 : decode cX12_isVisitedByAny 2 = .ok (.iload_n 3, 1) := by decide +kernel
theorem dX12_isVisitedByAny_3 : decode cX12_isVisitedByAny 3 = .ok (.iconst 3, 1) := by decide +kernel
theorem dX12_isVisitedByAny_4 : decode cX12_isVisitedByAny 4 = .ok (.if_icmp .ge 21, 3) := by decide +kernel
theorem dX12_isVisitedByAny_7 : decode cX12_isVisitedByAny 7 = .ok (.aload_n 0, 1) := by decide +kernel
theorem dX12_isVisitedByAny_8 : decode cX12_isVisitedByAny 8 = .ok (.iload_n 3, 1) := by decide +kernel
theorem dX12_isVisitedByAny_9 : decode cX12_isVisitedByAny 9 = .ok (.iload_n 1, 1) := by decide +kernel
theorem dX12_isVisitedByAny_10 : decode cX12_isVisitedByAny 10 = .ok (.iload_n 2, 1) := by decide +kernel
theorem dX12_isVisitedByAny_11 : decode cX12_isVisitedByAny 11 = .ok (.invokevirtual 346, 3) := by decide +kernel
theorem dX12_isVisitedByAny_14 : decode cX12_isVisitedByAny 14 = .ok (.ifCond .eq 5, 3) := by decide +kernel
theorem dX12_isVisitedByAny_17 : decode cX12_isVisitedByAny 17 = .ok (.iconst 1, 1) := by decide +kernel
theorem dX12_isVisitedByAny_18 : decode cX12_isVisitedByAny 18 = .ok (.ireturn, 1) := by decide +kernel
theorem dX12_isVisitedByAny_19 : decode cX12_isVisitedByAny 19 = .ok (.iinc 3 1, 3) := by decide +kernel
theorem dX12_isVisitedByAny_22 : decode cX12_isVisitedByAny 22 = .ok (.goto (-20), 3) := by decide +kernel
theorem dX12_isVisitedByAny_25 : decode cX12_isVisitedByAny 25 = .ok (.iconst 0, 1) := by decide +kernel
theorem dX12_isVisitedByAny_26 : decode cX12_isVisitedByAny 26 = .ok (.ireturn, 1) := by decide +kernel
theorem dX12_visits_0 : decode cX12_visits 0 = .ok (.iload_n 1, 1) := by decide +kernel
theorem dX12_visits_1 : decode cX12_visits 1 = .ok (.invokestatic 203, 3) := by decide +kernel
theorem dX12_visits_4 : decode cX12_visits 4 = .ok (.ifCond .eq 18, 3) := by decide +kernel
theorem dX12_visits_7 : decode cX12_visits 7 = .ok (.aload_n 0, 1) := by decide +kernel
theorem dX12_visits_8 : decode cX12_visits 8 = .ok (.iload_n 2, 1) := by decide +kernel
theorem dX12_visits_9 : decode cX12_visits 9 = .ok (.invokevirtual 211, 3) := by decide +kernel
theorem dX12_visits_12 : decode cX12_visits 12 = .ok (.ifCond .eq 10, 3) := by decide +kernel
theorem dX12_visits_15 : decode cX12_visits 15 = .ok (.iload_n 3, 1) := by decide +kernel
theorem dX12_visits_16 : decode cX12_visits 16 = .ok (.invokestatic 349, 3) := by decide +kernel
theorem dX12_visits_19 : decode cX12_visits 19 = .ok (.ifCond .ne 7, 3) := by decide +kernel
theorem dX12_visits_22 : decode cX12_visits 22 = .ok (.iconst (-1), 1) := by decide +kernel
theorem dX12_visits_23 : decode cX12_visits 23 = .ok (.goto 18, 3) := by decide +kernel
theorem dX12_visits_26 : decode cX12_visits 26 = .ok (.aload_n 0, 1) := by decide +kernel
theorem dX12_visits_27 : decode cX12_visits 27 = .ok (.iload_n 1, 1) := by decide +kernel
theorem dX12_visits_28 : decode cX12_visits 28 = .ok (.iload_n 2, 1) := by decide +kernel
theorem dX12_visits_29 : decode cX12_visits 29 = .ok (.iload_n 3, 1) := by decide +kernel
theorem dX12_visits_30 : decode cX12_visits 30 = .ok (.invokevirtual 346, 3) := by decide +kernel
theorem dX12_visits_33 : decode cX12_visits 33 = .ok (.ifCond .eq 7, 3) := by decide +kernel
theorem dX12_visits_36 : decode cX12_visits 36 = .ok (.iconst 1, 1) := by decide +kernel
theorem dX12_visits_37 : decode cX12_visits 37 = .ok (.goto 4, 3) := by decide +kernel
theorem dX12_visits_40 : decode cX12_visits 40 = .ok (.iconst 0, 1) := by decide +kernel
theorem dX12_visits_41 : decode cX12_visits 41 = .ok (.ireturn, 1) := by decide +kernel
theorem dX12_logs_0 : decode cX12_logs 0 = .ok (.aload_n 0, 1) := by decide +kernel
theorem dX12_logs_1 : decode cX12_logs 1 = .ok (.getfield 141, 3) := by decide +kernel
theorem dX12_logs_4 : decode cX12_logs 4 = .ok (.aload_n 0, 1) := by decide +kernel
theorem dX12_logs_5 : decode cX12_logs 5 = .ok (.getfield 352, 3) := by decide +kernel
theorem dX12_logs_8 : decode cX12_logs 8 = .ok (.iload_n 1, 1) := by decide +kernel
theorem dX12_logs_9 : decode cX12_logs 9 = .ok (.iastore, 1) := by decide +kernel
theorem dX12_logs_10 : decode cX12_logs 10 = .ok (.aload_n 0, 1) := by decide +kernel
theorem dX12_logs_11 : decode cX12_logs 11 = .ok (.getfield 144, 3) := by decide +kernel
theorem dX12_logs_14 : decode cX12_logs 14 = .ok (.aload_n 0, 1) := by decide +kernel
theorem dX12_logs_15 : decode cX12_logs 15 = .ok (.getfield 352, 3) := by decide +kernel
theorem dX12_logs_18 : decode cX12_logs 18 = .ok (.aload_n 0, 1) := by decide +kernel
theorem dX12_logs_19 : decode cX12_logs 19 = .ok (.getfield 196, 3) := by decide +kernel
theorem dX12_logs_22 : decode cX12_logs 22 = .ok (.iastore, 1) := by decide +kernel
theorem dX12_logs_23 : decode cX12_logs 23 = .ok (.aload_n 0, 1) := by decide +kernel
theorem dX12_logs_24 : decode cX12_logs 24 = .ok (.getfield 147, 3) := by decide +kernel
theorem dX12_logs_27 : decode cX12_logs 27 = .ok (.aload_n 0, 1) := by decide +kernel
theorem dX12_logs_28 : decode cX12_logs 28 = .ok (.getfield 352, 3) := by decide +kernel
theorem dX12_logs_31 : decode cX12_logs 31 = .ok (.aload_n 0, 1) := by decide +kernel
theorem dX12_logs_32 : decode cX12_logs 32 = .ok (.getfield 196, 3) := by decide +kernel
theorem dX12_logs_35 : decode cX12_logs 35 = .ok (.aload_n 0, 1) := by decide +kernel
theorem dX12_logs_36 : decode cX12_logs 36 = .ok (.getfield 355, 3) := by decide +kernel
theorem dX12_logs_39 : decode cX12_logs 39 = .ok (.iadd, 1) := by decide +kernel
theorem dX12_logs_40 : decode cX12_logs 40 = .ok (.iastore, 1) := by decide +kernel
theorem dX12_logs_41 : decode cX12_logs 41 = .ok (.aload_n 0, 1) := by decide +kernel
theorem dX12_logs_42 : decode cX12_logs 42 = .ok (.getfield 150, 3) := by decide +kernel
theorem dX12_logs_45 : decode cX12_logs 45 = .ok (.aload_n 0, 1) := by decide +kernel
theorem dX12_logs_46 : decode cX12_logs 46 = .ok (.getfield 352, 3) := by decide +kernel
theorem dX12_logs_49 : decode cX12_logs 49 = .ok (.iload_n 2, 1) := by decide +kernel
theorem dX12_logs_50 : decode cX12_logs 50 = .ok (.iastore, 1) := by decide +kernel
theorem dX12_logs_51 : decode cX12_logs 51 = .ok (.aload_n 0, 1) := by decide +kernel
theorem dX12_logs_52 : decode cX12_logs 52 = .ok (.aload_n 0, 1) := by decide +kernel
theorem dX12_logs_53 : decode cX12_logs 53 = .ok (.getfield 352, 3) := by decide +kernel
theorem dX12_logs_56 : decode cX12_logs 56 = .ok (.iconst 1, 1) := by decide +kernel
theorem dX12_logs_57 : decode cX12_logs 57 = .ok (.iadd, 1) := by decide +kernel
theorem dX12_logs_58 : decode cX12_logs 58 = .ok (.putfield 352, 3) := by decide +kernel
theorem dX12_logs_61 : decode cX12_logs 61 = .ok (.aload_n 0, 1) := by decide +kernel
theorem dX12_logs_62 : decode cX12_logs 62 = .ok (.getfield 22, 3) := by decide +kernel
theorem dX12_logs_65 : decode cX12_logs 65 = .ok (.iload_n 1, 1) := by decide +kernel
theorem dX12_logs_66 : decode cX12_logs 66 = .ok (.iload_n 2, 1) := by decide +kernel
theorem dX12_logs_67 : decode cX12_logs 67 = .ok (.iastore, 1) := by decide +kernel
theorem dX12_logs_68 : decode cX12_logs 68 = .ok (.return_, 1) := by decide +kernel
theorem dX12_fits_0 : decode cX12_fits 0 = .ok (.aload_n 0, 1) := by decide +kernel
theorem dX12_fits_1 : decode cX12_fits 1 = .ok (.iload_n 2, 1) := by decide +kernel
theorem dX12_fits_2 : decode cX12_fits 2 = .ok (.invokevirtual 207, 3) := by decide +kernel
theorem dX12_fits_5 : decode cX12_fits 5 = .ok (.aload_n 0, 1) := by decide +kernel
theorem dX12_fits_6 : decode cX12_fits 6 = .ok (.getfield 13, 3) := by decide +kernel
theorem dX12_fits_9 : decode cX12_fits 9 = .ok (.iload_n 1, 1) := by decide +kernel
theorem dX12_fits_10 : decode cX12_fits 10 = .ok (.iaload, 1) := by decide +kernel
theorem dX12_fits_11 : decode cX12_fits 11 = .ok (.iadd, 1) := by decide +kernel
theorem dX12_fits_12 : decode cX12_fits 12 = .ok (.aload_n 0, 1) := by decide +kernel
theorem dX12_fits_13 : decode cX12_fits 13 = .ok (.getfield 34, 3) := by decide +kernel
theorem dX12_fits_16 : decode cX12_fits 16 = .ok (.iload_n 2, 1) := by decide +kernel
theorem dX12_fits_17 : decode cX12_fits 17 = .ok (.iaload, 1) := by decide +kernel
theorem dX12_fits_18 : decode cX12_fits 18 = .ok (.if_icmp .gt 7, 3) := by decide +kernel
theorem dX12_fits_21 : decode cX12_fits 21 = .ok (.iconst 1, 1) := by decide +kernel
theorem dX12_fits_22 : decode cX12_fits 22 = .ok (.goto 4, 3) := by decide +kernel
theorem dX12_fits_25 : decode cX12_fits 25 = .ok (.iconst 0, 1) := by decide +kernel
theorem dX12_fits_26 : decode cX12_fits 26 = .ok (.ireturn, 1) := by decide +kernel
theorem dX12_move_0 : decode cX12_move 0 = .ok (.aload_n 0, 1) := by decide +kernel
theorem dX12_move_1 : decode cX12_move 1 = .ok (.iload_n 1, 1) := by decide +kernel
theorem dX12_move_2 : decode cX12_move 2 = .ok (.invokevirtual 217, 3) := by decide +kernel
theorem dX12_move_5 : decode cX12_move 5 = .ok (.ifCond .eq 62, 3) := by decide +kernel
theorem dX12_move_8 : decode cX12_move 8 = .ok (.iload_n 2, 1) := by decide +kernel
theorem dX12_move_9 : decode cX12_move 9 = .ok (.iconst (-1), 1) := by decide +kernel
theorem dX12_move_10 : decode cX12_move 10 = .ok (.if_icmp .eq 10, 3) := by decide +kernel
theorem dX12_move_13 : decode cX12_move 13 = .ok (.iload_n 2, 1) := by decide +kernel
theorem dX12_move_14 : decode cX12_move 14 = .ok (.invokestatic 203, 3) := by decide +kernel
theorem dX12_move_17 : decode cX12_move 17 = .ok (.ifCond .eq 50, 3) := by decide +kernel
theorem dX12_move_20 : decode cX12_move 20 = .ok (.aload_n 0, 1) := by decide +kernel
theorem dX12_move_21 : decode cX12_move 21 = .ok (.getfield 22, 3) := by decide +kernel
theorem dX12_move_24 : decode cX12_move 24 = .ok (.iload_n 1, 1) := by decide +kernel
theorem dX12_move_25 : decode cX12_move 25 = .ok (.iaload, 1) := by decide +kernel
theorem dX12_move_26 : decode cX12_move 26 = .ok (.bipush 10, 2) := by decide +kernel
theorem dX12_move_28 : decode cX12_move 28 = .ok (.if_icmp .ge 39, 3) := by decide +kernel
theorem dX12_move_31 : decode cX12_move 31 = .ok (.aload_n 0, 1) := by decide +kernel
theorem dX12_move_32 : decode cX12_move 32 = .ok (.getfield 22, 3) := by decide +kernel
theorem dX12_move_35 : decode cX12_move 35 = .ok (.iload_n 1, 1) := by decide +kernel
theorem dX12_move_36 : decode cX12_move 36 = .ok (.iaload, 1) := by decide +kernel
theorem dX12_move_37 : decode cX12_move 37 = .ok (.iconst 1, 1) := by decide +kernel
theorem dX12_move_38 : decode cX12_move 38 = .ok (.iload_n 2, 1) := by decide +kernel
theorem dX12_move_39 : decode cX12_move 39 = .ok (.iadd, 1) := by decide +kernel
theorem dX12_move_40 : decode cX12_move 40 = .ok (.if_icmp .eq 27, 3) := by decide +kernel
theorem dX12_move_43 : decode cX12_move 43 = .ok (.iload_n 2, 1) := by decide +kernel
theorem dX12_move_44 : decode cX12_move 44 = .ok (.iconst (-1), 1) := by decide +kernel
theorem dX12_move_45 : decode cX12_move 45 = .ok (.if_icmp .eq 12, 3) := by decide +kernel
theorem dX12_move_48 : decode cX12_move 48 = .ok (.aload_n 0, 1) := by decide +kernel
theorem dX12_move_49 : decode cX12_move 49 = .ok (.iload_n 1, 1) := by decide +kernel
theorem dX12_move_50 : decode cX12_move 50 = .ok (.iload_n 2, 1) := by decide +kernel
theorem dX12_move_51 : decode cX12_move 51 = .ok (.invokevirtual 358, 3) := by decide +kernel
theorem dX12_move_54 : decode cX12_move 54 = .ok (.ifCond .eq 13, 3) := by decide +kernel
theorem dX12_move_57 : decode cX12_move 57 = .ok (.aload_n 0, 1) := by decide +kernel
theorem dX12_move_58 : decode cX12_move 58 = .ok (.getfield 352, 3) := by decide +kernel
theorem dX12_move_61 : decode cX12_move 61 = .ok (.sipush 200, 3) := by decide +kernel
theorem dX12_move_64 : decode cX12_move 64 = .ok (.if_icmp .ne 5, 3) := by decide +kernel
theorem dX12_move_67 : decode cX12_move 67 = .ok (.iconst 0, 1) := by decide +kernel
theorem dX12_move_68 : decode cX12_move 68 = .ok (.ireturn, 1) := by decide +kernel
theorem dX12_move_69 : decode cX12_move 69 = .ok (.aload_n 0, 1) := by decide +kernel
theorem dX12_move_70 : decode cX12_move 70 = .ok (.iload_n 1, 1) := by decide +kernel
theorem dX12_move_71 : decode cX12_move 71 = .ok (.iconst 1, 1) := by decide +kernel
theorem dX12_move_72 : decode cX12_move 72 = .ok (.iload_n 2, 1) := by decide +kernel
theorem dX12_move_73 : decode cX12_move 73 = .ok (.iadd, 1) := by decide +kernel
theorem dX12_move_74 : decode cX12_move 74 = .ok (.invokevirtual 361, 3) := by decide +kernel
theorem dX12_move_77 : decode cX12_move 77 = .ok (.iconst 1, 1) := by decide +kernel
theorem dX12_move_78 : decode cX12_move 78 = .ok (.ireturn, 1) := by decide +kernel
theorem dX12_lend_0 : decode cX12_lend 0 = .ok (.aload_n 0, 1) := by decide +kernel
theorem dX12_lend_1 : decode cX12_lend 1 = .ok (.iload_n 1, 1) := by decide +kernel
theorem dX12_lend_2 : decode cX12_lend 2 = .ok (.invokevirtual 217, 3) := by decide +kernel
theorem dX12_lend_5 : decode cX12_lend 5 = .ok (.ifCond .eq 60, 3) := by decide +kernel
theorem dX12_lend_8 : decode cX12_lend 8 = .ok (.aload_n 0, 1) := by decide +kernel
theorem dX12_lend_9 : decode cX12_lend 9 = .ok (.iload_n 2, 1) := by decide +kernel
theorem dX12_lend_10 : decode cX12_lend 10 = .ok (.invokevirtual 214, 3) := by decide +kernel
theorem dX12_lend_13 : decode cX12_lend 13 = .ok (.ifCond .eq 52, 3) := by decide +kernel
theorem dX12_lend_16 : decode cX12_lend 16 = .ok (.aload_n 0, 1) := by decide +kernel
theorem dX12_lend_17 : decode cX12_lend 17 = .ok (.getfield 22, 3) := by decide +kernel
theorem dX12_lend_20 : decode cX12_lend 20 = .ok (.iload_n 1, 1) := by decide +kernel
theorem dX12_lend_21 : decode cX12_lend 21 = .ok (.iaload, 1) := by decide +kernel
theorem dX12_lend_22 : decode cX12_lend 22 = .ok (.iconst 1, 1) := by decide +kernel
theorem dX12_lend_23 : decode cX12_lend 23 = .ok (.iconst 3, 1) := by decide +kernel
theorem dX12_lend_24 : decode cX12_lend 24 = .ok (.invokestatic 199, 3) := by decide +kernel
theorem dX12_lend_27 : decode cX12_lend 27 = .ok (.ifCond .eq 38, 3) := by decide +kernel
theorem dX12_lend_30 : decode cX12_lend 30 = .ok (.aload_n 0, 1) := by decide +kernel
theorem dX12_lend_31 : decode cX12_lend 31 = .ok (.aload_n 0, 1) := by decide +kernel
theorem dX12_lend_32 : decode cX12_lend 32 = .ok (.getfield 22, 3) := by decide +kernel
theorem dX12_lend_35 : decode cX12_lend 35 = .ok (.iload_n 1, 1) := by decide +kernel
theorem dX12_lend_36 : decode cX12_lend 36 = .ok (.iaload, 1) := by decide +kernel
theorem dX12_lend_37 : decode cX12_lend 37 = .ok (.iconst 1, 1) := by decide +kernel
theorem dX12_lend_38 : decode cX12_lend 38 = .ok (.isub, 1) := by decide +kernel
theorem dX12_lend_39 : decode cX12_lend 39 = .ok (.aload_n 0, 1) := by decide +kernel
theorem dX12_lend_40 : decode cX12_lend 40 = .ok (.getfield 52, 3) := by decide +kernel
theorem dX12_lend_43 : decode cX12_lend 43 = .ok (.iload_n 2, 1) := by decide +kernel
theorem dX12_lend_44 : decode cX12_lend 44 = .ok (.iaload, 1) := by decide +kernel
theorem dX12_lend_45 : decode cX12_lend 45 = .ok (.aload_n 0, 1) := by decide +kernel
theorem dX12_lend_46 : decode cX12_lend 46 = .ok (.getfield 196, 3) := by decide +kernel
theorem dX12_lend_49 : decode cX12_lend 49 = .ok (.invokevirtual 346, 3) := by decide +kernel
theorem dX12_lend_52 : decode cX12_lend 52 = .ok (.ifCond .eq 13, 3) := by decide +kernel
theorem dX12_lend_55 : decode cX12_lend 55 = .ok (.aload_n 0, 1) := by decide +kernel
theorem dX12_lend_56 : decode cX12_lend 56 = .ok (.getfield 352, 3) := by decide +kernel
theorem dX12_lend_59 : decode cX12_lend 59 = .ok (.sipush 200, 3) := by decide +kernel
theorem dX12_lend_62 : decode cX12_lend 62 = .ok (.if_icmp .ne 5, 3) := by decide +kernel
theorem dX12_lend_65 : decode cX12_lend 65 = .ok (.iconst (-1), 1) := by decide +kernel
theorem dX12_lend_66 : decode cX12_lend 66 = .ok (.ireturn, 1) := by decide +kernel
theorem dX12_lend_67 : decode cX12_lend 67 = .ok (.aload_n 0, 1) := by decide +kernel
theorem dX12_lend_68 : decode cX12_lend 68 = .ok (.getfield 22, 3) := by decide +kernel
theorem dX12_lend_71 : decode cX12_lend 71 = .ok (.iload_n 1, 1) := by decide +kernel
theorem dX12_lend_72 : decode cX12_lend 72 = .ok (.iaload, 1) := by decide +kernel
theorem dX12_lend_73 : decode cX12_lend 73 = .ok (.iconst 1, 1) := by decide +kernel
theorem dX12_lend_74 : decode cX12_lend 74 = .ok (.isub, 1) := by decide +kernel
theorem dX12_lend_75 : decode cX12_lend 75 = .ok (.istore_n 3, 1) := by decide +kernel
theorem dX12_lend_76 : decode cX12_lend 76 = .ok (.aload_n 0, 1) := by decide +kernel
theorem dX12_lend_77 : decode cX12_lend 77 = .ok (.iload_n 2, 1) := by decide +kernel
theorem dX12_lend_78 : decode cX12_lend 78 = .ok (.iload_n 1, 1) := by decide +kernel
theorem dX12_lend_79 : decode cX12_lend 79 = .ok (.iconst 0, 1) := by decide +kernel
theorem dX12_lend_80 : decode cX12_lend 80 = .ok (.invokevirtual 331, 3) := by decide +kernel
theorem dX12_lend_83 : decode cX12_lend 83 = .ok (.aload_n 0, 1) := by decide +kernel
theorem dX12_lend_84 : decode cX12_lend 84 = .ok (.getfield 25, 3) := by decide +kernel
theorem dX12_lend_87 : decode cX12_lend 87 = .ok (.iload_n 1, 1) := by decide +kernel
theorem dX12_lend_88 : decode cX12_lend 88 = .ok (.aload_n 0, 1) := by decide +kernel
theorem dX12_lend_89 : decode cX12_lend 89 = .ok (.getfield 196, 3) := by decide +kernel
theorem dX12_lend_92 : decode cX12_lend 92 = .ok (.aload_n 0, 1) := by decide +kernel
theorem dX12_lend_93 : decode cX12_lend 93 = .ok (.bipush 100, 2) := by decide +kernel
theorem dX12_lend_95 : decode cX12_lend 95 = .ok (.iconst 1, 1) := by decide +kernel
theorem dX12_lend_96 : decode cX12_lend 96 = .ok (.bipush 60, 2) := by decide +kernel
theorem dX12_lend_98 : decode cX12_lend 98 = .ok (.bipush 14, 2) := by decide +kernel
theorem dX12_lend_100 : decode cX12_lend 100 = .ok (.invokevirtual 335, 3) := by decide +kernel
theorem dX12_lend_103 : decode cX12_lend 103 = .ok (.iadd, 1) := by decide +kernel
theorem dX12_lend_104 : decode cX12_lend 104 = .ok (.iastore, 1) := by decide +kernel
theorem dX12_lend_105 : decode cX12_lend 105 = .ok (.aload_n 0, 1) := by decide +kernel
theorem dX12_lend_106 : decode cX12_lend 106 = .ok (.iload_n 1, 1) := by decide +kernel
theorem dX12_lend_107 : decode cX12_lend 107 = .ok (.bipush 10, 2) := by decide +kernel
theorem dX12_lend_109 : decode cX12_lend 109 = .ok (.iload_n 2, 1) := by decide +kernel
theorem dX12_lend_110 : decode cX12_lend 110 = .ok (.iadd, 1) := by decide +kernel
theorem dX12_lend_111 : decode cX12_lend 111 = .ok (.invokevirtual 361, 3) := by decide +kernel
theorem dX12_lend_114 : decode cX12_lend 114 = .ok (.aload_n 0, 1) := by decide +kernel
theorem dX12_lend_115 : decode cX12_lend 115 = .ok (.getfield 70, 3) := by decide +kernel
theorem dX12_lend_118 : decode cX12_lend 118 = .ok (.bipush 32, 2) := by decide +kernel
theorem dX12_lend_120 : decode cX12_lend 120 = .ok (.iload_n 2, 1) := by decide +kernel
theorem dX12_lend_121 : decode cX12_lend 121 = .ok (.imul, 1) := by decide +kernel
theorem dX12_lend_122 : decode cX12_lend 122 = .ok (.iload_n 1, 1) := by decide +kernel
theorem dX12_lend_123 : decode cX12_lend 123 = .ok (.iadd, 1) := by decide +kernel
theorem dX12_lend_124 : decode cX12_lend 124 = .ok (.iconst 1, 1) := by decide +kernel
theorem dX12_lend_125 : decode cX12_lend 125 = .ok (.bastore, 1) := by decide +kernel
theorem dX12_lend_126 : decode cX12_lend 126 = .ok (.aload_n 0, 1) := by decide +kernel
theorem dX12_lend_127 : decode cX12_lend 127 = .ok (.getfield 67, 3) := by decide +kernel
theorem dX12_lend_130 : decode cX12_lend 130 = .ok (.bipush 32, 2) := by decide +kernel
theorem dX12_lend_132 : decode cX12_lend 132 = .ok (.iload_n 2, 1) := by decide +kernel
theorem dX12_lend_133 : decode cX12_lend 133 = .ok (.imul, 1) := by decide +kernel
theorem dX12_lend_134 : decode cX12_lend 134 = .ok (.iload_n 1, 1) := by decide +kernel
theorem dX12_lend_135 : decode cX12_lend 135 = .ok (.iadd, 1) := by decide +kernel
theorem dX12_lend_136 : decode cX12_lend 136 = .ok (.iconst (-1), 1) := by decide +kernel
theorem dX12_lend_137 : decode cX12_lend 137 = .ok (.iastore, 1) := by decide +kernel
theorem dX12_lend_138 : decode cX12_lend 138 = .ok (.aload_n 0, 1) := by decide +kernel
theorem dX12_lend_139 : decode cX12_lend 139 = .ok (.getfield 28, 3) := by decide +kernel
theorem dX12_lend_142 : decode cX12_lend 142 = .ok (.iload_n 1, 1) := by decide +kernel
theorem dX12_lend_143 : decode cX12_lend 143 = .ok (.aload_n 0, 1) := by decide +kernel
theorem dX12_lend_144 : decode cX12_lend 144 = .ok (.getfield 28, 3) := by decide +kernel
theorem dX12_lend_147 : decode cX12_lend 147 = .ok (.iload_n 1, 1) := by decide +kernel
theorem dX12_lend_148 : decode cX12_lend 148 = .ok (.iaload, 1) := by decide +kernel
theorem dX12_lend_149 : decode cX12_lend 149 = .ok (.iconst 1, 1) := by decide +kernel
theorem dX12_lend_150 : decode cX12_lend 150 = .ok (.iadd, 1) := by decide +kernel
theorem dX12_lend_151 : decode cX12_lend 151 = .ok (.iastore, 1) := by decide +kernel
theorem dX12_lend_152 : decode cX12_lend 152 = .ok (.aload_n 0, 1) := by decide +kernel
theorem dX12_lend_153 : decode cX12_lend 153 = .ok (.getfield 64, 3) := by decide +kernel
theorem dX12_lend_156 : decode cX12_lend 156 = .ok (.iload_n 2, 1) := by decide +kernel
theorem dX12_lend_157 : decode cX12_lend 157 = .ok (.aload_n 0, 1) := by decide +kernel
theorem dX12_lend_158 : decode cX12_lend 158 = .ok (.getfield 64, 3) := by decide +kernel
theorem dX12_lend_161 : decode cX12_lend 161 = .ok (.iload_n 2, 1) := by decide +kernel
theorem dX12_lend_162 : decode cX12_lend 162 = .ok (.iaload, 1) := by decide +kernel
theorem dX12_lend_163 : decode cX12_lend 163 = .ok (.iconst 1, 1) := by decide +kernel
theorem dX12_lend_164 : decode cX12_lend 164 = .ok (.iadd, 1) := by decide +kernel
theorem dX12_lend_165 : decode cX12_lend 165 = .ok (.iastore, 1) := by decide +kernel
theorem dX12_lend_166 : decode cX12_lend 166 = .ok (.aload_n 0, 1) := by decide +kernel
theorem dX12_lend_167 : decode cX12_lend 167 = .ok (.getfield 86, 3) := by decide +kernel
theorem dX12_lend_170 : decode cX12_lend 170 = .ok (.aload_n 0, 1) := by decide +kernel
theorem dX12_lend_171 : decode cX12_lend 171 = .ok (.getfield 52, 3) := by decide +kernel
theorem dX12_lend_174 : decode cX12_lend 174 = .ok (.iload_n 2, 1) := by decide +kernel
theorem dX12_lend_175 : decode cX12_lend 175 = .ok (.iaload, 1) := by decide +kernel
theorem dX12_lend_176 : decode cX12_lend 176 = .ok (.aload_n 0, 1) := by decide +kernel
theorem dX12_lend_177 : decode cX12_lend 177 = .ok (.getfield 86, 3) := by decide +kernel
theorem dX12_lend_180 : decode cX12_lend 180 = .ok (.aload_n 0, 1) := by decide +kernel
theorem dX12_lend_181 : decode cX12_lend 181 = .ok (.getfield 52, 3) := by decide +kernel
theorem dX12_lend_184 : decode cX12_lend 184 = .ok (.iload_n 2, 1) := by decide +kernel
theorem dX12_lend_185 : decode cX12_lend 185 = .ok (.iaload, 1) := by decide +kernel
theorem dX12_lend_186 : decode cX12_lend 186 = .ok (.iaload, 1) := by decide +kernel
theorem dX12_lend_187 : decode cX12_lend 187 = .ok (.iconst 1, 1) := by decide +kernel
theorem dX12_lend_188 : decode cX12_lend 188 = .ok (.iadd, 1) := by decide +kernel
theorem dX12_lend_189 : decode cX12_lend 189 = .ok (.iastore, 1) := by decide +kernel
theorem dX12_lend_190 : decode cX12_lend 190 = .ok (.aload_n 0, 1) := by decide +kernel
theorem dX12_lend_191 : decode cX12_lend 191 = .ok (.getfield 89, 3) := by decide +kernel
theorem dX12_lend_194 : decode cX12_lend 194 = .ok (.aload_n 0, 1) := by decide +kernel
theorem dX12_lend_195 : decode cX12_lend 195 = .ok (.getfield 7, 3) := by decide +kernel
theorem dX12_lend_198 : decode cX12_lend 198 = .ok (.iload_n 1, 1) := by decide +kernel
theorem dX12_lend_199 : decode cX12_lend 199 = .ok (.iaload, 1) := by decide +kernel
theorem dX12_lend_200 : decode cX12_lend 200 = .ok (.aload_n 0, 1) := by decide +kernel
theorem dX12_lend_201 : decode cX12_lend 201 = .ok (.getfield 89, 3) := by decide +kernel
theorem dX12_lend_204 : decode cX12_lend 204 = .ok (.aload_n 0, 1) := by decide +kernel
theorem dX12_lend_205 : decode cX12_lend 205 = .ok (.getfield 7, 3) := by decide +kernel
theorem dX12_lend_208 : decode cX12_lend 208 = .ok (.iload_n 1, 1) := by decide +kernel
theorem dX12_lend_209 : decode cX12_lend 209 = .ok (.iaload, 1) := by decide +kernel
theorem dX12_lend_210 : decode cX12_lend 210 = .ok (.iaload, 1) := by decide +kernel
theorem dX12_lend_211 : decode cX12_lend 211 = .ok (.iconst 1, 1) := by decide +kernel
theorem dX12_lend_212 : decode cX12_lend 212 = .ok (.iadd, 1) := by decide +kernel
theorem dX12_lend_213 : decode cX12_lend 213 = .ok (.iastore, 1) := by decide +kernel
theorem dX12_lend_214 : decode cX12_lend 214 = .ok (.aload_n 0, 1) := by decide +kernel
theorem dX12_lend_215 : decode cX12_lend 215 = .ok (.getfield 92, 3) := by decide +kernel
theorem dX12_lend_218 : decode cX12_lend 218 = .ok (.iload_n 3, 1) := by decide +kernel
theorem dX12_lend_219 : decode cX12_lend 219 = .ok (.aload_n 0, 1) := by decide +kernel
theorem dX12_lend_220 : decode cX12_lend 220 = .ok (.getfield 92, 3) := by decide +kernel
theorem dX12_lend_223 : decode cX12_lend 223 = .ok (.iload_n 3, 1) := by decide +kernel
theorem dX12_lend_224 : decode cX12_lend 224 = .ok (.iaload, 1) := by decide +kernel
theorem dX12_lend_225 : decode cX12_lend 225 = .ok (.iconst 1, 1) := by decide +kernel
theorem dX12_lend_226 : decode cX12_lend 226 = .ok (.iadd, 1) := by decide +kernel
theorem dX12_lend_227 : decode cX12_lend 227 = .ok (.iastore, 1) := by decide +kernel
theorem dX12_lend_228 : decode cX12_lend 228 = .ok (.aload_n 0, 1) := by decide +kernel
theorem dX12_lend_229 : decode cX12_lend 229 = .ok (.aload_n 0, 1) := by decide +kernel
theorem dX12_lend_230 : decode cX12_lend 230 = .ok (.getfield 364, 3) := by decide +kernel
theorem dX12_lend_233 : decode cX12_lend 233 = .ok (.iconst 1, 1) := by decide +kernel
theorem dX12_lend_234 : decode cX12_lend 234 = .ok (.iadd, 1) := by decide +kernel
theorem dX12_lend_235 : decode cX12_lend 235 = .ok (.putfield 364, 3) := by decide +kernel
theorem dX12_lend_238 : decode cX12_lend 238 = .ok (.aload_n 0, 1) := by decide +kernel
theorem dX12_lend_239 : decode cX12_lend 239 = .ok (.getfield 25, 3) := by decide +kernel
theorem dX12_lend_242 : decode cX12_lend 242 = .ok (.iload_n 1, 1) := by decide +kernel
theorem dX12_lend_243 : decode cX12_lend 243 = .ok (.iaload, 1) := by decide +kernel
theorem dX12_lend_244 : decode cX12_lend 244 = .ok (.ireturn, 1) := by decide +kernel
theorem dX12_isOut_0 : decode cX12_isOut 0 = .ok (.aload_n 0, 1) := by decide +kernel
theorem dX12_isOut_1 : decode cX12_isOut 1 = .ok (.iload_n 1, 1) := by decide +kernel
theorem dX12_isOut_2 : decode cX12_isOut 2 = .ok (.invokevirtual 217, 3) := by decide +kernel
theorem dX12_isOut_5 : decode cX12_isOut 5 = .ok (.ifCond .eq 23, 3) := by decide +kernel
theorem dX12_isOut_8 : decode cX12_isOut 8 = .ok (.aload_n 0, 1) := by decide +kernel
theorem dX12_isOut_9 : decode cX12_isOut 9 = .ok (.getfield 22, 3) := by decide +kernel
theorem dX12_isOut_12 : decode cX12_isOut 12 = .ok (.iload_n 1, 1) := by decide +kernel
theorem dX12_isOut_13 : decode cX12_isOut 13 = .ok (.iaload, 1) := by decide +kernel
theorem dX12_isOut_14 : decode cX12_isOut 14 = .ok (.bipush 10, 2) := by decide +kernel
theorem dX12_isOut_16 : decode cX12_isOut 16 = .ok (.bipush 25, 2) := by decide +kernel
theorem dX12_isOut_18 : decode cX12_isOut 18 = .ok (.invokestatic 199, 3) := by decide +kernel
theorem dX12_isOut_21 : decode cX12_isOut 21 = .ok (.ifCond .eq 7, 3) := by decide +kernel
theorem dX12_isOut_24 : decode cX12_isOut 24 = .ok (.iconst 1, 1) := by decide +kernel
theorem dX12_isOut_25 : decode cX12_isOut 25 = .ok (.goto 4, 3) := by decide +kernel
theorem dX12_isOut_28 : decode cX12_isOut 28 = .ok (.iconst 0, 1) := by decide +kernel
theorem dX12_isOut_29 : decode cX12_isOut 29 = .ok (.ireturn, 1) := by decide +kernel
theorem dX12_back_0 : decode cX12_back 0 = .ok (.aload_n 0, 1) := by decide +kernel
theorem dX12_back_1 : decode cX12_back 1 = .ok (.iload_n 1, 1) := by decide +kernel
theorem dX12_back_2 : decode cX12_back 2 = .ok (.invokevirtual 367, 3) := by decide +kernel
theorem dX12_back_5 : decode cX12_back 5 = .ok (.ifCond .eq 55, 3) := by decide +kernel
theorem dX12_back_8 : decode cX12_back 8 = .ok (.iload_n 2, 1) := by decide +kernel
theorem dX12_back_9 : decode cX12_back 9 = .ok (.invokestatic 203, 3) := by decide +kernel
theorem dX12_back_12 : decode cX12_back 12 = .ok (.ifCond .eq 48, 3) := by decide +kernel
theorem dX12_back_15 : decode cX12_back 15 = .ok (.aload_n 0, 1) := by decide +kernel
theorem dX12_back_16 : decode cX12_back 16 = .ok (.iload_n 3, 1) := by decide +kernel
theorem dX12_back_17 : decode cX12_back 17 = .ok (.invokevirtual 214, 3) := by decide +kernel
theorem dX12_back_20 : decode cX12_back 20 = .ok (.ifCond .eq 40, 3) := by decide +kernel
theorem dX12_back_23 : decode cX12_back 23 = .ok (.aload_n 0, 1) := by decide +kernel
theorem dX12_back_24 : decode cX12_back 24 = .ok (.iload_n 2, 1) := by decide +kernel
theorem dX12_back_25 : decode cX12_back 25 = .ok (.aload_n 0, 1) := by decide +kernel
theorem dX12_back_26 : decode cX12_back 26 = .ok (.getfield 52, 3) := by decide +kernel
theorem dX12_back_29 : decode cX12_back 29 = .ok (.iload_n 3, 1) := by decide +kernel
theorem dX12_back_30 : decode cX12_back 30 = .ok (.iaload, 1) := by decide +kernel
theorem dX12_back_31 : decode cX12_back 31 = .ok (.aload_n 0, 1) := by decide +kernel
theorem dX12_back_32 : decode cX12_back 32 = .ok (.getfield 196, 3) := by decide +kernel
theorem dX12_back_35 : decode cX12_back 35 = .ok (.invokevirtual 346, 3) := by decide +kernel
theorem dX12_back_38 : decode cX12_back 38 = .ok (.ifCond .eq 22, 3) := by decide +kernel
theorem dX12_back_41 : decode cX12_back 41 = .ok (.aload_n 0, 1) := by decide +kernel
theorem dX12_back_42 : decode cX12_back 42 = .ok (.iload_n 1, 1) := by decide +kernel
theorem dX12_back_43 : decode cX12_back 43 = .ok (.iload_n 2, 1) := by decide +kernel
theorem dX12_back_44 : decode cX12_back 44 = .ok (.invokevirtual 358, 3) := by decide +kernel
theorem dX12_back_47 : decode cX12_back 47 = .ok (.ifCond .eq 13, 3) := by decide +kernel
theorem dX12_back_50 : decode cX12_back 50 = .ok (.aload_n 0, 1) := by decide +kernel
theorem dX12_back_51 : decode cX12_back 51 = .ok (.getfield 352, 3) := by decide +kernel
theorem dX12_back_54 : decode cX12_back 54 = .ok (.sipush 200, 3) := by decide +kernel
theorem dX12_back_57 : decode cX12_back 57 = .ok (.if_icmp .ne 5, 3) := by decide +kernel
theorem dX12_back_60 : decode cX12_back 60 = .ok (.iconst (-1), 1) := by decide +kernel
theorem dX12_back_61 : decode cX12_back 61 = .ok (.ireturn, 1) := by decide +kernel
theorem dX12_back_62 : decode cX12_back 62 = .ok (.aload_n 0, 1) := by decide +kernel
theorem dX12_back_63 : decode cX12_back 63 = .ok (.getfield 22, 3) := by decide +kernel
theorem dX12_back_66 : decode cX12_back 66 = .ok (.iload_n 1, 1) := by decide +kernel
theorem dX12_back_67 : decode cX12_back 67 = .ok (.iaload, 1) := by decide +kernel
theorem dX12_back_68 : decode cX12_back 68 = .ok (.bipush 10, 2) := by decide +kernel
theorem dX12_back_70 : decode cX12_back 70 = .ok (.isub, 1) := by decide +kernel
theorem dX12_back_71 : decode cX12_back 71 = .ok (.istore 4, 2) := by decide +kernel
theorem dX12_back_73 : decode cX12_back 73 = .ok (.aload_n 0, 1) := by decide +kernel
theorem dX12_back_74 : decode cX12_back 74 = .ok (.iload 4, 2) := by decide +kernel
theorem dX12_back_76 : decode cX12_back 76 = .ok (.iload_n 1, 1) := by decide +kernel
theorem dX12_back_77 : decode cX12_back 77 = .ok (.aload_n 0, 1) := by decide +kernel
theorem dX12_back_78 : decode cX12_back 78 = .ok (.getfield 196, 3) := by decide +kernel
theorem dX12_back_81 : decode cX12_back 81 = .ok (.aload_n 0, 1) := by decide +kernel
theorem dX12_back_82 : decode cX12_back 82 = .ok (.getfield 25, 3) := by decide +kernel
theorem dX12_back_85 : decode cX12_back 85 = .ok (.iload_n 1, 1) := by decide +kernel
theorem dX12_back_86 : decode cX12_back 86 = .ok (.iaload, 1) := by decide +kernel
theorem dX12_back_87 : decode cX12_back 87 = .ok (.if_icmp .le 17, 3) := by decide +kernel
theorem dX12_back_90 : decode cX12_back 90 = .ok (.aload_n 0, 1) := by decide +kernel
theorem dX12_back_91 : decode cX12_back 91 = .ok (.getfield 196, 3) := by decide +kernel
theorem dX12_back_94 : decode cX12_back 94 = .ok (.aload_n 0, 1) := by decide +kernel
theorem dX12_back_95 : decode cX12_back 95 = .ok (.getfield 25, 3) := by decide +kernel
theorem dX12_back_98 : decode cX12_back 98 = .ok (.iload_n 1, 1) := by decide +kernel
theorem dX12_back_99 : decode cX12_back 99 = .ok (.iaload, 1) := by decide +kernel
theorem dX12_back_100 : decode cX12_back 100 = .ok (.isub, 1) := by decide +kernel
theorem dX12_back_101 : decode cX12_back 101 = .ok (.goto 4, 3) := by decide +kernel
theorem dX12_back_104 : decode cX12_back 104 = .ok (.iconst 0, 1) := by decide +kernel
theorem dX12_back_105 : decode cX12_back 105 = .ok (.invokevirtual 331, 3) := by decide +kernel
theorem dX12_back_108 : decode cX12_back 108 = .ok (.aload_n 0, 1) := by decide +kernel
theorem dX12_back_109 : decode cX12_back 109 = .ok (.bipush 102, 2) := by decide +kernel
theorem dX12_back_111 : decode cX12_back 111 = .ok (.iconst 0, 1) := by decide +kernel
theorem dX12_back_112 : decode cX12_back 112 = .ok (.sipush 10000, 3) := by decide +kernel
theorem dX12_back_115 : decode cX12_back 115 = .ok (.iconst 0, 1) := by decide +kernel
theorem dX12_back_116 : decode cX12_back 116 = .ok (.invokevirtual 335, 3) := by decide +kernel
theorem dX12_back_119 : decode cX12_back 119 = .ok (.istore 5, 2) := by decide +kernel
theorem dX12_back_121 : decode cX12_back 121 = .ok (.aload_n 0, 1) := by decide +kernel
theorem dX12_back_122 : decode cX12_back 122 = .ok (.getfield 61, 3) := by decide +kernel
theorem dX12_back_125 : decode cX12_back 125 = .ok (.iload 4, 2) := by decide +kernel
theorem dX12_back_127 : decode cX12_back 127 = .ok (.aload_n 0, 1) := by decide +kernel
theorem dX12_back_128 : decode cX12_back 128 = .ok (.getfield 61, 3) := by decide +kernel
theorem dX12_back_131 : decode cX12_back 131 = .ok (.iload 4, 2) := by decide +kernel
theorem dX12_back_133 : decode cX12_back 133 = .ok (.iaload, 1) := by decide +kernel
theorem dX12_back_134 : decode cX12_back 134 = .ok (.iload 5, 2) := by decide +kernel
theorem dX12_back_136 : decode cX12_back 136 = .ok (.iadd, 1) := by decide +kernel
theorem dX12_back_137 : decode cX12_back 137 = .ok (.iastore, 1) := by decide +kernel
theorem dX12_back_138 : decode cX12_back 138 = .ok (.iload 4, 2) := by decide +kernel
theorem dX12_back_140 : decode cX12_back 140 = .ok (.iload_n 3, 1) := by decide +kernel
theorem dX12_back_141 : decode cX12_back 141 = .ok (.if_icmp .eq 41, 3) := by decide +kernel
theorem dX12_back_144 : decode cX12_back 144 = .ok (.aload_n 0, 1) := by decide +kernel
theorem dX12_back_145 : decode cX12_back 145 = .ok (.getfield 31, 3) := by decide +kernel
theorem dX12_back_148 : decode cX12_back 148 = .ok (.iload_n 1, 1) := by decide +kernel
theorem dX12_back_149 : decode cX12_back 149 = .ok (.aload_n 0, 1) := by decide +kernel
theorem dX12_back_150 : decode cX12_back 150 = .ok (.getfield 31, 3) := by decide +kernel
theorem dX12_back_153 : decode cX12_back 153 = .ok (.iload_n 1, 1) := by decide +kernel
theorem dX12_back_154 : decode cX12_back 154 = .ok (.iaload, 1) := by decide +kernel
theorem dX12_back_155 : decode cX12_back 155 = .ok (.iconst 1, 1) := by decide +kernel
theorem dX12_back_156 : decode cX12_back 156 = .ok (.iadd, 1) := by decide +kernel
theorem dX12_back_157 : decode cX12_back 157 = .ok (.iastore, 1) := by decide +kernel
theorem dX12_back_158 : decode cX12_back 158 = .ok (.aload_n 0, 1) := by decide +kernel
theorem dX12_back_159 : decode cX12_back 159 = .ok (.getfield 95, 3) := by decide +kernel
theorem dX12_back_162 : decode cX12_back 162 = .ok (.aload_n 0, 1) := by decide +kernel
theorem dX12_back_163 : decode cX12_back 163 = .ok (.getfield 52, 3) := by decide +kernel
theorem dX12_back_166 : decode cX12_back 166 = .ok (.iload_n 3, 1) := by decide +kernel
theorem dX12_back_167 : decode cX12_back 167 = .ok (.iaload, 1) := by decide +kernel
theorem dX12_back_168 : decode cX12_back 168 = .ok (.aload_n 0, 1) := by decide +kernel
theorem dX12_back_169 : decode cX12_back 169 = .ok (.getfield 95, 3) := by decide +kernel
theorem dX12_back_172 : decode cX12_back 172 = .ok (.aload_n 0, 1) := by decide +kernel
theorem dX12_back_173 : decode cX12_back 173 = .ok (.getfield 52, 3) := by decide +kernel
theorem dX12_back_176 : decode cX12_back 176 = .ok (.iload_n 3, 1) := by decide +kernel
theorem dX12_back_177 : decode cX12_back 177 = .ok (.iaload, 1) := by decide +kernel
theorem dX12_back_178 : decode cX12_back 178 = .ok (.iaload, 1) := by decide +kernel
theorem dX12_back_179 : decode cX12_back 179 = .ok (.iconst 1, 1) := by decide +kernel
theorem dX12_back_180 : decode cX12_back 180 = .ok (.iadd, 1) := by decide +kernel
theorem dX12_back_181 : decode cX12_back 181 = .ok (.iastore, 1) := by decide +kernel
theorem dX12_back_182 : decode cX12_back 182 = .ok (.aload_n 0, 1) := by decide +kernel
theorem dX12_back_183 : decode cX12_back 183 = .ok (.getfield 25, 3) := by decide +kernel
theorem dX12_back_186 : decode cX12_back 186 = .ok (.iload_n 1, 1) := by decide +kernel
theorem dX12_back_187 : decode cX12_back 187 = .ok (.iconst (-1), 1) := by decide +kernel
theorem dX12_back_188 : decode cX12_back 188 = .ok (.iastore, 1) := by decide +kernel
theorem dX12_back_189 : decode cX12_back 189 = .ok (.aload_n 0, 1) := by decide +kernel
theorem dX12_back_190 : decode cX12_back 190 = .ok (.iload_n 1, 1) := by decide +kernel
theorem dX12_back_191 : decode cX12_back 191 = .ok (.iconst 1, 1) := by decide +kernel
theorem dX12_back_192 : decode cX12_back 192 = .ok (.iload_n 2, 1) := by decide +kernel
theorem dX12_back_193 : decode cX12_back 193 = .ok (.iadd, 1) := by decide +kernel
theorem dX12_back_194 : decode cX12_back 194 = .ok (.invokevirtual 361, 3) := by decide +kernel
theorem dX12_back_197 : decode cX12_back 197 = .ok (.iload 5, 2) := by decide +kernel
theorem dX12_back_199 : decode cX12_back 199 = .ok (.ireturn, 1) := by decide +kernel
theorem dX12_lost_0 : decode cX12_lost 0 = .ok (.aload_n 0, 1) := by decide +kernel
theorem dX12_lost_1 : decode cX12_lost 1 = .ok (.iload_n 1, 1) := by decide +kernel
theorem dX12_lost_2 : decode cX12_lost 2 = .ok (.invokevirtual 367, 3) := by decide +kernel
theorem dX12_lost_5 : decode cX12_lost 5 = .ok (.ifCond .eq 13, 3) := by decide +kernel
theorem dX12_lost_8 : decode cX12_lost 8 = .ok (.aload_n 0, 1) := by decide +kernel
theorem dX12_lost_9 : decode cX12_lost 9 = .ok (.getfield 352, 3) := by decide +kernel
theorem dX12_lost_12 : decode cX12_lost 12 = .ok (.sipush 200, 3) := by decide +kernel
theorem dX12_lost_15 : decode cX12_lost 15 = .ok (.if_icmp .ne 5, 3) := by decide +kernel
theorem dX12_lost_18 : decode cX12_lost 18 = .ok (.iconst (-1), 1) := by decide +kernel
theorem dX12_lost_19 : decode cX12_lost 19 = .ok (.ireturn, 1) := by decide +kernel
theorem dX12_lost_20 : decode cX12_lost 20 = .ok (.aload_n 0, 1) := by decide +kernel
theorem dX12_lost_21 : decode cX12_lost 21 = .ok (.getfield 22, 3) := by decide +kernel
theorem dX12_lost_24 : decode cX12_lost 24 = .ok (.iload_n 1, 1) := by decide +kernel
theorem dX12_lost_25 : decode cX12_lost 25 = .ok (.iaload, 1) := by decide +kernel
theorem dX12_lost_26 : decode cX12_lost 26 = .ok (.bipush 10, 2) := by decide +kernel
theorem dX12_lost_28 : decode cX12_lost 28 = .ok (.isub, 1) := by decide +kernel
theorem dX12_lost_29 : decode cX12_lost 29 = .ok (.istore_n 2, 1) := by decide +kernel
theorem dX12_lost_30 : decode cX12_lost 30 = .ok (.aload_n 0, 1) := by decide +kernel
theorem dX12_lost_31 : decode cX12_lost 31 = .ok (.getfield 61, 3) := by decide +kernel
theorem dX12_lost_34 : decode cX12_lost 34 = .ok (.iload_n 2, 1) := by decide +kernel
theorem dX12_lost_35 : decode cX12_lost 35 = .ok (.aload_n 0, 1) := by decide +kernel
theorem dX12_lost_36 : decode cX12_lost 36 = .ok (.getfield 61, 3) := by decide +kernel
theorem dX12_lost_39 : decode cX12_lost 39 = .ok (.iload_n 2, 1) := by decide +kernel
theorem dX12_lost_40 : decode cX12_lost 40 = .ok (.iaload, 1) := by decide +kernel
theorem dX12_lost_41 : decode cX12_lost 41 = .ok (.aload_n 0, 1) := by decide +kernel
theorem dX12_lost_42 : decode cX12_lost 42 = .ok (.getfield 19, 3) := by decide +kernel
theorem dX12_lost_45 : decode cX12_lost 45 = .ok (.iload_n 1, 1) := by decide +kernel
theorem dX12_lost_46 : decode cX12_lost 46 = .ok (.iaload, 1) := by decide +kernel
theorem dX12_lost_47 : decode cX12_lost 47 = .ok (.iadd, 1) := by decide +kernel
theorem dX12_lost_48 : decode cX12_lost 48 = .ok (.iastore, 1) := by decide +kernel
theorem dX12_lost_49 : decode cX12_lost 49 = .ok (.aload_n 0, 1) := by decide +kernel
theorem dX12_lost_50 : decode cX12_lost 50 = .ok (.getfield 25, 3) := by decide +kernel
theorem dX12_lost_53 : decode cX12_lost 53 = .ok (.iload_n 1, 1) := by decide +kernel
theorem dX12_lost_54 : decode cX12_lost 54 = .ok (.iconst (-1), 1) := by decide +kernel
theorem dX12_lost_55 : decode cX12_lost 55 = .ok (.iastore, 1) := by decide +kernel
theorem dX12_lost_56 : decode cX12_lost 56 = .ok (.aload_n 0, 1) := by decide +kernel
theorem dX12_lost_57 : decode cX12_lost 57 = .ok (.iload_n 1, 1) := by decide +kernel
theorem dX12_lost_58 : decode cX12_lost 58 = .ok (.bipush 40, 2) := by decide +kernel
theorem dX12_lost_60 : decode cX12_lost 60 = .ok (.invokevirtual 361, 3) := by decide +kernel
theorem dX12_lost_63 : decode cX12_lost 63 = .ok (.aload_n 0, 1) := by decide +kernel
theorem dX12_lost_64 : decode cX12_lost 64 = .ok (.getfield 19, 3) := by decide +kernel
theorem dX12_lost_67 : decode cX12_lost 67 = .ok (.iload_n 1, 1) := by decide +kernel
theorem dX12_lost_68 : decode cX12_lost 68 = .ok (.iaload, 1) := by decide +kernel
theorem dX12_lost_69 : decode cX12_lost 69 = .ok (.ireturn, 1) := by decide +kernel
theorem dX12_whoHad_0 : decode cX12_whoHad 0 = .ok (.iconst 0, 1) := by decide +kernel
theorem dX12_whoHad_1 : decode cX12_whoHad 1 = .ok (.istore_n 2, 1) := by decide +kernel
theorem dX12_whoHad_2 : decode cX12_whoHad 2 = .ok (.iconst 0, 1) := by decide +kernel
theorem dX12_whoHad_3 : decode cX12_whoHad 3 = .ok (.istore_n 3, 1) := by decide +kernel
theorem dX12_whoHad_4 : decode cX12_whoHad 4 = .ok (.iload_n 3, 1) := by decide +kernel
theorem dX12_whoHad_5 : decode cX12_whoHad 5 = .ok (.aload_n 0, 1) := by decide +kernel
theorem dX12_whoHad_6 : decode cX12_whoHad 6 = .ok (.getfield 193, 3) := by decide +kernel
theorem dX12_whoHad_9 : decode cX12_whoHad 9 = .ok (.if_icmp .ge 31, 3) := by decide +kernel
theorem dX12_whoHad_12 : decode cX12_whoHad 12 = .ok (.iload_n 2, 1) := by decide +kernel
theorem dX12_whoHad_13 : decode cX12_whoHad 13 = .ok (.aload_n 0, 1) := by decide +kernel
theorem dX12_whoHad_14 : decode cX12_whoHad 14 = .ok (.getfield 70, 3) := by decide +kernel
theorem dX12_whoHad_17 : decode cX12_whoHad 17 = .ok (.bipush 32, 2) := by decide +kernel
theorem dX12_whoHad_19 : decode cX12_whoHad 19 = .ok (.iload_n 3, 1) := by decide +kernel
theorem dX12_whoHad_20 : decode cX12_whoHad 20 = .ok (.imul, 1) := by decide +kernel
theorem dX12_whoHad_21 : decode cX12_whoHad 21 = .ok (.iload_n 1, 1) := by decide +kernel
theorem dX12_whoHad_22 : decode cX12_whoHad 22 = .ok (.iadd, 1) := by decide +kernel
theorem dX12_whoHad_23 : decode cX12_whoHad 23 = .ok (.baload, 1) := by decide +kernel
theorem dX12_whoHad_24 : decode cX12_whoHad 24 = .ok (.ifCond .eq 7, 3) := by decide +kernel
theorem dX12_whoHad_27 : decode cX12_whoHad 27 = .ok (.iconst 1, 1) := by decide +kernel
theorem dX12_whoHad_28 : decode cX12_whoHad 28 = .ok (.goto 4, 3) := by decide +kernel
theorem dX12_whoHad_31 : decode cX12_whoHad 31 = .ok (.iconst 0, 1) := by decide +kernel
theorem dX12_whoHad_32 : decode cX12_whoHad 32 = .ok (.iadd, 1) := by decide +kernel
theorem dX12_whoHad_33 : decode cX12_whoHad 33 = .ok (.istore_n 2, 1) := by decide +kernel
theorem dX12_whoHad_34 : decode cX12_whoHad 34 = .ok (.iinc 3 1, 3) := by decide +kernel
theorem dX12_whoHad_37 : decode cX12_whoHad 37 = .ok (.goto (-33), 3) := by decide +kernel
theorem dX12_whoHad_40 : decode cX12_whoHad 40 = .ok (.iload_n 2, 1) := by decide +kernel
theorem dX12_whoHad_41 : decode cX12_whoHad 41 = .ok (.ireturn, 1) := by decide +kernel
theorem dX12_bookIs_0 : decode cX12_bookIs 0 = .ok (.aload_n 0, 1) := by decide +kernel
theorem dX12_bookIs_1 : decode cX12_bookIs 1 = .ok (.iload_n 1, 1) := by decide +kernel
theorem dX12_bookIs_2 : decode cX12_bookIs 2 = .ok (.invokevirtual 217, 3) := by decide +kernel
theorem dX12_bookIs_5 : decode cX12_bookIs 5 = .ok (.ifCond .ne 5, 3) := by decide +kernel
theorem dX12_bookIs_8 : decode cX12_bookIs 8 = .ok (.iconst (-1), 1) := by decide +kernel
theorem dX12_bookIs_9 : decode cX12_bookIs 9 = .ok (.ireturn, 1) := by decide +kernel
theorem dX12_bookIs_10 : decode cX12_bookIs 10 = .ok (.iload_n 2, 1) := by decide +kernel
theorem dX12_bookIs_11 : decode cX12_bookIs 11 = .ok (.tableswitch 67 0 4 #[33, 40, 47, 54, 61], 33) := by decide +kernel
theorem dX12_bookIs_44 : decode cX12_bookIs 44 = .ok (.aload_n 0, 1) := by decide +kernel
theorem dX12_bookIs_45 : decode cX12_bookIs 45 = .ok (.getfield 22, 3) := by decide +kernel
theorem dX12_bookIs_48 : decode cX12_bookIs 48 = .ok (.iload_n 1, 1) := by decide +kernel
theorem dX12_bookIs_49 : decode cX12_bookIs 49 = .ok (.iaload, 1) := by decide +kernel
theorem dX12_bookIs_50 : decode cX12_bookIs 50 = .ok (.ireturn, 1) := by decide +kernel
theorem dX12_bookIs_51 : decode cX12_bookIs 51 = .ok (.aload_n 0, 1) := by decide +kernel
theorem dX12_bookIs_52 : decode cX12_bookIs 52 = .ok (.getfield 25, 3) := by decide +kernel
theorem dX12_bookIs_55 : decode cX12_bookIs 55 = .ok (.iload_n 1, 1) := by decide +kernel
theorem dX12_bookIs_56 : decode cX12_bookIs 56 = .ok (.iaload, 1) := by decide +kernel
theorem dX12_bookIs_57 : decode cX12_bookIs 57 = .ok (.ireturn, 1) := by decide +kernel
theorem dX12_bookIs_58 : decode cX12_bookIs 58 = .ok (.aload_n 0, 1) := by decide +kernel
theorem dX12_bookIs_59 : decode cX12_bookIs 59 = .ok (.getfield 28, 3) := by decide +kernel
theorem dX12_bookIs_62 : decode cX12_bookIs 62 = .ok (.iload_n 1, 1) := by decide +kernel
theorem dX12_bookIs_63 : decode cX12_bookIs 63 = .ok (.iaload, 1) := by decide +kernel
theorem dX12_bookIs_64 : decode cX12_bookIs 64 = .ok (.ireturn, 1) := by decide +kernel
theorem dX12_bookIs_65 : decode cX12_bookIs 65 = .ok (.aload_n 0, 1) := by decide +kernel
theorem dX12_bookIs_66 : decode cX12_bookIs 66 = .ok (.getfield 31, 3) := by decide +kernel
theorem dX12_bookIs_69 : decode cX12_bookIs 69 = .ok (.iload_n 1, 1) := by decide +kernel
theorem dX12_bookIs_70 : decode cX12_bookIs 70 = .ok (.iaload, 1) := by decide +kernel
theorem dX12_bookIs_71 : decode cX12_bookIs 71 = .ok (.ireturn, 1) := by decide +kernel
theorem dX12_bookIs_72 : decode cX12_bookIs 72 = .ok (.aload_n 0, 1) := by decide +kernel
theorem dX12_bookIs_73 : decode cX12_bookIs 73 = .ok (.iload_n 1, 1) := by decide +kernel
theorem dX12_bookIs_74 : decode cX12_bookIs 74 = .ok (.invokevirtual 370, 3) := by decide +kernel
theorem dX12_bookIs_77 : decode cX12_bookIs 77 = .ok (.ireturn, 1) := by decide +kernel
theorem dX12_bookIs_78 : decode cX12_bookIs 78 = .ok (.iconst (-1), 1) := by decide +kernel
theorem dX12_bookIs_79 : decode cX12_bookIs 79 = .ok (.ireturn, 1) := by decide +kernel
theorem dX12_asksOf_0 : decode cX12_asksOf 0 = .ok (.iconst 0, 1) := by decide +kernel
theorem dX12_asksOf_1 : decode cX12_asksOf 1 = .ok (.istore_n 2, 1) := by decide +kernel
theorem dX12_asksOf_2 : decode cX12_asksOf 2 = .ok (.iconst 0, 1) := by decide +kernel
theorem dX12_asksOf_3 : decode cX12_asksOf 3 = .ok (.istore_n 3, 1) := by decide +kernel
theorem dX12_asksOf_4 : decode cX12_asksOf 4 = .ok (.iload_n 3, 1) := by decide +kernel
theorem dX12_asksOf_5 : decode cX12_asksOf 5 = .ok (.aload_n 0, 1) := by decide +kernel
theorem dX12_asksOf_6 : decode cX12_asksOf 6 = .ok (.getfield 187, 3) := by decide +kernel
theorem dX12_asksOf_9 : decode cX12_asksOf 9 = .ok (.if_icmp .ge 32, 3) := by decide +kernel
theorem dX12_asksOf_12 : decode cX12_asksOf 12 = .ok (.iload_n 2, 1) := by decide +kernel
theorem dX12_asksOf_13 : decode cX12_asksOf 13 = .ok (.aload_n 0, 1) := by decide +kernel
theorem dX12_asksOf_14 : decode cX12_asksOf 14 = .ok (.getfield 67, 3) := by decide +kernel
theorem dX12_asksOf_17 : decode cX12_asksOf 17 = .ok (.bipush 32, 2) := by decide +kernel
theorem dX12_asksOf_19 : decode cX12_asksOf 19 = .ok (.iload_n 1, 1) := by decide +kernel
theorem dX12_asksOf_20 : decode cX12_asksOf 20 = .ok (.imul, 1) := by decide +kernel
theorem dX12_asksOf_21 : decode cX12_asksOf 21 = .ok (.iload_n 3, 1) := by decide +kernel
theorem dX12_asksOf_22 : decode cX12_asksOf 22 = .ok (.iadd, 1) := by decide +kernel
theorem dX12_asksOf_23 : decode cX12_asksOf 23 = .ok (.iaload, 1) := by decide +kernel
theorem dX12_asksOf_24 : decode cX12_asksOf 24 = .ok (.iconst (-1), 1) := by decide +kernel
theorem dX12_asksOf_25 : decode cX12_asksOf 25 = .ok (.if_icmp .ne 7, 3) := by decide +kernel
theorem dX12_asksOf_28 : decode cX12_asksOf 28 = .ok (.iconst 0, 1) := by decide +kernel
theorem dX12_asksOf_29 : decode cX12_asksOf 29 = .ok (.goto 4, 3) := by decide +kernel
theorem dX12_asksOf_32 : decode cX12_asksOf 32 = .ok (.iconst 1, 1) := by decide +kernel
theorem dX12_asksOf_33 : decode cX12_asksOf 33 = .ok (.iadd, 1) := by decide +kernel
theorem dX12_asksOf_34 : decode cX12_asksOf 34 = .ok (.istore_n 2, 1) := by decide +kernel
theorem dX12_asksOf_35 : decode cX12_asksOf 35 = .ok (.iinc 3 1, 3) := by decide +kernel
theorem dX12_asksOf_38 : decode cX12_asksOf 38 = .ok (.goto (-34), 3) := by decide +kernel
theorem dX12_asksOf_41 : decode cX12_asksOf 41 = .ok (.iload_n 2, 1) := by decide +kernel
theorem dX12_asksOf_42 : decode cX12_asksOf 42 = .ok (.ireturn, 1) := by decide +kernel
theorem dX12_readerIs_0 : decode cX12_readerIs 0 = .ok (.aload_n 0, 1) := by decide +kernel
theorem dX12_readerIs_1 : decode cX12_readerIs 1 = .ok (.iload_n 1, 1) := by decide +kernel
theorem dX12_readerIs_2 : decode cX12_readerIs 2 = .ok (.invokevirtual 214, 3) := by decide +kernel
theorem dX12_readerIs_5 : decode cX12_readerIs 5 = .ok (.ifCond .ne 5, 3) := by decide +kernel
theorem dX12_readerIs_8 : decode cX12_readerIs 8 = .ok (.iconst (-1), 1) := by decide +kernel
theorem dX12_readerIs_9 : decode cX12_readerIs 9 = .ok (.ireturn, 1) := by decide +kernel
theorem dX12_readerIs_10 : decode cX12_readerIs 10 = .ok (.iload_n 2, 1) := by decide +kernel
theorem dX12_readerIs_11 : decode cX12_readerIs 11 = .ok (.tableswitch 104 0 4 #[33, 39, 46, 53, 98], 33) := by decide +kernel
theorem dX12_readerIs_44 : decode cX12_readerIs 44 = .ok (.aload_n 0, 1) := by decide +kernel
theorem dX12_readerIs_45 : decode cX12_readerIs 45 = .ok (.iload_n 1, 1) := by decide +kernel
theorem dX12_readerIs_46 : decode cX12_readerIs 46 = .ok (.invokevirtual 328, 3) := by decide +kernel
theorem dX12_readerIs_49 : decode cX12_readerIs 49 = .ok (.ireturn, 1) := by decide +kernel
theorem dX12_readerIs_50 : decode cX12_readerIs 50 = .ok (.aload_n 0, 1) := by decide +kernel
theorem dX12_readerIs_51 : decode cX12_readerIs 51 = .ok (.getfield 64, 3) := by decide +kernel
theorem dX12_readerIs_54 : decode cX12_readerIs 54 = .ok (.iload_n 1, 1) := by decide +kernel
theorem dX12_readerIs_55 : decode cX12_readerIs 55 = .ok (.iaload, 1) := by decide +kernel
theorem dX12_readerIs_56 : decode cX12_readerIs 56 = .ok (.ireturn, 1) := by decide +kernel
theorem dX12_readerIs_57 : decode cX12_readerIs 57 = .ok (.aload_n 0, 1) := by decide +kernel
theorem dX12_readerIs_58 : decode cX12_readerIs 58 = .ok (.getfield 61, 3) := by decide +kernel
theorem dX12_readerIs_61 : decode cX12_readerIs 61 = .ok (.iload_n 1, 1) := by decide +kernel
theorem dX12_readerIs_62 : decode cX12_readerIs 62 = .ok (.iaload, 1) := by decide +kernel
theorem dX12_readerIs_63 : decode cX12_readerIs 63 = .ok (.ireturn, 1) := by decide +kernel
theorem dX12_readerIs_64 : decode cX12_readerIs 64 = .ok (.iconst 0, 1) := by decide +kernel
theorem dX12_readerIs_65 : decode cX12_readerIs 65 = .ok (.istore_n 3, 1) := by decide +kernel
theorem dX12_readerIs_66 : decode cX12_readerIs 66 = .ok (.iconst 0, 1) := by decide +kernel
theorem dX12_readerIs_67 : decode cX12_readerIs 67 = .ok (.istore 4, 2) := by decide +kernel
theorem dX12_readerIs_69 : decode cX12_readerIs 69 = .ok (.iload 4, 2) := by decide +kernel
theorem dX12_readerIs_71 : decode cX12_readerIs 71 = .ok (.aload_n 0, 1) := by decide +kernel
theorem dX12_readerIs_72 : decode cX12_readerIs 72 = .ok (.getfield 187, 3) := by decide +kernel
theorem dX12_readerIs_75 : decode cX12_readerIs 75 = .ok (.if_icmp .ge 32, 3) := by decide +kernel
theorem dX12_readerIs_78 : decode cX12_readerIs 78 = .ok (.iload_n 3, 1) := by decide +kernel
theorem dX12_readerIs_79 : decode cX12_readerIs 79 = .ok (.aload_n 0, 1) := by decide +kernel
theorem dX12_readerIs_80 : decode cX12_readerIs 80 = .ok (.getfield 70, 3) := by decide +kernel
theorem dX12_readerIs_83 : decode cX12_readerIs 83 = .ok (.bipush 32, 2) := by decide +kernel
theorem dX12_readerIs_85 : decode cX12_readerIs 85 = .ok (.iload_n 1, 1) := by decide +kernel
theorem dX12_readerIs_86 : decode cX12_readerIs 86 = .ok (.imul, 1) := by decide +kernel
theorem dX12_readerIs_87 : decode cX12_readerIs 87 = .ok (.iload 4, 2) := by decide +kernel
theorem dX12_readerIs_89 : decode cX12_readerIs 89 = .ok (.iadd, 1) := by decide +kernel
theorem dX12_readerIs_90 : decode cX12_readerIs 90 = .ok (.baload, 1) := by decide +kernel
theorem dX12_readerIs_91 : decode cX12_readerIs 91 = .ok (.ifCond .eq 7, 3) := by decide +kernel
theorem dX12_readerIs_94 : decode cX12_readerIs 94 = .ok (.iconst 1, 1) := by decide +kernel
theorem dX12_readerIs_95 : decode cX12_readerIs 95 = .ok (.goto 4, 3) := by decide +kernel
theorem dX12_readerIs_98 : decode cX12_readerIs 98 = .ok (.iconst 0, 1) := by decide +kernel
theorem dX12_readerIs_99 : decode cX12_readerIs 99 = .ok (.iadd, 1) := by decide +kernel
theorem dX12_readerIs_100 : decode cX12_readerIs 100 = .ok (.istore_n 3, 1) := by decide +kernel
theorem dX12_readerIs_101 : decode cX12_readerIs 101 = .ok (.iinc 4 1, 3) := by decide +kernel
theorem dX12_readerIs_104 : decode cX12_readerIs 104 = .ok (.goto (-35), 3) := by decide +kernel
theorem dX12_readerIs_107 : decode cX12_readerIs 107 = .ok (.iload_n 3, 1) := by decide +kernel
theorem dX12_readerIs_108 : decode cX12_readerIs 108 = .ok (.ireturn, 1) := by decide +kernel
theorem dX12_readerIs_109 : decode cX12_readerIs 109 = .ok (.aload_n 0, 1) := by decide +kernel
theorem dX12_readerIs_110 : decode cX12_readerIs 110 = .ok (.iload_n 1, 1) := by decide +kernel
theorem dX12_readerIs_111 : decode cX12_readerIs 111 = .ok (.invokevirtual 373, 3) := by decide +kernel
theorem dX12_readerIs_114 : decode cX12_readerIs 114 = .ok (.ireturn, 1) := by decide +kernel
theorem dX12_readerIs_115 : decode cX12_readerIs 115 = .ok (.iconst (-1), 1) := by decide +kernel
theorem dX12_readerIs_116 : decode cX12_readerIs 116 = .ok (.ireturn, 1) := by decide +kernel
theorem dX12_pays_0 : decode cX12_pays 0 = .ok (.aload_n 0, 1) := by decide +kernel
theorem dX12_pays_1 : decode cX12_pays 1 = .ok (.iload_n 1, 1) := by decide +kernel
theorem dX12_pays_2 : decode cX12_pays 2 = .ok (.invokevirtual 214, 3) := by decide +kernel
theorem dX12_pays_5 : decode cX12_pays 5 = .ok (.ifCond .eq 17, 3) := by decide +kernel
theorem dX12_pays_8 : decode cX12_pays 8 = .ok (.iload_n 2, 1) := by decide +kernel
theorem dX12_pays_9 : decode cX12_pays 9 = .ok (.iconst 1, 1) := by decide +kernel
theorem dX12_pays_10 : decode cX12_pays 10 = .ok (.aload_n 0, 1) := by decide +kernel
theorem dX12_pays_11 : decode cX12_pays 11 = .ok (.getfield 61, 3) := by decide +kernel
theorem dX12_pays_14 : decode cX12_pays 14 = .ok (.iload_n 1, 1) := by decide +kernel
theorem dX12_pays_15 : decode cX12_pays 15 = .ok (.iaload, 1) := by decide +kernel
theorem dX12_pays_16 : decode cX12_pays 16 = .ok (.invokestatic 199, 3) := by decide +kernel
theorem dX12_pays_19 : decode cX12_pays 19 = .ok (.ifCond .ne 5, 3) := by decide +kernel
theorem dX12_pays_22 : decode cX12_pays 22 = .ok (.iconst (-1), 1) := by decide +kernel
theorem dX12_pays_23 : decode cX12_pays 23 = .ok (.ireturn, 1) := by decide +kernel
theorem dX12_pays_24 : decode cX12_pays 24 = .ok (.aload_n 0, 1) := by decide +kernel
theorem dX12_pays_25 : decode cX12_pays 25 = .ok (.getfield 61, 3) := by decide +kernel
theorem dX12_pays_28 : decode cX12_pays 28 = .ok (.iload_n 1, 1) := by decide +kernel
theorem dX12_pays_29 : decode cX12_pays 29 = .ok (.aload_n 0, 1) := by decide +kernel
theorem dX12_pays_30 : decode cX12_pays 30 = .ok (.getfield 61, 3) := by decide +kernel
theorem dX12_pays_33 : decode cX12_pays 33 = .ok (.iload_n 1, 1) := by decide +kernel
theorem dX12_pays_34 : decode cX12_pays 34 = .ok (.iaload, 1) := by decide +kernel
theorem dX12_pays_35 : decode cX12_pays 35 = .ok (.iload_n 2, 1) := by decide +kernel
theorem dX12_pays_36 : decode cX12_pays 36 = .ok (.isub, 1) := by decide +kernel
theorem dX12_pays_37 : decode cX12_pays 37 = .ok (.iastore, 1) := by decide +kernel
theorem dX12_pays_38 : decode cX12_pays 38 = .ok (.aload_n 0, 1) := by decide +kernel
theorem dX12_pays_39 : decode cX12_pays 39 = .ok (.getfield 61, 3) := by decide +kernel
theorem dX12_pays_42 : decode cX12_pays 42 = .ok (.iload_n 1, 1) := by decide +kernel
theorem dX12_pays_43 : decode cX12_pays 43 = .ok (.iaload, 1) := by decide +kernel
theorem dX12_pays_44 : decode cX12_pays 44 = .ok (.ireturn, 1) := by decide +kernel
theorem dX12_ask_0 : decode cX12_ask 0 = .ok (.aload_n 0, 1) := by decide +kernel
theorem dX12_ask_1 : decode cX12_ask 1 = .ok (.iload_n 1, 1) := by decide +kernel
theorem dX12_ask_2 : decode cX12_ask 2 = .ok (.invokevirtual 214, 3) := by decide +kernel
theorem dX12_ask_5 : decode cX12_ask 5 = .ok (.ifCond .eq 67, 3) := by decide +kernel
theorem dX12_ask_8 : decode cX12_ask 8 = .ok (.aload_n 0, 1) := by decide +kernel
theorem dX12_ask_9 : decode cX12_ask 9 = .ok (.iload_n 2, 1) := by decide +kernel
theorem dX12_ask_10 : decode cX12_ask 10 = .ok (.invokevirtual 217, 3) := by decide +kernel
theorem dX12_ask_13 : decode cX12_ask 13 = .ok (.ifCond .eq 59, 3) := by decide +kernel
theorem dX12_ask_16 : decode cX12_ask 16 = .ok (.iload_n 3, 1) := by decide +kernel
theorem dX12_ask_17 : decode cX12_ask 17 = .ok (.aload_n 0, 1) := by decide +kernel
theorem dX12_ask_18 : decode cX12_ask 18 = .ok (.getfield 196, 3) := by decide +kernel
theorem dX12_ask_21 : decode cX12_ask 21 = .ok (.sipush 199, 3) := by decide +kernel
theorem dX12_ask_24 : decode cX12_ask 24 = .ok (.invokestatic 199, 3) := by decide +kernel
theorem dX12_ask_27 : decode cX12_ask 27 = .ok (.ifCond .eq 45, 3) := by decide +kernel
theorem dX12_ask_30 : decode cX12_ask 30 = .ok (.aload_n 0, 1) := by decide +kernel
theorem dX12_ask_31 : decode cX12_ask 31 = .ok (.getfield 67, 3) := by decide +kernel
theorem dX12_ask_34 : decode cX12_ask 34 = .ok (.bipush 32, 2) := by decide +kernel
theorem dX12_ask_36 : decode cX12_ask 36 = .ok (.iload_n 1, 1) := by decide +kernel
theorem dX12_ask_37 : decode cX12_ask 37 = .ok (.imul, 1) := by decide +kernel
theorem dX12_ask_38 : decode cX12_ask 38 = .ok (.iload_n 2, 1) := by decide +kernel
theorem dX12_ask_39 : decode cX12_ask 39 = .ok (.iadd, 1) := by decide +kernel
theorem dX12_ask_40 : decode cX12_ask 40 = .ok (.iaload, 1) := by decide +kernel
theorem dX12_ask_41 : decode cX12_ask 41 = .ok (.iconst (-1), 1) := by decide +kernel
theorem dX12_ask_42 : decode cX12_ask 42 = .ok (.if_icmp .ne 30, 3) := by decide +kernel
theorem dX12_ask_45 : decode cX12_ask 45 = .ok (.aload_n 0, 1) := by decide +kernel
theorem dX12_ask_46 : decode cX12_ask 46 = .ok (.getfield 22, 3) := by decide +kernel
theorem dX12_ask_49 : decode cX12_ask 49 = .ok (.iload_n 2, 1) := by decide +kernel
theorem dX12_ask_50 : decode cX12_ask 50 = .ok (.iaload, 1) := by decide +kernel
theorem dX12_ask_51 : decode cX12_ask 51 = .ok (.bipush 10, 2) := by decide +kernel
theorem dX12_ask_53 : decode cX12_ask 53 = .ok (.iload_n 1, 1) := by decide +kernel
theorem dX12_ask_54 : decode cX12_ask 54 = .ok (.iadd, 1) := by decide +kernel
theorem dX12_ask_55 : decode cX12_ask 55 = .ok (.if_icmp .eq 17, 3) := by decide +kernel
theorem dX12_ask_58 : decode cX12_ask 58 = .ok (.aload_n 0, 1) := by decide +kernel
theorem dX12_ask_59 : decode cX12_ask 59 = .ok (.aload_n 0, 1) := by decide +kernel
theorem dX12_ask_60 : decode cX12_ask 60 = .ok (.getfield 52, 3) := by decide +kernel
theorem dX12_ask_63 : decode cX12_ask 63 = .ok (.iload_n 1, 1) := by decide +kernel
theorem dX12_ask_64 : decode cX12_ask 64 = .ok (.iaload, 1) := by decide +kernel
theorem dX12_ask_65 : decode cX12_ask 65 = .ok (.iload_n 3, 1) := by decide +kernel
theorem dX12_ask_66 : decode cX12_ask 66 = .ok (.invokevirtual 376, 3) := by decide +kernel
theorem dX12_ask_69 : decode cX12_ask 69 = .ok (.ifCond .ne 5, 3) := by decide +kernel
theorem dX12_ask_72 : decode cX12_ask 72 = .ok (.iconst 0, 1) := by decide +kernel
theorem dX12_ask_73 : decode cX12_ask 73 = .ok (.ireturn, 1) := by decide +kernel
theorem dX12_ask_74 : decode cX12_ask 74 = .ok (.aload_n 0, 1) := by decide +kernel
theorem dX12_ask_75 : decode cX12_ask 75 = .ok (.getfield 67, 3) := by decide +kernel
theorem dX12_ask_78 : decode cX12_ask 78 = .ok (.bipush 32, 2) := by decide +kernel
theorem dX12_ask_80 : decode cX12_ask 80 = .ok (.iload_n 1, 1) := by decide +kernel
theorem dX12_ask_81 : decode cX12_ask 81 = .ok (.imul, 1) := by decide +kernel
theorem dX12_ask_82 : decode cX12_ask 82 = .ok (.iload_n 2, 1) := by decide +kernel
theorem dX12_ask_83 : decode cX12_ask 83 = .ok (.iadd, 1) := by decide +kernel
theorem dX12_ask_84 : decode cX12_ask 84 = .ok (.iload_n 3, 1) := by decide +kernel
theorem dX12_ask_85 : decode cX12_ask 85 = .ok (.iastore, 1) := by decide +kernel
theorem dX12_ask_86 : decode cX12_ask 86 = .ok (.iconst 1, 1) := by decide +kernel
theorem dX12_ask_87 : decode cX12_ask 87 = .ok (.ireturn, 1) := by decide +kernel
theorem dX12_unask_0 : decode cX12_unask 0 = .ok (.aload_n 0, 1) := by decide +kernel
theorem dX12_unask_1 : decode cX12_unask 1 = .ok (.iload_n 1, 1) := by decide +kernel
theorem dX12_unask_2 : decode cX12_unask 2 = .ok (.invokevirtual 214, 3) := by decide +kernel
theorem dX12_unask_5 : decode cX12_unask 5 = .ok (.ifCond .eq 26, 3) := by decide +kernel
theorem dX12_unask_8 : decode cX12_unask 8 = .ok (.aload_n 0, 1) := by decide +kernel
theorem dX12_unask_9 : decode cX12_unask 9 = .ok (.iload_n 2, 1) := by decide +kernel
theorem dX12_unask_10 : decode cX12_unask 10 = .ok (.invokevirtual 217, 3) := by decide +kernel
theorem dX12_unask_13 : decode cX12_unask 13 = .ok (.ifCond .eq 18, 3) := by decide +kernel
theorem dX12_unask_16 : decode cX12_unask 16 = .ok (.aload_n 0, 1) := by decide +kernel
theorem dX12_unask_17 : decode cX12_unask 17 = .ok (.getfield 67, 3) := by decide +kernel
theorem dX12_unask_20 : decode cX12_unask 20 = .ok (.bipush 32, 2) := by decide +kernel
theorem dX12_unask_22 : decode cX12_unask 22 = .ok (.iload_n 1, 1) := by decide +kernel
theorem dX12_unask_23 : decode cX12_unask 23 = .ok (.imul, 1) := by decide +kernel
theorem dX12_unask_24 : decode cX12_unask 24 = .ok (.iload_n 2, 1) := by decide +kernel
theorem dX12_unask_25 : decode cX12_unask 25 = .ok (.iadd, 1) := by decide +kernel
theorem dX12_unask_26 : decode cX12_unask 26 = .ok (.iaload, 1) := by decide +kernel
theorem dX12_unask_27 : decode cX12_unask 27 = .ok (.iconst (-1), 1) := by decide +kernel
theorem dX12_unask_28 : decode cX12_unask 28 = .ok (.if_icmp .ne 5, 3) := by decide +kernel
theorem dX12_unask_31 : decode cX12_unask 31 = .ok (.iconst 0, 1) := by decide +kernel
theorem dX12_unask_32 : decode cX12_unask 32 = .ok (.ireturn, 1) := by decide +kernel
theorem dX12_unask_33 : decode cX12_unask 33 = .ok (.aload_n 0, 1) := by decide +kernel
theorem dX12_unask_34 : decode cX12_unask 34 = .ok (.getfield 67, 3) := by decide +kernel
theorem dX12_unask_37 : decode cX12_unask 37 = .ok (.bipush 32, 2) := by decide +kernel
theorem dX12_unask_39 : decode cX12_unask 39 = .ok (.iload_n 1, 1) := by decide +kernel
theorem dX12_unask_40 : decode cX12_unask 40 = .ok (.imul, 1) := by decide +kernel
theorem dX12_unask_41 : decode cX12_unask 41 = .ok (.iload_n 2, 1) := by decide +kernel
theorem dX12_unask_42 : decode cX12_unask 42 = .ok (.iadd, 1) := by decide +kernel
theorem dX12_unask_43 : decode cX12_unask 43 = .ok (.iconst (-1), 1) := by decide +kernel
theorem dX12_unask_44 : decode cX12_unask 44 = .ok (.iastore, 1) := by decide +kernel
theorem dX12_unask_45 : decode cX12_unask 45 = .ok (.iconst 1, 1) := by decide +kernel
theorem dX12_unask_46 : decode cX12_unask 46 = .ok (.ireturn, 1) := by decide +kernel
theorem dX12_aboardOf_0 : decode cX12_aboardOf 0 = .ok (.lconst 0, 1) := by decide +kernel
theorem dX12_aboardOf_1 : decode cX12_aboardOf 1 = .ok (.lstore_n 3, 1) := by decide +kernel
theorem dX12_aboardOf_2 : decode cX12_aboardOf 2 = .ok (.iconst 0, 1) := by decide +kernel
theorem dX12_aboardOf_3 : decode cX12_aboardOf 3 = .ok (.istore 5, 2) := by decide +kernel
theorem dX12_aboardOf_5 : decode cX12_aboardOf 5 = .ok (.iload 5, 2) := by decide +kernel
theorem dX12_aboardOf_7 : decode cX12_aboardOf 7 = .ok (.aload_n 0, 1) := by decide +kernel
theorem dX12_aboardOf_8 : decode cX12_aboardOf 8 = .ok (.getfield 193, 3) := by decide +kernel
theorem dX12_aboardOf_11 : decode cX12_aboardOf 11 = .ok (.if_icmp .ge 70, 3) := by decide +kernel
theorem dX12_aboardOf_14 : decode cX12_aboardOf 14 = .ok (.aload_n 0, 1) := by decide +kernel
theorem dX12_aboardOf_15 : decode cX12_aboardOf 15 = .ok (.iload_n 2, 1) := by decide +kernel
theorem dX12_aboardOf_16 : decode cX12_aboardOf 16 = .ok (.aload_n 0, 1) := by decide +kernel
theorem dX12_aboardOf_17 : decode cX12_aboardOf 17 = .ok (.getfield 52, 3) := by decide +kernel
theorem dX12_aboardOf_20 : decode cX12_aboardOf 20 = .ok (.iload 5, 2) := by decide +kernel
theorem dX12_aboardOf_22 : decode cX12_aboardOf 22 = .ok (.iaload, 1) := by decide +kernel
theorem dX12_aboardOf_23 : decode cX12_aboardOf 23 = .ok (.iload_n 1, 1) := by decide +kernel
theorem dX12_aboardOf_24 : decode cX12_aboardOf 24 = .ok (.invokevirtual 346, 3) := by decide +kernel
theorem dX12_aboardOf_27 : decode cX12_aboardOf 27 = .ok (.ifCond .ne 6, 3) := by decide +kernel
theorem dX12_aboardOf_30 : decode cX12_aboardOf 30 = .ok (.goto 45, 3) := by decide +kernel
theorem dX12_aboardOf_33 : decode cX12_aboardOf 33 = .ok (.iconst 0, 1) := by decide +kernel
theorem dX12_aboardOf_34 : decode cX12_aboardOf 34 = .ok (.istore 6, 2) := by decide +kernel
theorem dX12_aboardOf_36 : decode cX12_aboardOf 36 = .ok (.iload 6, 2) := by decide +kernel
theorem dX12_aboardOf_38 : decode cX12_aboardOf 38 = .ok (.aload_n 0, 1) := by decide +kernel
theorem dX12_aboardOf_39 : decode cX12_aboardOf 39 = .ok (.getfield 187, 3) := by decide +kernel
theorem dX12_aboardOf_42 : decode cX12_aboardOf 42 = .ok (.if_icmp .ge 33, 3) := by decide +kernel
theorem dX12_aboardOf_45 : decode cX12_aboardOf 45 = .ok (.aload_n 0, 1) := by decide +kernel
theorem dX12_aboardOf_46 : decode cX12_aboardOf 46 = .ok (.getfield 67, 3) := by decide +kernel
theorem dX12_aboardOf_49 : decode cX12_aboardOf 49 = .ok (.bipush 32, 2) := by decide +kernel
theorem dX12_aboardOf_51 : decode cX12_aboardOf 51 = .ok (.iload 5, 2) := by decide +kernel
theorem dX12_aboardOf_53 : decode cX12_aboardOf 53 = .ok (.imul, 1) := by decide +kernel
theorem dX12_aboardOf_54 : decode cX12_aboardOf 54 = .ok (.iload 6, 2) := by decide +kernel
theorem dX12_aboardOf_56 : decode cX12_aboardOf 56 = .ok (.iadd, 1) := by decide +kernel
theorem dX12_aboardOf_57 : decode cX12_aboardOf 57 = .ok (.iaload, 1) := by decide +kernel
theorem dX12_aboardOf_58 : decode cX12_aboardOf 58 = .ok (.iload_n 1, 1) := by decide +kernel
theorem dX12_aboardOf_59 : decode cX12_aboardOf 59 = .ok (.if_icmp .ne 10, 3) := by decide +kernel
theorem dX12_aboardOf_62 : decode cX12_aboardOf 62 = .ok (.lload_n 3, 1) := by decide +kernel
theorem dX12_aboardOf_63 : decode cX12_aboardOf 63 = .ok (.lconst 1, 1) := by decide +kernel
theorem dX12_aboardOf_64 : decode cX12_aboardOf 64 = .ok (.iload 6, 2) := by decide +kernel
theorem dX12_aboardOf_66 : decode cX12_aboardOf 66 = .ok (.lshl, 1) := by decide +kernel
theorem dX12_aboardOf_67 : decode cX12_aboardOf 67 = .ok (.lor, 1) := by decide +kernel
theorem dX12_aboardOf_68 : decode cX12_aboardOf 68 = .ok (.lstore_n 3, 1) := by decide +kernel
theorem dX12_aboardOf_69 : decode cX12_aboardOf 69 = .ok (.iinc 6 1, 3) := by decide +kernel
theorem dX12_aboardOf_72 : decode cX12_aboardOf 72 = .ok (.goto (-36), 3) := by decide +kernel
theorem dX12_aboardOf_75 : decode cX12_aboardOf 75 = .ok (.iinc 5 1, 3) := by decide +kernel
theorem dX12_aboardOf_78 : decode cX12_aboardOf 78 = .ok (.goto (-73), 3) := by decide +kernel
theorem dX12_aboardOf_81 : decode cX12_aboardOf 81 = .ok (.lload_n 3, 1) := by decide +kernel
theorem dX12_aboardOf_82 : decode cX12_aboardOf 82 = .ok (.lreturn, 1) := by decide +kernel
theorem dX12_aboard_0 : decode cX12_aboard 0 = .ok (.iload_n 1, 1) := by decide +kernel
theorem dX12_aboard_1 : decode cX12_aboard 1 = .ok (.invokestatic 349, 3) := by decide +kernel
theorem dX12_aboard_4 : decode cX12_aboard 4 = .ok (.ifCond .eq 19, 3) := by decide +kernel
theorem dX12_aboard_7 : decode cX12_aboard 7 = .ok (.iload_n 2, 1) := by decide +kernel
theorem dX12_aboard_8 : decode cX12_aboard 8 = .ok (.invokestatic 203, 3) := by decide +kernel
theorem dX12_aboard_11 : decode cX12_aboard 11 = .ok (.ifCond .eq 12, 3) := by decide +kernel
theorem dX12_aboard_14 : decode cX12_aboard 14 = .ok (.aload_n 0, 1) := by decide +kernel
theorem dX12_aboard_15 : decode cX12_aboard 15 = .ok (.iload_n 1, 1) := by decide +kernel
theorem dX12_aboard_16 : decode cX12_aboard 16 = .ok (.iload_n 2, 1) := by decide +kernel
theorem dX12_aboard_17 : decode cX12_aboard 17 = .ok (.invokevirtual 379, 3) := by decide +kernel
theorem dX12_aboard_20 : decode cX12_aboard 20 = .ok (.goto 6, 3) := by decide +kernel
theorem dX12_aboard_23 : decode cX12_aboard 23 = .ok (.ldc2_w 383, 3) := by decide +kernel
theorem dX12_aboard_26 : decode cX12_aboard 26 = .ok (.lreturn, 1) := by decide +kernel
theorem dX12_firstVisit_0 : decode cX12_firstVisit 0 = .ok (.iload_n 2, 1) := by decide +kernel
theorem dX12_firstVisit_1 : decode cX12_firstVisit 1 = .ok (.istore_n 3, 1) := by decide +kernel
theorem dX12_firstVisit_2 : decode cX12_firstVisit 2 = .ok (.iload_n 3, 1) := by decide +kernel
theorem dX12_firstVisit_3 : decode cX12_firstVisit 3 = .ok (.sipush 199, 3) := by decide +kernel
theorem dX12_firstVisit_6 : decode cX12_firstVisit 6 = .ok (.if_icmp .gt 20, 3) := by decide +kernel
theorem dX12_firstVisit_9 : decode cX12_firstVisit 9 = .ok (.aload_n 0, 1) := by decide +kernel
theorem dX12_firstVisit_10 : decode cX12_firstVisit 10 = .ok (.iload_n 1, 1) := by decide +kernel
theorem dX12_firstVisit_11 : decode cX12_firstVisit 11 = .ok (.iload_n 3, 1) := by decide +kernel
theorem dX12_firstVisit_12 : decode cX12_firstVisit 12 = .ok (.invokevirtual 376, 3) := by decide +kernel
theorem dX12_firstVisit_15 : decode cX12_firstVisit 15 = .ok (.ifCond .eq 5, 3) := by decide +kernel
theorem dX12_firstVisit_18 : decode cX12_firstVisit 18 = .ok (.iload_n 3, 1) := by decide +kernel
theorem dX12_firstVisit_19 : decode cX12_firstVisit 19 = .ok (.ireturn, 1) := by decide +kernel
theorem dX12_firstVisit_20 : decode cX12_firstVisit 20 = .ok (.iinc 3 1, 3) := by decide +kernel
theorem dX12_firstVisit_23 : decode cX12_firstVisit 23 = .ok (.goto (-21), 3) := by decide +kernel
theorem dX12_firstVisit_26 : decode cX12_firstVisit 26 = .ok (.bipush (-2), 2) := by decide +kernel
theorem dX12_firstVisit_28 : decode cX12_firstVisit 28 = .ok (.ireturn, 1) := by decide +kernel
theorem dX12_promised_0 : decode cX12_promised 0 = .ok (.aload_n 0, 1) := by decide +kernel
theorem dX12_promised_1 : decode cX12_promised 1 = .ok (.getfield 52, 3) := by decide +kernel
theorem dX12_promised_4 : decode cX12_promised 4 = .ok (.iload_n 1, 1) := by decide +kernel
theorem dX12_promised_5 : decode cX12_promised 5 = .ok (.iaload, 1) := by decide +kernel
theorem dX12_promised_6 : decode cX12_promised 6 = .ok (.istore_n 3, 1) := by decide +kernel
theorem dX12_promised_7 : decode cX12_promised 7 = .ok (.aload_n 0, 1) := by decide +kernel
theorem dX12_promised_8 : decode cX12_promised 8 = .ok (.getfield 22, 3) := by decide +kernel
theorem dX12_promised_11 : decode cX12_promised 11 = .ok (.iload_n 2, 1) := by decide +kernel
theorem dX12_promised_12 : decode cX12_promised 12 = .ok (.iaload, 1) := by decide +kernel
theorem dX12_promised_13 : decode cX12_promised 13 = .ok (.istore 4, 2) := by decide +kernel
theorem dX12_promised_15 : decode cX12_promised 15 = .ok (.iload 4, 2) := by decide +kernel
theorem dX12_promised_17 : decode cX12_promised 17 = .ok (.bipush 40, 2) := by decide +kernel
theorem dX12_promised_19 : decode cX12_promised 19 = .ok (.if_icmp .ne 6, 3) := by decide +kernel
theorem dX12_promised_22 : decode cX12_promised 22 = .ok (.bipush (-2), 2) := by decide +kernel
theorem dX12_promised_24 : decode cX12_promised 24 = .ok (.ireturn, 1) := by decide +kernel
theorem dX12_promised_25 : decode cX12_promised 25 = .ok (.iload 4, 2) := by decide +kernel
theorem dX12_promised_27 : decode cX12_promised 27 = .ok (.ifCond .ne 13, 3) := by decide +kernel
theorem dX12_promised_30 : decode cX12_promised 30 = .ok (.aload_n 0, 1) := by decide +kernel
theorem dX12_promised_31 : decode cX12_promised 31 = .ok (.iload_n 3, 1) := by decide +kernel
theorem dX12_promised_32 : decode cX12_promised 32 = .ok (.aload_n 0, 1) := by decide +kernel
theorem dX12_promised_33 : decode cX12_promised 33 = .ok (.getfield 196, 3) := by decide +kernel
theorem dX12_promised_36 : decode cX12_promised 36 = .ok (.invokevirtual 385, 3) := by decide +kernel
theorem dX12_promised_39 : decode cX12_promised 39 = .ok (.ireturn, 1) := by decide +kernel
theorem dX12_promised_40 : decode cX12_promised 40 = .ok (.iload 4, 2) := by decide +kernel
theorem dX12_promised_42 : decode cX12_promised 42 = .ok (.iconst 3, 1) := by decide +kernel
theorem dX12_promised_43 : decode cX12_promised 43 = .ok (.if_icmp .gt 38, 3) := by decide +kernel
theorem dX12_promised_46 : decode cX12_promised 46 = .ok (.aload_n 0, 1) := by decide +kernel
theorem dX12_promised_47 : decode cX12_promised 47 = .ok (.iload 4, 2) := by decide +kernel
theorem dX12_promised_49 : decode cX12_promised 49 = .ok (.iconst 1, 1) := by decide +kernel
theorem dX12_promised_50 : decode cX12_promised 50 = .ok (.isub, 1) := by decide +kernel
theorem dX12_promised_51 : decode cX12_promised 51 = .ok (.iload_n 3, 1) := by decide +kernel
theorem dX12_promised_52 : decode cX12_promised 52 = .ok (.aload_n 0, 1) := by decide +kernel
theorem dX12_promised_53 : decode cX12_promised 53 = .ok (.getfield 196, 3) := by decide +kernel
theorem dX12_promised_56 : decode cX12_promised 56 = .ok (.invokevirtual 346, 3) := by decide +kernel
theorem dX12_promised_59 : decode cX12_promised 59 = .ok (.ifCond .eq 10, 3) := by decide +kernel
theorem dX12_promised_62 : decode cX12_promised 62 = .ok (.aload_n 0, 1) := by decide +kernel
theorem dX12_promised_63 : decode cX12_promised 63 = .ok (.getfield 196, 3) := by decide +kernel
theorem dX12_promised_66 : decode cX12_promised 66 = .ok (.goto 14, 3) := by decide +kernel
theorem dX12_promised_69 : decode cX12_promised 69 = .ok (.aload_n 0, 1) := by decide +kernel
theorem dX12_promised_70 : decode cX12_promised 70 = .ok (.iload_n 3, 1) := by decide +kernel
theorem dX12_promised_71 : decode cX12_promised 71 = .ok (.aload_n 0, 1) := by decide +kernel
theorem dX12_promised_72 : decode cX12_promised 72 = .ok (.getfield 196, 3) := by decide +kernel
theorem dX12_promised_75 : decode cX12_promised 75 = .ok (.iconst 1, 1) := by decide +kernel
theorem dX12_promised_76 : decode cX12_promised 76 = .ok (.iadd, 1) := by decide +kernel
theorem dX12_promised_77 : decode cX12_promised 77 = .ok (.invokevirtual 385, 3) := by decide +kernel
theorem dX12_promised_80 : decode cX12_promised 80 = .ok (.ireturn, 1) := by decide +kernel
theorem dX12_promised_81 : decode cX12_promised 81 = .ok (.aload_n 0, 1) := by decide +kernel
theorem dX12_promised_82 : decode cX12_promised 82 = .ok (.getfield 52, 3) := by decide +kernel
theorem dX12_promised_85 : decode cX12_promised 85 = .ok (.iload 4, 2) := by decide +kernel
theorem dX12_promised_87 : decode cX12_promised 87 = .ok (.bipush 10, 2) := by decide +kernel
theorem dX12_promised_89 : decode cX12_promised 89 = .ok (.isub, 1) := by decide +kernel
theorem dX12_promised_90 : decode cX12_promised 90 = .ok (.iaload, 1) := by decide +kernel
theorem dX12_promised_91 : decode cX12_promised 91 = .ok (.istore 5, 2) := by decide +kernel
theorem dX12_promised_93 : decode cX12_promised 93 = .ok (.aload_n 0, 1) := by decide +kernel
theorem dX12_promised_94 : decode cX12_promised 94 = .ok (.iload 5, 2) := by decide +kernel
theorem dX12_promised_96 : decode cX12_promised 96 = .ok (.aload_n 0, 1) := by decide +kernel
theorem dX12_promised_97 : decode cX12_promised 97 = .ok (.getfield 25, 3) := by decide +kernel
theorem dX12_promised_100 : decode cX12_promised 100 = .ok (.iload_n 2, 1) := by decide +kernel
theorem dX12_promised_101 : decode cX12_promised 101 = .ok (.iaload, 1) := by decide +kernel
theorem dX12_promised_102 : decode cX12_promised 102 = .ok (.aload_n 0, 1) := by decide +kernel
theorem dX12_promised_103 : decode cX12_promised 103 = .ok (.getfield 196, 3) := by decide +kernel
theorem dX12_promised_106 : decode cX12_promised 106 = .ok (.if_icmp .ge 10, 3) := by decide +kernel
theorem dX12_promised_109 : decode cX12_promised 109 = .ok (.aload_n 0, 1) := by decide +kernel
theorem dX12_promised_110 : decode cX12_promised 110 = .ok (.getfield 196, 3) := by decide +kernel
theorem dX12_promised_113 : decode cX12_promised 113 = .ok (.goto 9, 3) := by decide +kernel
theorem dX12_promised_116 : decode cX12_promised 116 = .ok (.aload_n 0, 1) := by decide +kernel
theorem dX12_promised_117 : decode cX12_promised 117 = .ok (.getfield 25, 3) := by decide +kernel
theorem dX12_promised_120 : decode cX12_promised 120 = .ok (.iload_n 2, 1) := by decide +kernel
theorem dX12_promised_121 : decode cX12_promised 121 = .ok (.iaload, 1) := by decide +kernel
theorem dX12_promised_122 : decode cX12_promised 122 = .ok (.invokevirtual 385, 3) := by decide +kernel
theorem dX12_promised_125 : decode cX12_promised 125 = .ok (.istore 6, 2) := by decide +kernel
theorem dX12_promised_127 : decode cX12_promised 127 = .ok (.iload 6, 2) := by decide +kernel
theorem dX12_promised_129 : decode cX12_promised 129 = .ok (.bipush (-2), 2) := by decide +kernel
theorem dX12_promised_131 : decode cX12_promised 131 = .ok (.if_icmp .ne 8, 3) := by decide +kernel
theorem dX12_promised_134 : decode cX12_promised 134 = .ok (.bipush (-2), 2) := by decide +kernel
theorem dX12_promised_136 : decode cX12_promised 136 = .ok (.goto 23, 3) := by decide +kernel
theorem dX12_promised_139 : decode cX12_promised 139 = .ok (.aload_n 0, 1) := by decide +kernel
theorem dX12_promised_140 : decode cX12_promised 140 = .ok (.iload_n 3, 1) := by decide +kernel
theorem dX12_promised_141 : decode cX12_promised 141 = .ok (.iload 5, 2) := by decide +kernel
theorem dX12_promised_143 : decode cX12_promised 143 = .ok (.iload_n 3, 1) := by decide +kernel
theorem dX12_promised_144 : decode cX12_promised 144 = .ok (.if_icmp .ne 8, 3) := by decide +kernel
theorem dX12_promised_147 : decode cX12_promised 147 = .ok (.iload 6, 2) := by decide +kernel
theorem dX12_promised_149 : decode cX12_promised 149 = .ok (.goto 7, 3) := by decide +kernel
theorem dX12_promised_152 : decode cX12_promised 152 = .ok (.iload 6, 2) := by decide +kernel
theorem dX12_promised_154 : decode cX12_promised 154 = .ok (.iconst 1, 1) := by decide +kernel
theorem dX12_promised_155 : decode cX12_promised 155 = .ok (.iadd, 1) := by decide +kernel
theorem dX12_promised_156 : decode cX12_promised 156 = .ok (.invokevirtual 385, 3) := by decide +kernel
theorem dX12_promised_159 : decode cX12_promised 159 = .ok (.ireturn, 1) := by decide +kernel
theorem dX12_promise_0 : decode cX12_promise 0 = .ok (.aload_n 0, 1) := by decide +kernel
theorem dX12_promise_1 : decode cX12_promise 1 = .ok (.iload_n 1, 1) := by decide +kernel
theorem dX12_promise_2 : decode cX12_promise 2 = .ok (.invokevirtual 214, 3) := by decide +kernel
theorem dX12_promise_5 : decode cX12_promise 5 = .ok (.ifCond .eq 20, 3) := by decide +kernel
theorem dX12_promise_8 : decode cX12_promise 8 = .ok (.aload_n 0, 1) := by decide +kernel
theorem dX12_promise_9 : decode cX12_promise 9 = .ok (.iload_n 2, 1) := by decide +kernel
theorem dX12_promise_10 : decode cX12_promise 10 = .ok (.invokevirtual 217, 3) := by decide +kernel
theorem dX12_promise_13 : decode cX12_promise 13 = .ok (.ifCond .eq 12, 3) := by decide +kernel
theorem dX12_promise_16 : decode cX12_promise 16 = .ok (.aload_n 0, 1) := by decide +kernel
theorem dX12_promise_17 : decode cX12_promise 17 = .ok (.iload_n 1, 1) := by decide +kernel
theorem dX12_promise_18 : decode cX12_promise 18 = .ok (.iload_n 2, 1) := by decide +kernel
theorem dX12_promise_19 : decode cX12_promise 19 = .ok (.invokevirtual 388, 3) := by decide +kernel
theorem dX12_promise_22 : decode cX12_promise 22 = .ok (.goto 4, 3) := by decide +kernel
theorem dX12_promise_25 : decode cX12_promise 25 = .ok (.iconst (-1), 1) := by decide +kernel
theorem dX12_promise_26 : decode cX12_promise 26 = .ok (.ireturn, 1) := by decide +kernel
theorem dX12_isAskedAhead_0 : decode cX12_isAskedAhead 0 = .ok (.iconst 0, 1) := by decide +kernel
theorem dX12_isAskedAhead_1 : decode cX12_isAskedAhead 1 = .ok (.istore 4, 2) := by decide +kernel
theorem dX12_isAskedAhead_3 : decode cX12_isAskedAhead 3 = .ok (.iload 4, 2) := by decide +kernel
theorem dX12_isAskedAhead_5 : decode cX12_isAskedAhead 5 = .ok (.aload_n 0, 1) := by decide +kernel
theorem dX12_isAskedAhead_6 : decode cX12_isAskedAhead 6 = .ok (.getfield 193, 3) := by decide +kernel
theorem dX12_isAskedAhead_9 : decode cX12_isAskedAhead 9 = .ok (.if_icmp .ge 58, 3) := by decide +kernel
theorem dX12_isAskedAhead_12 : decode cX12_isAskedAhead 12 = .ok (.aload_n 0, 1) := by decide +kernel
theorem dX12_isAskedAhead_13 : decode cX12_isAskedAhead 13 = .ok (.getfield 67, 3) := by decide +kernel
theorem dX12_isAskedAhead_16 : decode cX12_isAskedAhead 16 = .ok (.bipush 32, 2) := by decide +kernel
theorem dX12_isAskedAhead_18 : decode cX12_isAskedAhead 18 = .ok (.iload 4, 2) := by decide +kernel
theorem dX12_isAskedAhead_20 : decode cX12_isAskedAhead 20 = .ok (.imul, 1) := by decide +kernel
theorem dX12_isAskedAhead_21 : decode cX12_isAskedAhead 21 = .ok (.iload_n 2, 1) := by decide +kernel
theorem dX12_isAskedAhead_22 : decode cX12_isAskedAhead 22 = .ok (.iadd, 1) := by decide +kernel
theorem dX12_isAskedAhead_23 : decode cX12_isAskedAhead 23 = .ok (.iaload, 1) := by decide +kernel
theorem dX12_isAskedAhead_24 : decode cX12_isAskedAhead 24 = .ok (.istore 5, 2) := by decide +kernel
theorem dX12_isAskedAhead_26 : decode cX12_isAskedAhead 26 = .ok (.iload 4, 2) := by decide +kernel
theorem dX12_isAskedAhead_28 : decode cX12_isAskedAhead 28 = .ok (.iload_n 1, 1) := by decide +kernel
theorem dX12_isAskedAhead_29 : decode cX12_isAskedAhead 29 = .ok (.if_icmp .eq 32, 3) := by decide +kernel
theorem dX12_isAskedAhead_32 : decode cX12_isAskedAhead 32 = .ok (.iload 5, 2) := by decide +kernel
theorem dX12_isAskedAhead_34 : decode cX12_isAskedAhead 34 = .ok (.aload_n 0, 1) := by decide +kernel
theorem dX12_isAskedAhead_35 : decode cX12_isAskedAhead 35 = .ok (.getfield 196, 3) := by decide +kernel
theorem dX12_isAskedAhead_38 : decode cX12_isAskedAhead 38 = .ok (.if_icmp .lt 23, 3) := by decide +kernel
theorem dX12_isAskedAhead_41 : decode cX12_isAskedAhead 41 = .ok (.iload 5, 2) := by decide +kernel
theorem dX12_isAskedAhead_43 : decode cX12_isAskedAhead 43 = .ok (.iload_n 3, 1) := by decide +kernel
theorem dX12_isAskedAhead_44 : decode cX12_isAskedAhead 44 = .ok (.if_icmp .lt 15, 3) := by decide +kernel
theorem dX12_isAskedAhead_47 : decode cX12_isAskedAhead 47 = .ok (.iload 5, 2) := by decide +kernel
theorem dX12_isAskedAhead_49 : decode cX12_isAskedAhead 49 = .ok (.iload_n 3, 1) := by decide +kernel
theorem dX12_isAskedAhead_50 : decode cX12_isAskedAhead 50 = .ok (.if_icmp .ne 11, 3) := by decide +kernel
theorem dX12_isAskedAhead_53 : decode cX12_isAskedAhead 53 = .ok (.iload 4, 2) := by decide +kernel
theorem dX12_isAskedAhead_55 : decode cX12_isAskedAhead 55 = .ok (.iload_n 1, 1) := by decide +kernel
theorem dX12_isAskedAhead_56 : decode cX12_isAskedAhead 56 = .ok (.if_icmp .ge 5, 3) := by decide +kernel
theorem dX12_isAskedAhead_59 : decode cX12_isAskedAhead 59 = .ok (.iconst 1, 1) := by decide +kernel
theorem dX12_isAskedAhead_60 : decode cX12_isAskedAhead 60 = .ok (.ireturn, 1) := by decide +kernel
theorem dX12_isAskedAhead_61 : decode cX12_isAskedAhead 61 = .ok (.iinc 4 1, 3) := by decide +kernel
theorem dX12_isAskedAhead_64 : decode cX12_isAskedAhead 64 = .ok (.goto (-61), 3) := by decide +kernel
theorem dX12_isAskedAhead_67 : decode cX12_isAskedAhead 67 = .ok (.iconst 0, 1) := by decide +kernel
theorem dX12_isAskedAhead_68 : decode cX12_isAskedAhead 68 = .ok (.ireturn, 1) := by decide +kernel
theorem dX12_lengthOfSet_0 : decode cX12_lengthOfSet 0 = .ok (.iconst 0, 1) := by decide +kernel
theorem dX12_lengthOfSet_1 : decode cX12_lengthOfSet 1 = .ok (.istore_n 3, 1) := by decide +kernel
theorem dX12_lengthOfSet_2 : decode cX12_lengthOfSet 2 = .ok (.iconst 0, 1) := by decide +kernel
theorem dX12_lengthOfSet_3 : decode cX12_lengthOfSet 3 = .ok (.istore 4, 2) := by decide +kernel
theorem dX12_lengthOfSet_5 : decode cX12_lengthOfSet 5 = .ok (.iload 4, 2) := by decide +kernel
theorem dX12_lengthOfSet_7 : decode cX12_lengthOfSet 7 = .ok (.aload_n 0, 1) := by decide +kernel
theorem dX12_lengthOfSet_8 : decode cX12_lengthOfSet 8 = .ok (.getfield 187, 3) := by decide +kernel
theorem dX12_lengthOfSet_11 : decode cX12_lengthOfSet 11 = .ok (.if_icmp .ge 34, 3) := by decide +kernel
theorem dX12_lengthOfSet_14 : decode cX12_lengthOfSet 14 = .ok (.iload_n 3, 1) := by decide +kernel
theorem dX12_lengthOfSet_15 : decode cX12_lengthOfSet 15 = .ok (.lload_n 1, 1) := by decide +kernel
theorem dX12_lengthOfSet_16 : decode cX12_lengthOfSet 16 = .ok (.iload 4, 2) := by decide +kernel
theorem dX12_lengthOfSet_18 : decode cX12_lengthOfSet 18 = .ok (.lshr, 1) := by decide +kernel
theorem dX12_lengthOfSet_19 : decode cX12_lengthOfSet 19 = .ok (.lconst 1, 1) := by decide +kernel
theorem dX12_lengthOfSet_20 : decode cX12_lengthOfSet 20 = .ok (.land, 1) := by decide +kernel
theorem dX12_lengthOfSet_21 : decode cX12_lengthOfSet 21 = .ok (.lconst 1, 1) := by decide +kernel
theorem dX12_lengthOfSet_22 : decode cX12_lengthOfSet 22 = .ok (.lcmp, 1) := by decide +kernel
theorem dX12_lengthOfSet_23 : decode cX12_lengthOfSet 23 = .ok (.ifCond .ne 13, 3) := by decide +kernel
theorem dX12_lengthOfSet_26 : decode cX12_lengthOfSet 26 = .ok (.aload_n 0, 1) := by decide +kernel
theorem dX12_lengthOfSet_27 : decode cX12_lengthOfSet 27 = .ok (.getfield 13, 3) := by decide +kernel
theorem dX12_lengthOfSet_30 : decode cX12_lengthOfSet 30 = .ok (.iload 4, 2) := by decide +kernel
theorem dX12_lengthOfSet_32 : decode cX12_lengthOfSet 32 = .ok (.iaload, 1) := by decide +kernel
theorem dX12_lengthOfSet_33 : decode cX12_lengthOfSet 33 = .ok (.goto 4, 3) := by decide +kernel
theorem dX12_lengthOfSet_36 : decode cX12_lengthOfSet 36 = .ok (.iconst 0, 1) := by decide +kernel
theorem dX12_lengthOfSet_37 : decode cX12_lengthOfSet 37 = .ok (.iadd, 1) := by decide +kernel
theorem dX12_lengthOfSet_38 : decode cX12_lengthOfSet 38 = .ok (.istore_n 3, 1) := by decide +kernel
theorem dX12_lengthOfSet_39 : decode cX12_lengthOfSet 39 = .ok (.iinc 4 1, 3) := by decide +kernel
theorem dX12_lengthOfSet_42 : decode cX12_lengthOfSet 42 = .ok (.goto (-37), 3) := by decide +kernel
theorem dX12_lengthOfSet_45 : decode cX12_lengthOfSet 45 = .ok (.iload_n 3, 1) := by decide +kernel
theorem dX12_lengthOfSet_46 : decode cX12_lengthOfSet 46 = .ok (.ireturn, 1) := by decide +kernel
theorem dX12_whyNot_0 : decode cX12_whyNot 0 = .ok (.aload_n 0, 1) := by decide +kernel
theorem dX12_whyNot_1 : decode cX12_whyNot 1 = .ok (.iload_n 1, 1) := by decide +kernel
theorem dX12_whyNot_2 : decode cX12_whyNot 2 = .ok (.invokevirtual 214, 3) := by decide +kernel
theorem dX12_whyNot_5 : decode cX12_whyNot 5 = .ok (.ifCond .eq 11, 3) := by decide +kernel
theorem dX12_whyNot_8 : decode cX12_whyNot 8 = .ok (.aload_n 0, 1) := by decide +kernel
theorem dX12_whyNot_9 : decode cX12_whyNot 9 = .ok (.iload_n 2, 1) := by decide +kernel
theorem dX12_whyNot_10 : decode cX12_whyNot 10 = .ok (.invokevirtual 217, 3) := by decide +kernel
theorem dX12_whyNot_13 : decode cX12_whyNot 13 = .ok (.ifCond .ne 5, 3) := by decide +kernel
theorem dX12_whyNot_16 : decode cX12_whyNot 16 = .ok (.iconst (-1), 1) := by decide +kernel
theorem dX12_whyNot_17 : decode cX12_whyNot 17 = .ok (.ireturn, 1) := by decide +kernel
theorem dX12_whyNot_18 : decode cX12_whyNot 18 = .ok (.aload_n 0, 1) := by decide +kernel
theorem dX12_whyNot_19 : decode cX12_whyNot 19 = .ok (.getfield 67, 3) := by decide +kernel
theorem dX12_whyNot_22 : decode cX12_whyNot 22 = .ok (.bipush 32, 2) := by decide +kernel
theorem dX12_whyNot_24 : decode cX12_whyNot 24 = .ok (.iload_n 1, 1) := by decide +kernel
theorem dX12_whyNot_25 : decode cX12_whyNot 25 = .ok (.imul, 1) := by decide +kernel
theorem dX12_whyNot_26 : decode cX12_whyNot 26 = .ok (.iload_n 2, 1) := by decide +kernel
theorem dX12_whyNot_27 : decode cX12_whyNot 27 = .ok (.iadd, 1) := by decide +kernel
theorem dX12_whyNot_28 : decode cX12_whyNot 28 = .ok (.iaload, 1) := by decide +kernel
theorem dX12_whyNot_29 : decode cX12_whyNot 29 = .ok (.istore_n 3, 1) := by decide +kernel
theorem dX12_whyNot_30 : decode cX12_whyNot 30 = .ok (.iload_n 3, 1) := by decide +kernel
theorem dX12_whyNot_31 : decode cX12_whyNot 31 = .ok (.iconst (-1), 1) := by decide +kernel
theorem dX12_whyNot_32 : decode cX12_whyNot 32 = .ok (.if_icmp .eq 11, 3) := by decide +kernel
theorem dX12_whyNot_35 : decode cX12_whyNot 35 = .ok (.iload_n 3, 1) := by decide +kernel
theorem dX12_whyNot_36 : decode cX12_whyNot 36 = .ok (.aload_n 0, 1) := by decide +kernel
theorem dX12_whyNot_37 : decode cX12_whyNot 37 = .ok (.getfield 196, 3) := by decide +kernel
theorem dX12_whyNot_40 : decode cX12_whyNot 40 = .ok (.if_icmp .ge 5, 3) := by decide +kernel
theorem dX12_whyNot_43 : decode cX12_whyNot 43 = .ok (.iconst (-1), 1) := by decide +kernel
theorem dX12_whyNot_44 : decode cX12_whyNot 44 = .ok (.ireturn, 1) := by decide +kernel
theorem dX12_whyNot_45 : decode cX12_whyNot 45 = .ok (.aload_n 0, 1) := by decide +kernel
theorem dX12_whyNot_46 : decode cX12_whyNot 46 = .ok (.getfield 22, 3) := by decide +kernel
theorem dX12_whyNot_49 : decode cX12_whyNot 49 = .ok (.iload_n 2, 1) := by decide +kernel
theorem dX12_whyNot_50 : decode cX12_whyNot 50 = .ok (.iaload, 1) := by decide +kernel
theorem dX12_whyNot_51 : decode cX12_whyNot 51 = .ok (.istore 4, 2) := by decide +kernel
theorem dX12_whyNot_53 : decode cX12_whyNot 53 = .ok (.iload 4, 2) := by decide +kernel
theorem dX12_whyNot_55 : decode cX12_whyNot 55 = .ok (.bipush 40, 2) := by decide +kernel
theorem dX12_whyNot_57 : decode cX12_whyNot 57 = .ok (.if_icmp .ne 5, 3) := by decide +kernel
theorem dX12_whyNot_60 : decode cX12_whyNot 60 = .ok (.iconst 1, 1) := by decide +kernel
theorem dX12_whyNot_61 : decode cX12_whyNot 61 = .ok (.ireturn, 1) := by decide +kernel
theorem dX12_whyNot_62 : decode cX12_whyNot 62 = .ok (.aload_n 0, 1) := by decide +kernel
theorem dX12_whyNot_63 : decode cX12_whyNot 63 = .ok (.aload_n 0, 1) := by decide +kernel
theorem dX12_whyNot_64 : decode cX12_whyNot 64 = .ok (.getfield 52, 3) := by decide +kernel
theorem dX12_whyNot_67 : decode cX12_whyNot 67 = .ok (.iload_n 1, 1) := by decide +kernel
theorem dX12_whyNot_68 : decode cX12_whyNot 68 = .ok (.iaload, 1) := by decide +kernel
theorem dX12_whyNot_69 : decode cX12_whyNot 69 = .ok (.iload_n 3, 1) := by decide +kernel
theorem dX12_whyNot_70 : decode cX12_whyNot 70 = .ok (.invokevirtual 376, 3) := by decide +kernel
theorem dX12_whyNot_73 : decode cX12_whyNot 73 = .ok (.ifCond .ne 5, 3) := by decide +kernel
theorem dX12_whyNot_76 : decode cX12_whyNot 76 = .ok (.iconst 2, 1) := by decide +kernel
theorem dX12_whyNot_77 : decode cX12_whyNot 77 = .ok (.ireturn, 1) := by decide +kernel
theorem dX12_whyNot_78 : decode cX12_whyNot 78 = .ok (.iload 4, 2) := by decide +kernel
theorem dX12_whyNot_80 : decode cX12_whyNot 80 = .ok (.bipush 10, 2) := by decide +kernel
theorem dX12_whyNot_82 : decode cX12_whyNot 82 = .ok (.if_icmp .lt 26, 3) := by decide +kernel
theorem dX12_whyNot_85 : decode cX12_whyNot 85 = .ok (.aload_n 0, 1) := by decide +kernel
theorem dX12_whyNot_86 : decode cX12_whyNot 86 = .ok (.iload_n 1, 1) := by decide +kernel
theorem dX12_whyNot_87 : decode cX12_whyNot 87 = .ok (.iload_n 2, 1) := by decide +kernel
theorem dX12_whyNot_88 : decode cX12_whyNot 88 = .ok (.invokevirtual 388, 3) := by decide +kernel
theorem dX12_whyNot_91 : decode cX12_whyNot 91 = .ok (.istore 5, 2) := by decide +kernel
theorem dX12_whyNot_93 : decode cX12_whyNot 93 = .ok (.iload 5, 2) := by decide +kernel
theorem dX12_whyNot_95 : decode cX12_whyNot 95 = .ok (.bipush (-2), 2) := by decide +kernel
theorem dX12_whyNot_97 : decode cX12_whyNot 97 = .ok (.if_icmp .eq 9, 3) := by decide +kernel
theorem dX12_whyNot_100 : decode cX12_whyNot 100 = .ok (.iload 5, 2) := by decide +kernel
theorem dX12_whyNot_102 : decode cX12_whyNot 102 = .ok (.iload_n 3, 1) := by decide +kernel
theorem dX12_whyNot_103 : decode cX12_whyNot 103 = .ok (.if_icmp .le 5, 3) := by decide +kernel
theorem dX12_whyNot_106 : decode cX12_whyNot 106 = .ok (.iconst 3, 1) := by decide +kernel
theorem dX12_whyNot_107 : decode cX12_whyNot 107 = .ok (.ireturn, 1) := by decide +kernel
theorem dX12_whyNot_108 : decode cX12_whyNot 108 = .ok (.iload_n 3, 1) := by decide +kernel
theorem dX12_whyNot_109 : decode cX12_whyNot 109 = .ok (.aload_n 0, 1) := by decide +kernel
theorem dX12_whyNot_110 : decode cX12_whyNot 110 = .ok (.getfield 196, 3) := by decide +kernel
theorem dX12_whyNot_113 : decode cX12_whyNot 113 = .ok (.if_icmp .ne 36, 3) := by decide +kernel
theorem dX12_whyNot_116 : decode cX12_whyNot 116 = .ok (.iload 4, 2) := by decide +kernel
theorem dX12_whyNot_118 : decode cX12_whyNot 118 = .ok (.iconst 1, 1) := by decide +kernel
theorem dX12_whyNot_119 : decode cX12_whyNot 119 = .ok (.iconst 3, 1) := by decide +kernel
theorem dX12_whyNot_120 : decode cX12_whyNot 120 = .ok (.invokestatic 199, 3) := by decide +kernel
theorem dX12_whyNot_123 : decode cX12_whyNot 123 = .ok (.ifCond .eq 26, 3) := by decide +kernel
theorem dX12_whyNot_126 : decode cX12_whyNot 126 = .ok (.aload_n 0, 1) := by decide +kernel
theorem dX12_whyNot_127 : decode cX12_whyNot 127 = .ok (.iload 4, 2) := by decide +kernel
theorem dX12_whyNot_129 : decode cX12_whyNot 129 = .ok (.iconst 1, 1) := by decide +kernel
theorem dX12_whyNot_130 : decode cX12_whyNot 130 = .ok (.isub, 1) := by decide +kernel
theorem dX12_whyNot_131 : decode cX12_whyNot 131 = .ok (.aload_n 0, 1) := by decide +kernel
theorem dX12_whyNot_132 : decode cX12_whyNot 132 = .ok (.getfield 52, 3) := by decide +kernel
theorem dX12_whyNot_135 : decode cX12_whyNot 135 = .ok (.iload_n 1, 1) := by decide +kernel
theorem dX12_whyNot_136 : decode cX12_whyNot 136 = .ok (.iaload, 1) := by decide +kernel
theorem dX12_whyNot_137 : decode cX12_whyNot 137 = .ok (.aload_n 0, 1) := by decide +kernel
theorem dX12_whyNot_138 : decode cX12_whyNot 138 = .ok (.getfield 196, 3) := by decide +kernel
theorem dX12_whyNot_141 : decode cX12_whyNot 141 = .ok (.invokevirtual 346, 3) := by decide +kernel
theorem dX12_whyNot_144 : decode cX12_whyNot 144 = .ok (.ifCond .ne 5, 3) := by decide +kernel
theorem dX12_whyNot_147 : decode cX12_whyNot 147 = .ok (.iconst 4, 1) := by decide +kernel
theorem dX12_whyNot_148 : decode cX12_whyNot 148 = .ok (.ireturn, 1) := by decide +kernel
theorem dX12_whyNot_149 : decode cX12_whyNot 149 = .ok (.aload_n 0, 1) := by decide +kernel
theorem dX12_whyNot_150 : decode cX12_whyNot 150 = .ok (.iload_n 1, 1) := by decide +kernel
theorem dX12_whyNot_151 : decode cX12_whyNot 151 = .ok (.iload_n 2, 1) := by decide +kernel
theorem dX12_whyNot_152 : decode cX12_whyNot 152 = .ok (.iload_n 3, 1) := by decide +kernel
theorem dX12_whyNot_153 : decode cX12_whyNot 153 = .ok (.invokevirtual 391, 3) := by decide +kernel
theorem dX12_whyNot_156 : decode cX12_whyNot 156 = .ok (.ifCond .eq 5, 3) := by decide +kernel
theorem dX12_whyNot_159 : decode cX12_whyNot 159 = .ok (.iconst 5, 1) := by decide +kernel
theorem dX12_whyNot_160 : decode cX12_whyNot 160 = .ok (.ireturn, 1) := by decide +kernel
theorem dX12_whyNot_161 : decode cX12_whyNot 161 = .ok (.iconst 0, 1) := by decide +kernel
