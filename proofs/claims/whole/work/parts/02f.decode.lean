theorem dX12_whyNot_162 : decode cX12_whyNot 162 = .ok (.istore 5, 2) := by decide +kernel
theorem dX12_whyNot_164 : decode cX12_whyNot 164 = .ok (.aload_n 0, 1) := by decide +kernel
theorem dX12_whyNot_165 : decode cX12_whyNot 165 = .ok (.iload 5, 2) := by decide +kernel
theorem dX12_whyNot_167 : decode cX12_whyNot 167 = .ok (.aload_n 0, 1) := by decide +kernel
theorem dX12_whyNot_168 : decode cX12_whyNot 168 = .ok (.getfield 52, 3) := by decide +kernel
theorem dX12_whyNot_171 : decode cX12_whyNot 171 = .ok (.iload_n 1, 1) := by decide +kernel
theorem dX12_whyNot_172 : decode cX12_whyNot 172 = .ok (.iaload, 1) := by decide +kernel
theorem dX12_whyNot_173 : decode cX12_whyNot 173 = .ok (.iload_n 3, 1) := by decide +kernel
theorem dX12_whyNot_174 : decode cX12_whyNot 174 = .ok (.invokevirtual 346, 3) := by decide +kernel
theorem dX12_whyNot_177 : decode cX12_whyNot 177 = .ok (.ifCond .ne 12, 3) := by decide +kernel
theorem dX12_whyNot_180 : decode cX12_whyNot 180 = .ok (.iload 5, 2) := by decide +kernel
theorem dX12_whyNot_182 : decode cX12_whyNot 182 = .ok (.iconst 1, 1) := by decide +kernel
theorem dX12_whyNot_183 : decode cX12_whyNot 183 = .ok (.iadd, 1) := by decide +kernel
theorem dX12_whyNot_184 : decode cX12_whyNot 184 = .ok (.istore 5, 2) := by decide +kernel
theorem dX12_whyNot_186 : decode cX12_whyNot 186 = .ok (.goto (-22), 3) := by decide +kernel
theorem dX12_whyNot_189 : decode cX12_whyNot 189 = .ok (.aload_n 0, 1) := by decide +kernel
theorem dX12_whyNot_190 : decode cX12_whyNot 190 = .ok (.aload_n 0, 1) := by decide +kernel
theorem dX12_whyNot_191 : decode cX12_whyNot 191 = .ok (.iload_n 3, 1) := by decide +kernel
theorem dX12_whyNot_192 : decode cX12_whyNot 192 = .ok (.iload 5, 2) := by decide +kernel
theorem dX12_whyNot_194 : decode cX12_whyNot 194 = .ok (.invokevirtual 379, 3) := by decide +kernel
theorem dX12_whyNot_197 : decode cX12_whyNot 197 = .ok (.invokevirtual 394, 3) := by decide +kernel
theorem dX12_whyNot_200 : decode cX12_whyNot 200 = .ok (.aload_n 0, 1) := by decide +kernel
theorem dX12_whyNot_201 : decode cX12_whyNot 201 = .ok (.getfield 34, 3) := by decide +kernel
theorem dX12_whyNot_204 : decode cX12_whyNot 204 = .ok (.iload 5, 2) := by decide +kernel
theorem dX12_whyNot_206 : decode cX12_whyNot 206 = .ok (.iaload, 1) := by decide +kernel
theorem dX12_whyNot_207 : decode cX12_whyNot 207 = .ok (.if_icmp .le 8, 3) := by decide +kernel
theorem dX12_whyNot_210 : decode cX12_whyNot 210 = .ok (.bipush 6, 2) := by decide +kernel
theorem dX12_whyNot_212 : decode cX12_whyNot 212 = .ok (.goto 4, 3) := by decide +kernel
theorem dX12_whyNot_215 : decode cX12_whyNot 215 = .ok (.iconst 0, 1) := by decide +kernel
theorem dX12_whyNot_216 : decode cX12_whyNot 216 = .ok (.ireturn, 1) := by decide +kernel
theorem dX12_asksFrom_0 : decode cX12_asksFrom 0 = .ok (.iconst 0, 1) := by decide +kernel
theorem dX12_asksFrom_1 : decode cX12_asksFrom 1 = .ok (.istore_n 3, 1) := by decide +kernel
theorem dX12_asksFrom_2 : decode cX12_asksFrom 2 = .ok (.iload_n 3, 1) := by decide +kernel
theorem dX12_asksFrom_3 : decode cX12_asksFrom 3 = .ok (.aload_n 0, 1) := by decide +kernel
theorem dX12_asksFrom_4 : decode cX12_asksFrom 4 = .ok (.getfield 187, 3) := by decide +kernel
theorem dX12_asksFrom_7 : decode cX12_asksFrom 7 = .ok (.if_icmp .ge 39, 3) := by decide +kernel
theorem dX12_asksFrom_10 : decode cX12_asksFrom 10 = .ok (.aload_n 0, 1) := by decide +kernel
theorem dX12_asksFrom_11 : decode cX12_asksFrom 11 = .ok (.getfield 67, 3) := by decide +kernel
theorem dX12_asksFrom_14 : decode cX12_asksFrom 14 = .ok (.bipush 32, 2) := by decide +kernel
theorem dX12_asksFrom_16 : decode cX12_asksFrom 16 = .ok (.iload_n 1, 1) := by decide +kernel
theorem dX12_asksFrom_17 : decode cX12_asksFrom 17 = .ok (.imul, 1) := by decide +kernel
theorem dX12_asksFrom_18 : decode cX12_asksFrom 18 = .ok (.iload_n 3, 1) := by decide +kernel
theorem dX12_asksFrom_19 : decode cX12_asksFrom 19 = .ok (.iadd, 1) := by decide +kernel
theorem dX12_asksFrom_20 : decode cX12_asksFrom 20 = .ok (.iaload, 1) := by decide +kernel
theorem dX12_asksFrom_21 : decode cX12_asksFrom 21 = .ok (.iconst (-1), 1) := by decide +kernel
theorem dX12_asksFrom_22 : decode cX12_asksFrom 22 = .ok (.if_icmp .eq 18, 3) := by decide +kernel
theorem dX12_asksFrom_25 : decode cX12_asksFrom 25 = .ok (.aload_n 0, 1) := by decide +kernel
theorem dX12_asksFrom_26 : decode cX12_asksFrom 26 = .ok (.getfield 22, 3) := by decide +kernel
theorem dX12_asksFrom_29 : decode cX12_asksFrom 29 = .ok (.iload_n 3, 1) := by decide +kernel
theorem dX12_asksFrom_30 : decode cX12_asksFrom 30 = .ok (.iaload, 1) := by decide +kernel
theorem dX12_asksFrom_31 : decode cX12_asksFrom 31 = .ok (.bipush 10, 2) := by decide +kernel
theorem dX12_asksFrom_33 : decode cX12_asksFrom 33 = .ok (.iload_n 2, 1) := by decide +kernel
theorem dX12_asksFrom_34 : decode cX12_asksFrom 34 = .ok (.iadd, 1) := by decide +kernel
theorem dX12_asksFrom_35 : decode cX12_asksFrom 35 = .ok (.if_icmp .ne 5, 3) := by decide +kernel
theorem dX12_asksFrom_38 : decode cX12_asksFrom 38 = .ok (.iconst 1, 1) := by decide +kernel
theorem dX12_asksFrom_39 : decode cX12_asksFrom 39 = .ok (.ireturn, 1) := by decide +kernel
theorem dX12_asksFrom_40 : decode cX12_asksFrom 40 = .ok (.iinc 3 1, 3) := by decide +kernel
theorem dX12_asksFrom_43 : decode cX12_asksFrom 43 = .ok (.goto (-41), 3) := by decide +kernel
theorem dX12_asksFrom_46 : decode cX12_asksFrom 46 = .ok (.iconst 0, 1) := by decide +kernel
theorem dX12_asksFrom_47 : decode cX12_asksFrom 47 = .ok (.ireturn, 1) := by decide +kernel
theorem dX12_measures_0 : decode cX12_measures 0 = .ok (.iconst 0, 1) := by decide +kernel
theorem dX12_measures_1 : decode cX12_measures 1 = .ok (.istore_n 2, 1) := by decide +kernel
theorem dX12_measures_2 : decode cX12_measures 2 = .ok (.iload_n 2, 1) := by decide +kernel
theorem dX12_measures_3 : decode cX12_measures 3 = .ok (.bipush 16, 2) := by decide +kernel
theorem dX12_measures_5 : decode cX12_measures 5 = .ok (.if_icmp .ge 16, 3) := by decide +kernel
theorem dX12_measures_8 : decode cX12_measures 8 = .ok (.aload_n 0, 1) := by decide +kernel
theorem dX12_measures_9 : decode cX12_measures 9 = .ok (.getfield 153, 3) := by decide +kernel
theorem dX12_measures_12 : decode cX12_measures 12 = .ok (.iload_n 2, 1) := by decide +kernel
theorem dX12_measures_13 : decode cX12_measures 13 = .ok (.iconst (-1), 1) := by decide +kernel
theorem dX12_measures_14 : decode cX12_measures 14 = .ok (.iastore, 1) := by decide +kernel
theorem dX12_measures_15 : decode cX12_measures 15 = .ok (.iinc 2 1, 3) := by decide +kernel
theorem dX12_measures_18 : decode cX12_measures 18 = .ok (.goto (-16), 3) := by decide +kernel
theorem dX12_measures_21 : decode cX12_measures 21 = .ok (.aload_n 0, 1) := by decide +kernel
theorem dX12_measures_22 : decode cX12_measures 22 = .ok (.getfield 153, 3) := by decide +kernel
theorem dX12_measures_25 : decode cX12_measures 25 = .ok (.iload_n 1, 1) := by decide +kernel
theorem dX12_measures_26 : decode cX12_measures 26 = .ok (.iconst 0, 1) := by decide +kernel
theorem dX12_measures_27 : decode cX12_measures 27 = .ok (.iastore, 1) := by decide +kernel
theorem dX12_measures_28 : decode cX12_measures 28 = .ok (.iconst 0, 1) := by decide +kernel
theorem dX12_measures_29 : decode cX12_measures 29 = .ok (.istore_n 2, 1) := by decide +kernel
theorem dX12_measures_30 : decode cX12_measures 30 = .ok (.iload_n 2, 1) := by decide +kernel
theorem dX12_measures_31 : decode cX12_measures 31 = .ok (.bipush 16, 2) := by decide +kernel
theorem dX12_measures_33 : decode cX12_measures 33 = .ok (.if_icmp .ge 127, 3) := by decide +kernel
theorem dX12_measures_36 : decode cX12_measures 36 = .ok (.iload_n 1, 1) := by decide +kernel
theorem dX12_measures_37 : decode cX12_measures 37 = .ok (.iconst 1, 1) := by decide +kernel
theorem dX12_measures_38 : decode cX12_measures 38 = .ok (.iadd, 1) := by decide +kernel
theorem dX12_measures_39 : decode cX12_measures 39 = .ok (.istore_n 3, 1) := by decide +kernel
theorem dX12_measures_40 : decode cX12_measures 40 = .ok (.iload_n 3, 1) := by decide +kernel
theorem dX12_measures_41 : decode cX12_measures 41 = .ok (.aload_n 0, 1) := by decide +kernel
theorem dX12_measures_42 : decode cX12_measures 42 = .ok (.getfield 193, 3) := by decide +kernel
theorem dX12_measures_45 : decode cX12_measures 45 = .ok (.if_icmp .ge 109, 3) := by decide +kernel
theorem dX12_measures_48 : decode cX12_measures 48 = .ok (.iload_n 1, 1) := by decide +kernel
theorem dX12_measures_49 : decode cX12_measures 49 = .ok (.istore 4, 2) := by decide +kernel
theorem dX12_measures_51 : decode cX12_measures 51 = .ok (.iload 4, 2) := by decide +kernel
theorem dX12_measures_53 : decode cX12_measures 53 = .ok (.aload_n 0, 1) := by decide +kernel
theorem dX12_measures_54 : decode cX12_measures 54 = .ok (.getfield 193, 3) := by decide +kernel
theorem dX12_measures_57 : decode cX12_measures 57 = .ok (.if_icmp .ge 91, 3) := by decide +kernel
theorem dX12_measures_60 : decode cX12_measures 60 = .ok (.aload_n 0, 1) := by decide +kernel
theorem dX12_measures_61 : decode cX12_measures 61 = .ok (.getfield 153, 3) := by decide +kernel
theorem dX12_measures_64 : decode cX12_measures 64 = .ok (.iload 4, 2) := by decide +kernel
theorem dX12_measures_66 : decode cX12_measures 66 = .ok (.iaload, 1) := by decide +kernel
theorem dX12_measures_67 : decode cX12_measures 67 = .ok (.iconst (-1), 1) := by decide +kernel
theorem dX12_measures_68 : decode cX12_measures 68 = .ok (.if_icmp .eq 74, 3) := by decide +kernel
theorem dX12_measures_71 : decode cX12_measures 71 = .ok (.iload 4, 2) := by decide +kernel
theorem dX12_measures_73 : decode cX12_measures 73 = .ok (.iload_n 3, 1) := by decide +kernel
theorem dX12_measures_74 : decode cX12_measures 74 = .ok (.if_icmp .eq 68, 3) := by decide +kernel
theorem dX12_measures_77 : decode cX12_measures 77 = .ok (.aload_n 0, 1) := by decide +kernel
theorem dX12_measures_78 : decode cX12_measures 78 = .ok (.iload_n 3, 1) := by decide +kernel
theorem dX12_measures_79 : decode cX12_measures 79 = .ok (.iload 4, 2) := by decide +kernel
theorem dX12_measures_81 : decode cX12_measures 81 = .ok (.invokevirtual 398, 3) := by decide +kernel
theorem dX12_measures_84 : decode cX12_measures 84 = .ok (.ifCond .ne 6, 3) := by decide +kernel
theorem dX12_measures_87 : decode cX12_measures 87 = .ok (.goto 55, 3) := by decide +kernel
theorem dX12_measures_90 : decode cX12_measures 90 = .ok (.aload_n 0, 1) := by decide +kernel
theorem dX12_measures_91 : decode cX12_measures 91 = .ok (.getfield 153, 3) := by decide +kernel
theorem dX12_measures_94 : decode cX12_measures 94 = .ok (.iload_n 3, 1) := by decide +kernel
theorem dX12_measures_95 : decode cX12_measures 95 = .ok (.aload_n 0, 1) := by decide +kernel
theorem dX12_measures_96 : decode cX12_measures 96 = .ok (.getfield 153, 3) := by decide +kernel
theorem dX12_measures_99 : decode cX12_measures 99 = .ok (.iload_n 3, 1) := by decide +kernel
theorem dX12_measures_100 : decode cX12_measures 100 = .ok (.iaload, 1) := by decide +kernel
theorem dX12_measures_101 : decode cX12_measures 101 = .ok (.iconst (-1), 1) := by decide +kernel
theorem dX12_measures_102 : decode cX12_measures 102 = .ok (.if_icmp .eq 21, 3) := by decide +kernel
theorem dX12_measures_105 : decode cX12_measures 105 = .ok (.aload_n 0, 1) := by decide +kernel
theorem dX12_measures_106 : decode cX12_measures 106 = .ok (.getfield 153, 3) := by decide +kernel
theorem dX12_measures_109 : decode cX12_measures 109 = .ok (.iload 4, 2) := by decide +kernel
theorem dX12_measures_111 : decode cX12_measures 111 = .ok (.iaload, 1) := by decide +kernel
theorem dX12_measures_112 : decode cX12_measures 112 = .ok (.iconst 1, 1) := by decide +kernel
theorem dX12_measures_113 : decode cX12_measures 113 = .ok (.iadd, 1) := by decide +kernel
theorem dX12_measures_114 : decode cX12_measures 114 = .ok (.aload_n 0, 1) := by decide +kernel
theorem dX12_measures_115 : decode cX12_measures 115 = .ok (.getfield 153, 3) := by decide +kernel
theorem dX12_measures_118 : decode cX12_measures 118 = .ok (.iload_n 3, 1) := by decide +kernel
theorem dX12_measures_119 : decode cX12_measures 119 = .ok (.iaload, 1) := by decide +kernel
theorem dX12_measures_120 : decode cX12_measures 120 = .ok (.if_icmp .ge 15, 3) := by decide +kernel
theorem dX12_measures_123 : decode cX12_measures 123 = .ok (.aload_n 0, 1) := by decide +kernel
theorem dX12_measures_124 : decode cX12_measures 124 = .ok (.getfield 153, 3) := by decide +kernel
theorem dX12_measures_127 : decode cX12_measures 127 = .ok (.iload 4, 2) := by decide +kernel
theorem dX12_measures_129 : decode cX12_measures 129 = .ok (.iaload, 1) := by decide +kernel
theorem dX12_measures_130 : decode cX12_measures 130 = .ok (.iconst 1, 1) := by decide +kernel
theorem dX12_measures_131 : decode cX12_measures 131 = .ok (.iadd, 1) := by decide +kernel
theorem dX12_measures_132 : decode cX12_measures 132 = .ok (.goto 9, 3) := by decide +kernel
theorem dX12_measures_135 : decode cX12_measures 135 = .ok (.aload_n 0, 1) := by decide +kernel
theorem dX12_measures_136 : decode cX12_measures 136 = .ok (.getfield 153, 3) := by decide +kernel
theorem dX12_measures_139 : decode cX12_measures 139 = .ok (.iload_n 3, 1) := by decide +kernel
theorem dX12_measures_140 : decode cX12_measures 140 = .ok (.iaload, 1) := by decide +kernel
theorem dX12_measures_141 : decode cX12_measures 141 = .ok (.iastore, 1) := by decide +kernel
theorem dX12_measures_142 : decode cX12_measures 142 = .ok (.iinc 4 1, 3) := by decide +kernel
theorem dX12_measures_145 : decode cX12_measures 145 = .ok (.goto (-94), 3) := by decide +kernel
theorem dX12_measures_148 : decode cX12_measures 148 = .ok (.iinc 3 1, 3) := by decide +kernel
theorem dX12_measures_151 : decode cX12_measures 151 = .ok (.goto (-111), 3) := by decide +kernel
theorem dX12_measures_154 : decode cX12_measures 154 = .ok (.iinc 2 1, 3) := by decide +kernel
theorem dX12_measures_157 : decode cX12_measures 157 = .ok (.goto (-127), 3) := by decide +kernel
theorem dX12_measures_160 : decode cX12_measures 160 = .ok (.return_, 1) := by decide +kernel
theorem dX12_ringFrom_0 : decode cX12_ringFrom 0 = .ok (.aload_n 0, 1) := by decide +kernel
theorem dX12_ringFrom_1 : decode cX12_ringFrom 1 = .ok (.iload_n 1, 1) := by decide +kernel
theorem dX12_ringFrom_2 : decode cX12_ringFrom 2 = .ok (.invokevirtual 401, 3) := by decide +kernel
theorem dX12_ringFrom_5 : decode cX12_ringFrom 5 = .ok (.iconst (-1), 1) := by decide +kernel
theorem dX12_ringFrom_6 : decode cX12_ringFrom 6 = .ok (.istore_n 2, 1) := by decide +kernel
theorem dX12_ringFrom_7 : decode cX12_ringFrom 7 = .ok (.iload_n 1, 1) := by decide +kernel
theorem dX12_ringFrom_8 : decode cX12_ringFrom 8 = .ok (.iconst 1, 1) := by decide +kernel
theorem dX12_ringFrom_9 : decode cX12_ringFrom 9 = .ok (.iadd, 1) := by decide +kernel
theorem dX12_ringFrom_10 : decode cX12_ringFrom 10 = .ok (.istore_n 3, 1) := by decide +kernel
theorem dX12_ringFrom_11 : decode cX12_ringFrom 11 = .ok (.iload_n 3, 1) := by decide +kernel
theorem dX12_ringFrom_12 : decode cX12_ringFrom 12 = .ok (.aload_n 0, 1) := by decide +kernel
theorem dX12_ringFrom_13 : decode cX12_ringFrom 13 = .ok (.getfield 193, 3) := by decide +kernel
theorem dX12_ringFrom_16 : decode cX12_ringFrom 16 = .ok (.if_icmp .ge 54, 3) := by decide +kernel
theorem dX12_ringFrom_19 : decode cX12_ringFrom 19 = .ok (.aload_n 0, 1) := by decide +kernel
theorem dX12_ringFrom_20 : decode cX12_ringFrom 20 = .ok (.getfield 153, 3) := by decide +kernel
theorem dX12_ringFrom_23 : decode cX12_ringFrom 23 = .ok (.iload_n 3, 1) := by decide +kernel
theorem dX12_ringFrom_24 : decode cX12_ringFrom 24 = .ok (.iaload, 1) := by decide +kernel
theorem dX12_ringFrom_25 : decode cX12_ringFrom 25 = .ok (.iconst (-1), 1) := by decide +kernel
theorem dX12_ringFrom_26 : decode cX12_ringFrom 26 = .ok (.if_icmp .eq 38, 3) := by decide +kernel
theorem dX12_ringFrom_29 : decode cX12_ringFrom 29 = .ok (.aload_n 0, 1) := by decide +kernel
theorem dX12_ringFrom_30 : decode cX12_ringFrom 30 = .ok (.iload_n 1, 1) := by decide +kernel
theorem dX12_ringFrom_31 : decode cX12_ringFrom 31 = .ok (.iload_n 3, 1) := by decide +kernel
theorem dX12_ringFrom_32 : decode cX12_ringFrom 32 = .ok (.invokevirtual 398, 3) := by decide +kernel
theorem dX12_ringFrom_35 : decode cX12_ringFrom 35 = .ok (.ifCond .eq 29, 3) := by decide +kernel
theorem dX12_ringFrom_38 : decode cX12_ringFrom 38 = .ok (.iload_n 2, 1) := by decide +kernel
theorem dX12_ringFrom_39 : decode cX12_ringFrom 39 = .ok (.iconst (-1), 1) := by decide +kernel
theorem dX12_ringFrom_40 : decode cX12_ringFrom 40 = .ok (.if_icmp .eq 15, 3) := by decide +kernel
theorem dX12_ringFrom_43 : decode cX12_ringFrom 43 = .ok (.aload_n 0, 1) := by decide +kernel
theorem dX12_ringFrom_44 : decode cX12_ringFrom 44 = .ok (.getfield 153, 3) := by decide +kernel
theorem dX12_ringFrom_47 : decode cX12_ringFrom 47 = .ok (.iload_n 3, 1) := by decide +kernel
theorem dX12_ringFrom_48 : decode cX12_ringFrom 48 = .ok (.iaload, 1) := by decide +kernel
theorem dX12_ringFrom_49 : decode cX12_ringFrom 49 = .ok (.iconst 1, 1) := by decide +kernel
theorem dX12_ringFrom_50 : decode cX12_ringFrom 50 = .ok (.iadd, 1) := by decide +kernel
theorem dX12_ringFrom_51 : decode cX12_ringFrom 51 = .ok (.iload_n 2, 1) := by decide +kernel
theorem dX12_ringFrom_52 : decode cX12_ringFrom 52 = .ok (.if_icmp .ge 12, 3) := by decide +kernel
theorem dX12_ringFrom_55 : decode cX12_ringFrom 55 = .ok (.aload_n 0, 1) := by decide +kernel
theorem dX12_ringFrom_56 : decode cX12_ringFrom 56 = .ok (.getfield 153, 3) := by decide +kernel
theorem dX12_ringFrom_59 : decode cX12_ringFrom 59 = .ok (.iload_n 3, 1) := by decide +kernel
theorem dX12_ringFrom_60 : decode cX12_ringFrom 60 = .ok (.iaload, 1) := by decide +kernel
theorem dX12_ringFrom_61 : decode cX12_ringFrom 61 = .ok (.iconst 1, 1) := by decide +kernel
theorem dX12_ringFrom_62 : decode cX12_ringFrom 62 = .ok (.iadd, 1) := by decide +kernel
theorem dX12_ringFrom_63 : decode cX12_ringFrom 63 = .ok (.istore_n 2, 1) := by decide +kernel
theorem dX12_ringFrom_64 : decode cX12_ringFrom 64 = .ok (.iinc 3 1, 3) := by decide +kernel
theorem dX12_ringFrom_67 : decode cX12_ringFrom 67 = .ok (.goto (-56), 3) := by decide +kernel
theorem dX12_ringFrom_70 : decode cX12_ringFrom 70 = .ok (.iload_n 2, 1) := by decide +kernel
theorem dX12_ringFrom_71 : decode cX12_ringFrom 71 = .ok (.iconst (-1), 1) := by decide +kernel
theorem dX12_ringFrom_72 : decode cX12_ringFrom 72 = .ok (.if_icmp .eq 18, 3) := by decide +kernel
theorem dX12_ringFrom_75 : decode cX12_ringFrom 75 = .ok (.aload_n 0, 1) := by decide +kernel
theorem dX12_ringFrom_76 : decode cX12_ringFrom 76 = .ok (.getfield 404, 3) := by decide +kernel
theorem dX12_ringFrom_79 : decode cX12_ringFrom 79 = .ok (.ifCond .le 12, 3) := by decide +kernel
theorem dX12_ringFrom_82 : decode cX12_ringFrom 82 = .ok (.iload_n 2, 1) := by decide +kernel
theorem dX12_ringFrom_83 : decode cX12_ringFrom 83 = .ok (.aload_n 0, 1) := by decide +kernel
theorem dX12_ringFrom_84 : decode cX12_ringFrom 84 = .ok (.getfield 404, 3) := by decide +kernel
theorem dX12_ringFrom_87 : decode cX12_ringFrom 87 = .ok (.if_icmp .lt 4, 3) := by decide +kernel
theorem dX12_ringFrom_90 : decode cX12_ringFrom 90 = .ok (.return_, 1) := by decide +kernel
theorem dX12_ringFrom_91 : decode cX12_ringFrom 91 = .ok (.aload_n 0, 1) := by decide +kernel
theorem dX12_ringFrom_92 : decode cX12_ringFrom 92 = .ok (.iload_n 2, 1) := by decide +kernel
theorem dX12_ringFrom_93 : decode cX12_ringFrom 93 = .ok (.putfield 404, 3) := by decide +kernel
theorem dX12_ringFrom_96 : decode cX12_ringFrom 96 = .ok (.aload_n 0, 1) := by decide +kernel
theorem dX12_ringFrom_97 : decode cX12_ringFrom 97 = .ok (.getfield 156, 3) := by decide +kernel
theorem dX12_ringFrom_100 : decode cX12_ringFrom 100 = .ok (.iconst 0, 1) := by decide +kernel
theorem dX12_ringFrom_101 : decode cX12_ringFrom 101 = .ok (.iload_n 1, 1) := by decide +kernel
theorem dX12_ringFrom_102 : decode cX12_ringFrom 102 = .ok (.iastore, 1) := by decide +kernel
theorem dX12_ringFrom_103 : decode cX12_ringFrom 103 = .ok (.iconst 1, 1) := by decide +kernel
theorem dX12_ringFrom_104 : decode cX12_ringFrom 104 = .ok (.istore_n 3, 1) := by decide +kernel
theorem dX12_ringFrom_105 : decode cX12_ringFrom 105 = .ok (.iload_n 3, 1) := by decide +kernel
theorem dX12_ringFrom_106 : decode cX12_ringFrom 106 = .ok (.iload_n 2, 1) := by decide +kernel
theorem dX12_ringFrom_107 : decode cX12_ringFrom 107 = .ok (.if_icmp .ge 61, 3) := by decide +kernel
theorem dX12_ringFrom_110 : decode cX12_ringFrom 110 = .ok (.iload_n 1, 1) := by decide +kernel
theorem dX12_ringFrom_111 : decode cX12_ringFrom 111 = .ok (.iconst 1, 1) := by decide +kernel
theorem dX12_ringFrom_112 : decode cX12_ringFrom 112 = .ok (.iadd, 1) := by decide +kernel
theorem dX12_ringFrom_113 : decode cX12_ringFrom 113 = .ok (.istore 4, 2) := by decide +kernel
theorem dX12_ringFrom_115 : decode cX12_ringFrom 115 = .ok (.aload_n 0, 1) := by decide +kernel
theorem dX12_ringFrom_116 : decode cX12_ringFrom 116 = .ok (.getfield 153, 3) := by decide +kernel
theorem dX12_ringFrom_119 : decode cX12_ringFrom 119 = .ok (.iload 4, 2) := by decide +kernel
theorem dX12_ringFrom_121 : decode cX12_ringFrom 121 = .ok (.iaload, 1) := by decide +kernel
theorem dX12_ringFrom_122 : decode cX12_ringFrom 122 = .ok (.iload_n 2, 1) := by decide +kernel
theorem dX12_ringFrom_123 : decode cX12_ringFrom 123 = .ok (.iload_n 3, 1) := by decide +kernel
theorem dX12_ringFrom_124 : decode cX12_ringFrom 124 = .ok (.isub, 1) := by decide +kernel
theorem dX12_ringFrom_125 : decode cX12_ringFrom 125 = .ok (.if_icmp .ne 20, 3) := by decide +kernel
theorem dX12_ringFrom_128 : decode cX12_ringFrom 128 = .ok (.aload_n 0, 1) := by decide +kernel
theorem dX12_ringFrom_129 : decode cX12_ringFrom 129 = .ok (.aload_n 0, 1) := by decide +kernel
theorem dX12_ringFrom_130 : decode cX12_ringFrom 130 = .ok (.getfield 156, 3) := by decide +kernel
theorem dX12_ringFrom_133 : decode cX12_ringFrom 133 = .ok (.iload_n 3, 1) := by decide +kernel
theorem dX12_ringFrom_134 : decode cX12_ringFrom 134 = .ok (.iconst 1, 1) := by decide +kernel
theorem dX12_ringFrom_135 : decode cX12_ringFrom 135 = .ok (.isub, 1) := by decide +kernel
theorem dX12_ringFrom_136 : decode cX12_ringFrom 136 = .ok (.iaload, 1) := by decide +kernel
theorem dX12_ringFrom_137 : decode cX12_ringFrom 137 = .ok (.iload 4, 2) := by decide +kernel
theorem dX12_ringFrom_139 : decode cX12_ringFrom 139 = .ok (.invokevirtual 398, 3) := by decide +kernel
theorem dX12_ringFrom_142 : decode cX12_ringFrom 142 = .ok (.ifCond .ne 12, 3) := by decide +kernel
theorem dX12_ringFrom_145 : decode cX12_ringFrom 145 = .ok (.iload 4, 2) := by decide +kernel
theorem dX12_ringFrom_147 : decode cX12_ringFrom 147 = .ok (.iconst 1, 1) := by decide +kernel
theorem dX12_ringFrom_148 : decode cX12_ringFrom 148 = .ok (.iadd, 1) := by decide +kernel
theorem dX12_ringFrom_149 : decode cX12_ringFrom 149 = .ok (.istore 4, 2) := by decide +kernel
theorem dX12_ringFrom_151 : decode cX12_ringFrom 151 = .ok (.goto (-36), 3) := by decide +kernel
theorem dX12_ringFrom_154 : decode cX12_ringFrom 154 = .ok (.aload_n 0, 1) := by decide +kernel
theorem dX12_ringFrom_155 : decode cX12_ringFrom 155 = .ok (.getfield 156, 3) := by decide +kernel
theorem dX12_ringFrom_158 : decode cX12_ringFrom 158 = .ok (.iload_n 3, 1) := by decide +kernel
theorem dX12_ringFrom_159 : decode cX12_ringFrom 159 = .ok (.iload 4, 2) := by decide +kernel
theorem dX12_ringFrom_161 : decode cX12_ringFrom 161 = .ok (.iastore, 1) := by decide +kernel
theorem dX12_ringFrom_162 : decode cX12_ringFrom 162 = .ok (.iinc 3 1, 3) := by decide +kernel
theorem dX12_ringFrom_165 : decode cX12_ringFrom 165 = .ok (.goto (-60), 3) := by decide +kernel
theorem dX12_ringFrom_168 : decode cX12_ringFrom 168 = .ok (.return_, 1) := by decide +kernel
theorem dX12_ring_0 : decode cX12_ring 0 = .ok (.aload_n 0, 1) := by decide +kernel
theorem dX12_ring_1 : decode cX12_ring 1 = .ok (.iconst 0, 1) := by decide +kernel
theorem dX12_ring_2 : decode cX12_ring 2 = .ok (.putfield 404, 3) := by decide +kernel
theorem dX12_ring_5 : decode cX12_ring 5 = .ok (.iconst 0, 1) := by decide +kernel
theorem dX12_ring_6 : decode cX12_ring 6 = .ok (.istore_n 2, 1) := by decide +kernel
theorem dX12_ring_7 : decode cX12_ring 7 = .ok (.iload_n 2, 1) := by decide +kernel
theorem dX12_ring_8 : decode cX12_ring 8 = .ok (.aload_n 0, 1) := by decide +kernel
theorem dX12_ring_9 : decode cX12_ring 9 = .ok (.getfield 193, 3) := by decide +kernel
theorem dX12_ring_12 : decode cX12_ring 12 = .ok (.if_icmp .ge 14, 3) := by decide +kernel
theorem dX12_ring_15 : decode cX12_ring 15 = .ok (.aload_n 0, 1) := by decide +kernel
theorem dX12_ring_16 : decode cX12_ring 16 = .ok (.iload_n 2, 1) := by decide +kernel
theorem dX12_ring_17 : decode cX12_ring 17 = .ok (.invokevirtual 407, 3) := by decide +kernel
theorem dX12_ring_20 : decode cX12_ring 20 = .ok (.iinc 2 1, 3) := by decide +kernel
theorem dX12_ring_23 : decode cX12_ring 23 = .ok (.goto (-16), 3) := by decide +kernel
theorem dX12_ring_26 : decode cX12_ring 26 = .ok (.iload_n 1, 1) := by decide +kernel
theorem dX12_ring_27 : decode cX12_ring 27 = .ok (.iconst (-1), 1) := by decide +kernel
theorem dX12_ring_28 : decode cX12_ring 28 = .ok (.if_icmp .ne 8, 3) := by decide +kernel
theorem dX12_ring_31 : decode cX12_ring 31 = .ok (.aload_n 0, 1) := by decide +kernel
theorem dX12_ring_32 : decode cX12_ring 32 = .ok (.getfield 404, 3) := by decide +kernel
theorem dX12_ring_35 : decode cX12_ring 35 = .ok (.ireturn, 1) := by decide +kernel
theorem dX12_ring_36 : decode cX12_ring 36 = .ok (.iload_n 1, 1) := by decide +kernel
theorem dX12_ring_37 : decode cX12_ring 37 = .ok (.iconst 0, 1) := by decide +kernel
theorem dX12_ring_38 : decode cX12_ring 38 = .ok (.aload_n 0, 1) := by decide +kernel
theorem dX12_ring_39 : decode cX12_ring 39 = .ok (.getfield 404, 3) := by decide +kernel
theorem dX12_ring_42 : decode cX12_ring 42 = .ok (.iconst 1, 1) := by decide +kernel
theorem dX12_ring_43 : decode cX12_ring 43 = .ok (.isub, 1) := by decide +kernel
theorem dX12_ring_44 : decode cX12_ring 44 = .ok (.invokestatic 199, 3) := by decide +kernel
theorem dX12_ring_47 : decode cX12_ring 47 = .ok (.ifCond .eq 12, 3) := by decide +kernel
theorem dX12_ring_50 : decode cX12_ring 50 = .ok (.aload_n 0, 1) := by decide +kernel
theorem dX12_ring_51 : decode cX12_ring 51 = .ok (.getfield 156, 3) := by decide +kernel
theorem dX12_ring_54 : decode cX12_ring 54 = .ok (.iload_n 1, 1) := by decide +kernel
theorem dX12_ring_55 : decode cX12_ring 55 = .ok (.iaload, 1) := by decide +kernel
theorem dX12_ring_56 : decode cX12_ring 56 = .ok (.goto 4, 3) := by decide +kernel
theorem dX12_ring_59 : decode cX12_ring 59 = .ok (.iconst (-1), 1) := by decide +kernel
theorem dX12_ring_60 : decode cX12_ring 60 = .ok (.ireturn, 1) := by decide +kernel
theorem dX12_isToday_0 : decode cX12_isToday 0 = .ok (.aload_n 0, 1) := by decide +kernel
theorem dX12_isToday_1 : decode cX12_isToday 1 = .ok (.iload_n 2, 1) := by decide +kernel
theorem dX12_isToday_2 : decode cX12_isToday 2 = .ok (.aload_n 0, 1) := by decide +kernel
theorem dX12_isToday_3 : decode cX12_isToday 3 = .ok (.getfield 52, 3) := by decide +kernel
theorem dX12_isToday_6 : decode cX12_isToday 6 = .ok (.iload_n 1, 1) := by decide +kernel
theorem dX12_isToday_7 : decode cX12_isToday 7 = .ok (.iaload, 1) := by decide +kernel
theorem dX12_isToday_8 : decode cX12_isToday 8 = .ok (.aload_n 0, 1) := by decide +kernel
theorem dX12_isToday_9 : decode cX12_isToday 9 = .ok (.getfield 196, 3) := by decide +kernel
theorem dX12_isToday_12 : decode cX12_isToday 12 = .ok (.invokevirtual 346, 3) := by decide +kernel
theorem dX12_isToday_15 : decode cX12_isToday 15 = .ok (.ireturn, 1) := by decide +kernel
theorem dX12_wishes_0 : decode cX12_wishes 0 = .ok (.iconst 0, 1) := by decide +kernel
theorem dX12_wishes_1 : decode cX12_wishes 1 = .ok (.istore_n 3, 1) := by decide +kernel
theorem dX12_wishes_2 : decode cX12_wishes 2 = .ok (.iload_n 3, 1) := by decide +kernel
theorem dX12_wishes_3 : decode cX12_wishes 3 = .ok (.aload_n 0, 1) := by decide +kernel
theorem dX12_wishes_4 : decode cX12_wishes 4 = .ok (.getfield 193, 3) := by decide +kernel
theorem dX12_wishes_7 : decode cX12_wishes 7 = .ok (.if_icmp .ge 69, 3) := by decide +kernel
theorem dX12_wishes_10 : decode cX12_wishes 10 = .ok (.aload_n 0, 1) := by decide +kernel
theorem dX12_wishes_11 : decode cX12_wishes 11 = .ok (.iload_n 3, 1) := by decide +kernel
theorem dX12_wishes_12 : decode cX12_wishes 12 = .ok (.iload_n 1, 1) := by decide +kernel
theorem dX12_wishes_13 : decode cX12_wishes 13 = .ok (.invokevirtual 410, 3) := by decide +kernel
theorem dX12_wishes_16 : decode cX12_wishes 16 = .ok (.istore 4, 2) := by decide +kernel
theorem dX12_wishes_18 : decode cX12_wishes 18 = .ok (.iconst 0, 1) := by decide +kernel
theorem dX12_wishes_19 : decode cX12_wishes 19 = .ok (.istore 5, 2) := by decide +kernel
theorem dX12_wishes_21 : decode cX12_wishes 21 = .ok (.iload 5, 2) := by decide +kernel
theorem dX12_wishes_23 : decode cX12_wishes 23 = .ok (.aload_n 0, 1) := by decide +kernel
theorem dX12_wishes_24 : decode cX12_wishes 24 = .ok (.getfield 187, 3) := by decide +kernel
theorem dX12_wishes_27 : decode cX12_wishes 27 = .ok (.if_icmp .ge 43, 3) := by decide +kernel
theorem dX12_wishes_30 : decode cX12_wishes 30 = .ok (.aload_n 0, 1) := by decide +kernel
theorem dX12_wishes_31 : decode cX12_wishes 31 = .ok (.getfield 159, 3) := by decide +kernel
theorem dX12_wishes_34 : decode cX12_wishes 34 = .ok (.bipush 32, 2) := by decide +kernel
theorem dX12_wishes_36 : decode cX12_wishes 36 = .ok (.iload_n 3, 1) := by decide +kernel
theorem dX12_wishes_37 : decode cX12_wishes 37 = .ok (.imul, 1) := by decide +kernel
theorem dX12_wishes_38 : decode cX12_wishes 38 = .ok (.iload 5, 2) := by decide +kernel
theorem dX12_wishes_40 : decode cX12_wishes 40 = .ok (.iadd, 1) := by decide +kernel
theorem dX12_wishes_41 : decode cX12_wishes 41 = .ok (.iload 4, 2) := by decide +kernel
theorem dX12_wishes_43 : decode cX12_wishes 43 = .ok (.ifCond .eq 19, 3) := by decide +kernel
theorem dX12_wishes_46 : decode cX12_wishes 46 = .ok (.aload_n 0, 1) := by decide +kernel
theorem dX12_wishes_47 : decode cX12_wishes 47 = .ok (.iload_n 3, 1) := by decide +kernel
theorem dX12_wishes_48 : decode cX12_wishes 48 = .ok (.iload 5, 2) := by decide +kernel
theorem dX12_wishes_50 : decode cX12_wishes 50 = .ok (.iconst 0, 1) := by decide +kernel
theorem dX12_wishes_51 : decode cX12_wishes 51 = .ok (.invokevirtual 339, 3) := by decide +kernel
theorem dX12_wishes_54 : decode cX12_wishes 54 = .ok (.iload_n 2, 1) := by decide +kernel
theorem dX12_wishes_55 : decode cX12_wishes 55 = .ok (.if_icmp .lt 7, 3) := by decide +kernel
theorem dX12_wishes_58 : decode cX12_wishes 58 = .ok (.iconst 1, 1) := by decide +kernel
theorem dX12_wishes_59 : decode cX12_wishes 59 = .ok (.goto 4, 3) := by decide +kernel
theorem dX12_wishes_62 : decode cX12_wishes 62 = .ok (.iconst 0, 1) := by decide +kernel
theorem dX12_wishes_63 : decode cX12_wishes 63 = .ok (.bastore, 1) := by decide +kernel
theorem dX12_wishes_64 : decode cX12_wishes 64 = .ok (.iinc 5 1, 3) := by decide +kernel
theorem dX12_wishes_67 : decode cX12_wishes 67 = .ok (.goto (-46), 3) := by decide +kernel
theorem dX12_wishes_70 : decode cX12_wishes 70 = .ok (.iinc 3 1, 3) := by decide +kernel
theorem dX12_wishes_73 : decode cX12_wishes 73 = .ok (.goto (-71), 3) := by decide +kernel
theorem dX12_wishes_76 : decode cX12_wishes 76 = .ok (.return_, 1) := by decide +kernel
theorem dX12_passesOn_0 : decode cX12_passesOn 0 = .ok (.iload_n 1, 1) := by decide +kernel
theorem dX12_passesOn_1 : decode cX12_passesOn 1 = .ok (.istore_n 2, 1) := by decide +kernel
theorem dX12_passesOn_2 : decode cX12_passesOn 2 = .ok (.iload_n 2, 1) := by decide +kernel
theorem dX12_passesOn_3 : decode cX12_passesOn 3 = .ok (.iconst (-1), 1) := by decide +kernel
theorem dX12_passesOn_4 : decode cX12_passesOn 4 = .ok (.if_icmp .eq 38, 3) := by decide +kernel
theorem dX12_passesOn_7 : decode cX12_passesOn 7 = .ok (.aload_n 0, 1) := by decide +kernel
theorem dX12_passesOn_8 : decode cX12_passesOn 8 = .ok (.getfield 168, 3) := by decide +kernel
theorem dX12_passesOn_11 : decode cX12_passesOn 11 = .ok (.iload_n 2, 1) := by decide +kernel
theorem dX12_passesOn_12 : decode cX12_passesOn 12 = .ok (.iaload, 1) := by decide +kernel
theorem dX12_passesOn_13 : decode cX12_passesOn 13 = .ok (.istore_n 3, 1) := by decide +kernel
theorem dX12_passesOn_14 : decode cX12_passesOn 14 = .ok (.aload_n 0, 1) := by decide +kernel
theorem dX12_passesOn_15 : decode cX12_passesOn 15 = .ok (.getfield 165, 3) := by decide +kernel
theorem dX12_passesOn_18 : decode cX12_passesOn 18 = .ok (.iload_n 3, 1) := by decide +kernel
theorem dX12_passesOn_19 : decode cX12_passesOn 19 = .ok (.iaload, 1) := by decide +kernel
theorem dX12_passesOn_20 : decode cX12_passesOn 20 = .ok (.istore 4, 2) := by decide +kernel
theorem dX12_passesOn_22 : decode cX12_passesOn 22 = .ok (.aload_n 0, 1) := by decide +kernel
theorem dX12_passesOn_23 : decode cX12_passesOn 23 = .ok (.getfield 162, 3) := by decide +kernel
theorem dX12_passesOn_26 : decode cX12_passesOn 26 = .ok (.iload_n 2, 1) := by decide +kernel
theorem dX12_passesOn_27 : decode cX12_passesOn 27 = .ok (.iload_n 3, 1) := by decide +kernel
theorem dX12_passesOn_28 : decode cX12_passesOn 28 = .ok (.iastore, 1) := by decide +kernel
theorem dX12_passesOn_29 : decode cX12_passesOn 29 = .ok (.aload_n 0, 1) := by decide +kernel
theorem dX12_passesOn_30 : decode cX12_passesOn 30 = .ok (.getfield 165, 3) := by decide +kernel
theorem dX12_passesOn_33 : decode cX12_passesOn 33 = .ok (.iload_n 3, 1) := by decide +kernel
theorem dX12_passesOn_34 : decode cX12_passesOn 34 = .ok (.iload_n 2, 1) := by decide +kernel
theorem dX12_passesOn_35 : decode cX12_passesOn 35 = .ok (.iastore, 1) := by decide +kernel
theorem dX12_passesOn_36 : decode cX12_passesOn 36 = .ok (.iload 4, 2) := by decide +kernel
theorem dX12_passesOn_38 : decode cX12_passesOn 38 = .ok (.istore_n 2, 1) := by decide +kernel
theorem dX12_passesOn_39 : decode cX12_passesOn 39 = .ok (.goto (-37), 3) := by decide +kernel
theorem dX12_passesOn_42 : decode cX12_passesOn 42 = .ok (.return_, 1) := by decide +kernel
theorem dX12_finds_0 : decode cX12_finds 0 = .ok (.iconst 0, 1) := by decide +kernel
theorem dX12_finds_1 : decode cX12_finds 1 = .ok (.istore_n 2, 1) := by decide +kernel
theorem dX12_finds_2 : decode cX12_finds 2 = .ok (.iload_n 2, 1) := by decide +kernel
theorem dX12_finds_3 : decode cX12_finds 3 = .ok (.aload_n 0, 1) := by decide +kernel
theorem dX12_finds_4 : decode cX12_finds 4 = .ok (.getfield 193, 3) := by decide +kernel
theorem dX12_finds_7 : decode cX12_finds 7 = .ok (.if_icmp .ge 16, 3) := by decide +kernel
theorem dX12_finds_10 : decode cX12_finds 10 = .ok (.aload_n 0, 1) := by decide +kernel
theorem dX12_finds_11 : decode cX12_finds 11 = .ok (.getfield 168, 3) := by decide +kernel
theorem dX12_finds_14 : decode cX12_finds 14 = .ok (.iload_n 2, 1) := by decide +kernel
theorem dX12_finds_15 : decode cX12_finds 15 = .ok (.iconst (-1), 1) := by decide +kernel
theorem dX12_finds_16 : decode cX12_finds 16 = .ok (.iastore, 1) := by decide +kernel
theorem dX12_finds_17 : decode cX12_finds 17 = .ok (.iinc 2 1, 3) := by decide +kernel
theorem dX12_finds_20 : decode cX12_finds 20 = .ok (.goto (-18), 3) := by decide +kernel
theorem dX12_finds_23 : decode cX12_finds 23 = .ok (.aload_n 0, 1) := by decide +kernel
theorem dX12_finds_24 : decode cX12_finds 24 = .ok (.getfield 171, 3) := by decide +kernel
theorem dX12_finds_27 : decode cX12_finds 27 = .ok (.iconst 0, 1) := by decide +kernel
theorem dX12_finds_28 : decode cX12_finds 28 = .ok (.iload_n 1, 1) := by decide +kernel
theorem dX12_finds_29 : decode cX12_finds 29 = .ok (.iastore, 1) := by decide +kernel
theorem dX12_finds_30 : decode cX12_finds 30 = .ok (.iconst 1, 1) := by decide +kernel
theorem dX12_finds_31 : decode cX12_finds 31 = .ok (.istore_n 2, 1) := by decide +kernel
theorem dX12_finds_32 : decode cX12_finds 32 = .ok (.iconst 0, 1) := by decide +kernel
theorem dX12_finds_33 : decode cX12_finds 33 = .ok (.istore_n 3, 1) := by decide +kernel
theorem dX12_finds_34 : decode cX12_finds 34 = .ok (.iload_n 3, 1) := by decide +kernel
theorem dX12_finds_35 : decode cX12_finds 35 = .ok (.iload_n 2, 1) := by decide +kernel
theorem dX12_finds_36 : decode cX12_finds 36 = .ok (.if_icmp .ge 110, 3) := by decide +kernel
theorem dX12_finds_39 : decode cX12_finds 39 = .ok (.iconst 0, 1) := by decide +kernel
theorem dX12_finds_40 : decode cX12_finds 40 = .ok (.istore 4, 2) := by decide +kernel
theorem dX12_finds_42 : decode cX12_finds 42 = .ok (.iload 4, 2) := by decide +kernel
theorem dX12_finds_44 : decode cX12_finds 44 = .ok (.aload_n 0, 1) := by decide +kernel
theorem dX12_finds_45 : decode cX12_finds 45 = .ok (.getfield 193, 3) := by decide +kernel
theorem dX12_finds_48 : decode cX12_finds 48 = .ok (.if_icmp .ge 92, 3) := by decide +kernel
theorem dX12_finds_51 : decode cX12_finds 51 = .ok (.aload_n 0, 1) := by decide +kernel
theorem dX12_finds_52 : decode cX12_finds 52 = .ok (.getfield 159, 3) := by decide +kernel
theorem dX12_finds_55 : decode cX12_finds 55 = .ok (.bipush 32, 2) := by decide +kernel
theorem dX12_finds_57 : decode cX12_finds 57 = .ok (.iload 4, 2) := by decide +kernel
theorem dX12_finds_59 : decode cX12_finds 59 = .ok (.imul, 1) := by decide +kernel
theorem dX12_finds_60 : decode cX12_finds 60 = .ok (.aload_n 0, 1) := by decide +kernel
theorem dX12_finds_61 : decode cX12_finds 61 = .ok (.getfield 171, 3) := by decide +kernel
theorem dX12_finds_64 : decode cX12_finds 64 = .ok (.iload_n 3, 1) := by decide +kernel
theorem dX12_finds_65 : decode cX12_finds 65 = .ok (.iaload, 1) := by decide +kernel
theorem dX12_finds_66 : decode cX12_finds 66 = .ok (.iadd, 1) := by decide +kernel
theorem dX12_finds_67 : decode cX12_finds 67 = .ok (.baload, 1) := by decide +kernel
theorem dX12_finds_68 : decode cX12_finds 68 = .ok (.ifCond .eq 66, 3) := by decide +kernel
theorem dX12_finds_71 : decode cX12_finds 71 = .ok (.aload_n 0, 1) := by decide +kernel
theorem dX12_finds_72 : decode cX12_finds 72 = .ok (.getfield 168, 3) := by decide +kernel
theorem dX12_finds_75 : decode cX12_finds 75 = .ok (.iload 4, 2) := by decide +kernel
theorem dX12_finds_77 : decode cX12_finds 77 = .ok (.iaload, 1) := by decide +kernel
theorem dX12_finds_78 : decode cX12_finds 78 = .ok (.iconst (-1), 1) := by decide +kernel
theorem dX12_finds_79 : decode cX12_finds 79 = .ok (.if_icmp .eq 6, 3) := by decide +kernel
theorem dX12_finds_82 : decode cX12_finds 82 = .ok (.goto 52, 3) := by decide +kernel
theorem dX12_finds_85 : decode cX12_finds 85 = .ok (.aload_n 0, 1) := by decide +kernel
theorem dX12_finds_86 : decode cX12_finds 86 = .ok (.getfield 168, 3) := by decide +kernel
theorem dX12_finds_89 : decode cX12_finds 89 = .ok (.iload 4, 2) := by decide +kernel
theorem dX12_finds_91 : decode cX12_finds 91 = .ok (.aload_n 0, 1) := by decide +kernel
theorem dX12_finds_92 : decode cX12_finds 92 = .ok (.getfield 171, 3) := by decide +kernel
theorem dX12_finds_95 : decode cX12_finds 95 = .ok (.iload_n 3, 1) := by decide +kernel
theorem dX12_finds_96 : decode cX12_finds 96 = .ok (.iaload, 1) := by decide +kernel
theorem dX12_finds_97 : decode cX12_finds 97 = .ok (.iastore, 1) := by decide +kernel
theorem dX12_finds_98 : decode cX12_finds 98 = .ok (.aload_n 0, 1) := by decide +kernel
theorem dX12_finds_99 : decode cX12_finds 99 = .ok (.getfield 162, 3) := by decide +kernel
theorem dX12_finds_102 : decode cX12_finds 102 = .ok (.iload 4, 2) := by decide +kernel
theorem dX12_finds_104 : decode cX12_finds 104 = .ok (.iaload, 1) := by decide +kernel
theorem dX12_finds_105 : decode cX12_finds 105 = .ok (.iconst (-1), 1) := by decide +kernel
theorem dX12_finds_106 : decode cX12_finds 106 = .ok (.if_icmp .ne 11, 3) := by decide +kernel
theorem dX12_finds_109 : decode cX12_finds 109 = .ok (.aload_n 0, 1) := by decide +kernel
theorem dX12_finds_110 : decode cX12_finds 110 = .ok (.iload 4, 2) := by decide +kernel
theorem dX12_finds_112 : decode cX12_finds 112 = .ok (.invokevirtual 413, 3) := by decide +kernel
theorem dX12_finds_115 : decode cX12_finds 115 = .ok (.iconst 1, 1) := by decide +kernel
theorem dX12_finds_116 : decode cX12_finds 116 = .ok (.ireturn, 1) := by decide +kernel
theorem dX12_finds_117 : decode cX12_finds 117 = .ok (.aload_n 0, 1) := by decide +kernel
theorem dX12_finds_118 : decode cX12_finds 118 = .ok (.getfield 171, 3) := by decide +kernel
theorem dX12_finds_121 : decode cX12_finds 121 = .ok (.iload_n 2, 1) := by decide +kernel
theorem dX12_finds_122 : decode cX12_finds 122 = .ok (.aload_n 0, 1) := by decide +kernel
theorem dX12_finds_123 : decode cX12_finds 123 = .ok (.getfield 162, 3) := by decide +kernel
theorem dX12_finds_126 : decode cX12_finds 126 = .ok (.iload 4, 2) := by decide +kernel
theorem dX12_finds_128 : decode cX12_finds 128 = .ok (.iaload, 1) := by decide +kernel
theorem dX12_finds_129 : decode cX12_finds 129 = .ok (.iastore, 1) := by decide +kernel
theorem dX12_finds_130 : decode cX12_finds 130 = .ok (.iload_n 2, 1) := by decide +kernel
theorem dX12_finds_131 : decode cX12_finds 131 = .ok (.iconst 1, 1) := by decide +kernel
theorem dX12_finds_132 : decode cX12_finds 132 = .ok (.iadd, 1) := by decide +kernel
theorem dX12_finds_133 : decode cX12_finds 133 = .ok (.istore_n 2, 1) := by decide +kernel
theorem dX12_finds_134 : decode cX12_finds 134 = .ok (.iinc 4 1, 3) := by decide +kernel
theorem dX12_finds_137 : decode cX12_finds 137 = .ok (.goto (-95), 3) := by decide +kernel
theorem dX12_finds_140 : decode cX12_finds 140 = .ok (.iinc 3 1, 3) := by decide +kernel
theorem dX12_finds_143 : decode cX12_finds 143 = .ok (.goto (-109), 3) := by decide +kernel
theorem dX12_finds_146 : decode cX12_finds 146 = .ok (.iconst 0, 1) := by decide +kernel
theorem dX12_finds_147 : decode cX12_finds 147 = .ok (.ireturn, 1) := by decide +kernel
theorem dX12_paired_0 : decode cX12_paired 0 = .ok (.iconst 0, 1) := by decide +kernel
theorem dX12_paired_1 : decode cX12_paired 1 = .ok (.istore_n 3, 1) := by decide +kernel
theorem dX12_paired_2 : decode cX12_paired 2 = .ok (.iload_n 3, 1) := by decide +kernel
theorem dX12_paired_3 : decode cX12_paired 3 = .ok (.aload_n 0, 1) := by decide +kernel
theorem dX12_paired_4 : decode cX12_paired 4 = .ok (.getfield 193, 3) := by decide +kernel
theorem dX12_paired_7 : decode cX12_paired 7 = .ok (.if_icmp .ge 16, 3) := by decide +kernel
theorem dX12_paired_10 : decode cX12_paired 10 = .ok (.aload_n 0, 1) := by decide +kernel
theorem dX12_paired_11 : decode cX12_paired 11 = .ok (.getfield 162, 3) := by decide +kernel
theorem dX12_paired_14 : decode cX12_paired 14 = .ok (.iload_n 3, 1) := by decide +kernel
theorem dX12_paired_15 : decode cX12_paired 15 = .ok (.iconst (-1), 1) := by decide +kernel
theorem dX12_paired_16 : decode cX12_paired 16 = .ok (.iastore, 1) := by decide +kernel
theorem dX12_paired_17 : decode cX12_paired 17 = .ok (.iinc 3 1, 3) := by decide +kernel
theorem dX12_paired_20 : decode cX12_paired 20 = .ok (.goto (-18), 3) := by decide +kernel
theorem dX12_paired_23 : decode cX12_paired 23 = .ok (.iconst 0, 1) := by decide +kernel
theorem dX12_paired_24 : decode cX12_paired 24 = .ok (.istore_n 3, 1) := by decide +kernel
theorem dX12_paired_25 : decode cX12_paired 25 = .ok (.iload_n 3, 1) := by decide +kernel
theorem dX12_paired_26 : decode cX12_paired 26 = .ok (.aload_n 0, 1) := by decide +kernel
theorem dX12_paired_27 : decode cX12_paired 27 = .ok (.getfield 187, 3) := by decide +kernel
theorem dX12_paired_30 : decode cX12_paired 30 = .ok (.if_icmp .ge 16, 3) := by decide +kernel
theorem dX12_paired_33 : decode cX12_paired 33 = .ok (.aload_n 0, 1) := by decide +kernel
theorem dX12_paired_34 : decode cX12_paired 34 = .ok (.getfield 165, 3) := by decide +kernel
theorem dX12_paired_37 : decode cX12_paired 37 = .ok (.iload_n 3, 1) := by decide +kernel
theorem dX12_paired_38 : decode cX12_paired 38 = .ok (.iconst (-1), 1) := by decide +kernel
theorem dX12_paired_39 : decode cX12_paired 39 = .ok (.iastore, 1) := by decide +kernel
theorem dX12_paired_40 : decode cX12_paired 40 = .ok (.iinc 3 1, 3) := by decide +kernel
theorem dX12_paired_43 : decode cX12_paired 43 = .ok (.goto (-18), 3) := by decide +kernel
theorem dX12_paired_46 : decode cX12_paired 46 = .ok (.iconst 0, 1) := by decide +kernel
theorem dX12_paired_47 : decode cX12_paired 47 = .ok (.istore_n 3, 1) := by decide +kernel
theorem dX12_paired_48 : decode cX12_paired 48 = .ok (.iconst 0, 1) := by decide +kernel
theorem dX12_paired_49 : decode cX12_paired 49 = .ok (.istore 4, 2) := by decide +kernel
theorem dX12_paired_51 : decode cX12_paired 51 = .ok (.iload 4, 2) := by decide +kernel
theorem dX12_paired_53 : decode cX12_paired 53 = .ok (.aload_n 0, 1) := by decide +kernel
theorem dX12_paired_54 : decode cX12_paired 54 = .ok (.getfield 187, 3) := by decide +kernel
theorem dX12_paired_57 : decode cX12_paired 57 = .ok (.if_icmp .ge 33, 3) := by decide +kernel
theorem dX12_paired_60 : decode cX12_paired 60 = .ok (.lload_n 1, 1) := by decide +kernel
theorem dX12_paired_61 : decode cX12_paired 61 = .ok (.iload 4, 2) := by decide +kernel
theorem dX12_paired_63 : decode cX12_paired 63 = .ok (.lshr, 1) := by decide +kernel
theorem dX12_paired_64 : decode cX12_paired 64 = .ok (.lconst 1, 1) := by decide +kernel
theorem dX12_paired_65 : decode cX12_paired 65 = .ok (.land, 1) := by decide +kernel
theorem dX12_paired_66 : decode cX12_paired 66 = .ok (.lconst 1, 1) := by decide +kernel
theorem dX12_paired_67 : decode cX12_paired 67 = .ok (.lcmp, 1) := by decide +kernel
theorem dX12_paired_68 : decode cX12_paired 68 = .ok (.ifCond .ne 16, 3) := by decide +kernel
theorem dX12_paired_71 : decode cX12_paired 71 = .ok (.aload_n 0, 1) := by decide +kernel
theorem dX12_paired_72 : decode cX12_paired 72 = .ok (.iload 4, 2) := by decide +kernel
theorem dX12_paired_74 : decode cX12_paired 74 = .ok (.invokevirtual 416, 3) := by decide +kernel
theorem dX12_paired_77 : decode cX12_paired 77 = .ok (.ifCond .eq 7, 3) := by decide +kernel
theorem dX12_paired_80 : decode cX12_paired 80 = .ok (.iload_n 3, 1) := by decide +kernel
theorem dX12_paired_81 : decode cX12_paired 81 = .ok (.iconst 1, 1) := by decide +kernel
theorem dX12_paired_82 : decode cX12_paired 82 = .ok (.iadd, 1) := by decide +kernel
theorem dX12_paired_83 : decode cX12_paired 83 = .ok (.istore_n 3, 1) := by decide +kernel
theorem dX12_paired_84 : decode cX12_paired 84 = .ok (.iinc 4 1, 3) := by decide +kernel
theorem dX12_paired_87 : decode cX12_paired 87 = .ok (.goto (-36), 3) := by decide +kernel
theorem dX12_paired_90 : decode cX12_paired 90 = .ok (.iload_n 3, 1) := by decide +kernel
theorem dX12_paired_91 : decode cX12_paired 91 = .ok (.ireturn, 1) := by decide +kernel
theorem dX12_isWantedToday_0 : decode cX12_isWantedToday 0 = .ok (.iconst 0, 1) := by decide +kernel
theorem dX12_isWantedToday_1 : decode cX12_isWantedToday 1 = .ok (.istore_n 2, 1) := by decide +kernel
theorem dX12_isWantedToday_2 : decode cX12_isWantedToday 2 = .ok (.iload_n 2, 1) := by decide +kernel
theorem dX12_isWantedToday_3 : decode cX12_isWantedToday 3 = .ok (.aload_n 0, 1) := by decide +kernel
theorem dX12_isWantedToday_4 : decode cX12_isWantedToday 4 = .ok (.getfield 193, 3) := by decide +kernel
theorem dX12_isWantedToday_7 : decode cX12_isWantedToday 7 = .ok (.if_icmp .ge 25, 3) := by decide +kernel
theorem dX12_isWantedToday_10 : decode cX12_isWantedToday 10 = .ok (.aload_n 0, 1) := by decide +kernel
theorem dX12_isWantedToday_11 : decode cX12_isWantedToday 11 = .ok (.getfield 159, 3) := by decide +kernel
theorem dX12_isWantedToday_14 : decode cX12_isWantedToday 14 = .ok (.bipush 32, 2) := by decide +kernel
theorem dX12_isWantedToday_16 : decode cX12_isWantedToday 16 = .ok (.iload_n 2, 1) := by decide +kernel
theorem dX12_isWantedToday_17 : decode cX12_isWantedToday 17 = .ok (.imul, 1) := by decide +kernel
theorem dX12_isWantedToday_18 : decode cX12_isWantedToday 18 = .ok (.iload_n 1, 1) := by decide +kernel
theorem dX12_isWantedToday_19 : decode cX12_isWantedToday 19 = .ok (.iadd, 1) := by decide +kernel
theorem dX12_isWantedToday_20 : decode cX12_isWantedToday 20 = .ok (.baload, 1) := by decide +kernel
theorem dX12_isWantedToday_21 : decode cX12_isWantedToday 21 = .ok (.ifCond .eq 5, 3) := by decide +kernel
theorem dX12_isWantedToday_24 : decode cX12_isWantedToday 24 = .ok (.iconst 1, 1) := by decide +kernel
theorem dX12_isWantedToday_25 : decode cX12_isWantedToday 25 = .ok (.ireturn, 1) := by decide +kernel
theorem dX12_isWantedToday_26 : decode cX12_isWantedToday 26 = .ok (.iinc 2 1, 3) := by decide +kernel
theorem dX12_isWantedToday_29 : decode cX12_isWantedToday 29 = .ok (.goto (-27), 3) := by decide +kernel
theorem dX12_isWantedToday_32 : decode cX12_isWantedToday 32 = .ok (.iconst 0, 1) := by decide +kernel
theorem dX12_isWantedToday_33 : decode cX12_isWantedToday 33 = .ok (.ireturn, 1) := by decide +kernel
theorem dX12_bits_0 : decode cX12_bits 0 = .ok (.iconst 0, 1) := by decide +kernel
theorem dX12_bits_1 : decode cX12_bits 1 = .ok (.istore_n 1, 1) := by decide +kernel
theorem dX12_bits_2 : decode cX12_bits 2 = .ok (.iconst 0, 1) := by decide +kernel
theorem dX12_bits_3 : decode cX12_bits 3 = .ok (.istore_n 2, 1) := by decide +kernel
theorem dX12_bits_4 : decode cX12_bits 4 = .ok (.iload_n 2, 1) := by decide +kernel
theorem dX12_bits_5 : decode cX12_bits 5 = .ok (.bipush 16, 2) := by decide +kernel
theorem dX12_bits_7 : decode cX12_bits 7 = .ok (.if_icmp .ge 17, 3) := by decide +kernel
theorem dX12_bits_10 : decode cX12_bits 10 = .ok (.iload_n 1, 1) := by decide +kernel
theorem dX12_bits_11 : decode cX12_bits 11 = .ok (.iload_n 0, 1) := by decide +kernel
theorem dX12_bits_12 : decode cX12_bits 12 = .ok (.iload_n 2, 1) := by decide +kernel
theorem dX12_bits_13 : decode cX12_bits 13 = .ok (.ishr, 1) := by decide +kernel
theorem dX12_bits_14 : decode cX12_bits 14 = .ok (.iconst 1, 1) := by decide +kernel
theorem dX12_bits_15 : decode cX12_bits 15 = .ok (.iand, 1) := by decide +kernel
theorem dX12_bits_16 : decode cX12_bits 16 = .ok (.iadd, 1) := by decide +kernel
theorem dX12_bits_17 : decode cX12_bits 17 = .ok (.istore_n 1, 1) := by decide +kernel
theorem dX12_bits_18 : decode cX12_bits 18 = .ok (.iinc 2 1, 3) := by decide +kernel
theorem dX12_bits_21 : decode cX12_bits 21 = .ok (.goto (-17), 3) := by decide +kernel
theorem dX12_bits_24 : decode cX12_bits 24 = .ok (.iload_n 1, 1) := by decide +kernel
theorem dX12_bits_25 : decode cX12_bits 25 = .ok (.ireturn, 1) := by decide +kernel
theorem dX12_load_0 : decode cX12_load 0 = .ok (.iload_n 1, 1) := by decide +kernel
theorem dX12_load_1 : decode cX12_load 1 = .ok (.invokestatic 203, 3) := by decide +kernel
theorem dX12_load_4 : decode cX12_load 4 = .ok (.ifCond .eq 35, 3) := by decide +kernel
theorem dX12_load_7 : decode cX12_load 7 = .ok (.iload_n 2, 1) := by decide +kernel
theorem dX12_load_8 : decode cX12_load 8 = .ok (.iconst 1, 1) := by decide +kernel
theorem dX12_load_9 : decode cX12_load 9 = .ok (.sipush 1000, 3) := by decide +kernel
theorem dX12_load_12 : decode cX12_load 12 = .ok (.invokestatic 199, 3) := by decide +kernel
theorem dX12_load_15 : decode cX12_load 15 = .ok (.ifCond .eq 24, 3) := by decide +kernel
theorem dX12_load_18 : decode cX12_load 18 = .ok (.iload_n 3, 1) := by decide +kernel
theorem dX12_load_19 : decode cX12_load 19 = .ok (.iconst 0, 1) := by decide +kernel
theorem dX12_load_20 : decode cX12_load 20 = .ok (.sipush 255, 3) := by decide +kernel
theorem dX12_load_23 : decode cX12_load 23 = .ok (.invokestatic 199, 3) := by decide +kernel
theorem dX12_load_26 : decode cX12_load 26 = .ok (.ifCond .eq 13, 3) := by decide +kernel
theorem dX12_load_29 : decode cX12_load 29 = .ok (.iload 4, 2) := by decide +kernel
theorem dX12_load_31 : decode cX12_load 31 = .ok (.iconst 0, 1) := by decide +kernel
theorem dX12_load_32 : decode cX12_load 32 = .ok (.iconst 2, 1) := by decide +kernel
theorem dX12_load_33 : decode cX12_load 33 = .ok (.invokestatic 199, 3) := by decide +kernel
theorem dX12_load_36 : decode cX12_load 36 = .ok (.ifCond .ne 7, 3) := by decide +kernel
theorem dX12_load_39 : decode cX12_load 39 = .ok (.ldc2_w 383, 3) := by decide +kernel
theorem dX12_load_42 : decode cX12_load 42 = .ok (.lreturn, 1) := by decide +kernel
theorem dX12_load_43 : decode cX12_load 43 = .ok (.aload_n 0, 1) := by decide +kernel
theorem dX12_load_44 : decode cX12_load 44 = .ok (.iload_n 1, 1) := by decide +kernel
theorem dX12_load_45 : decode cX12_load 45 = .ok (.iload_n 2, 1) := by decide +kernel
theorem dX12_load_46 : decode cX12_load 46 = .ok (.invokevirtual 419, 3) := by decide +kernel
theorem dX12_load_49 : decode cX12_load 49 = .ok (.aload_n 0, 1) := by decide +kernel
theorem dX12_load_50 : decode cX12_load 50 = .ok (.aload_n 0, 1) := by decide +kernel
theorem dX12_load_51 : decode cX12_load 51 = .ok (.getfield 196, 3) := by decide +kernel
theorem dX12_load_54 : decode cX12_load 54 = .ok (.iload_n 1, 1) := by decide +kernel
theorem dX12_load_55 : decode cX12_load 55 = .ok (.invokevirtual 379, 3) := by decide +kernel
theorem dX12_load_58 : decode cX12_load 58 = .ok (.lstore 5, 2) := by decide +kernel
theorem dX12_load_60 : decode cX12_load 60 = .ok (.iconst 0, 1) := by decide +kernel
theorem dX12_load_61 : decode cX12_load 61 = .ok (.istore 7, 2) := by decide +kernel
theorem dX12_load_63 : decode cX12_load 63 = .ok (.iconst 0, 1) := by decide +kernel
theorem dX12_load_64 : decode cX12_load 64 = .ok (.istore 8, 2) := by decide +kernel
theorem dX12_load_66 : decode cX12_load 66 = .ok (.iconst 0, 1) := by decide +kernel
theorem dX12_load_67 : decode cX12_load 67 = .ok (.istore 9, 2) := by decide +kernel
theorem dX12_load_69 : decode cX12_load 69 = .ok (.iconst 0, 1) := by decide +kernel
theorem dX12_load_70 : decode cX12_load 70 = .ok (.istore 10, 2) := by decide +kernel
theorem dX12_load_72 : decode cX12_load 72 = .ok (.iload 10, 2) := by decide +kernel
theorem dX12_load_74 : decode cX12_load 74 = .ok (.aload_n 0, 1) := by decide +kernel
theorem dX12_load_75 : decode cX12_load 75 = .ok (.getfield 187, 3) := by decide +kernel
theorem dX12_load_78 : decode cX12_load 78 = .ok (.if_icmp .ge 123, 3) := by decide +kernel
theorem dX12_load_81 : decode cX12_load 81 = .ok (.iload 7, 2) := by decide +kernel
theorem dX12_load_83 : decode cX12_load 83 = .ok (.bipush 12, 2) := by decide +kernel
theorem dX12_load_85 : decode cX12_load 85 = .ok (.if_icmp .ge 116, 3) := by decide +kernel
theorem dX12_load_88 : decode cX12_load 88 = .ok (.lload 5, 2) := by decide +kernel
theorem dX12_load_90 : decode cX12_load 90 = .ok (.iload 10, 2) := by decide +kernel
theorem dX12_load_92 : decode cX12_load 92 = .ok (.lshr, 1) := by decide +kernel
theorem dX12_load_93 : decode cX12_load 93 = .ok (.lconst 1, 1) := by decide +kernel
theorem dX12_load_94 : decode cX12_load 94 = .ok (.land, 1) := by decide +kernel
theorem dX12_load_95 : decode cX12_load 95 = .ok (.lconst 1, 1) := by decide +kernel
theorem dX12_load_96 : decode cX12_load 96 = .ok (.lcmp, 1) := by decide +kernel
theorem dX12_load_97 : decode cX12_load 97 = .ok (.ifCond .ne 7, 3) := by decide +kernel
theorem dX12_load_100 : decode cX12_load 100 = .ok (.iconst 1, 1) := by decide +kernel
theorem dX12_load_101 : decode cX12_load 101 = .ok (.goto 4, 3) := by decide +kernel
theorem dX12_load_104 : decode cX12_load 104 = .ok (.iconst 0, 1) := by decide +kernel
theorem dX12_load_105 : decode cX12_load 105 = .ok (.istore 11, 2) := by decide +kernel
theorem dX12_load_107 : decode cX12_load 107 = .ok (.aload_n 0, 1) := by decide +kernel
theorem dX12_load_108 : decode cX12_load 108 = .ok (.getfield 22, 3) := by decide +kernel
theorem dX12_load_111 : decode cX12_load 111 = .ok (.iload 10, 2) := by decide +kernel
theorem dX12_load_113 : decode cX12_load 113 = .ok (.iaload, 1) := by decide +kernel
theorem dX12_load_114 : decode cX12_load 114 = .ok (.ifCond .eq 16, 3) := by decide +kernel
theorem dX12_load_117 : decode cX12_load 117 = .ok (.aload_n 0, 1) := by decide +kernel
theorem dX12_load_118 : decode cX12_load 118 = .ok (.getfield 22, 3) := by decide +kernel
theorem dX12_load_121 : decode cX12_load 121 = .ok (.iload 10, 2) := by decide +kernel
theorem dX12_load_123 : decode cX12_load 123 = .ok (.iaload, 1) := by decide +kernel
theorem dX12_load_124 : decode cX12_load 124 = .ok (.iconst 1, 1) := by decide +kernel
theorem dX12_load_125 : decode cX12_load 125 = .ok (.iload_n 1, 1) := by decide +kernel
theorem dX12_load_126 : decode cX12_load 126 = .ok (.iadd, 1) := by decide +kernel
theorem dX12_load_127 : decode cX12_load 127 = .ok (.if_icmp .ne 68, 3) := by decide +kernel
theorem dX12_load_130 : decode cX12_load 130 = .ok (.iload 11, 2) := by decide +kernel
theorem dX12_load_132 : decode cX12_load 132 = .ok (.ifCond .ne 15, 3) := by decide +kernel
theorem dX12_load_135 : decode cX12_load 135 = .ok (.aload_n 0, 1) := by decide +kernel
theorem dX12_load_136 : decode cX12_load 136 = .ok (.iload 10, 2) := by decide +kernel
theorem dX12_load_138 : decode cX12_load 138 = .ok (.invokevirtual 422, 3) := by decide +kernel
theorem dX12_load_141 : decode cX12_load 141 = .ok (.ifCond .ne 6, 3) := by decide +kernel
theorem dX12_load_144 : decode cX12_load 144 = .ok (.goto 51, 3) := by decide +kernel
theorem dX12_load_147 : decode cX12_load 147 = .ok (.aload_n 0, 1) := by decide +kernel
theorem dX12_load_148 : decode cX12_load 148 = .ok (.getfield 174, 3) := by decide +kernel
theorem dX12_load_151 : decode cX12_load 151 = .ok (.iload 7, 2) := by decide +kernel
theorem dX12_load_153 : decode cX12_load 153 = .ok (.iload 10, 2) := by decide +kernel
theorem dX12_load_155 : decode cX12_load 155 = .ok (.iastore, 1) := by decide +kernel
theorem dX12_load_156 : decode cX12_load 156 = .ok (.iload 11, 2) := by decide +kernel
theorem dX12_load_158 : decode cX12_load 158 = .ok (.ifCond .eq 13, 3) := by decide +kernel
theorem dX12_load_161 : decode cX12_load 161 = .ok (.iload 8, 2) := by decide +kernel
theorem dX12_load_163 : decode cX12_load 163 = .ok (.iconst 1, 1) := by decide +kernel
theorem dX12_load_164 : decode cX12_load 164 = .ok (.iload 7, 2) := by decide +kernel
theorem dX12_load_166 : decode cX12_load 166 = .ok (.ishl, 1) := by decide +kernel
theorem dX12_load_167 : decode cX12_load 167 = .ok (.ior, 1) := by decide +kernel
theorem dX12_load_168 : decode cX12_load 168 = .ok (.goto 5, 3) := by decide +kernel
theorem dX12_load_171 : decode cX12_load 171 = .ok (.iload 8, 2) := by decide +kernel
theorem dX12_load_173 : decode cX12_load 173 = .ok (.istore 8, 2) := by decide +kernel
theorem dX12_load_175 : decode cX12_load 175 = .ok (.iload 9, 2) := by decide +kernel
theorem dX12_load_177 : decode cX12_load 177 = .ok (.iconst 1, 1) := by decide +kernel
theorem dX12_load_178 : decode cX12_load 178 = .ok (.aload_n 0, 1) := by decide +kernel
theorem dX12_load_179 : decode cX12_load 179 = .ok (.getfield 7, 3) := by decide +kernel
theorem dX12_load_182 : decode cX12_load 182 = .ok (.iload 10, 2) := by decide +kernel
theorem dX12_load_184 : decode cX12_load 184 = .ok (.iaload, 1) := by decide +kernel
theorem dX12_load_185 : decode cX12_load 185 = .ok (.ishl, 1) := by decide +kernel
theorem dX12_load_186 : decode cX12_load 186 = .ok (.ior, 1) := by decide +kernel
theorem dX12_load_187 : decode cX12_load 187 = .ok (.istore 9, 2) := by decide +kernel
theorem dX12_load_189 : decode cX12_load 189 = .ok (.iload 7, 2) := by decide +kernel
theorem dX12_load_191 : decode cX12_load 191 = .ok (.iconst 1, 1) := by decide +kernel
theorem dX12_load_192 : decode cX12_load 192 = .ok (.iadd, 1) := by decide +kernel
theorem dX12_load_193 : decode cX12_load 193 = .ok (.istore 7, 2) := by decide +kernel
theorem dX12_load_195 : decode cX12_load 195 = .ok (.iinc 10 1, 3) := by decide +kernel
theorem dX12_load_198 : decode cX12_load 198 = .ok (.goto (-126), 3) := by decide +kernel
theorem dX12_load_201 : decode cX12_load 201 = .ok (.ldc2_w 425, 3) := by decide +kernel
theorem dX12_load_204 : decode cX12_load 204 = .ok (.lstore 10, 2) := by decide +kernel
theorem dX12_load_206 : decode cX12_load 206 = .ok (.iconst 0, 1) := by decide +kernel
theorem dX12_load_207 : decode cX12_load 207 = .ok (.istore 12, 2) := by decide +kernel
theorem dX12_load_209 : decode cX12_load 209 = .ok (.iconst 0, 1) := by decide +kernel
theorem dX12_load_210 : decode cX12_load 210 = .ok (.istore 13, 2) := by decide +kernel
theorem dX12_load_212 : decode cX12_load 212 = .ok (.iconst 0, 1) := by decide +kernel
theorem dX12_load_213 : decode cX12_load 213 = .ok (.istore 14, 2) := by decide +kernel
theorem dX12_load_215 : decode cX12_load 215 = .ok (.iload 14, 2) := by decide +kernel
theorem dX12_load_217 : decode cX12_load 217 = .ok (.iconst 1, 1) := by decide +kernel
theorem dX12_load_218 : decode cX12_load 218 = .ok (.iload 7, 2) := by decide +kernel
theorem dX12_load_220 : decode cX12_load 220 = .ok (.ishl, 1) := by decide +kernel
theorem dX12_load_221 : decode cX12_load 221 = .ok (.if_icmp .ge 199, 3) := by decide +kernel
theorem dX12_load_224 : decode cX12_load 224 = .ok (.iload 8, 2) := by decide +kernel
theorem dX12_load_226 : decode cX12_load 226 = .ok (.iload 14, 2) := by decide +kernel
theorem dX12_load_228 : decode cX12_load 228 = .ok (.iconst (-1), 1) := by decide +kernel
theorem dX12_load_229 : decode cX12_load 229 = .ok (.ixor, 1) := by decide +kernel
theorem dX12_load_230 : decode cX12_load 230 = .ok (.iand, 1) := by decide +kernel
theorem dX12_load_231 : decode cX12_load 231 = .ok (.ifCond .eq 6, 3) := by decide +kernel
theorem dX12_load_234 : decode cX12_load 234 = .ok (.goto 180, 3) := by decide +kernel
theorem dX12_load_237 : decode cX12_load 237 = .ok (.lconst 0, 1) := by decide +kernel
theorem dX12_load_238 : decode cX12_load 238 = .ok (.lstore 15, 2) := by decide +kernel
theorem dX12_load_240 : decode cX12_load 240 = .ok (.iconst 0, 1) := by decide +kernel
theorem dX12_load_241 : decode cX12_load 241 = .ok (.istore 17, 2) := by decide +kernel
theorem dX12_load_243 : decode cX12_load 243 = .ok (.iconst 0, 1) := by decide +kernel
theorem dX12_load_244 : decode cX12_load 244 = .ok (.istore 18, 2) := by decide +kernel
theorem dX12_load_246 : decode cX12_load 246 = .ok (.iload 18, 2) := by decide +kernel
theorem dX12_load_248 : decode cX12_load 248 = .ok (.iload 7, 2) := by decide +kernel
theorem dX12_load_250 : decode cX12_load 250 = .ok (.if_icmp .ge 55, 3) := by decide +kernel
theorem dX12_load_253 : decode cX12_load 253 = .ok (.iload 14, 2) := by decide +kernel
theorem dX12_load_255 : decode cX12_load 255 = .ok (.iload 18, 2) := by decide +kernel
theorem dX12_load_257 : decode cX12_load 257 = .ok (.ishr, 1) := by decide +kernel
theorem dX12_load_258 : decode cX12_load 258 = .ok (.iconst 1, 1) := by decide +kernel
theorem dX12_load_259 : decode cX12_load 259 = .ok (.iand, 1) := by decide +kernel
theorem dX12_load_260 : decode cX12_load 260 = .ok (.ifCond .ne 6, 3) := by decide +kernel
theorem dX12_load_263 : decode cX12_load 263 = .ok (.goto 36, 3) := by decide +kernel
theorem dX12_load_266 : decode cX12_load 266 = .ok (.lload 15, 2) := by decide +kernel
theorem dX12_load_268 : decode cX12_load 268 = .ok (.lconst 1, 1) := by decide +kernel
theorem dX12_load_269 : decode cX12_load 269 = .ok (.aload_n 0, 1) := by decide +kernel
theorem dX12_load_270 : decode cX12_load 270 = .ok (.getfield 174, 3) := by decide +kernel
theorem dX12_load_273 : decode cX12_load 273 = .ok (.iload 18, 2) := by decide +kernel
theorem dX12_load_275 : decode cX12_load 275 = .ok (.iaload, 1) := by decide +kernel
theorem dX12_load_276 : decode cX12_load 276 = .ok (.lshl, 1) := by decide +kernel
theorem dX12_load_277 : decode cX12_load 277 = .ok (.lor, 1) := by decide +kernel
theorem dX12_load_278 : decode cX12_load 278 = .ok (.lstore 15, 2) := by decide +kernel
theorem dX12_load_280 : decode cX12_load 280 = .ok (.iload 17, 2) := by decide +kernel
theorem dX12_load_282 : decode cX12_load 282 = .ok (.iconst 1, 1) := by decide +kernel
theorem dX12_load_283 : decode cX12_load 283 = .ok (.aload_n 0, 1) := by decide +kernel
theorem dX12_load_284 : decode cX12_load 284 = .ok (.getfield 7, 3) := by decide +kernel
theorem dX12_load_287 : decode cX12_load 287 = .ok (.aload_n 0, 1) := by decide +kernel
theorem dX12_load_288 : decode cX12_load 288 = .ok (.getfield 174, 3) := by decide +kernel
theorem dX12_load_291 : decode cX12_load 291 = .ok (.iload 18, 2) := by decide +kernel
theorem dX12_load_293 : decode cX12_load 293 = .ok (.iaload, 1) := by decide +kernel
theorem dX12_load_294 : decode cX12_load 294 = .ok (.iaload, 1) := by decide +kernel
theorem dX12_load_295 : decode cX12_load 295 = .ok (.ishl, 1) := by decide +kernel
theorem dX12_load_296 : decode cX12_load 296 = .ok (.ior, 1) := by decide +kernel
theorem dX12_load_297 : decode cX12_load 297 = .ok (.istore 17, 2) := by decide +kernel
theorem dX12_load_299 : decode cX12_load 299 = .ok (.iinc 18 1, 3) := by decide +kernel
theorem dX12_load_302 : decode cX12_load 302 = .ok (.goto (-56), 3) := by decide +kernel
theorem dX12_load_305 : decode cX12_load 305 = .ok (.aload_n 0, 1) := by decide +kernel
theorem dX12_load_306 : decode cX12_load 306 = .ok (.lload 15, 2) := by decide +kernel
theorem dX12_load_308 : decode cX12_load 308 = .ok (.invokevirtual 394, 3) := by decide +kernel
theorem dX12_load_311 : decode cX12_load 311 = .ok (.istore 18, 2) := by decide +kernel
theorem dX12_load_313 : decode cX12_load 313 = .ok (.iload 18, 2) := by decide +kernel
theorem dX12_load_315 : decode cX12_load 315 = .ok (.aload_n 0, 1) := by decide +kernel
theorem dX12_load_316 : decode cX12_load 316 = .ok (.getfield 34, 3) := by decide +kernel
theorem dX12_load_319 : decode cX12_load 319 = .ok (.iload_n 1, 1) := by decide +kernel
theorem dX12_load_320 : decode cX12_load 320 = .ok (.iaload, 1) := by decide +kernel
theorem dX12_load_321 : decode cX12_load 321 = .ok (.if_icmp .gt 93, 3) := by decide +kernel
theorem dX12_load_324 : decode cX12_load 324 = .ok (.iload_n 3, 1) := by decide +kernel
theorem dX12_load_325 : decode cX12_load 325 = .ok (.iload 9, 2) := by decide +kernel
theorem dX12_load_327 : decode cX12_load 327 = .ok (.iand, 1) := by decide +kernel
theorem dX12_load_328 : decode cX12_load 328 = .ok (.iload 17, 2) := by decide +kernel
theorem dX12_load_330 : decode cX12_load 330 = .ok (.iconst (-1), 1) := by decide +kernel
theorem dX12_load_331 : decode cX12_load 331 = .ok (.ixor, 1) := by decide +kernel
theorem dX12_load_332 : decode cX12_load 332 = .ok (.iand, 1) := by decide +kernel
theorem dX12_load_333 : decode cX12_load 333 = .ok (.ifCond .eq 6, 3) := by decide +kernel
theorem dX12_load_336 : decode cX12_load 336 = .ok (.goto 78, 3) := by decide +kernel
theorem dX12_load_339 : decode cX12_load 339 = .ok (.lload 10, 2) := by decide +kernel
theorem dX12_load_341 : decode cX12_load 341 = .ok (.ldc2_w 425, 3) := by decide +kernel
theorem dX12_load_344 : decode cX12_load 344 = .ok (.lcmp, 1) := by decide +kernel
theorem dX12_load_345 : decode cX12_load 345 = .ok (.ifCond .eq 16, 3) := by decide +kernel
theorem dX12_load_348 : decode cX12_load 348 = .ok (.iload 14, 2) := by decide +kernel
theorem dX12_load_350 : decode cX12_load 350 = .ok (.invokestatic 427, 3) := by decide +kernel
theorem dX12_load_353 : decode cX12_load 353 = .ok (.iload 12, 2) := by decide +kernel
theorem dX12_load_355 : decode cX12_load 355 = .ok (.if_icmp .ge 6, 3) := by decide +kernel
theorem dX12_load_358 : decode cX12_load 358 = .ok (.goto 56, 3) := by decide +kernel
theorem dX12_load_361 : decode cX12_load 361 = .ok (.aload_n 0, 1) := by decide +kernel
theorem dX12_load_362 : decode cX12_load 362 = .ok (.lload 15, 2) := by decide +kernel
theorem dX12_load_364 : decode cX12_load 364 = .ok (.invokevirtual 430, 3) := by decide +kernel
theorem dX12_load_367 : decode cX12_load 367 = .ok (.istore 19, 2) := by decide +kernel
theorem dX12_load_369 : decode cX12_load 369 = .ok (.lload 10, 2) := by decide +kernel
theorem dX12_load_371 : decode cX12_load 371 = .ok (.ldc2_w 425, 3) := by decide +kernel
theorem dX12_load_374 : decode cX12_load 374 = .ok (.lcmp, 1) := by decide +kernel
theorem dX12_load_375 : decode cX12_load 375 = .ok (.ifCond .eq 27, 3) := by decide +kernel
theorem dX12_load_378 : decode cX12_load 378 = .ok (.iload 19, 2) := by decide +kernel
theorem dX12_load_380 : decode cX12_load 380 = .ok (.iload 12, 2) := by decide +kernel
theorem dX12_load_382 : decode cX12_load 382 = .ok (.if_icmp .lt 32, 3) := by decide +kernel
theorem dX12_load_385 : decode cX12_load 385 = .ok (.iload 19, 2) := by decide +kernel
theorem dX12_load_387 : decode cX12_load 387 = .ok (.iload 12, 2) := by decide +kernel
theorem dX12_load_389 : decode cX12_load 389 = .ok (.if_icmp .ne 13, 3) := by decide +kernel
theorem dX12_load_392 : decode cX12_load 392 = .ok (.iload 18, 2) := by decide +kernel
theorem dX12_load_394 : decode cX12_load 394 = .ok (.iload 13, 2) := by decide +kernel
theorem dX12_load_396 : decode cX12_load 396 = .ok (.if_icmp .lt 6, 3) := by decide +kernel
theorem dX12_load_399 : decode cX12_load 399 = .ok (.goto 15, 3) := by decide +kernel
theorem dX12_load_402 : decode cX12_load 402 = .ok (.lload 15, 2) := by decide +kernel
theorem dX12_load_404 : decode cX12_load 404 = .ok (.lstore 10, 2) := by decide +kernel
theorem dX12_load_406 : decode cX12_load 406 = .ok (.iload 19, 2) := by decide +kernel
theorem dX12_load_408 : decode cX12_load 408 = .ok (.istore 12, 2) := by decide +kernel
theorem dX12_load_410 : decode cX12_load 410 = .ok (.iload 18, 2) := by decide +kernel
theorem dX12_load_412 : decode cX12_load 412 = .ok (.istore 13, 2) := by decide +kernel
theorem dX12_load_414 : decode cX12_load 414 = .ok (.iinc 14 1, 3) := by decide +kernel
theorem dX12_load_417 : decode cX12_load 417 = .ok (.goto (-202), 3) := by decide +kernel
theorem dX12_load_420 : decode cX12_load 420 = .ok (.lload 10, 2) := by decide +kernel
theorem dX12_load_422 : decode cX12_load 422 = .ok (.ldc2_w 425, 3) := by decide +kernel
theorem dX12_load_425 : decode cX12_load 425 = .ok (.lcmp, 1) := by decide +kernel
theorem dX12_load_426 : decode cX12_load 426 = .ok (.ifCond .ne 9, 3) := by decide +kernel
theorem dX12_load_429 : decode cX12_load 429 = .ok (.ldc2_w 425, 3) := by decide +kernel
theorem dX12_load_432 : decode cX12_load 432 = .ok (.goto 28, 3) := by decide +kernel
theorem dX12_load_435 : decode cX12_load 435 = .ok (.iload 4, 2) := by decide +kernel
theorem dX12_load_437 : decode cX12_load 437 = .ok (.ifCond .ne 8, 3) := by decide +kernel
theorem dX12_load_440 : decode cX12_load 440 = .ok (.lload 10, 2) := by decide +kernel
theorem dX12_load_442 : decode cX12_load 442 = .ok (.goto 18, 3) := by decide +kernel
theorem dX12_load_445 : decode cX12_load 445 = .ok (.iload 4, 2) := by decide +kernel
theorem dX12_load_447 : decode cX12_load 447 = .ok (.iconst 1, 1) := by decide +kernel
theorem dX12_load_448 : decode cX12_load 448 = .ok (.if_icmp .ne 9, 3) := by decide +kernel
theorem dX12_load_451 : decode cX12_load 451 = .ok (.iload 12, 2) := by decide +kernel
theorem dX12_load_453 : decode cX12_load 453 = .ok (.i2l, 1) := by decide +kernel
theorem dX12_load_454 : decode cX12_load 454 = .ok (.goto 6, 3) := by decide +kernel
theorem dX12_load_457 : decode cX12_load 457 = .ok (.iload 13, 2) := by decide +kernel
theorem dX12_load_459 : decode cX12_load 459 = .ok (.i2l, 1) := by decide +kernel
theorem dX12_load_460 : decode cX12_load 460 = .ok (.lreturn, 1) := by decide +kernel
theorem dX12_served_0 : decode cX12_served 0 = .ok (.iload_n 1, 1) := by decide +kernel
theorem dX12_served_1 : decode cX12_served 1 = .ok (.invokestatic 203, 3) := by decide +kernel
theorem dX12_served_4 : decode cX12_served 4 = .ok (.ifCond .eq 32, 3) := by decide +kernel
theorem dX12_served_7 : decode cX12_served 7 = .ok (.lload_n 2, 1) := by decide +kernel
theorem dX12_served_8 : decode cX12_served 8 = .ok (.lconst 0, 1) := by decide +kernel
theorem dX12_served_9 : decode cX12_served 9 = .ok (.lcmp, 1) := by decide +kernel
theorem dX12_served_10 : decode cX12_served 10 = .ok (.ifCond .lt 26, 3) := by decide +kernel
theorem dX12_served_13 : decode cX12_served 13 = .ok (.lload_n 2, 1) := by decide +kernel
theorem dX12_served_14 : decode cX12_served 14 = .ok (.lconst 1, 1) := by decide +kernel
theorem dX12_served_15 : decode cX12_served 15 = .ok (.aload_n 0, 1) := by decide +kernel
theorem dX12_served_16 : decode cX12_served 16 = .ok (.getfield 187, 3) := by decide +kernel
theorem dX12_served_19 : decode cX12_served 19 = .ok (.lshl, 1) := by decide +kernel
theorem dX12_served_20 : decode cX12_served 20 = .ok (.lcmp, 1) := by decide +kernel
theorem dX12_served_21 : decode cX12_served 21 = .ok (.ifCond .ge 15, 3) := by decide +kernel
theorem dX12_served_24 : decode cX12_served 24 = .ok (.iload 4, 2) := by decide +kernel
theorem dX12_served_26 : decode cX12_served 26 = .ok (.iconst 1, 1) := by decide +kernel
theorem dX12_served_27 : decode cX12_served 27 = .ok (.sipush 1000, 3) := by decide +kernel
theorem dX12_served_30 : decode cX12_served 30 = .ok (.invokestatic 199, 3) := by decide +kernel
theorem dX12_served_33 : decode cX12_served 33 = .ok (.ifCond .ne 5, 3) := by decide +kernel
theorem dX12_served_36 : decode cX12_served 36 = .ok (.iconst (-1), 1) := by decide +kernel
theorem dX12_served_37 : decode cX12_served 37 = .ok (.ireturn, 1) := by decide +kernel
theorem dX12_served_38 : decode cX12_served 38 = .ok (.aload_n 0, 1) := by decide +kernel
theorem dX12_served_39 : decode cX12_served 39 = .ok (.iload_n 1, 1) := by decide +kernel
theorem dX12_served_40 : decode cX12_served 40 = .ok (.iload 4, 2) := by decide +kernel
theorem dX12_served_42 : decode cX12_served 42 = .ok (.invokevirtual 419, 3) := by decide +kernel
theorem dX12_served_45 : decode cX12_served 45 = .ok (.aload_n 0, 1) := by decide +kernel
theorem dX12_served_46 : decode cX12_served 46 = .ok (.lload_n 2, 1) := by decide +kernel
theorem dX12_served_47 : decode cX12_served 47 = .ok (.invokevirtual 430, 3) := by decide +kernel
theorem dX12_served_50 : decode cX12_served 50 = .ok (.ireturn, 1) := by decide +kernel
theorem dX12_visitsOf_0 : decode cX12_visitsOf 0 = .ok (.iconst 0, 1) := by decide +kernel
theorem dX12_visitsOf_1 : decode cX12_visitsOf 1 = .ok (.istore_n 2, 1) := by decide +kernel
theorem dX12_visitsOf_2 : decode cX12_visitsOf 2 = .ok (.iconst 0, 1) := by decide +kernel
theorem dX12_visitsOf_3 : decode cX12_visitsOf 3 = .ok (.istore_n 3, 1) := by decide +kernel
theorem dX12_visitsOf_4 : decode cX12_visitsOf 4 = .ok (.iload_n 3, 1) := by decide +kernel
theorem dX12_visitsOf_5 : decode cX12_visitsOf 5 = .ok (.aload_n 0, 1) := by decide +kernel
theorem dX12_visitsOf_6 : decode cX12_visitsOf 6 = .ok (.getfield 196, 3) := by decide +kernel
theorem dX12_visitsOf_9 : decode cX12_visitsOf 9 = .ok (.if_icmp .gt 43, 3) := by decide +kernel
theorem dX12_visitsOf_12 : decode cX12_visitsOf 12 = .ok (.iconst 0, 1) := by decide +kernel
theorem dX12_visitsOf_13 : decode cX12_visitsOf 13 = .ok (.istore 4, 2) := by decide +kernel
theorem dX12_visitsOf_15 : decode cX12_visitsOf 15 = .ok (.iload 4, 2) := by decide +kernel
theorem dX12_visitsOf_17 : decode cX12_visitsOf 17 = .ok (.iconst 3, 1) := by decide +kernel
theorem dX12_visitsOf_18 : decode cX12_visitsOf 18 = .ok (.if_icmp .ge 28, 3) := by decide +kernel
theorem dX12_visitsOf_21 : decode cX12_visitsOf 21 = .ok (.iload_n 2, 1) := by decide +kernel
theorem dX12_visitsOf_22 : decode cX12_visitsOf 22 = .ok (.aload_n 0, 1) := by decide +kernel
theorem dX12_visitsOf_23 : decode cX12_visitsOf 23 = .ok (.iload 4, 2) := by decide +kernel
theorem dX12_visitsOf_25 : decode cX12_visitsOf 25 = .ok (.iload_n 1, 1) := by decide +kernel
theorem dX12_visitsOf_26 : decode cX12_visitsOf 26 = .ok (.iload_n 3, 1) := by decide +kernel
theorem dX12_visitsOf_27 : decode cX12_visitsOf 27 = .ok (.invokevirtual 346, 3) := by decide +kernel
theorem dX12_visitsOf_30 : decode cX12_visitsOf 30 = .ok (.ifCond .eq 7, 3) := by decide +kernel
theorem dX12_visitsOf_33 : decode cX12_visitsOf 33 = .ok (.iconst 1, 1) := by decide +kernel
theorem dX12_visitsOf_34 : decode cX12_visitsOf 34 = .ok (.goto 4, 3) := by decide +kernel
theorem dX12_visitsOf_37 : decode cX12_visitsOf 37 = .ok (.iconst 0, 1) := by decide +kernel
theorem dX12_visitsOf_38 : decode cX12_visitsOf 38 = .ok (.iadd, 1) := by decide +kernel
theorem dX12_visitsOf_39 : decode cX12_visitsOf 39 = .ok (.istore_n 2, 1) := by decide +kernel
theorem dX12_visitsOf_40 : decode cX12_visitsOf 40 = .ok (.iinc 4 1, 3) := by decide +kernel
theorem dX12_visitsOf_43 : decode cX12_visitsOf 43 = .ok (.goto (-28), 3) := by decide +kernel
theorem dX12_visitsOf_46 : decode cX12_visitsOf 46 = .ok (.iinc 3 1, 3) := by decide +kernel
theorem dX12_visitsOf_49 : decode cX12_visitsOf 49 = .ok (.goto (-45), 3) := by decide +kernel
theorem dX12_visitsOf_52 : decode cX12_visitsOf 52 = .ok (.iload_n 2, 1) := by decide +kernel
theorem dX12_visitsOf_53 : decode cX12_visitsOf 53 = .ok (.ireturn, 1) := by decide +kernel
theorem dX12_least_0 : decode cX12_least 0 = .ok (.iload_n 1, 1) := by decide +kernel
theorem dX12_least_1 : decode cX12_least 1 = .ok (.iconst 0, 1) := by decide +kernel
theorem dX12_least_2 : decode cX12_least 2 = .ok (.iconst 2, 1) := by decide +kernel
theorem dX12_least_3 : decode cX12_least 3 = .ok (.invokestatic 199, 3) := by decide +kernel
theorem dX12_least_6 : decode cX12_least 6 = .ok (.ifCond .ne 5, 3) := by decide +kernel
theorem dX12_least_9 : decode cX12_least 9 = .ok (.iconst (-1), 1) := by decide +kernel
theorem dX12_least_10 : decode cX12_least 10 = .ok (.ireturn, 1) := by decide +kernel
theorem dX12_least_11 : decode cX12_least 11 = .ok (.iconst (-1), 1) := by decide +kernel
theorem dX12_least_12 : decode cX12_least 12 = .ok (.istore_n 2, 1) := by decide +kernel
theorem dX12_least_13 : decode cX12_least 13 = .ok (.iconst 0, 1) := by decide +kernel
theorem dX12_least_14 : decode cX12_least 14 = .ok (.istore_n 3, 1) := by decide +kernel
theorem dX12_least_15 : decode cX12_least 15 = .ok (.iconst 0, 1) := by decide +kernel
theorem dX12_least_16 : decode cX12_least 16 = .ok (.istore 4, 2) := by decide +kernel
theorem dX12_least_18 : decode cX12_least 18 = .ok (.iload 4, 2) := by decide +kernel
theorem dX12_least_20 : decode cX12_least 20 = .ok (.aload_n 0, 1) := by decide +kernel
theorem dX12_least_21 : decode cX12_least 21 = .ok (.getfield 193, 3) := by decide +kernel
theorem dX12_least_24 : decode cX12_least 24 = .ok (.if_icmp .ge 62, 3) := by decide +kernel
theorem dX12_least_27 : decode cX12_least 27 = .ok (.aload_n 0, 1) := by decide +kernel
theorem dX12_least_28 : decode cX12_least 28 = .ok (.aload_n 0, 1) := by decide +kernel
theorem dX12_least_29 : decode cX12_least 29 = .ok (.getfield 52, 3) := by decide +kernel
theorem dX12_least_32 : decode cX12_least 32 = .ok (.iload 4, 2) := by decide +kernel
theorem dX12_least_34 : decode cX12_least 34 = .ok (.iaload, 1) := by decide +kernel
theorem dX12_least_35 : decode cX12_least 35 = .ok (.invokevirtual 433, 3) := by decide +kernel
theorem dX12_least_38 : decode cX12_least 38 = .ok (.istore 5, 2) := by decide +kernel
theorem dX12_least_40 : decode cX12_least 40 = .ok (.iload 5, 2) := by decide +kernel
theorem dX12_least_42 : decode cX12_least 42 = .ok (.ifCond .eq 38, 3) := by decide +kernel
theorem dX12_least_45 : decode cX12_least 45 = .ok (.iload_n 2, 1) := by decide +kernel
theorem dX12_least_46 : decode cX12_least 46 = .ok (.iconst (-1), 1) := by decide +kernel
theorem dX12_least_47 : decode cX12_least 47 = .ok (.if_icmp .eq 27, 3) := by decide +kernel
theorem dX12_least_50 : decode cX12_least 50 = .ok (.aload_n 0, 1) := by decide +kernel
theorem dX12_least_51 : decode cX12_least 51 = .ok (.getfield 64, 3) := by decide +kernel
theorem dX12_least_54 : decode cX12_least 54 = .ok (.iload 4, 2) := by decide +kernel
theorem dX12_least_56 : decode cX12_least 56 = .ok (.iaload, 1) := by decide +kernel
theorem dX12_least_57 : decode cX12_least 57 = .ok (.iload_n 3, 1) := by decide +kernel
theorem dX12_least_58 : decode cX12_least 58 = .ok (.imul, 1) := by decide +kernel
theorem dX12_least_59 : decode cX12_least 59 = .ok (.aload_n 0, 1) := by decide +kernel
theorem dX12_least_60 : decode cX12_least 60 = .ok (.getfield 64, 3) := by decide +kernel
theorem dX12_least_63 : decode cX12_least 63 = .ok (.iload_n 2, 1) := by decide +kernel
theorem dX12_least_64 : decode cX12_least 64 = .ok (.iaload, 1) := by decide +kernel
theorem dX12_least_65 : decode cX12_least 65 = .ok (.iload 5, 2) := by decide +kernel
theorem dX12_least_67 : decode cX12_least 67 = .ok (.imul, 1) := by decide +kernel
theorem dX12_least_68 : decode cX12_least 68 = .ok (.if_icmp .lt 6, 3) := by decide +kernel
theorem dX12_least_71 : decode cX12_least 71 = .ok (.goto 9, 3) := by decide +kernel
theorem dX12_least_74 : decode cX12_least 74 = .ok (.iload 4, 2) := by decide +kernel
theorem dX12_least_76 : decode cX12_least 76 = .ok (.istore_n 2, 1) := by decide +kernel
theorem dX12_least_77 : decode cX12_least 77 = .ok (.iload 5, 2) := by decide +kernel
theorem dX12_least_79 : decode cX12_least 79 = .ok (.istore_n 3, 1) := by decide +kernel
theorem dX12_least_80 : decode cX12_least 80 = .ok (.iinc 4 1, 3) := by decide +kernel
theorem dX12_least_83 : decode cX12_least 83 = .ok (.goto (-65), 3) := by decide +kernel
theorem dX12_least_86 : decode cX12_least 86 = .ok (.iload_n 2, 1) := by decide +kernel
theorem dX12_least_87 : decode cX12_least 87 = .ok (.iconst (-1), 1) := by decide +kernel
theorem dX12_least_88 : decode cX12_least 88 = .ok (.if_icmp .ne 7, 3) := by decide +kernel
theorem dX12_least_91 : decode cX12_least 91 = .ok (.iconst (-1), 1) := by decide +kernel
theorem dX12_least_92 : decode cX12_least 92 = .ok (.goto 26, 3) := by decide +kernel
theorem dX12_least_95 : decode cX12_least 95 = .ok (.iload_n 1, 1) := by decide +kernel
theorem dX12_least_96 : decode cX12_least 96 = .ok (.ifCond .ne 7, 3) := by decide +kernel
theorem dX12_least_99 : decode cX12_least 99 = .ok (.iload_n 2, 1) := by decide +kernel
theorem dX12_least_100 : decode cX12_least 100 = .ok (.goto 18, 3) := by decide +kernel
theorem dX12_least_103 : decode cX12_least 103 = .ok (.iload_n 1, 1) := by decide +kernel
theorem dX12_least_104 : decode cX12_least 104 = .ok (.iconst 1, 1) := by decide +kernel
theorem dX12_least_105 : decode cX12_least 105 = .ok (.if_icmp .ne 12, 3) := by decide +kernel
theorem dX12_least_108 : decode cX12_least 108 = .ok (.aload_n 0, 1) := by decide +kernel
theorem dX12_least_109 : decode cX12_least 109 = .ok (.getfield 64, 3) := by decide +kernel
theorem dX12_least_112 : decode cX12_least 112 = .ok (.iload_n 2, 1) := by decide +kernel
theorem dX12_least_113 : decode cX12_least 113 = .ok (.iaload, 1) := by decide +kernel
theorem dX12_least_114 : decode cX12_least 114 = .ok (.goto 4, 3) := by decide +kernel
theorem dX12_least_117 : decode cX12_least 117 = .ok (.iload_n 3, 1) := by decide +kernel
theorem dX12_least_118 : decode cX12_least 118 = .ok (.ireturn, 1) := by decide +kernel
theorem dX12_wantedOn_0 : decode cX12_wantedOn 0 = .ok (.iconst 0, 1) := by decide +kernel
theorem dX12_wantedOn_1 : decode cX12_wantedOn 1 = .ok (.istore 4, 2) := by decide +kernel
theorem dX12_wantedOn_3 : decode cX12_wantedOn 3 = .ok (.iconst 0, 1) := by decide +kernel
theorem dX12_wantedOn_4 : decode cX12_wantedOn 4 = .ok (.istore 5, 2) := by decide +kernel
theorem dX12_wantedOn_6 : decode cX12_wantedOn 6 = .ok (.iload 5, 2) := by decide +kernel
theorem dX12_wantedOn_8 : decode cX12_wantedOn 8 = .ok (.aload_n 0, 1) := by decide +kernel
theorem dX12_wantedOn_9 : decode cX12_wantedOn 9 = .ok (.getfield 193, 3) := by decide +kernel
theorem dX12_wantedOn_12 : decode cX12_wantedOn 12 = .ok (.if_icmp .ge 47, 3) := by decide +kernel
theorem dX12_wantedOn_15 : decode cX12_wantedOn 15 = .ok (.iload 4, 2) := by decide +kernel
theorem dX12_wantedOn_17 : decode cX12_wantedOn 17 = .ok (.aload_n 0, 1) := by decide +kernel
theorem dX12_wantedOn_18 : decode cX12_wantedOn 18 = .ok (.getfield 46, 3) := by decide +kernel
theorem dX12_wantedOn_21 : decode cX12_wantedOn 21 = .ok (.aload_n 0, 1) := by decide +kernel
theorem dX12_wantedOn_22 : decode cX12_wantedOn 22 = .ok (.getfield 52, 3) := by decide +kernel
theorem dX12_wantedOn_25 : decode cX12_wantedOn 25 = .ok (.iload 5, 2) := by decide +kernel
theorem dX12_wantedOn_27 : decode cX12_wantedOn 27 = .ok (.iaload, 1) := by decide +kernel
theorem dX12_wantedOn_28 : decode cX12_wantedOn 28 = .ok (.iaload, 1) := by decide +kernel
theorem dX12_wantedOn_29 : decode cX12_wantedOn 29 = .ok (.iload_n 1, 1) := by decide +kernel
theorem dX12_wantedOn_30 : decode cX12_wantedOn 30 = .ok (.if_icmp .ne 19, 3) := by decide +kernel
theorem dX12_wantedOn_33 : decode cX12_wantedOn 33 = .ok (.aload_n 0, 1) := by decide +kernel
theorem dX12_wantedOn_34 : decode cX12_wantedOn 34 = .ok (.iload 5, 2) := by decide +kernel
theorem dX12_wantedOn_36 : decode cX12_wantedOn 36 = .ok (.iload_n 2, 1) := by decide +kernel
theorem dX12_wantedOn_37 : decode cX12_wantedOn 37 = .ok (.iconst 0, 1) := by decide +kernel
theorem dX12_wantedOn_38 : decode cX12_wantedOn 38 = .ok (.invokevirtual 339, 3) := by decide +kernel
theorem dX12_wantedOn_41 : decode cX12_wantedOn 41 = .ok (.iload_n 3, 1) := by decide +kernel
theorem dX12_wantedOn_42 : decode cX12_wantedOn 42 = .ok (.if_icmp .lt 7, 3) := by decide +kernel
theorem dX12_wantedOn_45 : decode cX12_wantedOn 45 = .ok (.iconst 1, 1) := by decide +kernel
theorem dX12_wantedOn_46 : decode cX12_wantedOn 46 = .ok (.goto 4, 3) := by decide +kernel
theorem dX12_wantedOn_49 : decode cX12_wantedOn 49 = .ok (.iconst 0, 1) := by decide +kernel
theorem dX12_wantedOn_50 : decode cX12_wantedOn 50 = .ok (.iadd, 1) := by decide +kernel
theorem dX12_wantedOn_51 : decode cX12_wantedOn 51 = .ok (.istore 4, 2) := by decide +kernel
theorem dX12_wantedOn_53 : decode cX12_wantedOn 53 = .ok (.iinc 5 1, 3) := by decide +kernel
theorem dX12_wantedOn_56 : decode cX12_wantedOn 56 = .ok (.goto (-50), 3) := by decide +kernel
theorem dX12_wantedOn_59 : decode cX12_wantedOn 59 = .ok (.iload 4, 2) := by decide +kernel
theorem dX12_wantedOn_61 : decode cX12_wantedOn 61 = .ok (.ireturn, 1) := by decide +kernel
theorem dX12_dull_0 : decode cX12_dull 0 = .ok (.iload_n 1, 1) := by decide +kernel
theorem dX12_dull_1 : decode cX12_dull 1 = .ok (.invokestatic 203, 3) := by decide +kernel
theorem dX12_dull_4 : decode cX12_dull 4 = .ok (.ifCond .eq 14, 3) := by decide +kernel
theorem dX12_dull_7 : decode cX12_dull 7 = .ok (.iload_n 2, 1) := by decide +kernel
theorem dX12_dull_8 : decode cX12_dull 8 = .ok (.iconst 1, 1) := by decide +kernel
theorem dX12_dull_9 : decode cX12_dull 9 = .ok (.sipush 1000, 3) := by decide +kernel
theorem dX12_dull_12 : decode cX12_dull 12 = .ok (.invokestatic 199, 3) := by decide +kernel
theorem dX12_dull_15 : decode cX12_dull 15 = .ok (.ifCond .ne 7, 3) := by decide +kernel
theorem dX12_dull_18 : decode cX12_dull 18 = .ok (.ldc2_w 383, 3) := by decide +kernel
theorem dX12_dull_21 : decode cX12_dull 21 = .ok (.lreturn, 1) := by decide +kernel
theorem dX12_dull_22 : decode cX12_dull 22 = .ok (.lconst 0, 1) := by decide +kernel
theorem dX12_dull_23 : decode cX12_dull 23 = .ok (.lstore_n 3, 1) := by decide +kernel
theorem dX12_dull_24 : decode cX12_dull 24 = .ok (.iconst 0, 1) := by decide +kernel
theorem dX12_dull_25 : decode cX12_dull 25 = .ok (.istore 5, 2) := by decide +kernel
theorem dX12_dull_27 : decode cX12_dull 27 = .ok (.iload 5, 2) := by decide +kernel
theorem dX12_dull_29 : decode cX12_dull 29 = .ok (.aload_n 0, 1) := by decide +kernel
theorem dX12_dull_30 : decode cX12_dull 30 = .ok (.getfield 187, 3) := by decide +kernel
theorem dX12_dull_33 : decode cX12_dull 33 = .ok (.if_icmp .ge 40, 3) := by decide +kernel
theorem dX12_dull_36 : decode cX12_dull 36 = .ok (.aload_n 0, 1) := by decide +kernel
theorem dX12_dull_37 : decode cX12_dull 37 = .ok (.getfield 22, 3) := by decide +kernel
theorem dX12_dull_40 : decode cX12_dull 40 = .ok (.iload 5, 2) := by decide +kernel
theorem dX12_dull_42 : decode cX12_dull 42 = .ok (.iaload, 1) := by decide +kernel
theorem dX12_dull_43 : decode cX12_dull 43 = .ok (.iconst 1, 1) := by decide +kernel
theorem dX12_dull_44 : decode cX12_dull 44 = .ok (.iload_n 1, 1) := by decide +kernel
theorem dX12_dull_45 : decode cX12_dull 45 = .ok (.iadd, 1) := by decide +kernel
theorem dX12_dull_46 : decode cX12_dull 46 = .ok (.if_icmp .ne 21, 3) := by decide +kernel
theorem dX12_dull_49 : decode cX12_dull 49 = .ok (.aload_n 0, 1) := by decide +kernel
theorem dX12_dull_50 : decode cX12_dull 50 = .ok (.iload_n 1, 1) := by decide +kernel
theorem dX12_dull_51 : decode cX12_dull 51 = .ok (.iload 5, 2) := by decide +kernel
theorem dX12_dull_53 : decode cX12_dull 53 = .ok (.iload_n 2, 1) := by decide +kernel
theorem dX12_dull_54 : decode cX12_dull 54 = .ok (.invokevirtual 436, 3) := by decide +kernel
theorem dX12_dull_57 : decode cX12_dull 57 = .ok (.ifCond .ne 10, 3) := by decide +kernel
theorem dX12_dull_60 : decode cX12_dull 60 = .ok (.lload_n 3, 1) := by decide +kernel
theorem dX12_dull_61 : decode cX12_dull 61 = .ok (.lconst 1, 1) := by decide +kernel
theorem dX12_dull_62 : decode cX12_dull 62 = .ok (.iload 5, 2) := by decide +kernel
theorem dX12_dull_64 : decode cX12_dull 64 = .ok (.lshl, 1) := by decide +kernel
theorem dX12_dull_65 : decode cX12_dull 65 = .ok (.lor, 1) := by decide +kernel
theorem dX12_dull_66 : decode cX12_dull 66 = .ok (.lstore_n 3, 1) := by decide +kernel
theorem dX12_dull_67 : decode cX12_dull 67 = .ok (.iinc 5 1, 3) := by decide +kernel
theorem dX12_dull_70 : decode cX12_dull 70 = .ok (.goto (-43), 3) := by decide +kernel
theorem dX12_dull_73 : decode cX12_dull 73 = .ok (.lload_n 3, 1) := by decide +kernel
theorem dX12_dull_74 : decode cX12_dull 74 = .ok (.lreturn, 1) := by decide +kernel
theorem dX12_onward_0 : decode cX12_onward 0 = .ok (.aload_n 0, 1) := by decide +kernel
theorem dX12_onward_1 : decode cX12_onward 1 = .ok (.iload_n 1, 1) := by decide +kernel
theorem dX12_onward_2 : decode cX12_onward 2 = .ok (.invokevirtual 217, 3) := by decide +kernel
theorem dX12_onward_5 : decode cX12_onward 5 = .ok (.ifCond .eq 14, 3) := by decide +kernel
theorem dX12_onward_8 : decode cX12_onward 8 = .ok (.iload_n 2, 1) := by decide +kernel
theorem dX12_onward_9 : decode cX12_onward 9 = .ok (.iconst 1, 1) := by decide +kernel
theorem dX12_onward_10 : decode cX12_onward 10 = .ok (.sipush 1000, 3) := by decide +kernel
theorem dX12_onward_13 : decode cX12_onward 13 = .ok (.invokestatic 199, 3) := by decide +kernel
theorem dX12_onward_16 : decode cX12_onward 16 = .ok (.ifCond .ne 5, 3) := by decide +kernel
theorem dX12_onward_19 : decode cX12_onward 19 = .ok (.iconst (-1), 1) := by decide +kernel
theorem dX12_onward_20 : decode cX12_onward 20 = .ok (.ireturn, 1) := by decide +kernel
theorem dX12_onward_21 : decode cX12_onward 21 = .ok (.bipush (-2), 2) := by decide +kernel
theorem dX12_onward_23 : decode cX12_onward 23 = .ok (.istore_n 3, 1) := by decide +kernel
theorem dX12_onward_24 : decode cX12_onward 24 = .ok (.iconst 0, 1) := by decide +kernel
theorem dX12_onward_25 : decode cX12_onward 25 = .ok (.istore 4, 2) := by decide +kernel
theorem dX12_onward_27 : decode cX12_onward 27 = .ok (.iconst 0, 1) := by decide +kernel
theorem dX12_onward_28 : decode cX12_onward 28 = .ok (.istore 5, 2) := by decide +kernel
theorem dX12_onward_30 : decode cX12_onward 30 = .ok (.iload 5, 2) := by decide +kernel
theorem dX12_onward_32 : decode cX12_onward 32 = .ok (.iconst 3, 1) := by decide +kernel
theorem dX12_onward_33 : decode cX12_onward 33 = .ok (.if_icmp .ge 36, 3) := by decide +kernel
theorem dX12_onward_36 : decode cX12_onward 36 = .ok (.aload_n 0, 1) := by decide +kernel
theorem dX12_onward_37 : decode cX12_onward 37 = .ok (.iload 5, 2) := by decide +kernel
theorem dX12_onward_39 : decode cX12_onward 39 = .ok (.iload_n 1, 1) := by decide +kernel
theorem dX12_onward_40 : decode cX12_onward 40 = .ok (.iload_n 2, 1) := by decide +kernel
theorem dX12_onward_41 : decode cX12_onward 41 = .ok (.invokevirtual 436, 3) := by decide +kernel
theorem dX12_onward_44 : decode cX12_onward 44 = .ok (.istore 6, 2) := by decide +kernel
theorem dX12_onward_46 : decode cX12_onward 46 = .ok (.iload 6, 2) := by decide +kernel
theorem dX12_onward_48 : decode cX12_onward 48 = .ok (.iload 4, 2) := by decide +kernel
theorem dX12_onward_50 : decode cX12_onward 50 = .ok (.if_icmp .gt 6, 3) := by decide +kernel
theorem dX12_onward_53 : decode cX12_onward 53 = .ok (.goto 10, 3) := by decide +kernel
theorem dX12_onward_56 : decode cX12_onward 56 = .ok (.iload 6, 2) := by decide +kernel
theorem dX12_onward_58 : decode cX12_onward 58 = .ok (.istore 4, 2) := by decide +kernel
theorem dX12_onward_60 : decode cX12_onward 60 = .ok (.iload 5, 2) := by decide +kernel
theorem dX12_onward_62 : decode cX12_onward 62 = .ok (.istore_n 3, 1) := by decide +kernel
theorem dX12_onward_63 : decode cX12_onward 63 = .ok (.iinc 5 1, 3) := by decide +kernel
theorem dX12_onward_66 : decode cX12_onward 66 = .ok (.goto (-36), 3) := by decide +kernel
theorem dX12_onward_69 : decode cX12_onward 69 = .ok (.iload_n 3, 1) := by decide +kernel
theorem dX12_onward_70 : decode cX12_onward 70 = .ok (.ireturn, 1) := by decide +kernel
theorem dX12_isKnownAt_0 : decode cX12_isKnownAt 0 = .ok (.iconst 0, 1) := by decide +kernel
theorem dX12_isKnownAt_1 : decode cX12_isKnownAt 1 = .ok (.istore_n 3, 1) := by decide +kernel
theorem dX12_isKnownAt_2 : decode cX12_isKnownAt 2 = .ok (.iload_n 3, 1) := by decide +kernel
theorem dX12_isKnownAt_3 : decode cX12_isKnownAt 3 = .ok (.aload_n 0, 1) := by decide +kernel
theorem dX12_isKnownAt_4 : decode cX12_isKnownAt 4 = .ok (.getfield 193, 3) := by decide +kernel
theorem dX12_isKnownAt_7 : decode cX12_isKnownAt 7 = .ok (.if_icmp .ge 35, 3) := by decide +kernel
theorem dX12_isKnownAt_10 : decode cX12_isKnownAt 10 = .ok (.aload_n 0, 1) := by decide +kernel
theorem dX12_isKnownAt_11 : decode cX12_isKnownAt 11 = .ok (.getfield 52, 3) := by decide +kernel
theorem dX12_isKnownAt_14 : decode cX12_isKnownAt 14 = .ok (.iload_n 3, 1) := by decide +kernel
theorem dX12_isKnownAt_15 : decode cX12_isKnownAt 15 = .ok (.iaload, 1) := by decide +kernel
theorem dX12_isKnownAt_16 : decode cX12_isKnownAt 16 = .ok (.iload_n 1, 1) := by decide +kernel
theorem dX12_isKnownAt_17 : decode cX12_isKnownAt 17 = .ok (.if_icmp .ne 19, 3) := by decide +kernel
theorem dX12_isKnownAt_20 : decode cX12_isKnownAt 20 = .ok (.aload_n 0, 1) := by decide +kernel
theorem dX12_isKnownAt_21 : decode cX12_isKnownAt 21 = .ok (.getfield 70, 3) := by decide +kernel
theorem dX12_isKnownAt_24 : decode cX12_isKnownAt 24 = .ok (.bipush 32, 2) := by decide +kernel
theorem dX12_isKnownAt_26 : decode cX12_isKnownAt 26 = .ok (.iload_n 3, 1) := by decide +kernel
theorem dX12_isKnownAt_27 : decode cX12_isKnownAt 27 = .ok (.imul, 1) := by decide +kernel
theorem dX12_isKnownAt_28 : decode cX12_isKnownAt 28 = .ok (.iload_n 2, 1) := by decide +kernel
theorem dX12_isKnownAt_29 : decode cX12_isKnownAt 29 = .ok (.iadd, 1) := by decide +kernel
theorem dX12_isKnownAt_30 : decode cX12_isKnownAt 30 = .ok (.baload, 1) := by decide +kernel
theorem dX12_isKnownAt_31 : decode cX12_isKnownAt 31 = .ok (.ifCond .eq 5, 3) := by decide +kernel
theorem dX12_isKnownAt_34 : decode cX12_isKnownAt 34 = .ok (.iconst 1, 1) := by decide +kernel
theorem dX12_isKnownAt_35 : decode cX12_isKnownAt 35 = .ok (.ireturn, 1) := by decide +kernel
theorem dX12_isKnownAt_36 : decode cX12_isKnownAt 36 = .ok (.iinc 3 1, 3) := by decide +kernel
theorem dX12_isKnownAt_39 : decode cX12_isKnownAt 39 = .ok (.goto (-37), 3) := by decide +kernel
theorem dX12_isKnownAt_42 : decode cX12_isKnownAt 42 = .ok (.iconst 0, 1) := by decide +kernel
theorem dX12_isKnownAt_43 : decode cX12_isKnownAt 43 = .ok (.ireturn, 1) := by decide +kernel
theorem dX12_different_0 : decode cX12_different 0 = .ok (.aload_n 0, 1) := by decide +kernel
theorem dX12_different_1 : decode cX12_different 1 = .ok (.iload_n 1, 1) := by decide +kernel
theorem dX12_different_2 : decode cX12_different 2 = .ok (.invokevirtual 211, 3) := by decide +kernel
theorem dX12_different_5 : decode cX12_different 5 = .ok (.ifCond .eq 10, 3) := by decide +kernel
theorem dX12_different_8 : decode cX12_different 8 = .ok (.iload_n 2, 1) := by decide +kernel
theorem dX12_different_9 : decode cX12_different 9 = .ok (.invokestatic 349, 3) := by decide +kernel
theorem dX12_different_12 : decode cX12_different 12 = .ok (.ifCond .ne 5, 3) := by decide +kernel
theorem dX12_different_15 : decode cX12_different 15 = .ok (.iconst (-1), 1) := by decide +kernel
theorem dX12_different_16 : decode cX12_different 16 = .ok (.ireturn, 1) := by decide +kernel
theorem dX12_different_17 : decode cX12_different 17 = .ok (.iconst 0, 1) := by decide +kernel
theorem dX12_different_18 : decode cX12_different 18 = .ok (.istore_n 3, 1) := by decide +kernel
theorem dX12_different_19 : decode cX12_different 19 = .ok (.iload_n 2, 1) := by decide +kernel
theorem dX12_different_20 : decode cX12_different 20 = .ok (.istore 4, 2) := by decide +kernel
theorem dX12_different_22 : decode cX12_different 22 = .ok (.iload 4, 2) := by decide +kernel
theorem dX12_different_24 : decode cX12_different 24 = .ok (.iload_n 2, 1) := by decide +kernel
theorem dX12_different_25 : decode cX12_different 25 = .ok (.bipush 14, 2) := by decide +kernel
theorem dX12_different_27 : decode cX12_different 27 = .ok (.iadd, 1) := by decide +kernel
theorem dX12_different_28 : decode cX12_different 28 = .ok (.if_icmp .ge 55, 3) := by decide +kernel
theorem dX12_different_31 : decode cX12_different 31 = .ok (.iload 4, 2) := by decide +kernel
theorem dX12_different_33 : decode cX12_different 33 = .ok (.sipush 199, 3) := by decide +kernel
theorem dX12_different_36 : decode cX12_different 36 = .ok (.if_icmp .gt 47, 3) := by decide +kernel
theorem dX12_different_39 : decode cX12_different 39 = .ok (.iconst 0, 1) := by decide +kernel
theorem dX12_different_40 : decode cX12_different 40 = .ok (.istore 5, 2) := by decide +kernel
theorem dX12_different_42 : decode cX12_different 42 = .ok (.iload 5, 2) := by decide +kernel
theorem dX12_different_44 : decode cX12_different 44 = .ok (.iconst 3, 1) := by decide +kernel
theorem dX12_different_45 : decode cX12_different 45 = .ok (.if_icmp .ge 32, 3) := by decide +kernel
theorem dX12_different_48 : decode cX12_different 48 = .ok (.aload_n 0, 1) := by decide +kernel
theorem dX12_different_49 : decode cX12_different 49 = .ok (.iload 5, 2) := by decide +kernel
theorem dX12_different_51 : decode cX12_different 51 = .ok (.iload_n 1, 1) := by decide +kernel
theorem dX12_different_52 : decode cX12_different 52 = .ok (.iload 4, 2) := by decide +kernel
theorem dX12_different_54 : decode cX12_different 54 = .ok (.invokevirtual 346, 3) := by decide +kernel
theorem dX12_different_57 : decode cX12_different 57 = .ok (.ifCond .eq 12, 3) := by decide +kernel
theorem dX12_different_60 : decode cX12_different 60 = .ok (.iload_n 3, 1) := by decide +kernel
theorem dX12_different_61 : decode cX12_different 61 = .ok (.iconst 1, 1) := by decide +kernel
theorem dX12_different_62 : decode cX12_different 62 = .ok (.iload 5, 2) := by decide +kernel
theorem dX12_different_64 : decode cX12_different 64 = .ok (.ishl, 1) := by decide +kernel
theorem dX12_different_65 : decode cX12_different 65 = .ok (.ior, 1) := by decide +kernel
theorem dX12_different_66 : decode cX12_different 66 = .ok (.goto 4, 3) := by decide +kernel
theorem dX12_different_69 : decode cX12_different 69 = .ok (.iload_n 3, 1) := by decide +kernel
theorem dX12_different_70 : decode cX12_different 70 = .ok (.istore_n 3, 1) := by decide +kernel
theorem dX12_different_71 : decode cX12_different 71 = .ok (.iinc 5 1, 3) := by decide +kernel
theorem dX12_different_74 : decode cX12_different 74 = .ok (.goto (-32), 3) := by decide +kernel
theorem dX12_different_77 : decode cX12_different 77 = .ok (.iinc 4 1, 3) := by decide +kernel
theorem dX12_different_80 : decode cX12_different 80 = .ok (.goto (-58), 3) := by decide +kernel
theorem dX12_different_83 : decode cX12_different 83 = .ok (.iload_n 3, 1) := by decide +kernel
theorem dX12_different_84 : decode cX12_different 84 = .ok (.ifCond .ne 5, 3) := by decide +kernel
theorem dX12_different_87 : decode cX12_different 87 = .ok (.iconst (-1), 1) := by decide +kernel
theorem dX12_different_88 : decode cX12_different 88 = .ok (.ireturn, 1) := by decide +kernel
theorem dX12_different_89 : decode cX12_different 89 = .ok (.iconst 0, 1) := by decide +kernel
theorem dX12_different_90 : decode cX12_different 90 = .ok (.istore 4, 2) := by decide +kernel
theorem dX12_different_92 : decode cX12_different 92 = .ok (.iconst 0, 1) := by decide +kernel
theorem dX12_different_93 : decode cX12_different 93 = .ok (.istore 5, 2) := by decide +kernel
theorem dX12_different_95 : decode cX12_different 95 = .ok (.iload 5, 2) := by decide +kernel
theorem dX12_different_97 : decode cX12_different 97 = .ok (.aload_n 0, 1) := by decide +kernel
theorem dX12_different_98 : decode cX12_different 98 = .ok (.getfield 187, 3) := by decide +kernel
theorem dX12_different_101 : decode cX12_different 101 = .ok (.if_icmp .ge 61, 3) := by decide +kernel
theorem dX12_different_104 : decode cX12_different 104 = .ok (.iload 4, 2) := by decide +kernel
theorem dX12_different_106 : decode cX12_different 106 = .ok (.aload_n 0, 1) := by decide +kernel
theorem dX12_different_107 : decode cX12_different 107 = .ok (.getfield 22, 3) := by decide +kernel
theorem dX12_different_110 : decode cX12_different 110 = .ok (.iload 5, 2) := by decide +kernel
theorem dX12_different_112 : decode cX12_different 112 = .ok (.iaload, 1) := by decide +kernel
theorem dX12_different_113 : decode cX12_different 113 = .ok (.iconst 1, 1) := by decide +kernel
theorem dX12_different_114 : decode cX12_different 114 = .ok (.iconst 3, 1) := by decide +kernel
theorem dX12_different_115 : decode cX12_different 115 = .ok (.invokestatic 199, 3) := by decide +kernel
theorem dX12_different_118 : decode cX12_different 118 = .ok (.ifCond .eq 34, 3) := by decide +kernel
theorem dX12_different_121 : decode cX12_different 121 = .ok (.iload_n 3, 1) := by decide +kernel
theorem dX12_different_122 : decode cX12_different 122 = .ok (.aload_n 0, 1) := by decide +kernel
theorem dX12_different_123 : decode cX12_different 123 = .ok (.getfield 22, 3) := by decide +kernel
theorem dX12_different_126 : decode cX12_different 126 = .ok (.iload 5, 2) := by decide +kernel
theorem dX12_different_128 : decode cX12_different 128 = .ok (.iaload, 1) := by decide +kernel
theorem dX12_different_129 : decode cX12_different 129 = .ok (.iconst 1, 1) := by decide +kernel
theorem dX12_different_130 : decode cX12_different 130 = .ok (.isub, 1) := by decide +kernel
theorem dX12_different_131 : decode cX12_different 131 = .ok (.ishr, 1) := by decide +kernel
theorem dX12_different_132 : decode cX12_different 132 = .ok (.iconst 1, 1) := by decide +kernel
theorem dX12_different_133 : decode cX12_different 133 = .ok (.iand, 1) := by decide +kernel
theorem dX12_different_134 : decode cX12_different 134 = .ok (.iconst 1, 1) := by decide +kernel
theorem dX12_different_135 : decode cX12_different 135 = .ok (.if_icmp .ne 17, 3) := by decide +kernel
theorem dX12_different_138 : decode cX12_different 138 = .ok (.aload_n 0, 1) := by decide +kernel
theorem dX12_different_139 : decode cX12_different 139 = .ok (.iload_n 1, 1) := by decide +kernel
theorem dX12_different_140 : decode cX12_different 140 = .ok (.iload 5, 2) := by decide +kernel
theorem dX12_different_142 : decode cX12_different 142 = .ok (.invokevirtual 439, 3) := by decide +kernel
theorem dX12_different_145 : decode cX12_different 145 = .ok (.ifCond .ne 7, 3) := by decide +kernel
theorem dX12_different_148 : decode cX12_different 148 = .ok (.iconst 1, 1) := by decide +kernel
theorem dX12_different_149 : decode cX12_different 149 = .ok (.goto 4, 3) := by decide +kernel
theorem dX12_different_152 : decode cX12_different 152 = .ok (.iconst 0, 1) := by decide +kernel
theorem dX12_different_153 : decode cX12_different 153 = .ok (.iadd, 1) := by decide +kernel
theorem dX12_different_154 : decode cX12_different 154 = .ok (.istore 4, 2) := by decide +kernel
theorem dX12_different_156 : decode cX12_different 156 = .ok (.iinc 5 1, 3) := by decide +kernel
theorem dX12_different_159 : decode cX12_different 159 = .ok (.goto (-64), 3) := by decide +kernel
theorem dX12_different_162 : decode cX12_different 162 = .ok (.iload 4, 2) := by decide +kernel
theorem dX12_different_164 : decode cX12_different 164 = .ok (.ireturn, 1) := by decide +kernel
theorem dX12_apart_0 : decode cX12_apart 0 = .ok (.aload_n 0, 1) := by decide +kernel
theorem dX12_apart_1 : decode cX12_apart 1 = .ok (.getfield 37, 3) := by decide +kernel
theorem dX12_apart_4 : decode cX12_apart 4 = .ok (.iload_n 1, 1) := by decide +kernel
theorem dX12_apart_5 : decode cX12_apart 5 = .ok (.iaload, 1) := by decide +kernel
theorem dX12_apart_6 : decode cX12_apart 6 = .ok (.aload_n 0, 1) := by decide +kernel
theorem dX12_apart_7 : decode cX12_apart 7 = .ok (.getfield 37, 3) := by decide +kernel
theorem dX12_apart_10 : decode cX12_apart 10 = .ok (.iload_n 2, 1) := by decide +kernel
theorem dX12_apart_11 : decode cX12_apart 11 = .ok (.iaload, 1) := by decide +kernel
theorem dX12_apart_12 : decode cX12_apart 12 = .ok (.if_icmp .ge 19, 3) := by decide +kernel
theorem dX12_apart_15 : decode cX12_apart 15 = .ok (.aload_n 0, 1) := by decide +kernel
theorem dX12_apart_16 : decode cX12_apart 16 = .ok (.getfield 37, 3) := by decide +kernel
theorem dX12_apart_19 : decode cX12_apart 19 = .ok (.iload_n 2, 1) := by decide +kernel
theorem dX12_apart_20 : decode cX12_apart 20 = .ok (.iaload, 1) := by decide +kernel
theorem dX12_apart_21 : decode cX12_apart 21 = .ok (.aload_n 0, 1) := by decide +kernel
theorem dX12_apart_22 : decode cX12_apart 22 = .ok (.getfield 37, 3) := by decide +kernel
theorem dX12_apart_25 : decode cX12_apart 25 = .ok (.iload_n 1, 1) := by decide +kernel
theorem dX12_apart_26 : decode cX12_apart 26 = .ok (.iaload, 1) := by decide +kernel
theorem dX12_apart_27 : decode cX12_apart 27 = .ok (.isub, 1) := by decide +kernel
theorem dX12_apart_28 : decode cX12_apart 28 = .ok (.goto 16, 3) := by decide +kernel
theorem dX12_apart_31 : decode cX12_apart 31 = .ok (.aload_n 0, 1) := by decide +kernel
theorem dX12_apart_32 : decode cX12_apart 32 = .ok (.getfield 37, 3) := by decide +kernel
theorem dX12_apart_35 : decode cX12_apart 35 = .ok (.iload_n 1, 1) := by decide +kernel
theorem dX12_apart_36 : decode cX12_apart 36 = .ok (.iaload, 1) := by decide +kernel
theorem dX12_apart_37 : decode cX12_apart 37 = .ok (.aload_n 0, 1) := by decide +kernel
theorem dX12_apart_38 : decode cX12_apart 38 = .ok (.getfield 37, 3) := by decide +kernel
theorem dX12_apart_41 : decode cX12_apart 41 = .ok (.iload_n 2, 1) := by decide +kernel
theorem dX12_apart_42 : decode cX12_apart 42 = .ok (.iaload, 1) := by decide +kernel
theorem dX12_apart_43 : decode cX12_apart 43 = .ok (.isub, 1) := by decide +kernel
theorem dX12_apart_44 : decode cX12_apart 44 = .ok (.istore_n 3, 1) := by decide +kernel
theorem dX12_apart_45 : decode cX12_apart 45 = .ok (.aload_n 0, 1) := by decide +kernel
theorem dX12_apart_46 : decode cX12_apart 46 = .ok (.getfield 40, 3) := by decide +kernel
theorem dX12_apart_49 : decode cX12_apart 49 = .ok (.iload_n 1, 1) := by decide +kernel
theorem dX12_apart_50 : decode cX12_apart 50 = .ok (.iaload, 1) := by decide +kernel
theorem dX12_apart_51 : decode cX12_apart 51 = .ok (.aload_n 0, 1) := by decide +kernel
theorem dX12_apart_52 : decode cX12_apart 52 = .ok (.getfield 40, 3) := by decide +kernel
theorem dX12_apart_55 : decode cX12_apart 55 = .ok (.iload_n 2, 1) := by decide +kernel
theorem dX12_apart_56 : decode cX12_apart 56 = .ok (.iaload, 1) := by decide +kernel
theorem dX12_apart_57 : decode cX12_apart 57 = .ok (.if_icmp .ge 19, 3) := by decide +kernel
theorem dX12_apart_60 : decode cX12_apart 60 = .ok (.aload_n 0, 1) := by decide +kernel
theorem dX12_apart_61 : decode cX12_apart 61 = .ok (.getfield 40, 3) := by decide +kernel
theorem dX12_apart_64 : decode cX12_apart 64 = .ok (.iload_n 2, 1) := by decide +kernel
theorem dX12_apart_65 : decode cX12_apart 65 = .ok (.iaload, 1) := by decide +kernel
theorem dX12_apart_66 : decode cX12_apart 66 = .ok (.aload_n 0, 1) := by decide +kernel
theorem dX12_apart_67 : decode cX12_apart 67 = .ok (.getfield 40, 3) := by decide +kernel
theorem dX12_apart_70 : decode cX12_apart 70 = .ok (.iload_n 1, 1) := by decide +kernel
theorem dX12_apart_71 : decode cX12_apart 71 = .ok (.iaload, 1) := by decide +kernel
theorem dX12_apart_72 : decode cX12_apart 72 = .ok (.isub, 1) := by decide +kernel
theorem dX12_apart_73 : decode cX12_apart 73 = .ok (.goto 16, 3) := by decide +kernel
theorem dX12_apart_76 : decode cX12_apart 76 = .ok (.aload_n 0, 1) := by decide +kernel
theorem dX12_apart_77 : decode cX12_apart 77 = .ok (.getfield 40, 3) := by decide +kernel
theorem dX12_apart_80 : decode cX12_apart 80 = .ok (.iload_n 1, 1) := by decide +kernel
theorem dX12_apart_81 : decode cX12_apart 81 = .ok (.iaload, 1) := by decide +kernel
theorem dX12_apart_82 : decode cX12_apart 82 = .ok (.aload_n 0, 1) := by decide +kernel
theorem dX12_apart_83 : decode cX12_apart 83 = .ok (.getfield 40, 3) := by decide +kernel
theorem dX12_apart_86 : decode cX12_apart 86 = .ok (.iload_n 2, 1) := by decide +kernel
theorem dX12_apart_87 : decode cX12_apart 87 = .ok (.iaload, 1) := by decide +kernel
theorem dX12_apart_88 : decode cX12_apart 88 = .ok (.isub, 1) := by decide +kernel
theorem dX12_apart_89 : decode cX12_apart 89 = .ok (.istore 4, 2) := by decide +kernel
theorem dX12_apart_91 : decode cX12_apart 91 = .ok (.iload_n 3, 1) := by decide +kernel
theorem dX12_apart_92 : decode cX12_apart 92 = .ok (.iload 4, 2) := by decide +kernel
theorem dX12_apart_94 : decode cX12_apart 94 = .ok (.iadd, 1) := by decide +kernel
theorem dX12_apart_95 : decode cX12_apart 95 = .ok (.ireturn, 1) := by decide +kernel
theorem dX12_toDepot_0 : decode cX12_toDepot 0 = .ok (.aload_n 0, 1) := by decide +kernel
theorem dX12_toDepot_1 : decode cX12_toDepot 1 = .ok (.getfield 37, 3) := by decide +kernel
theorem dX12_toDepot_4 : decode cX12_toDepot 4 = .ok (.iload_n 1, 1) := by decide +kernel
theorem dX12_toDepot_5 : decode cX12_toDepot 5 = .ok (.iaload, 1) := by decide +kernel
theorem dX12_toDepot_6 : decode cX12_toDepot 6 = .ok (.aload_n 0, 1) := by decide +kernel
theorem dX12_toDepot_7 : decode cX12_toDepot 7 = .ok (.getfield 40, 3) := by decide +kernel
theorem dX12_toDepot_10 : decode cX12_toDepot 10 = .ok (.iload_n 1, 1) := by decide +kernel
theorem dX12_toDepot_11 : decode cX12_toDepot 11 = .ok (.iaload, 1) := by decide +kernel
theorem dX12_toDepot_12 : decode cX12_toDepot 12 = .ok (.iadd, 1) := by decide +kernel
theorem dX12_toDepot_13 : decode cX12_toDepot 13 = .ok (.ireturn, 1) := by decide +kernel
theorem dX12_laysVisits_0 : decode cX12_laysVisits 0 = .ok (.aload_n 0, 1) := by decide +kernel
theorem dX12_laysVisits_1 : decode cX12_laysVisits 1 = .ok (.iconst 0, 1) := by decide +kernel
theorem dX12_laysVisits_2 : decode cX12_laysVisits 2 = .ok (.putfield 442, 3) := by decide +kernel
theorem dX12_laysVisits_5 : decode cX12_laysVisits 5 = .ok (.iconst 0, 1) := by decide +kernel
theorem dX12_laysVisits_6 : decode cX12_laysVisits 6 = .ok (.istore_n 3, 1) := by decide +kernel
theorem dX12_laysVisits_7 : decode cX12_laysVisits 7 = .ok (.iload_n 3, 1) := by decide +kernel
theorem dX12_laysVisits_8 : decode cX12_laysVisits 8 = .ok (.aload_n 0, 1) := by decide +kernel
theorem dX12_laysVisits_9 : decode cX12_laysVisits 9 = .ok (.getfield 190, 3) := by decide +kernel
theorem dX12_laysVisits_12 : decode cX12_laysVisits 12 = .ok (.if_icmp .ge 42, 3) := by decide +kernel
theorem dX12_laysVisits_15 : decode cX12_laysVisits 15 = .ok (.aload_n 0, 1) := by decide +kernel
theorem dX12_laysVisits_16 : decode cX12_laysVisits 16 = .ok (.iload_n 1, 1) := by decide +kernel
theorem dX12_laysVisits_17 : decode cX12_laysVisits 17 = .ok (.iload_n 3, 1) := by decide +kernel
theorem dX12_laysVisits_18 : decode cX12_laysVisits 18 = .ok (.iload_n 2, 1) := by decide +kernel
theorem dX12_laysVisits_19 : decode cX12_laysVisits 19 = .ok (.invokevirtual 346, 3) := by decide +kernel
theorem dX12_laysVisits_22 : decode cX12_laysVisits 22 = .ok (.ifCond .ne 6, 3) := by decide +kernel
theorem dX12_laysVisits_25 : decode cX12_laysVisits 25 = .ok (.goto 23, 3) := by decide +kernel
theorem dX12_laysVisits_28 : decode cX12_laysVisits 28 = .ok (.aload_n 0, 1) := by decide +kernel
theorem dX12_laysVisits_29 : decode cX12_laysVisits 29 = .ok (.getfield 177, 3) := by decide +kernel
theorem dX12_laysVisits_32 : decode cX12_laysVisits 32 = .ok (.aload_n 0, 1) := by decide +kernel
theorem dX12_laysVisits_33 : decode cX12_laysVisits 33 = .ok (.getfield 442, 3) := by decide +kernel
theorem dX12_laysVisits_36 : decode cX12_laysVisits 36 = .ok (.iload_n 3, 1) := by decide +kernel
theorem dX12_laysVisits_37 : decode cX12_laysVisits 37 = .ok (.iastore, 1) := by decide +kernel
theorem dX12_laysVisits_38 : decode cX12_laysVisits 38 = .ok (.aload_n 0, 1) := by decide +kernel
theorem dX12_laysVisits_39 : decode cX12_laysVisits 39 = .ok (.aload_n 0, 1) := by decide +kernel
theorem dX12_laysVisits_40 : decode cX12_laysVisits 40 = .ok (.getfield 442, 3) := by decide +kernel
theorem dX12_laysVisits_43 : decode cX12_laysVisits 43 = .ok (.iconst 1, 1) := by decide +kernel
theorem dX12_laysVisits_44 : decode cX12_laysVisits 44 = .ok (.iadd, 1) := by decide +kernel
theorem dX12_laysVisits_45 : decode cX12_laysVisits 45 = .ok (.putfield 442, 3) := by decide +kernel
theorem dX12_laysVisits_48 : decode cX12_laysVisits 48 = .ok (.iinc 3 1, 3) := by decide +kernel
theorem dX12_laysVisits_51 : decode cX12_laysVisits 51 = .ok (.goto (-44), 3) := by decide +kernel
theorem dX12_laysVisits_54 : decode cX12_laysVisits 54 = .ok (.return_, 1) := by decide +kernel
theorem dX12_laysTold_0 : decode cX12_laysTold 0 = .ok (.aload_n 0, 1) := by decide +kernel
theorem dX12_laysTold_1 : decode cX12_laysTold 1 = .ok (.iconst 0, 1) := by decide +kernel
theorem dX12_laysTold_2 : decode cX12_laysTold 2 = .ok (.putfield 442, 3) := by decide +kernel
theorem dX12_laysTold_5 : decode cX12_laysTold 5 = .ok (.iconst 0, 1) := by decide +kernel
theorem dX12_laysTold_6 : decode cX12_laysTold 6 = .ok (.istore 4, 2) := by decide +kernel
theorem dX12_laysTold_8 : decode cX12_laysTold 8 = .ok (.iload 4, 2) := by decide +kernel
theorem dX12_laysTold_10 : decode cX12_laysTold 10 = .ok (.aload_n 0, 1) := by decide +kernel
theorem dX12_laysTold_11 : decode cX12_laysTold 11 = .ok (.getfield 190, 3) := by decide +kernel
theorem dX12_laysTold_14 : decode cX12_laysTold 14 = .ok (.if_icmp .ge 61, 3) := by decide +kernel
theorem dX12_laysTold_17 : decode cX12_laysTold 17 = .ok (.aload_n 0, 1) := by decide +kernel
theorem dX12_laysTold_18 : decode cX12_laysTold 18 = .ok (.getfield 46, 3) := by decide +kernel
theorem dX12_laysTold_21 : decode cX12_laysTold 21 = .ok (.iload 4, 2) := by decide +kernel
theorem dX12_laysTold_23 : decode cX12_laysTold 23 = .ok (.iaload, 1) := by decide +kernel
theorem dX12_laysTold_24 : decode cX12_laysTold 24 = .ok (.iload_n 1, 1) := by decide +kernel
theorem dX12_laysTold_25 : decode cX12_laysTold 25 = .ok (.if_icmp .ne 44, 3) := by decide +kernel
theorem dX12_laysTold_28 : decode cX12_laysTold 28 = .ok (.aload_n 0, 1) := by decide +kernel
theorem dX12_laysTold_29 : decode cX12_laysTold 29 = .ok (.getfield 49, 3) := by decide +kernel
theorem dX12_laysTold_32 : decode cX12_laysTold 32 = .ok (.iload 4, 2) := by decide +kernel
theorem dX12_laysTold_34 : decode cX12_laysTold 34 = .ok (.iaload, 1) := by decide +kernel
theorem dX12_laysTold_35 : decode cX12_laysTold 35 = .ok (.iload_n 2, 1) := by decide +kernel
theorem dX12_laysTold_36 : decode cX12_laysTold 36 = .ok (.if_icmp .ne 33, 3) := by decide +kernel
theorem dX12_laysTold_39 : decode cX12_laysTold 39 = .ok (.iload 4, 2) := by decide +kernel
theorem dX12_laysTold_41 : decode cX12_laysTold 41 = .ok (.iload_n 3, 1) := by decide +kernel
theorem dX12_laysTold_42 : decode cX12_laysTold 42 = .ok (.if_icmp .ne 6, 3) := by decide +kernel
theorem dX12_laysTold_45 : decode cX12_laysTold 45 = .ok (.goto 24, 3) := by decide +kernel
theorem dX12_laysTold_48 : decode cX12_laysTold 48 = .ok (.aload_n 0, 1) := by decide +kernel
theorem dX12_laysTold_49 : decode cX12_laysTold 49 = .ok (.getfield 177, 3) := by decide +kernel
theorem dX12_laysTold_52 : decode cX12_laysTold 52 = .ok (.aload_n 0, 1) := by decide +kernel
theorem dX12_laysTold_53 : decode cX12_laysTold 53 = .ok (.getfield 442, 3) := by decide +kernel
theorem dX12_laysTold_56 : decode cX12_laysTold 56 = .ok (.iload 4, 2) := by decide +kernel
theorem dX12_laysTold_58 : decode cX12_laysTold 58 = .ok (.iastore, 1) := by decide +kernel
theorem dX12_laysTold_59 : decode cX12_laysTold 59 = .ok (.aload_n 0, 1) := by decide +kernel
theorem dX12_laysTold_60 : decode cX12_laysTold 60 = .ok (.aload_n 0, 1) := by decide +kernel
theorem dX12_laysTold_61 : decode cX12_laysTold 61 = .ok (.getfield 442, 3) := by decide +kernel
theorem dX12_laysTold_64 : decode cX12_laysTold 64 = .ok (.iconst 1, 1) := by decide +kernel
theorem dX12_laysTold_65 : decode cX12_laysTold 65 = .ok (.iadd, 1) := by decide +kernel
theorem dX12_laysTold_66 : decode cX12_laysTold 66 = .ok (.putfield 442, 3) := by decide +kernel
theorem dX12_laysTold_69 : decode cX12_laysTold 69 = .ok (.iinc 4 1, 3) := by decide +kernel
theorem dX12_laysTold_72 : decode cX12_laysTold 72 = .ok (.goto (-64), 3) := by decide +kernel
theorem dX12_laysTold_75 : decode cX12_laysTold 75 = .ok (.return_, 1) := by decide +kernel
theorem dX12_miles_0 : decode cX12_miles 0 = .ok (.iconst 1, 1) := by decide +kernel
theorem dX12_miles_1 : decode cX12_miles 1 = .ok (.aload_n 0, 1) := by decide +kernel
theorem dX12_miles_2 : decode cX12_miles 2 = .ok (.getfield 442, 3) := by decide +kernel
theorem dX12_miles_5 : decode cX12_miles 5 = .ok (.ishl, 1) := by decide +kernel
theorem dX12_miles_6 : decode cX12_miles 6 = .ok (.iconst 1, 1) := by decide +kernel
theorem dX12_miles_7 : decode cX12_miles 7 = .ok (.isub, 1) := by decide +kernel
theorem dX12_miles_8 : decode cX12_miles 8 = .ok (.istore_n 1, 1) := by decide +kernel
theorem dX12_miles_9 : decode cX12_miles 9 = .ok (.iconst 0, 1) := by decide +kernel
theorem dX12_miles_10 : decode cX12_miles 10 = .ok (.istore_n 2, 1) := by decide +kernel
theorem dX12_miles_11 : decode cX12_miles 11 = .ok (.iload_n 2, 1) := by decide +kernel
theorem dX12_miles_12 : decode cX12_miles 12 = .ok (.iload_n 1, 1) := by decide +kernel
theorem dX12_miles_13 : decode cX12_miles 13 = .ok (.if_icmp .gt 145, 3) := by decide +kernel
theorem dX12_miles_16 : decode cX12_miles 16 = .ok (.iconst 0, 1) := by decide +kernel
theorem dX12_miles_17 : decode cX12_miles 17 = .ok (.istore_n 3, 1) := by decide +kernel
theorem dX12_miles_18 : decode cX12_miles 18 = .ok (.iload_n 3, 1) := by decide +kernel
theorem dX12_miles_19 : decode cX12_miles 19 = .ok (.aload_n 0, 1) := by decide +kernel
theorem dX12_miles_20 : decode cX12_miles 20 = .ok (.getfield 442, 3) := by decide +kernel
theorem dX12_miles_23 : decode cX12_miles 23 = .ok (.if_icmp .ge 129, 3) := by decide +kernel
theorem dX12_miles_26 : decode cX12_miles 26 = .ok (.iload_n 2, 1) := by decide +kernel
theorem dX12_miles_27 : decode cX12_miles 27 = .ok (.ifCond .ne 16, 3) := by decide +kernel
theorem dX12_miles_30 : decode cX12_miles 30 = .ok (.aload_n 0, 1) := by decide +kernel
theorem dX12_miles_31 : decode cX12_miles 31 = .ok (.aload_n 0, 1) := by decide +kernel
theorem dX12_miles_32 : decode cX12_miles 32 = .ok (.getfield 177, 3) := by decide +kernel
theorem dX12_miles_35 : decode cX12_miles 35 = .ok (.iload_n 3, 1) := by decide +kernel
theorem dX12_miles_36 : decode cX12_miles 36 = .ok (.iaload, 1) := by decide +kernel
theorem dX12_miles_37 : decode cX12_miles 37 = .ok (.invokevirtual 445, 3) := by decide +kernel
theorem dX12_miles_40 : decode cX12_miles 40 = .ok (.goto 6, 3) := by decide +kernel
theorem dX12_miles_43 : decode cX12_miles 43 = .ok (.ldc_w 448, 3) := by decide +kernel
theorem dX12_miles_46 : decode cX12_miles 46 = .ok (.istore 4, 2) := by decide +kernel
theorem dX12_miles_48 : decode cX12_miles 48 = .ok (.iconst 0, 1) := by decide +kernel
theorem dX12_miles_49 : decode cX12_miles 49 = .ok (.istore 5, 2) := by decide +kernel
theorem dX12_miles_51 : decode cX12_miles 51 = .ok (.iload 5, 2) := by decide +kernel
theorem dX12_miles_53 : decode cX12_miles 53 = .ok (.aload_n 0, 1) := by decide +kernel
theorem dX12_miles_54 : decode cX12_miles 54 = .ok (.getfield 442, 3) := by decide +kernel
theorem dX12_miles_57 : decode cX12_miles 57 = .ok (.if_icmp .ge 76, 3) := by decide +kernel
theorem dX12_miles_60 : decode cX12_miles 60 = .ok (.iload_n 2, 1) := by decide +kernel
theorem dX12_miles_61 : decode cX12_miles 61 = .ok (.iload 5, 2) := by decide +kernel
theorem dX12_miles_63 : decode cX12_miles 63 = .ok (.ishr, 1) := by decide +kernel
theorem dX12_miles_64 : decode cX12_miles 64 = .ok (.iconst 1, 1) := by decide +kernel
theorem dX12_miles_65 : decode cX12_miles 65 = .ok (.iand, 1) := by decide +kernel
theorem dX12_miles_66 : decode cX12_miles 66 = .ok (.ifCond .ne 6, 3) := by decide +kernel
theorem dX12_miles_69 : decode cX12_miles 69 = .ok (.goto 58, 3) := by decide +kernel
theorem dX12_miles_72 : decode cX12_miles 72 = .ok (.aload_n 0, 1) := by decide +kernel
theorem dX12_miles_73 : decode cX12_miles 73 = .ok (.aload_n 0, 1) := by decide +kernel
theorem dX12_miles_74 : decode cX12_miles 74 = .ok (.getfield 177, 3) := by decide +kernel
theorem dX12_miles_77 : decode cX12_miles 77 = .ok (.iload_n 3, 1) := by decide +kernel
theorem dX12_miles_78 : decode cX12_miles 78 = .ok (.iaload, 1) := by decide +kernel
theorem dX12_miles_79 : decode cX12_miles 79 = .ok (.aload_n 0, 1) := by decide +kernel
theorem dX12_miles_80 : decode cX12_miles 80 = .ok (.getfield 177, 3) := by decide +kernel
theorem dX12_miles_83 : decode cX12_miles 83 = .ok (.iload 5, 2) := by decide +kernel
theorem dX12_miles_85 : decode cX12_miles 85 = .ok (.iaload, 1) := by decide +kernel
theorem dX12_miles_86 : decode cX12_miles 86 = .ok (.invokevirtual 449, 3) := by decide +kernel
theorem dX12_miles_89 : decode cX12_miles 89 = .ok (.aload_n 0, 1) := by decide +kernel
theorem dX12_miles_90 : decode cX12_miles 90 = .ok (.getfield 180, 3) := by decide +kernel
theorem dX12_miles_93 : decode cX12_miles 93 = .ok (.bipush 8, 2) := by decide +kernel
theorem dX12_miles_95 : decode cX12_miles 95 = .ok (.iload_n 2, 1) := by decide +kernel
theorem dX12_miles_96 : decode cX12_miles 96 = .ok (.iconst 1, 1) := by decide +kernel
theorem dX12_miles_97 : decode cX12_miles 97 = .ok (.iload 5, 2) := by decide +kernel
theorem dX12_miles_99 : decode cX12_miles 99 = .ok (.ishl, 1) := by decide +kernel
theorem dX12_miles_100 : decode cX12_miles 100 = .ok (.iconst (-1), 1) := by decide +kernel
theorem dX12_miles_101 : decode cX12_miles 101 = .ok (.ixor, 1) := by decide +kernel
theorem dX12_miles_102 : decode cX12_miles 102 = .ok (.iand, 1) := by decide +kernel
theorem dX12_miles_103 : decode cX12_miles 103 = .ok (.imul, 1) := by decide +kernel
theorem dX12_miles_104 : decode cX12_miles 104 = .ok (.iload 5, 2) := by decide +kernel
theorem dX12_miles_106 : decode cX12_miles 106 = .ok (.iadd, 1) := by decide +kernel
theorem dX12_miles_107 : decode cX12_miles 107 = .ok (.iaload, 1) := by decide +kernel
theorem dX12_miles_108 : decode cX12_miles 108 = .ok (.iadd, 1) := by decide +kernel
theorem dX12_miles_109 : decode cX12_miles 109 = .ok (.istore 6, 2) := by decide +kernel
theorem dX12_miles_111 : decode cX12_miles 111 = .ok (.iload 6, 2) := by decide +kernel
theorem dX12_miles_113 : decode cX12_miles 113 = .ok (.iload 4, 2) := by decide +kernel
theorem dX12_miles_115 : decode cX12_miles 115 = .ok (.if_icmp .ge 8, 3) := by decide +kernel
theorem dX12_miles_118 : decode cX12_miles 118 = .ok (.iload 6, 2) := by decide +kernel
theorem dX12_miles_120 : decode cX12_miles 120 = .ok (.goto 5, 3) := by decide +kernel
theorem dX12_miles_123 : decode cX12_miles 123 = .ok (.iload 4, 2) := by decide +kernel
theorem dX12_miles_125 : decode cX12_miles 125 = .ok (.istore 4, 2) := by decide +kernel
theorem dX12_miles_127 : decode cX12_miles 127 = .ok (.iinc 5 1, 3) := by decide +kernel
theorem dX12_miles_130 : decode cX12_miles 130 = .ok (.goto (-79), 3) := by decide +kernel
theorem dX12_miles_133 : decode cX12_miles 133 = .ok (.aload_n 0, 1) := by decide +kernel
theorem dX12_miles_134 : decode cX12_miles 134 = .ok (.getfield 180, 3) := by decide +kernel
theorem dX12_miles_137 : decode cX12_miles 137 = .ok (.bipush 8, 2) := by decide +kernel
theorem dX12_miles_139 : decode cX12_miles 139 = .ok (.iload_n 2, 1) := by decide +kernel
theorem dX12_miles_140 : decode cX12_miles 140 = .ok (.imul, 1) := by decide +kernel
theorem dX12_miles_141 : decode cX12_miles 141 = .ok (.iload_n 3, 1) := by decide +kernel
theorem dX12_miles_142 : decode cX12_miles 142 = .ok (.iadd, 1) := by decide +kernel
theorem dX12_miles_143 : decode cX12_miles 143 = .ok (.iload 4, 2) := by decide +kernel
theorem dX12_miles_145 : decode cX12_miles 145 = .ok (.iastore, 1) := by decide +kernel
theorem dX12_miles_146 : decode cX12_miles 146 = .ok (.iinc 3 1, 3) := by decide +kernel
theorem dX12_miles_149 : decode cX12_miles 149 = .ok (.goto (-131), 3) := by decide +kernel
theorem dX12_miles_152 : decode cX12_miles 152 = .ok (.iinc 2 1, 3) := by decide +kernel
theorem dX12_miles_155 : decode cX12_miles 155 = .ok (.goto (-144), 3) := by decide +kernel
theorem dX12_miles_158 : decode cX12_miles 158 = .ok (.aload_n 0, 1) := by decide +kernel
theorem dX12_miles_159 : decode cX12_miles 159 = .ok (.getfield 442, 3) := by decide +kernel
theorem dX12_miles_162 : decode cX12_miles 162 = .ok (.ifCond .ne 7, 3) := by decide +kernel
theorem dX12_miles_165 : decode cX12_miles 165 = .ok (.iconst 0, 1) := by decide +kernel
theorem dX12_miles_166 : decode cX12_miles 166 = .ok (.goto 6, 3) := by decide +kernel
theorem dX12_miles_169 : decode cX12_miles 169 = .ok (.ldc_w 448, 3) := by decide +kernel
theorem dX12_miles_172 : decode cX12_miles 172 = .ok (.istore_n 2, 1) := by decide +kernel
theorem dX12_miles_173 : decode cX12_miles 173 = .ok (.iconst 0, 1) := by decide +kernel
theorem dX12_miles_174 : decode cX12_miles 174 = .ok (.istore_n 3, 1) := by decide +kernel
theorem dX12_miles_175 : decode cX12_miles 175 = .ok (.iload_n 3, 1) := by decide +kernel
theorem dX12_miles_176 : decode cX12_miles 176 = .ok (.aload_n 0, 1) := by decide +kernel
theorem dX12_miles_177 : decode cX12_miles 177 = .ok (.getfield 442, 3) := by decide +kernel
theorem dX12_miles_180 : decode cX12_miles 180 = .ok (.if_icmp .ge 52, 3) := by decide +kernel
theorem dX12_miles_183 : decode cX12_miles 183 = .ok (.aload_n 0, 1) := by decide +kernel
theorem dX12_miles_184 : decode cX12_miles 184 = .ok (.aload_n 0, 1) := by decide +kernel
theorem dX12_miles_185 : decode cX12_miles 185 = .ok (.getfield 177, 3) := by decide +kernel
theorem dX12_miles_188 : decode cX12_miles 188 = .ok (.iload_n 3, 1) := by decide +kernel
theorem dX12_miles_189 : decode cX12_miles 189 = .ok (.iaload, 1) := by decide +kernel
theorem dX12_miles_190 : decode cX12_miles 190 = .ok (.invokevirtual 445, 3) := by decide +kernel
theorem dX12_miles_193 : decode cX12_miles 193 = .ok (.aload_n 0, 1) := by decide +kernel
theorem dX12_miles_194 : decode cX12_miles 194 = .ok (.getfield 180, 3) := by decide +kernel
theorem dX12_miles_197 : decode cX12_miles 197 = .ok (.bipush 8, 2) := by decide +kernel
theorem dX12_miles_199 : decode cX12_miles 199 = .ok (.iload_n 1, 1) := by decide +kernel
theorem dX12_miles_200 : decode cX12_miles 200 = .ok (.iconst 1, 1) := by decide +kernel
theorem dX12_miles_201 : decode cX12_miles 201 = .ok (.iload_n 3, 1) := by decide +kernel
theorem dX12_miles_202 : decode cX12_miles 202 = .ok (.ishl, 1) := by decide +kernel
theorem dX12_miles_203 : decode cX12_miles 203 = .ok (.iconst (-1), 1) := by decide +kernel
theorem dX12_miles_204 : decode cX12_miles 204 = .ok (.ixor, 1) := by decide +kernel
theorem dX12_miles_205 : decode cX12_miles 205 = .ok (.iand, 1) := by decide +kernel
theorem dX12_miles_206 : decode cX12_miles 206 = .ok (.imul, 1) := by decide +kernel
theorem dX12_miles_207 : decode cX12_miles 207 = .ok (.iload_n 3, 1) := by decide +kernel
theorem dX12_miles_208 : decode cX12_miles 208 = .ok (.iadd, 1) := by decide +kernel
theorem dX12_miles_209 : decode cX12_miles 209 = .ok (.iaload, 1) := by decide +kernel
theorem dX12_miles_210 : decode cX12_miles 210 = .ok (.iadd, 1) := by decide +kernel
theorem dX12_miles_211 : decode cX12_miles 211 = .ok (.istore 4, 2) := by decide +kernel
theorem dX12_miles_213 : decode cX12_miles 213 = .ok (.iload 4, 2) := by decide +kernel
theorem dX12_miles_215 : decode cX12_miles 215 = .ok (.iload_n 2, 1) := by decide +kernel
theorem dX12_miles_216 : decode cX12_miles 216 = .ok (.if_icmp .ge 8, 3) := by decide +kernel
theorem dX12_miles_219 : decode cX12_miles 219 = .ok (.iload 4, 2) := by decide +kernel
theorem dX12_miles_221 : decode cX12_miles 221 = .ok (.goto 4, 3) := by decide +kernel
theorem dX12_miles_224 : decode cX12_miles 224 = .ok (.iload_n 2, 1) := by decide +kernel
theorem dX12_miles_225 : decode cX12_miles 225 = .ok (.istore_n 2, 1) := by decide +kernel
theorem dX12_miles_226 : decode cX12_miles 226 = .ok (.iinc 3 1, 3) := by decide +kernel
theorem dX12_miles_229 : decode cX12_miles 229 = .ok (.goto (-54), 3) := by decide +kernel
theorem dX12_miles_232 : decode cX12_miles 232 = .ok (.iload_n 2, 1) := by decide +kernel
theorem dX12_miles_233 : decode cX12_miles 233 = .ok (.ireturn, 1) := by decide +kernel
theorem dX12_halts_0 : decode cX12_halts 0 = .ok (.iconst 0, 1) := by decide +kernel
theorem dX12_halts_1 : decode cX12_halts 1 = .ok (.istore_n 1, 1) := by decide +kernel
theorem dX12_halts_2 : decode cX12_halts 2 = .ok (.iconst 0, 1) := by decide +kernel
theorem dX12_halts_3 : decode cX12_halts 3 = .ok (.istore_n 2, 1) := by decide +kernel
theorem dX12_halts_4 : decode cX12_halts 4 = .ok (.iload_n 2, 1) := by decide +kernel
theorem dX12_halts_5 : decode cX12_halts 5 = .ok (.aload_n 0, 1) := by decide +kernel
theorem dX12_halts_6 : decode cX12_halts 6 = .ok (.getfield 442, 3) := by decide +kernel
theorem dX12_halts_9 : decode cX12_halts 9 = .ok (.if_icmp .ge 23, 3) := by decide +kernel
theorem dX12_halts_12 : decode cX12_halts 12 = .ok (.iload_n 1, 1) := by decide +kernel
theorem dX12_halts_13 : decode cX12_halts 13 = .ok (.aload_n 0, 1) := by decide +kernel
theorem dX12_halts_14 : decode cX12_halts 14 = .ok (.getfield 43, 3) := by decide +kernel
theorem dX12_halts_17 : decode cX12_halts 17 = .ok (.aload_n 0, 1) := by decide +kernel
theorem dX12_halts_18 : decode cX12_halts 18 = .ok (.getfield 177, 3) := by decide +kernel
theorem dX12_halts_21 : decode cX12_halts 21 = .ok (.iload_n 2, 1) := by decide +kernel
theorem dX12_halts_22 : decode cX12_halts 22 = .ok (.iaload, 1) := by decide +kernel
theorem dX12_halts_23 : decode cX12_halts 23 = .ok (.iaload, 1) := by decide +kernel
theorem dX12_halts_24 : decode cX12_halts 24 = .ok (.iadd, 1) := by decide +kernel
theorem dX12_halts_25 : decode cX12_halts 25 = .ok (.istore_n 1, 1) := by decide +kernel
theorem dX12_halts_26 : decode cX12_halts 26 = .ok (.iinc 2 1, 3) := by decide +kernel
theorem dX12_halts_29 : decode cX12_halts 29 = .ok (.goto (-25), 3) := by decide +kernel
theorem dX12_halts_32 : decode cX12_halts 32 = .ok (.iload_n 1, 1) := by decide +kernel
theorem dX12_halts_33 : decode cX12_halts 33 = .ok (.ireturn, 1) := by decide +kernel
theorem dX12_stopAt_0 : decode cX12_stopAt 0 = .ok (.iconst 1, 1) := by decide +kernel
theorem dX12_stopAt_1 : decode cX12_stopAt 1 = .ok (.aload_n 0, 1) := by decide +kernel
theorem dX12_stopAt_2 : decode cX12_stopAt 2 = .ok (.getfield 442, 3) := by decide +kernel
theorem dX12_stopAt_5 : decode cX12_stopAt 5 = .ok (.ishl, 1) := by decide +kernel
theorem dX12_stopAt_6 : decode cX12_stopAt 6 = .ok (.iconst 1, 1) := by decide +kernel
theorem dX12_stopAt_7 : decode cX12_stopAt 7 = .ok (.isub, 1) := by decide +kernel
theorem dX12_stopAt_8 : decode cX12_stopAt 8 = .ok (.istore_n 2, 1) := by decide +kernel
theorem dX12_stopAt_9 : decode cX12_stopAt 9 = .ok (.iconst (-1), 1) := by decide +kernel
theorem dX12_stopAt_10 : decode cX12_stopAt 10 = .ok (.istore_n 3, 1) := by decide +kernel
theorem dX12_stopAt_11 : decode cX12_stopAt 11 = .ok (.iconst 0, 1) := by decide +kernel
theorem dX12_stopAt_12 : decode cX12_stopAt 12 = .ok (.istore 4, 2) := by decide +kernel
theorem dX12_stopAt_14 : decode cX12_stopAt 14 = .ok (.iload 4, 2) := by decide +kernel
theorem dX12_stopAt_16 : decode cX12_stopAt 16 = .ok (.iload_n 1, 1) := by decide +kernel
theorem dX12_stopAt_17 : decode cX12_stopAt 17 = .ok (.if_icmp .gt 139, 3) := by decide +kernel
theorem dX12_stopAt_20 : decode cX12_stopAt 20 = .ok (.iconst (-1), 1) := by decide +kernel
theorem dX12_stopAt_21 : decode cX12_stopAt 21 = .ok (.istore 5, 2) := by decide +kernel
theorem dX12_stopAt_23 : decode cX12_stopAt 23 = .ok (.iconst 0, 1) := by decide +kernel
theorem dX12_stopAt_24 : decode cX12_stopAt 24 = .ok (.istore 6, 2) := by decide +kernel
theorem dX12_stopAt_26 : decode cX12_stopAt 26 = .ok (.iconst 0, 1) := by decide +kernel
theorem dX12_stopAt_27 : decode cX12_stopAt 27 = .ok (.istore 7, 2) := by decide +kernel
theorem dX12_stopAt_29 : decode cX12_stopAt 29 = .ok (.iload 7, 2) := by decide +kernel
theorem dX12_stopAt_31 : decode cX12_stopAt 31 = .ok (.aload_n 0, 1) := by decide +kernel
theorem dX12_stopAt_32 : decode cX12_stopAt 32 = .ok (.getfield 442, 3) := by decide +kernel
theorem dX12_stopAt_35 : decode cX12_stopAt 35 = .ok (.if_icmp .ge 103, 3) := by decide +kernel
theorem dX12_stopAt_38 : decode cX12_stopAt 38 = .ok (.iload_n 2, 1) := by decide +kernel
theorem dX12_stopAt_39 : decode cX12_stopAt 39 = .ok (.iload 7, 2) := by decide +kernel
theorem dX12_stopAt_41 : decode cX12_stopAt 41 = .ok (.ishr, 1) := by decide +kernel
theorem dX12_stopAt_42 : decode cX12_stopAt 42 = .ok (.iconst 1, 1) := by decide +kernel
theorem dX12_stopAt_43 : decode cX12_stopAt 43 = .ok (.iand, 1) := by decide +kernel
theorem dX12_stopAt_44 : decode cX12_stopAt 44 = .ok (.ifCond .ne 6, 3) := by decide +kernel
theorem dX12_stopAt_47 : decode cX12_stopAt 47 = .ok (.goto 85, 3) := by decide +kernel
theorem dX12_stopAt_50 : decode cX12_stopAt 50 = .ok (.iload_n 3, 1) := by decide +kernel
theorem dX12_stopAt_51 : decode cX12_stopAt 51 = .ok (.iconst (-1), 1) := by decide +kernel
theorem dX12_stopAt_52 : decode cX12_stopAt 52 = .ok (.if_icmp .ne 17, 3) := by decide +kernel
theorem dX12_stopAt_55 : decode cX12_stopAt 55 = .ok (.aload_n 0, 1) := by decide +kernel
theorem dX12_stopAt_56 : decode cX12_stopAt 56 = .ok (.aload_n 0, 1) := by decide +kernel
theorem dX12_stopAt_57 : decode cX12_stopAt 57 = .ok (.getfield 177, 3) := by decide +kernel
theorem dX12_stopAt_60 : decode cX12_stopAt 60 = .ok (.iload 7, 2) := by decide +kernel
theorem dX12_stopAt_62 : decode cX12_stopAt 62 = .ok (.iaload, 1) := by decide +kernel
theorem dX12_stopAt_63 : decode cX12_stopAt 63 = .ok (.invokevirtual 445, 3) := by decide +kernel
theorem dX12_stopAt_66 : decode cX12_stopAt 66 = .ok (.goto 20, 3) := by decide +kernel
theorem dX12_stopAt_69 : decode cX12_stopAt 69 = .ok (.aload_n 0, 1) := by decide +kernel
theorem dX12_stopAt_70 : decode cX12_stopAt 70 = .ok (.aload_n 0, 1) := by decide +kernel
theorem dX12_stopAt_71 : decode cX12_stopAt 71 = .ok (.getfield 177, 3) := by decide +kernel
theorem dX12_stopAt_74 : decode cX12_stopAt 74 = .ok (.iload_n 3, 1) := by decide +kernel
theorem dX12_stopAt_75 : decode cX12_stopAt 75 = .ok (.iaload, 1) := by decide +kernel
theorem dX12_stopAt_76 : decode cX12_stopAt 76 = .ok (.aload_n 0, 1) := by decide +kernel
theorem dX12_stopAt_77 : decode cX12_stopAt 77 = .ok (.getfield 177, 3) := by decide +kernel
theorem dX12_stopAt_80 : decode cX12_stopAt 80 = .ok (.iload 7, 2) := by decide +kernel
theorem dX12_stopAt_82 : decode cX12_stopAt 82 = .ok (.iaload, 1) := by decide +kernel
theorem dX12_stopAt_83 : decode cX12_stopAt 83 = .ok (.invokevirtual 449, 3) := by decide +kernel
theorem dX12_stopAt_86 : decode cX12_stopAt 86 = .ok (.aload_n 0, 1) := by decide +kernel
theorem dX12_stopAt_87 : decode cX12_stopAt 87 = .ok (.getfield 180, 3) := by decide +kernel
theorem dX12_stopAt_90 : decode cX12_stopAt 90 = .ok (.bipush 8, 2) := by decide +kernel
theorem dX12_stopAt_92 : decode cX12_stopAt 92 = .ok (.iload_n 2, 1) := by decide +kernel
theorem dX12_stopAt_93 : decode cX12_stopAt 93 = .ok (.iconst 1, 1) := by decide +kernel
theorem dX12_stopAt_94 : decode cX12_stopAt 94 = .ok (.iload 7, 2) := by decide +kernel
theorem dX12_stopAt_96 : decode cX12_stopAt 96 = .ok (.ishl, 1) := by decide +kernel
theorem dX12_stopAt_97 : decode cX12_stopAt 97 = .ok (.iconst (-1), 1) := by decide +kernel
theorem dX12_stopAt_98 : decode cX12_stopAt 98 = .ok (.ixor, 1) := by decide +kernel
theorem dX12_stopAt_99 : decode cX12_stopAt 99 = .ok (.iand, 1) := by decide +kernel
theorem dX12_stopAt_100 : decode cX12_stopAt 100 = .ok (.imul, 1) := by decide +kernel
theorem dX12_stopAt_101 : decode cX12_stopAt 101 = .ok (.iload 7, 2) := by decide +kernel
theorem dX12_stopAt_103 : decode cX12_stopAt 103 = .ok (.iadd, 1) := by decide +kernel
theorem dX12_stopAt_104 : decode cX12_stopAt 104 = .ok (.iaload, 1) := by decide +kernel
theorem dX12_stopAt_105 : decode cX12_stopAt 105 = .ok (.iadd, 1) := by decide +kernel
theorem dX12_stopAt_106 : decode cX12_stopAt 106 = .ok (.istore 8, 2) := by decide +kernel
theorem dX12_stopAt_108 : decode cX12_stopAt 108 = .ok (.iload 5, 2) := by decide +kernel
theorem dX12_stopAt_110 : decode cX12_stopAt 110 = .ok (.iconst (-1), 1) := by decide +kernel
theorem dX12_stopAt_111 : decode cX12_stopAt 111 = .ok (.if_icmp .eq 13, 3) := by decide +kernel
theorem dX12_stopAt_114 : decode cX12_stopAt 114 = .ok (.iload 8, 2) := by decide +kernel
theorem dX12_stopAt_116 : decode cX12_stopAt 116 = .ok (.iload 6, 2) := by decide +kernel
theorem dX12_stopAt_118 : decode cX12_stopAt 118 = .ok (.if_icmp .lt 6, 3) := by decide +kernel
theorem dX12_stopAt_121 : decode cX12_stopAt 121 = .ok (.goto 11, 3) := by decide +kernel
theorem dX12_stopAt_124 : decode cX12_stopAt 124 = .ok (.iload 7, 2) := by decide +kernel
theorem dX12_stopAt_126 : decode cX12_stopAt 126 = .ok (.istore 5, 2) := by decide +kernel
theorem dX12_stopAt_128 : decode cX12_stopAt 128 = .ok (.iload 8, 2) := by decide +kernel
theorem dX12_stopAt_130 : decode cX12_stopAt 130 = .ok (.istore 6, 2) := by decide +kernel
theorem dX12_stopAt_132 : decode cX12_stopAt 132 = .ok (.iinc 7 1, 3) := by decide +kernel
theorem dX12_stopAt_135 : decode cX12_stopAt 135 = .ok (.goto (-106), 3) := by decide +kernel
theorem dX12_stopAt_138 : decode cX12_stopAt 138 = .ok (.iload 5, 2) := by decide +kernel
theorem dX12_stopAt_140 : decode cX12_stopAt 140 = .ok (.istore_n 3, 1) := by decide +kernel
theorem dX12_stopAt_141 : decode cX12_stopAt 141 = .ok (.iload_n 2, 1) := by decide +kernel
theorem dX12_stopAt_142 : decode cX12_stopAt 142 = .ok (.iconst 1, 1) := by decide +kernel
theorem dX12_stopAt_143 : decode cX12_stopAt 143 = .ok (.iload 5, 2) := by decide +kernel
theorem dX12_stopAt_145 : decode cX12_stopAt 145 = .ok (.ishl, 1) := by decide +kernel
theorem dX12_stopAt_146 : decode cX12_stopAt 146 = .ok (.iconst (-1), 1) := by decide +kernel
theorem dX12_stopAt_147 : decode cX12_stopAt 147 = .ok (.ixor, 1) := by decide +kernel
theorem dX12_stopAt_148 : decode cX12_stopAt 148 = .ok (.iand, 1) := by decide +kernel
theorem dX12_stopAt_149 : decode cX12_stopAt 149 = .ok (.istore_n 2, 1) := by decide +kernel
theorem dX12_stopAt_150 : decode cX12_stopAt 150 = .ok (.iinc 4 1, 3) := by decide +kernel
theorem dX12_stopAt_153 : decode cX12_stopAt 153 = .ok (.goto (-139), 3) := by decide +kernel
theorem dX12_stopAt_156 : decode cX12_stopAt 156 = .ok (.aload_n 0, 1) := by decide +kernel
theorem dX12_stopAt_157 : decode cX12_stopAt 157 = .ok (.getfield 177, 3) := by decide +kernel
theorem dX12_stopAt_160 : decode cX12_stopAt 160 = .ok (.iload_n 3, 1) := by decide +kernel
theorem dX12_stopAt_161 : decode cX12_stopAt 161 = .ok (.iaload, 1) := by decide +kernel
theorem dX12_stopAt_162 : decode cX12_stopAt 162 = .ok (.ireturn, 1) := by decide +kernel
theorem dX12_pace_0 : decode cX12_pace 0 = .ok (.iload_n 1, 1) := by decide +kernel
theorem dX12_pace_1 : decode cX12_pace 1 = .ok (.iconst 1, 1) := by decide +kernel
theorem dX12_pace_2 : decode cX12_pace 2 = .ok (.bipush 9, 2) := by decide +kernel
theorem dX12_pace_4 : decode cX12_pace 4 = .ok (.invokestatic 199, 3) := by decide +kernel
theorem dX12_pace_7 : decode cX12_pace 7 = .ok (.ifCond .ne 5, 3) := by decide +kernel
theorem dX12_pace_10 : decode cX12_pace 10 = .ok (.iconst 0, 1) := by decide +kernel
theorem dX12_pace_11 : decode cX12_pace 11 = .ok (.ireturn, 1) := by decide +kernel
theorem dX12_pace_12 : decode cX12_pace 12 = .ok (.aload_n 0, 1) := by decide +kernel
theorem dX12_pace_13 : decode cX12_pace 13 = .ok (.iload_n 1, 1) := by decide +kernel
theorem dX12_pace_14 : decode cX12_pace 14 = .ok (.putfield 183, 3) := by decide +kernel
theorem dX12_pace_17 : decode cX12_pace 17 = .ok (.iconst 1, 1) := by decide +kernel
theorem dX12_pace_18 : decode cX12_pace 18 = .ok (.ireturn, 1) := by decide +kernel
theorem dX12_round_0 : decode cX12_round 0 = .ok (.iload_n 1, 1) := by decide +kernel
theorem dX12_round_1 : decode cX12_round 1 = .ok (.invokestatic 203, 3) := by decide +kernel
theorem dX12_round_4 : decode cX12_round 4 = .ok (.ifCond .eq 20, 3) := by decide +kernel
theorem dX12_round_7 : decode cX12_round 7 = .ok (.iload_n 2, 1) := by decide +kernel
theorem dX12_round_8 : decode cX12_round 8 = .ok (.invokestatic 349, 3) := by decide +kernel
theorem dX12_round_11 : decode cX12_round 11 = .ok (.ifCond .eq 13, 3) := by decide +kernel
theorem dX12_round_14 : decode cX12_round 14 = .ok (.iload_n 3, 1) := by decide +kernel
theorem dX12_round_15 : decode cX12_round 15 = .ok (.iconst (-1), 1) := by decide +kernel
theorem dX12_round_16 : decode cX12_round 16 = .ok (.bipush 8, 2) := by decide +kernel
theorem dX12_round_18 : decode cX12_round 18 = .ok (.invokestatic 199, 3) := by decide +kernel
theorem dX12_round_21 : decode cX12_round 21 = .ok (.ifCond .ne 5, 3) := by decide +kernel
theorem dX12_round_24 : decode cX12_round 24 = .ok (.iconst (-1), 1) := by decide +kernel
theorem dX12_round_25 : decode cX12_round 25 = .ok (.ireturn, 1) := by decide +kernel
theorem dX12_round_26 : decode cX12_round 26 = .ok (.aload_n 0, 1) := by decide +kernel
theorem dX12_round_27 : decode cX12_round 27 = .ok (.iload_n 1, 1) := by decide +kernel
theorem dX12_round_28 : decode cX12_round 28 = .ok (.iload_n 2, 1) := by decide +kernel
theorem dX12_round_29 : decode cX12_round 29 = .ok (.invokevirtual 452, 3) := by decide +kernel
theorem dX12_round_32 : decode cX12_round 32 = .ok (.aload_n 0, 1) := by decide +kernel
theorem dX12_round_33 : decode cX12_round 33 = .ok (.getfield 442, 3) := by decide +kernel
theorem dX12_round_36 : decode cX12_round 36 = .ok (.bipush 8, 2) := by decide +kernel
theorem dX12_round_38 : decode cX12_round 38 = .ok (.if_icmp .le 6, 3) := by decide +kernel
theorem dX12_round_41 : decode cX12_round 41 = .ok (.bipush (-2), 2) := by decide +kernel
theorem dX12_round_43 : decode cX12_round 43 = .ok (.ireturn, 1) := by decide +kernel
theorem dX12_round_44 : decode cX12_round 44 = .ok (.aload_n 0, 1) := by decide +kernel
theorem dX12_round_45 : decode cX12_round 45 = .ok (.invokevirtual 455, 3) := by decide +kernel
theorem dX12_round_48 : decode cX12_round 48 = .ok (.istore 4, 2) := by decide +kernel
theorem dX12_round_50 : decode cX12_round 50 = .ok (.iload_n 3, 1) := by decide +kernel
theorem dX12_round_51 : decode cX12_round 51 = .ok (.iconst (-1), 1) := by decide +kernel
theorem dX12_round_52 : decode cX12_round 52 = .ok (.if_icmp .ne 6, 3) := by decide +kernel
theorem dX12_round_55 : decode cX12_round 55 = .ok (.iload 4, 2) := by decide +kernel
theorem dX12_round_57 : decode cX12_round 57 = .ok (.ireturn, 1) := by decide +kernel
theorem dX12_round_58 : decode cX12_round 58 = .ok (.iload_n 3, 1) := by decide +kernel
theorem dX12_round_59 : decode cX12_round 59 = .ok (.bipush 8, 2) := by decide +kernel
theorem dX12_round_61 : decode cX12_round 61 = .ok (.if_icmp .ne 16, 3) := by decide +kernel
theorem dX12_round_64 : decode cX12_round 64 = .ok (.iload 4, 2) := by decide +kernel
theorem dX12_round_66 : decode cX12_round 66 = .ok (.aload_n 0, 1) := by decide +kernel
theorem dX12_round_67 : decode cX12_round 67 = .ok (.getfield 183, 3) := by decide +kernel
theorem dX12_round_70 : decode cX12_round 70 = .ok (.imul, 1) := by decide +kernel
theorem dX12_round_71 : decode cX12_round 71 = .ok (.aload_n 0, 1) := by decide +kernel
theorem dX12_round_72 : decode cX12_round 72 = .ok (.invokevirtual 458, 3) := by decide +kernel
theorem dX12_round_75 : decode cX12_round 75 = .ok (.iadd, 1) := by decide +kernel
theorem dX12_round_76 : decode cX12_round 76 = .ok (.ireturn, 1) := by decide +kernel
theorem dX12_round_77 : decode cX12_round 77 = .ok (.iload_n 3, 1) := by decide +kernel
theorem dX12_round_78 : decode cX12_round 78 = .ok (.aload_n 0, 1) := by decide +kernel
theorem dX12_round_79 : decode cX12_round 79 = .ok (.getfield 442, 3) := by decide +kernel
theorem dX12_round_82 : decode cX12_round 82 = .ok (.if_icmp .lt 7, 3) := by decide +kernel
theorem dX12_round_85 : decode cX12_round 85 = .ok (.iconst (-1), 1) := by decide +kernel
theorem dX12_round_86 : decode cX12_round 86 = .ok (.goto 8, 3) := by decide +kernel
theorem dX12_round_89 : decode cX12_round 89 = .ok (.aload_n 0, 1) := by decide +kernel
theorem dX12_round_90 : decode cX12_round 90 = .ok (.iload_n 3, 1) := by decide +kernel
theorem dX12_round_91 : decode cX12_round 91 = .ok (.invokevirtual 461, 3) := by decide +kernel
theorem dX12_round_94 : decode cX12_round 94 = .ok (.ireturn, 1) := by decide +kernel
theorem dX12_readersOf_0 : decode cX12_readersOf 0 = .ok (.iconst 0, 1) := by decide +kernel
theorem dX12_readersOf_1 : decode cX12_readersOf 1 = .ok (.istore_n 2, 1) := by decide +kernel
theorem dX12_readersOf_2 : decode cX12_readersOf 2 = .ok (.iconst 0, 1) := by decide +kernel
theorem dX12_readersOf_3 : decode cX12_readersOf 3 = .ok (.istore_n 3, 1) := by decide +kernel
theorem dX12_readersOf_4 : decode cX12_readersOf 4 = .ok (.iload_n 3, 1) := by decide +kernel
theorem dX12_readersOf_5 : decode cX12_readersOf 5 = .ok (.aload_n 0, 1) := by decide +kernel
theorem dX12_readersOf_6 : decode cX12_readersOf 6 = .ok (.getfield 193, 3) := by decide +kernel
theorem dX12_readersOf_9 : decode cX12_readersOf 9 = .ok (.if_icmp .ge 27, 3) := by decide +kernel
theorem dX12_readersOf_12 : decode cX12_readersOf 12 = .ok (.iload_n 2, 1) := by decide +kernel
theorem dX12_readersOf_13 : decode cX12_readersOf 13 = .ok (.aload_n 0, 1) := by decide +kernel
theorem dX12_readersOf_14 : decode cX12_readersOf 14 = .ok (.getfield 52, 3) := by decide +kernel
theorem dX12_readersOf_17 : decode cX12_readersOf 17 = .ok (.iload_n 3, 1) := by decide +kernel
theorem dX12_readersOf_18 : decode cX12_readersOf 18 = .ok (.iaload, 1) := by decide +kernel
theorem dX12_readersOf_19 : decode cX12_readersOf 19 = .ok (.iload_n 1, 1) := by decide +kernel
theorem dX12_readersOf_20 : decode cX12_readersOf 20 = .ok (.if_icmp .ne 7, 3) := by decide +kernel
theorem dX12_readersOf_23 : decode cX12_readersOf 23 = .ok (.iconst 1, 1) := by decide +kernel
theorem dX12_readersOf_24 : decode cX12_readersOf 24 = .ok (.goto 4, 3) := by decide +kernel
theorem dX12_readersOf_27 : decode cX12_readersOf 27 = .ok (.iconst 0, 1) := by decide +kernel
theorem dX12_readersOf_28 : decode cX12_readersOf 28 = .ok (.iadd, 1) := by decide +kernel
theorem dX12_readersOf_29 : decode cX12_readersOf 29 = .ok (.istore_n 2, 1) := by decide +kernel
theorem dX12_readersOf_30 : decode cX12_readersOf 30 = .ok (.iinc 3 1, 3) := by decide +kernel
theorem dX12_readersOf_33 : decode cX12_readersOf 33 = .ok (.goto (-29), 3) := by decide +kernel
theorem dX12_readersOf_36 : decode cX12_readersOf 36 = .ok (.iload_n 2, 1) := by decide +kernel
theorem dX12_readersOf_37 : decode cX12_readersOf 37 = .ok (.ireturn, 1) := by decide +kernel
theorem dX12_went_0 : decode cX12_went 0 = .ok (.aload_n 0, 1) := by decide +kernel
theorem dX12_went_1 : decode cX12_went 1 = .ok (.iload_n 1, 1) := by decide +kernel
theorem dX12_went_2 : decode cX12_went 2 = .ok (.invokevirtual 211, 3) := by decide +kernel
theorem dX12_went_5 : decode cX12_went 5 = .ok (.ifCond .eq 12, 3) := by decide +kernel
theorem dX12_went_8 : decode cX12_went 8 = .ok (.iload_n 2, 1) := by decide +kernel
theorem dX12_went_9 : decode cX12_went 9 = .ok (.iconst 0, 1) := by decide +kernel
theorem dX12_went_10 : decode cX12_went 10 = .ok (.iconst 2, 1) := by decide +kernel
theorem dX12_went_11 : decode cX12_went 11 = .ok (.invokestatic 199, 3) := by decide +kernel
theorem dX12_went_14 : decode cX12_went 14 = .ok (.ifCond .ne 5, 3) := by decide +kernel
theorem dX12_went_17 : decode cX12_went 17 = .ok (.iconst (-1), 1) := by decide +kernel
theorem dX12_went_18 : decode cX12_went 18 = .ok (.ireturn, 1) := by decide +kernel
theorem dX12_went_19 : decode cX12_went 19 = .ok (.iload_n 2, 1) := by decide +kernel
theorem dX12_went_20 : decode cX12_went 20 = .ok (.iconst 1, 1) := by decide +kernel
theorem dX12_went_21 : decode cX12_went 21 = .ok (.if_icmp .ne 9, 3) := by decide +kernel
theorem dX12_went_24 : decode cX12_went 24 = .ok (.aload_n 0, 1) := by decide +kernel
theorem dX12_went_25 : decode cX12_went 25 = .ok (.iload_n 1, 1) := by decide +kernel
theorem dX12_went_26 : decode cX12_went 26 = .ok (.invokevirtual 464, 3) := by decide +kernel
theorem dX12_went_29 : decode cX12_went 29 = .ok (.ireturn, 1) := by decide +kernel
theorem dX12_went_30 : decode cX12_went 30 = .ok (.iload_n 2, 1) := by decide +kernel
theorem dX12_went_31 : decode cX12_went 31 = .ok (.iconst 2, 1) := by decide +kernel
theorem dX12_went_32 : decode cX12_went 32 = .ok (.if_icmp .ne 10, 3) := by decide +kernel
theorem dX12_went_35 : decode cX12_went 35 = .ok (.aload_n 0, 1) := by decide +kernel
theorem dX12_went_36 : decode cX12_went 36 = .ok (.getfield 86, 3) := by decide +kernel
theorem dX12_went_39 : decode cX12_went 39 = .ok (.iload_n 1, 1) := by decide +kernel
theorem dX12_went_40 : decode cX12_went 40 = .ok (.iaload, 1) := by decide +kernel
theorem dX12_went_41 : decode cX12_went 41 = .ok (.ireturn, 1) := by decide +kernel
theorem dX12_went_42 : decode cX12_went 42 = .ok (.aload_n 0, 1) := by decide +kernel
theorem dX12_went_43 : decode cX12_went 43 = .ok (.getfield 46, 3) := by decide +kernel
theorem dX12_went_46 : decode cX12_went 46 = .ok (.iload_n 1, 1) := by decide +kernel
theorem dX12_went_47 : decode cX12_went 47 = .ok (.iaload, 1) := by decide +kernel
theorem dX12_went_48 : decode cX12_went 48 = .ok (.iconst (-1), 1) := by decide +kernel
theorem dX12_went_49 : decode cX12_went 49 = .ok (.if_icmp .ne 5, 3) := by decide +kernel
theorem dX12_went_52 : decode cX12_went 52 = .ok (.iconst 0, 1) := by decide +kernel
theorem dX12_went_53 : decode cX12_went 53 = .ok (.ireturn, 1) := by decide +kernel
theorem dX12_went_54 : decode cX12_went 54 = .ok (.aload_n 0, 1) := by decide +kernel
theorem dX12_went_55 : decode cX12_went 55 = .ok (.aload_n 0, 1) := by decide +kernel
theorem dX12_went_56 : decode cX12_went 56 = .ok (.getfield 46, 3) := by decide +kernel
theorem dX12_went_59 : decode cX12_went 59 = .ok (.iload_n 1, 1) := by decide +kernel
theorem dX12_went_60 : decode cX12_went 60 = .ok (.iaload, 1) := by decide +kernel
theorem dX12_went_61 : decode cX12_went 61 = .ok (.aload_n 0, 1) := by decide +kernel
theorem dX12_went_62 : decode cX12_went 62 = .ok (.getfield 49, 3) := by decide +kernel
theorem dX12_went_65 : decode cX12_went 65 = .ok (.iload_n 1, 1) := by decide +kernel
theorem dX12_went_66 : decode cX12_went 66 = .ok (.iaload, 1) := by decide +kernel
theorem dX12_went_67 : decode cX12_went 67 = .ok (.iconst (-1), 1) := by decide +kernel
theorem dX12_went_68 : decode cX12_went 68 = .ok (.invokevirtual 467, 3) := by decide +kernel
theorem dX12_went_71 : decode cX12_went 71 = .ok (.aload_n 0, 1) := by decide +kernel
theorem dX12_went_72 : decode cX12_went 72 = .ok (.getfield 442, 3) := by decide +kernel
theorem dX12_went_75 : decode cX12_went 75 = .ok (.bipush 8, 2) := by decide +kernel
theorem dX12_went_77 : decode cX12_went 77 = .ok (.if_icmp .le 6, 3) := by decide +kernel
theorem dX12_went_80 : decode cX12_went 80 = .ok (.bipush (-2), 2) := by decide +kernel
theorem dX12_went_82 : decode cX12_went 82 = .ok (.ireturn, 1) := by decide +kernel
theorem dX12_went_83 : decode cX12_went 83 = .ok (.aload_n 0, 1) := by decide +kernel
theorem dX12_went_84 : decode cX12_went 84 = .ok (.invokevirtual 455, 3) := by decide +kernel
theorem dX12_went_87 : decode cX12_went 87 = .ok (.istore_n 3, 1) := by decide +kernel
theorem dX12_went_88 : decode cX12_went 88 = .ok (.aload_n 0, 1) := by decide +kernel
theorem dX12_went_89 : decode cX12_went 89 = .ok (.aload_n 0, 1) := by decide +kernel
theorem dX12_went_90 : decode cX12_went 90 = .ok (.getfield 46, 3) := by decide +kernel
theorem dX12_went_93 : decode cX12_went 93 = .ok (.iload_n 1, 1) := by decide +kernel
theorem dX12_went_94 : decode cX12_went 94 = .ok (.iaload, 1) := by decide +kernel
theorem dX12_went_95 : decode cX12_went 95 = .ok (.aload_n 0, 1) := by decide +kernel
theorem dX12_went_96 : decode cX12_went 96 = .ok (.getfield 49, 3) := by decide +kernel
theorem dX12_went_99 : decode cX12_went 99 = .ok (.iload_n 1, 1) := by decide +kernel
theorem dX12_went_100 : decode cX12_went 100 = .ok (.iaload, 1) := by decide +kernel
theorem dX12_went_101 : decode cX12_went 101 = .ok (.iload_n 1, 1) := by decide +kernel
theorem dX12_went_102 : decode cX12_went 102 = .ok (.invokevirtual 467, 3) := by decide +kernel
theorem dX12_went_105 : decode cX12_went 105 = .ok (.iload_n 3, 1) := by decide +kernel
theorem dX12_went_106 : decode cX12_went 106 = .ok (.aload_n 0, 1) := by decide +kernel
theorem dX12_went_107 : decode cX12_went 107 = .ok (.invokevirtual 455, 3) := by decide +kernel
theorem dX12_went_110 : decode cX12_went 110 = .ok (.isub, 1) := by decide +kernel
theorem dX12_went_111 : decode cX12_went 111 = .ok (.ireturn, 1) := by decide +kernel
theorem dX12_growsBy_0 : decode cX12_growsBy 0 = .ok (.aload_n 0, 1) := by decide +kernel
theorem dX12_growsBy_1 : decode cX12_growsBy 1 = .ok (.iload_n 1, 1) := by decide +kernel
theorem dX12_growsBy_2 : decode cX12_growsBy 2 = .ok (.iload_n 2, 1) := by decide +kernel
theorem dX12_growsBy_3 : decode cX12_growsBy 3 = .ok (.invokevirtual 452, 3) := by decide +kernel
theorem dX12_growsBy_6 : decode cX12_growsBy 6 = .ok (.aload_n 0, 1) := by decide +kernel
theorem dX12_growsBy_7 : decode cX12_growsBy 7 = .ok (.getfield 74, 3) := by decide +kernel
theorem dX12_growsBy_10 : decode cX12_growsBy 10 = .ok (.sipush 200, 3) := by decide +kernel
theorem dX12_growsBy_13 : decode cX12_growsBy 13 = .ok (.iload_n 1, 1) := by decide +kernel
theorem dX12_growsBy_14 : decode cX12_growsBy 14 = .ok (.imul, 1) := by decide +kernel
theorem dX12_growsBy_15 : decode cX12_growsBy 15 = .ok (.iload_n 2, 1) := by decide +kernel
theorem dX12_growsBy_16 : decode cX12_growsBy 16 = .ok (.iadd, 1) := by decide +kernel
theorem dX12_growsBy_17 : decode cX12_growsBy 17 = .ok (.baload, 1) := by decide +kernel
theorem dX12_growsBy_18 : decode cX12_growsBy 18 = .ok (.ifCond .ne 12, 3) := by decide +kernel
theorem dX12_growsBy_21 : decode cX12_growsBy 21 = .ok (.aload_n 0, 1) := by decide +kernel
theorem dX12_growsBy_22 : decode cX12_growsBy 22 = .ok (.getfield 442, 3) := by decide +kernel
theorem dX12_growsBy_25 : decode cX12_growsBy 25 = .ok (.bipush 8, 2) := by decide +kernel
theorem dX12_growsBy_27 : decode cX12_growsBy 27 = .ok (.if_icmp .le 5, 3) := by decide +kernel
theorem dX12_growsBy_30 : decode cX12_growsBy 30 = .ok (.iconst (-1), 1) := by decide +kernel
theorem dX12_growsBy_31 : decode cX12_growsBy 31 = .ok (.ireturn, 1) := by decide +kernel
theorem dX12_growsBy_32 : decode cX12_growsBy 32 = .ok (.aload_n 0, 1) := by decide +kernel
theorem dX12_growsBy_33 : decode cX12_growsBy 33 = .ok (.iload_n 1, 1) := by decide +kernel
theorem dX12_growsBy_34 : decode cX12_growsBy 34 = .ok (.iload_n 3, 1) := by decide +kernel
theorem dX12_growsBy_35 : decode cX12_growsBy 35 = .ok (.iload_n 2, 1) := by decide +kernel
theorem dX12_growsBy_36 : decode cX12_growsBy 36 = .ok (.invokevirtual 346, 3) := by decide +kernel
theorem dX12_growsBy_39 : decode cX12_growsBy 39 = .ok (.ifCond .eq 5, 3) := by decide +kernel
theorem dX12_growsBy_42 : decode cX12_growsBy 42 = .ok (.iconst 0, 1) := by decide +kernel
theorem dX12_growsBy_43 : decode cX12_growsBy 43 = .ok (.ireturn, 1) := by decide +kernel
theorem dX12_growsBy_44 : decode cX12_growsBy 44 = .ok (.aload_n 0, 1) := by decide +kernel
theorem dX12_growsBy_45 : decode cX12_growsBy 45 = .ok (.getfield 442, 3) := by decide +kernel
theorem dX12_growsBy_48 : decode cX12_growsBy 48 = .ok (.bipush 8, 2) := by decide +kernel
theorem dX12_growsBy_50 : decode cX12_growsBy 50 = .ok (.if_icmp .ne 5, 3) := by decide +kernel
theorem dX12_growsBy_53 : decode cX12_growsBy 53 = .ok (.iconst (-1), 1) := by decide +kernel
theorem dX12_growsBy_54 : decode cX12_growsBy 54 = .ok (.ireturn, 1) := by decide +kernel
theorem dX12_growsBy_55 : decode cX12_growsBy 55 = .ok (.aload_n 0, 1) := by decide +kernel
theorem dX12_growsBy_56 : decode cX12_growsBy 56 = .ok (.invokevirtual 455, 3) := by decide +kernel
theorem dX12_growsBy_59 : decode cX12_growsBy 59 = .ok (.istore 5, 2) := by decide +kernel
theorem dX12_growsBy_61 : decode cX12_growsBy 61 = .ok (.aload_n 0, 1) := by decide +kernel
theorem dX12_growsBy_62 : decode cX12_growsBy 62 = .ok (.getfield 442, 3) := by decide +kernel
theorem dX12_growsBy_65 : decode cX12_growsBy 65 = .ok (.istore 6, 2) := by decide +kernel
theorem dX12_growsBy_67 : decode cX12_growsBy 67 = .ok (.iload 6, 2) := by decide +kernel
theorem dX12_growsBy_69 : decode cX12_growsBy 69 = .ok (.ifCond .le 41, 3) := by decide +kernel
theorem dX12_growsBy_72 : decode cX12_growsBy 72 = .ok (.aload_n 0, 1) := by decide +kernel
theorem dX12_growsBy_73 : decode cX12_growsBy 73 = .ok (.getfield 177, 3) := by decide +kernel
theorem dX12_growsBy_76 : decode cX12_growsBy 76 = .ok (.iload 6, 2) := by decide +kernel
theorem dX12_growsBy_78 : decode cX12_growsBy 78 = .ok (.iconst 1, 1) := by decide +kernel
theorem dX12_growsBy_79 : decode cX12_growsBy 79 = .ok (.isub, 1) := by decide +kernel
theorem dX12_growsBy_80 : decode cX12_growsBy 80 = .ok (.iaload, 1) := by decide +kernel
theorem dX12_growsBy_81 : decode cX12_growsBy 81 = .ok (.iload_n 3, 1) := by decide +kernel
theorem dX12_growsBy_82 : decode cX12_growsBy 82 = .ok (.if_icmp .le 28, 3) := by decide +kernel
theorem dX12_growsBy_85 : decode cX12_growsBy 85 = .ok (.aload_n 0, 1) := by decide +kernel
theorem dX12_growsBy_86 : decode cX12_growsBy 86 = .ok (.getfield 177, 3) := by decide +kernel
theorem dX12_growsBy_89 : decode cX12_growsBy 89 = .ok (.iload 6, 2) := by decide +kernel
theorem dX12_growsBy_91 : decode cX12_growsBy 91 = .ok (.aload_n 0, 1) := by decide +kernel
theorem dX12_growsBy_92 : decode cX12_growsBy 92 = .ok (.getfield 177, 3) := by decide +kernel
theorem dX12_growsBy_95 : decode cX12_growsBy 95 = .ok (.iload 6, 2) := by decide +kernel
theorem dX12_growsBy_97 : decode cX12_growsBy 97 = .ok (.iconst 1, 1) := by decide +kernel
theorem dX12_growsBy_98 : decode cX12_growsBy 98 = .ok (.isub, 1) := by decide +kernel
theorem dX12_growsBy_99 : decode cX12_growsBy 99 = .ok (.iaload, 1) := by decide +kernel
theorem dX12_growsBy_100 : decode cX12_growsBy 100 = .ok (.iastore, 1) := by decide +kernel
theorem dX12_growsBy_101 : decode cX12_growsBy 101 = .ok (.iload 6, 2) := by decide +kernel
theorem dX12_growsBy_103 : decode cX12_growsBy 103 = .ok (.iconst 1, 1) := by decide +kernel
theorem dX12_growsBy_104 : decode cX12_growsBy 104 = .ok (.isub, 1) := by decide +kernel
theorem dX12_growsBy_105 : decode cX12_growsBy 105 = .ok (.istore 6, 2) := by decide +kernel
theorem dX12_growsBy_107 : decode cX12_growsBy 107 = .ok (.goto (-40), 3) := by decide +kernel
theorem dX12_growsBy_110 : decode cX12_growsBy 110 = .ok (.aload_n 0, 1) := by decide +kernel
theorem dX12_growsBy_111 : decode cX12_growsBy 111 = .ok (.getfield 177, 3) := by decide +kernel
theorem dX12_growsBy_114 : decode cX12_growsBy 114 = .ok (.iload 6, 2) := by decide +kernel
theorem dX12_growsBy_116 : decode cX12_growsBy 116 = .ok (.iload_n 3, 1) := by decide +kernel
theorem dX12_growsBy_117 : decode cX12_growsBy 117 = .ok (.iastore, 1) := by decide +kernel
theorem dX12_growsBy_118 : decode cX12_growsBy 118 = .ok (.aload_n 0, 1) := by decide +kernel
theorem dX12_growsBy_119 : decode cX12_growsBy 119 = .ok (.aload_n 0, 1) := by decide +kernel
theorem dX12_growsBy_120 : decode cX12_growsBy 120 = .ok (.getfield 442, 3) := by decide +kernel
theorem dX12_growsBy_123 : decode cX12_growsBy 123 = .ok (.iconst 1, 1) := by decide +kernel
theorem dX12_growsBy_124 : decode cX12_growsBy 124 = .ok (.iadd, 1) := by decide +kernel
theorem dX12_growsBy_125 : decode cX12_growsBy 125 = .ok (.putfield 442, 3) := by decide +kernel
theorem dX12_growsBy_128 : decode cX12_growsBy 128 = .ok (.aload_n 0, 1) := by decide +kernel
theorem dX12_growsBy_129 : decode cX12_growsBy 129 = .ok (.invokevirtual 455, 3) := by decide +kernel
theorem dX12_growsBy_132 : decode cX12_growsBy 132 = .ok (.istore 7, 2) := by decide +kernel
theorem dX12_growsBy_134 : decode cX12_growsBy 134 = .ok (.iload 7, 2) := by decide +kernel
theorem dX12_growsBy_136 : decode cX12_growsBy 136 = .ok (.aload_n 0, 1) := by decide +kernel
theorem dX12_growsBy_137 : decode cX12_growsBy 137 = .ok (.getfield 183, 3) := by decide +kernel
theorem dX12_growsBy_140 : decode cX12_growsBy 140 = .ok (.imul, 1) := by decide +kernel
theorem dX12_growsBy_141 : decode cX12_growsBy 141 = .ok (.aload_n 0, 1) := by decide +kernel
theorem dX12_growsBy_142 : decode cX12_growsBy 142 = .ok (.invokevirtual 458, 3) := by decide +kernel
theorem dX12_growsBy_145 : decode cX12_growsBy 145 = .ok (.iadd, 1) := by decide +kernel
theorem dX12_growsBy_146 : decode cX12_growsBy 146 = .ok (.iload 4, 2) := by decide +kernel
theorem dX12_growsBy_148 : decode cX12_growsBy 148 = .ok (.if_icmp .le 7, 3) := by decide +kernel
theorem dX12_growsBy_151 : decode cX12_growsBy 151 = .ok (.iconst (-1), 1) := by decide +kernel
theorem dX12_growsBy_152 : decode cX12_growsBy 152 = .ok (.goto 8, 3) := by decide +kernel
theorem dX12_growsBy_155 : decode cX12_growsBy 155 = .ok (.iload 7, 2) := by decide +kernel
theorem dX12_growsBy_157 : decode cX12_growsBy 157 = .ok (.iload 5, 2) := by decide +kernel
theorem dX12_growsBy_159 : decode cX12_growsBy 159 = .ok (.isub, 1) := by decide +kernel
theorem dX12_growsBy_160 : decode cX12_growsBy 160 = .ok (.ireturn, 1) := by decide +kernel
theorem dX12_putsStop_0 : decode cX12_putsStop 0 = .ok (.iconst (-1), 1) := by decide +kernel
theorem dX12_putsStop_1 : decode cX12_putsStop 1 = .ok (.istore 5, 2) := by decide +kernel
theorem dX12_putsStop_3 : decode cX12_putsStop 3 = .ok (.aload_n 0, 1) := by decide +kernel
theorem dX12_putsStop_4 : decode cX12_putsStop 4 = .ok (.getfield 80, 3) := by decide +kernel
theorem dX12_putsStop_7 : decode cX12_putsStop 7 = .ok (.iload_n 1, 1) := by decide +kernel
theorem dX12_putsStop_8 : decode cX12_putsStop 8 = .ok (.iconst (-1), 1) := by decide +kernel
theorem dX12_putsStop_9 : decode cX12_putsStop 9 = .ok (.iastore, 1) := by decide +kernel
theorem dX12_putsStop_10 : decode cX12_putsStop 10 = .ok (.iload_n 2, 1) := by decide +kernel
theorem dX12_putsStop_11 : decode cX12_putsStop 11 = .ok (.iconst 1, 1) := by decide +kernel
theorem dX12_putsStop_12 : decode cX12_putsStop 12 = .ok (.iadd, 1) := by decide +kernel
theorem dX12_putsStop_13 : decode cX12_putsStop 13 = .ok (.istore 6, 2) := by decide +kernel
theorem dX12_putsStop_15 : decode cX12_putsStop 15 = .ok (.iload 6, 2) := by decide +kernel
theorem dX12_putsStop_17 : decode cX12_putsStop 17 = .ok (.iload_n 2, 1) := by decide +kernel
theorem dX12_putsStop_18 : decode cX12_putsStop 18 = .ok (.iload_n 3, 1) := by decide +kernel
theorem dX12_putsStop_19 : decode cX12_putsStop 19 = .ok (.iadd, 1) := by decide +kernel
theorem dX12_putsStop_20 : decode cX12_putsStop 20 = .ok (.if_icmp .gt 87, 3) := by decide +kernel
theorem dX12_putsStop_23 : decode cX12_putsStop 23 = .ok (.iload 6, 2) := by decide +kernel
theorem dX12_putsStop_25 : decode cX12_putsStop 25 = .ok (.sipush 199, 3) := by decide +kernel
theorem dX12_putsStop_28 : decode cX12_putsStop 28 = .ok (.if_icmp .gt 79, 3) := by decide +kernel
theorem dX12_putsStop_31 : decode cX12_putsStop 31 = .ok (.iconst 0, 1) := by decide +kernel
theorem dX12_putsStop_32 : decode cX12_putsStop 32 = .ok (.istore 7, 2) := by decide +kernel
theorem dX12_putsStop_34 : decode cX12_putsStop 34 = .ok (.iload 7, 2) := by decide +kernel
theorem dX12_putsStop_36 : decode cX12_putsStop 36 = .ok (.iconst 3, 1) := by decide +kernel
theorem dX12_putsStop_37 : decode cX12_putsStop 37 = .ok (.if_icmp .ge 64, 3) := by decide +kernel
theorem dX12_putsStop_40 : decode cX12_putsStop 40 = .ok (.aload_n 0, 1) := by decide +kernel
theorem dX12_putsStop_41 : decode cX12_putsStop 41 = .ok (.iload 7, 2) := by decide +kernel
theorem dX12_putsStop_43 : decode cX12_putsStop 43 = .ok (.iload 6, 2) := by decide +kernel
theorem dX12_putsStop_45 : decode cX12_putsStop 45 = .ok (.iload_n 1, 1) := by decide +kernel
theorem dX12_putsStop_46 : decode cX12_putsStop 46 = .ok (.iload 4, 2) := by decide +kernel
theorem dX12_putsStop_48 : decode cX12_putsStop 48 = .ok (.invokevirtual 470, 3) := by decide +kernel
theorem dX12_putsStop_51 : decode cX12_putsStop 51 = .ok (.istore 8, 2) := by decide +kernel
theorem dX12_putsStop_53 : decode cX12_putsStop 53 = .ok (.iload 8, 2) := by decide +kernel
theorem dX12_putsStop_55 : decode cX12_putsStop 55 = .ok (.iconst (-1), 1) := by decide +kernel
theorem dX12_putsStop_56 : decode cX12_putsStop 56 = .ok (.if_icmp .eq 39, 3) := by decide +kernel
theorem dX12_putsStop_59 : decode cX12_putsStop 59 = .ok (.iload 5, 2) := by decide +kernel
theorem dX12_putsStop_61 : decode cX12_putsStop 61 = .ok (.iconst (-1), 1) := by decide +kernel
theorem dX12_putsStop_62 : decode cX12_putsStop 62 = .ok (.if_icmp .eq 13, 3) := by decide +kernel
theorem dX12_putsStop_65 : decode cX12_putsStop 65 = .ok (.iload 8, 2) := by decide +kernel
theorem dX12_putsStop_67 : decode cX12_putsStop 67 = .ok (.iload 5, 2) := by decide +kernel
theorem dX12_putsStop_69 : decode cX12_putsStop 69 = .ok (.if_icmp .lt 6, 3) := by decide +kernel
theorem dX12_putsStop_72 : decode cX12_putsStop 72 = .ok (.goto 23, 3) := by decide +kernel
theorem dX12_putsStop_75 : decode cX12_putsStop 75 = .ok (.iload 8, 2) := by decide +kernel
theorem dX12_putsStop_77 : decode cX12_putsStop 77 = .ok (.istore 5, 2) := by decide +kernel
theorem dX12_putsStop_79 : decode cX12_putsStop 79 = .ok (.aload_n 0, 1) := by decide +kernel
theorem dX12_putsStop_80 : decode cX12_putsStop 80 = .ok (.getfield 80, 3) := by decide +kernel
theorem dX12_putsStop_83 : decode cX12_putsStop 83 = .ok (.iload_n 1, 1) := by decide +kernel
theorem dX12_putsStop_84 : decode cX12_putsStop 84 = .ok (.iload 6, 2) := by decide +kernel
theorem dX12_putsStop_86 : decode cX12_putsStop 86 = .ok (.iastore, 1) := by decide +kernel
theorem dX12_putsStop_87 : decode cX12_putsStop 87 = .ok (.aload_n 0, 1) := by decide +kernel
theorem dX12_putsStop_88 : decode cX12_putsStop 88 = .ok (.getfield 83, 3) := by decide +kernel
theorem dX12_putsStop_91 : decode cX12_putsStop 91 = .ok (.iload_n 1, 1) := by decide +kernel
theorem dX12_putsStop_92 : decode cX12_putsStop 92 = .ok (.iload 7, 2) := by decide +kernel
theorem dX12_putsStop_94 : decode cX12_putsStop 94 = .ok (.iastore, 1) := by decide +kernel
theorem dX12_putsStop_95 : decode cX12_putsStop 95 = .ok (.iinc 7 1, 3) := by decide +kernel
theorem dX12_putsStop_98 : decode cX12_putsStop 98 = .ok (.goto (-64), 3) := by decide +kernel
theorem dX12_putsStop_101 : decode cX12_putsStop 101 = .ok (.iinc 6 1, 3) := by decide +kernel
theorem dX12_putsStop_104 : decode cX12_putsStop 104 = .ok (.goto (-89), 3) := by decide +kernel
theorem dX12_putsStop_107 : decode cX12_putsStop 107 = .ok (.iload 5, 2) := by decide +kernel
theorem dX12_putsStop_109 : decode cX12_putsStop 109 = .ok (.iconst (-1), 1) := by decide +kernel
theorem dX12_putsStop_110 : decode cX12_putsStop 110 = .ok (.if_icmp .ne 5, 3) := by decide +kernel
theorem dX12_putsStop_113 : decode cX12_putsStop 113 = .ok (.iconst 0, 1) := by decide +kernel
theorem dX12_putsStop_114 : decode cX12_putsStop 114 = .ok (.ireturn, 1) := by decide +kernel
theorem dX12_putsStop_115 : decode cX12_putsStop 115 = .ok (.aload_n 0, 1) := by decide +kernel
theorem dX12_putsStop_116 : decode cX12_putsStop 116 = .ok (.getfield 77, 3) := by decide +kernel
theorem dX12_putsStop_119 : decode cX12_putsStop 119 = .ok (.aload_n 0, 1) := by decide +kernel
theorem dX12_putsStop_120 : decode cX12_putsStop 120 = .ok (.getfield 83, 3) := by decide +kernel
theorem dX12_putsStop_123 : decode cX12_putsStop 123 = .ok (.iload_n 1, 1) := by decide +kernel
theorem dX12_putsStop_124 : decode cX12_putsStop 124 = .ok (.iaload, 1) := by decide +kernel
theorem dX12_putsStop_125 : decode cX12_putsStop 125 = .ok (.aload_n 0, 1) := by decide +kernel
theorem dX12_putsStop_126 : decode cX12_putsStop 126 = .ok (.getfield 80, 3) := by decide +kernel
theorem dX12_putsStop_129 : decode cX12_putsStop 129 = .ok (.iload_n 1, 1) := by decide +kernel
theorem dX12_putsStop_130 : decode cX12_putsStop 130 = .ok (.iaload, 1) := by decide +kernel
theorem dX12_putsStop_131 : decode cX12_putsStop 131 = .ok (.iload_n 1, 1) := by decide +kernel
theorem dX12_putsStop_132 : decode cX12_putsStop 132 = .ok (.invokestatic 343, 3) := by decide +kernel
theorem dX12_putsStop_135 : decode cX12_putsStop 135 = .ok (.iconst 1, 1) := by decide +kernel
theorem dX12_putsStop_136 : decode cX12_putsStop 136 = .ok (.bastore, 1) := by decide +kernel
theorem dX12_putsStop_137 : decode cX12_putsStop 137 = .ok (.iconst 1, 1) := by decide +kernel
theorem dX12_putsStop_138 : decode cX12_putsStop 138 = .ok (.ireturn, 1) := by decide +kernel
theorem dX12_lostDay_0 : decode cX12_lostDay 0 = .ok (.iload_n 1, 1) := by decide +kernel
theorem dX12_lostDay_1 : decode cX12_lostDay 1 = .ok (.invokestatic 203, 3) := by decide +kernel
theorem dX12_lostDay_4 : decode cX12_lostDay 4 = .ok (.ifCond .eq 54, 3) := by decide +kernel
theorem dX12_lostDay_7 : decode cX12_lostDay 7 = .ok (.iload_n 2, 1) := by decide +kernel
theorem dX12_lostDay_8 : decode cX12_lostDay 8 = .ok (.aload_n 0, 1) := by decide +kernel
theorem dX12_lostDay_9 : decode cX12_lostDay 9 = .ok (.getfield 196, 3) := by decide +kernel
theorem dX12_lostDay_12 : decode cX12_lostDay 12 = .ok (.sipush 199, 3) := by decide +kernel
theorem dX12_lostDay_15 : decode cX12_lostDay 15 = .ok (.invokestatic 199, 3) := by decide +kernel
theorem dX12_lostDay_18 : decode cX12_lostDay 18 = .ok (.ifCond .eq 40, 3) := by decide +kernel
theorem dX12_lostDay_21 : decode cX12_lostDay 21 = .ok (.iload_n 3, 1) := by decide +kernel
theorem dX12_lostDay_22 : decode cX12_lostDay 22 = .ok (.iconst 1, 1) := by decide +kernel
theorem dX12_lostDay_23 : decode cX12_lostDay 23 = .ok (.bipush 28, 2) := by decide +kernel
theorem dX12_lostDay_25 : decode cX12_lostDay 25 = .ok (.invokestatic 199, 3) := by decide +kernel
theorem dX12_lostDay_28 : decode cX12_lostDay 28 = .ok (.ifCond .eq 30, 3) := by decide +kernel
theorem dX12_lostDay_31 : decode cX12_lostDay 31 = .ok (.iload 4, 2) := by decide +kernel
theorem dX12_lostDay_33 : decode cX12_lostDay 33 = .ok (.iconst 1, 1) := by decide +kernel
theorem dX12_lostDay_34 : decode cX12_lostDay 34 = .ok (.sipush 1000, 3) := by decide +kernel
theorem dX12_lostDay_37 : decode cX12_lostDay 37 = .ok (.invokestatic 199, 3) := by decide +kernel
theorem dX12_lostDay_40 : decode cX12_lostDay 40 = .ok (.ifCond .eq 18, 3) := by decide +kernel
theorem dX12_lostDay_43 : decode cX12_lostDay 43 = .ok (.aload_n 0, 1) := by decide +kernel
theorem dX12_lostDay_44 : decode cX12_lostDay 44 = .ok (.getfield 74, 3) := by decide +kernel
theorem dX12_lostDay_47 : decode cX12_lostDay 47 = .ok (.sipush 200, 3) := by decide +kernel
theorem dX12_lostDay_50 : decode cX12_lostDay 50 = .ok (.iload_n 1, 1) := by decide +kernel
theorem dX12_lostDay_51 : decode cX12_lostDay 51 = .ok (.imul, 1) := by decide +kernel
theorem dX12_lostDay_52 : decode cX12_lostDay 52 = .ok (.iload_n 2, 1) := by decide +kernel
theorem dX12_lostDay_53 : decode cX12_lostDay 53 = .ok (.iadd, 1) := by decide +kernel
theorem dX12_lostDay_54 : decode cX12_lostDay 54 = .ok (.baload, 1) := by decide +kernel
theorem dX12_lostDay_55 : decode cX12_lostDay 55 = .ok (.ifCond .eq 5, 3) := by decide +kernel
theorem dX12_lostDay_58 : decode cX12_lostDay 58 = .ok (.iconst (-1), 1) := by decide +kernel
theorem dX12_lostDay_59 : decode cX12_lostDay 59 = .ok (.ireturn, 1) := by decide +kernel
theorem dX12_lostDay_60 : decode cX12_lostDay 60 = .ok (.iconst 0, 1) := by decide +kernel
theorem dX12_lostDay_61 : decode cX12_lostDay 61 = .ok (.istore 5, 2) := by decide +kernel
theorem dX12_lostDay_63 : decode cX12_lostDay 63 = .ok (.iconst 0, 1) := by decide +kernel
theorem dX12_lostDay_64 : decode cX12_lostDay 64 = .ok (.istore 6, 2) := by decide +kernel
theorem dX12_lostDay_66 : decode cX12_lostDay 66 = .ok (.iload 6, 2) := by decide +kernel
theorem dX12_lostDay_68 : decode cX12_lostDay 68 = .ok (.aload_n 0, 1) := by decide +kernel
theorem dX12_lostDay_69 : decode cX12_lostDay 69 = .ok (.getfield 190, 3) := by decide +kernel
theorem dX12_lostDay_72 : decode cX12_lostDay 72 = .ok (.if_icmp .ge 34, 3) := by decide +kernel
theorem dX12_lostDay_75 : decode cX12_lostDay 75 = .ok (.aload_n 0, 1) := by decide +kernel
theorem dX12_lostDay_76 : decode cX12_lostDay 76 = .ok (.iload_n 1, 1) := by decide +kernel
theorem dX12_lostDay_77 : decode cX12_lostDay 77 = .ok (.iload 6, 2) := by decide +kernel
theorem dX12_lostDay_79 : decode cX12_lostDay 79 = .ok (.iload_n 2, 1) := by decide +kernel
theorem dX12_lostDay_80 : decode cX12_lostDay 80 = .ok (.invokevirtual 346, 3) := by decide +kernel
theorem dX12_lostDay_83 : decode cX12_lostDay 83 = .ok (.ifCond .eq 13, 3) := by decide +kernel
theorem dX12_lostDay_86 : decode cX12_lostDay 86 = .ok (.iload 5, 2) := by decide +kernel
theorem dX12_lostDay_88 : decode cX12_lostDay 88 = .ok (.iconst 1, 1) := by decide +kernel
theorem dX12_lostDay_89 : decode cX12_lostDay 89 = .ok (.iload 6, 2) := by decide +kernel
theorem dX12_lostDay_91 : decode cX12_lostDay 91 = .ok (.ishl, 1) := by decide +kernel
theorem dX12_lostDay_92 : decode cX12_lostDay 92 = .ok (.ior, 1) := by decide +kernel
theorem dX12_lostDay_93 : decode cX12_lostDay 93 = .ok (.goto 5, 3) := by decide +kernel
theorem dX12_lostDay_96 : decode cX12_lostDay 96 = .ok (.iload 5, 2) := by decide +kernel
theorem dX12_lostDay_98 : decode cX12_lostDay 98 = .ok (.istore 5, 2) := by decide +kernel
theorem dX12_lostDay_100 : decode cX12_lostDay 100 = .ok (.iinc 6 1, 3) := by decide +kernel
theorem dX12_lostDay_103 : decode cX12_lostDay 103 = .ok (.goto (-37), 3) := by decide +kernel
theorem dX12_lostDay_106 : decode cX12_lostDay 106 = .ok (.aload_n 0, 1) := by decide +kernel
theorem dX12_lostDay_107 : decode cX12_lostDay 107 = .ok (.getfield 74, 3) := by decide +kernel
theorem dX12_lostDay_110 : decode cX12_lostDay 110 = .ok (.sipush 200, 3) := by decide +kernel
theorem dX12_lostDay_113 : decode cX12_lostDay 113 = .ok (.iload_n 1, 1) := by decide +kernel
theorem dX12_lostDay_114 : decode cX12_lostDay 114 = .ok (.imul, 1) := by decide +kernel
theorem dX12_lostDay_115 : decode cX12_lostDay 115 = .ok (.iload_n 2, 1) := by decide +kernel
theorem dX12_lostDay_116 : decode cX12_lostDay 116 = .ok (.iadd, 1) := by decide +kernel
theorem dX12_lostDay_117 : decode cX12_lostDay 117 = .ok (.iconst 1, 1) := by decide +kernel
theorem dX12_lostDay_118 : decode cX12_lostDay 118 = .ok (.bastore, 1) := by decide +kernel
theorem dX12_lostDay_119 : decode cX12_lostDay 119 = .ok (.aload_n 0, 1) := by decide +kernel
theorem dX12_lostDay_120 : decode cX12_lostDay 120 = .ok (.aload_n 0, 1) := by decide +kernel
theorem dX12_lostDay_121 : decode cX12_lostDay 121 = .ok (.getfield 473, 3) := by decide +kernel
theorem dX12_lostDay_124 : decode cX12_lostDay 124 = .ok (.iconst 1, 1) := by decide +kernel
theorem dX12_lostDay_125 : decode cX12_lostDay 125 = .ok (.iadd, 1) := by decide +kernel
theorem dX12_lostDay_126 : decode cX12_lostDay 126 = .ok (.putfield 473, 3) := by decide +kernel
theorem dX12_lostDay_129 : decode cX12_lostDay 129 = .ok (.iconst 0, 1) := by decide +kernel
theorem dX12_lostDay_130 : decode cX12_lostDay 130 = .ok (.istore 6, 2) := by decide +kernel
theorem dX12_lostDay_132 : decode cX12_lostDay 132 = .ok (.iconst 0, 1) := by decide +kernel
theorem dX12_lostDay_133 : decode cX12_lostDay 133 = .ok (.istore 7, 2) := by decide +kernel
theorem dX12_lostDay_135 : decode cX12_lostDay 135 = .ok (.iload 7, 2) := by decide +kernel
theorem dX12_lostDay_137 : decode cX12_lostDay 137 = .ok (.aload_n 0, 1) := by decide +kernel
theorem dX12_lostDay_138 : decode cX12_lostDay 138 = .ok (.getfield 190, 3) := by decide +kernel
theorem dX12_lostDay_141 : decode cX12_lostDay 141 = .ok (.if_icmp .ge 39, 3) := by decide +kernel
theorem dX12_lostDay_144 : decode cX12_lostDay 144 = .ok (.iload 5, 2) := by decide +kernel
theorem dX12_lostDay_146 : decode cX12_lostDay 146 = .ok (.iload 7, 2) := by decide +kernel
theorem dX12_lostDay_148 : decode cX12_lostDay 148 = .ok (.ishr, 1) := by decide +kernel
theorem dX12_lostDay_149 : decode cX12_lostDay 149 = .ok (.iconst 1, 1) := by decide +kernel
theorem dX12_lostDay_150 : decode cX12_lostDay 150 = .ok (.iand, 1) := by decide +kernel
theorem dX12_lostDay_151 : decode cX12_lostDay 151 = .ok (.iconst 1, 1) := by decide +kernel
theorem dX12_lostDay_152 : decode cX12_lostDay 152 = .ok (.if_icmp .ne 22, 3) := by decide +kernel
theorem dX12_lostDay_155 : decode cX12_lostDay 155 = .ok (.aload_n 0, 1) := by decide +kernel
theorem dX12_lostDay_156 : decode cX12_lostDay 156 = .ok (.iload 7, 2) := by decide +kernel
theorem dX12_lostDay_158 : decode cX12_lostDay 158 = .ok (.iload_n 2, 1) := by decide +kernel
theorem dX12_lostDay_159 : decode cX12_lostDay 159 = .ok (.iload_n 3, 1) := by decide +kernel
theorem dX12_lostDay_160 : decode cX12_lostDay 160 = .ok (.iload 4, 2) := by decide +kernel
theorem dX12_lostDay_162 : decode cX12_lostDay 162 = .ok (.invokevirtual 476, 3) := by decide +kernel
theorem dX12_lostDay_165 : decode cX12_lostDay 165 = .ok (.ifCond .eq 9, 3) := by decide +kernel
theorem dX12_lostDay_168 : decode cX12_lostDay 168 = .ok (.iload 6, 2) := by decide +kernel
theorem dX12_lostDay_170 : decode cX12_lostDay 170 = .ok (.iconst 1, 1) := by decide +kernel
theorem dX12_lostDay_171 : decode cX12_lostDay 171 = .ok (.iadd, 1) := by decide +kernel
theorem dX12_lostDay_172 : decode cX12_lostDay 172 = .ok (.istore 6, 2) := by decide +kernel
theorem dX12_lostDay_174 : decode cX12_lostDay 174 = .ok (.iinc 7 1, 3) := by decide +kernel
theorem dX12_lostDay_177 : decode cX12_lostDay 177 = .ok (.goto (-42), 3) := by decide +kernel
theorem dX12_lostDay_180 : decode cX12_lostDay 180 = .ok (.iload 6, 2) := by decide +kernel
theorem dX12_lostDay_182 : decode cX12_lostDay 182 = .ok (.ireturn, 1) := by decide +kernel
theorem dX12_put_0 : decode cX12_put 0 = .ok (.aload_n 0, 1) := by decide +kernel
theorem dX12_put_1 : decode cX12_put 1 = .ok (.iload_n 1, 1) := by decide +kernel
theorem dX12_put_2 : decode cX12_put 2 = .ok (.invokevirtual 211, 3) := by decide +kernel
theorem dX12_put_5 : decode cX12_put 5 = .ok (.ifCond .eq 22, 3) := by decide +kernel
theorem dX12_put_8 : decode cX12_put 8 = .ok (.iload_n 2, 1) := by decide +kernel
theorem dX12_put_9 : decode cX12_put 9 = .ok (.iconst 0, 1) := by decide +kernel
theorem dX12_put_10 : decode cX12_put 10 = .ok (.iconst 1, 1) := by decide +kernel
theorem dX12_put_11 : decode cX12_put 11 = .ok (.invokestatic 199, 3) := by decide +kernel
theorem dX12_put_14 : decode cX12_put 14 = .ok (.ifCond .eq 13, 3) := by decide +kernel
theorem dX12_put_17 : decode cX12_put 17 = .ok (.aload_n 0, 1) := by decide +kernel
theorem dX12_put_18 : decode cX12_put 18 = .ok (.getfield 80, 3) := by decide +kernel
theorem dX12_put_21 : decode cX12_put 21 = .ok (.iload_n 1, 1) := by decide +kernel
theorem dX12_put_22 : decode cX12_put 22 = .ok (.iaload, 1) := by decide +kernel
theorem dX12_put_23 : decode cX12_put 23 = .ok (.iconst (-1), 1) := by decide +kernel
theorem dX12_put_24 : decode cX12_put 24 = .ok (.if_icmp .ne 7, 3) := by decide +kernel
theorem dX12_put_27 : decode cX12_put 27 = .ok (.iconst (-1), 1) := by decide +kernel
theorem dX12_put_28 : decode cX12_put 28 = .ok (.goto 22, 3) := by decide +kernel
theorem dX12_put_31 : decode cX12_put 31 = .ok (.iload_n 2, 1) := by decide +kernel
theorem dX12_put_32 : decode cX12_put 32 = .ok (.ifCond .ne 12, 3) := by decide +kernel
theorem dX12_put_35 : decode cX12_put 35 = .ok (.aload_n 0, 1) := by decide +kernel
theorem dX12_put_36 : decode cX12_put 36 = .ok (.getfield 80, 3) := by decide +kernel
theorem dX12_put_39 : decode cX12_put 39 = .ok (.iload_n 1, 1) := by decide +kernel
theorem dX12_put_40 : decode cX12_put 40 = .ok (.iaload, 1) := by decide +kernel
theorem dX12_put_41 : decode cX12_put 41 = .ok (.goto 9, 3) := by decide +kernel
theorem dX12_put_44 : decode cX12_put 44 = .ok (.aload_n 0, 1) := by decide +kernel
theorem dX12_put_45 : decode cX12_put 45 = .ok (.getfield 83, 3) := by decide +kernel
theorem dX12_put_48 : decode cX12_put 48 = .ok (.iload_n 1, 1) := by decide +kernel
theorem dX12_put_49 : decode cX12_put 49 = .ok (.iaload, 1) := by decide +kernel
theorem dX12_put_50 : decode cX12_put 50 = .ok (.ireturn, 1) := by decide +kernel
theorem dX12_knownIn_0 : decode cX12_knownIn 0 = .ok (.iload_n 1, 1) := by decide +kernel
theorem dX12_knownIn_1 : decode cX12_knownIn 1 = .ok (.iconst 0, 1) := by decide +kernel
theorem dX12_knownIn_2 : decode cX12_knownIn 2 = .ok (.bipush 20, 2) := by decide +kernel
theorem dX12_knownIn_4 : decode cX12_knownIn 4 = .ok (.invokestatic 199, 3) := by decide +kernel
theorem dX12_knownIn_7 : decode cX12_knownIn 7 = .ok (.ifCond .ne 5, 3) := by decide +kernel
theorem dX12_knownIn_10 : decode cX12_knownIn 10 = .ok (.iconst 0, 1) := by decide +kernel
theorem dX12_knownIn_11 : decode cX12_knownIn 11 = .ok (.ireturn, 1) := by decide +kernel
theorem dX12_knownIn_12 : decode cX12_knownIn 12 = .ok (.aload_n 0, 1) := by decide +kernel
theorem dX12_knownIn_13 : decode cX12_knownIn 13 = .ok (.iload_n 1, 1) := by decide +kernel
theorem dX12_knownIn_14 : decode cX12_knownIn 14 = .ok (.putfield 355, 3) := by decide +kernel
theorem dX12_knownIn_17 : decode cX12_knownIn 17 = .ok (.iconst 1, 1) := by decide +kernel
theorem dX12_knownIn_18 : decode cX12_knownIn 18 = .ok (.ireturn, 1) := by decide +kernel
theorem dX12_where_0 : decode cX12_where 0 = .ok (.aload_n 0, 1) := by decide +kernel
theorem dX12_where_1 : decode cX12_where 1 = .ok (.iload_n 1, 1) := by decide +kernel
theorem dX12_where_2 : decode cX12_where 2 = .ok (.invokevirtual 217, 3) := by decide +kernel
theorem dX12_where_5 : decode cX12_where 5 = .ok (.ifCond .eq 26, 3) := by decide +kernel
theorem dX12_where_8 : decode cX12_where 8 = .ok (.iload_n 2, 1) := by decide +kernel
theorem dX12_where_9 : decode cX12_where 9 = .ok (.iconst 0, 1) := by decide +kernel
theorem dX12_where_10 : decode cX12_where 10 = .ok (.aload_n 0, 1) := by decide +kernel
theorem dX12_where_11 : decode cX12_where 11 = .ok (.getfield 196, 3) := by decide +kernel
theorem dX12_where_14 : decode cX12_where 14 = .ok (.invokestatic 199, 3) := by decide +kernel
theorem dX12_where_17 : decode cX12_where 17 = .ok (.ifCond .eq 14, 3) := by decide +kernel
theorem dX12_where_20 : decode cX12_where 20 = .ok (.iload_n 3, 1) := by decide +kernel
theorem dX12_where_21 : decode cX12_where 21 = .ok (.iload_n 2, 1) := by decide +kernel
theorem dX12_where_22 : decode cX12_where 22 = .ok (.sipush 199, 3) := by decide +kernel
theorem dX12_where_25 : decode cX12_where 25 = .ok (.invokestatic 199, 3) := by decide +kernel
theorem dX12_where_28 : decode cX12_where 28 = .ok (.ifCond .ne 5, 3) := by decide +kernel
theorem dX12_where_31 : decode cX12_where 31 = .ok (.iconst (-1), 1) := by decide +kernel
theorem dX12_where_32 : decode cX12_where 32 = .ok (.ireturn, 1) := by decide +kernel
theorem dX12_where_33 : decode cX12_where 33 = .ok (.iconst 0, 1) := by decide +kernel
theorem dX12_where_34 : decode cX12_where 34 = .ok (.istore 4, 2) := by decide +kernel
theorem dX12_where_36 : decode cX12_where 36 = .ok (.iconst 0, 1) := by decide +kernel
theorem dX12_where_37 : decode cX12_where 37 = .ok (.istore 5, 2) := by decide +kernel
theorem dX12_where_39 : decode cX12_where 39 = .ok (.iload 5, 2) := by decide +kernel
theorem dX12_where_41 : decode cX12_where 41 = .ok (.aload_n 0, 1) := by decide +kernel
theorem dX12_where_42 : decode cX12_where 42 = .ok (.getfield 352, 3) := by decide +kernel
theorem dX12_where_45 : decode cX12_where 45 = .ok (.if_icmp .ge 51, 3) := by decide +kernel
theorem dX12_where_48 : decode cX12_where 48 = .ok (.aload_n 0, 1) := by decide +kernel
theorem dX12_where_49 : decode cX12_where 49 = .ok (.getfield 141, 3) := by decide +kernel
theorem dX12_where_52 : decode cX12_where 52 = .ok (.iload 5, 2) := by decide +kernel
theorem dX12_where_54 : decode cX12_where 54 = .ok (.iaload, 1) := by decide +kernel
theorem dX12_where_55 : decode cX12_where 55 = .ok (.iload_n 1, 1) := by decide +kernel
theorem dX12_where_56 : decode cX12_where 56 = .ok (.if_icmp .ne 34, 3) := by decide +kernel
theorem dX12_where_59 : decode cX12_where 59 = .ok (.aload_n 0, 1) := by decide +kernel
theorem dX12_where_60 : decode cX12_where 60 = .ok (.getfield 144, 3) := by decide +kernel
theorem dX12_where_63 : decode cX12_where 63 = .ok (.iload 5, 2) := by decide +kernel
theorem dX12_where_65 : decode cX12_where 65 = .ok (.iaload, 1) := by decide +kernel
theorem dX12_where_66 : decode cX12_where 66 = .ok (.iload_n 2, 1) := by decide +kernel
theorem dX12_where_67 : decode cX12_where 67 = .ok (.if_icmp .gt 23, 3) := by decide +kernel
theorem dX12_where_70 : decode cX12_where 70 = .ok (.aload_n 0, 1) := by decide +kernel
theorem dX12_where_71 : decode cX12_where 71 = .ok (.getfield 147, 3) := by decide +kernel
theorem dX12_where_74 : decode cX12_where 74 = .ok (.iload 5, 2) := by decide +kernel
theorem dX12_where_76 : decode cX12_where 76 = .ok (.iaload, 1) := by decide +kernel
theorem dX12_where_77 : decode cX12_where 77 = .ok (.iload_n 3, 1) := by decide +kernel
theorem dX12_where_78 : decode cX12_where 78 = .ok (.if_icmp .gt 12, 3) := by decide +kernel
theorem dX12_where_81 : decode cX12_where 81 = .ok (.aload_n 0, 1) := by decide +kernel
theorem dX12_where_82 : decode cX12_where 82 = .ok (.getfield 150, 3) := by decide +kernel
theorem dX12_where_85 : decode cX12_where 85 = .ok (.iload 5, 2) := by decide +kernel
theorem dX12_where_87 : decode cX12_where 87 = .ok (.iaload, 1) := by decide +kernel
theorem dX12_where_88 : decode cX12_where 88 = .ok (.istore 4, 2) := by decide +kernel
theorem dX12_where_90 : decode cX12_where 90 = .ok (.iinc 5 1, 3) := by decide +kernel
theorem dX12_where_93 : decode cX12_where 93 = .ok (.goto (-54), 3) := by decide +kernel
theorem dX12_where_96 : decode cX12_where 96 = .ok (.iload 4, 2) := by decide +kernel
theorem dX12_where_98 : decode cX12_where 98 = .ok (.ireturn, 1) := by decide +kernel
theorem dX12_borrowersOf_0 : decode cX12_borrowersOf 0 = .ok (.iconst 0, 1) := by decide +kernel
theorem dX12_borrowersOf_1 : decode cX12_borrowersOf 1 = .ok (.istore_n 2, 1) := by decide +kernel
theorem dX12_borrowersOf_2 : decode cX12_borrowersOf 2 = .ok (.iconst 0, 1) := by decide +kernel
theorem dX12_borrowersOf_3 : decode cX12_borrowersOf 3 = .ok (.istore_n 3, 1) := by decide +kernel
theorem dX12_borrowersOf_4 : decode cX12_borrowersOf 4 = .ok (.iload_n 3, 1) := by decide +kernel
theorem dX12_borrowersOf_5 : decode cX12_borrowersOf 5 = .ok (.aload_n 0, 1) := by decide +kernel
theorem dX12_borrowersOf_6 : decode cX12_borrowersOf 6 = .ok (.getfield 193, 3) := by decide +kernel
theorem dX12_borrowersOf_9 : decode cX12_borrowersOf 9 = .ok (.if_icmp .ge 36, 3) := by decide +kernel
theorem dX12_borrowersOf_12 : decode cX12_borrowersOf 12 = .ok (.iload_n 2, 1) := by decide +kernel
theorem dX12_borrowersOf_13 : decode cX12_borrowersOf 13 = .ok (.aload_n 0, 1) := by decide +kernel
theorem dX12_borrowersOf_14 : decode cX12_borrowersOf 14 = .ok (.getfield 52, 3) := by decide +kernel
theorem dX12_borrowersOf_17 : decode cX12_borrowersOf 17 = .ok (.iload_n 3, 1) := by decide +kernel
theorem dX12_borrowersOf_18 : decode cX12_borrowersOf 18 = .ok (.iaload, 1) := by decide +kernel
theorem dX12_borrowersOf_19 : decode cX12_borrowersOf 19 = .ok (.iload_n 1, 1) := by decide +kernel
theorem dX12_borrowersOf_20 : decode cX12_borrowersOf 20 = .ok (.if_icmp .ne 16, 3) := by decide +kernel
theorem dX12_borrowersOf_23 : decode cX12_borrowersOf 23 = .ok (.aload_n 0, 1) := by decide +kernel
theorem dX12_borrowersOf_24 : decode cX12_borrowersOf 24 = .ok (.getfield 64, 3) := by decide +kernel
theorem dX12_borrowersOf_27 : decode cX12_borrowersOf 27 = .ok (.iload_n 3, 1) := by decide +kernel
theorem dX12_borrowersOf_28 : decode cX12_borrowersOf 28 = .ok (.iaload, 1) := by decide +kernel
theorem dX12_borrowersOf_29 : decode cX12_borrowersOf 29 = .ok (.ifCond .le 7, 3) := by decide +kernel
theorem dX12_borrowersOf_32 : decode cX12_borrowersOf 32 = .ok (.iconst 1, 1) := by decide +kernel
theorem dX12_borrowersOf_33 : decode cX12_borrowersOf 33 = .ok (.goto 4, 3) := by decide +kernel
theorem dX12_borrowersOf_36 : decode cX12_borrowersOf 36 = .ok (.iconst 0, 1) := by decide +kernel
theorem dX12_borrowersOf_37 : decode cX12_borrowersOf 37 = .ok (.iadd, 1) := by decide +kernel
theorem dX12_borrowersOf_38 : decode cX12_borrowersOf 38 = .ok (.istore_n 2, 1) := by decide +kernel
theorem dX12_borrowersOf_39 : decode cX12_borrowersOf 39 = .ok (.iinc 3 1, 3) := by decide +kernel
theorem dX12_borrowersOf_42 : decode cX12_borrowersOf 42 = .ok (.goto (-38), 3) := by decide +kernel
theorem dX12_borrowersOf_45 : decode cX12_borrowersOf 45 = .ok (.iload_n 2, 1) := by decide +kernel
theorem dX12_borrowersOf_46 : decode cX12_borrowersOf 46 = .ok (.ireturn, 1) := by decide +kernel
theorem dX12_counts_0 : decode cX12_counts 0 = .ok (.iload_n 1, 1) := by decide +kernel
theorem dX12_counts_1 : decode cX12_counts 1 = .ok (.tableswitch 147 0 5 #[39, 58, 79, 97, 115, 134], 39) := by decide +kernel
theorem dX12_counts_40 : decode cX12_counts 40 = .ok (.aload_n 0, 1) := by decide +kernel
theorem dX12_counts_41 : decode cX12_counts 41 = .ok (.iload_n 2, 1) := by decide +kernel
theorem dX12_counts_42 : decode cX12_counts 42 = .ok (.invokevirtual 211, 3) := by decide +kernel
theorem dX12_counts_45 : decode cX12_counts 45 = .ok (.ifCond .eq 12, 3) := by decide +kernel
theorem dX12_counts_48 : decode cX12_counts 48 = .ok (.aload_n 0, 1) := by decide +kernel
theorem dX12_counts_49 : decode cX12_counts 49 = .ok (.getfield 86, 3) := by decide +kernel
theorem dX12_counts_52 : decode cX12_counts 52 = .ok (.iload_n 2, 1) := by decide +kernel
theorem dX12_counts_53 : decode cX12_counts 53 = .ok (.iaload, 1) := by decide +kernel
theorem dX12_counts_54 : decode cX12_counts 54 = .ok (.goto 4, 3) := by decide +kernel
theorem dX12_counts_57 : decode cX12_counts 57 = .ok (.iconst (-1), 1) := by decide +kernel
theorem dX12_counts_58 : decode cX12_counts 58 = .ok (.ireturn, 1) := by decide +kernel
theorem dX12_counts_59 : decode cX12_counts 59 = .ok (.iload_n 2, 1) := by decide +kernel
theorem dX12_counts_60 : decode cX12_counts 60 = .ok (.iconst 0, 1) := by decide +kernel
theorem dX12_counts_61 : decode cX12_counts 61 = .ok (.bipush 7, 2) := by decide +kernel
theorem dX12_counts_63 : decode cX12_counts 63 = .ok (.invokestatic 199, 3) := by decide +kernel
theorem dX12_counts_66 : decode cX12_counts 66 = .ok (.ifCond .eq 12, 3) := by decide +kernel
theorem dX12_counts_69 : decode cX12_counts 69 = .ok (.aload_n 0, 1) := by decide +kernel
theorem dX12_counts_70 : decode cX12_counts 70 = .ok (.getfield 89, 3) := by decide +kernel
theorem dX12_counts_73 : decode cX12_counts 73 = .ok (.iload_n 2, 1) := by decide +kernel
theorem dX12_counts_74 : decode cX12_counts 74 = .ok (.iaload, 1) := by decide +kernel
theorem dX12_counts_75 : decode cX12_counts 75 = .ok (.goto 4, 3) := by decide +kernel
theorem dX12_counts_78 : decode cX12_counts 78 = .ok (.iconst (-1), 1) := by decide +kernel
theorem dX12_counts_79 : decode cX12_counts 79 = .ok (.ireturn, 1) := by decide +kernel
theorem dX12_counts_80 : decode cX12_counts 80 = .ok (.iload_n 2, 1) := by decide +kernel
theorem dX12_counts_81 : decode cX12_counts 81 = .ok (.invokestatic 203, 3) := by decide +kernel
theorem dX12_counts_84 : decode cX12_counts 84 = .ok (.ifCond .eq 12, 3) := by decide +kernel
theorem dX12_counts_87 : decode cX12_counts 87 = .ok (.aload_n 0, 1) := by decide +kernel
theorem dX12_counts_88 : decode cX12_counts 88 = .ok (.getfield 92, 3) := by decide +kernel
theorem dX12_counts_91 : decode cX12_counts 91 = .ok (.iload_n 2, 1) := by decide +kernel
theorem dX12_counts_92 : decode cX12_counts 92 = .ok (.iaload, 1) := by decide +kernel
theorem dX12_counts_93 : decode cX12_counts 93 = .ok (.goto 4, 3) := by decide +kernel
theorem dX12_counts_96 : decode cX12_counts 96 = .ok (.iconst (-1), 1) := by decide +kernel
theorem dX12_counts_97 : decode cX12_counts 97 = .ok (.ireturn, 1) := by decide +kernel
theorem dX12_counts_98 : decode cX12_counts 98 = .ok (.aload_n 0, 1) := by decide +kernel
theorem dX12_counts_99 : decode cX12_counts 99 = .ok (.iload_n 2, 1) := by decide +kernel
theorem dX12_counts_100 : decode cX12_counts 100 = .ok (.invokevirtual 211, 3) := by decide +kernel
theorem dX12_counts_103 : decode cX12_counts 103 = .ok (.ifCond .eq 11, 3) := by decide +kernel
theorem dX12_counts_106 : decode cX12_counts 106 = .ok (.aload_n 0, 1) := by decide +kernel
theorem dX12_counts_107 : decode cX12_counts 107 = .ok (.iload_n 2, 1) := by decide +kernel
theorem dX12_counts_108 : decode cX12_counts 108 = .ok (.invokevirtual 480, 3) := by decide +kernel
theorem dX12_counts_111 : decode cX12_counts 111 = .ok (.goto 4, 3) := by decide +kernel
theorem dX12_counts_114 : decode cX12_counts 114 = .ok (.iconst (-1), 1) := by decide +kernel
theorem dX12_counts_115 : decode cX12_counts 115 = .ok (.ireturn, 1) := by decide +kernel
theorem dX12_counts_116 : decode cX12_counts 116 = .ok (.aload_n 0, 1) := by decide +kernel
theorem dX12_counts_117 : decode cX12_counts 117 = .ok (.iload_n 2, 1) := by decide +kernel
theorem dX12_counts_118 : decode cX12_counts 118 = .ok (.invokevirtual 211, 3) := by decide +kernel
theorem dX12_counts_121 : decode cX12_counts 121 = .ok (.ifCond .eq 12, 3) := by decide +kernel
theorem dX12_counts_124 : decode cX12_counts 124 = .ok (.aload_n 0, 1) := by decide +kernel
theorem dX12_counts_125 : decode cX12_counts 125 = .ok (.getfield 95, 3) := by decide +kernel
theorem dX12_counts_128 : decode cX12_counts 128 = .ok (.iload_n 2, 1) := by decide +kernel
theorem dX12_counts_129 : decode cX12_counts 129 = .ok (.iaload, 1) := by decide +kernel
theorem dX12_counts_130 : decode cX12_counts 130 = .ok (.goto 4, 3) := by decide +kernel
theorem dX12_counts_133 : decode cX12_counts 133 = .ok (.iconst (-1), 1) := by decide +kernel
theorem dX12_counts_134 : decode cX12_counts 134 = .ok (.ireturn, 1) := by decide +kernel
theorem dX12_counts_135 : decode cX12_counts 135 = .ok (.iload_n 2, 1) := by decide +kernel
theorem dX12_counts_136 : decode cX12_counts 136 = .ok (.ifCond .ne 10, 3) := by decide +kernel
theorem dX12_counts_139 : decode cX12_counts 139 = .ok (.aload_n 0, 1) := by decide +kernel
theorem dX12_counts_140 : decode cX12_counts 140 = .ok (.getfield 364, 3) := by decide +kernel
theorem dX12_counts_143 : decode cX12_counts 143 = .ok (.goto 4, 3) := by decide +kernel
theorem dX12_counts_146 : decode cX12_counts 146 = .ok (.iconst (-1), 1) := by decide +kernel
theorem dX12_counts_147 : decode cX12_counts 147 = .ok (.ireturn, 1) := by decide +kernel
theorem dX12_counts_148 : decode cX12_counts 148 = .ok (.iconst (-1), 1) := by decide +kernel
theorem dX12_counts_149 : decode cX12_counts 149 = .ok (.ireturn, 1) := by decide +kernel
theorem dX12_council_0 : decode cX12_council 0 = .ok (.aload_n 0, 1) := by decide +kernel
theorem dX12_council_1 : decode cX12_council 1 = .ok (.iload_n 1, 1) := by decide +kernel
theorem dX12_council_2 : decode cX12_council 2 = .ok (.invokevirtual 211, 3) := by decide +kernel
theorem dX12_council_5 : decode cX12_council 5 = .ok (.ifCond .eq 13, 3) := by decide +kernel
theorem dX12_council_8 : decode cX12_council 8 = .ok (.iload_n 2, 1) := by decide +kernel
theorem dX12_council_9 : decode cX12_council 9 = .ok (.iconst 1, 1) := by decide +kernel
theorem dX12_council_10 : decode cX12_council 10 = .ok (.bipush 16, 2) := by decide +kernel
theorem dX12_council_12 : decode cX12_council 12 = .ok (.invokestatic 199, 3) := by decide +kernel
theorem dX12_council_15 : decode cX12_council 15 = .ok (.ifCond .ne 5, 3) := by decide +kernel
theorem dX12_council_18 : decode cX12_council 18 = .ok (.iconst (-1), 1) := by decide +kernel
theorem dX12_council_19 : decode cX12_council 19 = .ok (.ireturn, 1) := by decide +kernel
theorem dX12_council_20 : decode cX12_council 20 = .ok (.aload_n 0, 1) := by decide +kernel
theorem dX12_council_21 : decode cX12_council 21 = .ok (.iload_n 1, 1) := by decide +kernel
theorem dX12_council_22 : decode cX12_council 22 = .ok (.invokevirtual 464, 3) := by decide +kernel
theorem dX12_council_25 : decode cX12_council 25 = .ok (.istore_n 3, 1) := by decide +kernel
theorem dX12_council_26 : decode cX12_council 26 = .ok (.iload_n 3, 1) := by decide +kernel
theorem dX12_council_27 : decode cX12_council 27 = .ok (.iload_n 2, 1) := by decide +kernel
theorem dX12_council_28 : decode cX12_council 28 = .ok (.if_icmp .ge 7, 3) := by decide +kernel
theorem dX12_council_31 : decode cX12_council 31 = .ok (.iconst 0, 1) := by decide +kernel
theorem dX12_council_32 : decode cX12_council 32 = .ok (.goto 4, 3) := by decide +kernel
theorem dX12_council_35 : decode cX12_council 35 = .ok (.iload_n 3, 1) := by decide +kernel
theorem dX12_council_36 : decode cX12_council 36 = .ok (.ireturn, 1) := by decide +kernel
theorem dX12_tapeNumber_0 : decode cX12_tapeNumber 0 = .ok (.iconst 0, 1) := by decide +kernel
theorem dX12_tapeNumber_1 : decode cX12_tapeNumber 1 = .ok (.istore_n 2, 1) := by decide +kernel
theorem dX12_tapeNumber_2 : decode cX12_tapeNumber 2 = .ok (.iconst 4, 1) := by decide +kernel
theorem dX12_tapeNumber_3 : decode cX12_tapeNumber 3 = .ok (.iload_n 1, 1) := by decide +kernel
theorem dX12_tapeNumber_4 : decode cX12_tapeNumber 4 = .ok (.imul, 1) := by decide +kernel
theorem dX12_tapeNumber_5 : decode cX12_tapeNumber 5 = .ok (.istore_n 3, 1) := by decide +kernel
theorem dX12_tapeNumber_6 : decode cX12_tapeNumber 6 = .ok (.iload_n 3, 1) := by decide +kernel
theorem dX12_tapeNumber_7 : decode cX12_tapeNumber 7 = .ok (.iconst 4, 1) := by decide +kernel
theorem dX12_tapeNumber_8 : decode cX12_tapeNumber 8 = .ok (.iload_n 1, 1) := by decide +kernel
theorem dX12_tapeNumber_9 : decode cX12_tapeNumber 9 = .ok (.imul, 1) := by decide +kernel
theorem dX12_tapeNumber_10 : decode cX12_tapeNumber 10 = .ok (.iconst 4, 1) := by decide +kernel
theorem dX12_tapeNumber_11 : decode cX12_tapeNumber 11 = .ok (.iadd, 1) := by decide +kernel
theorem dX12_tapeNumber_12 : decode cX12_tapeNumber 12 = .ok (.if_icmp .ge 25, 3) := by decide +kernel
theorem dX12_tapeNumber_15 : decode cX12_tapeNumber 15 = .ok (.iload_n 2, 1) := by decide +kernel
theorem dX12_tapeNumber_16 : decode cX12_tapeNumber 16 = .ok (.bipush 8, 2) := by decide +kernel
theorem dX12_tapeNumber_18 : decode cX12_tapeNumber 18 = .ok (.ishl, 1) := by decide +kernel
