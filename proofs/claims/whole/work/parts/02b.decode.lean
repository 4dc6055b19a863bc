theorem dX0_init_0 : decode cX0_init 0 = .ok (.aload_n 0, 1) := by decide +kernel
theorem dX0_init_1 : decode cX0_init 1 = .ok (.invokespecial 3, 3) := by decide +kernel
theorem dX0_init_4 : decode cX0_init 4 = .ok (.aload_n 0, 1) := by decide +kernel
theorem dX0_init_5 : decode cX0_init 5 = .ok (.sipush 200, 3) := by decide +kernel
theorem dX0_init_8 : decode cX0_init 8 = .ok (.newarray .int, 2) := by decide +kernel
theorem dX0_init_10 : decode cX0_init 10 = .ok (.putfield 9, 3) := by decide +kernel
theorem dX0_init_13 : decode cX0_init 13 = .ok (.aload_n 0, 1) := by decide +kernel
theorem dX0_init_14 : decode cX0_init 14 = .ok (.sipush 200, 3) := by decide +kernel
theorem dX0_init_17 : decode cX0_init 17 = .ok (.newarray .int, 2) := by decide +kernel
theorem dX0_init_19 : decode cX0_init 19 = .ok (.putfield 15, 3) := by decide +kernel
theorem dX0_init_22 : decode cX0_init 22 = .ok (.aload_n 0, 1) := by decide +kernel
theorem dX0_init_23 : decode cX0_init 23 = .ok (.sipush 200, 3) := by decide +kernel
theorem dX0_init_26 : decode cX0_init 26 = .ok (.newarray .int, 2) := by decide +kernel
theorem dX0_init_28 : decode cX0_init 28 = .ok (.putfield 18, 3) := by decide +kernel
theorem dX0_init_31 : decode cX0_init 31 = .ok (.aload_n 0, 1) := by decide +kernel
theorem dX0_init_32 : decode cX0_init 32 = .ok (.sipush 200, 3) := by decide +kernel
theorem dX0_init_35 : decode cX0_init 35 = .ok (.newarray .int, 2) := by decide +kernel
theorem dX0_init_37 : decode cX0_init 37 = .ok (.putfield 21, 3) := by decide +kernel
theorem dX0_init_40 : decode cX0_init 40 = .ok (.return_, 1) := by decide +kernel
theorem dX0_isFull_0 : decode cX0_isFull 0 = .ok (.aload_n 0, 1) := by decide +kernel
theorem dX0_isFull_1 : decode cX0_isFull 1 = .ok (.getfield 24, 3) := by decide +kernel
theorem dX0_isFull_4 : decode cX0_isFull 4 = .ok (.sipush 200, 3) := by decide +kernel
theorem dX0_isFull_7 : decode cX0_isFull 7 = .ok (.if_icmp .lt 7, 3) := by decide +kernel
theorem dX0_isFull_10 : decode cX0_isFull 10 = .ok (.iconst 1, 1) := by decide +kernel
theorem dX0_isFull_11 : decode cX0_isFull 11 = .ok (.goto 4, 3) := by decide +kernel
theorem dX0_isFull_14 : decode cX0_isFull 14 = .ok (.iconst 0, 1) := by decide +kernel
theorem dX0_isFull_15 : decode cX0_isFull 15 = .ok (.ireturn, 1) := by decide +kernel
theorem dX0_add_0 : decode cX0_add 0 = .ok (.aload_n 0, 1) := by decide +kernel
theorem dX0_add_1 : decode cX0_add 1 = .ok (.invokevirtual 28, 3) := by decide +kernel
theorem dX0_add_4 : decode cX0_add 4 = .ok (.ifCond .eq 4, 3) := by decide +kernel
theorem dX0_add_7 : decode cX0_add 7 = .ok (.return_, 1) := by decide +kernel
theorem dX0_add_8 : decode cX0_add 8 = .ok (.aload_n 0, 1) := by decide +kernel
theorem dX0_add_9 : decode cX0_add 9 = .ok (.getfield 9, 3) := by decide +kernel
theorem dX0_add_12 : decode cX0_add 12 = .ok (.aload_n 0, 1) := by decide +kernel
theorem dX0_add_13 : decode cX0_add 13 = .ok (.getfield 24, 3) := by decide +kernel
theorem dX0_add_16 : decode cX0_add 16 = .ok (.iload_n 1, 1) := by decide +kernel
theorem dX0_add_17 : decode cX0_add 17 = .ok (.iastore, 1) := by decide +kernel
theorem dX0_add_18 : decode cX0_add 18 = .ok (.aload_n 0, 1) := by decide +kernel
theorem dX0_add_19 : decode cX0_add 19 = .ok (.getfield 15, 3) := by decide +kernel
theorem dX0_add_22 : decode cX0_add 22 = .ok (.aload_n 0, 1) := by decide +kernel
theorem dX0_add_23 : decode cX0_add 23 = .ok (.getfield 24, 3) := by decide +kernel
theorem dX0_add_26 : decode cX0_add 26 = .ok (.iload_n 2, 1) := by decide +kernel
theorem dX0_add_27 : decode cX0_add 27 = .ok (.iastore, 1) := by decide +kernel
theorem dX0_add_28 : decode cX0_add 28 = .ok (.aload_n 0, 1) := by decide +kernel
theorem dX0_add_29 : decode cX0_add 29 = .ok (.getfield 18, 3) := by decide +kernel
theorem dX0_add_32 : decode cX0_add 32 = .ok (.aload_n 0, 1) := by decide +kernel
theorem dX0_add_33 : decode cX0_add 33 = .ok (.getfield 24, 3) := by decide +kernel
theorem dX0_add_36 : decode cX0_add 36 = .ok (.iload_n 3, 1) := by decide +kernel
theorem dX0_add_37 : decode cX0_add 37 = .ok (.iastore, 1) := by decide +kernel
theorem dX0_add_38 : decode cX0_add 38 = .ok (.aload_n 0, 1) := by decide +kernel
theorem dX0_add_39 : decode cX0_add 39 = .ok (.getfield 21, 3) := by decide +kernel
theorem dX0_add_42 : decode cX0_add 42 = .ok (.aload_n 0, 1) := by decide +kernel
theorem dX0_add_43 : decode cX0_add 43 = .ok (.getfield 24, 3) := by decide +kernel
theorem dX0_add_46 : decode cX0_add 46 = .ok (.iload_n 3, 1) := by decide +kernel
theorem dX0_add_47 : decode cX0_add 47 = .ok (.aload_n 0, 1) := by decide +kernel
theorem dX0_add_48 : decode cX0_add 48 = .ok (.getfield 32, 3) := by decide +kernel
theorem dX0_add_51 : decode cX0_add 51 = .ok (.iadd, 1) := by decide +kernel
theorem dX0_add_52 : decode cX0_add 52 = .ok (.iastore, 1) := by decide +kernel
theorem dX0_add_53 : decode cX0_add 53 = .ok (.aload_n 0, 1) := by decide +kernel
theorem dX0_add_54 : decode cX0_add 54 = .ok (.dup, 1) := by decide +kernel
theorem dX0_add_55 : decode cX0_add 55 = .ok (.getfield 24, 3) := by decide +kernel
theorem dX0_add_58 : decode cX0_add 58 = .ok (.iconst 1, 1) := by decide +kernel
theorem dX0_add_59 : decode cX0_add 59 = .ok (.iadd, 1) := by decide +kernel
theorem dX0_add_60 : decode cX0_add 60 = .ok (.putfield 24, 3) := by decide +kernel
theorem dX0_add_63 : decode cX0_add 63 = .ok (.return_, 1) := by decide +kernel
theorem dX0_placeOf_0 : decode cX0_placeOf 0 = .ok (.iconst 0, 1) := by decide +kernel
theorem dX0_placeOf_1 : decode cX0_placeOf 1 = .ok (.istore 4, 2) := by decide +kernel
theorem dX0_placeOf_3 : decode cX0_placeOf 3 = .ok (.iconst 0, 1) := by decide +kernel
theorem dX0_placeOf_4 : decode cX0_placeOf 4 = .ok (.istore 5, 2) := by decide +kernel
theorem dX0_placeOf_6 : decode cX0_placeOf 6 = .ok (.iload 5, 2) := by decide +kernel
theorem dX0_placeOf_8 : decode cX0_placeOf 8 = .ok (.aload_n 0, 1) := by decide +kernel
theorem dX0_placeOf_9 : decode cX0_placeOf 9 = .ok (.getfield 24, 3) := by decide +kernel
theorem dX0_placeOf_12 : decode cX0_placeOf 12 = .ok (.if_icmp .ge 51, 3) := by decide +kernel
theorem dX0_placeOf_15 : decode cX0_placeOf 15 = .ok (.aload_n 0, 1) := by decide +kernel
theorem dX0_placeOf_16 : decode cX0_placeOf 16 = .ok (.getfield 9, 3) := by decide +kernel
theorem dX0_placeOf_19 : decode cX0_placeOf 19 = .ok (.iload 5, 2) := by decide +kernel
theorem dX0_placeOf_21 : decode cX0_placeOf 21 = .ok (.iaload, 1) := by decide +kernel
theorem dX0_placeOf_22 : decode cX0_placeOf 22 = .ok (.iload_n 1, 1) := by decide +kernel
theorem dX0_placeOf_23 : decode cX0_placeOf 23 = .ok (.if_icmp .ne 34, 3) := by decide +kernel
theorem dX0_placeOf_26 : decode cX0_placeOf 26 = .ok (.aload_n 0, 1) := by decide +kernel
theorem dX0_placeOf_27 : decode cX0_placeOf 27 = .ok (.getfield 18, 3) := by decide +kernel
theorem dX0_placeOf_30 : decode cX0_placeOf 30 = .ok (.iload 5, 2) := by decide +kernel
theorem dX0_placeOf_32 : decode cX0_placeOf 32 = .ok (.iaload, 1) := by decide +kernel
theorem dX0_placeOf_33 : decode cX0_placeOf 33 = .ok (.iload_n 2, 1) := by decide +kernel
theorem dX0_placeOf_34 : decode cX0_placeOf 34 = .ok (.if_icmp .gt 23, 3) := by decide +kernel
theorem dX0_placeOf_37 : decode cX0_placeOf 37 = .ok (.aload_n 0, 1) := by decide +kernel
theorem dX0_placeOf_38 : decode cX0_placeOf 38 = .ok (.getfield 21, 3) := by decide +kernel
theorem dX0_placeOf_41 : decode cX0_placeOf 41 = .ok (.iload 5, 2) := by decide +kernel
theorem dX0_placeOf_43 : decode cX0_placeOf 43 = .ok (.iaload, 1) := by decide +kernel
theorem dX0_placeOf_44 : decode cX0_placeOf 44 = .ok (.iload_n 3, 1) := by decide +kernel
theorem dX0_placeOf_45 : decode cX0_placeOf 45 = .ok (.if_icmp .gt 12, 3) := by decide +kernel
theorem dX0_placeOf_48 : decode cX0_placeOf 48 = .ok (.aload_n 0, 1) := by decide +kernel
theorem dX0_placeOf_49 : decode cX0_placeOf 49 = .ok (.getfield 15, 3) := by decide +kernel
theorem dX0_placeOf_52 : decode cX0_placeOf 52 = .ok (.iload 5, 2) := by decide +kernel
theorem dX0_placeOf_54 : decode cX0_placeOf 54 = .ok (.iaload, 1) := by decide +kernel
theorem dX0_placeOf_55 : decode cX0_placeOf 55 = .ok (.istore 4, 2) := by decide +kernel
theorem dX0_placeOf_57 : decode cX0_placeOf 57 = .ok (.iinc 5 1, 3) := by decide +kernel
theorem dX0_placeOf_60 : decode cX0_placeOf 60 = .ok (.goto (-54), 3) := by decide +kernel
theorem dX0_placeOf_63 : decode cX0_placeOf 63 = .ok (.iload 4, 2) := by decide +kernel
theorem dX0_placeOf_65 : decode cX0_placeOf 65 = .ok (.ireturn, 1) := by decide +kernel
theorem dX1_init_0 : decode cX1_init 0 = .ok (.aload_n 0, 1) := by decide +kernel
theorem dX1_init_1 : decode cX1_init 1 = .ok (.invokespecial 3, 3) := by decide +kernel
theorem dX1_init_4 : decode cX1_init 4 = .ok (.aload_n 0, 1) := by decide +kernel
theorem dX1_init_5 : decode cX1_init 5 = .ok (.sipush 512, 3) := by decide +kernel
theorem dX1_init_8 : decode cX1_init 8 = .ok (.newarray .int, 2) := by decide +kernel
theorem dX1_init_10 : decode cX1_init 10 = .ok (.putfield 9, 3) := by decide +kernel
theorem dX1_init_13 : decode cX1_init 13 = .ok (.aload_n 0, 1) := by decide +kernel
theorem dX1_init_14 : decode cX1_init 14 = .ok (.bipush 16, 2) := by decide +kernel
theorem dX1_init_16 : decode cX1_init 16 = .ok (.newarray .int, 2) := by decide +kernel
theorem dX1_init_18 : decode cX1_init 18 = .ok (.putfield 15, 3) := by decide +kernel
theorem dX1_init_21 : decode cX1_init 21 = .ok (.aload_n 0, 1) := by decide +kernel
theorem dX1_init_22 : decode cX1_init 22 = .ok (.bipush 16, 2) := by decide +kernel
theorem dX1_init_24 : decode cX1_init 24 = .ok (.newarray .int, 2) := by decide +kernel
theorem dX1_init_26 : decode cX1_init 26 = .ok (.putfield 18, 3) := by decide +kernel
theorem dX1_init_29 : decode cX1_init 29 = .ok (.aload_n 0, 1) := by decide +kernel
theorem dX1_init_30 : decode cX1_init 30 = .ok (.bipush 16, 2) := by decide +kernel
theorem dX1_init_32 : decode cX1_init 32 = .ok (.newarray .int, 2) := by decide +kernel
theorem dX1_init_34 : decode cX1_init 34 = .ok (.putfield 21, 3) := by decide +kernel
theorem dX1_init_37 : decode cX1_init 37 = .ok (.aload_n 0, 1) := by decide +kernel
theorem dX1_init_38 : decode cX1_init 38 = .ok (.getfield 9, 3) := by decide +kernel
theorem dX1_init_41 : decode cX1_init 41 = .ok (.iconst (-1), 1) := by decide +kernel
theorem dX1_init_42 : decode cX1_init 42 = .ok (.invokestatic 24, 3) := by decide +kernel
theorem dX1_init_45 : decode cX1_init 45 = .ok (.return_, 1) := by decide +kernel
theorem dX1_dayOf_0 : decode cX1_dayOf 0 = .ok (.aload_n 0, 1) := by decide +kernel
theorem dX1_dayOf_1 : decode cX1_dayOf 1 = .ok (.getfield 9, 3) := by decide +kernel
theorem dX1_dayOf_4 : decode cX1_dayOf 4 = .ok (.iload_n 1, 1) := by decide +kernel
theorem dX1_dayOf_5 : decode cX1_dayOf 5 = .ok (.bipush 32, 2) := by decide +kernel
theorem dX1_dayOf_7 : decode cX1_dayOf 7 = .ok (.imul, 1) := by decide +kernel
theorem dX1_dayOf_8 : decode cX1_dayOf 8 = .ok (.iload_n 2, 1) := by decide +kernel
theorem dX1_dayOf_9 : decode cX1_dayOf 9 = .ok (.iadd, 1) := by decide +kernel
theorem dX1_dayOf_10 : decode cX1_dayOf 10 = .ok (.iaload, 1) := by decide +kernel
theorem dX1_dayOf_11 : decode cX1_dayOf 11 = .ok (.ireturn, 1) := by decide +kernel
theorem dX1_add_0 : decode cX1_add 0 = .ok (.aload_n 0, 1) := by decide +kernel
theorem dX1_add_1 : decode cX1_add 1 = .ok (.getfield 9, 3) := by decide +kernel
theorem dX1_add_4 : decode cX1_add 4 = .ok (.iload_n 1, 1) := by decide +kernel
theorem dX1_add_5 : decode cX1_add 5 = .ok (.bipush 32, 2) := by decide +kernel
theorem dX1_add_7 : decode cX1_add 7 = .ok (.imul, 1) := by decide +kernel
theorem dX1_add_8 : decode cX1_add 8 = .ok (.iload_n 2, 1) := by decide +kernel
theorem dX1_add_9 : decode cX1_add 9 = .ok (.iadd, 1) := by decide +kernel
theorem dX1_add_10 : decode cX1_add 10 = .ok (.iload_n 3, 1) := by decide +kernel
theorem dX1_add_11 : decode cX1_add 11 = .ok (.iastore, 1) := by decide +kernel
theorem dX1_add_12 : decode cX1_add 12 = .ok (.aload_n 0, 1) := by decide +kernel
theorem dX1_add_13 : decode cX1_add 13 = .ok (.dup, 1) := by decide +kernel
theorem dX1_add_14 : decode cX1_add 14 = .ok (.getfield 30, 3) := by decide +kernel
theorem dX1_add_17 : decode cX1_add 17 = .ok (.iconst 1, 1) := by decide +kernel
theorem dX1_add_18 : decode cX1_add 18 = .ok (.iadd, 1) := by decide +kernel
theorem dX1_add_19 : decode cX1_add 19 = .ok (.putfield 30, 3) := by decide +kernel
theorem dX1_add_22 : decode cX1_add 22 = .ok (.return_, 1) := by decide +kernel
theorem dX1_remove_0 : decode cX1_remove 0 = .ok (.aload_n 0, 1) := by decide +kernel
theorem dX1_remove_1 : decode cX1_remove 1 = .ok (.iload_n 1, 1) := by decide +kernel
theorem dX1_remove_2 : decode cX1_remove 2 = .ok (.iload_n 2, 1) := by decide +kernel
theorem dX1_remove_3 : decode cX1_remove 3 = .ok (.invokevirtual 34, 3) := by decide +kernel
theorem dX1_remove_6 : decode cX1_remove 6 = .ok (.iconst (-1), 1) := by decide +kernel
theorem dX1_remove_7 : decode cX1_remove 7 = .ok (.if_icmp .ne 5, 3) := by decide +kernel
theorem dX1_remove_10 : decode cX1_remove 10 = .ok (.iconst 0, 1) := by decide +kernel
theorem dX1_remove_11 : decode cX1_remove 11 = .ok (.ireturn, 1) := by decide +kernel
theorem dX1_remove_12 : decode cX1_remove 12 = .ok (.aload_n 0, 1) := by decide +kernel
theorem dX1_remove_13 : decode cX1_remove 13 = .ok (.getfield 9, 3) := by decide +kernel
theorem dX1_remove_16 : decode cX1_remove 16 = .ok (.iload_n 1, 1) := by decide +kernel
theorem dX1_remove_17 : decode cX1_remove 17 = .ok (.bipush 32, 2) := by decide +kernel
theorem dX1_remove_19 : decode cX1_remove 19 = .ok (.imul, 1) := by decide +kernel
theorem dX1_remove_20 : decode cX1_remove 20 = .ok (.iload_n 2, 1) := by decide +kernel
theorem dX1_remove_21 : decode cX1_remove 21 = .ok (.iadd, 1) := by decide +kernel
theorem dX1_remove_22 : decode cX1_remove 22 = .ok (.iconst (-1), 1) := by decide +kernel
theorem dX1_remove_23 : decode cX1_remove 23 = .ok (.iastore, 1) := by decide +kernel
theorem dX1_remove_24 : decode cX1_remove 24 = .ok (.aload_n 0, 1) := by decide +kernel
theorem dX1_remove_25 : decode cX1_remove 25 = .ok (.dup, 1) := by decide +kernel
theorem dX1_remove_26 : decode cX1_remove 26 = .ok (.getfield 30, 3) := by decide +kernel
theorem dX1_remove_29 : decode cX1_remove 29 = .ok (.iconst 1, 1) := by decide +kernel
theorem dX1_remove_30 : decode cX1_remove 30 = .ok (.isub, 1) := by decide +kernel
theorem dX1_remove_31 : decode cX1_remove 31 = .ok (.putfield 30, 3) := by decide +kernel
theorem dX1_remove_34 : decode cX1_remove 34 = .ok (.iconst 1, 1) := by decide +kernel
theorem dX1_remove_35 : decode cX1_remove 35 = .ok (.ireturn, 1) := by decide +kernel
theorem dX1_ofReader_0 : decode cX1_ofReader 0 = .ok (.iconst 0, 1) := by decide +kernel
theorem dX1_ofReader_1 : decode cX1_ofReader 1 = .ok (.istore_n 2, 1) := by decide +kernel
theorem dX1_ofReader_2 : decode cX1_ofReader 2 = .ok (.iconst 0, 1) := by decide +kernel
theorem dX1_ofReader_3 : decode cX1_ofReader 3 = .ok (.istore_n 3, 1) := by decide +kernel
theorem dX1_ofReader_4 : decode cX1_ofReader 4 = .ok (.iload_n 3, 1) := by decide +kernel
theorem dX1_ofReader_5 : decode cX1_ofReader 5 = .ok (.bipush 32, 2) := by decide +kernel
theorem dX1_ofReader_7 : decode cX1_ofReader 7 = .ok (.if_icmp .ge 22, 3) := by decide +kernel
theorem dX1_ofReader_10 : decode cX1_ofReader 10 = .ok (.aload_n 0, 1) := by decide +kernel
theorem dX1_ofReader_11 : decode cX1_ofReader 11 = .ok (.iload_n 1, 1) := by decide +kernel
theorem dX1_ofReader_12 : decode cX1_ofReader 12 = .ok (.iload_n 3, 1) := by decide +kernel
theorem dX1_ofReader_13 : decode cX1_ofReader 13 = .ok (.invokevirtual 34, 3) := by decide +kernel
theorem dX1_ofReader_16 : decode cX1_ofReader 16 = .ok (.iconst (-1), 1) := by decide +kernel
theorem dX1_ofReader_17 : decode cX1_ofReader 17 = .ok (.if_icmp .eq 6, 3) := by decide +kernel
theorem dX1_ofReader_20 : decode cX1_ofReader 20 = .ok (.iinc 2 1, 3) := by decide +kernel
theorem dX1_ofReader_23 : decode cX1_ofReader 23 = .ok (.iinc 3 1, 3) := by decide +kernel
theorem dX1_ofReader_26 : decode cX1_ofReader 26 = .ok (.goto (-22), 3) := by decide +kernel
theorem dX1_ofReader_29 : decode cX1_ofReader 29 = .ok (.iload_n 2, 1) := by decide +kernel
theorem dX1_ofReader_30 : decode cX1_ofReader 30 = .ok (.ireturn, 1) := by decide +kernel
theorem dX1_booksFor_0 : decode cX1_booksFor 0 = .ok (.iconst 0, 1) := by decide +kernel
theorem dX1_booksFor_1 : decode cX1_booksFor 1 = .ok (.istore_n 3, 1) := by decide +kernel
theorem dX1_booksFor_2 : decode cX1_booksFor 2 = .ok (.iconst 0, 1) := by decide +kernel
theorem dX1_booksFor_3 : decode cX1_booksFor 3 = .ok (.istore 4, 2) := by decide +kernel
theorem dX1_booksFor_5 : decode cX1_booksFor 5 = .ok (.iload 4, 2) := by decide +kernel
theorem dX1_booksFor_7 : decode cX1_booksFor 7 = .ok (.bipush 32, 2) := by decide +kernel
theorem dX1_booksFor_9 : decode cX1_booksFor 9 = .ok (.if_icmp .ge 27, 3) := by decide +kernel
theorem dX1_booksFor_12 : decode cX1_booksFor 12 = .ok (.aload_n 0, 1) := by decide +kernel
theorem dX1_booksFor_13 : decode cX1_booksFor 13 = .ok (.iload_n 1, 1) := by decide +kernel
theorem dX1_booksFor_14 : decode cX1_booksFor 14 = .ok (.iload 4, 2) := by decide +kernel
theorem dX1_booksFor_16 : decode cX1_booksFor 16 = .ok (.invokevirtual 34, 3) := by decide +kernel
theorem dX1_booksFor_19 : decode cX1_booksFor 19 = .ok (.iload_n 2, 1) := by decide +kernel
theorem dX1_booksFor_20 : decode cX1_booksFor 20 = .ok (.if_icmp .ne 10, 3) := by decide +kernel
theorem dX1_booksFor_23 : decode cX1_booksFor 23 = .ok (.iload_n 3, 1) := by decide +kernel
theorem dX1_booksFor_24 : decode cX1_booksFor 24 = .ok (.iconst 1, 1) := by decide +kernel
theorem dX1_booksFor_25 : decode cX1_booksFor 25 = .ok (.iload 4, 2) := by decide +kernel
theorem dX1_booksFor_27 : decode cX1_booksFor 27 = .ok (.ishl, 1) := by decide +kernel
theorem dX1_booksFor_28 : decode cX1_booksFor 28 = .ok (.ior, 1) := by decide +kernel
theorem dX1_booksFor_29 : decode cX1_booksFor 29 = .ok (.istore_n 3, 1) := by decide +kernel
theorem dX1_booksFor_30 : decode cX1_booksFor 30 = .ok (.iinc 4 1, 3) := by decide +kernel
theorem dX1_booksFor_33 : decode cX1_booksFor 33 = .ok (.goto (-28), 3) := by decide +kernel
theorem dX1_booksFor_36 : decode cX1_booksFor 36 = .ok (.iload_n 3, 1) := by decide +kernel
theorem dX1_booksFor_37 : decode cX1_booksFor 37 = .ok (.ireturn, 1) := by decide +kernel
theorem dX1_isBehindAnother_0 : decode cX1_isBehindAnother 0 = .ok (.aload_n 0, 1) := by decide +kernel
theorem dX1_isBehindAnother_1 : decode cX1_isBehindAnother 1 = .ok (.iload_n 1, 1) := by decide +kernel
theorem dX1_isBehindAnother_2 : decode cX1_isBehindAnother 2 = .ok (.iload_n 2, 1) := by decide +kernel
theorem dX1_isBehindAnother_3 : decode cX1_isBehindAnother 3 = .ok (.invokevirtual 34, 3) := by decide +kernel
theorem dX1_isBehindAnother_6 : decode cX1_isBehindAnother 6 = .ok (.istore 4, 2) := by decide +kernel
theorem dX1_isBehindAnother_8 : decode cX1_isBehindAnother 8 = .ok (.iconst 0, 1) := by decide +kernel
theorem dX1_isBehindAnother_9 : decode cX1_isBehindAnother 9 = .ok (.istore 5, 2) := by decide +kernel
theorem dX1_isBehindAnother_11 : decode cX1_isBehindAnother 11 = .ok (.iload 5, 2) := by decide +kernel
theorem dX1_isBehindAnother_13 : decode cX1_isBehindAnother 13 = .ok (.bipush 16, 2) := by decide +kernel
theorem dX1_isBehindAnother_15 : decode cX1_isBehindAnother 15 = .ok (.if_icmp .ge 52, 3) := by decide +kernel
theorem dX1_isBehindAnother_18 : decode cX1_isBehindAnother 18 = .ok (.aload_n 0, 1) := by decide +kernel
theorem dX1_isBehindAnother_19 : decode cX1_isBehindAnother 19 = .ok (.iload 5, 2) := by decide +kernel
theorem dX1_isBehindAnother_21 : decode cX1_isBehindAnother 21 = .ok (.iload_n 2, 1) := by decide +kernel
theorem dX1_isBehindAnother_22 : decode cX1_isBehindAnother 22 = .ok (.invokevirtual 34, 3) := by decide +kernel
theorem dX1_isBehindAnother_25 : decode cX1_isBehindAnother 25 = .ok (.istore 6, 2) := by decide +kernel
theorem dX1_isBehindAnother_27 : decode cX1_isBehindAnother 27 = .ok (.iload 5, 2) := by decide +kernel
theorem dX1_isBehindAnother_29 : decode cX1_isBehindAnother 29 = .ok (.iload_n 1, 1) := by decide +kernel
theorem dX1_isBehindAnother_30 : decode cX1_isBehindAnother 30 = .ok (.if_icmp .eq 31, 3) := by decide +kernel
theorem dX1_isBehindAnother_33 : decode cX1_isBehindAnother 33 = .ok (.iload 6, 2) := by decide +kernel
theorem dX1_isBehindAnother_35 : decode cX1_isBehindAnother 35 = .ok (.iload_n 3, 1) := by decide +kernel
theorem dX1_isBehindAnother_36 : decode cX1_isBehindAnother 36 = .ok (.if_icmp .lt 25, 3) := by decide +kernel
theorem dX1_isBehindAnother_39 : decode cX1_isBehindAnother 39 = .ok (.iload 6, 2) := by decide +kernel
theorem dX1_isBehindAnother_41 : decode cX1_isBehindAnother 41 = .ok (.iload 4, 2) := by decide +kernel
theorem dX1_isBehindAnother_43 : decode cX1_isBehindAnother 43 = .ok (.if_icmp .lt 16, 3) := by decide +kernel
theorem dX1_isBehindAnother_46 : decode cX1_isBehindAnother 46 = .ok (.iload 6, 2) := by decide +kernel
theorem dX1_isBehindAnother_48 : decode cX1_isBehindAnother 48 = .ok (.iload 4, 2) := by decide +kernel
theorem dX1_isBehindAnother_50 : decode cX1_isBehindAnother 50 = .ok (.if_icmp .ne 11, 3) := by decide +kernel
theorem dX1_isBehindAnother_53 : decode cX1_isBehindAnother 53 = .ok (.iload 5, 2) := by decide +kernel
theorem dX1_isBehindAnother_55 : decode cX1_isBehindAnother 55 = .ok (.iload_n 1, 1) := by decide +kernel
theorem dX1_isBehindAnother_56 : decode cX1_isBehindAnother 56 = .ok (.if_icmp .ge 5, 3) := by decide +kernel
theorem dX1_isBehindAnother_59 : decode cX1_isBehindAnother 59 = .ok (.iconst 1, 1) := by decide +kernel
theorem dX1_isBehindAnother_60 : decode cX1_isBehindAnother 60 = .ok (.ireturn, 1) := by decide +kernel
theorem dX1_isBehindAnother_61 : decode cX1_isBehindAnother 61 = .ok (.iinc 5 1, 3) := by decide +kernel
theorem dX1_isBehindAnother_64 : decode cX1_isBehindAnother 64 = .ok (.goto (-53), 3) := by decide +kernel
theorem dX1_isBehindAnother_67 : decode cX1_isBehindAnother 67 = .ok (.iconst 0, 1) := by decide +kernel
theorem dX1_isBehindAnother_68 : decode cX1_isBehindAnother 68 = .ok (.ireturn, 1) := by decide +kernel
theorem dX1_findRing_0 : decode cX1_findRing 0 = .ok (.iconst 0, 1) := by decide +kernel
theorem dX1_findRing_1 : decode cX1_findRing 1 = .ok (.istore_n 3, 1) := by decide +kernel
theorem dX1_findRing_2 : decode cX1_findRing 2 = .ok (.iload_n 3, 1) := by decide +kernel
theorem dX1_findRing_3 : decode cX1_findRing 3 = .ok (.iload_n 2, 1) := by decide +kernel
theorem dX1_findRing_4 : decode cX1_findRing 4 = .ok (.if_icmp .ge 21, 3) := by decide +kernel
theorem dX1_findRing_7 : decode cX1_findRing 7 = .ok (.aload_n 0, 1) := by decide +kernel
theorem dX1_findRing_8 : decode cX1_findRing 8 = .ok (.getfield 15, 3) := by decide +kernel
theorem dX1_findRing_11 : decode cX1_findRing 11 = .ok (.iload_n 3, 1) := by decide +kernel
theorem dX1_findRing_12 : decode cX1_findRing 12 = .ok (.aload_n 0, 1) := by decide +kernel
theorem dX1_findRing_13 : decode cX1_findRing 13 = .ok (.iload_n 3, 1) := by decide +kernel
theorem dX1_findRing_14 : decode cX1_findRing 14 = .ok (.aload_n 1, 1) := by decide +kernel
theorem dX1_findRing_15 : decode cX1_findRing 15 = .ok (.invokevirtual 38, 3) := by decide +kernel
theorem dX1_findRing_18 : decode cX1_findRing 18 = .ok (.iastore, 1) := by decide +kernel
theorem dX1_findRing_19 : decode cX1_findRing 19 = .ok (.iinc 3 1, 3) := by decide +kernel
theorem dX1_findRing_22 : decode cX1_findRing 22 = .ok (.goto (-20), 3) := by decide +kernel
theorem dX1_findRing_25 : decode cX1_findRing 25 = .ok (.aload_n 0, 1) := by decide +kernel
theorem dX1_findRing_26 : decode cX1_findRing 26 = .ok (.iconst 0, 1) := by decide +kernel
theorem dX1_findRing_27 : decode cX1_findRing 27 = .ok (.putfield 42, 3) := by decide +kernel
theorem dX1_findRing_30 : decode cX1_findRing 30 = .ok (.iconst 0, 1) := by decide +kernel
theorem dX1_findRing_31 : decode cX1_findRing 31 = .ok (.istore_n 3, 1) := by decide +kernel
theorem dX1_findRing_32 : decode cX1_findRing 32 = .ok (.iload_n 3, 1) := by decide +kernel
theorem dX1_findRing_33 : decode cX1_findRing 33 = .ok (.iload_n 2, 1) := by decide +kernel
theorem dX1_findRing_34 : decode cX1_findRing 34 = .ok (.if_icmp .ge 51, 3) := by decide +kernel
theorem dX1_findRing_37 : decode cX1_findRing 37 = .ok (.aload_n 0, 1) := by decide +kernel
theorem dX1_findRing_38 : decode cX1_findRing 38 = .ok (.iload_n 3, 1) := by decide +kernel
theorem dX1_findRing_39 : decode cX1_findRing 39 = .ok (.iload_n 2, 1) := by decide +kernel
theorem dX1_findRing_40 : decode cX1_findRing 40 = .ok (.invokevirtual 45, 3) := by decide +kernel
theorem dX1_findRing_43 : decode cX1_findRing 43 = .ok (.istore 4, 2) := by decide +kernel
theorem dX1_findRing_45 : decode cX1_findRing 45 = .ok (.iload 4, 2) := by decide +kernel
theorem dX1_findRing_47 : decode cX1_findRing 47 = .ok (.iconst (-1), 1) := by decide +kernel
theorem dX1_findRing_48 : decode cX1_findRing 48 = .ok (.if_icmp .eq 31, 3) := by decide +kernel
theorem dX1_findRing_51 : decode cX1_findRing 51 = .ok (.aload_n 0, 1) := by decide +kernel
theorem dX1_findRing_52 : decode cX1_findRing 52 = .ok (.getfield 42, 3) := by decide +kernel
theorem dX1_findRing_55 : decode cX1_findRing 55 = .ok (.ifCond .eq 12, 3) := by decide +kernel
theorem dX1_findRing_58 : decode cX1_findRing 58 = .ok (.iload 4, 2) := by decide +kernel
theorem dX1_findRing_60 : decode cX1_findRing 60 = .ok (.aload_n 0, 1) := by decide +kernel
theorem dX1_findRing_61 : decode cX1_findRing 61 = .ok (.getfield 42, 3) := by decide +kernel
theorem dX1_findRing_64 : decode cX1_findRing 64 = .ok (.if_icmp .ge 15, 3) := by decide +kernel
theorem dX1_findRing_67 : decode cX1_findRing 67 = .ok (.aload_n 0, 1) := by decide +kernel
theorem dX1_findRing_68 : decode cX1_findRing 68 = .ok (.iload 4, 2) := by decide +kernel
theorem dX1_findRing_70 : decode cX1_findRing 70 = .ok (.putfield 42, 3) := by decide +kernel
theorem dX1_findRing_73 : decode cX1_findRing 73 = .ok (.aload_n 0, 1) := by decide +kernel
theorem dX1_findRing_74 : decode cX1_findRing 74 = .ok (.iload_n 3, 1) := by decide +kernel
theorem dX1_findRing_75 : decode cX1_findRing 75 = .ok (.iload_n 2, 1) := by decide +kernel
theorem dX1_findRing_76 : decode cX1_findRing 76 = .ok (.invokevirtual 48, 3) := by decide +kernel
theorem dX1_findRing_79 : decode cX1_findRing 79 = .ok (.iinc 3 1, 3) := by decide +kernel
theorem dX1_findRing_82 : decode cX1_findRing 82 = .ok (.goto (-50), 3) := by decide +kernel
theorem dX1_findRing_85 : decode cX1_findRing 85 = .ok (.return_, 1) := by decide +kernel
theorem dX1_awaited_0 : decode cX1_awaited 0 = .ok (.iconst 0, 1) := by decide +kernel
theorem dX1_awaited_1 : decode cX1_awaited 1 = .ok (.istore_n 3, 1) := by decide +kernel
theorem dX1_awaited_2 : decode cX1_awaited 2 = .ok (.iconst 0, 1) := by decide +kernel
theorem dX1_awaited_3 : decode cX1_awaited 3 = .ok (.istore 4, 2) := by decide +kernel
theorem dX1_awaited_5 : decode cX1_awaited 5 = .ok (.iload 4, 2) := by decide +kernel
theorem dX1_awaited_7 : decode cX1_awaited 7 = .ok (.aload_n 2, 1) := by decide +kernel
theorem dX1_awaited_8 : decode cX1_awaited 8 = .ok (.getfield 52, 3) := by decide +kernel
theorem dX1_awaited_11 : decode cX1_awaited 11 = .ok (.if_icmp .ge 41, 3) := by decide +kernel
theorem dX1_awaited_14 : decode cX1_awaited 14 = .ok (.aload_n 2, 1) := by decide +kernel
theorem dX1_awaited_15 : decode cX1_awaited 15 = .ok (.iload 4, 2) := by decide +kernel
theorem dX1_awaited_17 : decode cX1_awaited 17 = .ok (.invokevirtual 55, 3) := by decide +kernel
theorem dX1_awaited_20 : decode cX1_awaited 20 = .ok (.istore 5, 2) := by decide +kernel
theorem dX1_awaited_22 : decode cX1_awaited 22 = .ok (.iload 5, 2) := by decide +kernel
theorem dX1_awaited_24 : decode cX1_awaited 24 = .ok (.iconst (-1), 1) := by decide +kernel
theorem dX1_awaited_25 : decode cX1_awaited 25 = .ok (.if_icmp .eq 21, 3) := by decide +kernel
theorem dX1_awaited_28 : decode cX1_awaited 28 = .ok (.aload_n 0, 1) := by decide +kernel
theorem dX1_awaited_29 : decode cX1_awaited 29 = .ok (.iload_n 1, 1) := by decide +kernel
theorem dX1_awaited_30 : decode cX1_awaited 30 = .ok (.iload 4, 2) := by decide +kernel
theorem dX1_awaited_32 : decode cX1_awaited 32 = .ok (.invokevirtual 34, 3) := by decide +kernel
theorem dX1_awaited_35 : decode cX1_awaited 35 = .ok (.iconst (-1), 1) := by decide +kernel
theorem dX1_awaited_36 : decode cX1_awaited 36 = .ok (.if_icmp .eq 10, 3) := by decide +kernel
theorem dX1_awaited_39 : decode cX1_awaited 39 = .ok (.iload_n 3, 1) := by decide +kernel
theorem dX1_awaited_40 : decode cX1_awaited 40 = .ok (.iconst 1, 1) := by decide +kernel
theorem dX1_awaited_41 : decode cX1_awaited 41 = .ok (.iload 5, 2) := by decide +kernel
theorem dX1_awaited_43 : decode cX1_awaited 43 = .ok (.ishl, 1) := by decide +kernel
theorem dX1_awaited_44 : decode cX1_awaited 44 = .ok (.ior, 1) := by decide +kernel
theorem dX1_awaited_45 : decode cX1_awaited 45 = .ok (.istore_n 3, 1) := by decide +kernel
theorem dX1_awaited_46 : decode cX1_awaited 46 = .ok (.iinc 4 1, 3) := by decide +kernel
theorem dX1_awaited_49 : decode cX1_awaited 49 = .ok (.goto (-44), 3) := by decide +kernel
theorem dX1_awaited_52 : decode cX1_awaited 52 = .ok (.iload_n 3, 1) := by decide +kernel
theorem dX1_awaited_53 : decode cX1_awaited 53 = .ok (.ireturn, 1) := by decide +kernel
theorem dX1_shortestFrom_0 : decode cX1_shortestFrom 0 = .ok (.iconst 1, 1) := by decide +kernel
theorem dX1_shortestFrom_1 : decode cX1_shortestFrom 1 = .ok (.iload_n 1, 1) := by decide +kernel
theorem dX1_shortestFrom_2 : decode cX1_shortestFrom 2 = .ok (.ishl, 1) := by decide +kernel
theorem dX1_shortestFrom_3 : decode cX1_shortestFrom 3 = .ok (.istore_n 3, 1) := by decide +kernel
theorem dX1_shortestFrom_4 : decode cX1_shortestFrom 4 = .ok (.iload_n 3, 1) := by decide +kernel
theorem dX1_shortestFrom_5 : decode cX1_shortestFrom 5 = .ok (.istore 4, 2) := by decide +kernel
theorem dX1_shortestFrom_7 : decode cX1_shortestFrom 7 = .ok (.aload_n 0, 1) := by decide +kernel
theorem dX1_shortestFrom_8 : decode cX1_shortestFrom 8 = .ok (.getfield 18, 3) := by decide +kernel
theorem dX1_shortestFrom_11 : decode cX1_shortestFrom 11 = .ok (.iconst (-1), 1) := by decide +kernel
theorem dX1_shortestFrom_12 : decode cX1_shortestFrom 12 = .ok (.invokestatic 24, 3) := by decide +kernel
theorem dX1_shortestFrom_15 : decode cX1_shortestFrom 15 = .ok (.iconst 1, 1) := by decide +kernel
theorem dX1_shortestFrom_16 : decode cX1_shortestFrom 16 = .ok (.istore 5, 2) := by decide +kernel
theorem dX1_shortestFrom_18 : decode cX1_shortestFrom 18 = .ok (.iload 5, 2) := by decide +kernel
theorem dX1_shortestFrom_20 : decode cX1_shortestFrom 20 = .ok (.iload_n 2, 1) := by decide +kernel
theorem dX1_shortestFrom_21 : decode cX1_shortestFrom 21 = .ok (.if_icmp .ge 100, 3) := by decide +kernel
theorem dX1_shortestFrom_24 : decode cX1_shortestFrom 24 = .ok (.iload_n 3, 1) := by decide +kernel
theorem dX1_shortestFrom_25 : decode cX1_shortestFrom 25 = .ok (.ifCond .eq 96, 3) := by decide +kernel
theorem dX1_shortestFrom_28 : decode cX1_shortestFrom 28 = .ok (.iconst 0, 1) := by decide +kernel
theorem dX1_shortestFrom_29 : decode cX1_shortestFrom 29 = .ok (.istore 6, 2) := by decide +kernel
theorem dX1_shortestFrom_31 : decode cX1_shortestFrom 31 = .ok (.iload_n 1, 1) := by decide +kernel
theorem dX1_shortestFrom_32 : decode cX1_shortestFrom 32 = .ok (.iconst 1, 1) := by decide +kernel
theorem dX1_shortestFrom_33 : decode cX1_shortestFrom 33 = .ok (.iadd, 1) := by decide +kernel
theorem dX1_shortestFrom_34 : decode cX1_shortestFrom 34 = .ok (.istore 7, 2) := by decide +kernel
theorem dX1_shortestFrom_36 : decode cX1_shortestFrom 36 = .ok (.iload 7, 2) := by decide +kernel
theorem dX1_shortestFrom_38 : decode cX1_shortestFrom 38 = .ok (.iload_n 2, 1) := by decide +kernel
theorem dX1_shortestFrom_39 : decode cX1_shortestFrom 39 = .ok (.if_icmp .ge 49, 3) := by decide +kernel
theorem dX1_shortestFrom_42 : decode cX1_shortestFrom 42 = .ok (.iload 4, 2) := by decide +kernel
theorem dX1_shortestFrom_44 : decode cX1_shortestFrom 44 = .ok (.iload 7, 2) := by decide +kernel
theorem dX1_shortestFrom_46 : decode cX1_shortestFrom 46 = .ok (.invokestatic 59, 3) := by decide +kernel
theorem dX1_shortestFrom_49 : decode cX1_shortestFrom 49 = .ok (.ifCond .ne 33, 3) := by decide +kernel
theorem dX1_shortestFrom_52 : decode cX1_shortestFrom 52 = .ok (.aload_n 0, 1) := by decide +kernel
theorem dX1_shortestFrom_53 : decode cX1_shortestFrom 53 = .ok (.getfield 15, 3) := by decide +kernel
theorem dX1_shortestFrom_56 : decode cX1_shortestFrom 56 = .ok (.iload 7, 2) := by decide +kernel
theorem dX1_shortestFrom_58 : decode cX1_shortestFrom 58 = .ok (.iaload, 1) := by decide +kernel
theorem dX1_shortestFrom_59 : decode cX1_shortestFrom 59 = .ok (.iload_n 3, 1) := by decide +kernel
theorem dX1_shortestFrom_60 : decode cX1_shortestFrom 60 = .ok (.iand, 1) := by decide +kernel
theorem dX1_shortestFrom_61 : decode cX1_shortestFrom 61 = .ok (.ifCond .eq 21, 3) := by decide +kernel
theorem dX1_shortestFrom_64 : decode cX1_shortestFrom 64 = .ok (.iload 6, 2) := by decide +kernel
theorem dX1_shortestFrom_66 : decode cX1_shortestFrom 66 = .ok (.iconst 1, 1) := by decide +kernel
theorem dX1_shortestFrom_67 : decode cX1_shortestFrom 67 = .ok (.iload 7, 2) := by decide +kernel
theorem dX1_shortestFrom_69 : decode cX1_shortestFrom 69 = .ok (.ishl, 1) := by decide +kernel
theorem dX1_shortestFrom_70 : decode cX1_shortestFrom 70 = .ok (.ior, 1) := by decide +kernel
theorem dX1_shortestFrom_71 : decode cX1_shortestFrom 71 = .ok (.istore 6, 2) := by decide +kernel
theorem dX1_shortestFrom_73 : decode cX1_shortestFrom 73 = .ok (.aload_n 0, 1) := by decide +kernel
theorem dX1_shortestFrom_74 : decode cX1_shortestFrom 74 = .ok (.getfield 18, 3) := by decide +kernel
theorem dX1_shortestFrom_77 : decode cX1_shortestFrom 77 = .ok (.iload 7, 2) := by decide +kernel
theorem dX1_shortestFrom_79 : decode cX1_shortestFrom 79 = .ok (.iload 5, 2) := by decide +kernel
theorem dX1_shortestFrom_81 : decode cX1_shortestFrom 81 = .ok (.iastore, 1) := by decide +kernel
theorem dX1_shortestFrom_82 : decode cX1_shortestFrom 82 = .ok (.iinc 7 1, 3) := by decide +kernel
theorem dX1_shortestFrom_85 : decode cX1_shortestFrom 85 = .ok (.goto (-49), 3) := by decide +kernel
theorem dX1_shortestFrom_88 : decode cX1_shortestFrom 88 = .ok (.aload_n 0, 1) := by decide +kernel
theorem dX1_shortestFrom_89 : decode cX1_shortestFrom 89 = .ok (.getfield 15, 3) := by decide +kernel
theorem dX1_shortestFrom_92 : decode cX1_shortestFrom 92 = .ok (.iload_n 1, 1) := by decide +kernel
theorem dX1_shortestFrom_93 : decode cX1_shortestFrom 93 = .ok (.iaload, 1) := by decide +kernel
theorem dX1_shortestFrom_94 : decode cX1_shortestFrom 94 = .ok (.iload 6, 2) := by decide +kernel
theorem dX1_shortestFrom_96 : decode cX1_shortestFrom 96 = .ok (.iand, 1) := by decide +kernel
theorem dX1_shortestFrom_97 : decode cX1_shortestFrom 97 = .ok (.ifCond .eq 8, 3) := by decide +kernel
theorem dX1_shortestFrom_100 : decode cX1_shortestFrom 100 = .ok (.iload 5, 2) := by decide +kernel
theorem dX1_shortestFrom_102 : decode cX1_shortestFrom 102 = .ok (.iconst 1, 1) := by decide +kernel
theorem dX1_shortestFrom_103 : decode cX1_shortestFrom 103 = .ok (.iadd, 1) := by decide +kernel
theorem dX1_shortestFrom_104 : decode cX1_shortestFrom 104 = .ok (.ireturn, 1) := by decide +kernel
theorem dX1_shortestFrom_105 : decode cX1_shortestFrom 105 = .ok (.iload 4, 2) := by decide +kernel
theorem dX1_shortestFrom_107 : decode cX1_shortestFrom 107 = .ok (.iload 6, 2) := by decide +kernel
theorem dX1_shortestFrom_109 : decode cX1_shortestFrom 109 = .ok (.ior, 1) := by decide +kernel
theorem dX1_shortestFrom_110 : decode cX1_shortestFrom 110 = .ok (.istore 4, 2) := by decide +kernel
theorem dX1_shortestFrom_112 : decode cX1_shortestFrom 112 = .ok (.iload 6, 2) := by decide +kernel
theorem dX1_shortestFrom_114 : decode cX1_shortestFrom 114 = .ok (.istore_n 3, 1) := by decide +kernel
theorem dX1_shortestFrom_115 : decode cX1_shortestFrom 115 = .ok (.iinc 5 1, 3) := by decide +kernel
theorem dX1_shortestFrom_118 : decode cX1_shortestFrom 118 = .ok (.goto (-100), 3) := by decide +kernel
theorem dX1_shortestFrom_121 : decode cX1_shortestFrom 121 = .ok (.iconst (-1), 1) := by decide +kernel
theorem dX1_shortestFrom_122 : decode cX1_shortestFrom 122 = .ok (.ireturn, 1) := by decide +kernel
theorem dX1_tellFrom_0 : decode cX1_tellFrom 0 = .ok (.aload_n 0, 1) := by decide +kernel
theorem dX1_tellFrom_1 : decode cX1_tellFrom 1 = .ok (.getfield 21, 3) := by decide +kernel
theorem dX1_tellFrom_4 : decode cX1_tellFrom 4 = .ok (.iconst 0, 1) := by decide +kernel
theorem dX1_tellFrom_5 : decode cX1_tellFrom 5 = .ok (.iload_n 1, 1) := by decide +kernel
theorem dX1_tellFrom_6 : decode cX1_tellFrom 6 = .ok (.iastore, 1) := by decide +kernel
theorem dX1_tellFrom_7 : decode cX1_tellFrom 7 = .ok (.iconst 1, 1) := by decide +kernel
theorem dX1_tellFrom_8 : decode cX1_tellFrom 8 = .ok (.istore_n 3, 1) := by decide +kernel
theorem dX1_tellFrom_9 : decode cX1_tellFrom 9 = .ok (.iload_n 3, 1) := by decide +kernel
theorem dX1_tellFrom_10 : decode cX1_tellFrom 10 = .ok (.aload_n 0, 1) := by decide +kernel
theorem dX1_tellFrom_11 : decode cX1_tellFrom 11 = .ok (.getfield 42, 3) := by decide +kernel
theorem dX1_tellFrom_14 : decode cX1_tellFrom 14 = .ok (.if_icmp .ge 34, 3) := by decide +kernel
theorem dX1_tellFrom_17 : decode cX1_tellFrom 17 = .ok (.aload_n 0, 1) := by decide +kernel
theorem dX1_tellFrom_18 : decode cX1_tellFrom 18 = .ok (.getfield 21, 3) := by decide +kernel
theorem dX1_tellFrom_21 : decode cX1_tellFrom 21 = .ok (.iload_n 3, 1) := by decide +kernel
theorem dX1_tellFrom_22 : decode cX1_tellFrom 22 = .ok (.aload_n 0, 1) := by decide +kernel
theorem dX1_tellFrom_23 : decode cX1_tellFrom 23 = .ok (.aload_n 0, 1) := by decide +kernel
theorem dX1_tellFrom_24 : decode cX1_tellFrom 24 = .ok (.getfield 21, 3) := by decide +kernel
theorem dX1_tellFrom_27 : decode cX1_tellFrom 27 = .ok (.iload_n 3, 1) := by decide +kernel
theorem dX1_tellFrom_28 : decode cX1_tellFrom 28 = .ok (.iconst 1, 1) := by decide +kernel
theorem dX1_tellFrom_29 : decode cX1_tellFrom 29 = .ok (.isub, 1) := by decide +kernel
theorem dX1_tellFrom_30 : decode cX1_tellFrom 30 = .ok (.iaload, 1) := by decide +kernel
theorem dX1_tellFrom_31 : decode cX1_tellFrom 31 = .ok (.aload_n 0, 1) := by decide +kernel
theorem dX1_tellFrom_32 : decode cX1_tellFrom 32 = .ok (.getfield 42, 3) := by decide +kernel
theorem dX1_tellFrom_35 : decode cX1_tellFrom 35 = .ok (.iload_n 3, 1) := by decide +kernel
theorem dX1_tellFrom_36 : decode cX1_tellFrom 36 = .ok (.isub, 1) := by decide +kernel
theorem dX1_tellFrom_37 : decode cX1_tellFrom 37 = .ok (.iload_n 2, 1) := by decide +kernel
theorem dX1_tellFrom_38 : decode cX1_tellFrom 38 = .ok (.invokevirtual 63, 3) := by decide +kernel
theorem dX1_tellFrom_41 : decode cX1_tellFrom 41 = .ok (.iastore, 1) := by decide +kernel
theorem dX1_tellFrom_42 : decode cX1_tellFrom 42 = .ok (.iinc 3 1, 3) := by decide +kernel
theorem dX1_tellFrom_45 : decode cX1_tellFrom 45 = .ok (.goto (-36), 3) := by decide +kernel
theorem dX1_tellFrom_48 : decode cX1_tellFrom 48 = .ok (.return_, 1) := by decide +kernel
theorem dX1_lowestNext_0 : decode cX1_lowestNext 0 = .ok (.iconst 0, 1) := by decide +kernel
theorem dX1_lowestNext_1 : decode cX1_lowestNext 1 = .ok (.istore 4, 2) := by decide +kernel
theorem dX1_lowestNext_3 : decode cX1_lowestNext 3 = .ok (.iload 4, 2) := by decide +kernel
theorem dX1_lowestNext_5 : decode cX1_lowestNext 5 = .ok (.iload_n 3, 1) := by decide +kernel
theorem dX1_lowestNext_6 : decode cX1_lowestNext 6 = .ok (.if_icmp .ge 37, 3) := by decide +kernel
theorem dX1_lowestNext_9 : decode cX1_lowestNext 9 = .ok (.aload_n 0, 1) := by decide +kernel
theorem dX1_lowestNext_10 : decode cX1_lowestNext 10 = .ok (.getfield 15, 3) := by decide +kernel
theorem dX1_lowestNext_13 : decode cX1_lowestNext 13 = .ok (.iload_n 1, 1) := by decide +kernel
theorem dX1_lowestNext_14 : decode cX1_lowestNext 14 = .ok (.iaload, 1) := by decide +kernel
theorem dX1_lowestNext_15 : decode cX1_lowestNext 15 = .ok (.iload 4, 2) := by decide +kernel
theorem dX1_lowestNext_17 : decode cX1_lowestNext 17 = .ok (.invokestatic 59, 3) := by decide +kernel
theorem dX1_lowestNext_20 : decode cX1_lowestNext 20 = .ok (.ifCond .eq 17, 3) := by decide +kernel
theorem dX1_lowestNext_23 : decode cX1_lowestNext 23 = .ok (.aload_n 0, 1) := by decide +kernel
theorem dX1_lowestNext_24 : decode cX1_lowestNext 24 = .ok (.getfield 18, 3) := by decide +kernel
theorem dX1_lowestNext_27 : decode cX1_lowestNext 27 = .ok (.iload 4, 2) := by decide +kernel
theorem dX1_lowestNext_29 : decode cX1_lowestNext 29 = .ok (.iaload, 1) := by decide +kernel
theorem dX1_lowestNext_30 : decode cX1_lowestNext 30 = .ok (.iload_n 2, 1) := by decide +kernel
theorem dX1_lowestNext_31 : decode cX1_lowestNext 31 = .ok (.if_icmp .ne 6, 3) := by decide +kernel
theorem dX1_lowestNext_34 : decode cX1_lowestNext 34 = .ok (.iload 4, 2) := by decide +kernel
theorem dX1_lowestNext_36 : decode cX1_lowestNext 36 = .ok (.ireturn, 1) := by decide +kernel
theorem dX1_lowestNext_37 : decode cX1_lowestNext 37 = .ok (.iinc 4 1, 3) := by decide +kernel
theorem dX1_lowestNext_40 : decode cX1_lowestNext 40 = .ok (.goto (-37), 3) := by decide +kernel
theorem dX1_lowestNext_43 : decode cX1_lowestNext 43 = .ok (.iload_n 1, 1) := by decide +kernel
theorem dX1_lowestNext_44 : decode cX1_lowestNext 44 = .ok (.ireturn, 1) := by decide +kernel
theorem dX2_init_0 : decode cX2_init 0 = .ok (.aload_n 0, 1) := by decide +kernel
theorem dX2_init_1 : decode cX2_init 1 = .ok (.invokespecial 3, 3) := by decide +kernel
theorem dX2_init_4 : decode cX2_init 4 = .ok (.aload_n 0, 1) := by decide +kernel
theorem dX2_init_5 : decode cX2_init 5 = .ok (.bipush 32, 2) := by decide +kernel
theorem dX2_init_7 : decode cX2_init 7 = .ok (.newarray .int, 2) := by decide +kernel
theorem dX2_init_9 : decode cX2_init 9 = .ok (.putfield 9, 3) := by decide +kernel
theorem dX2_init_12 : decode cX2_init 12 = .ok (.aload_n 0, 1) := by decide +kernel
theorem dX2_init_13 : decode cX2_init 13 = .ok (.bipush 32, 2) := by decide +kernel
theorem dX2_init_15 : decode cX2_init 15 = .ok (.newarray .int, 2) := by decide +kernel
theorem dX2_init_17 : decode cX2_init 17 = .ok (.putfield 15, 3) := by decide +kernel
theorem dX2_init_20 : decode cX2_init 20 = .ok (.aload_n 0, 1) := by decide +kernel
theorem dX2_init_21 : decode cX2_init 21 = .ok (.bipush 32, 2) := by decide +kernel
theorem dX2_init_23 : decode cX2_init 23 = .ok (.newarray .int, 2) := by decide +kernel
theorem dX2_init_25 : decode cX2_init 25 = .ok (.putfield 18, 3) := by decide +kernel
theorem dX2_init_28 : decode cX2_init 28 = .ok (.aload_n 0, 1) := by decide +kernel
theorem dX2_init_29 : decode cX2_init 29 = .ok (.bipush 32, 2) := by decide +kernel
theorem dX2_init_31 : decode cX2_init 31 = .ok (.newarray .int, 2) := by decide +kernel
theorem dX2_init_33 : decode cX2_init 33 = .ok (.putfield 21, 3) := by decide +kernel
theorem dX2_init_36 : decode cX2_init 36 = .ok (.aload_n 0, 1) := by decide +kernel
theorem dX2_init_37 : decode cX2_init 37 = .ok (.bipush 32, 2) := by decide +kernel
theorem dX2_init_39 : decode cX2_init 39 = .ok (.newarray .int, 2) := by decide +kernel
theorem dX2_init_41 : decode cX2_init 41 = .ok (.putfield 24, 3) := by decide +kernel
theorem dX2_init_44 : decode cX2_init 44 = .ok (.aload_n 0, 1) := by decide +kernel
theorem dX2_init_45 : decode cX2_init 45 = .ok (.bipush 32, 2) := by decide +kernel
theorem dX2_init_47 : decode cX2_init 47 = .ok (.newarray .int, 2) := by decide +kernel
theorem dX2_init_49 : decode cX2_init 49 = .ok (.putfield 27, 3) := by decide +kernel
theorem dX2_init_52 : decode cX2_init 52 = .ok (.aload_n 0, 1) := by decide +kernel
theorem dX2_init_53 : decode cX2_init 53 = .ok (.bipush 32, 2) := by decide +kernel
theorem dX2_init_55 : decode cX2_init 55 = .ok (.newarray .int, 2) := by decide +kernel
theorem dX2_init_57 : decode cX2_init 57 = .ok (.putfield 30, 3) := by decide +kernel
theorem dX2_init_60 : decode cX2_init 60 = .ok (.aload_n 0, 1) := by decide +kernel
theorem dX2_init_61 : decode cX2_init 61 = .ok (.bipush 32, 2) := by decide +kernel
theorem dX2_init_63 : decode cX2_init 63 = .ok (.newarray .int, 2) := by decide +kernel
theorem dX2_init_65 : decode cX2_init 65 = .ok (.putfield 33, 3) := by decide +kernel
theorem dX2_init_68 : decode cX2_init 68 = .ok (.aload_n 0, 1) := by decide +kernel
theorem dX2_init_69 : decode cX2_init 69 = .ok (.bipush 32, 2) := by decide +kernel
theorem dX2_init_71 : decode cX2_init 71 = .ok (.newarray .int, 2) := by decide +kernel
theorem dX2_init_73 : decode cX2_init 73 = .ok (.putfield 36, 3) := by decide +kernel
theorem dX2_init_76 : decode cX2_init 76 = .ok (.aload_n 0, 1) := by decide +kernel
theorem dX2_init_77 : decode cX2_init 77 = .ok (.bipush 8, 2) := by decide +kernel
theorem dX2_init_79 : decode cX2_init 79 = .ok (.newarray .int, 2) := by decide +kernel
theorem dX2_init_81 : decode cX2_init 81 = .ok (.putfield 39, 3) := by decide +kernel
theorem dX2_init_84 : decode cX2_init 84 = .ok (.return_, 1) := by decide +kernel
theorem dX2_add_0 : decode cX2_add 0 = .ok (.aload_n 0, 1) := by decide +kernel
theorem dX2_add_1 : decode cX2_add 1 = .ok (.getfield 42, 3) := by decide +kernel
theorem dX2_add_4 : decode cX2_add 4 = .ok (.bipush 32, 2) := by decide +kernel
theorem dX2_add_6 : decode cX2_add 6 = .ok (.if_icmp .lt 5, 3) := by decide +kernel
theorem dX2_add_9 : decode cX2_add 9 = .ok (.iconst (-1), 1) := by decide +kernel
theorem dX2_add_10 : decode cX2_add 10 = .ok (.ireturn, 1) := by decide +kernel
theorem dX2_add_11 : decode cX2_add 11 = .ok (.aload_n 0, 1) := by decide +kernel
theorem dX2_add_12 : decode cX2_add 12 = .ok (.getfield 9, 3) := by decide +kernel
theorem dX2_add_15 : decode cX2_add 15 = .ok (.aload_n 0, 1) := by decide +kernel
theorem dX2_add_16 : decode cX2_add 16 = .ok (.getfield 42, 3) := by decide +kernel
theorem dX2_add_19 : decode cX2_add 19 = .ok (.iload_n 1, 1) := by decide +kernel
theorem dX2_add_20 : decode cX2_add 20 = .ok (.iastore, 1) := by decide +kernel
theorem dX2_add_21 : decode cX2_add 21 = .ok (.aload_n 0, 1) := by decide +kernel
theorem dX2_add_22 : decode cX2_add 22 = .ok (.getfield 15, 3) := by decide +kernel
theorem dX2_add_25 : decode cX2_add 25 = .ok (.aload_n 0, 1) := by decide +kernel
theorem dX2_add_26 : decode cX2_add 26 = .ok (.getfield 42, 3) := by decide +kernel
theorem dX2_add_29 : decode cX2_add 29 = .ok (.iload_n 2, 1) := by decide +kernel
theorem dX2_add_30 : decode cX2_add 30 = .ok (.iastore, 1) := by decide +kernel
theorem dX2_add_31 : decode cX2_add 31 = .ok (.aload_n 0, 1) := by decide +kernel
theorem dX2_add_32 : decode cX2_add 32 = .ok (.getfield 18, 3) := by decide +kernel
theorem dX2_add_35 : decode cX2_add 35 = .ok (.aload_n 0, 1) := by decide +kernel
theorem dX2_add_36 : decode cX2_add 36 = .ok (.getfield 42, 3) := by decide +kernel
theorem dX2_add_39 : decode cX2_add 39 = .ok (.iload_n 3, 1) := by decide +kernel
theorem dX2_add_40 : decode cX2_add 40 = .ok (.iastore, 1) := by decide +kernel
theorem dX2_add_41 : decode cX2_add 41 = .ok (.aload_n 0, 1) := by decide +kernel
theorem dX2_add_42 : decode cX2_add 42 = .ok (.getfield 21, 3) := by decide +kernel
theorem dX2_add_45 : decode cX2_add 45 = .ok (.aload_n 0, 1) := by decide +kernel
theorem dX2_add_46 : decode cX2_add 46 = .ok (.getfield 42, 3) := by decide +kernel
theorem dX2_add_49 : decode cX2_add 49 = .ok (.iload 4, 2) := by decide +kernel
theorem dX2_add_51 : decode cX2_add 51 = .ok (.iastore, 1) := by decide +kernel
theorem dX2_add_52 : decode cX2_add 52 = .ok (.aload_n 0, 1) := by decide +kernel
theorem dX2_add_53 : decode cX2_add 53 = .ok (.getfield 24, 3) := by decide +kernel
theorem dX2_add_56 : decode cX2_add 56 = .ok (.aload_n 0, 1) := by decide +kernel
theorem dX2_add_57 : decode cX2_add 57 = .ok (.getfield 42, 3) := by decide +kernel
theorem dX2_add_60 : decode cX2_add 60 = .ok (.iconst 0, 1) := by decide +kernel
theorem dX2_add_61 : decode cX2_add 61 = .ok (.iastore, 1) := by decide +kernel
theorem dX2_add_62 : decode cX2_add 62 = .ok (.aload_n 0, 1) := by decide +kernel
theorem dX2_add_63 : decode cX2_add 63 = .ok (.getfield 27, 3) := by decide +kernel
theorem dX2_add_66 : decode cX2_add 66 = .ok (.aload_n 0, 1) := by decide +kernel
theorem dX2_add_67 : decode cX2_add 67 = .ok (.getfield 42, 3) := by decide +kernel
theorem dX2_add_70 : decode cX2_add 70 = .ok (.iconst (-1), 1) := by decide +kernel
theorem dX2_add_71 : decode cX2_add 71 = .ok (.iastore, 1) := by decide +kernel
theorem dX2_add_72 : decode cX2_add 72 = .ok (.aload_n 0, 1) := by decide +kernel
theorem dX2_add_73 : decode cX2_add 73 = .ok (.getfield 39, 3) := by decide +kernel
theorem dX2_add_76 : decode cX2_add 76 = .ok (.iload_n 1, 1) := by decide +kernel
theorem dX2_add_77 : decode cX2_add 77 = .ok (.dup2, 1) := by decide +kernel
theorem dX2_add_78 : decode cX2_add 78 = .ok (.iaload, 1) := by decide +kernel
theorem dX2_add_79 : decode cX2_add 79 = .ok (.iconst 1, 1) := by decide +kernel
theorem dX2_add_80 : decode cX2_add 80 = .ok (.aload_n 0, 1) := by decide +kernel
theorem dX2_add_81 : decode cX2_add 81 = .ok (.getfield 42, 3) := by decide +kernel
theorem dX2_add_84 : decode cX2_add 84 = .ok (.ishl, 1) := by decide +kernel
theorem dX2_add_85 : decode cX2_add 85 = .ok (.ior, 1) := by decide +kernel
theorem dX2_add_86 : decode cX2_add 86 = .ok (.iastore, 1) := by decide +kernel
theorem dX2_add_87 : decode cX2_add 87 = .ok (.aload_n 0, 1) := by decide +kernel
theorem dX2_add_88 : decode cX2_add 88 = .ok (.dup, 1) := by decide +kernel
theorem dX2_add_89 : decode cX2_add 89 = .ok (.getfield 42, 3) := by decide +kernel
theorem dX2_add_92 : decode cX2_add 92 = .ok (.iconst 1, 1) := by decide +kernel
theorem dX2_add_93 : decode cX2_add 93 = .ok (.iadd, 1) := by decide +kernel
theorem dX2_add_94 : decode cX2_add 94 = .ok (.putfield 42, 3) := by decide +kernel
theorem dX2_add_97 : decode cX2_add 97 = .ok (.aload_n 0, 1) := by decide +kernel
theorem dX2_add_98 : decode cX2_add 98 = .ok (.getfield 42, 3) := by decide +kernel
theorem dX2_add_101 : decode cX2_add 101 = .ok (.iconst 1, 1) := by decide +kernel
theorem dX2_add_102 : decode cX2_add 102 = .ok (.isub, 1) := by decide +kernel
theorem dX2_add_103 : decode cX2_add 103 = .ok (.ireturn, 1) := by decide +kernel
theorem dX2_has_0 : decode cX2_has 0 = .ok (.iload_n 1, 1) := by decide +kernel
theorem dX2_has_1 : decode cX2_has 1 = .ok (.iconst 0, 1) := by decide +kernel
theorem dX2_has_2 : decode cX2_has 2 = .ok (.aload_n 0, 1) := by decide +kernel
theorem dX2_has_3 : decode cX2_has 3 = .ok (.getfield 42, 3) := by decide +kernel
theorem dX2_has_6 : decode cX2_has 6 = .ok (.iconst 1, 1) := by decide +kernel
theorem dX2_has_7 : decode cX2_has 7 = .ok (.isub, 1) := by decide +kernel
theorem dX2_has_8 : decode cX2_has 8 = .ok (.invokestatic 46, 3) := by decide +kernel
theorem dX2_has_11 : decode cX2_has 11 = .ok (.ireturn, 1) := by decide +kernel
theorem dX2_all_0 : decode cX2_all 0 = .ok (.aload_n 0, 1) := by decide +kernel
theorem dX2_all_1 : decode cX2_all 1 = .ok (.getfield 42, 3) := by decide +kernel
theorem dX2_all_4 : decode cX2_all 4 = .ok (.bipush 32, 2) := by decide +kernel
theorem dX2_all_6 : decode cX2_all 6 = .ok (.if_icmp .lt 7, 3) := by decide +kernel
theorem dX2_all_9 : decode cX2_all 9 = .ok (.iconst (-1), 1) := by decide +kernel
theorem dX2_all_10 : decode cX2_all 10 = .ok (.goto 11, 3) := by decide +kernel
theorem dX2_all_13 : decode cX2_all 13 = .ok (.iconst 1, 1) := by decide +kernel
theorem dX2_all_14 : decode cX2_all 14 = .ok (.aload_n 0, 1) := by decide +kernel
theorem dX2_all_15 : decode cX2_all 15 = .ok (.getfield 42, 3) := by decide +kernel
theorem dX2_all_18 : decode cX2_all 18 = .ok (.ishl, 1) := by decide +kernel
theorem dX2_all_19 : decode cX2_all 19 = .ok (.iconst 1, 1) := by decide +kernel
theorem dX2_all_20 : decode cX2_all 20 = .ok (.isub, 1) := by decide +kernel
theorem dX2_all_21 : decode cX2_all 21 = .ok (.ireturn, 1) := by decide +kernel
theorem dX2_wasHad_0 : decode cX2_wasHad 0 = .ok (.aload_n 0, 1) := by decide +kernel
theorem dX2_wasHad_1 : decode cX2_wasHad 1 = .ok (.getfield 36, 3) := by decide +kernel
theorem dX2_wasHad_4 : decode cX2_wasHad 4 = .ok (.iload_n 1, 1) := by decide +kernel
theorem dX2_wasHad_5 : decode cX2_wasHad 5 = .ok (.iaload, 1) := by decide +kernel
theorem dX2_wasHad_6 : decode cX2_wasHad 6 = .ok (.iload_n 2, 1) := by decide +kernel
theorem dX2_wasHad_7 : decode cX2_wasHad 7 = .ok (.invokestatic 50, 3) := by decide +kernel
theorem dX2_wasHad_10 : decode cX2_wasHad 10 = .ok (.ireturn, 1) := by decide +kernel
theorem dX2_vanOf_0 : decode cX2_vanOf 0 = .ok (.aload_n 0, 1) := by decide +kernel
theorem dX2_vanOf_1 : decode cX2_vanOf 1 = .ok (.getfield 24, 3) := by decide +kernel
theorem dX2_vanOf_4 : decode cX2_vanOf 4 = .ok (.iload_n 1, 1) := by decide +kernel
theorem dX2_vanOf_5 : decode cX2_vanOf 5 = .ok (.iaload, 1) := by decide +kernel
theorem dX2_vanOf_6 : decode cX2_vanOf 6 = .ok (.iconst 1, 1) := by decide +kernel
theorem dX2_vanOf_7 : decode cX2_vanOf 7 = .ok (.iconst 3, 1) := by decide +kernel
theorem dX2_vanOf_8 : decode cX2_vanOf 8 = .ok (.invokestatic 46, 3) := by decide +kernel
theorem dX2_vanOf_11 : decode cX2_vanOf 11 = .ok (.ifCond .eq 14, 3) := by decide +kernel
theorem dX2_vanOf_14 : decode cX2_vanOf 14 = .ok (.aload_n 0, 1) := by decide +kernel
theorem dX2_vanOf_15 : decode cX2_vanOf 15 = .ok (.getfield 24, 3) := by decide +kernel
theorem dX2_vanOf_18 : decode cX2_vanOf 18 = .ok (.iload_n 1, 1) := by decide +kernel
theorem dX2_vanOf_19 : decode cX2_vanOf 19 = .ok (.iaload, 1) := by decide +kernel
theorem dX2_vanOf_20 : decode cX2_vanOf 20 = .ok (.iconst 1, 1) := by decide +kernel
theorem dX2_vanOf_21 : decode cX2_vanOf 21 = .ok (.isub, 1) := by decide +kernel
theorem dX2_vanOf_22 : decode cX2_vanOf 22 = .ok (.goto 4, 3) := by decide +kernel
theorem dX2_vanOf_25 : decode cX2_vanOf 25 = .ok (.iconst (-1), 1) := by decide +kernel
theorem dX2_vanOf_26 : decode cX2_vanOf 26 = .ok (.ireturn, 1) := by decide +kernel
theorem dX2_holder_0 : decode cX2_holder 0 = .ok (.aload_n 0, 1) := by decide +kernel
theorem dX2_holder_1 : decode cX2_holder 1 = .ok (.getfield 24, 3) := by decide +kernel
theorem dX2_holder_4 : decode cX2_holder 4 = .ok (.iload_n 1, 1) := by decide +kernel
theorem dX2_holder_5 : decode cX2_holder 5 = .ok (.iaload, 1) := by decide +kernel
theorem dX2_holder_6 : decode cX2_holder 6 = .ok (.bipush 10, 2) := by decide +kernel
theorem dX2_holder_8 : decode cX2_holder 8 = .ok (.bipush 25, 2) := by decide +kernel
theorem dX2_holder_10 : decode cX2_holder 10 = .ok (.invokestatic 46, 3) := by decide +kernel
theorem dX2_holder_13 : decode cX2_holder 13 = .ok (.ifCond .eq 15, 3) := by decide +kernel
theorem dX2_holder_16 : decode cX2_holder 16 = .ok (.aload_n 0, 1) := by decide +kernel
theorem dX2_holder_17 : decode cX2_holder 17 = .ok (.getfield 24, 3) := by decide +kernel
theorem dX2_holder_20 : decode cX2_holder 20 = .ok (.iload_n 1, 1) := by decide +kernel
theorem dX2_holder_21 : decode cX2_holder 21 = .ok (.iaload, 1) := by decide +kernel
theorem dX2_holder_22 : decode cX2_holder 22 = .ok (.bipush 10, 2) := by decide +kernel
theorem dX2_holder_24 : decode cX2_holder 24 = .ok (.isub, 1) := by decide +kernel
theorem dX2_holder_25 : decode cX2_holder 25 = .ok (.goto 4, 3) := by decide +kernel
theorem dX2_holder_28 : decode cX2_holder 28 = .ok (.iconst (-1), 1) := by decide +kernel
theorem dX2_holder_29 : decode cX2_holder 29 = .ok (.ireturn, 1) := by decide +kernel
theorem dX2_lengthOn_0 : decode cX2_lengthOn 0 = .ok (.iconst 0, 1) := by decide +kernel
theorem dX2_lengthOn_1 : decode cX2_lengthOn 1 = .ok (.istore_n 2, 1) := by decide +kernel
theorem dX2_lengthOn_2 : decode cX2_lengthOn 2 = .ok (.iconst 0, 1) := by decide +kernel
theorem dX2_lengthOn_3 : decode cX2_lengthOn 3 = .ok (.istore_n 3, 1) := by decide +kernel
theorem dX2_lengthOn_4 : decode cX2_lengthOn 4 = .ok (.iload_n 3, 1) := by decide +kernel
theorem dX2_lengthOn_5 : decode cX2_lengthOn 5 = .ok (.aload_n 0, 1) := by decide +kernel
theorem dX2_lengthOn_6 : decode cX2_lengthOn 6 = .ok (.getfield 42, 3) := by decide +kernel
theorem dX2_lengthOn_9 : decode cX2_lengthOn 9 = .ok (.if_icmp .ge 27, 3) := by decide +kernel
theorem dX2_lengthOn_12 : decode cX2_lengthOn 12 = .ok (.aload_n 0, 1) := by decide +kernel
theorem dX2_lengthOn_13 : decode cX2_lengthOn 13 = .ok (.iload_n 3, 1) := by decide +kernel
theorem dX2_lengthOn_14 : decode cX2_lengthOn 14 = .ok (.invokevirtual 54, 3) := by decide +kernel
theorem dX2_lengthOn_17 : decode cX2_lengthOn 17 = .ok (.iload_n 1, 1) := by decide +kernel
theorem dX2_lengthOn_18 : decode cX2_lengthOn 18 = .ok (.if_icmp .ne 12, 3) := by decide +kernel
theorem dX2_lengthOn_21 : decode cX2_lengthOn 21 = .ok (.iload_n 2, 1) := by decide +kernel
theorem dX2_lengthOn_22 : decode cX2_lengthOn 22 = .ok (.aload_n 0, 1) := by decide +kernel
theorem dX2_lengthOn_23 : decode cX2_lengthOn 23 = .ok (.getfield 15, 3) := by decide +kernel
theorem dX2_lengthOn_26 : decode cX2_lengthOn 26 = .ok (.iload_n 3, 1) := by decide +kernel
theorem dX2_lengthOn_27 : decode cX2_lengthOn 27 = .ok (.iaload, 1) := by decide +kernel
theorem dX2_lengthOn_28 : decode cX2_lengthOn 28 = .ok (.iadd, 1) := by decide +kernel
theorem dX2_lengthOn_29 : decode cX2_lengthOn 29 = .ok (.istore_n 2, 1) := by decide +kernel
theorem dX2_lengthOn_30 : decode cX2_lengthOn 30 = .ok (.iinc 3 1, 3) := by decide +kernel
theorem dX2_lengthOn_33 : decode cX2_lengthOn 33 = .ok (.goto (-29), 3) := by decide +kernel
theorem dX2_lengthOn_36 : decode cX2_lengthOn 36 = .ok (.iload_n 2, 1) := by decide +kernel
theorem dX2_lengthOn_37 : decode cX2_lengthOn 37 = .ok (.ireturn, 1) := by decide +kernel
theorem dX2_lengthOf_0 : decode cX2_lengthOf 0 = .ok (.iconst 0, 1) := by decide +kernel
theorem dX2_lengthOf_1 : decode cX2_lengthOf 1 = .ok (.istore_n 2, 1) := by decide +kernel
theorem dX2_lengthOf_2 : decode cX2_lengthOf 2 = .ok (.iconst 0, 1) := by decide +kernel
theorem dX2_lengthOf_3 : decode cX2_lengthOf 3 = .ok (.istore_n 3, 1) := by decide +kernel
theorem dX2_lengthOf_4 : decode cX2_lengthOf 4 = .ok (.iload_n 3, 1) := by decide +kernel
theorem dX2_lengthOf_5 : decode cX2_lengthOf 5 = .ok (.aload_n 0, 1) := by decide +kernel
theorem dX2_lengthOf_6 : decode cX2_lengthOf 6 = .ok (.getfield 42, 3) := by decide +kernel
theorem dX2_lengthOf_9 : decode cX2_lengthOf 9 = .ok (.if_icmp .ge 26, 3) := by decide +kernel
theorem dX2_lengthOf_12 : decode cX2_lengthOf 12 = .ok (.iload_n 1, 1) := by decide +kernel
theorem dX2_lengthOf_13 : decode cX2_lengthOf 13 = .ok (.iload_n 3, 1) := by decide +kernel
theorem dX2_lengthOf_14 : decode cX2_lengthOf 14 = .ok (.invokestatic 50, 3) := by decide +kernel
theorem dX2_lengthOf_17 : decode cX2_lengthOf 17 = .ok (.ifCond .eq 12, 3) := by decide +kernel
theorem dX2_lengthOf_20 : decode cX2_lengthOf 20 = .ok (.iload_n 2, 1) := by decide +kernel
theorem dX2_lengthOf_21 : decode cX2_lengthOf 21 = .ok (.aload_n 0, 1) := by decide +kernel
theorem dX2_lengthOf_22 : decode cX2_lengthOf 22 = .ok (.getfield 15, 3) := by decide +kernel
theorem dX2_lengthOf_25 : decode cX2_lengthOf 25 = .ok (.iload_n 3, 1) := by decide +kernel
theorem dX2_lengthOf_26 : decode cX2_lengthOf 26 = .ok (.iaload, 1) := by decide +kernel
theorem dX2_lengthOf_27 : decode cX2_lengthOf 27 = .ok (.iadd, 1) := by decide +kernel
theorem dX2_lengthOf_28 : decode cX2_lengthOf 28 = .ok (.istore_n 2, 1) := by decide +kernel
theorem dX2_lengthOf_29 : decode cX2_lengthOf 29 = .ok (.iinc 3 1, 3) := by decide +kernel
theorem dX2_lengthOf_32 : decode cX2_lengthOf 32 = .ok (.goto (-28), 3) := by decide +kernel
theorem dX2_lengthOf_35 : decode cX2_lengthOf 35 = .ok (.iload_n 2, 1) := by decide +kernel
theorem dX2_lengthOf_36 : decode cX2_lengthOf 36 = .ok (.ireturn, 1) := by decide +kernel
theorem dX2_loansOfKind_0 : decode cX2_loansOfKind 0 = .ok (.iconst 0, 1) := by decide +kernel
theorem dX2_loansOfKind_1 : decode cX2_loansOfKind 1 = .ok (.istore_n 2, 1) := by decide +kernel
theorem dX2_loansOfKind_2 : decode cX2_loansOfKind 2 = .ok (.iconst 0, 1) := by decide +kernel
theorem dX2_loansOfKind_3 : decode cX2_loansOfKind 3 = .ok (.istore_n 3, 1) := by decide +kernel
theorem dX2_loansOfKind_4 : decode cX2_loansOfKind 4 = .ok (.iload_n 3, 1) := by decide +kernel
theorem dX2_loansOfKind_5 : decode cX2_loansOfKind 5 = .ok (.aload_n 0, 1) := by decide +kernel
theorem dX2_loansOfKind_6 : decode cX2_loansOfKind 6 = .ok (.getfield 42, 3) := by decide +kernel
theorem dX2_loansOfKind_9 : decode cX2_loansOfKind 9 = .ok (.if_icmp .ge 28, 3) := by decide +kernel
theorem dX2_loansOfKind_12 : decode cX2_loansOfKind 12 = .ok (.aload_n 0, 1) := by decide +kernel
theorem dX2_loansOfKind_13 : decode cX2_loansOfKind 13 = .ok (.getfield 9, 3) := by decide +kernel
theorem dX2_loansOfKind_16 : decode cX2_loansOfKind 16 = .ok (.iload_n 3, 1) := by decide +kernel
theorem dX2_loansOfKind_17 : decode cX2_loansOfKind 17 = .ok (.iaload, 1) := by decide +kernel
theorem dX2_loansOfKind_18 : decode cX2_loansOfKind 18 = .ok (.iload_n 1, 1) := by decide +kernel
theorem dX2_loansOfKind_19 : decode cX2_loansOfKind 19 = .ok (.if_icmp .ne 12, 3) := by decide +kernel
theorem dX2_loansOfKind_22 : decode cX2_loansOfKind 22 = .ok (.iload_n 2, 1) := by decide +kernel
theorem dX2_loansOfKind_23 : decode cX2_loansOfKind 23 = .ok (.aload_n 0, 1) := by decide +kernel
theorem dX2_loansOfKind_24 : decode cX2_loansOfKind 24 = .ok (.getfield 30, 3) := by decide +kernel
theorem dX2_loansOfKind_27 : decode cX2_loansOfKind 27 = .ok (.iload_n 3, 1) := by decide +kernel
theorem dX2_loansOfKind_28 : decode cX2_loansOfKind 28 = .ok (.iaload, 1) := by decide +kernel
theorem dX2_loansOfKind_29 : decode cX2_loansOfKind 29 = .ok (.iadd, 1) := by decide +kernel
theorem dX2_loansOfKind_30 : decode cX2_loansOfKind 30 = .ok (.istore_n 2, 1) := by decide +kernel
theorem dX2_loansOfKind_31 : decode cX2_loansOfKind 31 = .ok (.iinc 3 1, 3) := by decide +kernel
theorem dX2_loansOfKind_34 : decode cX2_loansOfKind 34 = .ok (.goto (-30), 3) := by decide +kernel
theorem dX2_loansOfKind_37 : decode cX2_loansOfKind 37 = .ok (.iload_n 2, 1) := by decide +kernel
theorem dX2_loansOfKind_38 : decode cX2_loansOfKind 38 = .ok (.ireturn, 1) := by decide +kernel
theorem dX3_init_0 : decode cX3_init 0 = .ok (.aload_n 0, 1) := by decide +kernel
theorem dX3_init_1 : decode cX3_init 1 = .ok (.invokespecial 3, 3) := by decide +kernel
theorem dX3_init_4 : decode cX3_init 4 = .ok (.aload_n 0, 1) := by decide +kernel
theorem dX3_init_5 : decode cX3_init 5 = .ok (.sipush 200, 3) := by decide +kernel
theorem dX3_init_8 : decode cX3_init 8 = .ok (.newarray .int, 2) := by decide +kernel
theorem dX3_init_10 : decode cX3_init 10 = .ok (.putfield 9, 3) := by decide +kernel
theorem dX3_init_13 : decode cX3_init 13 = .ok (.aload_n 0, 1) := by decide +kernel
theorem dX3_init_14 : decode cX3_init 14 = .ok (.sipush 200, 3) := by decide +kernel
theorem dX3_init_17 : decode cX3_init 17 = .ok (.newarray .int, 2) := by decide +kernel
theorem dX3_init_19 : decode cX3_init 19 = .ok (.putfield 15, 3) := by decide +kernel
theorem dX3_init_22 : decode cX3_init 22 = .ok (.aload_n 0, 1) := by decide +kernel
theorem dX3_init_23 : decode cX3_init 23 = .ok (.bipush 14, 2) := by decide +kernel
theorem dX3_init_25 : decode cX3_init 25 = .ok (.newarray .int, 2) := by decide +kernel
theorem dX3_init_27 : decode cX3_init 27 = .ok (.putfield 18, 3) := by decide +kernel
theorem dX3_init_30 : decode cX3_init 30 = .ok (.aload_n 0, 1) := by decide +kernel
theorem dX3_init_31 : decode cX3_init 31 = .ok (.bipush 14, 2) := by decide +kernel
theorem dX3_init_33 : decode cX3_init 33 = .ok (.newarray .int, 2) := by decide +kernel
theorem dX3_init_35 : decode cX3_init 35 = .ok (.putfield 21, 3) := by decide +kernel
theorem dX3_init_38 : decode cX3_init 38 = .ok (.aload_n 0, 1) := by decide +kernel
theorem dX3_init_39 : decode cX3_init 39 = .ok (.bipush 14, 2) := by decide +kernel
theorem dX3_init_41 : decode cX3_init 41 = .ok (.newarray .int, 2) := by decide +kernel
theorem dX3_init_43 : decode cX3_init 43 = .ok (.putfield 24, 3) := by decide +kernel
theorem dX3_init_46 : decode cX3_init 46 = .ok (.aload_n 0, 1) := by decide +kernel
theorem dX3_init_47 : decode cX3_init 47 = .ok (.bipush 14, 2) := by decide +kernel
theorem dX3_init_49 : decode cX3_init 49 = .ok (.newarray .int, 2) := by decide +kernel
theorem dX3_init_51 : decode cX3_init 51 = .ok (.putfield 27, 3) := by decide +kernel
theorem dX3_init_54 : decode cX3_init 54 = .ok (.aload_n 0, 1) := by decide +kernel
theorem dX3_init_55 : decode cX3_init 55 = .ok (.bipush 64, 2) := by decide +kernel
theorem dX3_init_57 : decode cX3_init 57 = .ok (.newarray .int, 2) := by decide +kernel
theorem dX3_init_59 : decode cX3_init 59 = .ok (.putfield 30, 3) := by decide +kernel
theorem dX3_init_62 : decode cX3_init 62 = .ok (.return_, 1) := by decide +kernel
theorem dX3_clear_0 : decode cX3_clear 0 = .ok (.aload_n 0, 1) := by decide +kernel
theorem dX3_clear_1 : decode cX3_clear 1 = .ok (.iconst 0, 1) := by decide +kernel
theorem dX3_clear_2 : decode cX3_clear 2 = .ok (.putfield 33, 3) := by decide +kernel
theorem dX3_clear_5 : decode cX3_clear 5 = .ok (.aload_n 0, 1) := by decide +kernel
theorem dX3_clear_6 : decode cX3_clear 6 = .ok (.iconst 0, 1) := by decide +kernel
theorem dX3_clear_7 : decode cX3_clear 7 = .ok (.putfield 37, 3) := by decide +kernel
theorem dX3_clear_10 : decode cX3_clear 10 = .ok (.return_, 1) := by decide +kernel
theorem dX3_emit_0 : decode cX3_emit 0 = .ok (.aload_n 0, 1) := by decide +kernel
theorem dX3_emit_1 : decode cX3_emit 1 = .ok (.getfield 33, 3) := by decide +kernel
theorem dX3_emit_4 : decode cX3_emit 4 = .ok (.sipush 200, 3) := by decide +kernel
theorem dX3_emit_7 : decode cX3_emit 7 = .ok (.if_icmp .ge 33, 3) := by decide +kernel
theorem dX3_emit_10 : decode cX3_emit 10 = .ok (.aload_n 0, 1) := by decide +kernel
theorem dX3_emit_11 : decode cX3_emit 11 = .ok (.getfield 9, 3) := by decide +kernel
theorem dX3_emit_14 : decode cX3_emit 14 = .ok (.aload_n 0, 1) := by decide +kernel
theorem dX3_emit_15 : decode cX3_emit 15 = .ok (.getfield 33, 3) := by decide +kernel
theorem dX3_emit_18 : decode cX3_emit 18 = .ok (.iload_n 1, 1) := by decide +kernel
theorem dX3_emit_19 : decode cX3_emit 19 = .ok (.iastore, 1) := by decide +kernel
theorem dX3_emit_20 : decode cX3_emit 20 = .ok (.aload_n 0, 1) := by decide +kernel
theorem dX3_emit_21 : decode cX3_emit 21 = .ok (.getfield 15, 3) := by decide +kernel
theorem dX3_emit_24 : decode cX3_emit 24 = .ok (.aload_n 0, 1) := by decide +kernel
theorem dX3_emit_25 : decode cX3_emit 25 = .ok (.getfield 33, 3) := by decide +kernel
theorem dX3_emit_28 : decode cX3_emit 28 = .ok (.iload_n 2, 1) := by decide +kernel
theorem dX3_emit_29 : decode cX3_emit 29 = .ok (.iastore, 1) := by decide +kernel
theorem dX3_emit_30 : decode cX3_emit 30 = .ok (.aload_n 0, 1) := by decide +kernel
theorem dX3_emit_31 : decode cX3_emit 31 = .ok (.dup, 1) := by decide +kernel
theorem dX3_emit_32 : decode cX3_emit 32 = .ok (.getfield 33, 3) := by decide +kernel
theorem dX3_emit_35 : decode cX3_emit 35 = .ok (.iconst 1, 1) := by decide +kernel
theorem dX3_emit_36 : decode cX3_emit 36 = .ok (.iadd, 1) := by decide +kernel
theorem dX3_emit_37 : decode cX3_emit 37 = .ok (.putfield 33, 3) := by decide +kernel
theorem dX3_emit_40 : decode cX3_emit 40 = .ok (.return_, 1) := by decide +kernel
theorem dX3_aimHere_0 : decode cX3_aimHere 0 = .ok (.iload_n 1, 1) := by decide +kernel
theorem dX3_aimHere_1 : decode cX3_aimHere 1 = .ok (.iconst 0, 1) := by decide +kernel
theorem dX3_aimHere_2 : decode cX3_aimHere 2 = .ok (.sipush 199, 3) := by decide +kernel
theorem dX3_aimHere_5 : decode cX3_aimHere 5 = .ok (.invokestatic 40, 3) := by decide +kernel
theorem dX3_aimHere_8 : decode cX3_aimHere 8 = .ok (.ifCond .eq 13, 3) := by decide +kernel
theorem dX3_aimHere_11 : decode cX3_aimHere 11 = .ok (.aload_n 0, 1) := by decide +kernel
theorem dX3_aimHere_12 : decode cX3_aimHere 12 = .ok (.getfield 15, 3) := by decide +kernel
theorem dX3_aimHere_15 : decode cX3_aimHere 15 = .ok (.iload_n 1, 1) := by decide +kernel
theorem dX3_aimHere_16 : decode cX3_aimHere 16 = .ok (.aload_n 0, 1) := by decide +kernel
theorem dX3_aimHere_17 : decode cX3_aimHere 17 = .ok (.getfield 33, 3) := by decide +kernel
theorem dX3_aimHere_20 : decode cX3_aimHere 20 = .ok (.iastore, 1) := by decide +kernel
theorem dX3_aimHere_21 : decode cX3_aimHere 21 = .ok (.return_, 1) := by decide +kernel
theorem dX3_answer_0 : decode cX3_answer 0 = .ok (.iconst 0, 1) := by decide +kernel
theorem dX3_answer_1 : decode cX3_answer 1 = .ok (.istore 4, 2) := by decide +kernel
theorem dX3_answer_3 : decode cX3_answer 3 = .ok (.iload 4, 2) := by decide +kernel
theorem dX3_answer_5 : decode cX3_answer 5 = .ok (.aload_n 0, 1) := by decide +kernel
theorem dX3_answer_6 : decode cX3_answer 6 = .ok (.getfield 37, 3) := by decide +kernel
theorem dX3_answer_9 : decode cX3_answer 9 = .ok (.if_icmp .ge 62, 3) := by decide +kernel
theorem dX3_answer_12 : decode cX3_answer 12 = .ok (.aload_n 0, 1) := by decide +kernel
theorem dX3_answer_13 : decode cX3_answer 13 = .ok (.getfield 18, 3) := by decide +kernel
theorem dX3_answer_16 : decode cX3_answer 16 = .ok (.iload 4, 2) := by decide +kernel
theorem dX3_answer_18 : decode cX3_answer 18 = .ok (.iaload, 1) := by decide +kernel
theorem dX3_answer_19 : decode cX3_answer 19 = .ok (.iload_n 1, 1) := by decide +kernel
theorem dX3_answer_20 : decode cX3_answer 20 = .ok (.if_icmp .ne 45, 3) := by decide +kernel
theorem dX3_answer_23 : decode cX3_answer 23 = .ok (.aload_n 0, 1) := by decide +kernel
theorem dX3_answer_24 : decode cX3_answer 24 = .ok (.aload_n 0, 1) := by decide +kernel
theorem dX3_answer_25 : decode cX3_answer 25 = .ok (.getfield 24, 3) := by decide +kernel
theorem dX3_answer_28 : decode cX3_answer 28 = .ok (.iload 4, 2) := by decide +kernel
theorem dX3_answer_30 : decode cX3_answer 30 = .ok (.iaload, 1) := by decide +kernel
theorem dX3_answer_31 : decode cX3_answer 31 = .ok (.aload_n 0, 1) := by decide +kernel
theorem dX3_answer_32 : decode cX3_answer 32 = .ok (.getfield 27, 3) := by decide +kernel
theorem dX3_answer_35 : decode cX3_answer 35 = .ok (.iload 4, 2) := by decide +kernel
theorem dX3_answer_37 : decode cX3_answer 37 = .ok (.iaload, 1) := by decide +kernel
theorem dX3_answer_38 : decode cX3_answer 38 = .ok (.aload_n 2, 1) := by decide +kernel
theorem dX3_answer_39 : decode cX3_answer 39 = .ok (.invokevirtual 44, 3) := by decide +kernel
theorem dX3_answer_42 : decode cX3_answer 42 = .ok (.ifCond .eq 23, 3) := by decide +kernel
theorem dX3_answer_45 : decode cX3_answer 45 = .ok (.aload_n 0, 1) := by decide +kernel
theorem dX3_answer_46 : decode cX3_answer 46 = .ok (.aload_n 0, 1) := by decide +kernel
theorem dX3_answer_47 : decode cX3_answer 47 = .ok (.getfield 21, 3) := by decide +kernel
theorem dX3_answer_50 : decode cX3_answer 50 = .ok (.iload 4, 2) := by decide +kernel
theorem dX3_answer_52 : decode cX3_answer 52 = .ok (.iaload, 1) := by decide +kernel
theorem dX3_answer_53 : decode cX3_answer 53 = .ok (.aload_n 0, 1) := by decide +kernel
theorem dX3_answer_54 : decode cX3_answer 54 = .ok (.getfield 24, 3) := by decide +kernel
theorem dX3_answer_57 : decode cX3_answer 57 = .ok (.iload 4, 2) := by decide +kernel
theorem dX3_answer_59 : decode cX3_answer 59 = .ok (.iaload, 1) := by decide +kernel
theorem dX3_answer_60 : decode cX3_answer 60 = .ok (.aload_n 2, 1) := by decide +kernel
theorem dX3_answer_61 : decode cX3_answer 61 = .ok (.invokevirtual 44, 3) := by decide +kernel
theorem dX3_answer_64 : decode cX3_answer 64 = .ok (.ireturn, 1) := by decide +kernel
theorem dX3_answer_65 : decode cX3_answer 65 = .ok (.iinc 4 1, 3) := by decide +kernel
theorem dX3_answer_68 : decode cX3_answer 68 = .ok (.goto (-65), 3) := by decide +kernel
theorem dX3_answer_71 : decode cX3_answer 71 = .ok (.iload_n 3, 1) := by decide +kernel
theorem dX3_answer_72 : decode cX3_answer 72 = .ok (.ireturn, 1) := by decide +kernel
theorem dX3_run_0 : decode cX3_run 0 = .ok (.iload_n 1, 1) := by decide +kernel
theorem dX3_run_1 : decode cX3_run 1 = .ok (.istore 4, 2) := by decide +kernel
theorem dX3_run_3 : decode cX3_run 3 = .ok (.aload_n 0, 1) := by decide +kernel
theorem dX3_run_4 : decode cX3_run 4 = .ok (.iconst 0, 1) := by decide +kernel
theorem dX3_run_5 : decode cX3_run 5 = .ok (.putfield 48, 3) := by decide +kernel
theorem dX3_run_8 : decode cX3_run 8 = .ok (.aload_n 0, 1) := by decide +kernel
theorem dX3_run_9 : decode cX3_run 9 = .ok (.iconst 0, 1) := by decide +kernel
theorem dX3_run_10 : decode cX3_run 10 = .ok (.putfield 51, 3) := by decide +kernel
theorem dX3_run_13 : decode cX3_run 13 = .ok (.iconst 0, 1) := by decide +kernel
theorem dX3_run_14 : decode cX3_run 14 = .ok (.istore 5, 2) := by decide +kernel
theorem dX3_run_16 : decode cX3_run 16 = .ok (.iload 5, 2) := by decide +kernel
theorem dX3_run_18 : decode cX3_run 18 = .ok (.sipush 200, 3) := by decide +kernel
theorem dX3_run_21 : decode cX3_run 21 = .ok (.if_icmp .ge 167, 3) := by decide +kernel
theorem dX3_run_24 : decode cX3_run 24 = .ok (.iload 4, 2) := by decide +kernel
theorem dX3_run_26 : decode cX3_run 26 = .ok (.iload_n 2, 1) := by decide +kernel
theorem dX3_run_27 : decode cX3_run 27 = .ok (.if_icmp .ge 161, 3) := by decide +kernel
theorem dX3_run_30 : decode cX3_run 30 = .ok (.aload_n 0, 1) := by decide +kernel
theorem dX3_run_31 : decode cX3_run 31 = .ok (.getfield 51, 3) := by decide +kernel
theorem dX3_run_34 : decode cX3_run 34 = .ok (.ifCond .ne 154, 3) := by decide +kernel
theorem dX3_run_37 : decode cX3_run 37 = .ok (.iload 4, 2) := by decide +kernel
theorem dX3_run_39 : decode cX3_run 39 = .ok (.iconst 1, 1) := by decide +kernel
theorem dX3_run_40 : decode cX3_run 40 = .ok (.iadd, 1) := by decide +kernel
theorem dX3_run_41 : decode cX3_run 41 = .ok (.istore 6, 2) := by decide +kernel
theorem dX3_run_43 : decode cX3_run 43 = .ok (.aload_n 0, 1) := by decide +kernel
theorem dX3_run_44 : decode cX3_run 44 = .ok (.getfield 9, 3) := by decide +kernel
theorem dX3_run_47 : decode cX3_run 47 = .ok (.iload 4, 2) := by decide +kernel
theorem dX3_run_49 : decode cX3_run 49 = .ok (.iaload, 1) := by decide +kernel
theorem dX3_run_50 : decode cX3_run 50 = .ok (.tableswitch 101 0 4 #[34, 48, 64, 77, 89], 34) := by decide +kernel
theorem dX3_run_84 : decode cX3_run 84 = .ok (.aload_n 0, 1) := by decide +kernel
theorem dX3_run_85 : decode cX3_run 85 = .ok (.aload_n 0, 1) := by decide +kernel
theorem dX3_run_86 : decode cX3_run 86 = .ok (.getfield 15, 3) := by decide +kernel
theorem dX3_run_89 : decode cX3_run 89 = .ok (.iload 4, 2) := by decide +kernel
theorem dX3_run_91 : decode cX3_run 91 = .ok (.iaload, 1) := by decide +kernel
theorem dX3_run_92 : decode cX3_run 92 = .ok (.invokevirtual 55, 3) := by decide +kernel
theorem dX3_run_95 : decode cX3_run 95 = .ok (.goto 83, 3) := by decide +kernel
theorem dX3_run_98 : decode cX3_run 98 = .ok (.aload_n 0, 1) := by decide +kernel
theorem dX3_run_99 : decode cX3_run 99 = .ok (.aload_n 3, 1) := by decide +kernel
theorem dX3_run_100 : decode cX3_run 100 = .ok (.aload_n 0, 1) := by decide +kernel
theorem dX3_run_101 : decode cX3_run 101 = .ok (.getfield 15, 3) := by decide +kernel
theorem dX3_run_104 : decode cX3_run 104 = .ok (.iload 4, 2) := by decide +kernel
theorem dX3_run_106 : decode cX3_run 106 = .ok (.iaload, 1) := by decide +kernel
theorem dX3_run_107 : decode cX3_run 107 = .ok (.iaload, 1) := by decide +kernel
theorem dX3_run_108 : decode cX3_run 108 = .ok (.invokevirtual 55, 3) := by decide +kernel
theorem dX3_run_111 : decode cX3_run 111 = .ok (.goto 67, 3) := by decide +kernel
theorem dX3_run_114 : decode cX3_run 114 = .ok (.aload_n 0, 1) := by decide +kernel
theorem dX3_run_115 : decode cX3_run 115 = .ok (.iconst 1, 1) := by decide +kernel
theorem dX3_run_116 : decode cX3_run 116 = .ok (.aload_n 0, 1) := by decide +kernel
theorem dX3_run_117 : decode cX3_run 117 = .ok (.invokevirtual 59, 3) := by decide +kernel
theorem dX3_run_120 : decode cX3_run 120 = .ok (.isub, 1) := by decide +kernel
theorem dX3_run_121 : decode cX3_run 121 = .ok (.invokevirtual 55, 3) := by decide +kernel
theorem dX3_run_124 : decode cX3_run 124 = .ok (.goto 54, 3) := by decide +kernel
theorem dX3_run_127 : decode cX3_run 127 = .ok (.aload_n 0, 1) := by decide +kernel
theorem dX3_run_128 : decode cX3_run 128 = .ok (.iload 4, 2) := by decide +kernel
theorem dX3_run_130 : decode cX3_run 130 = .ok (.iconst 0, 1) := by decide +kernel
theorem dX3_run_131 : decode cX3_run 131 = .ok (.invokevirtual 63, 3) := by decide +kernel
theorem dX3_run_134 : decode cX3_run 134 = .ok (.istore 6, 2) := by decide +kernel
theorem dX3_run_136 : decode cX3_run 136 = .ok (.goto 42, 3) := by decide +kernel
theorem dX3_run_139 : decode cX3_run 139 = .ok (.aload_n 0, 1) := by decide +kernel
theorem dX3_run_140 : decode cX3_run 140 = .ok (.iload 4, 2) := by decide +kernel
theorem dX3_run_142 : decode cX3_run 142 = .ok (.iconst 1, 1) := by decide +kernel
theorem dX3_run_143 : decode cX3_run 143 = .ok (.invokevirtual 63, 3) := by decide +kernel
theorem dX3_run_146 : decode cX3_run 146 = .ok (.istore 6, 2) := by decide +kernel
theorem dX3_run_148 : decode cX3_run 148 = .ok (.goto 30, 3) := by decide +kernel
theorem dX3_run_151 : decode cX3_run 151 = .ok (.aload_n 0, 1) := by decide +kernel
theorem dX3_run_152 : decode cX3_run 152 = .ok (.invokevirtual 59, 3) := by decide +kernel
theorem dX3_run_155 : decode cX3_run 155 = .ok (.istore 7, 2) := by decide +kernel
theorem dX3_run_157 : decode cX3_run 157 = .ok (.aload_n 0, 1) := by decide +kernel
theorem dX3_run_158 : decode cX3_run 158 = .ok (.aload_n 0, 1) := by decide +kernel
theorem dX3_run_159 : decode cX3_run 159 = .ok (.aload_n 0, 1) := by decide +kernel
theorem dX3_run_160 : decode cX3_run 160 = .ok (.getfield 9, 3) := by decide +kernel
theorem dX3_run_163 : decode cX3_run 163 = .ok (.iload 4, 2) := by decide +kernel
theorem dX3_run_165 : decode cX3_run 165 = .ok (.iaload, 1) := by decide +kernel
theorem dX3_run_166 : decode cX3_run 166 = .ok (.aload_n 0, 1) := by decide +kernel
theorem dX3_run_167 : decode cX3_run 167 = .ok (.invokevirtual 59, 3) := by decide +kernel
theorem dX3_run_170 : decode cX3_run 170 = .ok (.iload 7, 2) := by decide +kernel
theorem dX3_run_172 : decode cX3_run 172 = .ok (.invokevirtual 67, 3) := by decide +kernel
theorem dX3_run_175 : decode cX3_run 175 = .ok (.invokevirtual 55, 3) := by decide +kernel
theorem dX3_run_178 : decode cX3_run 178 = .ok (.iload 6, 2) := by decide +kernel
theorem dX3_run_180 : decode cX3_run 180 = .ok (.istore 4, 2) := by decide +kernel
theorem dX3_run_182 : decode cX3_run 182 = .ok (.iinc 5 1, 3) := by decide +kernel
theorem dX3_run_185 : decode cX3_run 185 = .ok (.goto (-169), 3) := by decide +kernel
theorem dX3_run_188 : decode cX3_run 188 = .ok (.aload_n 0, 1) := by decide +kernel
theorem dX3_run_189 : decode cX3_run 189 = .ok (.getfield 51, 3) := by decide +kernel
theorem dX3_run_192 : decode cX3_run 192 = .ok (.ifCond .ne 11, 3) := by decide +kernel
theorem dX3_run_195 : decode cX3_run 195 = .ok (.aload_n 0, 1) := by decide +kernel
theorem dX3_run_196 : decode cX3_run 196 = .ok (.getfield 48, 3) := by decide +kernel
theorem dX3_run_199 : decode cX3_run 199 = .ok (.iconst 1, 1) := by decide +kernel
theorem dX3_run_200 : decode cX3_run 200 = .ok (.if_icmp .eq 7, 3) := by decide +kernel
theorem dX3_run_203 : decode cX3_run 203 = .ok (.iconst 0, 1) := by decide +kernel
theorem dX3_run_204 : decode cX3_run 204 = .ok (.goto 9, 3) := by decide +kernel
theorem dX3_run_207 : decode cX3_run 207 = .ok (.aload_n 0, 1) := by decide +kernel
theorem dX3_run_208 : decode cX3_run 208 = .ok (.getfield 30, 3) := by decide +kernel
theorem dX3_run_211 : decode cX3_run 211 = .ok (.iconst 0, 1) := by decide +kernel
theorem dX3_run_212 : decode cX3_run 212 = .ok (.iaload, 1) := by decide +kernel
theorem dX3_run_213 : decode cX3_run 213 = .ok (.ireturn, 1) := by decide +kernel
theorem dX3_jump_0 : decode cX3_jump 0 = .ok (.aload_n 0, 1) := by decide +kernel
theorem dX3_jump_1 : decode cX3_jump 1 = .ok (.invokevirtual 59, 3) := by decide +kernel
theorem dX3_jump_4 : decode cX3_jump 4 = .ok (.istore_n 3, 1) := by decide +kernel
theorem dX3_jump_5 : decode cX3_jump 5 = .ok (.iload_n 3, 1) := by decide +kernel
theorem dX3_jump_6 : decode cX3_jump 6 = .ok (.ifCond .eq 7, 3) := by decide +kernel
theorem dX3_jump_9 : decode cX3_jump 9 = .ok (.iconst 1, 1) := by decide +kernel
theorem dX3_jump_10 : decode cX3_jump 10 = .ok (.goto 4, 3) := by decide +kernel
theorem dX3_jump_13 : decode cX3_jump 13 = .ok (.iconst 0, 1) := by decide +kernel
theorem dX3_jump_14 : decode cX3_jump 14 = .ok (.iload_n 2, 1) := by decide +kernel
theorem dX3_jump_15 : decode cX3_jump 15 = .ok (.if_icmp .ne 15, 3) := by decide +kernel
theorem dX3_jump_18 : decode cX3_jump 18 = .ok (.aload_n 0, 1) := by decide +kernel
theorem dX3_jump_19 : decode cX3_jump 19 = .ok (.iload_n 3, 1) := by decide +kernel
theorem dX3_jump_20 : decode cX3_jump 20 = .ok (.invokevirtual 55, 3) := by decide +kernel
theorem dX3_jump_23 : decode cX3_jump 23 = .ok (.aload_n 0, 1) := by decide +kernel
theorem dX3_jump_24 : decode cX3_jump 24 = .ok (.getfield 15, 3) := by decide +kernel
theorem dX3_jump_27 : decode cX3_jump 27 = .ok (.iload_n 1, 1) := by decide +kernel
theorem dX3_jump_28 : decode cX3_jump 28 = .ok (.iaload, 1) := by decide +kernel
theorem dX3_jump_29 : decode cX3_jump 29 = .ok (.ireturn, 1) := by decide +kernel
theorem dX3_jump_30 : decode cX3_jump 30 = .ok (.iload_n 1, 1) := by decide +kernel
theorem dX3_jump_31 : decode cX3_jump 31 = .ok (.iconst 1, 1) := by decide +kernel
theorem dX3_jump_32 : decode cX3_jump 32 = .ok (.iadd, 1) := by decide +kernel
theorem dX3_jump_33 : decode cX3_jump 33 = .ok (.ireturn, 1) := by decide +kernel
theorem dX3_reckon_0 : decode cX3_reckon 0 = .ok (.iload_n 1, 1) := by decide +kernel
theorem dX3_reckon_1 : decode cX3_reckon 1 = .ok (.lookupswitch 104 #[(42, 67), (43, 59), (45, 63), (60, 71), (61, 93), (62, 82)], 59) := by decide +kernel
theorem dX3_reckon_60 : decode cX3_reckon 60 = .ok (.iload_n 2, 1) := by decide +kernel
theorem dX3_reckon_61 : decode cX3_reckon 61 = .ok (.iload_n 3, 1) := by decide +kernel
theorem dX3_reckon_62 : decode cX3_reckon 62 = .ok (.iadd, 1) := by decide +kernel
theorem dX3_reckon_63 : decode cX3_reckon 63 = .ok (.ireturn, 1) := by decide +kernel
theorem dX3_reckon_64 : decode cX3_reckon 64 = .ok (.iload_n 2, 1) := by decide +kernel
theorem dX3_reckon_65 : decode cX3_reckon 65 = .ok (.iload_n 3, 1) := by decide +kernel
theorem dX3_reckon_66 : decode cX3_reckon 66 = .ok (.isub, 1) := by decide +kernel
theorem dX3_reckon_67 : decode cX3_reckon 67 = .ok (.ireturn, 1) := by decide +kernel
theorem dX3_reckon_68 : decode cX3_reckon 68 = .ok (.iload_n 2, 1) := by decide +kernel
theorem dX3_reckon_69 : decode cX3_reckon 69 = .ok (.iload_n 3, 1) := by decide +kernel
theorem dX3_reckon_70 : decode cX3_reckon 70 = .ok (.imul, 1) := by decide +kernel
theorem dX3_reckon_71 : decode cX3_reckon 71 = .ok (.ireturn, 1) := by decide +kernel
theorem dX3_reckon_72 : decode cX3_reckon 72 = .ok (.iload_n 2, 1) := by decide +kernel
theorem dX3_reckon_73 : decode cX3_reckon 73 = .ok (.iload_n 3, 1) := by decide +kernel
theorem dX3_reckon_74 : decode cX3_reckon 74 = .ok (.if_icmp .ge 7, 3) := by decide +kernel
theorem dX3_reckon_77 : decode cX3_reckon 77 = .ok (.iconst 1, 1) := by decide +kernel
theorem dX3_reckon_78 : decode cX3_reckon 78 = .ok (.goto 4, 3) := by decide +kernel
theorem dX3_reckon_81 : decode cX3_reckon 81 = .ok (.iconst 0, 1) := by decide +kernel
theorem dX3_reckon_82 : decode cX3_reckon 82 = .ok (.ireturn, 1) := by decide +kernel
theorem dX3_reckon_83 : decode cX3_reckon 83 = .ok (.iload_n 2, 1) := by decide +kernel
theorem dX3_reckon_84 : decode cX3_reckon 84 = .ok (.iload_n 3, 1) := by decide +kernel
theorem dX3_reckon_85 : decode cX3_reckon 85 = .ok (.if_icmp .le 7, 3) := by decide +kernel
theorem dX3_reckon_88 : decode cX3_reckon 88 = .ok (.iconst 1, 1) := by decide +kernel
theorem dX3_reckon_89 : decode cX3_reckon 89 = .ok (.goto 4, 3) := by decide +kernel
theorem dX3_reckon_92 : decode cX3_reckon 92 = .ok (.iconst 0, 1) := by decide +kernel
theorem dX3_reckon_93 : decode cX3_reckon 93 = .ok (.ireturn, 1) := by decide +kernel
theorem dX3_reckon_94 : decode cX3_reckon 94 = .ok (.iload_n 2, 1) := by decide +kernel
theorem dX3_reckon_95 : decode cX3_reckon 95 = .ok (.iload_n 3, 1) := by decide +kernel
theorem dX3_reckon_96 : decode cX3_reckon 96 = .ok (.if_icmp .ne 7, 3) := by decide +kernel
theorem dX3_reckon_99 : decode cX3_reckon 99 = .ok (.iconst 1, 1) := by decide +kernel
theorem dX3_reckon_100 : decode cX3_reckon 100 = .ok (.goto 4, 3) := by decide +kernel
theorem dX3_reckon_103 : decode cX3_reckon 103 = .ok (.iconst 0, 1) := by decide +kernel
theorem dX3_reckon_104 : decode cX3_reckon 104 = .ok (.ireturn, 1) := by decide +kernel
theorem dX3_reckon_105 : decode cX3_reckon 105 = .ok (.iload_n 3, 1) := by decide +kernel
theorem dX3_reckon_106 : decode cX3_reckon 106 = .ok (.ifCond .ne 10, 3) := by decide +kernel
theorem dX3_reckon_109 : decode cX3_reckon 109 = .ok (.aload_n 0, 1) := by decide +kernel
theorem dX3_reckon_110 : decode cX3_reckon 110 = .ok (.iconst 1, 1) := by decide +kernel
theorem dX3_reckon_111 : decode cX3_reckon 111 = .ok (.putfield 51, 3) := by decide +kernel
theorem dX3_reckon_114 : decode cX3_reckon 114 = .ok (.iconst 0, 1) := by decide +kernel
theorem dX3_reckon_115 : decode cX3_reckon 115 = .ok (.ireturn, 1) := by decide +kernel
theorem dX3_reckon_116 : decode cX3_reckon 116 = .ok (.iload_n 1, 1) := by decide +kernel
theorem dX3_reckon_117 : decode cX3_reckon 117 = .ok (.bipush 47, 2) := by decide +kernel
theorem dX3_reckon_119 : decode cX3_reckon 119 = .ok (.if_icmp .ne 9, 3) := by decide +kernel
theorem dX3_reckon_122 : decode cX3_reckon 122 = .ok (.iload_n 2, 1) := by decide +kernel
theorem dX3_reckon_123 : decode cX3_reckon 123 = .ok (.iload_n 3, 1) := by decide +kernel
theorem dX3_reckon_124 : decode cX3_reckon 124 = .ok (.idiv, 1) := by decide +kernel
theorem dX3_reckon_125 : decode cX3_reckon 125 = .ok (.goto 6, 3) := by decide +kernel
theorem dX3_reckon_128 : decode cX3_reckon 128 = .ok (.iload_n 2, 1) := by decide +kernel
theorem dX3_reckon_129 : decode cX3_reckon 129 = .ok (.iload_n 3, 1) := by decide +kernel
theorem dX3_reckon_130 : decode cX3_reckon 130 = .ok (.irem, 1) := by decide +kernel
theorem dX3_reckon_131 : decode cX3_reckon 131 = .ok (.ireturn, 1) := by decide +kernel
theorem dX3_push_0 : decode cX3_push 0 = .ok (.aload_n 0, 1) := by decide +kernel
theorem dX3_push_1 : decode cX3_push 1 = .ok (.getfield 48, 3) := by decide +kernel
theorem dX3_push_4 : decode cX3_push 4 = .ok (.bipush 64, 2) := by decide +kernel
theorem dX3_push_6 : decode cX3_push 6 = .ok (.if_icmp .lt 9, 3) := by decide +kernel
theorem dX3_push_9 : decode cX3_push 9 = .ok (.aload_n 0, 1) := by decide +kernel
theorem dX3_push_10 : decode cX3_push 10 = .ok (.iconst 1, 1) := by decide +kernel
theorem dX3_push_11 : decode cX3_push 11 = .ok (.putfield 51, 3) := by decide +kernel
theorem dX3_push_14 : decode cX3_push 14 = .ok (.return_, 1) := by decide +kernel
theorem dX3_push_15 : decode cX3_push 15 = .ok (.aload_n 0, 1) := by decide +kernel
theorem dX3_push_16 : decode cX3_push 16 = .ok (.getfield 30, 3) := by decide +kernel
theorem dX3_push_19 : decode cX3_push 19 = .ok (.aload_n 0, 1) := by decide +kernel
theorem dX3_push_20 : decode cX3_push 20 = .ok (.getfield 48, 3) := by decide +kernel
theorem dX3_push_23 : decode cX3_push 23 = .ok (.iload_n 1, 1) := by decide +kernel
theorem dX3_push_24 : decode cX3_push 24 = .ok (.iastore, 1) := by decide +kernel
theorem dX3_push_25 : decode cX3_push 25 = .ok (.aload_n 0, 1) := by decide +kernel
theorem dX3_push_26 : decode cX3_push 26 = .ok (.dup, 1) := by decide +kernel
theorem dX3_push_27 : decode cX3_push 27 = .ok (.getfield 48, 3) := by decide +kernel
theorem dX3_push_30 : decode cX3_push 30 = .ok (.iconst 1, 1) := by decide +kernel
theorem dX3_push_31 : decode cX3_push 31 = .ok (.iadd, 1) := by decide +kernel
theorem dX3_push_32 : decode cX3_push 32 = .ok (.putfield 48, 3) := by decide +kernel
theorem dX3_push_35 : decode cX3_push 35 = .ok (.return_, 1) := by decide +kernel
theorem dX3_pop_0 : decode cX3_pop 0 = .ok (.aload_n 0, 1) := by decide +kernel
theorem dX3_pop_1 : decode cX3_pop 1 = .ok (.getfield 48, 3) := by decide +kernel
theorem dX3_pop_4 : decode cX3_pop 4 = .ok (.iconst 1, 1) := by decide +kernel
theorem dX3_pop_5 : decode cX3_pop 5 = .ok (.if_icmp .ge 10, 3) := by decide +kernel
theorem dX3_pop_8 : decode cX3_pop 8 = .ok (.aload_n 0, 1) := by decide +kernel
theorem dX3_pop_9 : decode cX3_pop 9 = .ok (.iconst 1, 1) := by decide +kernel
theorem dX3_pop_10 : decode cX3_pop 10 = .ok (.putfield 51, 3) := by decide +kernel
theorem dX3_pop_13 : decode cX3_pop 13 = .ok (.iconst 0, 1) := by decide +kernel
theorem dX3_pop_14 : decode cX3_pop 14 = .ok (.ireturn, 1) := by decide +kernel
theorem dX3_pop_15 : decode cX3_pop 15 = .ok (.aload_n 0, 1) := by decide +kernel
theorem dX3_pop_16 : decode cX3_pop 16 = .ok (.dup, 1) := by decide +kernel
theorem dX3_pop_17 : decode cX3_pop 17 = .ok (.getfield 48, 3) := by decide +kernel
theorem dX3_pop_20 : decode cX3_pop 20 = .ok (.iconst 1, 1) := by decide +kernel
theorem dX3_pop_21 : decode cX3_pop 21 = .ok (.isub, 1) := by decide +kernel
theorem dX3_pop_22 : decode cX3_pop 22 = .ok (.putfield 48, 3) := by decide +kernel
theorem dX3_pop_25 : decode cX3_pop 25 = .ok (.aload_n 0, 1) := by decide +kernel
theorem dX3_pop_26 : decode cX3_pop 26 = .ok (.getfield 30, 3) := by decide +kernel
theorem dX3_pop_29 : decode cX3_pop 29 = .ok (.aload_n 0, 1) := by decide +kernel
theorem dX3_pop_30 : decode cX3_pop 30 = .ok (.getfield 48, 3) := by decide +kernel
theorem dX3_pop_33 : decode cX3_pop 33 = .ok (.iaload, 1) := by decide +kernel
theorem dX3_pop_34 : decode cX3_pop 34 = .ok (.ireturn, 1) := by decide +kernel
theorem dX4_init_0 : decode cX4_init 0 = .ok (.aload_n 0, 1) := by decide +kernel
theorem dX4_init_1 : decode cX4_init 1 = .ok (.invokespecial 3, 3) := by decide +kernel
theorem dX4_init_4 : decode cX4_init 4 = .ok (.aload_n 0, 1) := by decide +kernel
theorem dX4_init_5 : decode cX4_init 5 = .ok (.aload_n 1, 1) := by decide +kernel
theorem dX4_init_6 : decode cX4_init 6 = .ok (.putfield 9, 3) := by decide +kernel
theorem dX4_init_9 : decode cX4_init 9 = .ok (.aload_n 0, 1) := by decide +kernel
theorem dX4_init_10 : decode cX4_init 10 = .ok (.iload_n 2, 1) := by decide +kernel
theorem dX4_init_11 : decode cX4_init 11 = .ok (.aload_n 1, 1) := by decide +kernel
theorem dX4_init_12 : decode cX4_init 12 = .ok (.arraylength, 1) := by decide +kernel
theorem dX4_init_13 : decode cX4_init 13 = .ok (.invokestatic 15, 3) := by decide +kernel
theorem dX4_init_16 : decode cX4_init 16 = .ok (.putfield 21, 3) := by decide +kernel
theorem dX4_init_19 : decode cX4_init 19 = .ok (.aload_n 0, 1) := by decide +kernel
theorem dX4_init_20 : decode cX4_init 20 = .ok (.aload_n 3, 1) := by decide +kernel
theorem dX4_init_21 : decode cX4_init 21 = .ok (.putfield 25, 3) := by decide +kernel
theorem dX4_init_24 : decode cX4_init 24 = .ok (.return_, 1) := by decide +kernel
theorem dX4_read_0 : decode cX4_read 0 = .ok (.aload_n 0, 1) := by decide +kernel
theorem dX4_read_1 : decode cX4_read 1 = .ok (.invokevirtual 29, 3) := by decide +kernel
theorem dX4_read_4 : decode cX4_read 4 = .ok (.istore_n 1, 1) := by decide +kernel
theorem dX4_read_5 : decode cX4_read 5 = .ok (.iconst 0, 1) := by decide +kernel
theorem dX4_read_6 : decode cX4_read 6 = .ok (.istore_n 2, 1) := by decide +kernel
theorem dX4_read_7 : decode cX4_read 7 = .ok (.iload_n 2, 1) := by decide +kernel
theorem dX4_read_8 : decode cX4_read 8 = .ok (.sipush 200, 3) := by decide +kernel
theorem dX4_read_11 : decode cX4_read 11 = .ok (.if_icmp .ge 46, 3) := by decide +kernel
theorem dX4_read_14 : decode cX4_read 14 = .ok (.iload_n 1, 1) := by decide +kernel
theorem dX4_read_15 : decode cX4_read 15 = .ok (.ifCond .eq 42, 3) := by decide +kernel
theorem dX4_read_18 : decode cX4_read 18 = .ok (.aload_n 0, 1) := by decide +kernel
theorem dX4_read_19 : decode cX4_read 19 = .ok (.getfield 33, 3) := by decide +kernel
theorem dX4_read_22 : decode cX4_read 22 = .ok (.aload_n 0, 1) := by decide +kernel
theorem dX4_read_23 : decode cX4_read 23 = .ok (.getfield 21, 3) := by decide +kernel
theorem dX4_read_26 : decode cX4_read 26 = .ok (.if_icmp .ge 31, 3) := by decide +kernel
theorem dX4_read_29 : decode cX4_read 29 = .ok (.aload_n 0, 1) := by decide +kernel
theorem dX4_read_30 : decode cX4_read 30 = .ok (.bipush 59, 2) := by decide +kernel
theorem dX4_read_32 : decode cX4_read 32 = .ok (.invokevirtual 36, 3) := by decide +kernel
theorem dX4_read_35 : decode cX4_read 35 = .ok (.ifCond .eq 14, 3) := by decide +kernel
theorem dX4_read_38 : decode cX4_read 38 = .ok (.aload_n 0, 1) := by decide +kernel
theorem dX4_read_39 : decode cX4_read 39 = .ok (.invokevirtual 29, 3) := by decide +kernel
theorem dX4_read_42 : decode cX4_read 42 = .ok (.ifCond .eq 7, 3) := by decide +kernel
theorem dX4_read_45 : decode cX4_read 45 = .ok (.iconst 1, 1) := by decide +kernel
theorem dX4_read_46 : decode cX4_read 46 = .ok (.goto 4, 3) := by decide +kernel
theorem dX4_read_49 : decode cX4_read 49 = .ok (.iconst 0, 1) := by decide +kernel
theorem dX4_read_50 : decode cX4_read 50 = .ok (.istore_n 1, 1) := by decide +kernel
theorem dX4_read_51 : decode cX4_read 51 = .ok (.iinc 2 1, 3) := by decide +kernel
theorem dX4_read_54 : decode cX4_read 54 = .ok (.goto (-47), 3) := by decide +kernel
theorem dX4_read_57 : decode cX4_read 57 = .ok (.aload_n 0, 1) := by decide +kernel
theorem dX4_read_58 : decode cX4_read 58 = .ok (.getfield 40, 3) := by decide +kernel
theorem dX4_read_61 : decode cX4_read 61 = .ok (.ireturn, 1) := by decide +kernel
theorem dX4_sign_0 : decode cX4_sign 0 = .ok (.aload_n 0, 1) := by decide +kernel
theorem dX4_sign_1 : decode cX4_sign 1 = .ok (.getfield 33, 3) := by decide +kernel
theorem dX4_sign_4 : decode cX4_sign 4 = .ok (.aload_n 0, 1) := by decide +kernel
theorem dX4_sign_5 : decode cX4_sign 5 = .ok (.getfield 21, 3) := by decide +kernel
theorem dX4_sign_8 : decode cX4_sign 8 = .ok (.if_icmp .ge 15, 3) := by decide +kernel
theorem dX4_sign_11 : decode cX4_sign 11 = .ok (.aload_n 0, 1) := by decide +kernel
theorem dX4_sign_12 : decode cX4_sign 12 = .ok (.getfield 9, 3) := by decide +kernel
theorem dX4_sign_15 : decode cX4_sign 15 = .ok (.aload_n 0, 1) := by decide +kernel
theorem dX4_sign_16 : decode cX4_sign 16 = .ok (.getfield 33, 3) := by decide +kernel
theorem dX4_sign_19 : decode cX4_sign 19 = .ok (.iaload, 1) := by decide +kernel
theorem dX4_sign_20 : decode cX4_sign 20 = .ok (.goto 4, 3) := by decide +kernel
theorem dX4_sign_23 : decode cX4_sign 23 = .ok (.iconst (-1), 1) := by decide +kernel
theorem dX4_sign_24 : decode cX4_sign 24 = .ok (.ireturn, 1) := by decide +kernel
theorem dX4_fail_0 : decode cX4_fail 0 = .ok (.aload_n 0, 1) := by decide +kernel
theorem dX4_fail_1 : decode cX4_fail 1 = .ok (.sipush 1000, 3) := by decide +kernel
theorem dX4_fail_4 : decode cX4_fail 4 = .ok (.iload_n 1, 1) := by decide +kernel
theorem dX4_fail_5 : decode cX4_fail 5 = .ok (.imul, 1) := by decide +kernel
theorem dX4_fail_6 : decode cX4_fail 6 = .ok (.aload_n 0, 1) := by decide +kernel
theorem dX4_fail_7 : decode cX4_fail 7 = .ok (.getfield 33, 3) := by decide +kernel
theorem dX4_fail_10 : decode cX4_fail 10 = .ok (.iadd, 1) := by decide +kernel
theorem dX4_fail_11 : decode cX4_fail 11 = .ok (.putfield 40, 3) := by decide +kernel
theorem dX4_fail_14 : decode cX4_fail 14 = .ok (.iconst 0, 1) := by decide +kernel
theorem dX4_fail_15 : decode cX4_fail 15 = .ok (.ireturn, 1) := by decide +kernel
theorem dX4_expect_0 : decode cX4_expect 0 = .ok (.aload_n 0, 1) := by decide +kernel
theorem dX4_expect_1 : decode cX4_expect 1 = .ok (.invokevirtual 43, 3) := by decide +kernel
theorem dX4_expect_4 : decode cX4_expect 4 = .ok (.iload_n 1, 1) := by decide +kernel
theorem dX4_expect_5 : decode cX4_expect 5 = .ok (.if_icmp .eq 9, 3) := by decide +kernel
theorem dX4_expect_8 : decode cX4_expect 8 = .ok (.aload_n 0, 1) := by decide +kernel
theorem dX4_expect_9 : decode cX4_expect 9 = .ok (.iconst 1, 1) := by decide +kernel
theorem dX4_expect_10 : decode cX4_expect 10 = .ok (.invokevirtual 47, 3) := by decide +kernel
theorem dX4_expect_13 : decode cX4_expect 13 = .ok (.ireturn, 1) := by decide +kernel
theorem dX4_expect_14 : decode cX4_expect 14 = .ok (.aload_n 0, 1) := by decide +kernel
theorem dX4_expect_15 : decode cX4_expect 15 = .ok (.dup, 1) := by decide +kernel
theorem dX4_expect_16 : decode cX4_expect 16 = .ok (.getfield 33, 3) := by decide +kernel
theorem dX4_expect_19 : decode cX4_expect 19 = .ok (.iconst 1, 1) := by decide +kernel
theorem dX4_expect_20 : decode cX4_expect 20 = .ok (.iadd, 1) := by decide +kernel
theorem dX4_expect_21 : decode cX4_expect 21 = .ok (.putfield 33, 3) := by decide +kernel
theorem dX4_expect_24 : decode cX4_expect 24 = .ok (.iconst 1, 1) := by decide +kernel
theorem dX4_expect_25 : decode cX4_expect 25 = .ok (.ireturn, 1) := by decide +kernel
theorem dX4_open_0 : decode cX4_open 0 = .ok (.iload_n 1, 1) := by decide +kernel
theorem dX4_open_1 : decode cX4_open 1 = .ok (.bipush 6, 2) := by decide +kernel
theorem dX4_open_3 : decode cX4_open 3 = .ok (.if_icmp .lt 9, 3) := by decide +kernel
theorem dX4_open_6 : decode cX4_open 6 = .ok (.aload_n 0, 1) := by decide +kernel
theorem dX4_open_7 : decode cX4_open 7 = .ok (.iconst 5, 1) := by decide +kernel
theorem dX4_open_8 : decode cX4_open 8 = .ok (.invokevirtual 47, 3) := by decide +kernel
theorem dX4_open_11 : decode cX4_open 11 = .ok (.ireturn, 1) := by decide +kernel
theorem dX4_open_12 : decode cX4_open 12 = .ok (.aload_n 0, 1) := by decide +kernel
theorem dX4_open_13 : decode cX4_open 13 = .ok (.dup, 1) := by decide +kernel
theorem dX4_open_14 : decode cX4_open 14 = .ok (.getfield 33, 3) := by decide +kernel
theorem dX4_open_17 : decode cX4_open 17 = .ok (.iconst 1, 1) := by decide +kernel
theorem dX4_open_18 : decode cX4_open 18 = .ok (.iadd, 1) := by decide +kernel
theorem dX4_open_19 : decode cX4_open 19 = .ok (.putfield 33, 3) := by decide +kernel
theorem dX4_open_22 : decode cX4_open 22 = .ok (.iconst 1, 1) := by decide +kernel
theorem dX4_open_23 : decode cX4_open 23 = .ok (.ireturn, 1) := by decide +kernel
theorem dX4_readClause_0 : decode cX4_readClause 0 = .ok (.aload_n 0, 1) := by decide +kernel
theorem dX4_readClause_1 : decode cX4_readClause 1 = .ok (.invokevirtual 43, 3) := by decide +kernel
theorem dX4_readClause_4 : decode cX4_readClause 4 = .ok (.istore_n 1, 1) := by decide +kernel
theorem dX4_readClause_5 : decode cX4_readClause 5 = .ok (.iload_n 1, 1) := by decide +kernel
theorem dX4_readClause_6 : decode cX4_readClause 6 = .ok (.bipush 119, 2) := by decide +kernel
theorem dX4_readClause_8 : decode cX4_readClause 8 = .ok (.if_icmp .eq 21, 3) := by decide +kernel
theorem dX4_readClause_11 : decode cX4_readClause 11 = .ok (.iload_n 1, 1) := by decide +kernel
theorem dX4_readClause_12 : decode cX4_readClause 12 = .ok (.bipush 100, 2) := by decide +kernel
theorem dX4_readClause_14 : decode cX4_readClause 14 = .ok (.if_icmp .eq 15, 3) := by decide +kernel
theorem dX4_readClause_17 : decode cX4_readClause 17 = .ok (.iload_n 1, 1) := by decide +kernel
theorem dX4_readClause_18 : decode cX4_readClause 18 = .ok (.bipush 102, 2) := by decide +kernel
theorem dX4_readClause_20 : decode cX4_readClause 20 = .ok (.if_icmp .eq 9, 3) := by decide +kernel
theorem dX4_readClause_23 : decode cX4_readClause 23 = .ok (.aload_n 0, 1) := by decide +kernel
theorem dX4_readClause_24 : decode cX4_readClause 24 = .ok (.iconst 1, 1) := by decide +kernel
theorem dX4_readClause_25 : decode cX4_readClause 25 = .ok (.invokevirtual 47, 3) := by decide +kernel
theorem dX4_readClause_28 : decode cX4_readClause 28 = .ok (.ireturn, 1) := by decide +kernel
theorem dX4_readClause_29 : decode cX4_readClause 29 = .ok (.aload_n 0, 1) := by decide +kernel
theorem dX4_readClause_30 : decode cX4_readClause 30 = .ok (.getfield 25, 3) := by decide +kernel
theorem dX4_readClause_33 : decode cX4_readClause 33 = .ok (.getfield 50, 3) := by decide +kernel
theorem dX4_readClause_36 : decode cX4_readClause 36 = .ok (.istore_n 2, 1) := by decide +kernel
theorem dX4_readClause_37 : decode cX4_readClause 37 = .ok (.iload_n 2, 1) := by decide +kernel
theorem dX4_readClause_38 : decode cX4_readClause 38 = .ok (.bipush 14, 2) := by decide +kernel
theorem dX4_readClause_40 : decode cX4_readClause 40 = .ok (.if_icmp .lt 9, 3) := by decide +kernel
theorem dX4_readClause_43 : decode cX4_readClause 43 = .ok (.aload_n 0, 1) := by decide +kernel
theorem dX4_readClause_44 : decode cX4_readClause 44 = .ok (.iconst 4, 1) := by decide +kernel
theorem dX4_readClause_45 : decode cX4_readClause 45 = .ok (.invokevirtual 47, 3) := by decide +kernel
theorem dX4_readClause_48 : decode cX4_readClause 48 = .ok (.ireturn, 1) := by decide +kernel
theorem dX4_readClause_49 : decode cX4_readClause 49 = .ok (.aload_n 0, 1) := by decide +kernel
theorem dX4_readClause_50 : decode cX4_readClause 50 = .ok (.dup, 1) := by decide +kernel
theorem dX4_readClause_51 : decode cX4_readClause 51 = .ok (.getfield 33, 3) := by decide +kernel
theorem dX4_readClause_54 : decode cX4_readClause 54 = .ok (.iconst 1, 1) := by decide +kernel
theorem dX4_readClause_55 : decode cX4_readClause 55 = .ok (.iadd, 1) := by decide +kernel
theorem dX4_readClause_56 : decode cX4_readClause 56 = .ok (.putfield 33, 3) := by decide +kernel
theorem dX4_readClause_59 : decode cX4_readClause 59 = .ok (.aload_n 0, 1) := by decide +kernel
theorem dX4_readClause_60 : decode cX4_readClause 60 = .ok (.getfield 25, 3) := by decide +kernel
theorem dX4_readClause_63 : decode cX4_readClause 63 = .ok (.getfield 55, 3) := by decide +kernel
theorem dX4_readClause_66 : decode cX4_readClause 66 = .ok (.iload_n 2, 1) := by decide +kernel
theorem dX4_readClause_67 : decode cX4_readClause 67 = .ok (.iload_n 1, 1) := by decide +kernel
theorem dX4_readClause_68 : decode cX4_readClause 68 = .ok (.iastore, 1) := by decide +kernel
theorem dX4_readClause_69 : decode cX4_readClause 69 = .ok (.aload_n 0, 1) := by decide +kernel
theorem dX4_readClause_70 : decode cX4_readClause 70 = .ok (.getfield 25, 3) := by decide +kernel
theorem dX4_readClause_73 : decode cX4_readClause 73 = .ok (.getfield 58, 3) := by decide +kernel
theorem dX4_readClause_76 : decode cX4_readClause 76 = .ok (.iload_n 2, 1) := by decide +kernel
theorem dX4_readClause_77 : decode cX4_readClause 77 = .ok (.aload_n 0, 1) := by decide +kernel
theorem dX4_readClause_78 : decode cX4_readClause 78 = .ok (.getfield 25, 3) := by decide +kernel
theorem dX4_readClause_81 : decode cX4_readClause 81 = .ok (.getfield 61, 3) := by decide +kernel
theorem dX4_readClause_84 : decode cX4_readClause 84 = .ok (.iastore, 1) := by decide +kernel
theorem dX4_readClause_85 : decode cX4_readClause 85 = .ok (.aload_n 0, 1) := by decide +kernel
theorem dX4_readClause_86 : decode cX4_readClause 86 = .ok (.iconst 0, 1) := by decide +kernel
theorem dX4_readClause_87 : decode cX4_readClause 87 = .ok (.invokevirtual 64, 3) := by decide +kernel
theorem dX4_readClause_90 : decode cX4_readClause 90 = .ok (.ifCond .ne 5, 3) := by decide +kernel
theorem dX4_readClause_93 : decode cX4_readClause 93 = .ok (.iconst 0, 1) := by decide +kernel
theorem dX4_readClause_94 : decode cX4_readClause 94 = .ok (.ireturn, 1) := by decide +kernel
theorem dX4_readClause_95 : decode cX4_readClause 95 = .ok (.aload_n 0, 1) := by decide +kernel
theorem dX4_readClause_96 : decode cX4_readClause 96 = .ok (.getfield 25, 3) := by decide +kernel
theorem dX4_readClause_99 : decode cX4_readClause 99 = .ok (.getfield 67, 3) := by decide +kernel
theorem dX4_readClause_102 : decode cX4_readClause 102 = .ok (.iload_n 2, 1) := by decide +kernel
theorem dX4_readClause_103 : decode cX4_readClause 103 = .ok (.aload_n 0, 1) := by decide +kernel
theorem dX4_readClause_104 : decode cX4_readClause 104 = .ok (.getfield 25, 3) := by decide +kernel
theorem dX4_readClause_107 : decode cX4_readClause 107 = .ok (.getfield 61, 3) := by decide +kernel
theorem dX4_readClause_110 : decode cX4_readClause 110 = .ok (.iastore, 1) := by decide +kernel
theorem dX4_readClause_111 : decode cX4_readClause 111 = .ok (.aload_n 0, 1) := by decide +kernel
theorem dX4_readClause_112 : decode cX4_readClause 112 = .ok (.bipush 40, 2) := by decide +kernel
theorem dX4_readClause_114 : decode cX4_readClause 114 = .ok (.invokevirtual 36, 3) := by decide +kernel
theorem dX4_readClause_117 : decode cX4_readClause 117 = .ok (.ifCond .eq 20, 3) := by decide +kernel
theorem dX4_readClause_120 : decode cX4_readClause 120 = .ok (.aload_n 0, 1) := by decide +kernel
theorem dX4_readClause_121 : decode cX4_readClause 121 = .ok (.iconst 1, 1) := by decide +kernel
theorem dX4_readClause_122 : decode cX4_readClause 122 = .ok (.invokevirtual 70, 3) := by decide +kernel
theorem dX4_readClause_125 : decode cX4_readClause 125 = .ok (.ifCond .eq 12, 3) := by decide +kernel
theorem dX4_readClause_128 : decode cX4_readClause 128 = .ok (.aload_n 0, 1) := by decide +kernel
theorem dX4_readClause_129 : decode cX4_readClause 129 = .ok (.bipush 41, 2) := by decide +kernel
theorem dX4_readClause_131 : decode cX4_readClause 131 = .ok (.invokevirtual 36, 3) := by decide +kernel
theorem dX4_readClause_134 : decode cX4_readClause 134 = .ok (.ifCond .ne 5, 3) := by decide +kernel
theorem dX4_readClause_137 : decode cX4_readClause 137 = .ok (.iconst 0, 1) := by decide +kernel
theorem dX4_readClause_138 : decode cX4_readClause 138 = .ok (.ireturn, 1) := by decide +kernel
theorem dX4_readClause_139 : decode cX4_readClause 139 = .ok (.aload_n 0, 1) := by decide +kernel
theorem dX4_readClause_140 : decode cX4_readClause 140 = .ok (.getfield 25, 3) := by decide +kernel
theorem dX4_readClause_143 : decode cX4_readClause 143 = .ok (.getfield 73, 3) := by decide +kernel
theorem dX4_readClause_146 : decode cX4_readClause 146 = .ok (.iload_n 2, 1) := by decide +kernel
theorem dX4_readClause_147 : decode cX4_readClause 147 = .ok (.aload_n 0, 1) := by decide +kernel
theorem dX4_readClause_148 : decode cX4_readClause 148 = .ok (.getfield 25, 3) := by decide +kernel
theorem dX4_readClause_151 : decode cX4_readClause 151 = .ok (.getfield 61, 3) := by decide +kernel
theorem dX4_readClause_154 : decode cX4_readClause 154 = .ok (.iastore, 1) := by decide +kernel
theorem dX4_readClause_155 : decode cX4_readClause 155 = .ok (.aload_n 0, 1) := by decide +kernel
theorem dX4_readClause_156 : decode cX4_readClause 156 = .ok (.getfield 25, 3) := by decide +kernel
theorem dX4_readClause_159 : decode cX4_readClause 159 = .ok (.dup, 1) := by decide +kernel
theorem dX4_readClause_160 : decode cX4_readClause 160 = .ok (.getfield 50, 3) := by decide +kernel
theorem dX4_readClause_163 : decode cX4_readClause 163 = .ok (.iconst 1, 1) := by decide +kernel
theorem dX4_readClause_164 : decode cX4_readClause 164 = .ok (.iadd, 1) := by decide +kernel
theorem dX4_readClause_165 : decode cX4_readClause 165 = .ok (.putfield 50, 3) := by decide +kernel
theorem dX4_readClause_168 : decode cX4_readClause 168 = .ok (.iconst 1, 1) := by decide +kernel
theorem dX4_readClause_169 : decode cX4_readClause 169 = .ok (.ireturn, 1) := by decide +kernel
theorem dX4_readTest_0 : decode cX4_readTest 0 = .ok (.aload_n 0, 1) := by decide +kernel
theorem dX4_readTest_1 : decode cX4_readTest 1 = .ok (.iload_n 1, 1) := by decide +kernel
theorem dX4_readTest_2 : decode cX4_readTest 2 = .ok (.invokevirtual 75, 3) := by decide +kernel
theorem dX4_readTest_5 : decode cX4_readTest 5 = .ok (.istore_n 2, 1) := by decide +kernel
theorem dX4_readTest_6 : decode cX4_readTest 6 = .ok (.iconst 0, 1) := by decide +kernel
theorem dX4_readTest_7 : decode cX4_readTest 7 = .ok (.istore_n 3, 1) := by decide +kernel
theorem dX4_readTest_8 : decode cX4_readTest 8 = .ok (.iload_n 3, 1) := by decide +kernel
theorem dX4_readTest_9 : decode cX4_readTest 9 = .ok (.sipush 200, 3) := by decide +kernel
theorem dX4_readTest_12 : decode cX4_readTest 12 = .ok (.if_icmp .ge 65, 3) := by decide +kernel
theorem dX4_readTest_15 : decode cX4_readTest 15 = .ok (.iload_n 2, 1) := by decide +kernel
theorem dX4_readTest_16 : decode cX4_readTest 16 = .ok (.ifCond .eq 61, 3) := by decide +kernel
theorem dX4_readTest_19 : decode cX4_readTest 19 = .ok (.aload_n 0, 1) := by decide +kernel
theorem dX4_readTest_20 : decode cX4_readTest 20 = .ok (.invokevirtual 43, 3) := by decide +kernel
theorem dX4_readTest_23 : decode cX4_readTest 23 = .ok (.bipush 124, 2) := by decide +kernel
theorem dX4_readTest_25 : decode cX4_readTest 25 = .ok (.if_icmp .ne 52, 3) := by decide +kernel
theorem dX4_readTest_28 : decode cX4_readTest 28 = .ok (.aload_n 0, 1) := by decide +kernel
theorem dX4_readTest_29 : decode cX4_readTest 29 = .ok (.getfield 25, 3) := by decide +kernel
theorem dX4_readTest_32 : decode cX4_readTest 32 = .ok (.getfield 61, 3) := by decide +kernel
theorem dX4_readTest_35 : decode cX4_readTest 35 = .ok (.istore 4, 2) := by decide +kernel
theorem dX4_readTest_37 : decode cX4_readTest 37 = .ok (.aload_n 0, 1) := by decide +kernel
theorem dX4_readTest_38 : decode cX4_readTest 38 = .ok (.dup, 1) := by decide +kernel
theorem dX4_readTest_39 : decode cX4_readTest 39 = .ok (.getfield 33, 3) := by decide +kernel
theorem dX4_readTest_42 : decode cX4_readTest 42 = .ok (.iconst 1, 1) := by decide +kernel
theorem dX4_readTest_43 : decode cX4_readTest 43 = .ok (.iadd, 1) := by decide +kernel
theorem dX4_readTest_44 : decode cX4_readTest 44 = .ok (.putfield 33, 3) := by decide +kernel
theorem dX4_readTest_47 : decode cX4_readTest 47 = .ok (.aload_n 0, 1) := by decide +kernel
theorem dX4_readTest_48 : decode cX4_readTest 48 = .ok (.getfield 25, 3) := by decide +kernel
theorem dX4_readTest_51 : decode cX4_readTest 51 = .ok (.iconst 4, 1) := by decide +kernel
theorem dX4_readTest_52 : decode cX4_readTest 52 = .ok (.iconst 0, 1) := by decide +kernel
theorem dX4_readTest_53 : decode cX4_readTest 53 = .ok (.invokevirtual 78, 3) := by decide +kernel
theorem dX4_readTest_56 : decode cX4_readTest 56 = .ok (.aload_n 0, 1) := by decide +kernel
theorem dX4_readTest_57 : decode cX4_readTest 57 = .ok (.iload_n 1, 1) := by decide +kernel
theorem dX4_readTest_58 : decode cX4_readTest 58 = .ok (.invokevirtual 75, 3) := by decide +kernel
theorem dX4_readTest_61 : decode cX4_readTest 61 = .ok (.istore_n 2, 1) := by decide +kernel
theorem dX4_readTest_62 : decode cX4_readTest 62 = .ok (.aload_n 0, 1) := by decide +kernel
theorem dX4_readTest_63 : decode cX4_readTest 63 = .ok (.getfield 25, 3) := by decide +kernel
theorem dX4_readTest_66 : decode cX4_readTest 66 = .ok (.iload 4, 2) := by decide +kernel
theorem dX4_readTest_68 : decode cX4_readTest 68 = .ok (.invokevirtual 82, 3) := by decide +kernel
theorem dX4_readTest_71 : decode cX4_readTest 71 = .ok (.iinc 3 1, 3) := by decide +kernel
theorem dX4_readTest_74 : decode cX4_readTest 74 = .ok (.goto (-66), 3) := by decide +kernel
theorem dX4_readTest_77 : decode cX4_readTest 77 = .ok (.iload_n 2, 1) := by decide +kernel
theorem dX4_readTest_78 : decode cX4_readTest 78 = .ok (.ireturn, 1) := by decide +kernel
theorem dX4_readPart_0 : decode cX4_readPart 0 = .ok (.aload_n 0, 1) := by decide +kernel
theorem dX4_readPart_1 : decode cX4_readPart 1 = .ok (.iload_n 1, 1) := by decide +kernel
theorem dX4_readPart_2 : decode cX4_readPart 2 = .ok (.invokevirtual 86, 3) := by decide +kernel
theorem dX4_readPart_5 : decode cX4_readPart 5 = .ok (.istore_n 2, 1) := by decide +kernel
theorem dX4_readPart_6 : decode cX4_readPart 6 = .ok (.iconst 0, 1) := by decide +kernel
theorem dX4_readPart_7 : decode cX4_readPart 7 = .ok (.istore_n 3, 1) := by decide +kernel
theorem dX4_readPart_8 : decode cX4_readPart 8 = .ok (.iload_n 3, 1) := by decide +kernel
theorem dX4_readPart_9 : decode cX4_readPart 9 = .ok (.sipush 200, 3) := by decide +kernel
theorem dX4_readPart_12 : decode cX4_readPart 12 = .ok (.if_icmp .ge 65, 3) := by decide +kernel
theorem dX4_readPart_15 : decode cX4_readPart 15 = .ok (.iload_n 2, 1) := by decide +kernel
theorem dX4_readPart_16 : decode cX4_readPart 16 = .ok (.ifCond .eq 61, 3) := by decide +kernel
theorem dX4_readPart_19 : decode cX4_readPart 19 = .ok (.aload_n 0, 1) := by decide +kernel
theorem dX4_readPart_20 : decode cX4_readPart 20 = .ok (.invokevirtual 43, 3) := by decide +kernel
theorem dX4_readPart_23 : decode cX4_readPart 23 = .ok (.bipush 38, 2) := by decide +kernel
theorem dX4_readPart_25 : decode cX4_readPart 25 = .ok (.if_icmp .ne 52, 3) := by decide +kernel
theorem dX4_readPart_28 : decode cX4_readPart 28 = .ok (.aload_n 0, 1) := by decide +kernel
theorem dX4_readPart_29 : decode cX4_readPart 29 = .ok (.getfield 25, 3) := by decide +kernel
theorem dX4_readPart_32 : decode cX4_readPart 32 = .ok (.getfield 61, 3) := by decide +kernel
theorem dX4_readPart_35 : decode cX4_readPart 35 = .ok (.istore 4, 2) := by decide +kernel
theorem dX4_readPart_37 : decode cX4_readPart 37 = .ok (.aload_n 0, 1) := by decide +kernel
theorem dX4_readPart_38 : decode cX4_readPart 38 = .ok (.dup, 1) := by decide +kernel
theorem dX4_readPart_39 : decode cX4_readPart 39 = .ok (.getfield 33, 3) := by decide +kernel
theorem dX4_readPart_42 : decode cX4_readPart 42 = .ok (.iconst 1, 1) := by decide +kernel
theorem dX4_readPart_43 : decode cX4_readPart 43 = .ok (.iadd, 1) := by decide +kernel
theorem dX4_readPart_44 : decode cX4_readPart 44 = .ok (.putfield 33, 3) := by decide +kernel
theorem dX4_readPart_47 : decode cX4_readPart 47 = .ok (.aload_n 0, 1) := by decide +kernel
theorem dX4_readPart_48 : decode cX4_readPart 48 = .ok (.getfield 25, 3) := by decide +kernel
theorem dX4_readPart_51 : decode cX4_readPart 51 = .ok (.iconst 3, 1) := by decide +kernel
theorem dX4_readPart_52 : decode cX4_readPart 52 = .ok (.iconst 0, 1) := by decide +kernel
theorem dX4_readPart_53 : decode cX4_readPart 53 = .ok (.invokevirtual 78, 3) := by decide +kernel
theorem dX4_readPart_56 : decode cX4_readPart 56 = .ok (.aload_n 0, 1) := by decide +kernel
theorem dX4_readPart_57 : decode cX4_readPart 57 = .ok (.iload_n 1, 1) := by decide +kernel
theorem dX4_readPart_58 : decode cX4_readPart 58 = .ok (.invokevirtual 86, 3) := by decide +kernel
theorem dX4_readPart_61 : decode cX4_readPart 61 = .ok (.istore_n 2, 1) := by decide +kernel
theorem dX4_readPart_62 : decode cX4_readPart 62 = .ok (.aload_n 0, 1) := by decide +kernel
theorem dX4_readPart_63 : decode cX4_readPart 63 = .ok (.getfield 25, 3) := by decide +kernel
theorem dX4_readPart_66 : decode cX4_readPart 66 = .ok (.iload 4, 2) := by decide +kernel
theorem dX4_readPart_68 : decode cX4_readPart 68 = .ok (.invokevirtual 82, 3) := by decide +kernel
theorem dX4_readPart_71 : decode cX4_readPart 71 = .ok (.iinc 3 1, 3) := by decide +kernel
theorem dX4_readPart_74 : decode cX4_readPart 74 = .ok (.goto (-66), 3) := by decide +kernel
theorem dX4_readPart_77 : decode cX4_readPart 77 = .ok (.iload_n 2, 1) := by decide +kernel
theorem dX4_readPart_78 : decode cX4_readPart 78 = .ok (.ireturn, 1) := by decide +kernel
theorem dX4_readPiece_0 : decode cX4_readPiece 0 = .ok (.aload_n 0, 1) := by decide +kernel
theorem dX4_readPiece_1 : decode cX4_readPiece 1 = .ok (.invokevirtual 43, 3) := by decide +kernel
theorem dX4_readPiece_4 : decode cX4_readPiece 4 = .ok (.istore_n 2, 1) := by decide +kernel
theorem dX4_readPiece_5 : decode cX4_readPiece 5 = .ok (.iload_n 2, 1) := by decide +kernel
theorem dX4_readPiece_6 : decode cX4_readPiece 6 = .ok (.bipush 33, 2) := by decide +kernel
theorem dX4_readPiece_8 : decode cX4_readPiece 8 = .ok (.if_icmp .ne 38, 3) := by decide +kernel
theorem dX4_readPiece_11 : decode cX4_readPiece 11 = .ok (.aload_n 0, 1) := by decide +kernel
theorem dX4_readPiece_12 : decode cX4_readPiece 12 = .ok (.iload_n 1, 1) := by decide +kernel
theorem dX4_readPiece_13 : decode cX4_readPiece 13 = .ok (.invokevirtual 89, 3) := by decide +kernel
theorem dX4_readPiece_16 : decode cX4_readPiece 16 = .ok (.ifCond .eq 17, 3) := by decide +kernel
theorem dX4_readPiece_19 : decode cX4_readPiece 19 = .ok (.aload_n 0, 1) := by decide +kernel
theorem dX4_readPiece_20 : decode cX4_readPiece 20 = .ok (.iload_n 1, 1) := by decide +kernel
theorem dX4_readPiece_21 : decode cX4_readPiece 21 = .ok (.iconst 1, 1) := by decide +kernel
theorem dX4_readPiece_22 : decode cX4_readPiece 22 = .ok (.iadd, 1) := by decide +kernel
theorem dX4_readPiece_23 : decode cX4_readPiece 23 = .ok (.invokevirtual 86, 3) := by decide +kernel
theorem dX4_readPiece_26 : decode cX4_readPiece 26 = .ok (.ifCond .eq 7, 3) := by decide +kernel
theorem dX4_readPiece_29 : decode cX4_readPiece 29 = .ok (.iconst 1, 1) := by decide +kernel
theorem dX4_readPiece_30 : decode cX4_readPiece 30 = .ok (.goto 4, 3) := by decide +kernel
theorem dX4_readPiece_33 : decode cX4_readPiece 33 = .ok (.iconst 0, 1) := by decide +kernel
theorem dX4_readPiece_34 : decode cX4_readPiece 34 = .ok (.istore_n 3, 1) := by decide +kernel
theorem dX4_readPiece_35 : decode cX4_readPiece 35 = .ok (.aload_n 0, 1) := by decide +kernel
theorem dX4_readPiece_36 : decode cX4_readPiece 36 = .ok (.getfield 25, 3) := by decide +kernel
theorem dX4_readPiece_39 : decode cX4_readPiece 39 = .ok (.iconst 2, 1) := by decide +kernel
theorem dX4_readPiece_40 : decode cX4_readPiece 40 = .ok (.iconst 0, 1) := by decide +kernel
theorem dX4_readPiece_41 : decode cX4_readPiece 41 = .ok (.invokevirtual 78, 3) := by decide +kernel
theorem dX4_readPiece_44 : decode cX4_readPiece 44 = .ok (.iload_n 3, 1) := by decide +kernel
theorem dX4_readPiece_45 : decode cX4_readPiece 45 = .ok (.ireturn, 1) := by decide +kernel
theorem dX4_readPiece_46 : decode cX4_readPiece 46 = .ok (.iload_n 2, 1) := by decide +kernel
theorem dX4_readPiece_47 : decode cX4_readPiece 47 = .ok (.bipush 40, 2) := by decide +kernel
theorem dX4_readPiece_49 : decode cX4_readPiece 49 = .ok (.if_icmp .ne 36, 3) := by decide +kernel
theorem dX4_readPiece_52 : decode cX4_readPiece 52 = .ok (.aload_n 0, 1) := by decide +kernel
theorem dX4_readPiece_53 : decode cX4_readPiece 53 = .ok (.iload_n 1, 1) := by decide +kernel
theorem dX4_readPiece_54 : decode cX4_readPiece 54 = .ok (.invokevirtual 89, 3) := by decide +kernel
theorem dX4_readPiece_57 : decode cX4_readPiece 57 = .ok (.ifCond .eq 26, 3) := by decide +kernel
theorem dX4_readPiece_60 : decode cX4_readPiece 60 = .ok (.aload_n 0, 1) := by decide +kernel
theorem dX4_readPiece_61 : decode cX4_readPiece 61 = .ok (.iload_n 1, 1) := by decide +kernel
theorem dX4_readPiece_62 : decode cX4_readPiece 62 = .ok (.iconst 1, 1) := by decide +kernel
theorem dX4_readPiece_63 : decode cX4_readPiece 63 = .ok (.iadd, 1) := by decide +kernel
theorem dX4_readPiece_64 : decode cX4_readPiece 64 = .ok (.invokevirtual 70, 3) := by decide +kernel
theorem dX4_readPiece_67 : decode cX4_readPiece 67 = .ok (.ifCond .eq 16, 3) := by decide +kernel
theorem dX4_readPiece_70 : decode cX4_readPiece 70 = .ok (.aload_n 0, 1) := by decide +kernel
theorem dX4_readPiece_71 : decode cX4_readPiece 71 = .ok (.bipush 41, 2) := by decide +kernel
theorem dX4_readPiece_73 : decode cX4_readPiece 73 = .ok (.invokevirtual 36, 3) := by decide +kernel
theorem dX4_readPiece_76 : decode cX4_readPiece 76 = .ok (.ifCond .eq 7, 3) := by decide +kernel
theorem dX4_readPiece_79 : decode cX4_readPiece 79 = .ok (.iconst 1, 1) := by decide +kernel
theorem dX4_readPiece_80 : decode cX4_readPiece 80 = .ok (.goto 4, 3) := by decide +kernel
theorem dX4_readPiece_83 : decode cX4_readPiece 83 = .ok (.iconst 0, 1) := by decide +kernel
theorem dX4_readPiece_84 : decode cX4_readPiece 84 = .ok (.ireturn, 1) := by decide +kernel
theorem dX4_readPiece_85 : decode cX4_readPiece 85 = .ok (.aload_n 0, 1) := by decide +kernel
theorem dX4_readPiece_86 : decode cX4_readPiece 86 = .ok (.iload_n 1, 1) := by decide +kernel
theorem dX4_readPiece_87 : decode cX4_readPiece 87 = .ok (.invokevirtual 64, 3) := by decide +kernel
theorem dX4_readPiece_90 : decode cX4_readPiece 90 = .ok (.ifCond .ne 5, 3) := by decide +kernel
theorem dX4_readPiece_93 : decode cX4_readPiece 93 = .ok (.iconst 0, 1) := by decide +kernel
theorem dX4_readPiece_94 : decode cX4_readPiece 94 = .ok (.ireturn, 1) := by decide +kernel
theorem dX4_readPiece_95 : decode cX4_readPiece 95 = .ok (.aload_n 0, 1) := by decide +kernel
theorem dX4_readPiece_96 : decode cX4_readPiece 96 = .ok (.invokevirtual 43, 3) := by decide +kernel
theorem dX4_readPiece_99 : decode cX4_readPiece 99 = .ok (.istore_n 3, 1) := by decide +kernel
theorem dX4_readPiece_100 : decode cX4_readPiece 100 = .ok (.iload_n 3, 1) := by decide +kernel
theorem dX4_readPiece_101 : decode cX4_readPiece 101 = .ok (.bipush 60, 2) := by decide +kernel
theorem dX4_readPiece_103 : decode cX4_readPiece 103 = .ok (.if_icmp .eq 21, 3) := by decide +kernel
theorem dX4_readPiece_106 : decode cX4_readPiece 106 = .ok (.iload_n 3, 1) := by decide +kernel
theorem dX4_readPiece_107 : decode cX4_readPiece 107 = .ok (.bipush 62, 2) := by decide +kernel
theorem dX4_readPiece_109 : decode cX4_readPiece 109 = .ok (.if_icmp .eq 15, 3) := by decide +kernel
theorem dX4_readPiece_112 : decode cX4_readPiece 112 = .ok (.iload_n 3, 1) := by decide +kernel
theorem dX4_readPiece_113 : decode cX4_readPiece 113 = .ok (.bipush 61, 2) := by decide +kernel
theorem dX4_readPiece_115 : decode cX4_readPiece 115 = .ok (.if_icmp .eq 9, 3) := by decide +kernel
theorem dX4_readPiece_118 : decode cX4_readPiece 118 = .ok (.aload_n 0, 1) := by decide +kernel
theorem dX4_readPiece_119 : decode cX4_readPiece 119 = .ok (.iconst 1, 1) := by decide +kernel
theorem dX4_readPiece_120 : decode cX4_readPiece 120 = .ok (.invokevirtual 47, 3) := by decide +kernel
theorem dX4_readPiece_123 : decode cX4_readPiece 123 = .ok (.ireturn, 1) := by decide +kernel
theorem dX4_readPiece_124 : decode cX4_readPiece 124 = .ok (.aload_n 0, 1) := by decide +kernel
theorem dX4_readPiece_125 : decode cX4_readPiece 125 = .ok (.dup, 1) := by decide +kernel
theorem dX4_readPiece_126 : decode cX4_readPiece 126 = .ok (.getfield 33, 3) := by decide +kernel
theorem dX4_readPiece_129 : decode cX4_readPiece 129 = .ok (.iconst 1, 1) := by decide +kernel
theorem dX4_readPiece_130 : decode cX4_readPiece 130 = .ok (.iadd, 1) := by decide +kernel
theorem dX4_readPiece_131 : decode cX4_readPiece 131 = .ok (.putfield 33, 3) := by decide +kernel
theorem dX4_readPiece_134 : decode cX4_readPiece 134 = .ok (.aload_n 0, 1) := by decide +kernel
theorem dX4_readPiece_135 : decode cX4_readPiece 135 = .ok (.iload_n 1, 1) := by decide +kernel
theorem dX4_readPiece_136 : decode cX4_readPiece 136 = .ok (.invokevirtual 64, 3) := by decide +kernel
theorem dX4_readPiece_139 : decode cX4_readPiece 139 = .ok (.istore 4, 2) := by decide +kernel
theorem dX4_readPiece_141 : decode cX4_readPiece 141 = .ok (.aload_n 0, 1) := by decide +kernel
theorem dX4_readPiece_142 : decode cX4_readPiece 142 = .ok (.getfield 25, 3) := by decide +kernel
theorem dX4_readPiece_145 : decode cX4_readPiece 145 = .ok (.iload_n 3, 1) := by decide +kernel
theorem dX4_readPiece_146 : decode cX4_readPiece 146 = .ok (.iconst 0, 1) := by decide +kernel
theorem dX4_readPiece_147 : decode cX4_readPiece 147 = .ok (.invokevirtual 78, 3) := by decide +kernel
theorem dX4_readPiece_150 : decode cX4_readPiece 150 = .ok (.iload 4, 2) := by decide +kernel
theorem dX4_readPiece_152 : decode cX4_readPiece 152 = .ok (.ireturn, 1) := by decide +kernel
theorem dX4_readSum_0 : decode cX4_readSum 0 = .ok (.aload_n 0, 1) := by decide +kernel
theorem dX4_readSum_1 : decode cX4_readSum 1 = .ok (.iload_n 1, 1) := by decide +kernel
theorem dX4_readSum_2 : decode cX4_readSum 2 = .ok (.invokevirtual 92, 3) := by decide +kernel
theorem dX4_readSum_5 : decode cX4_readSum 5 = .ok (.istore_n 2, 1) := by decide +kernel
theorem dX4_readSum_6 : decode cX4_readSum 6 = .ok (.iconst 0, 1) := by decide +kernel
theorem dX4_readSum_7 : decode cX4_readSum 7 = .ok (.istore_n 3, 1) := by decide +kernel
theorem dX4_readSum_8 : decode cX4_readSum 8 = .ok (.iload_n 3, 1) := by decide +kernel
theorem dX4_readSum_9 : decode cX4_readSum 9 = .ok (.sipush 200, 3) := by decide +kernel
theorem dX4_readSum_12 : decode cX4_readSum 12 = .ok (.if_icmp .ge 63, 3) := by decide +kernel
theorem dX4_readSum_15 : decode cX4_readSum 15 = .ok (.iload_n 2, 1) := by decide +kernel
theorem dX4_readSum_16 : decode cX4_readSum 16 = .ok (.ifCond .eq 59, 3) := by decide +kernel
theorem dX4_readSum_19 : decode cX4_readSum 19 = .ok (.aload_n 0, 1) := by decide +kernel
theorem dX4_readSum_20 : decode cX4_readSum 20 = .ok (.invokevirtual 43, 3) := by decide +kernel
theorem dX4_readSum_23 : decode cX4_readSum 23 = .ok (.bipush 43, 2) := by decide +kernel
theorem dX4_readSum_25 : decode cX4_readSum 25 = .ok (.if_icmp .eq 12, 3) := by decide +kernel
theorem dX4_readSum_28 : decode cX4_readSum 28 = .ok (.aload_n 0, 1) := by decide +kernel
theorem dX4_readSum_29 : decode cX4_readSum 29 = .ok (.invokevirtual 43, 3) := by decide +kernel
theorem dX4_readSum_32 : decode cX4_readSum 32 = .ok (.bipush 45, 2) := by decide +kernel
theorem dX4_readSum_34 : decode cX4_readSum 34 = .ok (.if_icmp .ne 41, 3) := by decide +kernel
theorem dX4_readSum_37 : decode cX4_readSum 37 = .ok (.aload_n 0, 1) := by decide +kernel
theorem dX4_readSum_38 : decode cX4_readSum 38 = .ok (.invokevirtual 43, 3) := by decide +kernel
theorem dX4_readSum_41 : decode cX4_readSum 41 = .ok (.istore 4, 2) := by decide +kernel
theorem dX4_readSum_43 : decode cX4_readSum 43 = .ok (.aload_n 0, 1) := by decide +kernel
theorem dX4_readSum_44 : decode cX4_readSum 44 = .ok (.dup, 1) := by decide +kernel
theorem dX4_readSum_45 : decode cX4_readSum 45 = .ok (.getfield 33, 3) := by decide +kernel
theorem dX4_readSum_48 : decode cX4_readSum 48 = .ok (.iconst 1, 1) := by decide +kernel
theorem dX4_readSum_49 : decode cX4_readSum 49 = .ok (.iadd, 1) := by decide +kernel
theorem dX4_readSum_50 : decode cX4_readSum 50 = .ok (.putfield 33, 3) := by decide +kernel
theorem dX4_readSum_53 : decode cX4_readSum 53 = .ok (.aload_n 0, 1) := by decide +kernel
theorem dX4_readSum_54 : decode cX4_readSum 54 = .ok (.iload_n 1, 1) := by decide +kernel
theorem dX4_readSum_55 : decode cX4_readSum 55 = .ok (.invokevirtual 92, 3) := by decide +kernel
theorem dX4_readSum_58 : decode cX4_readSum 58 = .ok (.istore_n 2, 1) := by decide +kernel
theorem dX4_readSum_59 : decode cX4_readSum 59 = .ok (.aload_n 0, 1) := by decide +kernel
theorem dX4_readSum_60 : decode cX4_readSum 60 = .ok (.getfield 25, 3) := by decide +kernel
theorem dX4_readSum_63 : decode cX4_readSum 63 = .ok (.iload 4, 2) := by decide +kernel
theorem dX4_readSum_65 : decode cX4_readSum 65 = .ok (.iconst 0, 1) := by decide +kernel
theorem dX4_readSum_66 : decode cX4_readSum 66 = .ok (.invokevirtual 78, 3) := by decide +kernel
theorem dX4_readSum_69 : decode cX4_readSum 69 = .ok (.iinc 3 1, 3) := by decide +kernel
theorem dX4_readSum_72 : decode cX4_readSum 72 = .ok (.goto (-64), 3) := by decide +kernel
theorem dX4_readSum_75 : decode cX4_readSum 75 = .ok (.iload_n 2, 1) := by decide +kernel
theorem dX4_readSum_76 : decode cX4_readSum 76 = .ok (.ireturn, 1) := by decide +kernel
theorem dX4_readTerm_0 : decode cX4_readTerm 0 = .ok (.aload_n 0, 1) := by decide +kernel
theorem dX4_readTerm_1 : decode cX4_readTerm 1 = .ok (.iload_n 1, 1) := by decide +kernel
theorem dX4_readTerm_2 : decode cX4_readTerm 2 = .ok (.invokevirtual 95, 3) := by decide +kernel
theorem dX4_readTerm_5 : decode cX4_readTerm 5 = .ok (.istore_n 2, 1) := by decide +kernel
theorem dX4_readTerm_6 : decode cX4_readTerm 6 = .ok (.iconst 0, 1) := by decide +kernel
theorem dX4_readTerm_7 : decode cX4_readTerm 7 = .ok (.istore_n 3, 1) := by decide +kernel
theorem dX4_readTerm_8 : decode cX4_readTerm 8 = .ok (.iload_n 3, 1) := by decide +kernel
theorem dX4_readTerm_9 : decode cX4_readTerm 9 = .ok (.sipush 200, 3) := by decide +kernel
theorem dX4_readTerm_12 : decode cX4_readTerm 12 = .ok (.if_icmp .ge 72, 3) := by decide +kernel
theorem dX4_readTerm_15 : decode cX4_readTerm 15 = .ok (.iload_n 2, 1) := by decide +kernel
theorem dX4_readTerm_16 : decode cX4_readTerm 16 = .ok (.ifCond .eq 68, 3) := by decide +kernel
theorem dX4_readTerm_19 : decode cX4_readTerm 19 = .ok (.aload_n 0, 1) := by decide +kernel
theorem dX4_readTerm_20 : decode cX4_readTerm 20 = .ok (.invokevirtual 43, 3) := by decide +kernel
theorem dX4_readTerm_23 : decode cX4_readTerm 23 = .ok (.bipush 42, 2) := by decide +kernel
theorem dX4_readTerm_25 : decode cX4_readTerm 25 = .ok (.if_icmp .eq 21, 3) := by decide +kernel
theorem dX4_readTerm_28 : decode cX4_readTerm 28 = .ok (.aload_n 0, 1) := by decide +kernel
theorem dX4_readTerm_29 : decode cX4_readTerm 29 = .ok (.invokevirtual 43, 3) := by decide +kernel
theorem dX4_readTerm_32 : decode cX4_readTerm 32 = .ok (.bipush 47, 2) := by decide +kernel
theorem dX4_readTerm_34 : decode cX4_readTerm 34 = .ok (.if_icmp .eq 12, 3) := by decide +kernel
theorem dX4_readTerm_37 : decode cX4_readTerm 37 = .ok (.aload_n 0, 1) := by decide +kernel
theorem dX4_readTerm_38 : decode cX4_readTerm 38 = .ok (.invokevirtual 43, 3) := by decide +kernel
theorem dX4_readTerm_41 : decode cX4_readTerm 41 = .ok (.bipush 37, 2) := by decide +kernel
theorem dX4_readTerm_43 : decode cX4_readTerm 43 = .ok (.if_icmp .ne 41, 3) := by decide +kernel
theorem dX4_readTerm_46 : decode cX4_readTerm 46 = .ok (.aload_n 0, 1) := by decide +kernel
theorem dX4_readTerm_47 : decode cX4_readTerm 47 = .ok (.invokevirtual 43, 3) := by decide +kernel
theorem dX4_readTerm_50 : decode cX4_readTerm 50 = .ok (.istore 4, 2) := by decide +kernel
theorem dX4_readTerm_52 : decode cX4_readTerm 52 = .ok (.aload_n 0, 1) := by decide +kernel
theorem dX4_readTerm_53 : decode cX4_readTerm 53 = .ok (.dup, 1) := by decide +kernel
theorem dX4_readTerm_54 : decode cX4_readTerm 54 = .ok (.getfield 33, 3) := by decide +kernel
theorem dX4_readTerm_57 : decode cX4_readTerm 57 = .ok (.iconst 1, 1) := by decide +kernel
theorem dX4_readTerm_58 : decode cX4_readTerm 58 = .ok (.iadd, 1) := by decide +kernel
theorem dX4_readTerm_59 : decode cX4_readTerm 59 = .ok (.putfield 33, 3) := by decide +kernel
theorem dX4_readTerm_62 : decode cX4_readTerm 62 = .ok (.aload_n 0, 1) := by decide +kernel
theorem dX4_readTerm_63 : decode cX4_readTerm 63 = .ok (.iload_n 1, 1) := by decide +kernel
theorem dX4_readTerm_64 : decode cX4_readTerm 64 = .ok (.invokevirtual 95, 3) := by decide +kernel
theorem dX4_readTerm_67 : decode cX4_readTerm 67 = .ok (.istore_n 2, 1) := by decide +kernel
theorem dX4_readTerm_68 : decode cX4_readTerm 68 = .ok (.aload_n 0, 1) := by decide +kernel
theorem dX4_readTerm_69 : decode cX4_readTerm 69 = .ok (.getfield 25, 3) := by decide +kernel
theorem dX4_readTerm_72 : decode cX4_readTerm 72 = .ok (.iload 4, 2) := by decide +kernel
theorem dX4_readTerm_74 : decode cX4_readTerm 74 = .ok (.iconst 0, 1) := by decide +kernel
theorem dX4_readTerm_75 : decode cX4_readTerm 75 = .ok (.invokevirtual 78, 3) := by decide +kernel
theorem dX4_readTerm_78 : decode cX4_readTerm 78 = .ok (.iinc 3 1, 3) := by decide +kernel
theorem dX4_readTerm_81 : decode cX4_readTerm 81 = .ok (.goto (-73), 3) := by decide +kernel
theorem dX4_readTerm_84 : decode cX4_readTerm 84 = .ok (.iload_n 2, 1) := by decide +kernel
theorem dX4_readTerm_85 : decode cX4_readTerm 85 = .ok (.ireturn, 1) := by decide +kernel
theorem dX4_readFactor_0 : decode cX4_readFactor 0 = .ok (.aload_n 0, 1) := by decide +kernel
theorem dX4_readFactor_1 : decode cX4_readFactor 1 = .ok (.invokevirtual 43, 3) := by decide +kernel
theorem dX4_readFactor_4 : decode cX4_readFactor 4 = .ok (.istore_n 2, 1) := by decide +kernel
theorem dX4_readFactor_5 : decode cX4_readFactor 5 = .ok (.iload_n 2, 1) := by decide +kernel
theorem dX4_readFactor_6 : decode cX4_readFactor 6 = .ok (.bipush 91, 2) := by decide +kernel
theorem dX4_readFactor_8 : decode cX4_readFactor 8 = .ok (.if_icmp .ne 36, 3) := by decide +kernel
theorem dX4_readFactor_11 : decode cX4_readFactor 11 = .ok (.aload_n 0, 1) := by decide +kernel
theorem dX4_readFactor_12 : decode cX4_readFactor 12 = .ok (.iload_n 1, 1) := by decide +kernel
theorem dX4_readFactor_13 : decode cX4_readFactor 13 = .ok (.invokevirtual 89, 3) := by decide +kernel
theorem dX4_readFactor_16 : decode cX4_readFactor 16 = .ok (.ifCond .eq 26, 3) := by decide +kernel
theorem dX4_readFactor_19 : decode cX4_readFactor 19 = .ok (.aload_n 0, 1) := by decide +kernel
theorem dX4_readFactor_20 : decode cX4_readFactor 20 = .ok (.iload_n 1, 1) := by decide +kernel
theorem dX4_readFactor_21 : decode cX4_readFactor 21 = .ok (.iconst 1, 1) := by decide +kernel
theorem dX4_readFactor_22 : decode cX4_readFactor 22 = .ok (.iadd, 1) := by decide +kernel
theorem dX4_readFactor_23 : decode cX4_readFactor 23 = .ok (.invokevirtual 64, 3) := by decide +kernel
theorem dX4_readFactor_26 : decode cX4_readFactor 26 = .ok (.ifCond .eq 16, 3) := by decide +kernel
theorem dX4_readFactor_29 : decode cX4_readFactor 29 = .ok (.aload_n 0, 1) := by decide +kernel
theorem dX4_readFactor_30 : decode cX4_readFactor 30 = .ok (.bipush 93, 2) := by decide +kernel
theorem dX4_readFactor_32 : decode cX4_readFactor 32 = .ok (.invokevirtual 36, 3) := by decide +kernel
theorem dX4_readFactor_35 : decode cX4_readFactor 35 = .ok (.ifCond .eq 7, 3) := by decide +kernel
theorem dX4_readFactor_38 : decode cX4_readFactor 38 = .ok (.iconst 1, 1) := by decide +kernel
theorem dX4_readFactor_39 : decode cX4_readFactor 39 = .ok (.goto 4, 3) := by decide +kernel
theorem dX4_readFactor_42 : decode cX4_readFactor 42 = .ok (.iconst 0, 1) := by decide +kernel
theorem dX4_readFactor_43 : decode cX4_readFactor 43 = .ok (.ireturn, 1) := by decide +kernel
theorem dX4_readFactor_44 : decode cX4_readFactor 44 = .ok (.iload_n 2, 1) := by decide +kernel
theorem dX4_readFactor_45 : decode cX4_readFactor 45 = .ok (.invokestatic 98, 3) := by decide +kernel
theorem dX4_readFactor_48 : decode cX4_readFactor 48 = .ok (.ifCond .eq 8, 3) := by decide +kernel
theorem dX4_readFactor_51 : decode cX4_readFactor 51 = .ok (.aload_n 0, 1) := by decide +kernel
theorem dX4_readFactor_52 : decode cX4_readFactor 52 = .ok (.invokevirtual 101, 3) := by decide +kernel
theorem dX4_readFactor_55 : decode cX4_readFactor 55 = .ok (.ireturn, 1) := by decide +kernel
theorem dX4_readFactor_56 : decode cX4_readFactor 56 = .ok (.iload_n 2, 1) := by decide +kernel
theorem dX4_readFactor_57 : decode cX4_readFactor 57 = .ok (.invokestatic 104, 3) := by decide +kernel
theorem dX4_readFactor_60 : decode cX4_readFactor 60 = .ok (.ifCond .ne 9, 3) := by decide +kernel
theorem dX4_readFactor_63 : decode cX4_readFactor 63 = .ok (.aload_n 0, 1) := by decide +kernel
theorem dX4_readFactor_64 : decode cX4_readFactor 64 = .ok (.iconst 1, 1) := by decide +kernel
theorem dX4_readFactor_65 : decode cX4_readFactor 65 = .ok (.invokevirtual 47, 3) := by decide +kernel
theorem dX4_readFactor_68 : decode cX4_readFactor 68 = .ok (.ireturn, 1) := by decide +kernel
theorem dX4_readFactor_69 : decode cX4_readFactor 69 = .ok (.aload_n 0, 1) := by decide +kernel
theorem dX4_readFactor_70 : decode cX4_readFactor 70 = .ok (.dup, 1) := by decide +kernel
theorem dX4_readFactor_71 : decode cX4_readFactor 71 = .ok (.getfield 33, 3) := by decide +kernel
theorem dX4_readFactor_74 : decode cX4_readFactor 74 = .ok (.iconst 1, 1) := by decide +kernel
theorem dX4_readFactor_75 : decode cX4_readFactor 75 = .ok (.iadd, 1) := by decide +kernel
theorem dX4_readFactor_76 : decode cX4_readFactor 76 = .ok (.putfield 33, 3) := by decide +kernel
theorem dX4_readFactor_79 : decode cX4_readFactor 79 = .ok (.aload_n 0, 1) := by decide +kernel
theorem dX4_readFactor_80 : decode cX4_readFactor 80 = .ok (.getfield 25, 3) := by decide +kernel
theorem dX4_readFactor_83 : decode cX4_readFactor 83 = .ok (.iconst 1, 1) := by decide +kernel
theorem dX4_readFactor_84 : decode cX4_readFactor 84 = .ok (.iload_n 2, 1) := by decide +kernel
theorem dX4_readFactor_85 : decode cX4_readFactor 85 = .ok (.invokevirtual 78, 3) := by decide +kernel
theorem dX4_readFactor_88 : decode cX4_readFactor 88 = .ok (.iconst 1, 1) := by decide +kernel
theorem dX4_readFactor_89 : decode cX4_readFactor 89 = .ok (.ireturn, 1) := by decide +kernel
theorem dX4_readNumber_0 : decode cX4_readNumber 0 = .ok (.iconst 0, 1) := by decide +kernel
theorem dX4_readNumber_1 : decode cX4_readNumber 1 = .ok (.istore_n 1, 1) := by decide +kernel
theorem dX4_readNumber_2 : decode cX4_readNumber 2 = .ok (.iconst 0, 1) := by decide +kernel
theorem dX4_readNumber_3 : decode cX4_readNumber 3 = .ok (.istore_n 2, 1) := by decide +kernel
theorem dX4_readNumber_4 : decode cX4_readNumber 4 = .ok (.iload_n 2, 1) := by decide +kernel
theorem dX4_readNumber_5 : decode cX4_readNumber 5 = .ok (.iconst 5, 1) := by decide +kernel
theorem dX4_readNumber_6 : decode cX4_readNumber 6 = .ok (.if_icmp .gt 53, 3) := by decide +kernel
theorem dX4_readNumber_9 : decode cX4_readNumber 9 = .ok (.aload_n 0, 1) := by decide +kernel
theorem dX4_readNumber_10 : decode cX4_readNumber 10 = .ok (.invokevirtual 43, 3) := by decide +kernel
theorem dX4_readNumber_13 : decode cX4_readNumber 13 = .ok (.invokestatic 98, 3) := by decide +kernel
theorem dX4_readNumber_16 : decode cX4_readNumber 16 = .ok (.ifCond .eq 43, 3) := by decide +kernel
theorem dX4_readNumber_19 : decode cX4_readNumber 19 = .ok (.iload_n 2, 1) := by decide +kernel
theorem dX4_readNumber_20 : decode cX4_readNumber 20 = .ok (.iconst 5, 1) := by decide +kernel
theorem dX4_readNumber_21 : decode cX4_readNumber 21 = .ok (.if_icmp .ne 9, 3) := by decide +kernel
theorem dX4_readNumber_24 : decode cX4_readNumber 24 = .ok (.aload_n 0, 1) := by decide +kernel
theorem dX4_readNumber_25 : decode cX4_readNumber 25 = .ok (.iconst 2, 1) := by decide +kernel
theorem dX4_readNumber_26 : decode cX4_readNumber 26 = .ok (.invokevirtual 47, 3) := by decide +kernel
theorem dX4_readNumber_29 : decode cX4_readNumber 29 = .ok (.ireturn, 1) := by decide +kernel
theorem dX4_readNumber_30 : decode cX4_readNumber 30 = .ok (.iload_n 1, 1) := by decide +kernel
theorem dX4_readNumber_31 : decode cX4_readNumber 31 = .ok (.bipush 10, 2) := by decide +kernel
theorem dX4_readNumber_33 : decode cX4_readNumber 33 = .ok (.imul, 1) := by decide +kernel
theorem dX4_readNumber_34 : decode cX4_readNumber 34 = .ok (.aload_n 0, 1) := by decide +kernel
theorem dX4_readNumber_35 : decode cX4_readNumber 35 = .ok (.invokevirtual 43, 3) := by decide +kernel
theorem dX4_readNumber_38 : decode cX4_readNumber 38 = .ok (.iadd, 1) := by decide +kernel
theorem dX4_readNumber_39 : decode cX4_readNumber 39 = .ok (.bipush 48, 2) := by decide +kernel
theorem dX4_readNumber_41 : decode cX4_readNumber 41 = .ok (.isub, 1) := by decide +kernel
theorem dX4_readNumber_42 : decode cX4_readNumber 42 = .ok (.istore_n 1, 1) := by decide +kernel
theorem dX4_readNumber_43 : decode cX4_readNumber 43 = .ok (.aload_n 0, 1) := by decide +kernel
theorem dX4_readNumber_44 : decode cX4_readNumber 44 = .ok (.dup, 1) := by decide +kernel
theorem dX4_readNumber_45 : decode cX4_readNumber 45 = .ok (.getfield 33, 3) := by decide +kernel
theorem dX4_readNumber_48 : decode cX4_readNumber 48 = .ok (.iconst 1, 1) := by decide +kernel
theorem dX4_readNumber_49 : decode cX4_readNumber 49 = .ok (.iadd, 1) := by decide +kernel
theorem dX4_readNumber_50 : decode cX4_readNumber 50 = .ok (.putfield 33, 3) := by decide +kernel
theorem dX4_readNumber_53 : decode cX4_readNumber 53 = .ok (.iinc 2 1, 3) := by decide +kernel
theorem dX4_readNumber_56 : decode cX4_readNumber 56 = .ok (.goto (-52), 3) := by decide +kernel
theorem dX4_readNumber_59 : decode cX4_readNumber 59 = .ok (.aload_n 0, 1) := by decide +kernel
theorem dX4_readNumber_60 : decode cX4_readNumber 60 = .ok (.getfield 25, 3) := by decide +kernel
theorem dX4_readNumber_63 : decode cX4_readNumber 63 = .ok (.iconst 0, 1) := by decide +kernel
theorem dX4_readNumber_64 : decode cX4_readNumber 64 = .ok (.iload_n 1, 1) := by decide +kernel
theorem dX4_readNumber_65 : decode cX4_readNumber 65 = .ok (.invokevirtual 78, 3) := by decide +kernel
theorem dX4_readNumber_68 : decode cX4_readNumber 68 = .ok (.iconst 1, 1) := by decide +kernel
theorem dX4_readNumber_69 : decode cX4_readNumber 69 = .ok (.ireturn, 1) := by decide +kernel
theorem dX4_isDigit_0 : decode cX4_isDigit 0 = .ok (.iload_n 0, 1) := by decide +kernel
theorem dX4_isDigit_1 : decode cX4_isDigit 1 = .ok (.bipush 48, 2) := by decide +kernel
theorem dX4_isDigit_3 : decode cX4_isDigit 3 = .ok (.bipush 57, 2) := by decide +kernel
theorem dX4_isDigit_5 : decode cX4_isDigit 5 = .ok (.invokestatic 107, 3) := by decide +kernel
theorem dX4_isDigit_8 : decode cX4_isDigit 8 = .ok (.ireturn, 1) := by decide +kernel
theorem dX4_isFact_0 : decode cX4_isFact 0 = .ok (.iload_n 0, 1) := by decide +kernel
theorem dX4_isFact_1 : decode cX4_isFact 1 = .ok (.tableswitch 113 98 121 #[111, 113, 113, 113, 111, 113, 111, 113, 113, 111, 111, 113, 111, 113, 111, 113, 111, 111, 111, 113, 113, 113, 111, 111], 111) := by decide +kernel
theorem dX4_isFact_112 : decode cX4_isFact 112 = .ok (.iconst 1, 1) := by decide +kernel
theorem dX4_isFact_113 : decode cX4_isFact 113 = .ok (.ireturn, 1) := by decide +kernel
theorem dX4_isFact_114 : decode cX4_isFact 114 = .ok (.iconst 0, 1) := by decide +kernel
theorem dX4_isFact_115 : decode cX4_isFact 115 = .ok (.ireturn, 1) := by decide +kernel
theorem dX5_init_0 : decode cX5_init 0 = .ok (.aload_n 0, 1) := by decide +kernel
theorem dX5_init_1 : decode cX5_init 1 = .ok (.invokespecial 3, 3) := by decide +kernel
theorem dX5_init_4 : decode cX5_init 4 = .ok (.aload_n 0, 1) := by decide +kernel
theorem dX5_init_5 : decode cX5_init 5 = .ok (.bipush 16, 2) := by decide +kernel
theorem dX5_init_7 : decode cX5_init 7 = .ok (.newarray .int, 2) := by decide +kernel
theorem dX5_init_9 : decode cX5_init 9 = .ok (.putfield 9, 3) := by decide +kernel
theorem dX5_init_12 : decode cX5_init 12 = .ok (.aload_n 0, 1) := by decide +kernel
theorem dX5_init_13 : decode cX5_init 13 = .ok (.bipush 16, 2) := by decide +kernel
theorem dX5_init_15 : decode cX5_init 15 = .ok (.newarray .int, 2) := by decide +kernel
theorem dX5_init_17 : decode cX5_init 17 = .ok (.putfield 15, 3) := by decide +kernel
theorem dX5_init_20 : decode cX5_init 20 = .ok (.aload_n 0, 1) := by decide +kernel
theorem dX5_init_21 : decode cX5_init 21 = .ok (.sipush 128, 3) := by decide +kernel
theorem dX5_init_24 : decode cX5_init 24 = .ok (.newarray .int, 2) := by decide +kernel
theorem dX5_init_26 : decode cX5_init 26 = .ok (.putfield 18, 3) := by decide +kernel
theorem dX5_init_29 : decode cX5_init 29 = .ok (.aload_n 0, 1) := by decide +kernel
theorem dX5_init_30 : decode cX5_init 30 = .ok (.bipush 16, 2) := by decide +kernel
theorem dX5_init_32 : decode cX5_init 32 = .ok (.newarray .int, 2) := by decide +kernel
theorem dX5_init_34 : decode cX5_init 34 = .ok (.putfield 21, 3) := by decide +kernel
theorem dX5_init_37 : decode cX5_init 37 = .ok (.aload_n 0, 1) := by decide +kernel
theorem dX5_init_38 : decode cX5_init 38 = .ok (.bipush 16, 2) := by decide +kernel
theorem dX5_init_40 : decode cX5_init 40 = .ok (.newarray .int, 2) := by decide +kernel
theorem dX5_init_42 : decode cX5_init 42 = .ok (.putfield 24, 3) := by decide +kernel
theorem dX5_init_45 : decode cX5_init 45 = .ok (.aload_n 0, 1) := by decide +kernel
theorem dX5_init_46 : decode cX5_init 46 = .ok (.bipush 16, 2) := by decide +kernel
theorem dX5_init_48 : decode cX5_init 48 = .ok (.newarray .int, 2) := by decide +kernel
theorem dX5_init_50 : decode cX5_init 50 = .ok (.putfield 27, 3) := by decide +kernel
theorem dX5_init_53 : decode cX5_init 53 = .ok (.aload_n 0, 1) := by decide +kernel
theorem dX5_init_54 : decode cX5_init 54 = .ok (.bipush 16, 2) := by decide +kernel
theorem dX5_init_56 : decode cX5_init 56 = .ok (.newarray .int, 2) := by decide +kernel
theorem dX5_init_58 : decode cX5_init 58 = .ok (.putfield 30, 3) := by decide +kernel
theorem dX5_init_61 : decode cX5_init 61 = .ok (.return_, 1) := by decide +kernel
theorem dX5_add_0 : decode cX5_add 0 = .ok (.aload_n 0, 1) := by decide +kernel
theorem dX5_add_1 : decode cX5_add 1 = .ok (.getfield 33, 3) := by decide +kernel
theorem dX5_add_4 : decode cX5_add 4 = .ok (.bipush 16, 2) := by decide +kernel
theorem dX5_add_6 : decode cX5_add 6 = .ok (.if_icmp .lt 5, 3) := by decide +kernel
theorem dX5_add_9 : decode cX5_add 9 = .ok (.iconst (-1), 1) := by decide +kernel
theorem dX5_add_10 : decode cX5_add 10 = .ok (.ireturn, 1) := by decide +kernel
theorem dX5_add_11 : decode cX5_add 11 = .ok (.aload_n 0, 1) := by decide +kernel
theorem dX5_add_12 : decode cX5_add 12 = .ok (.getfield 9, 3) := by decide +kernel
theorem dX5_add_15 : decode cX5_add 15 = .ok (.aload_n 0, 1) := by decide +kernel
theorem dX5_add_16 : decode cX5_add 16 = .ok (.getfield 33, 3) := by decide +kernel
theorem dX5_add_19 : decode cX5_add 19 = .ok (.iload_n 1, 1) := by decide +kernel
theorem dX5_add_20 : decode cX5_add 20 = .ok (.iastore, 1) := by decide +kernel
theorem dX5_add_21 : decode cX5_add 21 = .ok (.aload_n 0, 1) := by decide +kernel
theorem dX5_add_22 : decode cX5_add 22 = .ok (.getfield 15, 3) := by decide +kernel
theorem dX5_add_25 : decode cX5_add 25 = .ok (.aload_n 0, 1) := by decide +kernel
theorem dX5_add_26 : decode cX5_add 26 = .ok (.getfield 33, 3) := by decide +kernel
theorem dX5_add_29 : decode cX5_add 29 = .ok (.iload_n 2, 1) := by decide +kernel
theorem dX5_add_30 : decode cX5_add 30 = .ok (.iastore, 1) := by decide +kernel
theorem dX5_add_31 : decode cX5_add 31 = .ok (.aload_n 0, 1) := by decide +kernel
theorem dX5_add_32 : decode cX5_add 32 = .ok (.dup, 1) := by decide +kernel
theorem dX5_add_33 : decode cX5_add 33 = .ok (.getfield 33, 3) := by decide +kernel
theorem dX5_add_36 : decode cX5_add 36 = .ok (.iconst 1, 1) := by decide +kernel
theorem dX5_add_37 : decode cX5_add 37 = .ok (.iadd, 1) := by decide +kernel
theorem dX5_add_38 : decode cX5_add 38 = .ok (.putfield 33, 3) := by decide +kernel
theorem dX5_add_41 : decode cX5_add 41 = .ok (.aload_n 0, 1) := by decide +kernel
theorem dX5_add_42 : decode cX5_add 42 = .ok (.getfield 33, 3) := by decide +kernel
theorem dX5_add_45 : decode cX5_add 45 = .ok (.iconst 1, 1) := by decide +kernel
theorem dX5_add_46 : decode cX5_add 46 = .ok (.isub, 1) := by decide +kernel
theorem dX5_add_47 : decode cX5_add 47 = .ok (.ireturn, 1) := by decide +kernel
theorem dX5_has_0 : decode cX5_has 0 = .ok (.iload_n 1, 1) := by decide +kernel
theorem dX5_has_1 : decode cX5_has 1 = .ok (.iconst 0, 1) := by decide +kernel
theorem dX5_has_2 : decode cX5_has 2 = .ok (.aload_n 0, 1) := by decide +kernel
theorem dX5_has_3 : decode cX5_has 3 = .ok (.getfield 33, 3) := by decide +kernel
theorem dX5_has_6 : decode cX5_has 6 = .ok (.iconst 1, 1) := by decide +kernel
theorem dX5_has_7 : decode cX5_has 7 = .ok (.isub, 1) := by decide +kernel
theorem dX5_has_8 : decode cX5_has 8 = .ok (.invokestatic 37, 3) := by decide +kernel
theorem dX5_has_11 : decode cX5_has 11 = .ok (.ireturn, 1) := by decide +kernel
theorem dX6_init_0 : decode cX6_init 0 = .ok (.aload_n 0, 1) := by decide +kernel
theorem dX6_init_1 : decode cX6_init 1 = .ok (.invokespecial 3, 3) := by decide +kernel
theorem dX6_init_4 : decode cX6_init 4 = .ok (.aload_n 0, 1) := by decide +kernel
theorem dX6_init_5 : decode cX6_init 5 = .ok (.bipush 8, 2) := by decide +kernel
theorem dX6_init_7 : decode cX6_init 7 = .ok (.newarray .int, 2) := by decide +kernel
theorem dX6_init_9 : decode cX6_init 9 = .ok (.putfield 9, 3) := by decide +kernel
theorem dX6_init_12 : decode cX6_init 12 = .ok (.aload_n 0, 1) := by decide +kernel
theorem dX6_init_13 : decode cX6_init 13 = .ok (.bipush 81, 2) := by decide +kernel
theorem dX6_init_15 : decode cX6_init 15 = .ok (.newarray .int, 2) := by decide +kernel
theorem dX6_init_17 : decode cX6_init 17 = .ok (.putfield 15, 3) := by decide +kernel
theorem dX6_init_20 : decode cX6_init 20 = .ok (.aload_n 0, 1) := by decide +kernel
theorem dX6_init_21 : decode cX6_init 21 = .ok (.sipush 2304, 3) := by decide +kernel
theorem dX6_init_24 : decode cX6_init 24 = .ok (.newarray .int, 2) := by decide +kernel
theorem dX6_init_26 : decode cX6_init 26 = .ok (.putfield 18, 3) := by decide +kernel
theorem dX6_init_29 : decode cX6_init 29 = .ok (.aload_n 0, 1) := by decide +kernel
theorem dX6_init_30 : decode cX6_init 30 = .ok (.iconst 2, 1) := by decide +kernel
theorem dX6_init_31 : decode cX6_init 31 = .ok (.putfield 21, 3) := by decide +kernel
theorem dX6_init_34 : decode cX6_init 34 = .ok (.aload_n 0, 1) := by decide +kernel
theorem dX6_init_35 : decode cX6_init 35 = .ok (.aload_n 1, 1) := by decide +kernel
theorem dX6_init_36 : decode cX6_init 36 = .ok (.putfield 25, 3) := by decide +kernel
theorem dX6_init_39 : decode cX6_init 39 = .ok (.return_, 1) := by decide +kernel
theorem dX6_shortest_0 : decode cX6_shortest 0 = .ok (.aload_n 0, 1) := by decide +kernel
theorem dX6_shortest_1 : decode cX6_shortest 1 = .ok (.iconst 0, 1) := by decide +kernel
theorem dX6_shortest_2 : decode cX6_shortest 2 = .ok (.putfield 29, 3) := by decide +kernel
theorem dX6_shortest_5 : decode cX6_shortest 5 = .ok (.iload_n 1, 1) := by decide +kernel
theorem dX6_shortest_6 : decode cX6_shortest 6 = .ok (.invokestatic 32, 3) := by decide +kernel
theorem dX6_shortest_9 : decode cX6_shortest 9 = .ok (.bipush 8, 2) := by decide +kernel
theorem dX6_shortest_11 : decode cX6_shortest 11 = .ok (.if_icmp .le 6, 3) := by decide +kernel
theorem dX6_shortest_14 : decode cX6_shortest 14 = .ok (.bipush (-2), 2) := by decide +kernel
theorem dX6_shortest_16 : decode cX6_shortest 16 = .ok (.ireturn, 1) := by decide +kernel
theorem dX6_shortest_17 : decode cX6_shortest 17 = .ok (.iconst 0, 1) := by decide +kernel
theorem dX6_shortest_18 : decode cX6_shortest 18 = .ok (.istore_n 2, 1) := by decide +kernel
theorem dX6_shortest_19 : decode cX6_shortest 19 = .ok (.iload_n 2, 1) := by decide +kernel
theorem dX6_shortest_20 : decode cX6_shortest 20 = .ok (.aload_n 0, 1) := by decide +kernel
theorem dX6_shortest_21 : decode cX6_shortest 21 = .ok (.getfield 25, 3) := by decide +kernel
theorem dX6_shortest_24 : decode cX6_shortest 24 = .ok (.getfield 38, 3) := by decide +kernel
theorem dX6_shortest_27 : decode cX6_shortest 27 = .ok (.if_icmp .ge 46, 3) := by decide +kernel
theorem dX6_shortest_30 : decode cX6_shortest 30 = .ok (.aload_n 0, 1) := by decide +kernel
theorem dX6_shortest_31 : decode cX6_shortest 31 = .ok (.getfield 29, 3) := by decide +kernel
theorem dX6_shortest_34 : decode cX6_shortest 34 = .ok (.bipush 8, 2) := by decide +kernel
theorem dX6_shortest_36 : decode cX6_shortest 36 = .ok (.if_icmp .ge 37, 3) := by decide +kernel
theorem dX6_shortest_39 : decode cX6_shortest 39 = .ok (.iload_n 1, 1) := by decide +kernel
theorem dX6_shortest_40 : decode cX6_shortest 40 = .ok (.iload_n 2, 1) := by decide +kernel
theorem dX6_shortest_41 : decode cX6_shortest 41 = .ok (.invokestatic 41, 3) := by decide +kernel
theorem dX6_shortest_44 : decode cX6_shortest 44 = .ok (.ifCond .eq 23, 3) := by decide +kernel
theorem dX6_shortest_47 : decode cX6_shortest 47 = .ok (.aload_n 0, 1) := by decide +kernel
theorem dX6_shortest_48 : decode cX6_shortest 48 = .ok (.getfield 9, 3) := by decide +kernel
theorem dX6_shortest_51 : decode cX6_shortest 51 = .ok (.aload_n 0, 1) := by decide +kernel
theorem dX6_shortest_52 : decode cX6_shortest 52 = .ok (.getfield 29, 3) := by decide +kernel
theorem dX6_shortest_55 : decode cX6_shortest 55 = .ok (.iload_n 2, 1) := by decide +kernel
theorem dX6_shortest_56 : decode cX6_shortest 56 = .ok (.iastore, 1) := by decide +kernel
theorem dX6_shortest_57 : decode cX6_shortest 57 = .ok (.aload_n 0, 1) := by decide +kernel
theorem dX6_shortest_58 : decode cX6_shortest 58 = .ok (.dup, 1) := by decide +kernel
theorem dX6_shortest_59 : decode cX6_shortest 59 = .ok (.getfield 29, 3) := by decide +kernel
theorem dX6_shortest_62 : decode cX6_shortest 62 = .ok (.iconst 1, 1) := by decide +kernel
theorem dX6_shortest_63 : decode cX6_shortest 63 = .ok (.iadd, 1) := by decide +kernel
theorem dX6_shortest_64 : decode cX6_shortest 64 = .ok (.putfield 29, 3) := by decide +kernel
theorem dX6_shortest_67 : decode cX6_shortest 67 = .ok (.iinc 2 1, 3) := by decide +kernel
theorem dX6_shortest_70 : decode cX6_shortest 70 = .ok (.goto (-51), 3) := by decide +kernel
theorem dX6_shortest_73 : decode cX6_shortest 73 = .ok (.aload_n 0, 1) := by decide +kernel
theorem dX6_shortest_74 : decode cX6_shortest 74 = .ok (.invokevirtual 45, 3) := by decide +kernel
theorem dX6_shortest_77 : decode cX6_shortest 77 = .ok (.iconst 1, 1) := by decide +kernel
theorem dX6_shortest_78 : decode cX6_shortest 78 = .ok (.aload_n 0, 1) := by decide +kernel
theorem dX6_shortest_79 : decode cX6_shortest 79 = .ok (.getfield 29, 3) := by decide +kernel
theorem dX6_shortest_82 : decode cX6_shortest 82 = .ok (.ishl, 1) := by decide +kernel
theorem dX6_shortest_83 : decode cX6_shortest 83 = .ok (.iconst 1, 1) := by decide +kernel
theorem dX6_shortest_84 : decode cX6_shortest 84 = .ok (.isub, 1) := by decide +kernel
theorem dX6_shortest_85 : decode cX6_shortest 85 = .ok (.istore_n 2, 1) := by decide +kernel
theorem dX6_shortest_86 : decode cX6_shortest 86 = .ok (.iconst 0, 1) := by decide +kernel
theorem dX6_shortest_87 : decode cX6_shortest 87 = .ok (.istore_n 3, 1) := by decide +kernel
theorem dX6_shortest_88 : decode cX6_shortest 88 = .ok (.iload_n 3, 1) := by decide +kernel
theorem dX6_shortest_89 : decode cX6_shortest 89 = .ok (.iload_n 2, 1) := by decide +kernel
theorem dX6_shortest_90 : decode cX6_shortest 90 = .ok (.if_icmp .ge 55, 3) := by decide +kernel
theorem dX6_shortest_93 : decode cX6_shortest 93 = .ok (.iconst 0, 1) := by decide +kernel
theorem dX6_shortest_94 : decode cX6_shortest 94 = .ok (.istore 4, 2) := by decide +kernel
theorem dX6_shortest_96 : decode cX6_shortest 96 = .ok (.iload 4, 2) := by decide +kernel
theorem dX6_shortest_98 : decode cX6_shortest 98 = .ok (.aload_n 0, 1) := by decide +kernel
theorem dX6_shortest_99 : decode cX6_shortest 99 = .ok (.getfield 29, 3) := by decide +kernel
theorem dX6_shortest_102 : decode cX6_shortest 102 = .ok (.if_icmp .ge 37, 3) := by decide +kernel
theorem dX6_shortest_105 : decode cX6_shortest 105 = .ok (.iload_n 3, 1) := by decide +kernel
theorem dX6_shortest_106 : decode cX6_shortest 106 = .ok (.iload 4, 2) := by decide +kernel
theorem dX6_shortest_108 : decode cX6_shortest 108 = .ok (.invokestatic 41, 3) := by decide +kernel
theorem dX6_shortest_111 : decode cX6_shortest 111 = .ok (.ifCond .ne 22, 3) := by decide +kernel
theorem dX6_shortest_114 : decode cX6_shortest 114 = .ok (.aload_n 0, 1) := by decide +kernel
theorem dX6_shortest_115 : decode cX6_shortest 115 = .ok (.getfield 18, 3) := by decide +kernel
theorem dX6_shortest_118 : decode cX6_shortest 118 = .ok (.iload_n 3, 1) := by decide +kernel
theorem dX6_shortest_119 : decode cX6_shortest 119 = .ok (.bipush 9, 2) := by decide +kernel
theorem dX6_shortest_121 : decode cX6_shortest 121 = .ok (.imul, 1) := by decide +kernel
theorem dX6_shortest_122 : decode cX6_shortest 122 = .ok (.iload 4, 2) := by decide +kernel
theorem dX6_shortest_124 : decode cX6_shortest 124 = .ok (.iadd, 1) := by decide +kernel
theorem dX6_shortest_125 : decode cX6_shortest 125 = .ok (.aload_n 0, 1) := by decide +kernel
theorem dX6_shortest_126 : decode cX6_shortest 126 = .ok (.iload_n 3, 1) := by decide +kernel
theorem dX6_shortest_127 : decode cX6_shortest 127 = .ok (.iload 4, 2) := by decide +kernel
theorem dX6_shortest_129 : decode cX6_shortest 129 = .ok (.invokevirtual 48, 3) := by decide +kernel
theorem dX6_shortest_132 : decode cX6_shortest 132 = .ok (.iastore, 1) := by decide +kernel
theorem dX6_shortest_133 : decode cX6_shortest 133 = .ok (.iinc 4 1, 3) := by decide +kernel
theorem dX6_shortest_136 : decode cX6_shortest 136 = .ok (.goto (-40), 3) := by decide +kernel
theorem dX6_shortest_139 : decode cX6_shortest 139 = .ok (.iinc 3 1, 3) := by decide +kernel
theorem dX6_shortest_142 : decode cX6_shortest 142 = .ok (.goto (-54), 3) := by decide +kernel
theorem dX6_shortest_145 : decode cX6_shortest 145 = .ok (.aload_n 0, 1) := by decide +kernel
theorem dX6_shortest_146 : decode cX6_shortest 146 = .ok (.getfield 18, 3) := by decide +kernel
theorem dX6_shortest_149 : decode cX6_shortest 149 = .ok (.iload_n 2, 1) := by decide +kernel
theorem dX6_shortest_150 : decode cX6_shortest 150 = .ok (.bipush 9, 2) := by decide +kernel
theorem dX6_shortest_152 : decode cX6_shortest 152 = .ok (.imul, 1) := by decide +kernel
theorem dX6_shortest_153 : decode cX6_shortest 153 = .ok (.aload_n 0, 1) := by decide +kernel
theorem dX6_shortest_154 : decode cX6_shortest 154 = .ok (.getfield 29, 3) := by decide +kernel
theorem dX6_shortest_157 : decode cX6_shortest 157 = .ok (.iadd, 1) := by decide +kernel
theorem dX6_shortest_158 : decode cX6_shortest 158 = .ok (.aload_n 0, 1) := by decide +kernel
theorem dX6_shortest_159 : decode cX6_shortest 159 = .ok (.iload_n 2, 1) := by decide +kernel
theorem dX6_shortest_160 : decode cX6_shortest 160 = .ok (.aload_n 0, 1) := by decide +kernel
theorem dX6_shortest_161 : decode cX6_shortest 161 = .ok (.getfield 29, 3) := by decide +kernel
theorem dX6_shortest_164 : decode cX6_shortest 164 = .ok (.invokevirtual 48, 3) := by decide +kernel
theorem dX6_shortest_167 : decode cX6_shortest 167 = .ok (.iastore, 1) := by decide +kernel
theorem dX6_shortest_168 : decode cX6_shortest 168 = .ok (.aload_n 0, 1) := by decide +kernel
theorem dX6_shortest_169 : decode cX6_shortest 169 = .ok (.getfield 18, 3) := by decide +kernel
theorem dX6_shortest_172 : decode cX6_shortest 172 = .ok (.iload_n 2, 1) := by decide +kernel
theorem dX6_shortest_173 : decode cX6_shortest 173 = .ok (.bipush 9, 2) := by decide +kernel
theorem dX6_shortest_175 : decode cX6_shortest 175 = .ok (.imul, 1) := by decide +kernel
theorem dX6_shortest_176 : decode cX6_shortest 176 = .ok (.aload_n 0, 1) := by decide +kernel
theorem dX6_shortest_177 : decode cX6_shortest 177 = .ok (.getfield 29, 3) := by decide +kernel
theorem dX6_shortest_180 : decode cX6_shortest 180 = .ok (.iadd, 1) := by decide +kernel
theorem dX6_shortest_181 : decode cX6_shortest 181 = .ok (.iaload, 1) := by decide +kernel
theorem dX6_shortest_182 : decode cX6_shortest 182 = .ok (.ireturn, 1) := by decide +kernel
theorem dX6_stopAt_0 : decode cX6_stopAt 0 = .ok (.iconst 1, 1) := by decide +kernel
theorem dX6_stopAt_1 : decode cX6_stopAt 1 = .ok (.aload_n 0, 1) := by decide +kernel
theorem dX6_stopAt_2 : decode cX6_stopAt 2 = .ok (.getfield 29, 3) := by decide +kernel
theorem dX6_stopAt_5 : decode cX6_stopAt 5 = .ok (.ishl, 1) := by decide +kernel
theorem dX6_stopAt_6 : decode cX6_stopAt 6 = .ok (.iconst 1, 1) := by decide +kernel
theorem dX6_stopAt_7 : decode cX6_stopAt 7 = .ok (.isub, 1) := by decide +kernel
theorem dX6_stopAt_8 : decode cX6_stopAt 8 = .ok (.istore_n 2, 1) := by decide +kernel
theorem dX6_stopAt_9 : decode cX6_stopAt 9 = .ok (.aload_n 0, 1) := by decide +kernel
theorem dX6_stopAt_10 : decode cX6_stopAt 10 = .ok (.getfield 29, 3) := by decide +kernel
theorem dX6_stopAt_13 : decode cX6_stopAt 13 = .ok (.istore_n 3, 1) := by decide +kernel
theorem dX6_stopAt_14 : decode cX6_stopAt 14 = .ok (.iload_n 1, 1) := by decide +kernel
theorem dX6_stopAt_15 : decode cX6_stopAt 15 = .ok (.aload_n 0, 1) := by decide +kernel
theorem dX6_stopAt_16 : decode cX6_stopAt 16 = .ok (.getfield 29, 3) := by decide +kernel
theorem dX6_stopAt_19 : decode cX6_stopAt 19 = .ok (.if_icmp .lt 5, 3) := by decide +kernel
theorem dX6_stopAt_22 : decode cX6_stopAt 22 = .ok (.iconst (-1), 1) := by decide +kernel
theorem dX6_stopAt_23 : decode cX6_stopAt 23 = .ok (.ireturn, 1) := by decide +kernel
theorem dX6_stopAt_24 : decode cX6_stopAt 24 = .ok (.iconst 0, 1) := by decide +kernel
theorem dX6_stopAt_25 : decode cX6_stopAt 25 = .ok (.istore 4, 2) := by decide +kernel
theorem dX6_stopAt_27 : decode cX6_stopAt 27 = .ok (.iload 4, 2) := by decide +kernel
theorem dX6_stopAt_29 : decode cX6_stopAt 29 = .ok (.iload_n 1, 1) := by decide +kernel
theorem dX6_stopAt_30 : decode cX6_stopAt 30 = .ok (.if_icmp .gt 29, 3) := by decide +kernel
theorem dX6_stopAt_33 : decode cX6_stopAt 33 = .ok (.aload_n 0, 1) := by decide +kernel
theorem dX6_stopAt_34 : decode cX6_stopAt 34 = .ok (.iload_n 2, 1) := by decide +kernel
theorem dX6_stopAt_35 : decode cX6_stopAt 35 = .ok (.iload_n 3, 1) := by decide +kernel
theorem dX6_stopAt_36 : decode cX6_stopAt 36 = .ok (.invokevirtual 52, 3) := by decide +kernel
theorem dX6_stopAt_39 : decode cX6_stopAt 39 = .ok (.istore 5, 2) := by decide +kernel
theorem dX6_stopAt_41 : decode cX6_stopAt 41 = .ok (.iload_n 2, 1) := by decide +kernel
theorem dX6_stopAt_42 : decode cX6_stopAt 42 = .ok (.iconst 1, 1) := by decide +kernel
theorem dX6_stopAt_43 : decode cX6_stopAt 43 = .ok (.iload 5, 2) := by decide +kernel
theorem dX6_stopAt_45 : decode cX6_stopAt 45 = .ok (.ishl, 1) := by decide +kernel
theorem dX6_stopAt_46 : decode cX6_stopAt 46 = .ok (.iconst (-1), 1) := by decide +kernel
theorem dX6_stopAt_47 : decode cX6_stopAt 47 = .ok (.ixor, 1) := by decide +kernel
theorem dX6_stopAt_48 : decode cX6_stopAt 48 = .ok (.iand, 1) := by decide +kernel
theorem dX6_stopAt_49 : decode cX6_stopAt 49 = .ok (.istore_n 2, 1) := by decide +kernel
theorem dX6_stopAt_50 : decode cX6_stopAt 50 = .ok (.iload 5, 2) := by decide +kernel
theorem dX6_stopAt_52 : decode cX6_stopAt 52 = .ok (.istore_n 3, 1) := by decide +kernel
theorem dX6_stopAt_53 : decode cX6_stopAt 53 = .ok (.iinc 4 1, 3) := by decide +kernel
theorem dX6_stopAt_56 : decode cX6_stopAt 56 = .ok (.goto (-29), 3) := by decide +kernel
theorem dX6_stopAt_59 : decode cX6_stopAt 59 = .ok (.aload_n 0, 1) := by decide +kernel
theorem dX6_stopAt_60 : decode cX6_stopAt 60 = .ok (.getfield 9, 3) := by decide +kernel
theorem dX6_stopAt_63 : decode cX6_stopAt 63 = .ok (.iload_n 3, 1) := by decide +kernel
theorem dX6_stopAt_64 : decode cX6_stopAt 64 = .ok (.iaload, 1) := by decide +kernel
theorem dX6_stopAt_65 : decode cX6_stopAt 65 = .ok (.ireturn, 1) := by decide +kernel
theorem dX6_minutes_0 : decode cX6_minutes 0 = .ok (.iload_n 2, 1) := by decide +kernel
theorem dX6_minutes_1 : decode cX6_minutes 1 = .ok (.aload_n 0, 1) := by decide +kernel
theorem dX6_minutes_2 : decode cX6_minutes 2 = .ok (.getfield 21, 3) := by decide +kernel
theorem dX6_minutes_5 : decode cX6_minutes 5 = .ok (.imul, 1) := by decide +kernel
theorem dX6_minutes_6 : decode cX6_minutes 6 = .ok (.istore_n 3, 1) := by decide +kernel
theorem dX6_minutes_7 : decode cX6_minutes 7 = .ok (.iconst 0, 1) := by decide +kernel
theorem dX6_minutes_8 : decode cX6_minutes 8 = .ok (.istore 4, 2) := by decide +kernel
theorem dX6_minutes_10 : decode cX6_minutes 10 = .ok (.iload 4, 2) := by decide +kernel
theorem dX6_minutes_12 : decode cX6_minutes 12 = .ok (.aload_n 0, 1) := by decide +kernel
theorem dX6_minutes_13 : decode cX6_minutes 13 = .ok (.getfield 25, 3) := by decide +kernel
theorem dX6_minutes_16 : decode cX6_minutes 16 = .ok (.getfield 38, 3) := by decide +kernel
theorem dX6_minutes_19 : decode cX6_minutes 19 = .ok (.if_icmp .ge 31, 3) := by decide +kernel
theorem dX6_minutes_22 : decode cX6_minutes 22 = .ok (.iload_n 1, 1) := by decide +kernel
theorem dX6_minutes_23 : decode cX6_minutes 23 = .ok (.iload 4, 2) := by decide +kernel
theorem dX6_minutes_25 : decode cX6_minutes 25 = .ok (.invokestatic 41, 3) := by decide +kernel
theorem dX6_minutes_28 : decode cX6_minutes 28 = .ok (.ifCond .eq 16, 3) := by decide +kernel
theorem dX6_minutes_31 : decode cX6_minutes 31 = .ok (.iload_n 3, 1) := by decide +kernel
theorem dX6_minutes_32 : decode cX6_minutes 32 = .ok (.aload_n 0, 1) := by decide +kernel
theorem dX6_minutes_33 : decode cX6_minutes 33 = .ok (.getfield 25, 3) := by decide +kernel
theorem dX6_minutes_36 : decode cX6_minutes 36 = .ok (.getfield 55, 3) := by decide +kernel
theorem dX6_minutes_39 : decode cX6_minutes 39 = .ok (.iload 4, 2) := by decide +kernel
theorem dX6_minutes_41 : decode cX6_minutes 41 = .ok (.iaload, 1) := by decide +kernel
theorem dX6_minutes_42 : decode cX6_minutes 42 = .ok (.iadd, 1) := by decide +kernel
theorem dX6_minutes_43 : decode cX6_minutes 43 = .ok (.istore_n 3, 1) := by decide +kernel
theorem dX6_minutes_44 : decode cX6_minutes 44 = .ok (.iinc 4 1, 3) := by decide +kernel
theorem dX6_minutes_47 : decode cX6_minutes 47 = .ok (.goto (-37), 3) := by decide +kernel
theorem dX6_minutes_50 : decode cX6_minutes 50 = .ok (.iload_n 3, 1) := by decide +kernel
theorem dX6_minutes_51 : decode cX6_minutes 51 = .ok (.ireturn, 1) := by decide +kernel
theorem dX6_growth_0 : decode cX6_growth 0 = .ok (.iload_n 1, 1) := by decide +kernel
theorem dX6_growth_1 : decode cX6_growth 1 = .ok (.invokestatic 32, 3) := by decide +kernel
theorem dX6_growth_4 : decode cX6_growth 4 = .ok (.istore 4, 2) := by decide +kernel
theorem dX6_growth_6 : decode cX6_growth 6 = .ok (.iload 4, 2) := by decide +kernel
theorem dX6_growth_8 : decode cX6_growth 8 = .ok (.bipush 8, 2) := by decide +kernel
theorem dX6_growth_10 : decode cX6_growth 10 = .ok (.if_icmp .gt 18, 3) := by decide +kernel
theorem dX6_growth_13 : decode cX6_growth 13 = .ok (.iload 4, 2) := by decide +kernel
theorem dX6_growth_15 : decode cX6_growth 15 = .ok (.bipush 8, 2) := by decide +kernel
theorem dX6_growth_17 : decode cX6_growth 17 = .ok (.if_icmp .ne 13, 3) := by decide +kernel
theorem dX6_growth_20 : decode cX6_growth 20 = .ok (.iload_n 1, 1) := by decide +kernel
theorem dX6_growth_21 : decode cX6_growth 21 = .ok (.iload_n 2, 1) := by decide +kernel
theorem dX6_growth_22 : decode cX6_growth 22 = .ok (.invokestatic 41, 3) := by decide +kernel
theorem dX6_growth_25 : decode cX6_growth 25 = .ok (.ifCond .ne 5, 3) := by decide +kernel
theorem dX6_growth_28 : decode cX6_growth 28 = .ok (.iconst (-1), 1) := by decide +kernel
theorem dX6_growth_29 : decode cX6_growth 29 = .ok (.ireturn, 1) := by decide +kernel
theorem dX6_growth_30 : decode cX6_growth 30 = .ok (.iload_n 1, 1) := by decide +kernel
theorem dX6_growth_31 : decode cX6_growth 31 = .ok (.iload_n 2, 1) := by decide +kernel
theorem dX6_growth_32 : decode cX6_growth 32 = .ok (.invokestatic 41, 3) := by decide +kernel
theorem dX6_growth_35 : decode cX6_growth 35 = .ok (.ifCond .eq 5, 3) := by decide +kernel
theorem dX6_growth_38 : decode cX6_growth 38 = .ok (.iconst 0, 1) := by decide +kernel
theorem dX6_growth_39 : decode cX6_growth 39 = .ok (.ireturn, 1) := by decide +kernel
theorem dX6_growth_40 : decode cX6_growth 40 = .ok (.iload_n 1, 1) := by decide +kernel
theorem dX6_growth_41 : decode cX6_growth 41 = .ok (.iconst 1, 1) := by decide +kernel
theorem dX6_growth_42 : decode cX6_growth 42 = .ok (.iload_n 2, 1) := by decide +kernel
theorem dX6_growth_43 : decode cX6_growth 43 = .ok (.ishl, 1) := by decide +kernel
theorem dX6_growth_44 : decode cX6_growth 44 = .ok (.ior, 1) := by decide +kernel
theorem dX6_growth_45 : decode cX6_growth 45 = .ok (.istore 5, 2) := by decide +kernel
theorem dX6_growth_47 : decode cX6_growth 47 = .ok (.aload_n 0, 1) := by decide +kernel
theorem dX6_growth_48 : decode cX6_growth 48 = .ok (.iload 5, 2) := by decide +kernel
theorem dX6_growth_50 : decode cX6_growth 50 = .ok (.invokevirtual 58, 3) := by decide +kernel
theorem dX6_growth_53 : decode cX6_growth 53 = .ok (.istore 6, 2) := by decide +kernel
theorem dX6_growth_55 : decode cX6_growth 55 = .ok (.aload_n 0, 1) := by decide +kernel
theorem dX6_growth_56 : decode cX6_growth 56 = .ok (.iload 5, 2) := by decide +kernel
theorem dX6_growth_58 : decode cX6_growth 58 = .ok (.iload 6, 2) := by decide +kernel
theorem dX6_growth_60 : decode cX6_growth 60 = .ok (.invokevirtual 61, 3) := by decide +kernel
theorem dX6_growth_63 : decode cX6_growth 63 = .ok (.iload_n 3, 1) := by decide +kernel
theorem dX6_growth_64 : decode cX6_growth 64 = .ok (.if_icmp .le 7, 3) := by decide +kernel
theorem dX6_growth_67 : decode cX6_growth 67 = .ok (.iconst (-1), 1) := by decide +kernel
theorem dX6_growth_68 : decode cX6_growth 68 = .ok (.goto 11, 3) := by decide +kernel
theorem dX6_growth_71 : decode cX6_growth 71 = .ok (.iload 6, 2) := by decide +kernel
theorem dX6_growth_73 : decode cX6_growth 73 = .ok (.aload_n 0, 1) := by decide +kernel
theorem dX6_growth_74 : decode cX6_growth 74 = .ok (.iload_n 1, 1) := by decide +kernel
theorem dX6_growth_75 : decode cX6_growth 75 = .ok (.invokevirtual 58, 3) := by decide +kernel
theorem dX6_growth_78 : decode cX6_growth 78 = .ok (.isub, 1) := by decide +kernel
theorem dX6_growth_79 : decode cX6_growth 79 = .ok (.ireturn, 1) := by decide +kernel
theorem dX6_shortestHome_0 : decode cX6_shortestHome 0 = .ok (.iload_n 1, 1) := by decide +kernel
theorem dX6_shortestHome_1 : decode cX6_shortestHome 1 = .ok (.ifCond .ne 18, 3) := by decide +kernel
theorem dX6_shortestHome_4 : decode cX6_shortestHome 4 = .ok (.aload_n 0, 1) := by decide +kernel
theorem dX6_shortestHome_5 : decode cX6_shortestHome 5 = .ok (.getfield 15, 3) := by decide +kernel
theorem dX6_shortestHome_8 : decode cX6_shortestHome 8 = .ok (.iload_n 2, 1) := by decide +kernel
theorem dX6_shortestHome_9 : decode cX6_shortestHome 9 = .ok (.bipush 9, 2) := by decide +kernel
theorem dX6_shortestHome_11 : decode cX6_shortestHome 11 = .ok (.imul, 1) := by decide +kernel
theorem dX6_shortestHome_12 : decode cX6_shortestHome 12 = .ok (.aload_n 0, 1) := by decide +kernel
theorem dX6_shortestHome_13 : decode cX6_shortestHome 13 = .ok (.getfield 29, 3) := by decide +kernel
theorem dX6_shortestHome_16 : decode cX6_shortestHome 16 = .ok (.iadd, 1) := by decide +kernel
theorem dX6_shortestHome_17 : decode cX6_shortestHome 17 = .ok (.iaload, 1) := by decide +kernel
theorem dX6_shortestHome_18 : decode cX6_shortestHome 18 = .ok (.ireturn, 1) := by decide +kernel
theorem dX6_shortestHome_19 : decode cX6_shortestHome 19 = .ok (.aload_n 0, 1) := by decide +kernel
theorem dX6_shortestHome_20 : decode cX6_shortestHome 20 = .ok (.iload_n 1, 1) := by decide +kernel
theorem dX6_shortestHome_21 : decode cX6_shortestHome 21 = .ok (.iload_n 2, 1) := by decide +kernel
theorem dX6_shortestHome_22 : decode cX6_shortestHome 22 = .ok (.invokevirtual 52, 3) := by decide +kernel
theorem dX6_shortestHome_25 : decode cX6_shortestHome 25 = .ok (.istore_n 3, 1) := by decide +kernel
theorem dX6_shortestHome_26 : decode cX6_shortestHome 26 = .ok (.aload_n 0, 1) := by decide +kernel
theorem dX6_shortestHome_27 : decode cX6_shortestHome 27 = .ok (.getfield 15, 3) := by decide +kernel
theorem dX6_shortestHome_30 : decode cX6_shortestHome 30 = .ok (.iload_n 2, 1) := by decide +kernel
theorem dX6_shortestHome_31 : decode cX6_shortestHome 31 = .ok (.bipush 9, 2) := by decide +kernel
theorem dX6_shortestHome_33 : decode cX6_shortestHome 33 = .ok (.imul, 1) := by decide +kernel
theorem dX6_shortestHome_34 : decode cX6_shortestHome 34 = .ok (.iload_n 3, 1) := by decide +kernel
theorem dX6_shortestHome_35 : decode cX6_shortestHome 35 = .ok (.iadd, 1) := by decide +kernel
theorem dX6_shortestHome_36 : decode cX6_shortestHome 36 = .ok (.iaload, 1) := by decide +kernel
theorem dX6_shortestHome_37 : decode cX6_shortestHome 37 = .ok (.aload_n 0, 1) := by decide +kernel
theorem dX6_shortestHome_38 : decode cX6_shortestHome 38 = .ok (.getfield 18, 3) := by decide +kernel
theorem dX6_shortestHome_41 : decode cX6_shortestHome 41 = .ok (.iload_n 1, 1) := by decide +kernel
theorem dX6_shortestHome_42 : decode cX6_shortestHome 42 = .ok (.iconst 1, 1) := by decide +kernel
theorem dX6_shortestHome_43 : decode cX6_shortestHome 43 = .ok (.iload_n 3, 1) := by decide +kernel
theorem dX6_shortestHome_44 : decode cX6_shortestHome 44 = .ok (.ishl, 1) := by decide +kernel
theorem dX6_shortestHome_45 : decode cX6_shortestHome 45 = .ok (.iconst (-1), 1) := by decide +kernel
theorem dX6_shortestHome_46 : decode cX6_shortestHome 46 = .ok (.ixor, 1) := by decide +kernel
theorem dX6_shortestHome_47 : decode cX6_shortestHome 47 = .ok (.iand, 1) := by decide +kernel
theorem dX6_shortestHome_48 : decode cX6_shortestHome 48 = .ok (.bipush 9, 2) := by decide +kernel
theorem dX6_shortestHome_50 : decode cX6_shortestHome 50 = .ok (.imul, 1) := by decide +kernel
theorem dX6_shortestHome_51 : decode cX6_shortestHome 51 = .ok (.iload_n 3, 1) := by decide +kernel
theorem dX6_shortestHome_52 : decode cX6_shortestHome 52 = .ok (.iadd, 1) := by decide +kernel
theorem dX6_shortestHome_53 : decode cX6_shortestHome 53 = .ok (.iaload, 1) := by decide +kernel
theorem dX6_shortestHome_54 : decode cX6_shortestHome 54 = .ok (.iadd, 1) := by decide +kernel
theorem dX6_shortestHome_55 : decode cX6_shortestHome 55 = .ok (.ireturn, 1) := by decide +kernel
theorem dX6_nextHome_0 : decode cX6_nextHome 0 = .ok (.iconst 0, 1) := by decide +kernel
theorem dX6_nextHome_1 : decode cX6_nextHome 1 = .ok (.istore_n 3, 1) := by decide +kernel
theorem dX6_nextHome_2 : decode cX6_nextHome 2 = .ok (.iconst (-1), 1) := by decide +kernel
theorem dX6_nextHome_3 : decode cX6_nextHome 3 = .ok (.istore 4, 2) := by decide +kernel
theorem dX6_nextHome_5 : decode cX6_nextHome 5 = .ok (.iconst 0, 1) := by decide +kernel
theorem dX6_nextHome_6 : decode cX6_nextHome 6 = .ok (.istore 5, 2) := by decide +kernel
theorem dX6_nextHome_8 : decode cX6_nextHome 8 = .ok (.iload 5, 2) := by decide +kernel
theorem dX6_nextHome_10 : decode cX6_nextHome 10 = .ok (.aload_n 0, 1) := by decide +kernel
theorem dX6_nextHome_11 : decode cX6_nextHome 11 = .ok (.getfield 29, 3) := by decide +kernel
theorem dX6_nextHome_14 : decode cX6_nextHome 14 = .ok (.if_icmp .ge 72, 3) := by decide +kernel
theorem dX6_nextHome_17 : decode cX6_nextHome 17 = .ok (.iload_n 1, 1) := by decide +kernel
theorem dX6_nextHome_18 : decode cX6_nextHome 18 = .ok (.iload 5, 2) := by decide +kernel
theorem dX6_nextHome_20 : decode cX6_nextHome 20 = .ok (.invokestatic 41, 3) := by decide +kernel
theorem dX6_nextHome_23 : decode cX6_nextHome 23 = .ok (.ifCond .eq 57, 3) := by decide +kernel
theorem dX6_nextHome_26 : decode cX6_nextHome 26 = .ok (.aload_n 0, 1) := by decide +kernel
theorem dX6_nextHome_27 : decode cX6_nextHome 27 = .ok (.getfield 15, 3) := by decide +kernel
theorem dX6_nextHome_30 : decode cX6_nextHome 30 = .ok (.iload_n 2, 1) := by decide +kernel
theorem dX6_nextHome_31 : decode cX6_nextHome 31 = .ok (.bipush 9, 2) := by decide +kernel
theorem dX6_nextHome_33 : decode cX6_nextHome 33 = .ok (.imul, 1) := by decide +kernel
theorem dX6_nextHome_34 : decode cX6_nextHome 34 = .ok (.iload 5, 2) := by decide +kernel
theorem dX6_nextHome_36 : decode cX6_nextHome 36 = .ok (.iadd, 1) := by decide +kernel
theorem dX6_nextHome_37 : decode cX6_nextHome 37 = .ok (.iaload, 1) := by decide +kernel
theorem dX6_nextHome_38 : decode cX6_nextHome 38 = .ok (.aload_n 0, 1) := by decide +kernel
theorem dX6_nextHome_39 : decode cX6_nextHome 39 = .ok (.getfield 18, 3) := by decide +kernel
theorem dX6_nextHome_42 : decode cX6_nextHome 42 = .ok (.iload_n 1, 1) := by decide +kernel
theorem dX6_nextHome_43 : decode cX6_nextHome 43 = .ok (.iconst 1, 1) := by decide +kernel
theorem dX6_nextHome_44 : decode cX6_nextHome 44 = .ok (.iload 5, 2) := by decide +kernel
theorem dX6_nextHome_46 : decode cX6_nextHome 46 = .ok (.ishl, 1) := by decide +kernel
theorem dX6_nextHome_47 : decode cX6_nextHome 47 = .ok (.iconst (-1), 1) := by decide +kernel
theorem dX6_nextHome_48 : decode cX6_nextHome 48 = .ok (.ixor, 1) := by decide +kernel
theorem dX6_nextHome_49 : decode cX6_nextHome 49 = .ok (.iand, 1) := by decide +kernel
theorem dX6_nextHome_50 : decode cX6_nextHome 50 = .ok (.bipush 9, 2) := by decide +kernel
theorem dX6_nextHome_52 : decode cX6_nextHome 52 = .ok (.imul, 1) := by decide +kernel
theorem dX6_nextHome_53 : decode cX6_nextHome 53 = .ok (.iload 5, 2) := by decide +kernel
theorem dX6_nextHome_55 : decode cX6_nextHome 55 = .ok (.iadd, 1) := by decide +kernel
theorem dX6_nextHome_56 : decode cX6_nextHome 56 = .ok (.iaload, 1) := by decide +kernel
theorem dX6_nextHome_57 : decode cX6_nextHome 57 = .ok (.iadd, 1) := by decide +kernel
theorem dX6_nextHome_58 : decode cX6_nextHome 58 = .ok (.istore 6, 2) := by decide +kernel
theorem dX6_nextHome_60 : decode cX6_nextHome 60 = .ok (.iload 4, 2) := by decide +kernel
theorem dX6_nextHome_62 : decode cX6_nextHome 62 = .ok (.iconst (-1), 1) := by decide +kernel
theorem dX6_nextHome_63 : decode cX6_nextHome 63 = .ok (.if_icmp .eq 10, 3) := by decide +kernel
theorem dX6_nextHome_66 : decode cX6_nextHome 66 = .ok (.iload 6, 2) := by decide +kernel
theorem dX6_nextHome_68 : decode cX6_nextHome 68 = .ok (.iload 4, 2) := by decide +kernel
theorem dX6_nextHome_70 : decode cX6_nextHome 70 = .ok (.if_icmp .ge 10, 3) := by decide +kernel
theorem dX6_nextHome_73 : decode cX6_nextHome 73 = .ok (.iload 5, 2) := by decide +kernel
theorem dX6_nextHome_75 : decode cX6_nextHome 75 = .ok (.istore_n 3, 1) := by decide +kernel
theorem dX6_nextHome_76 : decode cX6_nextHome 76 = .ok (.iload 6, 2) := by decide +kernel
theorem dX6_nextHome_78 : decode cX6_nextHome 78 = .ok (.istore 4, 2) := by decide +kernel
theorem dX6_nextHome_80 : decode cX6_nextHome 80 = .ok (.iinc 5 1, 3) := by decide +kernel
theorem dX6_nextHome_83 : decode cX6_nextHome 83 = .ok (.goto (-75), 3) := by decide +kernel
theorem dX6_nextHome_86 : decode cX6_nextHome 86 = .ok (.iload_n 3, 1) := by decide +kernel
theorem dX6_nextHome_87 : decode cX6_nextHome 87 = .ok (.ireturn, 1) := by decide +kernel
theorem dX6_measureWays_0 : decode cX6_measureWays 0 = .ok (.iconst 0, 1) := by decide +kernel
theorem dX6_measureWays_1 : decode cX6_measureWays 1 = .ok (.istore_n 1, 1) := by decide +kernel
theorem dX6_measureWays_2 : decode cX6_measureWays 2 = .ok (.iload_n 1, 1) := by decide +kernel
theorem dX6_measureWays_3 : decode cX6_measureWays 3 = .ok (.aload_n 0, 1) := by decide +kernel
theorem dX6_measureWays_4 : decode cX6_measureWays 4 = .ok (.getfield 29, 3) := by decide +kernel
theorem dX6_measureWays_7 : decode cX6_measureWays 7 = .ok (.if_icmp .gt 65, 3) := by decide +kernel
theorem dX6_measureWays_10 : decode cX6_measureWays 10 = .ok (.iconst 0, 1) := by decide +kernel
theorem dX6_measureWays_11 : decode cX6_measureWays 11 = .ok (.istore_n 2, 1) := by decide +kernel
theorem dX6_measureWays_12 : decode cX6_measureWays 12 = .ok (.iload_n 2, 1) := by decide +kernel
theorem dX6_measureWays_13 : decode cX6_measureWays 13 = .ok (.aload_n 0, 1) := by decide +kernel
theorem dX6_measureWays_14 : decode cX6_measureWays 14 = .ok (.getfield 29, 3) := by decide +kernel
theorem dX6_measureWays_17 : decode cX6_measureWays 17 = .ok (.if_icmp .gt 49, 3) := by decide +kernel
theorem dX6_measureWays_20 : decode cX6_measureWays 20 = .ok (.aload_n 0, 1) := by decide +kernel
theorem dX6_measureWays_21 : decode cX6_measureWays 21 = .ok (.getfield 15, 3) := by decide +kernel
theorem dX6_measureWays_24 : decode cX6_measureWays 24 = .ok (.iload_n 1, 1) := by decide +kernel
theorem dX6_measureWays_25 : decode cX6_measureWays 25 = .ok (.bipush 9, 2) := by decide +kernel
theorem dX6_measureWays_27 : decode cX6_measureWays 27 = .ok (.imul, 1) := by decide +kernel
theorem dX6_measureWays_28 : decode cX6_measureWays 28 = .ok (.iload_n 2, 1) := by decide +kernel
theorem dX6_measureWays_29 : decode cX6_measureWays 29 = .ok (.iadd, 1) := by decide +kernel
theorem dX6_measureWays_30 : decode cX6_measureWays 30 = .ok (.aload_n 0, 1) := by decide +kernel
theorem dX6_measureWays_31 : decode cX6_measureWays 31 = .ok (.iload_n 1, 1) := by decide +kernel
theorem dX6_measureWays_32 : decode cX6_measureWays 32 = .ok (.invokevirtual 64, 3) := by decide +kernel
theorem dX6_measureWays_35 : decode cX6_measureWays 35 = .ok (.aload_n 0, 1) := by decide +kernel
theorem dX6_measureWays_36 : decode cX6_measureWays 36 = .ok (.iload_n 2, 1) := by decide +kernel
theorem dX6_measureWays_37 : decode cX6_measureWays 37 = .ok (.invokevirtual 64, 3) := by decide +kernel
theorem dX6_measureWays_40 : decode cX6_measureWays 40 = .ok (.isub, 1) := by decide +kernel
theorem dX6_measureWays_41 : decode cX6_measureWays 41 = .ok (.invokestatic 67, 3) := by decide +kernel
theorem dX6_measureWays_44 : decode cX6_measureWays 44 = .ok (.aload_n 0, 1) := by decide +kernel
theorem dX6_measureWays_45 : decode cX6_measureWays 45 = .ok (.iload_n 1, 1) := by decide +kernel
theorem dX6_measureWays_46 : decode cX6_measureWays 46 = .ok (.invokevirtual 72, 3) := by decide +kernel
theorem dX6_measureWays_49 : decode cX6_measureWays 49 = .ok (.aload_n 0, 1) := by decide +kernel
theorem dX6_measureWays_50 : decode cX6_measureWays 50 = .ok (.iload_n 2, 1) := by decide +kernel
theorem dX6_measureWays_51 : decode cX6_measureWays 51 = .ok (.invokevirtual 72, 3) := by decide +kernel
theorem dX6_measureWays_54 : decode cX6_measureWays 54 = .ok (.isub, 1) := by decide +kernel
theorem dX6_measureWays_55 : decode cX6_measureWays 55 = .ok (.invokestatic 67, 3) := by decide +kernel
theorem dX6_measureWays_58 : decode cX6_measureWays 58 = .ok (.iadd, 1) := by decide +kernel
theorem dX6_measureWays_59 : decode cX6_measureWays 59 = .ok (.iastore, 1) := by decide +kernel
theorem dX6_measureWays_60 : decode cX6_measureWays 60 = .ok (.iinc 2 1, 3) := by decide +kernel
theorem dX6_measureWays_63 : decode cX6_measureWays 63 = .ok (.goto (-51), 3) := by decide +kernel
theorem dX6_measureWays_66 : decode cX6_measureWays 66 = .ok (.iinc 1 1, 3) := by decide +kernel
theorem dX6_measureWays_69 : decode cX6_measureWays 69 = .ok (.goto (-67), 3) := by decide +kernel
theorem dX6_measureWays_72 : decode cX6_measureWays 72 = .ok (.return_, 1) := by decide +kernel
theorem dX6_xOf_0 : decode cX6_xOf 0 = .ok (.iload_n 1, 1) := by decide +kernel
theorem dX6_xOf_1 : decode cX6_xOf 1 = .ok (.aload_n 0, 1) := by decide +kernel
theorem dX6_xOf_2 : decode cX6_xOf 2 = .ok (.getfield 29, 3) := by decide +kernel
theorem dX6_xOf_5 : decode cX6_xOf 5 = .ok (.if_icmp .ge 20, 3) := by decide +kernel
theorem dX6_xOf_8 : decode cX6_xOf 8 = .ok (.aload_n 0, 1) := by decide +kernel
theorem dX6_xOf_9 : decode cX6_xOf 9 = .ok (.getfield 25, 3) := by decide +kernel
theorem dX6_xOf_12 : decode cX6_xOf 12 = .ok (.getfield 75, 3) := by decide +kernel
theorem dX6_xOf_15 : decode cX6_xOf 15 = .ok (.aload_n 0, 1) := by decide +kernel
theorem dX6_xOf_16 : decode cX6_xOf 16 = .ok (.getfield 9, 3) := by decide +kernel
theorem dX6_xOf_19 : decode cX6_xOf 19 = .ok (.iload_n 1, 1) := by decide +kernel
theorem dX6_xOf_20 : decode cX6_xOf 20 = .ok (.iaload, 1) := by decide +kernel
theorem dX6_xOf_21 : decode cX6_xOf 21 = .ok (.iaload, 1) := by decide +kernel
theorem dX6_xOf_22 : decode cX6_xOf 22 = .ok (.goto 4, 3) := by decide +kernel
theorem dX6_xOf_25 : decode cX6_xOf 25 = .ok (.iconst 0, 1) := by decide +kernel
theorem dX6_xOf_26 : decode cX6_xOf 26 = .ok (.ireturn, 1) := by decide +kernel
theorem dX6_yOf_0 : decode cX6_yOf 0 = .ok (.iload_n 1, 1) := by decide +kernel
theorem dX6_yOf_1 : decode cX6_yOf 1 = .ok (.aload_n 0, 1) := by decide +kernel
theorem dX6_yOf_2 : decode cX6_yOf 2 = .ok (.getfield 29, 3) := by decide +kernel
theorem dX6_yOf_5 : decode cX6_yOf 5 = .ok (.if_icmp .ge 20, 3) := by decide +kernel
theorem dX6_yOf_8 : decode cX6_yOf 8 = .ok (.aload_n 0, 1) := by decide +kernel
theorem dX6_yOf_9 : decode cX6_yOf 9 = .ok (.getfield 25, 3) := by decide +kernel
theorem dX6_yOf_12 : decode cX6_yOf 12 = .ok (.getfield 78, 3) := by decide +kernel
theorem dX6_yOf_15 : decode cX6_yOf 15 = .ok (.aload_n 0, 1) := by decide +kernel
theorem dX6_yOf_16 : decode cX6_yOf 16 = .ok (.getfield 9, 3) := by decide +kernel
theorem dX6_yOf_19 : decode cX6_yOf 19 = .ok (.iload_n 1, 1) := by decide +kernel
theorem dX6_yOf_20 : decode cX6_yOf 20 = .ok (.iaload, 1) := by decide +kernel
theorem dX6_yOf_21 : decode cX6_yOf 21 = .ok (.iaload, 1) := by decide +kernel
theorem dX6_yOf_22 : decode cX6_yOf 22 = .ok (.goto 4, 3) := by decide +kernel
theorem dX6_yOf_25 : decode cX6_yOf 25 = .ok (.iconst 0, 1) := by decide +kernel
theorem dX6_yOf_26 : decode cX6_yOf 26 = .ok (.ireturn, 1) := by decide +kernel
theorem dX7_init_0 : decode cX7_init 0 = .ok (.aload_n 0, 1) := by decide +kernel
theorem dX7_init_1 : decode cX7_init 1 = .ok (.invokespecial 3, 3) := by decide +kernel
theorem dX7_init_4 : decode cX7_init 4 = .ok (.aload_n 0, 1) := by decide +kernel
theorem dX7_init_5 : decode cX7_init 5 = .ok (.bipush 12, 2) := by decide +kernel
theorem dX7_init_7 : decode cX7_init 7 = .ok (.newarray .int, 2) := by decide +kernel
theorem dX7_init_9 : decode cX7_init 9 = .ok (.putfield 9, 3) := by decide +kernel
theorem dX7_init_12 : decode cX7_init 12 = .ok (.aload_n 0, 1) := by decide +kernel
theorem dX7_init_13 : decode cX7_init 13 = .ok (.bipush 12, 2) := by decide +kernel
theorem dX7_init_15 : decode cX7_init 15 = .ok (.newarray .int, 2) := by decide +kernel
theorem dX7_init_17 : decode cX7_init 17 = .ok (.putfield 15, 3) := by decide +kernel
theorem dX7_init_20 : decode cX7_init 20 = .ok (.aload_n 0, 1) := by decide +kernel
theorem dX7_init_21 : decode cX7_init 21 = .ok (.bipush 12, 2) := by decide +kernel
theorem dX7_init_23 : decode cX7_init 23 = .ok (.newarray .int, 2) := by decide +kernel
theorem dX7_init_25 : decode cX7_init 25 = .ok (.putfield 18, 3) := by decide +kernel
theorem dX7_init_28 : decode cX7_init 28 = .ok (.aload_n 0, 1) := by decide +kernel
theorem dX7_init_29 : decode cX7_init 29 = .ok (.bipush 12, 2) := by decide +kernel
theorem dX7_init_31 : decode cX7_init 31 = .ok (.newarray .int, 2) := by decide +kernel
theorem dX7_init_33 : decode cX7_init 33 = .ok (.putfield 21, 3) := by decide +kernel
theorem dX7_init_36 : decode cX7_init 36 = .ok (.aload_n 0, 1) := by decide +kernel
theorem dX7_init_37 : decode cX7_init 37 = .ok (.sipush 4096, 3) := by decide +kernel
theorem dX7_init_40 : decode cX7_init 40 = .ok (.newarray .int, 2) := by decide +kernel
theorem dX7_init_42 : decode cX7_init 42 = .ok (.putfield 24, 3) := by decide +kernel
theorem dX7_init_45 : decode cX7_init 45 = .ok (.aload_n 0, 1) := by decide +kernel
theorem dX7_init_46 : decode cX7_init 46 = .ok (.bipush 16, 2) := by decide +kernel
theorem dX7_init_48 : decode cX7_init 48 = .ok (.newarray .int, 2) := by decide +kernel
theorem dX7_init_50 : decode cX7_init 50 = .ok (.putfield 27, 3) := by decide +kernel
theorem dX7_init_53 : decode cX7_init 53 = .ok (.aload_n 0, 1) := by decide +kernel
theorem dX7_init_54 : decode cX7_init 54 = .ok (.bipush 32, 2) := by decide +kernel
theorem dX7_init_56 : decode cX7_init 56 = .ok (.newarray .int, 2) := by decide +kernel
theorem dX7_init_58 : decode cX7_init 58 = .ok (.putfield 30, 3) := by decide +kernel
theorem dX7_init_61 : decode cX7_init 61 = .ok (.return_, 1) := by decide +kernel
theorem dX7_clear_0 : decode cX7_clear 0 = .ok (.aload_n 0, 1) := by decide +kernel
theorem dX7_clear_1 : decode cX7_clear 1 = .ok (.iconst 0, 1) := by decide +kernel
theorem dX7_clear_2 : decode cX7_clear 2 = .ok (.putfield 33, 3) := by decide +kernel
theorem dX7_clear_5 : decode cX7_clear 5 = .ok (.aload_n 0, 1) := by decide +kernel
theorem dX7_clear_6 : decode cX7_clear 6 = .ok (.iconst 0, 1) := by decide +kernel
theorem dX7_clear_7 : decode cX7_clear 7 = .ok (.putfield 37, 3) := by decide +kernel
theorem dX7_clear_10 : decode cX7_clear 10 = .ok (.return_, 1) := by decide +kernel
theorem dX7_offer_0 : decode cX7_offer 0 = .ok (.aload_n 0, 1) := by decide +kernel
theorem dX7_offer_1 : decode cX7_offer 1 = .ok (.getfield 33, 3) := by decide +kernel
theorem dX7_offer_4 : decode cX7_offer 4 = .ok (.bipush 12, 2) := by decide +kernel
theorem dX7_offer_6 : decode cX7_offer 6 = .ok (.if_icmp .lt 4, 3) := by decide +kernel
theorem dX7_offer_9 : decode cX7_offer 9 = .ok (.return_, 1) := by decide +kernel
theorem dX7_offer_10 : decode cX7_offer 10 = .ok (.aload_n 0, 1) := by decide +kernel
theorem dX7_offer_11 : decode cX7_offer 11 = .ok (.getfield 9, 3) := by decide +kernel
theorem dX7_offer_14 : decode cX7_offer 14 = .ok (.aload_n 0, 1) := by decide +kernel
theorem dX7_offer_15 : decode cX7_offer 15 = .ok (.getfield 33, 3) := by decide +kernel
theorem dX7_offer_18 : decode cX7_offer 18 = .ok (.iload_n 1, 1) := by decide +kernel
theorem dX7_offer_19 : decode cX7_offer 19 = .ok (.iastore, 1) := by decide +kernel
theorem dX7_offer_20 : decode cX7_offer 20 = .ok (.aload_n 0, 1) := by decide +kernel
theorem dX7_offer_21 : decode cX7_offer 21 = .ok (.getfield 15, 3) := by decide +kernel
theorem dX7_offer_24 : decode cX7_offer 24 = .ok (.aload_n 0, 1) := by decide +kernel
theorem dX7_offer_25 : decode cX7_offer 25 = .ok (.getfield 33, 3) := by decide +kernel
theorem dX7_offer_28 : decode cX7_offer 28 = .ok (.iload_n 2, 1) := by decide +kernel
theorem dX7_offer_29 : decode cX7_offer 29 = .ok (.iastore, 1) := by decide +kernel
theorem dX7_offer_30 : decode cX7_offer 30 = .ok (.aload_n 0, 1) := by decide +kernel
theorem dX7_offer_31 : decode cX7_offer 31 = .ok (.getfield 18, 3) := by decide +kernel
theorem dX7_offer_34 : decode cX7_offer 34 = .ok (.aload_n 0, 1) := by decide +kernel
theorem dX7_offer_35 : decode cX7_offer 35 = .ok (.getfield 33, 3) := by decide +kernel
theorem dX7_offer_38 : decode cX7_offer 38 = .ok (.aload 4, 2) := by decide +kernel
theorem dX7_offer_40 : decode cX7_offer 40 = .ok (.getfield 40, 3) := by decide +kernel
theorem dX7_offer_43 : decode cX7_offer 43 = .ok (.iload_n 1, 1) := by decide +kernel
theorem dX7_offer_44 : decode cX7_offer 44 = .ok (.iaload, 1) := by decide +kernel
theorem dX7_offer_45 : decode cX7_offer 45 = .ok (.iastore, 1) := by decide +kernel
theorem dX7_offer_46 : decode cX7_offer 46 = .ok (.aload_n 0, 1) := by decide +kernel
theorem dX7_offer_47 : decode cX7_offer 47 = .ok (.getfield 21, 3) := by decide +kernel
theorem dX7_offer_50 : decode cX7_offer 50 = .ok (.aload_n 0, 1) := by decide +kernel
theorem dX7_offer_51 : decode cX7_offer 51 = .ok (.getfield 33, 3) := by decide +kernel
theorem dX7_offer_54 : decode cX7_offer 54 = .ok (.aload 4, 2) := by decide +kernel
theorem dX7_offer_56 : decode cX7_offer 56 = .ok (.getfield 43, 3) := by decide +kernel
theorem dX7_offer_59 : decode cX7_offer 59 = .ok (.iload_n 1, 1) := by decide +kernel
theorem dX7_offer_60 : decode cX7_offer 60 = .ok (.iaload, 1) := by decide +kernel
theorem dX7_offer_61 : decode cX7_offer 61 = .ok (.iastore, 1) := by decide +kernel
theorem dX7_offer_62 : decode cX7_offer 62 = .ok (.iload_n 3, 1) := by decide +kernel
theorem dX7_offer_63 : decode cX7_offer 63 = .ok (.ifCond .eq 18, 3) := by decide +kernel
theorem dX7_offer_66 : decode cX7_offer 66 = .ok (.aload_n 0, 1) := by decide +kernel
theorem dX7_offer_67 : decode cX7_offer 67 = .ok (.dup, 1) := by decide +kernel
theorem dX7_offer_68 : decode cX7_offer 68 = .ok (.getfield 37, 3) := by decide +kernel
theorem dX7_offer_71 : decode cX7_offer 71 = .ok (.iconst 1, 1) := by decide +kernel
theorem dX7_offer_72 : decode cX7_offer 72 = .ok (.aload_n 0, 1) := by decide +kernel
theorem dX7_offer_73 : decode cX7_offer 73 = .ok (.getfield 33, 3) := by decide +kernel
theorem dX7_offer_76 : decode cX7_offer 76 = .ok (.ishl, 1) := by decide +kernel
theorem dX7_offer_77 : decode cX7_offer 77 = .ok (.ior, 1) := by decide +kernel
theorem dX7_offer_78 : decode cX7_offer 78 = .ok (.putfield 37, 3) := by decide +kernel
theorem dX7_offer_81 : decode cX7_offer 81 = .ok (.aload_n 0, 1) := by decide +kernel
theorem dX7_offer_82 : decode cX7_offer 82 = .ok (.dup, 1) := by decide +kernel
theorem dX7_offer_83 : decode cX7_offer 83 = .ok (.getfield 33, 3) := by decide +kernel
theorem dX7_offer_86 : decode cX7_offer 86 = .ok (.iconst 1, 1) := by decide +kernel
theorem dX7_offer_87 : decode cX7_offer 87 = .ok (.iadd, 1) := by decide +kernel
theorem dX7_offer_88 : decode cX7_offer 88 = .ok (.putfield 33, 3) := by decide +kernel
theorem dX7_offer_91 : decode cX7_offer 91 = .ok (.return_, 1) := by decide +kernel
theorem dX7_choose_0 : decode cX7_choose 0 = .ok (.iconst 1, 1) := by decide +kernel
theorem dX7_choose_1 : decode cX7_choose 1 = .ok (.aload_n 0, 1) := by decide +kernel
theorem dX7_choose_2 : decode cX7_choose 2 = .ok (.getfield 33, 3) := by decide +kernel
theorem dX7_choose_5 : decode cX7_choose 5 = .ok (.ishl, 1) := by decide +kernel
theorem dX7_choose_6 : decode cX7_choose 6 = .ok (.iconst 1, 1) := by decide +kernel
theorem dX7_choose_7 : decode cX7_choose 7 = .ok (.isub, 1) := by decide +kernel
theorem dX7_choose_8 : decode cX7_choose 8 = .ok (.istore_n 3, 1) := by decide +kernel
theorem dX7_choose_9 : decode cX7_choose 9 = .ok (.iload_n 2, 1) := by decide +kernel
theorem dX7_choose_10 : decode cX7_choose 10 = .ok (.aload_n 0, 1) := by decide +kernel
theorem dX7_choose_11 : decode cX7_choose 11 = .ok (.invokevirtual 44, 3) := by decide +kernel
theorem dX7_choose_14 : decode cX7_choose 14 = .ok (.iand, 1) := by decide +kernel
theorem dX7_choose_15 : decode cX7_choose 15 = .ok (.istore 4, 2) := by decide +kernel
theorem dX7_choose_17 : decode cX7_choose 17 = .ok (.aload_n 0, 1) := by decide +kernel
theorem dX7_choose_18 : decode cX7_choose 18 = .ok (.iconst (-1), 1) := by decide +kernel
theorem dX7_choose_19 : decode cX7_choose 19 = .ok (.putfield 48, 3) := by decide +kernel
theorem dX7_choose_22 : decode cX7_choose 22 = .ok (.iconst 0, 1) := by decide +kernel
theorem dX7_choose_23 : decode cX7_choose 23 = .ok (.istore 5, 2) := by decide +kernel
theorem dX7_choose_25 : decode cX7_choose 25 = .ok (.iload 5, 2) := by decide +kernel
theorem dX7_choose_27 : decode cX7_choose 27 = .ok (.iload_n 3, 1) := by decide +kernel
theorem dX7_choose_28 : decode cX7_choose 28 = .ok (.if_icmp .gt 100, 3) := by decide +kernel
theorem dX7_choose_31 : decode cX7_choose 31 = .ok (.aload_n 0, 1) := by decide +kernel
theorem dX7_choose_32 : decode cX7_choose 32 = .ok (.iload 5, 2) := by decide +kernel
theorem dX7_choose_34 : decode cX7_choose 34 = .ok (.invokevirtual 51, 3) := by decide +kernel
theorem dX7_choose_37 : decode cX7_choose 37 = .ok (.aload_n 0, 1) := by decide +kernel
theorem dX7_choose_38 : decode cX7_choose 38 = .ok (.getfield 55, 3) := by decide +kernel
theorem dX7_choose_41 : decode cX7_choose 41 = .ok (.iload_n 1, 1) := by decide +kernel
theorem dX7_choose_42 : decode cX7_choose 42 = .ok (.if_icmp .gt 33, 3) := by decide +kernel
theorem dX7_choose_45 : decode cX7_choose 45 = .ok (.iload 5, 2) := by decide +kernel
theorem dX7_choose_47 : decode cX7_choose 47 = .ok (.aload_n 0, 1) := by decide +kernel
theorem dX7_choose_48 : decode cX7_choose 48 = .ok (.getfield 37, 3) := by decide +kernel
theorem dX7_choose_51 : decode cX7_choose 51 = .ok (.iand, 1) := by decide +kernel
theorem dX7_choose_52 : decode cX7_choose 52 = .ok (.aload_n 0, 1) := by decide +kernel
theorem dX7_choose_53 : decode cX7_choose 53 = .ok (.getfield 37, 3) := by decide +kernel
theorem dX7_choose_56 : decode cX7_choose 56 = .ok (.if_icmp .ne 19, 3) := by decide +kernel
theorem dX7_choose_59 : decode cX7_choose 59 = .ok (.aload_n 0, 1) := by decide +kernel
theorem dX7_choose_60 : decode cX7_choose 60 = .ok (.getfield 58, 3) := by decide +kernel
theorem dX7_choose_63 : decode cX7_choose 63 = .ok (.iload 4, 2) := by decide +kernel
theorem dX7_choose_65 : decode cX7_choose 65 = .ok (.iand, 1) := by decide +kernel
theorem dX7_choose_66 : decode cX7_choose 66 = .ok (.iload 4, 2) := by decide +kernel
theorem dX7_choose_68 : decode cX7_choose 68 = .ok (.if_icmp .ne 7, 3) := by decide +kernel
theorem dX7_choose_71 : decode cX7_choose 71 = .ok (.iconst 1, 1) := by decide +kernel
theorem dX7_choose_72 : decode cX7_choose 72 = .ok (.goto 4, 3) := by decide +kernel
theorem dX7_choose_75 : decode cX7_choose 75 = .ok (.iconst 0, 1) := by decide +kernel
theorem dX7_choose_76 : decode cX7_choose 76 = .ok (.istore 6, 2) := by decide +kernel
theorem dX7_choose_78 : decode cX7_choose 78 = .ok (.iload 6, 2) := by decide +kernel
theorem dX7_choose_80 : decode cX7_choose 80 = .ok (.ifCond .eq 42, 3) := by decide +kernel
theorem dX7_choose_83 : decode cX7_choose 83 = .ok (.aload_n 0, 1) := by decide +kernel
theorem dX7_choose_84 : decode cX7_choose 84 = .ok (.aload_n 0, 1) := by decide +kernel
theorem dX7_choose_85 : decode cX7_choose 85 = .ok (.getfield 24, 3) := by decide +kernel
theorem dX7_choose_88 : decode cX7_choose 88 = .ok (.iload 5, 2) := by decide +kernel
theorem dX7_choose_90 : decode cX7_choose 90 = .ok (.iaload, 1) := by decide +kernel
theorem dX7_choose_91 : decode cX7_choose 91 = .ok (.invokevirtual 61, 3) := by decide +kernel
theorem dX7_choose_94 : decode cX7_choose 94 = .ok (.ifCond .eq 28, 3) := by decide +kernel
theorem dX7_choose_97 : decode cX7_choose 97 = .ok (.aload_n 0, 1) := by decide +kernel
theorem dX7_choose_98 : decode cX7_choose 98 = .ok (.iload 5, 2) := by decide +kernel
theorem dX7_choose_100 : decode cX7_choose 100 = .ok (.putfield 48, 3) := by decide +kernel
theorem dX7_choose_103 : decode cX7_choose 103 = .ok (.aload_n 0, 1) := by decide +kernel
theorem dX7_choose_104 : decode cX7_choose 104 = .ok (.aload_n 0, 1) := by decide +kernel
theorem dX7_choose_105 : decode cX7_choose 105 = .ok (.getfield 24, 3) := by decide +kernel
theorem dX7_choose_108 : decode cX7_choose 108 = .ok (.iload 5, 2) := by decide +kernel
theorem dX7_choose_110 : decode cX7_choose 110 = .ok (.iaload, 1) := by decide +kernel
theorem dX7_choose_111 : decode cX7_choose 111 = .ok (.putfield 65, 3) := by decide +kernel
theorem dX7_choose_114 : decode cX7_choose 114 = .ok (.aload_n 0, 1) := by decide +kernel
theorem dX7_choose_115 : decode cX7_choose 115 = .ok (.aload_n 0, 1) := by decide +kernel
