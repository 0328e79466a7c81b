theorem dX0_init_0 : decode cX0_init 0 = .ok (.aload_n 0, 1) := by decide +kernel
theorem dX0_init_1 : decode cX0_init 1 = .ok (.invokespecial 3, 3) := by decide +kernel
theorem dX0_init_4 : decode cX0_init 4 = .ok (.aload_n 0, 1) := by decide +kernel
theorem dX0_init_5 : decode cX0_init 5 = .ok (.bipush 24, 2) := by decide +kernel
theorem dX0_init_7 : decode cX0_init 7 = .ok (.newarray .int, 2) := by decide +kernel
theorem dX0_init_9 : decode cX0_init 9 = .ok (.putfield 9, 3) := by decide +kernel
theorem dX0_init_12 : decode cX0_init 12 = .ok (.aload_n 0, 1) := by decide +kernel
theorem dX0_init_13 : decode cX0_init 13 = .ok (.bipush 24, 2) := by decide +kernel
theorem dX0_init_15 : decode cX0_init 15 = .ok (.newarray .int, 2) := by decide +kernel
theorem dX0_init_17 : decode cX0_init 17 = .ok (.putfield 15, 3) := by decide +kernel
theorem dX0_init_20 : decode cX0_init 20 = .ok (.aload_n 0, 1) := by decide +kernel
theorem dX0_init_21 : decode cX0_init 21 = .ok (.bipush 24, 2) := by decide +kernel
theorem dX0_init_23 : decode cX0_init 23 = .ok (.newarray .int, 2) := by decide +kernel
theorem dX0_init_25 : decode cX0_init 25 = .ok (.putfield 18, 3) := by decide +kernel
theorem dX0_init_28 : decode cX0_init 28 = .ok (.aload_n 0, 1) := by decide +kernel
theorem dX0_init_29 : decode cX0_init 29 = .ok (.iconst 0, 1) := by decide +kernel
theorem dX0_init_30 : decode cX0_init 30 = .ok (.putfield 21, 3) := by decide +kernel
theorem dX0_init_33 : decode cX0_init 33 = .ok (.return_, 1) := by decide +kernel
theorem dX0_gather_0 : decode cX0_gather 0 = .ok (.aload_n 0, 1) := by decide +kernel
theorem dX0_gather_1 : decode cX0_gather 1 = .ok (.iconst 0, 1) := by decide +kernel
theorem dX0_gather_2 : decode cX0_gather 2 = .ok (.putfield 21, 3) := by decide +kernel
theorem dX0_gather_5 : decode cX0_gather 5 = .ok (.iconst 0, 1) := by decide +kernel
theorem dX0_gather_6 : decode cX0_gather 6 = .ok (.istore_n 2, 1) := by decide +kernel
theorem dX0_gather_7 : decode cX0_gather 7 = .ok (.iload_n 2, 1) := by decide +kernel
theorem dX0_gather_8 : decode cX0_gather 8 = .ok (.bipush 24, 2) := by decide +kernel
theorem dX0_gather_10 : decode cX0_gather 10 = .ok (.if_icmp .ge 60, 3) := by decide +kernel
theorem dX0_gather_13 : decode cX0_gather 13 = .ok (.iload_n 2, 1) := by decide +kernel
theorem dX0_gather_14 : decode cX0_gather 14 = .ok (.iload_n 1, 1) := by decide +kernel
theorem dX0_gather_15 : decode cX0_gather 15 = .ok (.if_icmp .ge 55, 3) := by decide +kernel
theorem dX0_gather_18 : decode cX0_gather 18 = .ok (.aload_n 0, 1) := by decide +kernel
theorem dX0_gather_19 : decode cX0_gather 19 = .ok (.getfield 9, 3) := by decide +kernel
theorem dX0_gather_22 : decode cX0_gather 22 = .ok (.iload_n 2, 1) := by decide +kernel
theorem dX0_gather_23 : decode cX0_gather 23 = .ok (.iaload, 1) := by decide +kernel
theorem dX0_gather_24 : decode cX0_gather 24 = .ok (.ldc 25, 2) := by decide +kernel
theorem dX0_gather_26 : decode cX0_gather 26 = .ok (.if_icmp .eq 38, 3) := by decide +kernel
theorem dX0_gather_29 : decode cX0_gather 29 = .ok (.aload_n 0, 1) := by decide +kernel
theorem dX0_gather_30 : decode cX0_gather 30 = .ok (.getfield 15, 3) := by decide +kernel
theorem dX0_gather_33 : decode cX0_gather 33 = .ok (.aload_n 0, 1) := by decide +kernel
theorem dX0_gather_34 : decode cX0_gather 34 = .ok (.getfield 21, 3) := by decide +kernel
theorem dX0_gather_37 : decode cX0_gather 37 = .ok (.aload_n 0, 1) := by decide +kernel
theorem dX0_gather_38 : decode cX0_gather 38 = .ok (.getfield 9, 3) := by decide +kernel
theorem dX0_gather_41 : decode cX0_gather 41 = .ok (.iload_n 2, 1) := by decide +kernel
theorem dX0_gather_42 : decode cX0_gather 42 = .ok (.iaload, 1) := by decide +kernel
theorem dX0_gather_43 : decode cX0_gather 43 = .ok (.iastore, 1) := by decide +kernel
theorem dX0_gather_44 : decode cX0_gather 44 = .ok (.aload_n 0, 1) := by decide +kernel
theorem dX0_gather_45 : decode cX0_gather 45 = .ok (.getfield 18, 3) := by decide +kernel
theorem dX0_gather_48 : decode cX0_gather 48 = .ok (.aload_n 0, 1) := by decide +kernel
theorem dX0_gather_49 : decode cX0_gather 49 = .ok (.getfield 21, 3) := by decide +kernel
theorem dX0_gather_52 : decode cX0_gather 52 = .ok (.iload_n 2, 1) := by decide +kernel
theorem dX0_gather_53 : decode cX0_gather 53 = .ok (.iastore, 1) := by decide +kernel
theorem dX0_gather_54 : decode cX0_gather 54 = .ok (.aload_n 0, 1) := by decide +kernel
theorem dX0_gather_55 : decode cX0_gather 55 = .ok (.dup, 1) := by decide +kernel
theorem dX0_gather_56 : decode cX0_gather 56 = .ok (.getfield 21, 3) := by decide +kernel
theorem dX0_gather_59 : decode cX0_gather 59 = .ok (.iconst 1, 1) := by decide +kernel
theorem dX0_gather_60 : decode cX0_gather 60 = .ok (.iadd, 1) := by decide +kernel
theorem dX0_gather_61 : decode cX0_gather 61 = .ok (.putfield 21, 3) := by decide +kernel
theorem dX0_gather_64 : decode cX0_gather 64 = .ok (.iinc 2 1, 3) := by decide +kernel
theorem dX0_gather_67 : decode cX0_gather 67 = .ok (.goto (-60), 3) := by decide +kernel
theorem dX0_gather_70 : decode cX0_gather 70 = .ok (.return_, 1) := by decide +kernel
theorem dX0_sum_0 : decode cX0_sum 0 = .ok (.lconst 0, 1) := by decide +kernel
theorem dX0_sum_1 : decode cX0_sum 1 = .ok (.lstore_n 1, 1) := by decide +kernel
theorem dX0_sum_2 : decode cX0_sum 2 = .ok (.iconst 0, 1) := by decide +kernel
theorem dX0_sum_3 : decode cX0_sum 3 = .ok (.istore_n 3, 1) := by decide +kernel
theorem dX0_sum_4 : decode cX0_sum 4 = .ok (.iload_n 3, 1) := by decide +kernel
theorem dX0_sum_5 : decode cX0_sum 5 = .ok (.aload_n 0, 1) := by decide +kernel
theorem dX0_sum_6 : decode cX0_sum 6 = .ok (.getfield 21, 3) := by decide +kernel
theorem dX0_sum_9 : decode cX0_sum 9 = .ok (.if_icmp .ge 19, 3) := by decide +kernel
theorem dX0_sum_12 : decode cX0_sum 12 = .ok (.lload_n 1, 1) := by decide +kernel
theorem dX0_sum_13 : decode cX0_sum 13 = .ok (.aload_n 0, 1) := by decide +kernel
theorem dX0_sum_14 : decode cX0_sum 14 = .ok (.getfield 15, 3) := by decide +kernel
theorem dX0_sum_17 : decode cX0_sum 17 = .ok (.iload_n 3, 1) := by decide +kernel
theorem dX0_sum_18 : decode cX0_sum 18 = .ok (.iaload, 1) := by decide +kernel
theorem dX0_sum_19 : decode cX0_sum 19 = .ok (.i2l, 1) := by decide +kernel
theorem dX0_sum_20 : decode cX0_sum 20 = .ok (.ladd, 1) := by decide +kernel
theorem dX0_sum_21 : decode cX0_sum 21 = .ok (.lstore_n 1, 1) := by decide +kernel
theorem dX0_sum_22 : decode cX0_sum 22 = .ok (.iinc 3 1, 3) := by decide +kernel
theorem dX0_sum_25 : decode cX0_sum 25 = .ok (.goto (-21), 3) := by decide +kernel
theorem dX0_sum_28 : decode cX0_sum 28 = .ok (.lload_n 1, 1) := by decide +kernel
theorem dX0_sum_29 : decode cX0_sum 29 = .ok (.lreturn, 1) := by decide +kernel
theorem dX0_squares_0 : decode cX0_squares 0 = .ok (.lconst 0, 1) := by decide +kernel
theorem dX0_squares_1 : decode cX0_squares 1 = .ok (.lstore_n 1, 1) := by decide +kernel
theorem dX0_squares_2 : decode cX0_squares 2 = .ok (.iconst 0, 1) := by decide +kernel
theorem dX0_squares_3 : decode cX0_squares 3 = .ok (.istore_n 3, 1) := by decide +kernel
theorem dX0_squares_4 : decode cX0_squares 4 = .ok (.iload_n 3, 1) := by decide +kernel
theorem dX0_squares_5 : decode cX0_squares 5 = .ok (.aload_n 0, 1) := by decide +kernel
theorem dX0_squares_6 : decode cX0_squares 6 = .ok (.getfield 21, 3) := by decide +kernel
theorem dX0_squares_9 : decode cX0_squares 9 = .ok (.if_icmp .ge 27, 3) := by decide +kernel
theorem dX0_squares_12 : decode cX0_squares 12 = .ok (.lload_n 1, 1) := by decide +kernel
theorem dX0_squares_13 : decode cX0_squares 13 = .ok (.aload_n 0, 1) := by decide +kernel
theorem dX0_squares_14 : decode cX0_squares 14 = .ok (.getfield 15, 3) := by decide +kernel
theorem dX0_squares_17 : decode cX0_squares 17 = .ok (.iload_n 3, 1) := by decide +kernel
theorem dX0_squares_18 : decode cX0_squares 18 = .ok (.iaload, 1) := by decide +kernel
theorem dX0_squares_19 : decode cX0_squares 19 = .ok (.i2l, 1) := by decide +kernel
theorem dX0_squares_20 : decode cX0_squares 20 = .ok (.aload_n 0, 1) := by decide +kernel
theorem dX0_squares_21 : decode cX0_squares 21 = .ok (.getfield 15, 3) := by decide +kernel
theorem dX0_squares_24 : decode cX0_squares 24 = .ok (.iload_n 3, 1) := by decide +kernel
theorem dX0_squares_25 : decode cX0_squares 25 = .ok (.iaload, 1) := by decide +kernel
theorem dX0_squares_26 : decode cX0_squares 26 = .ok (.i2l, 1) := by decide +kernel
theorem dX0_squares_27 : decode cX0_squares 27 = .ok (.lmul, 1) := by decide +kernel
theorem dX0_squares_28 : decode cX0_squares 28 = .ok (.ladd, 1) := by decide +kernel
theorem dX0_squares_29 : decode cX0_squares 29 = .ok (.lstore_n 1, 1) := by decide +kernel
theorem dX0_squares_30 : decode cX0_squares 30 = .ok (.iinc 3 1, 3) := by decide +kernel
theorem dX0_squares_33 : decode cX0_squares 33 = .ok (.goto (-29), 3) := by decide +kernel
theorem dX0_squares_36 : decode cX0_squares 36 = .ok (.lload_n 1, 1) := by decide +kernel
theorem dX0_squares_37 : decode cX0_squares 37 = .ok (.lreturn, 1) := by decide +kernel
theorem dX1_init_0 : decode cX1_init 0 = .ok (.aload_n 0, 1) := by decide +kernel
theorem dX1_init_1 : decode cX1_init 1 = .ok (.invokespecial 3, 3) := by decide +kernel
theorem dX1_init_4 : decode cX1_init 4 = .ok (.aload_n 0, 1) := by decide +kernel
theorem dX1_init_5 : decode cX1_init 5 = .ok (.bipush 20, 2) := by decide +kernel
theorem dX1_init_7 : decode cX1_init 7 = .ok (.newarray .int, 2) := by decide +kernel
theorem dX1_init_9 : decode cX1_init 9 = .ok (.putfield 9, 3) := by decide +kernel
theorem dX1_init_12 : decode cX1_init 12 = .ok (.aload_n 0, 1) := by decide +kernel
theorem dX1_init_13 : decode cX1_init 13 = .ok (.bipush 20, 2) := by decide +kernel
theorem dX1_init_15 : decode cX1_init 15 = .ok (.newarray .int, 2) := by decide +kernel
theorem dX1_init_17 : decode cX1_init 17 = .ok (.putfield 15, 3) := by decide +kernel
theorem dX1_init_20 : decode cX1_init 20 = .ok (.aload_n 0, 1) := by decide +kernel
theorem dX1_init_21 : decode cX1_init 21 = .ok (.bipush 20, 2) := by decide +kernel
theorem dX1_init_23 : decode cX1_init 23 = .ok (.newarray .int, 2) := by decide +kernel
theorem dX1_init_25 : decode cX1_init 25 = .ok (.putfield 18, 3) := by decide +kernel
theorem dX1_init_28 : decode cX1_init 28 = .ok (.aload_n 0, 1) := by decide +kernel
theorem dX1_init_29 : decode cX1_init 29 = .ok (.iconst 0, 1) := by decide +kernel
theorem dX1_init_30 : decode cX1_init 30 = .ok (.putfield 21, 3) := by decide +kernel
theorem dX1_init_33 : decode cX1_init 33 = .ok (.aload_n 0, 1) := by decide +kernel
theorem dX1_init_34 : decode cX1_init 34 = .ok (.iconst 0, 1) := by decide +kernel
theorem dX1_init_35 : decode cX1_init 35 = .ok (.putfield 25, 3) := by decide +kernel
theorem dX1_init_38 : decode cX1_init 38 = .ok (.aload_n 0, 1) := by decide +kernel
theorem dX1_init_39 : decode cX1_init 39 = .ok (.iconst 0, 1) := by decide +kernel
theorem dX1_init_40 : decode cX1_init 40 = .ok (.putfield 28, 3) := by decide +kernel
theorem dX1_init_43 : decode cX1_init 43 = .ok (.return_, 1) := by decide +kernel
theorem dX1_isFull_0 : decode cX1_isFull 0 = .ok (.aload_n 0, 1) := by decide +kernel
theorem dX1_isFull_1 : decode cX1_isFull 1 = .ok (.getfield 21, 3) := by decide +kernel
theorem dX1_isFull_4 : decode cX1_isFull 4 = .ok (.bipush 20, 2) := by decide +kernel
theorem dX1_isFull_6 : decode cX1_isFull 6 = .ok (.if_icmp .lt 7, 3) := by decide +kernel
theorem dX1_isFull_9 : decode cX1_isFull 9 = .ok (.iconst 1, 1) := by decide +kernel
theorem dX1_isFull_10 : decode cX1_isFull 10 = .ok (.goto 4, 3) := by decide +kernel
theorem dX1_isFull_13 : decode cX1_isFull 13 = .ok (.iconst 0, 1) := by decide +kernel
theorem dX1_isFull_14 : decode cX1_isFull 14 = .ok (.ireturn, 1) := by decide +kernel
theorem dX1_has_0 : decode cX1_has 0 = .ok (.iload_n 1, 1) := by decide +kernel
theorem dX1_has_1 : decode cX1_has 1 = .ok (.ifCond .lt 15, 3) := by decide +kernel
theorem dX1_has_4 : decode cX1_has 4 = .ok (.iload_n 1, 1) := by decide +kernel
theorem dX1_has_5 : decode cX1_has 5 = .ok (.aload_n 0, 1) := by decide +kernel
theorem dX1_has_6 : decode cX1_has 6 = .ok (.getfield 21, 3) := by decide +kernel
theorem dX1_has_9 : decode cX1_has 9 = .ok (.if_icmp .ge 7, 3) := by decide +kernel
theorem dX1_has_12 : decode cX1_has 12 = .ok (.iconst 1, 1) := by decide +kernel
theorem dX1_has_13 : decode cX1_has 13 = .ok (.goto 4, 3) := by decide +kernel
theorem dX1_has_16 : decode cX1_has 16 = .ok (.iconst 0, 1) := by decide +kernel
theorem dX1_has_17 : decode cX1_has 17 = .ok (.ireturn, 1) := by decide +kernel
theorem dX1_all_0 : decode cX1_all 0 = .ok (.iconst 1, 1) := by decide +kernel
theorem dX1_all_1 : decode cX1_all 1 = .ok (.aload_n 0, 1) := by decide +kernel
theorem dX1_all_2 : decode cX1_all 2 = .ok (.getfield 21, 3) := by decide +kernel
theorem dX1_all_5 : decode cX1_all 5 = .ok (.ishl, 1) := by decide +kernel
theorem dX1_all_6 : decode cX1_all 6 = .ok (.iconst 1, 1) := by decide +kernel
theorem dX1_all_7 : decode cX1_all 7 = .ok (.isub, 1) := by decide +kernel
theorem dX1_all_8 : decode cX1_all 8 = .ok (.ireturn, 1) := by decide +kernel
theorem dX1_add_0 : decode cX1_add 0 = .ok (.aload_n 0, 1) := by decide +kernel
theorem dX1_add_1 : decode cX1_add 1 = .ok (.invokevirtual 31, 3) := by decide +kernel
theorem dX1_add_4 : decode cX1_add 4 = .ok (.ifCond .ne 43, 3) := by decide +kernel
theorem dX1_add_7 : decode cX1_add 7 = .ok (.aload_n 0, 1) := by decide +kernel
theorem dX1_add_8 : decode cX1_add 8 = .ok (.getfield 9, 3) := by decide +kernel
theorem dX1_add_11 : decode cX1_add 11 = .ok (.aload_n 0, 1) := by decide +kernel
theorem dX1_add_12 : decode cX1_add 12 = .ok (.getfield 21, 3) := by decide +kernel
theorem dX1_add_15 : decode cX1_add 15 = .ok (.iload_n 1, 1) := by decide +kernel
theorem dX1_add_16 : decode cX1_add 16 = .ok (.iastore, 1) := by decide +kernel
theorem dX1_add_17 : decode cX1_add 17 = .ok (.aload_n 0, 1) := by decide +kernel
theorem dX1_add_18 : decode cX1_add 18 = .ok (.getfield 15, 3) := by decide +kernel
theorem dX1_add_21 : decode cX1_add 21 = .ok (.aload_n 0, 1) := by decide +kernel
theorem dX1_add_22 : decode cX1_add 22 = .ok (.getfield 21, 3) := by decide +kernel
theorem dX1_add_25 : decode cX1_add 25 = .ok (.iload_n 2, 1) := by decide +kernel
theorem dX1_add_26 : decode cX1_add 26 = .ok (.iastore, 1) := by decide +kernel
theorem dX1_add_27 : decode cX1_add 27 = .ok (.aload_n 0, 1) := by decide +kernel
theorem dX1_add_28 : decode cX1_add 28 = .ok (.getfield 18, 3) := by decide +kernel
theorem dX1_add_31 : decode cX1_add 31 = .ok (.aload_n 0, 1) := by decide +kernel
theorem dX1_add_32 : decode cX1_add 32 = .ok (.getfield 21, 3) := by decide +kernel
theorem dX1_add_35 : decode cX1_add 35 = .ok (.iload_n 3, 1) := by decide +kernel
theorem dX1_add_36 : decode cX1_add 36 = .ok (.iastore, 1) := by decide +kernel
theorem dX1_add_37 : decode cX1_add 37 = .ok (.aload_n 0, 1) := by decide +kernel
theorem dX1_add_38 : decode cX1_add 38 = .ok (.dup, 1) := by decide +kernel
theorem dX1_add_39 : decode cX1_add 39 = .ok (.getfield 21, 3) := by decide +kernel
theorem dX1_add_42 : decode cX1_add 42 = .ok (.iconst 1, 1) := by decide +kernel
theorem dX1_add_43 : decode cX1_add 43 = .ok (.iadd, 1) := by decide +kernel
theorem dX1_add_44 : decode cX1_add 44 = .ok (.putfield 21, 3) := by decide +kernel
theorem dX1_add_47 : decode cX1_add 47 = .ok (.return_, 1) := by decide +kernel
theorem dX1_isPrinted_0 : decode cX1_isPrinted 0 = .ok (.aload_n 0, 1) := by decide +kernel
theorem dX1_isPrinted_1 : decode cX1_isPrinted 1 = .ok (.getfield 25, 3) := by decide +kernel
theorem dX1_isPrinted_4 : decode cX1_isPrinted 4 = .ok (.iload_n 1, 1) := by decide +kernel
theorem dX1_isPrinted_5 : decode cX1_isPrinted 5 = .ok (.ishr, 1) := by decide +kernel
theorem dX1_isPrinted_6 : decode cX1_isPrinted 6 = .ok (.iconst 1, 1) := by decide +kernel
theorem dX1_isPrinted_7 : decode cX1_isPrinted 7 = .ok (.iand, 1) := by decide +kernel
theorem dX1_isPrinted_8 : decode cX1_isPrinted 8 = .ok (.iconst 1, 1) := by decide +kernel
theorem dX1_isPrinted_9 : decode cX1_isPrinted 9 = .ok (.if_icmp .ne 7, 3) := by decide +kernel
theorem dX1_isPrinted_12 : decode cX1_isPrinted 12 = .ok (.iconst 1, 1) := by decide +kernel
theorem dX1_isPrinted_13 : decode cX1_isPrinted 13 = .ok (.goto 4, 3) := by decide +kernel
theorem dX1_isPrinted_16 : decode cX1_isPrinted 16 = .ok (.iconst 0, 1) := by decide +kernel
theorem dX1_isPrinted_17 : decode cX1_isPrinted 17 = .ok (.ireturn, 1) := by decide +kernel
theorem dX1_setPrinted_0 : decode cX1_setPrinted 0 = .ok (.iconst 1, 1) := by decide +kernel
theorem dX1_setPrinted_1 : decode cX1_setPrinted 1 = .ok (.iload_n 1, 1) := by decide +kernel
theorem dX1_setPrinted_2 : decode cX1_setPrinted 2 = .ok (.ishl, 1) := by decide +kernel
theorem dX1_setPrinted_3 : decode cX1_setPrinted 3 = .ok (.istore_n 3, 1) := by decide +kernel
theorem dX1_setPrinted_4 : decode cX1_setPrinted 4 = .ok (.aload_n 0, 1) := by decide +kernel
theorem dX1_setPrinted_5 : decode cX1_setPrinted 5 = .ok (.iload_n 2, 1) := by decide +kernel
theorem dX1_setPrinted_6 : decode cX1_setPrinted 6 = .ok (.ifCond .eq 12, 3) := by decide +kernel
theorem dX1_setPrinted_9 : decode cX1_setPrinted 9 = .ok (.aload_n 0, 1) := by decide +kernel
theorem dX1_setPrinted_10 : decode cX1_setPrinted 10 = .ok (.getfield 25, 3) := by decide +kernel
theorem dX1_setPrinted_13 : decode cX1_setPrinted 13 = .ok (.iload_n 3, 1) := by decide +kernel
theorem dX1_setPrinted_14 : decode cX1_setPrinted 14 = .ok (.ior, 1) := by decide +kernel
theorem dX1_setPrinted_15 : decode cX1_setPrinted 15 = .ok (.goto 11, 3) := by decide +kernel
theorem dX1_setPrinted_18 : decode cX1_setPrinted 18 = .ok (.aload_n 0, 1) := by decide +kernel
theorem dX1_setPrinted_19 : decode cX1_setPrinted 19 = .ok (.getfield 25, 3) := by decide +kernel
theorem dX1_setPrinted_22 : decode cX1_setPrinted 22 = .ok (.iload_n 3, 1) := by decide +kernel
theorem dX1_setPrinted_23 : decode cX1_setPrinted 23 = .ok (.iconst (-1), 1) := by decide +kernel
theorem dX1_setPrinted_24 : decode cX1_setPrinted 24 = .ok (.ixor, 1) := by decide +kernel
theorem dX1_setPrinted_25 : decode cX1_setPrinted 25 = .ok (.iand, 1) := by decide +kernel
theorem dX1_setPrinted_26 : decode cX1_setPrinted 26 = .ok (.putfield 25, 3) := by decide +kernel
theorem dX1_setPrinted_29 : decode cX1_setPrinted 29 = .ok (.return_, 1) := by decide +kernel
theorem dX1_putLean_0 : decode cX1_putLean 0 = .ok (.lconst 0, 1) := by decide +kernel
theorem dX1_putLean_1 : decode cX1_putLean 1 = .ok (.lstore_n 2, 1) := by decide +kernel
theorem dX1_putLean_2 : decode cX1_putLean 2 = .ok (.lconst 0, 1) := by decide +kernel
theorem dX1_putLean_3 : decode cX1_putLean 3 = .ok (.lstore 4, 2) := by decide +kernel
theorem dX1_putLean_5 : decode cX1_putLean 5 = .ok (.iconst 0, 1) := by decide +kernel
theorem dX1_putLean_6 : decode cX1_putLean 6 = .ok (.istore 6, 2) := by decide +kernel
theorem dX1_putLean_8 : decode cX1_putLean 8 = .ok (.iload 6, 2) := by decide +kernel
theorem dX1_putLean_10 : decode cX1_putLean 10 = .ok (.aload_n 0, 1) := by decide +kernel
theorem dX1_putLean_11 : decode cX1_putLean 11 = .ok (.getfield 21, 3) := by decide +kernel
theorem dX1_putLean_14 : decode cX1_putLean 14 = .ok (.if_icmp .ge 42, 3) := by decide +kernel
theorem dX1_putLean_17 : decode cX1_putLean 17 = .ok (.lload_n 2, 1) := by decide +kernel
theorem dX1_putLean_18 : decode cX1_putLean 18 = .ok (.aload_n 0, 1) := by decide +kernel
theorem dX1_putLean_19 : decode cX1_putLean 19 = .ok (.getfield 18, 3) := by decide +kernel
theorem dX1_putLean_22 : decode cX1_putLean 22 = .ok (.iload 6, 2) := by decide +kernel
theorem dX1_putLean_24 : decode cX1_putLean 24 = .ok (.iaload, 1) := by decide +kernel
theorem dX1_putLean_25 : decode cX1_putLean 25 = .ok (.i2l, 1) := by decide +kernel
theorem dX1_putLean_26 : decode cX1_putLean 26 = .ok (.ladd, 1) := by decide +kernel
theorem dX1_putLean_27 : decode cX1_putLean 27 = .ok (.lstore_n 2, 1) := by decide +kernel
theorem dX1_putLean_28 : decode cX1_putLean 28 = .ok (.aload_n 0, 1) := by decide +kernel
theorem dX1_putLean_29 : decode cX1_putLean 29 = .ok (.iload 6, 2) := by decide +kernel
theorem dX1_putLean_31 : decode cX1_putLean 31 = .ok (.invokevirtual 35, 3) := by decide +kernel
theorem dX1_putLean_34 : decode cX1_putLean 34 = .ok (.ifCond .eq 16, 3) := by decide +kernel
theorem dX1_putLean_37 : decode cX1_putLean 37 = .ok (.lload 4, 2) := by decide +kernel
theorem dX1_putLean_39 : decode cX1_putLean 39 = .ok (.aload_n 0, 1) := by decide +kernel
theorem dX1_putLean_40 : decode cX1_putLean 40 = .ok (.getfield 18, 3) := by decide +kernel
theorem dX1_putLean_43 : decode cX1_putLean 43 = .ok (.iload 6, 2) := by decide +kernel
theorem dX1_putLean_45 : decode cX1_putLean 45 = .ok (.iaload, 1) := by decide +kernel
theorem dX1_putLean_46 : decode cX1_putLean 46 = .ok (.i2l, 1) := by decide +kernel
theorem dX1_putLean_47 : decode cX1_putLean 47 = .ok (.ladd, 1) := by decide +kernel
theorem dX1_putLean_48 : decode cX1_putLean 48 = .ok (.lstore 4, 2) := by decide +kernel
theorem dX1_putLean_50 : decode cX1_putLean 50 = .ok (.iinc 6 1, 3) := by decide +kernel
theorem dX1_putLean_53 : decode cX1_putLean 53 = .ok (.goto (-45), 3) := by decide +kernel
theorem dX1_putLean_56 : decode cX1_putLean 56 = .ok (.aload_n 0, 1) := by decide +kernel
theorem dX1_putLean_57 : decode cX1_putLean 57 = .ok (.getfield 25, 3) := by decide +kernel
theorem dX1_putLean_60 : decode cX1_putLean 60 = .ok (.invokestatic 39, 3) := by decide +kernel
theorem dX1_putLean_63 : decode cX1_putLean 63 = .ok (.i2l, 1) := by decide +kernel
theorem dX1_putLean_64 : decode cX1_putLean 64 = .ok (.lstore 6, 2) := by decide +kernel
theorem dX1_putLean_66 : decode cX1_putLean 66 = .ok (.aload_n 1, 1) := by decide +kernel
theorem dX1_putLean_67 : decode cX1_putLean 67 = .ok (.lload 4, 2) := by decide +kernel
theorem dX1_putLean_69 : decode cX1_putLean 69 = .ok (.aload_n 0, 1) := by decide +kernel
theorem dX1_putLean_70 : decode cX1_putLean 70 = .ok (.getfield 21, 3) := by decide +kernel
theorem dX1_putLean_73 : decode cX1_putLean 73 = .ok (.i2l, 1) := by decide +kernel
theorem dX1_putLean_74 : decode cX1_putLean 74 = .ok (.lmul, 1) := by decide +kernel
theorem dX1_putLean_75 : decode cX1_putLean 75 = .ok (.lload_n 2, 1) := by decide +kernel
theorem dX1_putLean_76 : decode cX1_putLean 76 = .ok (.lload 6, 2) := by decide +kernel
theorem dX1_putLean_78 : decode cX1_putLean 78 = .ok (.lmul, 1) := by decide +kernel
theorem dX1_putLean_79 : decode cX1_putLean 79 = .ok (.lsub, 1) := by decide +kernel
theorem dX1_putLean_80 : decode cX1_putLean 80 = .ok (.lload 6, 2) := by decide +kernel
theorem dX1_putLean_82 : decode cX1_putLean 82 = .ok (.aload_n 0, 1) := by decide +kernel
theorem dX1_putLean_83 : decode cX1_putLean 83 = .ok (.getfield 21, 3) := by decide +kernel
theorem dX1_putLean_86 : decode cX1_putLean 86 = .ok (.i2l, 1) := by decide +kernel
theorem dX1_putLean_87 : decode cX1_putLean 87 = .ok (.lmul, 1) := by decide +kernel
theorem dX1_putLean_88 : decode cX1_putLean 88 = .ok (.invokevirtual 45, 3) := by decide +kernel
theorem dX1_putLean_91 : decode cX1_putLean 91 = .ok (.return_, 1) := by decide +kernel
theorem dX1_kept_0 : decode cX1_kept 0 = .ok (.iconst 0, 1) := by decide +kernel
theorem dX1_kept_1 : decode cX1_kept 1 = .ok (.istore_n 2, 1) := by decide +kernel
theorem dX1_kept_2 : decode cX1_kept 2 = .ok (.iconst 0, 1) := by decide +kernel
theorem dX1_kept_3 : decode cX1_kept 3 = .ok (.istore_n 3, 1) := by decide +kernel
theorem dX1_kept_4 : decode cX1_kept 4 = .ok (.iload_n 3, 1) := by decide +kernel
theorem dX1_kept_5 : decode cX1_kept 5 = .ok (.aload_n 0, 1) := by decide +kernel
theorem dX1_kept_6 : decode cX1_kept 6 = .ok (.getfield 21, 3) := by decide +kernel
theorem dX1_kept_9 : decode cX1_kept 9 = .ok (.if_icmp .ge 25, 3) := by decide +kernel
theorem dX1_kept_12 : decode cX1_kept 12 = .ok (.aload_n 0, 1) := by decide +kernel
theorem dX1_kept_13 : decode cX1_kept 13 = .ok (.getfield 18, 3) := by decide +kernel
theorem dX1_kept_16 : decode cX1_kept 16 = .ok (.iload_n 3, 1) := by decide +kernel
theorem dX1_kept_17 : decode cX1_kept 17 = .ok (.iaload, 1) := by decide +kernel
theorem dX1_kept_18 : decode cX1_kept 18 = .ok (.iload_n 1, 1) := by decide +kernel
theorem dX1_kept_19 : decode cX1_kept 19 = .ok (.if_icmp .lt 9, 3) := by decide +kernel
theorem dX1_kept_22 : decode cX1_kept 22 = .ok (.iload_n 2, 1) := by decide +kernel
theorem dX1_kept_23 : decode cX1_kept 23 = .ok (.iconst 1, 1) := by decide +kernel
theorem dX1_kept_24 : decode cX1_kept 24 = .ok (.iload_n 3, 1) := by decide +kernel
theorem dX1_kept_25 : decode cX1_kept 25 = .ok (.ishl, 1) := by decide +kernel
theorem dX1_kept_26 : decode cX1_kept 26 = .ok (.ior, 1) := by decide +kernel
theorem dX1_kept_27 : decode cX1_kept 27 = .ok (.istore_n 2, 1) := by decide +kernel
theorem dX1_kept_28 : decode cX1_kept 28 = .ok (.iinc 3 1, 3) := by decide +kernel
theorem dX1_kept_31 : decode cX1_kept 31 = .ok (.goto (-27), 3) := by decide +kernel
theorem dX1_kept_34 : decode cX1_kept 34 = .ok (.iload_n 2, 1) := by decide +kernel
theorem dX1_kept_35 : decode cX1_kept 35 = .ok (.ireturn, 1) := by decide +kernel
theorem dX1_goodBy_0 : decode cX1_goodBy 0 = .ok (.aload_n 0, 1) := by decide +kernel
theorem dX1_goodBy_1 : decode cX1_goodBy 1 = .ok (.iload_n 1, 1) := by decide +kernel
theorem dX1_goodBy_2 : decode cX1_goodBy 2 = .ok (.invokevirtual 51, 3) := by decide +kernel
theorem dX1_goodBy_5 : decode cX1_goodBy 5 = .ok (.istore_n 2, 1) := by decide +kernel
theorem dX1_goodBy_6 : decode cX1_goodBy 6 = .ok (.iload_n 2, 1) := by decide +kernel
theorem dX1_goodBy_7 : decode cX1_goodBy 7 = .ok (.aload_n 0, 1) := by decide +kernel
theorem dX1_goodBy_8 : decode cX1_goodBy 8 = .ok (.getfield 28, 3) := by decide +kernel
theorem dX1_goodBy_11 : decode cX1_goodBy 11 = .ok (.iand, 1) := by decide +kernel
theorem dX1_goodBy_12 : decode cX1_goodBy 12 = .ok (.invokestatic 39, 3) := by decide +kernel
theorem dX1_goodBy_15 : decode cX1_goodBy 15 = .ok (.iload_n 2, 1) := by decide +kernel
theorem dX1_goodBy_16 : decode cX1_goodBy 16 = .ok (.aload_n 0, 1) := by decide +kernel
theorem dX1_goodBy_17 : decode cX1_goodBy 17 = .ok (.getfield 28, 3) := by decide +kernel
theorem dX1_goodBy_20 : decode cX1_goodBy 20 = .ok (.iconst (-1), 1) := by decide +kernel
theorem dX1_goodBy_21 : decode cX1_goodBy 21 = .ok (.ixor, 1) := by decide +kernel
theorem dX1_goodBy_22 : decode cX1_goodBy 22 = .ok (.iand, 1) := by decide +kernel
theorem dX1_goodBy_23 : decode cX1_goodBy 23 = .ok (.invokestatic 39, 3) := by decide +kernel
theorem dX1_goodBy_26 : decode cX1_goodBy 26 = .ok (.isub, 1) := by decide +kernel
theorem dX1_goodBy_27 : decode cX1_goodBy 27 = .ok (.ireturn, 1) := by decide +kernel
theorem dX1_bestRule_0 : decode cX1_bestRule 0 = .ok (.iconst 0, 1) := by decide +kernel
theorem dX1_bestRule_1 : decode cX1_bestRule 1 = .ok (.istore_n 1, 1) := by decide +kernel
theorem dX1_bestRule_2 : decode cX1_bestRule 2 = .ok (.aload_n 0, 1) := by decide +kernel
theorem dX1_bestRule_3 : decode cX1_bestRule 3 = .ok (.iconst 0, 1) := by decide +kernel
theorem dX1_bestRule_4 : decode cX1_bestRule 4 = .ok (.invokevirtual 54, 3) := by decide +kernel
theorem dX1_bestRule_7 : decode cX1_bestRule 7 = .ok (.istore_n 2, 1) := by decide +kernel
theorem dX1_bestRule_8 : decode cX1_bestRule 8 = .ok (.iconst 1, 1) := by decide +kernel
theorem dX1_bestRule_9 : decode cX1_bestRule 9 = .ok (.istore_n 3, 1) := by decide +kernel
theorem dX1_bestRule_10 : decode cX1_bestRule 10 = .ok (.iload_n 3, 1) := by decide +kernel
theorem dX1_bestRule_11 : decode cX1_bestRule 11 = .ok (.bipush 101, 2) := by decide +kernel
theorem dX1_bestRule_13 : decode cX1_bestRule 13 = .ok (.if_icmp .gt 27, 3) := by decide +kernel
theorem dX1_bestRule_16 : decode cX1_bestRule 16 = .ok (.aload_n 0, 1) := by decide +kernel
theorem dX1_bestRule_17 : decode cX1_bestRule 17 = .ok (.iload_n 3, 1) := by decide +kernel
theorem dX1_bestRule_18 : decode cX1_bestRule 18 = .ok (.invokevirtual 54, 3) := by decide +kernel
theorem dX1_bestRule_21 : decode cX1_bestRule 21 = .ok (.istore 4, 2) := by decide +kernel
theorem dX1_bestRule_23 : decode cX1_bestRule 23 = .ok (.iload 4, 2) := by decide +kernel
theorem dX1_bestRule_25 : decode cX1_bestRule 25 = .ok (.iload_n 2, 1) := by decide +kernel
theorem dX1_bestRule_26 : decode cX1_bestRule 26 = .ok (.if_icmp .le 8, 3) := by decide +kernel
theorem dX1_bestRule_29 : decode cX1_bestRule 29 = .ok (.iload 4, 2) := by decide +kernel
theorem dX1_bestRule_31 : decode cX1_bestRule 31 = .ok (.istore_n 2, 1) := by decide +kernel
theorem dX1_bestRule_32 : decode cX1_bestRule 32 = .ok (.iload_n 3, 1) := by decide +kernel
theorem dX1_bestRule_33 : decode cX1_bestRule 33 = .ok (.istore_n 1, 1) := by decide +kernel
theorem dX1_bestRule_34 : decode cX1_bestRule 34 = .ok (.iinc 3 1, 3) := by decide +kernel
theorem dX1_bestRule_37 : decode cX1_bestRule 37 = .ok (.goto (-27), 3) := by decide +kernel
theorem dX1_bestRule_40 : decode cX1_bestRule 40 = .ok (.iload_n 1, 1) := by decide +kernel
theorem dX1_bestRule_41 : decode cX1_bestRule 41 = .ok (.ireturn, 1) := by decide +kernel
theorem dX1_firstUnprinted_0 : decode cX1_firstUnprinted 0 = .ok (.iconst 0, 1) := by decide +kernel
theorem dX1_firstUnprinted_1 : decode cX1_firstUnprinted 1 = .ok (.istore_n 1, 1) := by decide +kernel
theorem dX1_firstUnprinted_2 : decode cX1_firstUnprinted 2 = .ok (.iconst 0, 1) := by decide +kernel
theorem dX1_firstUnprinted_3 : decode cX1_firstUnprinted 3 = .ok (.istore_n 2, 1) := by decide +kernel
theorem dX1_firstUnprinted_4 : decode cX1_firstUnprinted 4 = .ok (.iconst 0, 1) := by decide +kernel
theorem dX1_firstUnprinted_5 : decode cX1_firstUnprinted 5 = .ok (.istore_n 3, 1) := by decide +kernel
theorem dX1_firstUnprinted_6 : decode cX1_firstUnprinted 6 = .ok (.iload_n 3, 1) := by decide +kernel
theorem dX1_firstUnprinted_7 : decode cX1_firstUnprinted 7 = .ok (.aload_n 0, 1) := by decide +kernel
theorem dX1_firstUnprinted_8 : decode cX1_firstUnprinted 8 = .ok (.getfield 21, 3) := by decide +kernel
theorem dX1_firstUnprinted_11 : decode cX1_firstUnprinted 11 = .ok (.if_icmp .ge 32, 3) := by decide +kernel
theorem dX1_firstUnprinted_14 : decode cX1_firstUnprinted 14 = .ok (.iload_n 2, 1) := by decide +kernel
theorem dX1_firstUnprinted_15 : decode cX1_firstUnprinted 15 = .ok (.bipush 12, 2) := by decide +kernel
theorem dX1_firstUnprinted_17 : decode cX1_firstUnprinted 17 = .ok (.if_icmp .ge 26, 3) := by decide +kernel
theorem dX1_firstUnprinted_20 : decode cX1_firstUnprinted 20 = .ok (.aload_n 0, 1) := by decide +kernel
theorem dX1_firstUnprinted_21 : decode cX1_firstUnprinted 21 = .ok (.iload_n 3, 1) := by decide +kernel
theorem dX1_firstUnprinted_22 : decode cX1_firstUnprinted 22 = .ok (.invokevirtual 35, 3) := by decide +kernel
theorem dX1_firstUnprinted_25 : decode cX1_firstUnprinted 25 = .ok (.ifCond .ne 12, 3) := by decide +kernel
theorem dX1_firstUnprinted_28 : decode cX1_firstUnprinted 28 = .ok (.iload_n 1, 1) := by decide +kernel
theorem dX1_firstUnprinted_29 : decode cX1_firstUnprinted 29 = .ok (.iconst 1, 1) := by decide +kernel
theorem dX1_firstUnprinted_30 : decode cX1_firstUnprinted 30 = .ok (.iload_n 3, 1) := by decide +kernel
theorem dX1_firstUnprinted_31 : decode cX1_firstUnprinted 31 = .ok (.ishl, 1) := by decide +kernel
theorem dX1_firstUnprinted_32 : decode cX1_firstUnprinted 32 = .ok (.ior, 1) := by decide +kernel
theorem dX1_firstUnprinted_33 : decode cX1_firstUnprinted 33 = .ok (.istore_n 1, 1) := by decide +kernel
theorem dX1_firstUnprinted_34 : decode cX1_firstUnprinted 34 = .ok (.iinc 2 1, 3) := by decide +kernel
theorem dX1_firstUnprinted_37 : decode cX1_firstUnprinted 37 = .ok (.iinc 3 1, 3) := by decide +kernel
theorem dX1_firstUnprinted_40 : decode cX1_firstUnprinted 40 = .ok (.goto (-34), 3) := by decide +kernel
theorem dX1_firstUnprinted_43 : decode cX1_firstUnprinted 43 = .ok (.iload_n 1, 1) := by decide +kernel
theorem dX1_firstUnprinted_44 : decode cX1_firstUnprinted 44 = .ok (.ireturn, 1) := by decide +kernel
theorem dX2_init_0 : decode cX2_init 0 = .ok (.aload_n 0, 1) := by decide +kernel
theorem dX2_init_1 : decode cX2_init 1 = .ok (.invokespecial 3, 3) := by decide +kernel
theorem dX2_init_4 : decode cX2_init 4 = .ok (.aload_n 0, 1) := by decide +kernel
theorem dX2_init_5 : decode cX2_init 5 = .ok (.lconst 0, 1) := by decide +kernel
theorem dX2_init_6 : decode cX2_init 6 = .ok (.putfield 9, 3) := by decide +kernel
theorem dX2_init_9 : decode cX2_init 9 = .ok (.aload_n 0, 1) := by decide +kernel
theorem dX2_init_10 : decode cX2_init 10 = .ok (.lconst 1, 1) := by decide +kernel
theorem dX2_init_11 : decode cX2_init 11 = .ok (.putfield 15, 3) := by decide +kernel
theorem dX2_init_14 : decode cX2_init 14 = .ok (.return_, 1) := by decide +kernel
theorem dX2_put_0 : decode cX2_put 0 = .ok (.lload_n 1, 1) := by decide +kernel
theorem dX2_put_1 : decode cX2_put 1 = .ok (.invokestatic 18, 3) := by decide +kernel
theorem dX2_put_4 : decode cX2_put 4 = .ok (.lload_n 3, 1) := by decide +kernel
theorem dX2_put_5 : decode cX2_put 5 = .ok (.invokestatic 24, 3) := by decide +kernel
theorem dX2_put_8 : decode cX2_put 8 = .ok (.lstore 5, 2) := by decide +kernel
theorem dX2_put_10 : decode cX2_put 10 = .ok (.lload_n 1, 1) := by decide +kernel
theorem dX2_put_11 : decode cX2_put 11 = .ok (.lconst 0, 1) := by decide +kernel
theorem dX2_put_12 : decode cX2_put 12 = .ok (.lcmp, 1) := by decide +kernel
theorem dX2_put_13 : decode cX2_put 13 = .ok (.ifCond .eq 16, 3) := by decide +kernel
theorem dX2_put_16 : decode cX2_put 16 = .ok (.lload_n 3, 1) := by decide +kernel
theorem dX2_put_17 : decode cX2_put 17 = .ok (.lconst 0, 1) := by decide +kernel
theorem dX2_put_18 : decode cX2_put 18 = .ok (.lcmp, 1) := by decide +kernel
theorem dX2_put_19 : decode cX2_put 19 = .ok (.ifCond .le 10, 3) := by decide +kernel
theorem dX2_put_22 : decode cX2_put 22 = .ok (.lload 5, 2) := by decide +kernel
theorem dX2_put_24 : decode cX2_put 24 = .ok (.lconst 0, 1) := by decide +kernel
theorem dX2_put_25 : decode cX2_put 25 = .ok (.lcmp, 1) := by decide +kernel
theorem dX2_put_26 : decode cX2_put 26 = .ok (.ifCond .gt 16, 3) := by decide +kernel
theorem dX2_put_29 : decode cX2_put 29 = .ok (.aload_n 0, 1) := by decide +kernel
theorem dX2_put_30 : decode cX2_put 30 = .ok (.lconst 0, 1) := by decide +kernel
theorem dX2_put_31 : decode cX2_put 31 = .ok (.putfield 9, 3) := by decide +kernel
theorem dX2_put_34 : decode cX2_put 34 = .ok (.aload_n 0, 1) := by decide +kernel
theorem dX2_put_35 : decode cX2_put 35 = .ok (.lconst 1, 1) := by decide +kernel
theorem dX2_put_36 : decode cX2_put 36 = .ok (.putfield 15, 3) := by decide +kernel
theorem dX2_put_39 : decode cX2_put 39 = .ok (.goto 19, 3) := by decide +kernel
theorem dX2_put_42 : decode cX2_put 42 = .ok (.aload_n 0, 1) := by decide +kernel
theorem dX2_put_43 : decode cX2_put 43 = .ok (.lload_n 1, 1) := by decide +kernel
theorem dX2_put_44 : decode cX2_put 44 = .ok (.lload 5, 2) := by decide +kernel
theorem dX2_put_46 : decode cX2_put 46 = .ok (.ldiv, 1) := by decide +kernel
theorem dX2_put_47 : decode cX2_put 47 = .ok (.putfield 9, 3) := by decide +kernel
theorem dX2_put_50 : decode cX2_put 50 = .ok (.aload_n 0, 1) := by decide +kernel
theorem dX2_put_51 : decode cX2_put 51 = .ok (.lload_n 3, 1) := by decide +kernel
theorem dX2_put_52 : decode cX2_put 52 = .ok (.lload 5, 2) := by decide +kernel
theorem dX2_put_54 : decode cX2_put 54 = .ok (.ldiv, 1) := by decide +kernel
theorem dX2_put_55 : decode cX2_put 55 = .ok (.putfield 15, 3) := by decide +kernel
theorem dX2_put_58 : decode cX2_put 58 = .ok (.return_, 1) := by decide +kernel
theorem dX2_partOf_0 : decode cX2_partOf 0 = .ok (.iload_n 1, 1) := by decide +kernel
theorem dX2_partOf_1 : decode cX2_partOf 1 = .ok (.ifCond .ne 10, 3) := by decide +kernel
theorem dX2_partOf_4 : decode cX2_partOf 4 = .ok (.aload_n 0, 1) := by decide +kernel
theorem dX2_partOf_5 : decode cX2_partOf 5 = .ok (.getfield 9, 3) := by decide +kernel
theorem dX2_partOf_8 : decode cX2_partOf 8 = .ok (.goto 7, 3) := by decide +kernel
theorem dX2_partOf_11 : decode cX2_partOf 11 = .ok (.aload_n 0, 1) := by decide +kernel
theorem dX2_partOf_12 : decode cX2_partOf 12 = .ok (.getfield 15, 3) := by decide +kernel
theorem dX2_partOf_15 : decode cX2_partOf 15 = .ok (.lreturn, 1) := by decide +kernel
theorem dX2_percent_0 : decode cX2_percent 0 = .ok (.aload_n 0, 1) := by decide +kernel
theorem dX2_percent_1 : decode cX2_percent 1 = .ok (.getfield 15, 3) := by decide +kernel
theorem dX2_percent_4 : decode cX2_percent 4 = .ok (.lconst 0, 1) := by decide +kernel
theorem dX2_percent_5 : decode cX2_percent 5 = .ok (.lcmp, 1) := by decide +kernel
theorem dX2_percent_6 : decode cX2_percent 6 = .ok (.ifCond .le 20, 3) := by decide +kernel
theorem dX2_percent_9 : decode cX2_percent 9 = .ok (.ldc2_w 28, 3) := by decide +kernel
theorem dX2_percent_12 : decode cX2_percent 12 = .ok (.aload_n 0, 1) := by decide +kernel
theorem dX2_percent_13 : decode cX2_percent 13 = .ok (.getfield 9, 3) := by decide +kernel
theorem dX2_percent_16 : decode cX2_percent 16 = .ok (.lmul, 1) := by decide +kernel
theorem dX2_percent_17 : decode cX2_percent 17 = .ok (.aload_n 0, 1) := by decide +kernel
theorem dX2_percent_18 : decode cX2_percent 18 = .ok (.getfield 15, 3) := by decide +kernel
theorem dX2_percent_21 : decode cX2_percent 21 = .ok (.ldiv, 1) := by decide +kernel
theorem dX2_percent_22 : decode cX2_percent 22 = .ok (.l2i, 1) := by decide +kernel
theorem dX2_percent_23 : decode cX2_percent 23 = .ok (.goto 4, 3) := by decide +kernel
theorem dX2_percent_26 : decode cX2_percent 26 = .ok (.iconst 0, 1) := by decide +kernel
theorem dX2_percent_27 : decode cX2_percent 27 = .ok (.ireturn, 1) := by decide +kernel
theorem dX2_isAtLeast_0 : decode cX2_isAtLeast 0 = .ok (.aload_n 0, 1) := by decide +kernel
theorem dX2_isAtLeast_1 : decode cX2_isAtLeast 1 = .ok (.getfield 9, 3) := by decide +kernel
theorem dX2_isAtLeast_4 : decode cX2_isAtLeast 4 = .ok (.lstore_n 2, 1) := by decide +kernel
theorem dX2_isAtLeast_5 : decode cX2_isAtLeast 5 = .ok (.aload_n 0, 1) := by decide +kernel
theorem dX2_isAtLeast_6 : decode cX2_isAtLeast 6 = .ok (.getfield 15, 3) := by decide +kernel
theorem dX2_isAtLeast_9 : decode cX2_isAtLeast 9 = .ok (.lstore 4, 2) := by decide +kernel
theorem dX2_isAtLeast_11 : decode cX2_isAtLeast 11 = .ok (.aload_n 1, 1) := by decide +kernel
theorem dX2_isAtLeast_12 : decode cX2_isAtLeast 12 = .ok (.getfield 9, 3) := by decide +kernel
theorem dX2_isAtLeast_15 : decode cX2_isAtLeast 15 = .ok (.lstore 6, 2) := by decide +kernel
theorem dX2_isAtLeast_17 : decode cX2_isAtLeast 17 = .ok (.aload_n 1, 1) := by decide +kernel
theorem dX2_isAtLeast_18 : decode cX2_isAtLeast 18 = .ok (.getfield 15, 3) := by decide +kernel
theorem dX2_isAtLeast_21 : decode cX2_isAtLeast 21 = .ok (.lstore 8, 2) := by decide +kernel
theorem dX2_isAtLeast_23 : decode cX2_isAtLeast 23 = .ok (.iconst 0, 1) := by decide +kernel
theorem dX2_isAtLeast_24 : decode cX2_isAtLeast 24 = .ok (.istore 10, 2) := by decide +kernel
theorem dX2_isAtLeast_26 : decode cX2_isAtLeast 26 = .ok (.iconst 0, 1) := by decide +kernel
theorem dX2_isAtLeast_27 : decode cX2_isAtLeast 27 = .ok (.istore 11, 2) := by decide +kernel
theorem dX2_isAtLeast_29 : decode cX2_isAtLeast 29 = .ok (.iload 11, 2) := by decide +kernel
theorem dX2_isAtLeast_31 : decode cX2_isAtLeast 31 = .ok (.bipush 100, 2) := by decide +kernel
theorem dX2_isAtLeast_33 : decode cX2_isAtLeast 33 = .ok (.if_icmp .ge 105, 3) := by decide +kernel
theorem dX2_isAtLeast_36 : decode cX2_isAtLeast 36 = .ok (.lload 4, 2) := by decide +kernel
theorem dX2_isAtLeast_38 : decode cX2_isAtLeast 38 = .ok (.lconst 0, 1) := by decide +kernel
theorem dX2_isAtLeast_39 : decode cX2_isAtLeast 39 = .ok (.lcmp, 1) := by decide +kernel
theorem dX2_isAtLeast_40 : decode cX2_isAtLeast 40 = .ok (.ifCond .le 98, 3) := by decide +kernel
theorem dX2_isAtLeast_43 : decode cX2_isAtLeast 43 = .ok (.lload 8, 2) := by decide +kernel
theorem dX2_isAtLeast_45 : decode cX2_isAtLeast 45 = .ok (.lconst 0, 1) := by decide +kernel
theorem dX2_isAtLeast_46 : decode cX2_isAtLeast 46 = .ok (.lcmp, 1) := by decide +kernel
theorem dX2_isAtLeast_47 : decode cX2_isAtLeast 47 = .ok (.ifCond .le 91, 3) := by decide +kernel
theorem dX2_isAtLeast_50 : decode cX2_isAtLeast 50 = .ok (.lload_n 2, 1) := by decide +kernel
theorem dX2_isAtLeast_51 : decode cX2_isAtLeast 51 = .ok (.lload 4, 2) := by decide +kernel
theorem dX2_isAtLeast_53 : decode cX2_isAtLeast 53 = .ok (.ldiv, 1) := by decide +kernel
theorem dX2_isAtLeast_54 : decode cX2_isAtLeast 54 = .ok (.lload 6, 2) := by decide +kernel
theorem dX2_isAtLeast_56 : decode cX2_isAtLeast 56 = .ok (.lload 8, 2) := by decide +kernel
theorem dX2_isAtLeast_58 : decode cX2_isAtLeast 58 = .ok (.ldiv, 1) := by decide +kernel
theorem dX2_isAtLeast_59 : decode cX2_isAtLeast 59 = .ok (.lcmp, 1) := by decide +kernel
theorem dX2_isAtLeast_60 : decode cX2_isAtLeast 60 = .ok (.ifCond .eq 32, 3) := by decide +kernel
theorem dX2_isAtLeast_63 : decode cX2_isAtLeast 63 = .ok (.lload_n 2, 1) := by decide +kernel
theorem dX2_isAtLeast_64 : decode cX2_isAtLeast 64 = .ok (.lload 4, 2) := by decide +kernel
theorem dX2_isAtLeast_66 : decode cX2_isAtLeast 66 = .ok (.ldiv, 1) := by decide +kernel
theorem dX2_isAtLeast_67 : decode cX2_isAtLeast 67 = .ok (.lload 6, 2) := by decide +kernel
theorem dX2_isAtLeast_69 : decode cX2_isAtLeast 69 = .ok (.lload 8, 2) := by decide +kernel
theorem dX2_isAtLeast_71 : decode cX2_isAtLeast 71 = .ok (.ldiv, 1) := by decide +kernel
theorem dX2_isAtLeast_72 : decode cX2_isAtLeast 72 = .ok (.lcmp, 1) := by decide +kernel
theorem dX2_isAtLeast_73 : decode cX2_isAtLeast 73 = .ok (.ifCond .le 7, 3) := by decide +kernel
theorem dX2_isAtLeast_76 : decode cX2_isAtLeast 76 = .ok (.iconst 1, 1) := by decide +kernel
theorem dX2_isAtLeast_77 : decode cX2_isAtLeast 77 = .ok (.goto 4, 3) := by decide +kernel
theorem dX2_isAtLeast_80 : decode cX2_isAtLeast 80 = .ok (.iconst 0, 1) := by decide +kernel
theorem dX2_isAtLeast_81 : decode cX2_isAtLeast 81 = .ok (.iload 10, 2) := by decide +kernel
theorem dX2_isAtLeast_83 : decode cX2_isAtLeast 83 = .ok (.if_icmp .eq 7, 3) := by decide +kernel
theorem dX2_isAtLeast_86 : decode cX2_isAtLeast 86 = .ok (.iconst 1, 1) := by decide +kernel
theorem dX2_isAtLeast_87 : decode cX2_isAtLeast 87 = .ok (.goto 4, 3) := by decide +kernel
theorem dX2_isAtLeast_90 : decode cX2_isAtLeast 90 = .ok (.iconst 0, 1) := by decide +kernel
theorem dX2_isAtLeast_91 : decode cX2_isAtLeast 91 = .ok (.ireturn, 1) := by decide +kernel
theorem dX2_isAtLeast_92 : decode cX2_isAtLeast 92 = .ok (.lload_n 2, 1) := by decide +kernel
theorem dX2_isAtLeast_93 : decode cX2_isAtLeast 93 = .ok (.lload 4, 2) := by decide +kernel
theorem dX2_isAtLeast_95 : decode cX2_isAtLeast 95 = .ok (.lrem, 1) := by decide +kernel
theorem dX2_isAtLeast_96 : decode cX2_isAtLeast 96 = .ok (.lstore 12, 2) := by decide +kernel
theorem dX2_isAtLeast_98 : decode cX2_isAtLeast 98 = .ok (.lload 6, 2) := by decide +kernel
theorem dX2_isAtLeast_100 : decode cX2_isAtLeast 100 = .ok (.lload 8, 2) := by decide +kernel
theorem dX2_isAtLeast_102 : decode cX2_isAtLeast 102 = .ok (.lrem, 1) := by decide +kernel
theorem dX2_isAtLeast_103 : decode cX2_isAtLeast 103 = .ok (.lstore 14, 2) := by decide +kernel
theorem dX2_isAtLeast_105 : decode cX2_isAtLeast 105 = .ok (.lload 4, 2) := by decide +kernel
theorem dX2_isAtLeast_107 : decode cX2_isAtLeast 107 = .ok (.lstore_n 2, 1) := by decide +kernel
theorem dX2_isAtLeast_108 : decode cX2_isAtLeast 108 = .ok (.lload 12, 2) := by decide +kernel
theorem dX2_isAtLeast_110 : decode cX2_isAtLeast 110 = .ok (.lstore 4, 2) := by decide +kernel
theorem dX2_isAtLeast_112 : decode cX2_isAtLeast 112 = .ok (.lload 8, 2) := by decide +kernel
theorem dX2_isAtLeast_114 : decode cX2_isAtLeast 114 = .ok (.lstore 6, 2) := by decide +kernel
theorem dX2_isAtLeast_116 : decode cX2_isAtLeast 116 = .ok (.lload 14, 2) := by decide +kernel
theorem dX2_isAtLeast_118 : decode cX2_isAtLeast 118 = .ok (.lstore 8, 2) := by decide +kernel
theorem dX2_isAtLeast_120 : decode cX2_isAtLeast 120 = .ok (.iload 10, 2) := by decide +kernel
theorem dX2_isAtLeast_122 : decode cX2_isAtLeast 122 = .ok (.ifCond .ne 7, 3) := by decide +kernel
theorem dX2_isAtLeast_125 : decode cX2_isAtLeast 125 = .ok (.iconst 1, 1) := by decide +kernel
theorem dX2_isAtLeast_126 : decode cX2_isAtLeast 126 = .ok (.goto 4, 3) := by decide +kernel
theorem dX2_isAtLeast_129 : decode cX2_isAtLeast 129 = .ok (.iconst 0, 1) := by decide +kernel
theorem dX2_isAtLeast_130 : decode cX2_isAtLeast 130 = .ok (.istore 10, 2) := by decide +kernel
theorem dX2_isAtLeast_132 : decode cX2_isAtLeast 132 = .ok (.iinc 11 1, 3) := by decide +kernel
theorem dX2_isAtLeast_135 : decode cX2_isAtLeast 135 = .ok (.goto (-106), 3) := by decide +kernel
theorem dX2_isAtLeast_138 : decode cX2_isAtLeast 138 = .ok (.lload 4, 2) := by decide +kernel
theorem dX2_isAtLeast_140 : decode cX2_isAtLeast 140 = .ok (.lload 8, 2) := by decide +kernel
theorem dX2_isAtLeast_142 : decode cX2_isAtLeast 142 = .ok (.lcmp, 1) := by decide +kernel
theorem dX2_isAtLeast_143 : decode cX2_isAtLeast 143 = .ok (.ifCond .eq 21, 3) := by decide +kernel
theorem dX2_isAtLeast_146 : decode cX2_isAtLeast 146 = .ok (.lload 4, 2) := by decide +kernel
theorem dX2_isAtLeast_148 : decode cX2_isAtLeast 148 = .ok (.lload 8, 2) := by decide +kernel
theorem dX2_isAtLeast_150 : decode cX2_isAtLeast 150 = .ok (.lcmp, 1) := by decide +kernel
theorem dX2_isAtLeast_151 : decode cX2_isAtLeast 151 = .ok (.ifCond .ge 7, 3) := by decide +kernel
theorem dX2_isAtLeast_154 : decode cX2_isAtLeast 154 = .ok (.iconst 1, 1) := by decide +kernel
theorem dX2_isAtLeast_155 : decode cX2_isAtLeast 155 = .ok (.goto 4, 3) := by decide +kernel
theorem dX2_isAtLeast_158 : decode cX2_isAtLeast 158 = .ok (.iconst 0, 1) := by decide +kernel
theorem dX2_isAtLeast_159 : decode cX2_isAtLeast 159 = .ok (.iload 10, 2) := by decide +kernel
theorem dX2_isAtLeast_161 : decode cX2_isAtLeast 161 = .ok (.if_icmp .eq 7, 3) := by decide +kernel
theorem dX2_isAtLeast_164 : decode cX2_isAtLeast 164 = .ok (.iconst 1, 1) := by decide +kernel
theorem dX2_isAtLeast_165 : decode cX2_isAtLeast 165 = .ok (.goto 4, 3) := by decide +kernel
theorem dX2_isAtLeast_168 : decode cX2_isAtLeast 168 = .ok (.iconst 0, 1) := by decide +kernel
theorem dX2_isAtLeast_169 : decode cX2_isAtLeast 169 = .ok (.ireturn, 1) := by decide +kernel
theorem dX2_commonDivisor_0 : decode cX2_commonDivisor 0 = .ok (.lload_n 0, 1) := by decide +kernel
theorem dX2_commonDivisor_1 : decode cX2_commonDivisor 1 = .ok (.lstore 4, 2) := by decide +kernel
theorem dX2_commonDivisor_3 : decode cX2_commonDivisor 3 = .ok (.lload_n 2, 1) := by decide +kernel
theorem dX2_commonDivisor_4 : decode cX2_commonDivisor 4 = .ok (.lstore 6, 2) := by decide +kernel
theorem dX2_commonDivisor_6 : decode cX2_commonDivisor 6 = .ok (.iconst 0, 1) := by decide +kernel
theorem dX2_commonDivisor_7 : decode cX2_commonDivisor 7 = .ok (.istore 8, 2) := by decide +kernel
theorem dX2_commonDivisor_9 : decode cX2_commonDivisor 9 = .ok (.iload 8, 2) := by decide +kernel
theorem dX2_commonDivisor_11 : decode cX2_commonDivisor 11 = .ok (.bipush 100, 2) := by decide +kernel
theorem dX2_commonDivisor_13 : decode cX2_commonDivisor 13 = .ok (.if_icmp .ge 31, 3) := by decide +kernel
theorem dX2_commonDivisor_16 : decode cX2_commonDivisor 16 = .ok (.lload 6, 2) := by decide +kernel
theorem dX2_commonDivisor_18 : decode cX2_commonDivisor 18 = .ok (.lconst 0, 1) := by decide +kernel
theorem dX2_commonDivisor_19 : decode cX2_commonDivisor 19 = .ok (.lcmp, 1) := by decide +kernel
theorem dX2_commonDivisor_20 : decode cX2_commonDivisor 20 = .ok (.ifCond .eq 24, 3) := by decide +kernel
theorem dX2_commonDivisor_23 : decode cX2_commonDivisor 23 = .ok (.lload 4, 2) := by decide +kernel
theorem dX2_commonDivisor_25 : decode cX2_commonDivisor 25 = .ok (.lload 6, 2) := by decide +kernel
theorem dX2_commonDivisor_27 : decode cX2_commonDivisor 27 = .ok (.lrem, 1) := by decide +kernel
theorem dX2_commonDivisor_28 : decode cX2_commonDivisor 28 = .ok (.lstore 9, 2) := by decide +kernel
theorem dX2_commonDivisor_30 : decode cX2_commonDivisor 30 = .ok (.lload 6, 2) := by decide +kernel
theorem dX2_commonDivisor_32 : decode cX2_commonDivisor 32 = .ok (.lstore 4, 2) := by decide +kernel
theorem dX2_commonDivisor_34 : decode cX2_commonDivisor 34 = .ok (.lload 9, 2) := by decide +kernel
theorem dX2_commonDivisor_36 : decode cX2_commonDivisor 36 = .ok (.lstore 6, 2) := by decide +kernel
theorem dX2_commonDivisor_38 : decode cX2_commonDivisor 38 = .ok (.iinc 8 1, 3) := by decide +kernel
theorem dX2_commonDivisor_41 : decode cX2_commonDivisor 41 = .ok (.goto (-32), 3) := by decide +kernel
theorem dX2_commonDivisor_44 : decode cX2_commonDivisor 44 = .ok (.lload 4, 2) := by decide +kernel
theorem dX2_commonDivisor_46 : decode cX2_commonDivisor 46 = .ok (.lreturn, 1) := by decide +kernel
theorem dX3_init_0 : decode cX3_init 0 = .ok (.aload_n 0, 1) := by decide +kernel
theorem dX3_init_1 : decode cX3_init 1 = .ok (.invokespecial 3, 3) := by decide +kernel
theorem dX3_init_4 : decode cX3_init 4 = .ok (.aload_n 0, 1) := by decide +kernel
theorem dX3_init_5 : decode cX3_init 5 = .ok (.iconst 2, 1) := by decide +kernel
theorem dX3_init_6 : decode cX3_init 6 = .ok (.putfield 9, 3) := by decide +kernel
theorem dX3_init_9 : decode cX3_init 9 = .ok (.aload_n 0, 1) := by decide +kernel
theorem dX3_init_10 : decode cX3_init 10 = .ok (.iconst 0, 1) := by decide +kernel
theorem dX3_init_11 : decode cX3_init 11 = .ok (.putfield 15, 3) := by decide +kernel
theorem dX3_init_14 : decode cX3_init 14 = .ok (.aload_n 0, 1) := by decide +kernel
theorem dX3_init_15 : decode cX3_init 15 = .ok (.iconst 0, 1) := by decide +kernel
theorem dX3_init_16 : decode cX3_init 16 = .ok (.putfield 18, 3) := by decide +kernel
theorem dX3_init_19 : decode cX3_init 19 = .ok (.return_, 1) := by decide +kernel
theorem dX3_look_0 : decode cX3_look 0 = .ok (.aload_n 0, 1) := by decide +kernel
theorem dX3_look_1 : decode cX3_look 1 = .ok (.iload_n 3, 1) := by decide +kernel
theorem dX3_look_2 : decode cX3_look 2 = .ok (.putfield 9, 3) := by decide +kernel
theorem dX3_look_5 : decode cX3_look 5 = .ok (.aload_n 0, 1) := by decide +kernel
theorem dX3_look_6 : decode cX3_look 6 = .ok (.iconst 0, 1) := by decide +kernel
theorem dX3_look_7 : decode cX3_look 7 = .ok (.putfield 15, 3) := by decide +kernel
theorem dX3_look_10 : decode cX3_look 10 = .ok (.aload_n 0, 1) := by decide +kernel
theorem dX3_look_11 : decode cX3_look 11 = .ok (.iconst 0, 1) := by decide +kernel
theorem dX3_look_12 : decode cX3_look 12 = .ok (.putfield 18, 3) := by decide +kernel
theorem dX3_look_15 : decode cX3_look 15 = .ok (.iconst 0, 1) := by decide +kernel
theorem dX3_look_16 : decode cX3_look 16 = .ok (.iload_n 2, 1) := by decide +kernel
theorem dX3_look_17 : decode cX3_look 17 = .ok (.invokestatic 21, 3) := by decide +kernel
theorem dX3_look_20 : decode cX3_look 20 = .ok (.istore 4, 2) := by decide +kernel
theorem dX3_look_22 : decode cX3_look 22 = .ok (.iload 4, 2) := by decide +kernel
theorem dX3_look_24 : decode cX3_look 24 = .ok (.bipush 24, 2) := by decide +kernel
theorem dX3_look_26 : decode cX3_look 26 = .ok (.if_icmp .ge 28, 3) := by decide +kernel
theorem dX3_look_29 : decode cX3_look 29 = .ok (.aload_n 1, 1) := by decide +kernel
theorem dX3_look_30 : decode cX3_look 30 = .ok (.getfield 27, 3) := by decide +kernel
theorem dX3_look_33 : decode cX3_look 33 = .ok (.iload 4, 2) := by decide +kernel
theorem dX3_look_35 : decode cX3_look 35 = .ok (.iaload, 1) := by decide +kernel
theorem dX3_look_36 : decode cX3_look 36 = .ok (.ldc 33, 2) := by decide +kernel
theorem dX3_look_38 : decode cX3_look 38 = .ok (.if_icmp .eq 10, 3) := by decide +kernel
theorem dX3_look_41 : decode cX3_look 41 = .ok (.aload_n 0, 1) := by decide +kernel
theorem dX3_look_42 : decode cX3_look 42 = .ok (.aload_n 1, 1) := by decide +kernel
theorem dX3_look_43 : decode cX3_look 43 = .ok (.iload 4, 2) := by decide +kernel
theorem dX3_look_45 : decode cX3_look 45 = .ok (.invokevirtual 34, 3) := by decide +kernel
theorem dX3_look_48 : decode cX3_look 48 = .ok (.iinc 4 1, 3) := by decide +kernel
theorem dX3_look_51 : decode cX3_look 51 = .ok (.goto (-29), 3) := by decide +kernel
theorem dX3_look_54 : decode cX3_look 54 = .ok (.return_, 1) := by decide +kernel
theorem dX3_lookAt_0 : decode cX3_lookAt 0 = .ok (.aload_n 1, 1) := by decide +kernel
theorem dX3_lookAt_1 : decode cX3_lookAt 1 = .ok (.invokevirtual 38, 3) := by decide +kernel
theorem dX3_lookAt_4 : decode cX3_lookAt 4 = .ok (.lstore_n 3, 1) := by decide +kernel
theorem dX3_lookAt_5 : decode cX3_lookAt 5 = .ok (.aload_n 1, 1) := by decide +kernel
theorem dX3_lookAt_6 : decode cX3_lookAt 6 = .ok (.getfield 27, 3) := by decide +kernel
theorem dX3_lookAt_9 : decode cX3_lookAt 9 = .ok (.iload_n 2, 1) := by decide +kernel
theorem dX3_lookAt_10 : decode cX3_lookAt 10 = .ok (.iaload, 1) := by decide +kernel
theorem dX3_lookAt_11 : decode cX3_lookAt 11 = .ok (.i2l, 1) := by decide +kernel
theorem dX3_lookAt_12 : decode cX3_lookAt 12 = .ok (.aload_n 1, 1) := by decide +kernel
theorem dX3_lookAt_13 : decode cX3_lookAt 13 = .ok (.getfield 42, 3) := by decide +kernel
theorem dX3_lookAt_16 : decode cX3_lookAt 16 = .ok (.i2l, 1) := by decide +kernel
theorem dX3_lookAt_17 : decode cX3_lookAt 17 = .ok (.lmul, 1) := by decide +kernel
theorem dX3_lookAt_18 : decode cX3_lookAt 18 = .ok (.lload_n 3, 1) := by decide +kernel
theorem dX3_lookAt_19 : decode cX3_lookAt 19 = .ok (.invokestatic 45, 3) := by decide +kernel
theorem dX3_lookAt_22 : decode cX3_lookAt 22 = .ok (.istore 5, 2) := by decide +kernel
theorem dX3_lookAt_24 : decode cX3_lookAt 24 = .ok (.aload_n 0, 1) := by decide +kernel
theorem dX3_lookAt_25 : decode cX3_lookAt 25 = .ok (.aload_n 1, 1) := by decide +kernel
theorem dX3_lookAt_26 : decode cX3_lookAt 26 = .ok (.iload_n 2, 1) := by decide +kernel
theorem dX3_lookAt_27 : decode cX3_lookAt 27 = .ok (.lload_n 3, 1) := by decide +kernel
theorem dX3_lookAt_28 : decode cX3_lookAt 28 = .ok (.invokevirtual 51, 3) := by decide +kernel
theorem dX3_lookAt_31 : decode cX3_lookAt 31 = .ok (.istore 6, 2) := by decide +kernel
theorem dX3_lookAt_33 : decode cX3_lookAt 33 = .ok (.iload 5, 2) := by decide +kernel
theorem dX3_lookAt_35 : decode cX3_lookAt 35 = .ok (.ifCond .eq 35, 3) := by decide +kernel
theorem dX3_lookAt_38 : decode cX3_lookAt 38 = .ok (.iload 6, 2) := by decide +kernel
theorem dX3_lookAt_40 : decode cX3_lookAt 40 = .ok (.ifCond .eq 30, 3) := by decide +kernel
theorem dX3_lookAt_43 : decode cX3_lookAt 43 = .ok (.aload_n 0, 1) := by decide +kernel
theorem dX3_lookAt_44 : decode cX3_lookAt 44 = .ok (.dup, 1) := by decide +kernel
theorem dX3_lookAt_45 : decode cX3_lookAt 45 = .ok (.getfield 18, 3) := by decide +kernel
theorem dX3_lookAt_48 : decode cX3_lookAt 48 = .ok (.iconst 1, 1) := by decide +kernel
theorem dX3_lookAt_49 : decode cX3_lookAt 49 = .ok (.iadd, 1) := by decide +kernel
theorem dX3_lookAt_50 : decode cX3_lookAt 50 = .ok (.putfield 18, 3) := by decide +kernel
theorem dX3_lookAt_53 : decode cX3_lookAt 53 = .ok (.iload 5, 2) := by decide +kernel
theorem dX3_lookAt_55 : decode cX3_lookAt 55 = .ok (.iload 6, 2) := by decide +kernel
theorem dX3_lookAt_57 : decode cX3_lookAt 57 = .ok (.if_icmp .ne 13, 3) := by decide +kernel
theorem dX3_lookAt_60 : decode cX3_lookAt 60 = .ok (.aload_n 0, 1) := by decide +kernel
theorem dX3_lookAt_61 : decode cX3_lookAt 61 = .ok (.dup, 1) := by decide +kernel
theorem dX3_lookAt_62 : decode cX3_lookAt 62 = .ok (.getfield 15, 3) := by decide +kernel
theorem dX3_lookAt_65 : decode cX3_lookAt 65 = .ok (.iconst 1, 1) := by decide +kernel
theorem dX3_lookAt_66 : decode cX3_lookAt 66 = .ok (.iadd, 1) := by decide +kernel
theorem dX3_lookAt_67 : decode cX3_lookAt 67 = .ok (.putfield 15, 3) := by decide +kernel
theorem dX3_lookAt_70 : decode cX3_lookAt 70 = .ok (.return_, 1) := by decide +kernel
theorem dX3_sideOfHeap_0 : decode cX3_sideOfHeap 0 = .ok (.lconst 0, 1) := by decide +kernel
theorem dX3_sideOfHeap_1 : decode cX3_sideOfHeap 1 = .ok (.lstore 5, 2) := by decide +kernel
theorem dX3_sideOfHeap_3 : decode cX3_sideOfHeap 3 = .ok (.lconst 0, 1) := by decide +kernel
theorem dX3_sideOfHeap_4 : decode cX3_sideOfHeap 4 = .ok (.lstore 7, 2) := by decide +kernel
theorem dX3_sideOfHeap_6 : decode cX3_sideOfHeap 6 = .ok (.iconst 0, 1) := by decide +kernel
theorem dX3_sideOfHeap_7 : decode cX3_sideOfHeap 7 = .ok (.istore 9, 2) := by decide +kernel
theorem dX3_sideOfHeap_9 : decode cX3_sideOfHeap 9 = .ok (.iload 9, 2) := by decide +kernel
theorem dX3_sideOfHeap_11 : decode cX3_sideOfHeap 11 = .ok (.aload_n 1, 1) := by decide +kernel
theorem dX3_sideOfHeap_12 : decode cX3_sideOfHeap 12 = .ok (.getfield 42, 3) := by decide +kernel
theorem dX3_sideOfHeap_15 : decode cX3_sideOfHeap 15 = .ok (.if_icmp .ge 56, 3) := by decide +kernel
theorem dX3_sideOfHeap_18 : decode cX3_sideOfHeap 18 = .ok (.aload_n 0, 1) := by decide +kernel
theorem dX3_sideOfHeap_19 : decode cX3_sideOfHeap 19 = .ok (.getfield 9, 3) := by decide +kernel
theorem dX3_sideOfHeap_22 : decode cX3_sideOfHeap 22 = .ok (.ifCond .le 49, 3) := by decide +kernel
theorem dX3_sideOfHeap_25 : decode cX3_sideOfHeap 25 = .ok (.aload_n 1, 1) := by decide +kernel
theorem dX3_sideOfHeap_26 : decode cX3_sideOfHeap 26 = .ok (.getfield 55, 3) := by decide +kernel
theorem dX3_sideOfHeap_29 : decode cX3_sideOfHeap 29 = .ok (.iload 9, 2) := by decide +kernel
theorem dX3_sideOfHeap_31 : decode cX3_sideOfHeap 31 = .ok (.iaload, 1) := by decide +kernel
theorem dX3_sideOfHeap_32 : decode cX3_sideOfHeap 32 = .ok (.aload_n 0, 1) := by decide +kernel
theorem dX3_sideOfHeap_33 : decode cX3_sideOfHeap 33 = .ok (.getfield 9, 3) := by decide +kernel
theorem dX3_sideOfHeap_36 : decode cX3_sideOfHeap 36 = .ok (.irem, 1) := by decide +kernel
theorem dX3_sideOfHeap_37 : decode cX3_sideOfHeap 37 = .ok (.iload_n 2, 1) := by decide +kernel
theorem dX3_sideOfHeap_38 : decode cX3_sideOfHeap 38 = .ok (.aload_n 0, 1) := by decide +kernel
theorem dX3_sideOfHeap_39 : decode cX3_sideOfHeap 39 = .ok (.getfield 9, 3) := by decide +kernel
theorem dX3_sideOfHeap_42 : decode cX3_sideOfHeap 42 = .ok (.irem, 1) := by decide +kernel
theorem dX3_sideOfHeap_43 : decode cX3_sideOfHeap 43 = .ok (.if_icmp .ne 22, 3) := by decide +kernel
theorem dX3_sideOfHeap_46 : decode cX3_sideOfHeap 46 = .ok (.lload 5, 2) := by decide +kernel
theorem dX3_sideOfHeap_48 : decode cX3_sideOfHeap 48 = .ok (.aload_n 1, 1) := by decide +kernel
theorem dX3_sideOfHeap_49 : decode cX3_sideOfHeap 49 = .ok (.getfield 58, 3) := by decide +kernel
theorem dX3_sideOfHeap_52 : decode cX3_sideOfHeap 52 = .ok (.iload 9, 2) := by decide +kernel
theorem dX3_sideOfHeap_54 : decode cX3_sideOfHeap 54 = .ok (.iaload, 1) := by decide +kernel
theorem dX3_sideOfHeap_55 : decode cX3_sideOfHeap 55 = .ok (.i2l, 1) := by decide +kernel
theorem dX3_sideOfHeap_56 : decode cX3_sideOfHeap 56 = .ok (.ladd, 1) := by decide +kernel
theorem dX3_sideOfHeap_57 : decode cX3_sideOfHeap 57 = .ok (.lstore 5, 2) := by decide +kernel
theorem dX3_sideOfHeap_59 : decode cX3_sideOfHeap 59 = .ok (.lload 7, 2) := by decide +kernel
theorem dX3_sideOfHeap_61 : decode cX3_sideOfHeap 61 = .ok (.lconst 1, 1) := by decide +kernel
theorem dX3_sideOfHeap_62 : decode cX3_sideOfHeap 62 = .ok (.ladd, 1) := by decide +kernel
theorem dX3_sideOfHeap_63 : decode cX3_sideOfHeap 63 = .ok (.lstore 7, 2) := by decide +kernel
theorem dX3_sideOfHeap_65 : decode cX3_sideOfHeap 65 = .ok (.iinc 9 1, 3) := by decide +kernel
theorem dX3_sideOfHeap_68 : decode cX3_sideOfHeap 68 = .ok (.goto (-59), 3) := by decide +kernel
theorem dX3_sideOfHeap_71 : decode cX3_sideOfHeap 71 = .ok (.lload 5, 2) := by decide +kernel
theorem dX3_sideOfHeap_73 : decode cX3_sideOfHeap 73 = .ok (.aload_n 1, 1) := by decide +kernel
theorem dX3_sideOfHeap_74 : decode cX3_sideOfHeap 74 = .ok (.getfield 42, 3) := by decide +kernel
theorem dX3_sideOfHeap_77 : decode cX3_sideOfHeap 77 = .ok (.i2l, 1) := by decide +kernel
theorem dX3_sideOfHeap_78 : decode cX3_sideOfHeap 78 = .ok (.lmul, 1) := by decide +kernel
theorem dX3_sideOfHeap_79 : decode cX3_sideOfHeap 79 = .ok (.lload_n 3, 1) := by decide +kernel
theorem dX3_sideOfHeap_80 : decode cX3_sideOfHeap 80 = .ok (.lload 7, 2) := by decide +kernel
theorem dX3_sideOfHeap_82 : decode cX3_sideOfHeap 82 = .ok (.lmul, 1) := by decide +kernel
theorem dX3_sideOfHeap_83 : decode cX3_sideOfHeap 83 = .ok (.invokestatic 45, 3) := by decide +kernel
theorem dX3_sideOfHeap_86 : decode cX3_sideOfHeap 86 = .ok (.ireturn, 1) := by decide +kernel
theorem dX3_putLuck_0 : decode cX3_putLuck 0 = .ok (.lconst 1, 1) := by decide +kernel
theorem dX3_putLuck_1 : decode cX3_putLuck 1 = .ok (.lstore_n 2, 1) := by decide +kernel
theorem dX3_putLuck_2 : decode cX3_putLuck 2 = .ok (.lconst 0, 1) := by decide +kernel
theorem dX3_putLuck_3 : decode cX3_putLuck 3 = .ok (.lstore 4, 2) := by decide +kernel
theorem dX3_putLuck_5 : decode cX3_putLuck 5 = .ok (.iconst 0, 1) := by decide +kernel
theorem dX3_putLuck_6 : decode cX3_putLuck 6 = .ok (.istore 6, 2) := by decide +kernel
theorem dX3_putLuck_8 : decode cX3_putLuck 8 = .ok (.iload 6, 2) := by decide +kernel
theorem dX3_putLuck_10 : decode cX3_putLuck 10 = .ok (.aload_n 0, 1) := by decide +kernel
theorem dX3_putLuck_11 : decode cX3_putLuck 11 = .ok (.getfield 18, 3) := by decide +kernel
theorem dX3_putLuck_14 : decode cX3_putLuck 14 = .ok (.if_icmp .gt 41, 3) := by decide +kernel
theorem dX3_putLuck_17 : decode cX3_putLuck 17 = .ok (.iload 6, 2) := by decide +kernel
theorem dX3_putLuck_19 : decode cX3_putLuck 19 = .ok (.aload_n 0, 1) := by decide +kernel
theorem dX3_putLuck_20 : decode cX3_putLuck 20 = .ok (.getfield 15, 3) := by decide +kernel
theorem dX3_putLuck_23 : decode cX3_putLuck 23 = .ok (.if_icmp .lt 9, 3) := by decide +kernel
theorem dX3_putLuck_26 : decode cX3_putLuck 26 = .ok (.lload 4, 2) := by decide +kernel
theorem dX3_putLuck_28 : decode cX3_putLuck 28 = .ok (.lload_n 2, 1) := by decide +kernel
theorem dX3_putLuck_29 : decode cX3_putLuck 29 = .ok (.ladd, 1) := by decide +kernel
theorem dX3_putLuck_30 : decode cX3_putLuck 30 = .ok (.lstore 4, 2) := by decide +kernel
theorem dX3_putLuck_32 : decode cX3_putLuck 32 = .ok (.lload_n 2, 1) := by decide +kernel
theorem dX3_putLuck_33 : decode cX3_putLuck 33 = .ok (.aload_n 0, 1) := by decide +kernel
theorem dX3_putLuck_34 : decode cX3_putLuck 34 = .ok (.getfield 18, 3) := by decide +kernel
theorem dX3_putLuck_37 : decode cX3_putLuck 37 = .ok (.iload 6, 2) := by decide +kernel
theorem dX3_putLuck_39 : decode cX3_putLuck 39 = .ok (.isub, 1) := by decide +kernel
theorem dX3_putLuck_40 : decode cX3_putLuck 40 = .ok (.i2l, 1) := by decide +kernel
theorem dX3_putLuck_41 : decode cX3_putLuck 41 = .ok (.lmul, 1) := by decide +kernel
theorem dX3_putLuck_42 : decode cX3_putLuck 42 = .ok (.iload 6, 2) := by decide +kernel
theorem dX3_putLuck_44 : decode cX3_putLuck 44 = .ok (.iconst 1, 1) := by decide +kernel
theorem dX3_putLuck_45 : decode cX3_putLuck 45 = .ok (.iadd, 1) := by decide +kernel
theorem dX3_putLuck_46 : decode cX3_putLuck 46 = .ok (.i2l, 1) := by decide +kernel
theorem dX3_putLuck_47 : decode cX3_putLuck 47 = .ok (.ldiv, 1) := by decide +kernel
theorem dX3_putLuck_48 : decode cX3_putLuck 48 = .ok (.lstore_n 2, 1) := by decide +kernel
theorem dX3_putLuck_49 : decode cX3_putLuck 49 = .ok (.iinc 6 1, 3) := by decide +kernel
theorem dX3_putLuck_52 : decode cX3_putLuck 52 = .ok (.goto (-44), 3) := by decide +kernel
theorem dX3_putLuck_55 : decode cX3_putLuck 55 = .ok (.aload_n 1, 1) := by decide +kernel
theorem dX3_putLuck_56 : decode cX3_putLuck 56 = .ok (.lload 4, 2) := by decide +kernel
theorem dX3_putLuck_58 : decode cX3_putLuck 58 = .ok (.lconst 1, 1) := by decide +kernel
theorem dX3_putLuck_59 : decode cX3_putLuck 59 = .ok (.aload_n 0, 1) := by decide +kernel
theorem dX3_putLuck_60 : decode cX3_putLuck 60 = .ok (.getfield 18, 3) := by decide +kernel
theorem dX3_putLuck_63 : decode cX3_putLuck 63 = .ok (.lshl, 1) := by decide +kernel
theorem dX3_putLuck_64 : decode cX3_putLuck 64 = .ok (.invokevirtual 61, 3) := by decide +kernel
theorem dX3_putLuck_67 : decode cX3_putLuck 67 = .ok (.return_, 1) := by decide +kernel
theorem dX4_init_0 : decode cX4_init 0 = .ok (.aload_n 0, 1) := by decide +kernel
theorem dX4_init_1 : decode cX4_init 1 = .ok (.invokespecial 3, 3) := by decide +kernel
theorem dX4_init_4 : decode cX4_init 4 = .ok (.aload_n 0, 1) := by decide +kernel
theorem dX4_init_5 : decode cX4_init 5 = .ok (.bipush 24, 2) := by decide +kernel
theorem dX4_init_7 : decode cX4_init 7 = .ok (.newarray .int, 2) := by decide +kernel
theorem dX4_init_9 : decode cX4_init 9 = .ok (.putfield 9, 3) := by decide +kernel
theorem dX4_init_12 : decode cX4_init 12 = .ok (.aload_n 0, 1) := by decide +kernel
theorem dX4_init_13 : decode cX4_init 13 = .ok (.iconst 0, 1) := by decide +kernel
theorem dX4_init_14 : decode cX4_init 14 = .ok (.putfield 15, 3) := by decide +kernel
theorem dX4_init_17 : decode cX4_init 17 = .ok (.aload_n 0, 1) := by decide +kernel
theorem dX4_init_18 : decode cX4_init 18 = .ok (.lconst 1, 1) := by decide +kernel
theorem dX4_init_19 : decode cX4_init 19 = .ok (.putfield 19, 3) := by decide +kernel
theorem dX4_init_22 : decode cX4_init 22 = .ok (.return_, 1) := by decide +kernel
theorem dX4_begin_0 : decode cX4_begin 0 = .ok (.aload_n 0, 1) := by decide +kernel
theorem dX4_begin_1 : decode cX4_begin 1 = .ok (.aload_n 1, 1) := by decide +kernel
theorem dX4_begin_2 : decode cX4_begin 2 = .ok (.getfield 23, 3) := by decide +kernel
theorem dX4_begin_5 : decode cX4_begin 5 = .ok (.putfield 15, 3) := by decide +kernel
theorem dX4_begin_8 : decode cX4_begin 8 = .ok (.aload_n 0, 1) := by decide +kernel
theorem dX4_begin_9 : decode cX4_begin 9 = .ok (.iload_n 2, 1) := by decide +kernel
theorem dX4_begin_10 : decode cX4_begin 10 = .ok (.i2l, 1) := by decide +kernel
theorem dX4_begin_11 : decode cX4_begin 11 = .ok (.putfield 19, 3) := by decide +kernel
theorem dX4_begin_14 : decode cX4_begin 14 = .ok (.iconst 0, 1) := by decide +kernel
theorem dX4_begin_15 : decode cX4_begin 15 = .ok (.istore_n 3, 1) := by decide +kernel
theorem dX4_begin_16 : decode cX4_begin 16 = .ok (.iload_n 3, 1) := by decide +kernel
theorem dX4_begin_17 : decode cX4_begin 17 = .ok (.aload_n 0, 1) := by decide +kernel
theorem dX4_begin_18 : decode cX4_begin 18 = .ok (.getfield 15, 3) := by decide +kernel
theorem dX4_begin_21 : decode cX4_begin 21 = .ok (.if_icmp .ge 21, 3) := by decide +kernel
theorem dX4_begin_24 : decode cX4_begin 24 = .ok (.aload_n 0, 1) := by decide +kernel
theorem dX4_begin_25 : decode cX4_begin 25 = .ok (.getfield 9, 3) := by decide +kernel
theorem dX4_begin_28 : decode cX4_begin 28 = .ok (.iload_n 3, 1) := by decide +kernel
theorem dX4_begin_29 : decode cX4_begin 29 = .ok (.aload_n 1, 1) := by decide +kernel
theorem dX4_begin_30 : decode cX4_begin 30 = .ok (.getfield 26, 3) := by decide +kernel
theorem dX4_begin_33 : decode cX4_begin 33 = .ok (.iload_n 3, 1) := by decide +kernel
theorem dX4_begin_34 : decode cX4_begin 34 = .ok (.iaload, 1) := by decide +kernel
theorem dX4_begin_35 : decode cX4_begin 35 = .ok (.iastore, 1) := by decide +kernel
theorem dX4_begin_36 : decode cX4_begin 36 = .ok (.iinc 3 1, 3) := by decide +kernel
theorem dX4_begin_39 : decode cX4_begin 39 = .ok (.goto (-23), 3) := by decide +kernel
theorem dX4_begin_42 : decode cX4_begin 42 = .ok (.return_, 1) := by decide +kernel
theorem dX4_draw_0 : decode cX4_draw 0 = .ok (.aload_n 0, 1) := by decide +kernel
theorem dX4_draw_1 : decode cX4_draw 1 = .ok (.getfield 15, 3) := by decide +kernel
theorem dX4_draw_4 : decode cX4_draw 4 = .ok (.iconst 1, 1) := by decide +kernel
theorem dX4_draw_5 : decode cX4_draw 5 = .ok (.isub, 1) := by decide +kernel
theorem dX4_draw_6 : decode cX4_draw 6 = .ok (.istore_n 1, 1) := by decide +kernel
theorem dX4_draw_7 : decode cX4_draw 7 = .ok (.iload_n 1, 1) := by decide +kernel
theorem dX4_draw_8 : decode cX4_draw 8 = .ok (.ifCond .le 40, 3) := by decide +kernel
theorem dX4_draw_11 : decode cX4_draw 11 = .ok (.aload_n 0, 1) := by decide +kernel
theorem dX4_draw_12 : decode cX4_draw 12 = .ok (.aload_n 0, 1) := by decide +kernel
theorem dX4_draw_13 : decode cX4_draw 13 = .ok (.getfield 19, 3) := by decide +kernel
theorem dX4_draw_16 : decode cX4_draw 16 = .ok (.ldc2_w 27, 3) := by decide +kernel
theorem dX4_draw_19 : decode cX4_draw 19 = .ok (.lmul, 1) := by decide +kernel
theorem dX4_draw_20 : decode cX4_draw 20 = .ok (.ldc2_w 29, 3) := by decide +kernel
theorem dX4_draw_23 : decode cX4_draw 23 = .ok (.lrem, 1) := by decide +kernel
theorem dX4_draw_24 : decode cX4_draw 24 = .ok (.putfield 19, 3) := by decide +kernel
theorem dX4_draw_27 : decode cX4_draw 27 = .ok (.aload_n 0, 1) := by decide +kernel
theorem dX4_draw_28 : decode cX4_draw 28 = .ok (.iload_n 1, 1) := by decide +kernel
theorem dX4_draw_29 : decode cX4_draw 29 = .ok (.aload_n 0, 1) := by decide +kernel
theorem dX4_draw_30 : decode cX4_draw 30 = .ok (.getfield 19, 3) := by decide +kernel
theorem dX4_draw_33 : decode cX4_draw 33 = .ok (.iload_n 1, 1) := by decide +kernel
theorem dX4_draw_34 : decode cX4_draw 34 = .ok (.iconst 1, 1) := by decide +kernel
theorem dX4_draw_35 : decode cX4_draw 35 = .ok (.iadd, 1) := by decide +kernel
theorem dX4_draw_36 : decode cX4_draw 36 = .ok (.i2l, 1) := by decide +kernel
theorem dX4_draw_37 : decode cX4_draw 37 = .ok (.lrem, 1) := by decide +kernel
theorem dX4_draw_38 : decode cX4_draw 38 = .ok (.l2i, 1) := by decide +kernel
theorem dX4_draw_39 : decode cX4_draw 39 = .ok (.invokevirtual 31, 3) := by decide +kernel
theorem dX4_draw_42 : decode cX4_draw 42 = .ok (.iinc 1 (-1), 3) := by decide +kernel
theorem dX4_draw_45 : decode cX4_draw 45 = .ok (.goto (-38), 3) := by decide +kernel
theorem dX4_draw_48 : decode cX4_draw 48 = .ok (.return_, 1) := by decide +kernel
theorem dX4_sort_0 : decode cX4_sort 0 = .ok (.iconst 1, 1) := by decide +kernel
theorem dX4_sort_1 : decode cX4_sort 1 = .ok (.istore_n 1, 1) := by decide +kernel
theorem dX4_sort_2 : decode cX4_sort 2 = .ok (.iload_n 1, 1) := by decide +kernel
theorem dX4_sort_3 : decode cX4_sort 3 = .ok (.aload_n 0, 1) := by decide +kernel
theorem dX4_sort_4 : decode cX4_sort 4 = .ok (.getfield 15, 3) := by decide +kernel
theorem dX4_sort_7 : decode cX4_sort 7 = .ok (.if_icmp .ge 46, 3) := by decide +kernel
theorem dX4_sort_10 : decode cX4_sort 10 = .ok (.iload_n 1, 1) := by decide +kernel
theorem dX4_sort_11 : decode cX4_sort 11 = .ok (.istore_n 2, 1) := by decide +kernel
theorem dX4_sort_12 : decode cX4_sort 12 = .ok (.iload_n 2, 1) := by decide +kernel
theorem dX4_sort_13 : decode cX4_sort 13 = .ok (.ifCond .le 34, 3) := by decide +kernel
theorem dX4_sort_16 : decode cX4_sort 16 = .ok (.aload_n 0, 1) := by decide +kernel
theorem dX4_sort_17 : decode cX4_sort 17 = .ok (.getfield 9, 3) := by decide +kernel
theorem dX4_sort_20 : decode cX4_sort 20 = .ok (.iload_n 2, 1) := by decide +kernel
theorem dX4_sort_21 : decode cX4_sort 21 = .ok (.iconst 1, 1) := by decide +kernel
theorem dX4_sort_22 : decode cX4_sort 22 = .ok (.isub, 1) := by decide +kernel
theorem dX4_sort_23 : decode cX4_sort 23 = .ok (.iaload, 1) := by decide +kernel
theorem dX4_sort_24 : decode cX4_sort 24 = .ok (.aload_n 0, 1) := by decide +kernel
theorem dX4_sort_25 : decode cX4_sort 25 = .ok (.getfield 9, 3) := by decide +kernel
theorem dX4_sort_28 : decode cX4_sort 28 = .ok (.iload_n 2, 1) := by decide +kernel
theorem dX4_sort_29 : decode cX4_sort 29 = .ok (.iaload, 1) := by decide +kernel
theorem dX4_sort_30 : decode cX4_sort 30 = .ok (.if_icmp .le 17, 3) := by decide +kernel
theorem dX4_sort_33 : decode cX4_sort 33 = .ok (.aload_n 0, 1) := by decide +kernel
theorem dX4_sort_34 : decode cX4_sort 34 = .ok (.iload_n 2, 1) := by decide +kernel
theorem dX4_sort_35 : decode cX4_sort 35 = .ok (.iconst 1, 1) := by decide +kernel
theorem dX4_sort_36 : decode cX4_sort 36 = .ok (.isub, 1) := by decide +kernel
theorem dX4_sort_37 : decode cX4_sort 37 = .ok (.iload_n 2, 1) := by decide +kernel
theorem dX4_sort_38 : decode cX4_sort 38 = .ok (.invokevirtual 31, 3) := by decide +kernel
theorem dX4_sort_41 : decode cX4_sort 41 = .ok (.iinc 2 (-1), 3) := by decide +kernel
theorem dX4_sort_44 : decode cX4_sort 44 = .ok (.goto (-32), 3) := by decide +kernel
theorem dX4_sort_47 : decode cX4_sort 47 = .ok (.iinc 1 1, 3) := by decide +kernel
theorem dX4_sort_50 : decode cX4_sort 50 = .ok (.goto (-48), 3) := by decide +kernel
theorem dX4_sort_53 : decode cX4_sort 53 = .ok (.return_, 1) := by decide +kernel
theorem dX4_next_0 : decode cX4_next 0 = .ok (.aload_n 0, 1) := by decide +kernel
theorem dX4_next_1 : decode cX4_next 1 = .ok (.getfield 15, 3) := by decide +kernel
theorem dX4_next_4 : decode cX4_next 4 = .ok (.iconst 2, 1) := by decide +kernel
theorem dX4_next_5 : decode cX4_next 5 = .ok (.isub, 1) := by decide +kernel
theorem dX4_next_6 : decode cX4_next 6 = .ok (.istore_n 1, 1) := by decide +kernel
theorem dX4_next_7 : decode cX4_next 7 = .ok (.iload_n 1, 1) := by decide +kernel
theorem dX4_next_8 : decode cX4_next 8 = .ok (.ifCond .lt 26, 3) := by decide +kernel
theorem dX4_next_11 : decode cX4_next 11 = .ok (.aload_n 0, 1) := by decide +kernel
theorem dX4_next_12 : decode cX4_next 12 = .ok (.getfield 9, 3) := by decide +kernel
theorem dX4_next_15 : decode cX4_next 15 = .ok (.iload_n 1, 1) := by decide +kernel
theorem dX4_next_16 : decode cX4_next 16 = .ok (.iaload, 1) := by decide +kernel
theorem dX4_next_17 : decode cX4_next 17 = .ok (.aload_n 0, 1) := by decide +kernel
theorem dX4_next_18 : decode cX4_next 18 = .ok (.getfield 9, 3) := by decide +kernel
theorem dX4_next_21 : decode cX4_next 21 = .ok (.iload_n 1, 1) := by decide +kernel
theorem dX4_next_22 : decode cX4_next 22 = .ok (.iconst 1, 1) := by decide +kernel
theorem dX4_next_23 : decode cX4_next 23 = .ok (.iadd, 1) := by decide +kernel
theorem dX4_next_24 : decode cX4_next 24 = .ok (.iaload, 1) := by decide +kernel
theorem dX4_next_25 : decode cX4_next 25 = .ok (.if_icmp .lt 9, 3) := by decide +kernel
theorem dX4_next_28 : decode cX4_next 28 = .ok (.iinc 1 (-1), 3) := by decide +kernel
theorem dX4_next_31 : decode cX4_next 31 = .ok (.goto (-24), 3) := by decide +kernel
theorem dX4_next_34 : decode cX4_next 34 = .ok (.iload_n 1, 1) := by decide +kernel
theorem dX4_next_35 : decode cX4_next 35 = .ok (.ifCond .ge 5, 3) := by decide +kernel
theorem dX4_next_38 : decode cX4_next 38 = .ok (.iconst 0, 1) := by decide +kernel
theorem dX4_next_39 : decode cX4_next 39 = .ok (.ireturn, 1) := by decide +kernel
theorem dX4_next_40 : decode cX4_next 40 = .ok (.aload_n 0, 1) := by decide +kernel
theorem dX4_next_41 : decode cX4_next 41 = .ok (.getfield 15, 3) := by decide +kernel
theorem dX4_next_44 : decode cX4_next 44 = .ok (.iconst 1, 1) := by decide +kernel
theorem dX4_next_45 : decode cX4_next 45 = .ok (.isub, 1) := by decide +kernel
theorem dX4_next_46 : decode cX4_next 46 = .ok (.istore_n 2, 1) := by decide +kernel
theorem dX4_next_47 : decode cX4_next 47 = .ok (.iload_n 2, 1) := by decide +kernel
theorem dX4_next_48 : decode cX4_next 48 = .ok (.iload_n 1, 1) := by decide +kernel
theorem dX4_next_49 : decode cX4_next 49 = .ok (.if_icmp .le 24, 3) := by decide +kernel
theorem dX4_next_52 : decode cX4_next 52 = .ok (.aload_n 0, 1) := by decide +kernel
theorem dX4_next_53 : decode cX4_next 53 = .ok (.getfield 9, 3) := by decide +kernel
theorem dX4_next_56 : decode cX4_next 56 = .ok (.iload_n 2, 1) := by decide +kernel
theorem dX4_next_57 : decode cX4_next 57 = .ok (.iaload, 1) := by decide +kernel
theorem dX4_next_58 : decode cX4_next 58 = .ok (.aload_n 0, 1) := by decide +kernel
theorem dX4_next_59 : decode cX4_next 59 = .ok (.getfield 9, 3) := by decide +kernel
theorem dX4_next_62 : decode cX4_next 62 = .ok (.iload_n 1, 1) := by decide +kernel
theorem dX4_next_63 : decode cX4_next 63 = .ok (.iaload, 1) := by decide +kernel
theorem dX4_next_64 : decode cX4_next 64 = .ok (.if_icmp .gt 9, 3) := by decide +kernel
theorem dX4_next_67 : decode cX4_next 67 = .ok (.iinc 2 (-1), 3) := by decide +kernel
theorem dX4_next_70 : decode cX4_next 70 = .ok (.goto (-23), 3) := by decide +kernel
theorem dX4_next_73 : decode cX4_next 73 = .ok (.aload_n 0, 1) := by decide +kernel
theorem dX4_next_74 : decode cX4_next 74 = .ok (.iload_n 1, 1) := by decide +kernel
theorem dX4_next_75 : decode cX4_next 75 = .ok (.iload_n 2, 1) := by decide +kernel
theorem dX4_next_76 : decode cX4_next 76 = .ok (.invokevirtual 31, 3) := by decide +kernel
theorem dX4_next_79 : decode cX4_next 79 = .ok (.iload_n 1, 1) := by decide +kernel
theorem dX4_next_80 : decode cX4_next 80 = .ok (.iconst 1, 1) := by decide +kernel
theorem dX4_next_81 : decode cX4_next 81 = .ok (.iadd, 1) := by decide +kernel
theorem dX4_next_82 : decode cX4_next 82 = .ok (.istore_n 3, 1) := by decide +kernel
theorem dX4_next_83 : decode cX4_next 83 = .ok (.aload_n 0, 1) := by decide +kernel
theorem dX4_next_84 : decode cX4_next 84 = .ok (.getfield 15, 3) := by decide +kernel
theorem dX4_next_87 : decode cX4_next 87 = .ok (.iconst 1, 1) := by decide +kernel
theorem dX4_next_88 : decode cX4_next 88 = .ok (.isub, 1) := by decide +kernel
theorem dX4_next_89 : decode cX4_next 89 = .ok (.istore 4, 2) := by decide +kernel
theorem dX4_next_91 : decode cX4_next 91 = .ok (.iload_n 3, 1) := by decide +kernel
theorem dX4_next_92 : decode cX4_next 92 = .ok (.iload 4, 2) := by decide +kernel
theorem dX4_next_94 : decode cX4_next 94 = .ok (.if_icmp .ge 19, 3) := by decide +kernel
theorem dX4_next_97 : decode cX4_next 97 = .ok (.aload_n 0, 1) := by decide +kernel
theorem dX4_next_98 : decode cX4_next 98 = .ok (.iload_n 3, 1) := by decide +kernel
theorem dX4_next_99 : decode cX4_next 99 = .ok (.iload 4, 2) := by decide +kernel
theorem dX4_next_101 : decode cX4_next 101 = .ok (.invokevirtual 31, 3) := by decide +kernel
theorem dX4_next_104 : decode cX4_next 104 = .ok (.iinc 3 1, 3) := by decide +kernel
theorem dX4_next_107 : decode cX4_next 107 = .ok (.iinc 4 (-1), 3) := by decide +kernel
theorem dX4_next_110 : decode cX4_next 110 = .ok (.goto (-19), 3) := by decide +kernel
theorem dX4_next_113 : decode cX4_next 113 = .ok (.iconst 1, 1) := by decide +kernel
theorem dX4_next_114 : decode cX4_next 114 = .ok (.ireturn, 1) := by decide +kernel
theorem dX4_swap_0 : decode cX4_swap 0 = .ok (.aload_n 0, 1) := by decide +kernel
theorem dX4_swap_1 : decode cX4_swap 1 = .ok (.getfield 9, 3) := by decide +kernel
theorem dX4_swap_4 : decode cX4_swap 4 = .ok (.iload_n 1, 1) := by decide +kernel
theorem dX4_swap_5 : decode cX4_swap 5 = .ok (.iaload, 1) := by decide +kernel
theorem dX4_swap_6 : decode cX4_swap 6 = .ok (.istore_n 3, 1) := by decide +kernel
theorem dX4_swap_7 : decode cX4_swap 7 = .ok (.aload_n 0, 1) := by decide +kernel
theorem dX4_swap_8 : decode cX4_swap 8 = .ok (.getfield 9, 3) := by decide +kernel
theorem dX4_swap_11 : decode cX4_swap 11 = .ok (.iload_n 1, 1) := by decide +kernel
theorem dX4_swap_12 : decode cX4_swap 12 = .ok (.aload_n 0, 1) := by decide +kernel
theorem dX4_swap_13 : decode cX4_swap 13 = .ok (.getfield 9, 3) := by decide +kernel
theorem dX4_swap_16 : decode cX4_swap 16 = .ok (.iload_n 2, 1) := by decide +kernel
theorem dX4_swap_17 : decode cX4_swap 17 = .ok (.iaload, 1) := by decide +kernel
theorem dX4_swap_18 : decode cX4_swap 18 = .ok (.iastore, 1) := by decide +kernel
theorem dX4_swap_19 : decode cX4_swap 19 = .ok (.aload_n 0, 1) := by decide +kernel
theorem dX4_swap_20 : decode cX4_swap 20 = .ok (.getfield 9, 3) := by decide +kernel
theorem dX4_swap_23 : decode cX4_swap 23 = .ok (.iload_n 2, 1) := by decide +kernel
theorem dX4_swap_24 : decode cX4_swap 24 = .ok (.iload_n 3, 1) := by decide +kernel
theorem dX4_swap_25 : decode cX4_swap 25 = .ok (.iastore, 1) := by decide +kernel
theorem dX4_swap_26 : decode cX4_swap 26 = .ok (.return_, 1) := by decide +kernel
theorem dX5_init_0 : decode cX5_init 0 = .ok (.aload_n 0, 1) := by decide +kernel
theorem dX5_init_1 : decode cX5_init 1 = .ok (.invokespecial 3, 3) := by decide +kernel
theorem dX5_init_4 : decode cX5_init 4 = .ok (.aload_n 0, 1) := by decide +kernel
theorem dX5_init_5 : decode cX5_init 5 = .ok (.bipush 20, 2) := by decide +kernel
theorem dX5_init_7 : decode cX5_init 7 = .ok (.newarray .int, 2) := by decide +kernel
theorem dX5_init_9 : decode cX5_init 9 = .ok (.putfield 9, 3) := by decide +kernel
theorem dX5_init_12 : decode cX5_init 12 = .ok (.aload_n 0, 1) := by decide +kernel
theorem dX5_init_13 : decode cX5_init 13 = .ok (.iconst 0, 1) := by decide +kernel
theorem dX5_init_14 : decode cX5_init 14 = .ok (.putfield 15, 3) := by decide +kernel
theorem dX5_init_17 : decode cX5_init 17 = .ok (.return_, 1) := by decide +kernel
theorem dX5_isFull_0 : decode cX5_isFull 0 = .ok (.aload_n 0, 1) := by decide +kernel
theorem dX5_isFull_1 : decode cX5_isFull 1 = .ok (.getfield 15, 3) := by decide +kernel
theorem dX5_isFull_4 : decode cX5_isFull 4 = .ok (.bipush 20, 2) := by decide +kernel
theorem dX5_isFull_6 : decode cX5_isFull 6 = .ok (.if_icmp .lt 7, 3) := by decide +kernel
theorem dX5_isFull_9 : decode cX5_isFull 9 = .ok (.iconst 1, 1) := by decide +kernel
theorem dX5_isFull_10 : decode cX5_isFull 10 = .ok (.goto 4, 3) := by decide +kernel
theorem dX5_isFull_13 : decode cX5_isFull 13 = .ok (.iconst 0, 1) := by decide +kernel
theorem dX5_isFull_14 : decode cX5_isFull 14 = .ok (.ireturn, 1) := by decide +kernel
theorem dX5_add_0 : decode cX5_add 0 = .ok (.aload_n 0, 1) := by decide +kernel
theorem dX5_add_1 : decode cX5_add 1 = .ok (.invokevirtual 19, 3) := by decide +kernel
theorem dX5_add_4 : decode cX5_add 4 = .ok (.ifCond .ne 23, 3) := by decide +kernel
theorem dX5_add_7 : decode cX5_add 7 = .ok (.aload_n 0, 1) := by decide +kernel
theorem dX5_add_8 : decode cX5_add 8 = .ok (.getfield 9, 3) := by decide +kernel
theorem dX5_add_11 : decode cX5_add 11 = .ok (.aload_n 0, 1) := by decide +kernel
theorem dX5_add_12 : decode cX5_add 12 = .ok (.getfield 15, 3) := by decide +kernel
theorem dX5_add_15 : decode cX5_add 15 = .ok (.iload_n 1, 1) := by decide +kernel
theorem dX5_add_16 : decode cX5_add 16 = .ok (.iastore, 1) := by decide +kernel
theorem dX5_add_17 : decode cX5_add 17 = .ok (.aload_n 0, 1) := by decide +kernel
theorem dX5_add_18 : decode cX5_add 18 = .ok (.dup, 1) := by decide +kernel
theorem dX5_add_19 : decode cX5_add 19 = .ok (.getfield 15, 3) := by decide +kernel
theorem dX5_add_22 : decode cX5_add 22 = .ok (.iconst 1, 1) := by decide +kernel
theorem dX5_add_23 : decode cX5_add 23 = .ok (.iadd, 1) := by decide +kernel
theorem dX5_add_24 : decode cX5_add 24 = .ok (.putfield 15, 3) := by decide +kernel
theorem dX5_add_27 : decode cX5_add 27 = .ok (.return_, 1) := by decide +kernel
theorem dX5_clear_0 : decode cX5_clear 0 = .ok (.aload_n 0, 1) := by decide +kernel
theorem dX5_clear_1 : decode cX5_clear 1 = .ok (.iconst 0, 1) := by decide +kernel
theorem dX5_clear_2 : decode cX5_clear 2 = .ok (.putfield 15, 3) := by decide +kernel
theorem dX5_clear_5 : decode cX5_clear 5 = .ok (.return_, 1) := by decide +kernel
theorem dX5_firstFault_0 : decode cX5_firstFault 0 = .ok (.iconst 0, 1) := by decide +kernel
theorem dX5_firstFault_1 : decode cX5_firstFault 1 = .ok (.istore_n 1, 1) := by decide +kernel
theorem dX5_firstFault_2 : decode cX5_firstFault 2 = .ok (.iload_n 1, 1) := by decide +kernel
theorem dX5_firstFault_3 : decode cX5_firstFault 3 = .ok (.aload_n 0, 1) := by decide +kernel
theorem dX5_firstFault_4 : decode cX5_firstFault 4 = .ok (.getfield 15, 3) := by decide +kernel
theorem dX5_firstFault_7 : decode cX5_firstFault 7 = .ok (.if_icmp .ge 71, 3) := by decide +kernel
theorem dX5_firstFault_10 : decode cX5_firstFault 10 = .ok (.aload_n 0, 1) := by decide +kernel
theorem dX5_firstFault_11 : decode cX5_firstFault 11 = .ok (.getfield 9, 3) := by decide +kernel
theorem dX5_firstFault_14 : decode cX5_firstFault 14 = .ok (.iload_n 1, 1) := by decide +kernel
theorem dX5_firstFault_15 : decode cX5_firstFault 15 = .ok (.iaload, 1) := by decide +kernel
theorem dX5_firstFault_16 : decode cX5_firstFault 16 = .ok (.invokestatic 23, 3) := by decide +kernel
theorem dX5_firstFault_19 : decode cX5_firstFault 19 = .ok (.istore_n 2, 1) := by decide +kernel
theorem dX5_firstFault_20 : decode cX5_firstFault 20 = .ok (.iload_n 2, 1) := by decide +kernel
theorem dX5_firstFault_21 : decode cX5_firstFault 21 = .ok (.bipush (-6), 2) := by decide +kernel
theorem dX5_firstFault_23 : decode cX5_firstFault 23 = .ok (.if_icmp .ne 5, 3) := by decide +kernel
theorem dX5_firstFault_26 : decode cX5_firstFault 26 = .ok (.iload_n 1, 1) := by decide +kernel
theorem dX5_firstFault_27 : decode cX5_firstFault 27 = .ok (.ireturn, 1) := by decide +kernel
theorem dX5_firstFault_28 : decode cX5_firstFault 28 = .ok (.iconst 1, 1) := by decide +kernel
theorem dX5_firstFault_29 : decode cX5_firstFault 29 = .ok (.istore_n 3, 1) := by decide +kernel
theorem dX5_firstFault_30 : decode cX5_firstFault 30 = .ok (.iload_n 3, 1) := by decide +kernel
theorem dX5_firstFault_31 : decode cX5_firstFault 31 = .ok (.iload_n 2, 1) := by decide +kernel
theorem dX5_firstFault_32 : decode cX5_firstFault 32 = .ok (.if_icmp .gt 37, 3) := by decide +kernel
theorem dX5_firstFault_35 : decode cX5_firstFault 35 = .ok (.iload_n 1, 1) := by decide +kernel
theorem dX5_firstFault_36 : decode cX5_firstFault 36 = .ok (.iload_n 3, 1) := by decide +kernel
theorem dX5_firstFault_37 : decode cX5_firstFault 37 = .ok (.iadd, 1) := by decide +kernel
theorem dX5_firstFault_38 : decode cX5_firstFault 38 = .ok (.aload_n 0, 1) := by decide +kernel
theorem dX5_firstFault_39 : decode cX5_firstFault 39 = .ok (.getfield 15, 3) := by decide +kernel
theorem dX5_firstFault_42 : decode cX5_firstFault 42 = .ok (.if_icmp .lt 8, 3) := by decide +kernel
theorem dX5_firstFault_45 : decode cX5_firstFault 45 = .ok (.aload_n 0, 1) := by decide +kernel
theorem dX5_firstFault_46 : decode cX5_firstFault 46 = .ok (.getfield 15, 3) := by decide +kernel
theorem dX5_firstFault_49 : decode cX5_firstFault 49 = .ok (.ireturn, 1) := by decide +kernel
theorem dX5_firstFault_50 : decode cX5_firstFault 50 = .ok (.aload_n 0, 1) := by decide +kernel
theorem dX5_firstFault_51 : decode cX5_firstFault 51 = .ok (.iload_n 1, 1) := by decide +kernel
theorem dX5_firstFault_52 : decode cX5_firstFault 52 = .ok (.iload_n 3, 1) := by decide +kernel
theorem dX5_firstFault_53 : decode cX5_firstFault 53 = .ok (.invokevirtual 27, 3) := by decide +kernel
theorem dX5_firstFault_56 : decode cX5_firstFault 56 = .ok (.ifCond .ne 7, 3) := by decide +kernel
theorem dX5_firstFault_59 : decode cX5_firstFault 59 = .ok (.iload_n 1, 1) := by decide +kernel
theorem dX5_firstFault_60 : decode cX5_firstFault 60 = .ok (.iload_n 3, 1) := by decide +kernel
theorem dX5_firstFault_61 : decode cX5_firstFault 61 = .ok (.iadd, 1) := by decide +kernel
theorem dX5_firstFault_62 : decode cX5_firstFault 62 = .ok (.ireturn, 1) := by decide +kernel
theorem dX5_firstFault_63 : decode cX5_firstFault 63 = .ok (.iinc 3 1, 3) := by decide +kernel
theorem dX5_firstFault_66 : decode cX5_firstFault 66 = .ok (.goto (-36), 3) := by decide +kernel
theorem dX5_firstFault_69 : decode cX5_firstFault 69 = .ok (.iload_n 1, 1) := by decide +kernel
theorem dX5_firstFault_70 : decode cX5_firstFault 70 = .ok (.iconst 1, 1) := by decide +kernel
theorem dX5_firstFault_71 : decode cX5_firstFault 71 = .ok (.iload_n 2, 1) := by decide +kernel
theorem dX5_firstFault_72 : decode cX5_firstFault 72 = .ok (.iadd, 1) := by decide +kernel
theorem dX5_firstFault_73 : decode cX5_firstFault 73 = .ok (.iadd, 1) := by decide +kernel
theorem dX5_firstFault_74 : decode cX5_firstFault 74 = .ok (.istore_n 1, 1) := by decide +kernel
theorem dX5_firstFault_75 : decode cX5_firstFault 75 = .ok (.goto (-73), 3) := by decide +kernel
theorem dX5_firstFault_78 : decode cX5_firstFault 78 = .ok (.bipush (-6), 2) := by decide +kernel
theorem dX5_firstFault_80 : decode cX5_firstFault 80 = .ok (.ireturn, 1) := by decide +kernel
theorem dX5_deal_0 : decode cX5_deal 0 = .ok (.iconst 0, 1) := by decide +kernel
theorem dX5_deal_1 : decode cX5_deal 1 = .ok (.istore_n 3, 1) := by decide +kernel
theorem dX5_deal_2 : decode cX5_deal 2 = .ok (.iload_n 3, 1) := by decide +kernel
theorem dX5_deal_3 : decode cX5_deal 3 = .ok (.bipush 24, 2) := by decide +kernel
theorem dX5_deal_5 : decode cX5_deal 5 = .ok (.if_icmp .ge 15, 3) := by decide +kernel
theorem dX5_deal_8 : decode cX5_deal 8 = .ok (.aload_n 2, 1) := by decide +kernel
theorem dX5_deal_9 : decode cX5_deal 9 = .ok (.iload_n 3, 1) := by decide +kernel
theorem dX5_deal_10 : decode cX5_deal 10 = .ok (.aload_n 1, 1) := by decide +kernel
theorem dX5_deal_11 : decode cX5_deal 11 = .ok (.iload_n 3, 1) := by decide +kernel
theorem dX5_deal_12 : decode cX5_deal 12 = .ok (.iaload, 1) := by decide +kernel
theorem dX5_deal_13 : decode cX5_deal 13 = .ok (.iastore, 1) := by decide +kernel
theorem dX5_deal_14 : decode cX5_deal 14 = .ok (.iinc 3 1, 3) := by decide +kernel
theorem dX5_deal_17 : decode cX5_deal 17 = .ok (.goto (-15), 3) := by decide +kernel
theorem dX5_deal_20 : decode cX5_deal 20 = .ok (.iconst 0, 1) := by decide +kernel
theorem dX5_deal_21 : decode cX5_deal 21 = .ok (.istore_n 3, 1) := by decide +kernel
theorem dX5_deal_22 : decode cX5_deal 22 = .ok (.iload_n 3, 1) := by decide +kernel
theorem dX5_deal_23 : decode cX5_deal 23 = .ok (.aload_n 0, 1) := by decide +kernel
theorem dX5_deal_24 : decode cX5_deal 24 = .ok (.getfield 15, 3) := by decide +kernel
theorem dX5_deal_27 : decode cX5_deal 27 = .ok (.if_icmp .ge 30, 3) := by decide +kernel
theorem dX5_deal_30 : decode cX5_deal 30 = .ok (.aload_n 0, 1) := by decide +kernel
theorem dX5_deal_31 : decode cX5_deal 31 = .ok (.iload_n 3, 1) := by decide +kernel
theorem dX5_deal_32 : decode cX5_deal 32 = .ok (.aload_n 2, 1) := by decide +kernel
theorem dX5_deal_33 : decode cX5_deal 33 = .ok (.invokevirtual 31, 3) := by decide +kernel
theorem dX5_deal_36 : decode cX5_deal 36 = .ok (.iload_n 3, 1) := by decide +kernel
theorem dX5_deal_37 : decode cX5_deal 37 = .ok (.iconst 1, 1) := by decide +kernel
theorem dX5_deal_38 : decode cX5_deal 38 = .ok (.iconst 0, 1) := by decide +kernel
theorem dX5_deal_39 : decode cX5_deal 39 = .ok (.aload_n 0, 1) := by decide +kernel
theorem dX5_deal_40 : decode cX5_deal 40 = .ok (.getfield 9, 3) := by decide +kernel
theorem dX5_deal_43 : decode cX5_deal 43 = .ok (.iload_n 3, 1) := by decide +kernel
theorem dX5_deal_44 : decode cX5_deal 44 = .ok (.iaload, 1) := by decide +kernel
theorem dX5_deal_45 : decode cX5_deal 45 = .ok (.invokestatic 23, 3) := by decide +kernel
theorem dX5_deal_48 : decode cX5_deal 48 = .ok (.invokestatic 35, 3) := by decide +kernel
theorem dX5_deal_51 : decode cX5_deal 51 = .ok (.iadd, 1) := by decide +kernel
theorem dX5_deal_52 : decode cX5_deal 52 = .ok (.iadd, 1) := by decide +kernel
theorem dX5_deal_53 : decode cX5_deal 53 = .ok (.istore_n 3, 1) := by decide +kernel
theorem dX5_deal_54 : decode cX5_deal 54 = .ok (.goto (-32), 3) := by decide +kernel
theorem dX5_deal_57 : decode cX5_deal 57 = .ok (.return_, 1) := by decide +kernel
theorem dX5_work_0 : decode cX5_work 0 = .ok (.aload_n 0, 1) := by decide +kernel
theorem dX5_work_1 : decode cX5_work 1 = .ok (.getfield 9, 3) := by decide +kernel
theorem dX5_work_4 : decode cX5_work 4 = .ok (.iload_n 1, 1) := by decide +kernel
theorem dX5_work_5 : decode cX5_work 5 = .ok (.iaload, 1) := by decide +kernel
theorem dX5_work_6 : decode cX5_work 6 = .ok (.lookupswitch 120 #[(99, 92), (100, 113), (108, 64), (115, 50), (116, 78)], 50) := by decide +kernel
theorem dX5_work_56 : decode cX5_work 56 = .ok (.aload_n 2, 1) := by decide +kernel
theorem dX5_work_57 : decode cX5_work 57 = .ok (.aload_n 0, 1) := by decide +kernel
theorem dX5_work_58 : decode cX5_work 58 = .ok (.iload_n 1, 1) := by decide +kernel
theorem dX5_work_59 : decode cX5_work 59 = .ok (.iconst 1, 1) := by decide +kernel
theorem dX5_work_60 : decode cX5_work 60 = .ok (.iadd, 1) := by decide +kernel
theorem dX5_work_61 : decode cX5_work 61 = .ok (.invokevirtual 41, 3) := by decide +kernel
theorem dX5_work_64 : decode cX5_work 64 = .ok (.invokestatic 44, 3) := by decide +kernel
theorem dX5_work_67 : decode cX5_work 67 = .ok (.goto 59, 3) := by decide +kernel
theorem dX5_work_70 : decode cX5_work 70 = .ok (.aload_n 2, 1) := by decide +kernel
theorem dX5_work_71 : decode cX5_work 71 = .ok (.aload_n 0, 1) := by decide +kernel
theorem dX5_work_72 : decode cX5_work 72 = .ok (.iload_n 1, 1) := by decide +kernel
theorem dX5_work_73 : decode cX5_work 73 = .ok (.iconst 1, 1) := by decide +kernel
theorem dX5_work_74 : decode cX5_work 74 = .ok (.iadd, 1) := by decide +kernel
theorem dX5_work_75 : decode cX5_work 75 = .ok (.invokevirtual 41, 3) := by decide +kernel
theorem dX5_work_78 : decode cX5_work 78 = .ok (.invokestatic 48, 3) := by decide +kernel
theorem dX5_work_81 : decode cX5_work 81 = .ok (.goto 45, 3) := by decide +kernel
theorem dX5_work_84 : decode cX5_work 84 = .ok (.aload_n 2, 1) := by decide +kernel
theorem dX5_work_85 : decode cX5_work 85 = .ok (.aload_n 0, 1) := by decide +kernel
theorem dX5_work_86 : decode cX5_work 86 = .ok (.iload_n 1, 1) := by decide +kernel
theorem dX5_work_87 : decode cX5_work 87 = .ok (.iconst 1, 1) := by decide +kernel
theorem dX5_work_88 : decode cX5_work 88 = .ok (.iadd, 1) := by decide +kernel
theorem dX5_work_89 : decode cX5_work 89 = .ok (.invokevirtual 51, 3) := by decide +kernel
theorem dX5_work_92 : decode cX5_work 92 = .ok (.invokestatic 54, 3) := by decide +kernel
theorem dX5_work_95 : decode cX5_work 95 = .ok (.goto 31, 3) := by decide +kernel
theorem dX5_work_98 : decode cX5_work 98 = .ok (.aload_n 2, 1) := by decide +kernel
theorem dX5_work_99 : decode cX5_work 99 = .ok (.aload_n 0, 1) := by decide +kernel
theorem dX5_work_100 : decode cX5_work 100 = .ok (.iload_n 1, 1) := by decide +kernel
theorem dX5_work_101 : decode cX5_work 101 = .ok (.iconst 1, 1) := by decide +kernel
theorem dX5_work_102 : decode cX5_work 102 = .ok (.iadd, 1) := by decide +kernel
theorem dX5_work_103 : decode cX5_work 103 = .ok (.invokevirtual 51, 3) := by decide +kernel
theorem dX5_work_106 : decode cX5_work 106 = .ok (.aload_n 0, 1) := by decide +kernel
theorem dX5_work_107 : decode cX5_work 107 = .ok (.iload_n 1, 1) := by decide +kernel
theorem dX5_work_108 : decode cX5_work 108 = .ok (.iconst 3, 1) := by decide +kernel
theorem dX5_work_109 : decode cX5_work 109 = .ok (.iadd, 1) := by decide +kernel
theorem dX5_work_110 : decode cX5_work 110 = .ok (.invokevirtual 51, 3) := by decide +kernel
theorem dX5_work_113 : decode cX5_work 113 = .ok (.invokestatic 57, 3) := by decide +kernel
theorem dX5_work_116 : decode cX5_work 116 = .ok (.goto 10, 3) := by decide +kernel
theorem dX5_work_119 : decode cX5_work 119 = .ok (.aload_n 2, 1) := by decide +kernel
theorem dX5_work_120 : decode cX5_work 120 = .ok (.invokestatic 61, 3) := by decide +kernel
theorem dX5_work_123 : decode cX5_work 123 = .ok (.goto 3, 3) := by decide +kernel
theorem dX5_work_126 : decode cX5_work 126 = .ok (.return_, 1) := by decide +kernel
theorem dX5_digitsBehind_0 : decode cX5_digitsBehind 0 = .ok (.iload_n 0, 1) := by decide +kernel
theorem dX5_digitsBehind_1 : decode cX5_digitsBehind 1 = .ok (.lookupswitch 59 #[(99, 57), (100, 51), (108, 53), (115, 53), (116, 55)], 51) := by decide +kernel
theorem dX5_digitsBehind_52 : decode cX5_digitsBehind 52 = .ok (.iconst 0, 1) := by decide +kernel
theorem dX5_digitsBehind_53 : decode cX5_digitsBehind 53 = .ok (.ireturn, 1) := by decide +kernel
theorem dX5_digitsBehind_54 : decode cX5_digitsBehind 54 = .ok (.iconst 1, 1) := by decide +kernel
theorem dX5_digitsBehind_55 : decode cX5_digitsBehind 55 = .ok (.ireturn, 1) := by decide +kernel
theorem dX5_digitsBehind_56 : decode cX5_digitsBehind 56 = .ok (.iconst 2, 1) := by decide +kernel
theorem dX5_digitsBehind_57 : decode cX5_digitsBehind 57 = .ok (.ireturn, 1) := by decide +kernel
theorem dX5_digitsBehind_58 : decode cX5_digitsBehind 58 = .ok (.iconst 4, 1) := by decide +kernel
theorem dX5_digitsBehind_59 : decode cX5_digitsBehind 59 = .ok (.ireturn, 1) := by decide +kernel
theorem dX5_digitsBehind_60 : decode cX5_digitsBehind 60 = .ok (.bipush (-6), 2) := by decide +kernel
theorem dX5_digitsBehind_62 : decode cX5_digitsBehind 62 = .ok (.ireturn, 1) := by decide +kernel
theorem dX5_digitAt_0 : decode cX5_digitAt 0 = .ok (.iload_n 1, 1) := by decide +kernel
theorem dX5_digitAt_1 : decode cX5_digitAt 1 = .ok (.ifCond .lt 11, 3) := by decide +kernel
theorem dX5_digitAt_4 : decode cX5_digitAt 4 = .ok (.iload_n 1, 1) := by decide +kernel
theorem dX5_digitAt_5 : decode cX5_digitAt 5 = .ok (.aload_n 0, 1) := by decide +kernel
theorem dX5_digitAt_6 : decode cX5_digitAt 6 = .ok (.getfield 15, 3) := by decide +kernel
theorem dX5_digitAt_9 : decode cX5_digitAt 9 = .ok (.if_icmp .lt 6, 3) := by decide +kernel
theorem dX5_digitAt_12 : decode cX5_digitAt 12 = .ok (.bipush (-6), 2) := by decide +kernel
theorem dX5_digitAt_14 : decode cX5_digitAt 14 = .ok (.ireturn, 1) := by decide +kernel
theorem dX5_digitAt_15 : decode cX5_digitAt 15 = .ok (.aload_n 0, 1) := by decide +kernel
theorem dX5_digitAt_16 : decode cX5_digitAt 16 = .ok (.getfield 9, 3) := by decide +kernel
theorem dX5_digitAt_19 : decode cX5_digitAt 19 = .ok (.iload_n 1, 1) := by decide +kernel
theorem dX5_digitAt_20 : decode cX5_digitAt 20 = .ok (.iaload, 1) := by decide +kernel
theorem dX5_digitAt_21 : decode cX5_digitAt 21 = .ok (.bipush 48, 2) := by decide +kernel
theorem dX5_digitAt_23 : decode cX5_digitAt 23 = .ok (.if_icmp .lt 26, 3) := by decide +kernel
theorem dX5_digitAt_26 : decode cX5_digitAt 26 = .ok (.aload_n 0, 1) := by decide +kernel
theorem dX5_digitAt_27 : decode cX5_digitAt 27 = .ok (.getfield 9, 3) := by decide +kernel
theorem dX5_digitAt_30 : decode cX5_digitAt 30 = .ok (.iload_n 1, 1) := by decide +kernel
theorem dX5_digitAt_31 : decode cX5_digitAt 31 = .ok (.iaload, 1) := by decide +kernel
theorem dX5_digitAt_32 : decode cX5_digitAt 32 = .ok (.bipush 57, 2) := by decide +kernel
theorem dX5_digitAt_34 : decode cX5_digitAt 34 = .ok (.if_icmp .gt 15, 3) := by decide +kernel
theorem dX5_digitAt_37 : decode cX5_digitAt 37 = .ok (.aload_n 0, 1) := by decide +kernel
theorem dX5_digitAt_38 : decode cX5_digitAt 38 = .ok (.getfield 9, 3) := by decide +kernel
theorem dX5_digitAt_41 : decode cX5_digitAt 41 = .ok (.iload_n 1, 1) := by decide +kernel
theorem dX5_digitAt_42 : decode cX5_digitAt 42 = .ok (.iaload, 1) := by decide +kernel
theorem dX5_digitAt_43 : decode cX5_digitAt 43 = .ok (.bipush 48, 2) := by decide +kernel
theorem dX5_digitAt_45 : decode cX5_digitAt 45 = .ok (.isub, 1) := by decide +kernel
theorem dX5_digitAt_46 : decode cX5_digitAt 46 = .ok (.goto 5, 3) := by decide +kernel
theorem dX5_digitAt_49 : decode cX5_digitAt 49 = .ok (.bipush (-6), 2) := by decide +kernel
theorem dX5_digitAt_51 : decode cX5_digitAt 51 = .ok (.ireturn, 1) := by decide +kernel
theorem dX5_twoDigitsAt_0 : decode cX5_twoDigitsAt 0 = .ok (.bipush 10, 2) := by decide +kernel
theorem dX5_twoDigitsAt_2 : decode cX5_twoDigitsAt 2 = .ok (.aload_n 0, 1) := by decide +kernel
theorem dX5_twoDigitsAt_3 : decode cX5_twoDigitsAt 3 = .ok (.iload_n 1, 1) := by decide +kernel
theorem dX5_twoDigitsAt_4 : decode cX5_twoDigitsAt 4 = .ok (.invokevirtual 41, 3) := by decide +kernel
theorem dX5_twoDigitsAt_7 : decode cX5_twoDigitsAt 7 = .ok (.imul, 1) := by decide +kernel
theorem dX5_twoDigitsAt_8 : decode cX5_twoDigitsAt 8 = .ok (.aload_n 0, 1) := by decide +kernel
theorem dX5_twoDigitsAt_9 : decode cX5_twoDigitsAt 9 = .ok (.iload_n 1, 1) := by decide +kernel
theorem dX5_twoDigitsAt_10 : decode cX5_twoDigitsAt 10 = .ok (.iconst 1, 1) := by decide +kernel
theorem dX5_twoDigitsAt_11 : decode cX5_twoDigitsAt 11 = .ok (.iadd, 1) := by decide +kernel
theorem dX5_twoDigitsAt_12 : decode cX5_twoDigitsAt 12 = .ok (.invokevirtual 41, 3) := by decide +kernel
theorem dX5_twoDigitsAt_15 : decode cX5_twoDigitsAt 15 = .ok (.iadd, 1) := by decide +kernel
theorem dX5_twoDigitsAt_16 : decode cX5_twoDigitsAt 16 = .ok (.ireturn, 1) := by decide +kernel
theorem dX5_canStand_0 : decode cX5_canStand 0 = .ok (.aload_n 0, 1) := by decide +kernel
theorem dX5_canStand_1 : decode cX5_canStand 1 = .ok (.iload_n 1, 1) := by decide +kernel
theorem dX5_canStand_2 : decode cX5_canStand 2 = .ok (.iload_n 2, 1) := by decide +kernel
theorem dX5_canStand_3 : decode cX5_canStand 3 = .ok (.iadd, 1) := by decide +kernel
theorem dX5_canStand_4 : decode cX5_canStand 4 = .ok (.invokevirtual 41, 3) := by decide +kernel
theorem dX5_canStand_7 : decode cX5_canStand 7 = .ok (.istore_n 3, 1) := by decide +kernel
theorem dX5_canStand_8 : decode cX5_canStand 8 = .ok (.iload_n 3, 1) := by decide +kernel
theorem dX5_canStand_9 : decode cX5_canStand 9 = .ok (.bipush (-6), 2) := by decide +kernel
theorem dX5_canStand_11 : decode cX5_canStand 11 = .ok (.if_icmp .ne 5, 3) := by decide +kernel
theorem dX5_canStand_14 : decode cX5_canStand 14 = .ok (.iconst 0, 1) := by decide +kernel
theorem dX5_canStand_15 : decode cX5_canStand 15 = .ok (.ireturn, 1) := by decide +kernel
theorem dX5_canStand_16 : decode cX5_canStand 16 = .ok (.aload_n 0, 1) := by decide +kernel
theorem dX5_canStand_17 : decode cX5_canStand 17 = .ok (.getfield 9, 3) := by decide +kernel
theorem dX5_canStand_20 : decode cX5_canStand 20 = .ok (.iload_n 1, 1) := by decide +kernel
theorem dX5_canStand_21 : decode cX5_canStand 21 = .ok (.iaload, 1) := by decide +kernel
theorem dX5_canStand_22 : decode cX5_canStand 22 = .ok (.lookupswitch 44 #[(108, 33), (115, 26)], 26) := by decide +kernel
theorem dX5_canStand_48 : decode cX5_canStand 48 = .ok (.iload_n 3, 1) := by decide +kernel
theorem dX5_canStand_49 : decode cX5_canStand 49 = .ok (.iconst 2, 1) := by decide +kernel
theorem dX5_canStand_50 : decode cX5_canStand 50 = .ok (.iconst 5, 1) := by decide +kernel
theorem dX5_canStand_51 : decode cX5_canStand 51 = .ok (.invokestatic 65, 3) := by decide +kernel
theorem dX5_canStand_54 : decode cX5_canStand 54 = .ok (.ireturn, 1) := by decide +kernel
theorem dX5_canStand_55 : decode cX5_canStand 55 = .ok (.iload_n 3, 1) := by decide +kernel
theorem dX5_canStand_56 : decode cX5_canStand 56 = .ok (.iconst 1, 1) := by decide +kernel
theorem dX5_canStand_57 : decode cX5_canStand 57 = .ok (.if_icmp .lt 7, 3) := by decide +kernel
theorem dX5_canStand_60 : decode cX5_canStand 60 = .ok (.iconst 1, 1) := by decide +kernel
theorem dX5_canStand_61 : decode cX5_canStand 61 = .ok (.goto 4, 3) := by decide +kernel
theorem dX5_canStand_64 : decode cX5_canStand 64 = .ok (.iconst 0, 1) := by decide +kernel
theorem dX5_canStand_65 : decode cX5_canStand 65 = .ok (.ireturn, 1) := by decide +kernel
theorem dX5_canStand_66 : decode cX5_canStand 66 = .ok (.aload_n 0, 1) := by decide +kernel
theorem dX5_canStand_67 : decode cX5_canStand 67 = .ok (.iload_n 1, 1) := by decide +kernel
theorem dX5_canStand_68 : decode cX5_canStand 68 = .ok (.iload_n 2, 1) := by decide +kernel
theorem dX5_canStand_69 : decode cX5_canStand 69 = .ok (.iload_n 3, 1) := by decide +kernel
theorem dX5_canStand_70 : decode cX5_canStand 70 = .ok (.invokevirtual 69, 3) := by decide +kernel
theorem dX5_canStand_73 : decode cX5_canStand 73 = .ok (.ireturn, 1) := by decide +kernel
theorem dX5_canStandInYear_0 : decode cX5_canStandInYear 0 = .ok (.iload_n 2, 1) := by decide +kernel
theorem dX5_canStandInYear_1 : decode cX5_canStandInYear 1 = .ok (.iconst 2, 1) := by decide +kernel
theorem dX5_canStandInYear_2 : decode cX5_canStandInYear 2 = .ok (.if_icmp .le 13, 3) := by decide +kernel
theorem dX5_canStandInYear_5 : decode cX5_canStandInYear 5 = .ok (.aload_n 0, 1) := by decide +kernel
theorem dX5_canStandInYear_6 : decode cX5_canStandInYear 6 = .ok (.iload_n 1, 1) := by decide +kernel
theorem dX5_canStandInYear_7 : decode cX5_canStandInYear 7 = .ok (.iconst 1, 1) := by decide +kernel
theorem dX5_canStandInYear_8 : decode cX5_canStandInYear 8 = .ok (.iadd, 1) := by decide +kernel
theorem dX5_canStandInYear_9 : decode cX5_canStandInYear 9 = .ok (.invokevirtual 51, 3) := by decide +kernel
theorem dX5_canStandInYear_12 : decode cX5_canStandInYear 12 = .ok (.goto 4, 3) := by decide +kernel
theorem dX5_canStandInYear_15 : decode cX5_canStandInYear 15 = .ok (.iconst 0, 1) := by decide +kernel
theorem dX5_canStandInYear_16 : decode cX5_canStandInYear 16 = .ok (.istore 4, 2) := by decide +kernel
theorem dX5_canStandInYear_18 : decode cX5_canStandInYear 18 = .ok (.iload_n 2, 1) := by decide +kernel
theorem dX5_canStandInYear_19 : decode cX5_canStandInYear 19 = .ok (.iconst 2, 1) := by decide +kernel
theorem dX5_canStandInYear_20 : decode cX5_canStandInYear 20 = .ok (.irem, 1) := by decide +kernel
theorem dX5_canStandInYear_21 : decode cX5_canStandInYear 21 = .ok (.iconst 1, 1) := by decide +kernel
theorem dX5_canStandInYear_22 : decode cX5_canStandInYear 22 = .ok (.if_icmp .ne 30, 3) := by decide +kernel
theorem dX5_canStandInYear_25 : decode cX5_canStandInYear 25 = .ok (.bipush 10, 2) := by decide +kernel
theorem dX5_canStandInYear_27 : decode cX5_canStandInYear 27 = .ok (.iload_n 3, 1) := by decide +kernel
theorem dX5_canStandInYear_28 : decode cX5_canStandInYear 28 = .ok (.imul, 1) := by decide +kernel
theorem dX5_canStandInYear_29 : decode cX5_canStandInYear 29 = .ok (.bipush 24, 2) := by decide +kernel
theorem dX5_canStandInYear_31 : decode cX5_canStandInYear 31 = .ok (.if_icmp .ge 19, 3) := by decide +kernel
theorem dX5_canStandInYear_34 : decode cX5_canStandInYear 34 = .ok (.bipush 10, 2) := by decide +kernel
theorem dX5_canStandInYear_36 : decode cX5_canStandInYear 36 = .ok (.iload_n 3, 1) := by decide +kernel
theorem dX5_canStandInYear_37 : decode cX5_canStandInYear 37 = .ok (.imul, 1) := by decide +kernel
theorem dX5_canStandInYear_38 : decode cX5_canStandInYear 38 = .ok (.bipush 9, 2) := by decide +kernel
theorem dX5_canStandInYear_40 : decode cX5_canStandInYear 40 = .ok (.iadd, 1) := by decide +kernel
theorem dX5_canStandInYear_41 : decode cX5_canStandInYear 41 = .ok (.iload 4, 2) := by decide +kernel
theorem dX5_canStandInYear_43 : decode cX5_canStandInYear 43 = .ok (.if_icmp .lt 7, 3) := by decide +kernel
theorem dX5_canStandInYear_46 : decode cX5_canStandInYear 46 = .ok (.iconst 1, 1) := by decide +kernel
theorem dX5_canStandInYear_47 : decode cX5_canStandInYear 47 = .ok (.goto 4, 3) := by decide +kernel
theorem dX5_canStandInYear_50 : decode cX5_canStandInYear 50 = .ok (.iconst 0, 1) := by decide +kernel
theorem dX5_canStandInYear_51 : decode cX5_canStandInYear 51 = .ok (.ireturn, 1) := by decide +kernel
theorem dX5_canStandInYear_52 : decode cX5_canStandInYear 52 = .ok (.bipush 10, 2) := by decide +kernel
theorem dX5_canStandInYear_54 : decode cX5_canStandInYear 54 = .ok (.aload_n 0, 1) := by decide +kernel
theorem dX5_canStandInYear_55 : decode cX5_canStandInYear 55 = .ok (.iload_n 1, 1) := by decide +kernel
theorem dX5_canStandInYear_56 : decode cX5_canStandInYear 56 = .ok (.iload_n 2, 1) := by decide +kernel
theorem dX5_canStandInYear_57 : decode cX5_canStandInYear 57 = .ok (.iadd, 1) := by decide +kernel
theorem dX5_canStandInYear_58 : decode cX5_canStandInYear 58 = .ok (.iconst 1, 1) := by decide +kernel
theorem dX5_canStandInYear_59 : decode cX5_canStandInYear 59 = .ok (.isub, 1) := by decide +kernel
theorem dX5_canStandInYear_60 : decode cX5_canStandInYear 60 = .ok (.invokevirtual 41, 3) := by decide +kernel
theorem dX5_canStandInYear_63 : decode cX5_canStandInYear 63 = .ok (.imul, 1) := by decide +kernel
theorem dX5_canStandInYear_64 : decode cX5_canStandInYear 64 = .ok (.iload_n 3, 1) := by decide +kernel
theorem dX5_canStandInYear_65 : decode cX5_canStandInYear 65 = .ok (.iadd, 1) := by decide +kernel
theorem dX5_canStandInYear_66 : decode cX5_canStandInYear 66 = .ok (.iload 4, 2) := by decide +kernel
theorem dX5_canStandInYear_68 : decode cX5_canStandInYear 68 = .ok (.bipush 23, 2) := by decide +kernel
theorem dX5_canStandInYear_70 : decode cX5_canStandInYear 70 = .ok (.invokestatic 65, 3) := by decide +kernel
theorem dX5_canStandInYear_73 : decode cX5_canStandInYear 73 = .ok (.ireturn, 1) := by decide +kernel
theorem dX5_smooth_0 : decode cX5_smooth 0 = .ok (.bipush 23, 2) := by decide +kernel
theorem dX5_smooth_2 : decode cX5_smooth 2 = .ok (.istore_n 2, 1) := by decide +kernel
theorem dX5_smooth_3 : decode cX5_smooth 3 = .ok (.iload_n 2, 1) := by decide +kernel
theorem dX5_smooth_4 : decode cX5_smooth 4 = .ok (.ifCond .lt 66, 3) := by decide +kernel
theorem dX5_smooth_7 : decode cX5_smooth 7 = .ok (.iconst 0, 1) := by decide +kernel
theorem dX5_smooth_8 : decode cX5_smooth 8 = .ok (.istore_n 3, 1) := by decide +kernel
theorem dX5_smooth_9 : decode cX5_smooth 9 = .ok (.iconst 0, 1) := by decide +kernel
theorem dX5_smooth_10 : decode cX5_smooth 10 = .ok (.istore 4, 2) := by decide +kernel
theorem dX5_smooth_12 : decode cX5_smooth 12 = .ok (.iload 4, 2) := by decide +kernel
theorem dX5_smooth_14 : decode cX5_smooth 14 = .ok (.iload_n 1, 1) := by decide +kernel
theorem dX5_smooth_15 : decode cX5_smooth 15 = .ok (.if_icmp .ge 42, 3) := by decide +kernel
theorem dX5_smooth_18 : decode cX5_smooth 18 = .ok (.iload_n 3, 1) := by decide +kernel
theorem dX5_smooth_19 : decode cX5_smooth 19 = .ok (.ldc 72, 2) := by decide +kernel
theorem dX5_smooth_21 : decode cX5_smooth 21 = .ok (.if_icmp .eq 36, 3) := by decide +kernel
theorem dX5_smooth_24 : decode cX5_smooth 24 = .ok (.aload_n 0, 1) := by decide +kernel
theorem dX5_smooth_25 : decode cX5_smooth 25 = .ok (.iload_n 2, 1) := by decide +kernel
theorem dX5_smooth_26 : decode cX5_smooth 26 = .ok (.iload 4, 2) := by decide +kernel
theorem dX5_smooth_28 : decode cX5_smooth 28 = .ok (.isub, 1) := by decide +kernel
theorem dX5_smooth_29 : decode cX5_smooth 29 = .ok (.invokestatic 73, 3) := by decide +kernel
theorem dX5_smooth_32 : decode cX5_smooth 32 = .ok (.istore 5, 2) := by decide +kernel
theorem dX5_smooth_34 : decode cX5_smooth 34 = .ok (.iload 5, 2) := by decide +kernel
theorem dX5_smooth_36 : decode cX5_smooth 36 = .ok (.ldc 72, 2) := by decide +kernel
theorem dX5_smooth_38 : decode cX5_smooth 38 = .ok (.if_icmp .ne 8, 3) := by decide +kernel
theorem dX5_smooth_41 : decode cX5_smooth 41 = .ok (.ldc 72, 2) := by decide +kernel
theorem dX5_smooth_43 : decode cX5_smooth 43 = .ok (.goto 7, 3) := by decide +kernel
theorem dX5_smooth_46 : decode cX5_smooth 46 = .ok (.iload_n 3, 1) := by decide +kernel
theorem dX5_smooth_47 : decode cX5_smooth 47 = .ok (.iload 5, 2) := by decide +kernel
theorem dX5_smooth_49 : decode cX5_smooth 49 = .ok (.iadd, 1) := by decide +kernel
theorem dX5_smooth_50 : decode cX5_smooth 50 = .ok (.istore_n 3, 1) := by decide +kernel
theorem dX5_smooth_51 : decode cX5_smooth 51 = .ok (.iinc 4 1, 3) := by decide +kernel
theorem dX5_smooth_54 : decode cX5_smooth 54 = .ok (.goto (-42), 3) := by decide +kernel
theorem dX5_smooth_57 : decode cX5_smooth 57 = .ok (.aload_n 0, 1) := by decide +kernel
theorem dX5_smooth_58 : decode cX5_smooth 58 = .ok (.iload_n 2, 1) := by decide +kernel
theorem dX5_smooth_59 : decode cX5_smooth 59 = .ok (.iload_n 3, 1) := by decide +kernel
theorem dX5_smooth_60 : decode cX5_smooth 60 = .ok (.invokestatic 77, 3) := by decide +kernel
theorem dX5_smooth_63 : decode cX5_smooth 63 = .ok (.iastore, 1) := by decide +kernel
theorem dX5_smooth_64 : decode cX5_smooth 64 = .ok (.iinc 2 (-1), 3) := by decide +kernel
theorem dX5_smooth_67 : decode cX5_smooth 67 = .ok (.goto (-64), 3) := by decide +kernel
theorem dX5_smooth_70 : decode cX5_smooth 70 = .ok (.return_, 1) := by decide +kernel
theorem dX5_lag_0 : decode cX5_lag 0 = .ok (.bipush 23, 2) := by decide +kernel
theorem dX5_lag_2 : decode cX5_lag 2 = .ok (.istore_n 2, 1) := by decide +kernel
theorem dX5_lag_3 : decode cX5_lag 3 = .ok (.iload_n 2, 1) := by decide +kernel
theorem dX5_lag_4 : decode cX5_lag 4 = .ok (.ifCond .lt 19, 3) := by decide +kernel
theorem dX5_lag_7 : decode cX5_lag 7 = .ok (.aload_n 0, 1) := by decide +kernel
theorem dX5_lag_8 : decode cX5_lag 8 = .ok (.iload_n 2, 1) := by decide +kernel
theorem dX5_lag_9 : decode cX5_lag 9 = .ok (.aload_n 0, 1) := by decide +kernel
theorem dX5_lag_10 : decode cX5_lag 10 = .ok (.iload_n 2, 1) := by decide +kernel
theorem dX5_lag_11 : decode cX5_lag 11 = .ok (.iload_n 1, 1) := by decide +kernel
theorem dX5_lag_12 : decode cX5_lag 12 = .ok (.isub, 1) := by decide +kernel
theorem dX5_lag_13 : decode cX5_lag 13 = .ok (.invokestatic 73, 3) := by decide +kernel
theorem dX5_lag_16 : decode cX5_lag 16 = .ok (.iastore, 1) := by decide +kernel
theorem dX5_lag_17 : decode cX5_lag 17 = .ok (.iinc 2 (-1), 3) := by decide +kernel
theorem dX5_lag_20 : decode cX5_lag 20 = .ok (.goto (-17), 3) := by decide +kernel
theorem dX5_lag_23 : decode cX5_lag 23 = .ok (.return_, 1) := by decide +kernel
theorem dX5_turn_0 : decode cX5_turn 0 = .ok (.iconst 0, 1) := by decide +kernel
theorem dX5_turn_1 : decode cX5_turn 1 = .ok (.iload_n 1, 1) := by decide +kernel
theorem dX5_turn_2 : decode cX5_turn 2 = .ok (.invokestatic 35, 3) := by decide +kernel
theorem dX5_turn_5 : decode cX5_turn 5 = .ok (.istore_n 2, 1) := by decide +kernel
theorem dX5_turn_6 : decode cX5_turn 6 = .ok (.iload_n 2, 1) := by decide +kernel
theorem dX5_turn_7 : decode cX5_turn 7 = .ok (.bipush 24, 2) := by decide +kernel
theorem dX5_turn_9 : decode cX5_turn 9 = .ok (.if_icmp .ge 24, 3) := by decide +kernel
theorem dX5_turn_12 : decode cX5_turn 12 = .ok (.aload_n 0, 1) := by decide +kernel
theorem dX5_turn_13 : decode cX5_turn 13 = .ok (.iload_n 2, 1) := by decide +kernel
theorem dX5_turn_14 : decode cX5_turn 14 = .ok (.iaload, 1) := by decide +kernel
theorem dX5_turn_15 : decode cX5_turn 15 = .ok (.ldc 72, 2) := by decide +kernel
theorem dX5_turn_17 : decode cX5_turn 17 = .ok (.if_icmp .eq 10, 3) := by decide +kernel
theorem dX5_turn_20 : decode cX5_turn 20 = .ok (.aload_n 0, 1) := by decide +kernel
theorem dX5_turn_21 : decode cX5_turn 21 = .ok (.iload_n 2, 1) := by decide +kernel
theorem dX5_turn_22 : decode cX5_turn 22 = .ok (.aload_n 0, 1) := by decide +kernel
theorem dX5_turn_23 : decode cX5_turn 23 = .ok (.iload_n 2, 1) := by decide +kernel
theorem dX5_turn_24 : decode cX5_turn 24 = .ok (.iaload, 1) := by decide +kernel
theorem dX5_turn_25 : decode cX5_turn 25 = .ok (.ineg, 1) := by decide +kernel
theorem dX5_turn_26 : decode cX5_turn 26 = .ok (.iastore, 1) := by decide +kernel
theorem dX5_turn_27 : decode cX5_turn 27 = .ok (.iinc 2 1, 3) := by decide +kernel
theorem dX5_turn_30 : decode cX5_turn 30 = .ok (.goto (-24), 3) := by decide +kernel
theorem dX5_turn_33 : decode cX5_turn 33 = .ok (.return_, 1) := by decide +kernel
theorem dX5_cut_0 : decode cX5_cut 0 = .ok (.iconst 0, 1) := by decide +kernel
theorem dX5_cut_1 : decode cX5_cut 1 = .ok (.istore_n 3, 1) := by decide +kernel
theorem dX5_cut_2 : decode cX5_cut 2 = .ok (.iload_n 3, 1) := by decide +kernel
theorem dX5_cut_3 : decode cX5_cut 3 = .ok (.bipush 24, 2) := by decide +kernel
theorem dX5_cut_5 : decode cX5_cut 5 = .ok (.if_icmp .ge 23, 3) := by decide +kernel
theorem dX5_cut_8 : decode cX5_cut 8 = .ok (.iload_n 3, 1) := by decide +kernel
theorem dX5_cut_9 : decode cX5_cut 9 = .ok (.iload_n 1, 1) := by decide +kernel
theorem dX5_cut_10 : decode cX5_cut 10 = .ok (.iload_n 2, 1) := by decide +kernel
theorem dX5_cut_11 : decode cX5_cut 11 = .ok (.invokestatic 65, 3) := by decide +kernel
theorem dX5_cut_14 : decode cX5_cut 14 = .ok (.ifCond .ne 8, 3) := by decide +kernel
theorem dX5_cut_17 : decode cX5_cut 17 = .ok (.aload_n 0, 1) := by decide +kernel
theorem dX5_cut_18 : decode cX5_cut 18 = .ok (.iload_n 3, 1) := by decide +kernel
theorem dX5_cut_19 : decode cX5_cut 19 = .ok (.ldc 72, 2) := by decide +kernel
theorem dX5_cut_21 : decode cX5_cut 21 = .ok (.iastore, 1) := by decide +kernel
theorem dX5_cut_22 : decode cX5_cut 22 = .ok (.iinc 3 1, 3) := by decide +kernel
theorem dX5_cut_25 : decode cX5_cut 25 = .ok (.goto (-23), 3) := by decide +kernel
theorem dX5_cut_28 : decode cX5_cut 28 = .ok (.return_, 1) := by decide +kernel
theorem dX5_differ_0 : decode cX5_differ 0 = .ok (.bipush 23, 2) := by decide +kernel
theorem dX5_differ_2 : decode cX5_differ 2 = .ok (.istore_n 1, 1) := by decide +kernel
theorem dX5_differ_3 : decode cX5_differ 3 = .ok (.iload_n 1, 1) := by decide +kernel
theorem dX5_differ_4 : decode cX5_differ 4 = .ok (.ifCond .lt 57, 3) := by decide +kernel
theorem dX5_differ_7 : decode cX5_differ 7 = .ok (.aload_n 0, 1) := by decide +kernel
theorem dX5_differ_8 : decode cX5_differ 8 = .ok (.iload_n 1, 1) := by decide +kernel
theorem dX5_differ_9 : decode cX5_differ 9 = .ok (.iconst 1, 1) := by decide +kernel
theorem dX5_differ_10 : decode cX5_differ 10 = .ok (.isub, 1) := by decide +kernel
theorem dX5_differ_11 : decode cX5_differ 11 = .ok (.invokestatic 73, 3) := by decide +kernel
theorem dX5_differ_14 : decode cX5_differ 14 = .ok (.istore_n 2, 1) := by decide +kernel
theorem dX5_differ_15 : decode cX5_differ 15 = .ok (.aload_n 0, 1) := by decide +kernel
theorem dX5_differ_16 : decode cX5_differ 16 = .ok (.iload_n 1, 1) := by decide +kernel
theorem dX5_differ_17 : decode cX5_differ 17 = .ok (.iaload, 1) := by decide +kernel
theorem dX5_differ_18 : decode cX5_differ 18 = .ok (.ldc 72, 2) := by decide +kernel
theorem dX5_differ_20 : decode cX5_differ 20 = .ok (.if_icmp .eq 13, 3) := by decide +kernel
theorem dX5_differ_23 : decode cX5_differ 23 = .ok (.iload_n 2, 1) := by decide +kernel
theorem dX5_differ_24 : decode cX5_differ 24 = .ok (.ldc 72, 2) := by decide +kernel
theorem dX5_differ_26 : decode cX5_differ 26 = .ok (.if_icmp .eq 7, 3) := by decide +kernel
theorem dX5_differ_29 : decode cX5_differ 29 = .ok (.iconst 1, 1) := by decide +kernel
theorem dX5_differ_30 : decode cX5_differ 30 = .ok (.goto 4, 3) := by decide +kernel
theorem dX5_differ_33 : decode cX5_differ 33 = .ok (.iconst 0, 1) := by decide +kernel
theorem dX5_differ_34 : decode cX5_differ 34 = .ok (.istore_n 3, 1) := by decide +kernel
theorem dX5_differ_35 : decode cX5_differ 35 = .ok (.aload_n 0, 1) := by decide +kernel
theorem dX5_differ_36 : decode cX5_differ 36 = .ok (.iload_n 1, 1) := by decide +kernel
theorem dX5_differ_37 : decode cX5_differ 37 = .ok (.iload_n 3, 1) := by decide +kernel
theorem dX5_differ_38 : decode cX5_differ 38 = .ok (.ifCond .eq 14, 3) := by decide +kernel
theorem dX5_differ_41 : decode cX5_differ 41 = .ok (.aload_n 0, 1) := by decide +kernel
theorem dX5_differ_42 : decode cX5_differ 42 = .ok (.iload_n 1, 1) := by decide +kernel
theorem dX5_differ_43 : decode cX5_differ 43 = .ok (.iaload, 1) := by decide +kernel
theorem dX5_differ_44 : decode cX5_differ 44 = .ok (.iload_n 2, 1) := by decide +kernel
theorem dX5_differ_45 : decode cX5_differ 45 = .ok (.isub, 1) := by decide +kernel
theorem dX5_differ_46 : decode cX5_differ 46 = .ok (.invokestatic 77, 3) := by decide +kernel
theorem dX5_differ_49 : decode cX5_differ 49 = .ok (.goto 5, 3) := by decide +kernel
theorem dX5_differ_52 : decode cX5_differ 52 = .ok (.ldc 72, 2) := by decide +kernel
theorem dX5_differ_54 : decode cX5_differ 54 = .ok (.iastore, 1) := by decide +kernel
theorem dX5_differ_55 : decode cX5_differ 55 = .ok (.iinc 1 (-1), 3) := by decide +kernel
theorem dX5_differ_58 : decode cX5_differ 58 = .ok (.goto (-55), 3) := by decide +kernel
theorem dX5_differ_61 : decode cX5_differ 61 = .ok (.return_, 1) := by decide +kernel
theorem dX5_numberAt_0 : decode cX5_numberAt 0 = .ok (.iload_n 1, 1) := by decide +kernel
theorem dX5_numberAt_1 : decode cX5_numberAt 1 = .ok (.ifCond .lt 15, 3) := by decide +kernel
theorem dX5_numberAt_4 : decode cX5_numberAt 4 = .ok (.iload_n 1, 1) := by decide +kernel
theorem dX5_numberAt_5 : decode cX5_numberAt 5 = .ok (.bipush 24, 2) := by decide +kernel
theorem dX5_numberAt_7 : decode cX5_numberAt 7 = .ok (.if_icmp .ge 9, 3) := by decide +kernel
theorem dX5_numberAt_10 : decode cX5_numberAt 10 = .ok (.aload_n 0, 1) := by decide +kernel
theorem dX5_numberAt_11 : decode cX5_numberAt 11 = .ok (.iload_n 1, 1) := by decide +kernel
theorem dX5_numberAt_12 : decode cX5_numberAt 12 = .ok (.iaload, 1) := by decide +kernel
theorem dX5_numberAt_13 : decode cX5_numberAt 13 = .ok (.goto 5, 3) := by decide +kernel
theorem dX5_numberAt_16 : decode cX5_numberAt 16 = .ok (.ldc 72, 2) := by decide +kernel
theorem dX5_numberAt_18 : decode cX5_numberAt 18 = .ok (.ireturn, 1) := by decide +kernel
theorem dX5_hold_0 : decode cX5_hold 0 = .ok (.iload_n 0, 1) := by decide +kernel
theorem dX5_hold_1 : decode cX5_hold 1 = .ok (.ldc 72, 2) := by decide +kernel
theorem dX5_hold_3 : decode cX5_hold 3 = .ok (.if_icmp .ne 8, 3) := by decide +kernel
theorem dX5_hold_6 : decode cX5_hold 6 = .ok (.ldc 72, 2) := by decide +kernel
theorem dX5_hold_8 : decode cX5_hold 8 = .ok (.goto 16, 3) := by decide +kernel
theorem dX5_hold_11 : decode cX5_hold 11 = .ok (.sipush (-999), 3) := by decide +kernel
theorem dX5_hold_14 : decode cX5_hold 14 = .ok (.sipush 999, 3) := by decide +kernel
theorem dX5_hold_17 : decode cX5_hold 17 = .ok (.iload_n 0, 1) := by decide +kernel
theorem dX5_hold_18 : decode cX5_hold 18 = .ok (.invokestatic 80, 3) := by decide +kernel
theorem dX5_hold_21 : decode cX5_hold 21 = .ok (.invokestatic 35, 3) := by decide +kernel
theorem dX5_hold_24 : decode cX5_hold 24 = .ok (.ireturn, 1) := by decide +kernel
theorem dX6_init_0 : decode cX6_init 0 = .ok (.aload_n 0, 1) := by decide +kernel
theorem dX6_init_1 : decode cX6_init 1 = .ok (.invokespecial 3, 3) := by decide +kernel
theorem dX6_init_4 : decode cX6_init 4 = .ok (.aload_n 0, 1) := by decide +kernel
theorem dX6_init_5 : decode cX6_init 5 = .ok (.bipush 8, 2) := by decide +kernel
theorem dX6_init_7 : decode cX6_init 7 = .ok (.newarray .int, 2) := by decide +kernel
theorem dX6_init_9 : decode cX6_init 9 = .ok (.putfield 9, 3) := by decide +kernel
theorem dX6_init_12 : decode cX6_init 12 = .ok (.aload_n 0, 1) := by decide +kernel
theorem dX6_init_13 : decode cX6_init 13 = .ok (.bipush 50, 2) := by decide +kernel
theorem dX6_init_15 : decode cX6_init 15 = .ok (.putfield 15, 3) := by decide +kernel
theorem dX6_init_18 : decode cX6_init 18 = .ok (.return_, 1) := by decide +kernel
theorem dX6_believing_0 : decode cX6_believing 0 = .ok (.iconst 0, 1) := by decide +kernel
theorem dX6_believing_1 : decode cX6_believing 1 = .ok (.istore_n 3, 1) := by decide +kernel
theorem dX6_believing_2 : decode cX6_believing 2 = .ok (.iconst 0, 1) := by decide +kernel
theorem dX6_believing_3 : decode cX6_believing 3 = .ok (.istore 4, 2) := by decide +kernel
theorem dX6_believing_5 : decode cX6_believing 5 = .ok (.iload 4, 2) := by decide +kernel
theorem dX6_believing_7 : decode cX6_believing 7 = .ok (.bipush 8, 2) := by decide +kernel
theorem dX6_believing_9 : decode cX6_believing 9 = .ok (.if_icmp .ge 46, 3) := by decide +kernel
theorem dX6_believing_12 : decode cX6_believing 12 = .ok (.aload_n 0, 1) := by decide +kernel
theorem dX6_believing_13 : decode cX6_believing 13 = .ok (.getfield 9, 3) := by decide +kernel
theorem dX6_believing_16 : decode cX6_believing 16 = .ok (.iload 4, 2) := by decide +kernel
theorem dX6_believing_18 : decode cX6_believing 18 = .ok (.iaload, 1) := by decide +kernel
theorem dX6_believing_19 : decode cX6_believing 19 = .ok (.iload_n 1, 1) := by decide +kernel
theorem dX6_believing_20 : decode cX6_believing 20 = .ok (.iand, 1) := by decide +kernel
theorem dX6_believing_21 : decode cX6_believing 21 = .ok (.istore 5, 2) := by decide +kernel
theorem dX6_believing_23 : decode cX6_believing 23 = .ok (.iload 5, 2) := by decide +kernel
theorem dX6_believing_25 : decode cX6_believing 25 = .ok (.iload_n 2, 1) := by decide +kernel
theorem dX6_believing_26 : decode cX6_believing 26 = .ok (.iand, 1) := by decide +kernel
theorem dX6_believing_27 : decode cX6_believing 27 = .ok (.invokestatic 19, 3) := by decide +kernel
theorem dX6_believing_30 : decode cX6_believing 30 = .ok (.iload 5, 2) := by decide +kernel
theorem dX6_believing_32 : decode cX6_believing 32 = .ok (.iload_n 2, 1) := by decide +kernel
theorem dX6_believing_33 : decode cX6_believing 33 = .ok (.iconst (-1), 1) := by decide +kernel
theorem dX6_believing_34 : decode cX6_believing 34 = .ok (.ixor, 1) := by decide +kernel
theorem dX6_believing_35 : decode cX6_believing 35 = .ok (.iand, 1) := by decide +kernel
theorem dX6_believing_36 : decode cX6_believing 36 = .ok (.invokestatic 19, 3) := by decide +kernel
theorem dX6_believing_39 : decode cX6_believing 39 = .ok (.if_icmp .le 10, 3) := by decide +kernel
theorem dX6_believing_42 : decode cX6_believing 42 = .ok (.iload_n 3, 1) := by decide +kernel
theorem dX6_believing_43 : decode cX6_believing 43 = .ok (.iconst 1, 1) := by decide +kernel
theorem dX6_believing_44 : decode cX6_believing 44 = .ok (.iload 4, 2) := by decide +kernel
theorem dX6_believing_46 : decode cX6_believing 46 = .ok (.ishl, 1) := by decide +kernel
theorem dX6_believing_47 : decode cX6_believing 47 = .ok (.ior, 1) := by decide +kernel
theorem dX6_believing_48 : decode cX6_believing 48 = .ok (.istore_n 3, 1) := by decide +kernel
theorem dX6_believing_49 : decode cX6_believing 49 = .ok (.iinc 4 1, 3) := by decide +kernel
theorem dX6_believing_52 : decode cX6_believing 52 = .ok (.goto (-47), 3) := by decide +kernel
theorem dX6_believing_55 : decode cX6_believing 55 = .ok (.iload_n 3, 1) := by decide +kernel
theorem dX6_believing_56 : decode cX6_believing 56 = .ok (.ireturn, 1) := by decide +kernel
theorem dX6_fewestToTurn_0 : decode cX6_fewestToTurn 0 = .ok (.aload_n 2, 1) := by decide +kernel
theorem dX6_fewestToTurn_1 : decode cX6_fewestToTurn 1 = .ok (.aload_n 0, 1) := by decide +kernel
theorem dX6_fewestToTurn_2 : decode cX6_fewestToTurn 2 = .ok (.getfield 15, 3) := by decide +kernel
theorem dX6_fewestToTurn_5 : decode cX6_fewestToTurn 5 = .ok (.invokevirtual 25, 3) := by decide +kernel
theorem dX6_fewestToTurn_8 : decode cX6_fewestToTurn 8 = .ok (.istore_n 3, 1) := by decide +kernel
theorem dX6_fewestToTurn_9 : decode cX6_fewestToTurn 9 = .ok (.aload_n 2, 1) := by decide +kernel
theorem dX6_fewestToTurn_10 : decode cX6_fewestToTurn 10 = .ok (.invokevirtual 30, 3) := by decide +kernel
theorem dX6_fewestToTurn_13 : decode cX6_fewestToTurn 13 = .ok (.istore 4, 2) := by decide +kernel
theorem dX6_fewestToTurn_15 : decode cX6_fewestToTurn 15 = .ok (.iconst 1, 1) := by decide +kernel
theorem dX6_fewestToTurn_16 : decode cX6_fewestToTurn 16 = .ok (.iload 4, 2) := by decide +kernel
theorem dX6_fewestToTurn_18 : decode cX6_fewestToTurn 18 = .ok (.invokestatic 19, 3) := by decide +kernel
theorem dX6_fewestToTurn_21 : decode cX6_fewestToTurn 21 = .ok (.ishl, 1) := by decide +kernel
theorem dX6_fewestToTurn_22 : decode cX6_fewestToTurn 22 = .ok (.istore 5, 2) := by decide +kernel
theorem dX6_fewestToTurn_24 : decode cX6_fewestToTurn 24 = .ok (.bipush (-6), 2) := by decide +kernel
theorem dX6_fewestToTurn_26 : decode cX6_fewestToTurn 26 = .ok (.istore 6, 2) := by decide +kernel
theorem dX6_fewestToTurn_28 : decode cX6_fewestToTurn 28 = .ok (.iconst 0, 1) := by decide +kernel
theorem dX6_fewestToTurn_29 : decode cX6_fewestToTurn 29 = .ok (.istore 7, 2) := by decide +kernel
theorem dX6_fewestToTurn_31 : decode cX6_fewestToTurn 31 = .ok (.iconst 0, 1) := by decide +kernel
theorem dX6_fewestToTurn_32 : decode cX6_fewestToTurn 32 = .ok (.istore 8, 2) := by decide +kernel
theorem dX6_fewestToTurn_34 : decode cX6_fewestToTurn 34 = .ok (.iload 8, 2) := by decide +kernel
theorem dX6_fewestToTurn_36 : decode cX6_fewestToTurn 36 = .ok (.iload 5, 2) := by decide +kernel
theorem dX6_fewestToTurn_38 : decode cX6_fewestToTurn 38 = .ok (.if_icmp .ge 72, 3) := by decide +kernel
theorem dX6_fewestToTurn_41 : decode cX6_fewestToTurn 41 = .ok (.iload 6, 2) := by decide +kernel
theorem dX6_fewestToTurn_43 : decode cX6_fewestToTurn 43 = .ok (.bipush (-6), 2) := by decide +kernel
theorem dX6_fewestToTurn_45 : decode cX6_fewestToTurn 45 = .ok (.if_icmp .eq 16, 3) := by decide +kernel
theorem dX6_fewestToTurn_48 : decode cX6_fewestToTurn 48 = .ok (.iload 7, 2) := by decide +kernel
theorem dX6_fewestToTurn_50 : decode cX6_fewestToTurn 50 = .ok (.invokestatic 19, 3) := by decide +kernel
theorem dX6_fewestToTurn_53 : decode cX6_fewestToTurn 53 = .ok (.iload 6, 2) := by decide +kernel
theorem dX6_fewestToTurn_55 : decode cX6_fewestToTurn 55 = .ok (.invokestatic 19, 3) := by decide +kernel
theorem dX6_fewestToTurn_58 : decode cX6_fewestToTurn 58 = .ok (.if_icmp .ge 7, 3) := by decide +kernel
theorem dX6_fewestToTurn_61 : decode cX6_fewestToTurn 61 = .ok (.iconst 1, 1) := by decide +kernel
theorem dX6_fewestToTurn_62 : decode cX6_fewestToTurn 62 = .ok (.goto 4, 3) := by decide +kernel
theorem dX6_fewestToTurn_65 : decode cX6_fewestToTurn 65 = .ok (.iconst 0, 1) := by decide +kernel
theorem dX6_fewestToTurn_66 : decode cX6_fewestToTurn 66 = .ok (.istore 9, 2) := by decide +kernel
theorem dX6_fewestToTurn_68 : decode cX6_fewestToTurn 68 = .ok (.iload 9, 2) := by decide +kernel
theorem dX6_fewestToTurn_70 : decode cX6_fewestToTurn 70 = .ok (.ifCond .eq 24, 3) := by decide +kernel
theorem dX6_fewestToTurn_73 : decode cX6_fewestToTurn 73 = .ok (.aload_n 0, 1) := by decide +kernel
theorem dX6_fewestToTurn_74 : decode cX6_fewestToTurn 74 = .ok (.aload_n 2, 1) := by decide +kernel
theorem dX6_fewestToTurn_75 : decode cX6_fewestToTurn 75 = .ok (.getfield 34, 3) := by decide +kernel
theorem dX6_fewestToTurn_78 : decode cX6_fewestToTurn 78 = .ok (.iload 7, 2) := by decide +kernel
theorem dX6_fewestToTurn_80 : decode cX6_fewestToTurn 80 = .ok (.ior, 1) := by decide +kernel
theorem dX6_fewestToTurn_81 : decode cX6_fewestToTurn 81 = .ok (.iload_n 3, 1) := by decide +kernel
theorem dX6_fewestToTurn_82 : decode cX6_fewestToTurn 82 = .ok (.invokevirtual 37, 3) := by decide +kernel
theorem dX6_fewestToTurn_85 : decode cX6_fewestToTurn 85 = .ok (.iload_n 1, 1) := by decide +kernel
theorem dX6_fewestToTurn_86 : decode cX6_fewestToTurn 86 = .ok (.iand, 1) := by decide +kernel
theorem dX6_fewestToTurn_87 : decode cX6_fewestToTurn 87 = .ok (.ifCond .ne 7, 3) := by decide +kernel
theorem dX6_fewestToTurn_90 : decode cX6_fewestToTurn 90 = .ok (.iload 7, 2) := by decide +kernel
theorem dX6_fewestToTurn_92 : decode cX6_fewestToTurn 92 = .ok (.istore 6, 2) := by decide +kernel
theorem dX6_fewestToTurn_94 : decode cX6_fewestToTurn 94 = .ok (.iload 7, 2) := by decide +kernel
theorem dX6_fewestToTurn_96 : decode cX6_fewestToTurn 96 = .ok (.iload 4, 2) := by decide +kernel
theorem dX6_fewestToTurn_98 : decode cX6_fewestToTurn 98 = .ok (.isub, 1) := by decide +kernel
theorem dX6_fewestToTurn_99 : decode cX6_fewestToTurn 99 = .ok (.iload 4, 2) := by decide +kernel
theorem dX6_fewestToTurn_101 : decode cX6_fewestToTurn 101 = .ok (.iand, 1) := by decide +kernel
theorem dX6_fewestToTurn_102 : decode cX6_fewestToTurn 102 = .ok (.istore 7, 2) := by decide +kernel
theorem dX6_fewestToTurn_104 : decode cX6_fewestToTurn 104 = .ok (.iinc 8 1, 3) := by decide +kernel
theorem dX6_fewestToTurn_107 : decode cX6_fewestToTurn 107 = .ok (.goto (-73), 3) := by decide +kernel
theorem dX6_fewestToTurn_110 : decode cX6_fewestToTurn 110 = .ok (.iload 6, 2) := by decide +kernel
theorem dX6_fewestToTurn_112 : decode cX6_fewestToTurn 112 = .ok (.ireturn, 1) := by decide +kernel
theorem dX7_init_0 : decode cX7_init 0 = .ok (.aload_n 0, 1) := by decide +kernel
theorem dX7_init_1 : decode cX7_init 1 = .ok (.invokespecial 3, 3) := by decide +kernel
theorem dX7_init_4 : decode cX7_init 4 = .ok (.aload_n 0, 1) := by decide +kernel
theorem dX7_init_5 : decode cX7_init 5 = .ok (.bipush 24, 2) := by decide +kernel
theorem dX7_init_7 : decode cX7_init 7 = .ok (.newarray .int, 2) := by decide +kernel
theorem dX7_init_9 : decode cX7_init 9 = .ok (.putfield 9, 3) := by decide +kernel
theorem dX7_init_12 : decode cX7_init 12 = .ok (.aload_n 0, 1) := by decide +kernel
theorem dX7_init_13 : decode cX7_init 13 = .ok (.bipush 24, 2) := by decide +kernel
theorem dX7_init_15 : decode cX7_init 15 = .ok (.newarray .long, 2) := by decide +kernel
theorem dX7_init_17 : decode cX7_init 17 = .ok (.putfield 15, 3) := by decide +kernel
theorem dX7_init_20 : decode cX7_init 20 = .ok (.aload_n 0, 1) := by decide +kernel
theorem dX7_init_21 : decode cX7_init 21 = .ok (.iconst 0, 1) := by decide +kernel
theorem dX7_init_22 : decode cX7_init 22 = .ok (.putfield 19, 3) := by decide +kernel
theorem dX7_init_25 : decode cX7_init 25 = .ok (.return_, 1) := by decide +kernel
theorem dX7_lay_0 : decode cX7_lay 0 = .ok (.aload_n 0, 1) := by decide +kernel
theorem dX7_lay_1 : decode cX7_lay 1 = .ok (.iconst 0, 1) := by decide +kernel
theorem dX7_lay_2 : decode cX7_lay 2 = .ok (.putfield 19, 3) := by decide +kernel
theorem dX7_lay_5 : decode cX7_lay 5 = .ok (.iconst 0, 1) := by decide +kernel
theorem dX7_lay_6 : decode cX7_lay 6 = .ok (.istore_n 3, 1) := by decide +kernel
theorem dX7_lay_7 : decode cX7_lay 7 = .ok (.iload_n 3, 1) := by decide +kernel
theorem dX7_lay_8 : decode cX7_lay 8 = .ok (.iload_n 2, 1) := by decide +kernel
theorem dX7_lay_9 : decode cX7_lay 9 = .ok (.if_icmp .ge 109, 3) := by decide +kernel
theorem dX7_lay_12 : decode cX7_lay 12 = .ok (.aload_n 0, 1) := by decide +kernel
theorem dX7_lay_13 : decode cX7_lay 13 = .ok (.getfield 19, 3) := by decide +kernel
theorem dX7_lay_16 : decode cX7_lay 16 = .ok (.istore 4, 2) := by decide +kernel
theorem dX7_lay_18 : decode cX7_lay 18 = .ok (.iconst 0, 1) := by decide +kernel
theorem dX7_lay_19 : decode cX7_lay 19 = .ok (.istore 5, 2) := by decide +kernel
theorem dX7_lay_21 : decode cX7_lay 21 = .ok (.iload 5, 2) := by decide +kernel
theorem dX7_lay_23 : decode cX7_lay 23 = .ok (.aload_n 1, 1) := by decide +kernel
theorem dX7_lay_24 : decode cX7_lay 24 = .ok (.getfield 23, 3) := by decide +kernel
theorem dX7_lay_27 : decode cX7_lay 27 = .ok (.if_icmp .ge 53, 3) := by decide +kernel
theorem dX7_lay_30 : decode cX7_lay 30 = .ok (.aload_n 1, 1) := by decide +kernel
theorem dX7_lay_31 : decode cX7_lay 31 = .ok (.getfield 26, 3) := by decide +kernel
theorem dX7_lay_34 : decode cX7_lay 34 = .ok (.iload 5, 2) := by decide +kernel
theorem dX7_lay_36 : decode cX7_lay 36 = .ok (.iaload, 1) := by decide +kernel
theorem dX7_lay_37 : decode cX7_lay 37 = .ok (.iload_n 2, 1) := by decide +kernel
theorem dX7_lay_38 : decode cX7_lay 38 = .ok (.irem, 1) := by decide +kernel
theorem dX7_lay_39 : decode cX7_lay 39 = .ok (.iload_n 3, 1) := by decide +kernel
theorem dX7_lay_40 : decode cX7_lay 40 = .ok (.if_icmp .ne 34, 3) := by decide +kernel
theorem dX7_lay_43 : decode cX7_lay 43 = .ok (.aload_n 0, 1) := by decide +kernel
theorem dX7_lay_44 : decode cX7_lay 44 = .ok (.getfield 9, 3) := by decide +kernel
theorem dX7_lay_47 : decode cX7_lay 47 = .ok (.aload_n 0, 1) := by decide +kernel
theorem dX7_lay_48 : decode cX7_lay 48 = .ok (.getfield 19, 3) := by decide +kernel
theorem dX7_lay_51 : decode cX7_lay 51 = .ok (.iload 5, 2) := by decide +kernel
theorem dX7_lay_53 : decode cX7_lay 53 = .ok (.iastore, 1) := by decide +kernel
theorem dX7_lay_54 : decode cX7_lay 54 = .ok (.aload_n 0, 1) := by decide +kernel
theorem dX7_lay_55 : decode cX7_lay 55 = .ok (.getfield 15, 3) := by decide +kernel
theorem dX7_lay_58 : decode cX7_lay 58 = .ok (.aload_n 0, 1) := by decide +kernel
theorem dX7_lay_59 : decode cX7_lay 59 = .ok (.getfield 19, 3) := by decide +kernel
theorem dX7_lay_62 : decode cX7_lay 62 = .ok (.lconst 0, 1) := by decide +kernel
theorem dX7_lay_63 : decode cX7_lay 63 = .ok (.lastore, 1) := by decide +kernel
theorem dX7_lay_64 : decode cX7_lay 64 = .ok (.aload_n 0, 1) := by decide +kernel
theorem dX7_lay_65 : decode cX7_lay 65 = .ok (.dup, 1) := by decide +kernel
theorem dX7_lay_66 : decode cX7_lay 66 = .ok (.getfield 19, 3) := by decide +kernel
theorem dX7_lay_69 : decode cX7_lay 69 = .ok (.iconst 1, 1) := by decide +kernel
theorem dX7_lay_70 : decode cX7_lay 70 = .ok (.iadd, 1) := by decide +kernel
theorem dX7_lay_71 : decode cX7_lay 71 = .ok (.putfield 19, 3) := by decide +kernel
theorem dX7_lay_74 : decode cX7_lay 74 = .ok (.iinc 5 1, 3) := by decide +kernel
theorem dX7_lay_77 : decode cX7_lay 77 = .ok (.goto (-56), 3) := by decide +kernel
theorem dX7_lay_80 : decode cX7_lay 80 = .ok (.aload_n 0, 1) := by decide +kernel
theorem dX7_lay_81 : decode cX7_lay 81 = .ok (.getfield 19, 3) := by decide +kernel
theorem dX7_lay_84 : decode cX7_lay 84 = .ok (.iload 4, 2) := by decide +kernel
theorem dX7_lay_86 : decode cX7_lay 86 = .ok (.if_icmp .le 26, 3) := by decide +kernel
theorem dX7_lay_89 : decode cX7_lay 89 = .ok (.aload_n 0, 1) := by decide +kernel
theorem dX7_lay_90 : decode cX7_lay 90 = .ok (.getfield 15, 3) := by decide +kernel
theorem dX7_lay_93 : decode cX7_lay 93 = .ok (.aload_n 0, 1) := by decide +kernel
theorem dX7_lay_94 : decode cX7_lay 94 = .ok (.getfield 19, 3) := by decide +kernel
theorem dX7_lay_97 : decode cX7_lay 97 = .ok (.iconst 1, 1) := by decide +kernel
theorem dX7_lay_98 : decode cX7_lay 98 = .ok (.isub, 1) := by decide +kernel
theorem dX7_lay_99 : decode cX7_lay 99 = .ok (.sipush 27720, 3) := by decide +kernel
theorem dX7_lay_102 : decode cX7_lay 102 = .ok (.aload_n 0, 1) := by decide +kernel
theorem dX7_lay_103 : decode cX7_lay 103 = .ok (.getfield 19, 3) := by decide +kernel
theorem dX7_lay_106 : decode cX7_lay 106 = .ok (.iload 4, 2) := by decide +kernel
theorem dX7_lay_108 : decode cX7_lay 108 = .ok (.isub, 1) := by decide +kernel
theorem dX7_lay_109 : decode cX7_lay 109 = .ok (.idiv, 1) := by decide +kernel
theorem dX7_lay_110 : decode cX7_lay 110 = .ok (.i2l, 1) := by decide +kernel
theorem dX7_lay_111 : decode cX7_lay 111 = .ok (.lastore, 1) := by decide +kernel
theorem dX7_lay_112 : decode cX7_lay 112 = .ok (.iinc 3 1, 3) := by decide +kernel
theorem dX7_lay_115 : decode cX7_lay 115 = .ok (.goto (-108), 3) := by decide +kernel
theorem dX7_lay_118 : decode cX7_lay 118 = .ok (.return_, 1) := by decide +kernel
theorem dX7_weigh_0 : decode cX7_weigh 0 = .ok (.lconst 0, 1) := by decide +kernel
theorem dX7_weigh_1 : decode cX7_weigh 1 = .ok (.lstore_n 2, 1) := by decide +kernel
theorem dX7_weigh_2 : decode cX7_weigh 2 = .ok (.lconst 0, 1) := by decide +kernel
theorem dX7_weigh_3 : decode cX7_weigh 3 = .ok (.lstore 4, 2) := by decide +kernel
theorem dX7_weigh_5 : decode cX7_weigh 5 = .ok (.iconst 0, 1) := by decide +kernel
theorem dX7_weigh_6 : decode cX7_weigh 6 = .ok (.istore 6, 2) := by decide +kernel
theorem dX7_weigh_8 : decode cX7_weigh 8 = .ok (.iload 6, 2) := by decide +kernel
theorem dX7_weigh_10 : decode cX7_weigh 10 = .ok (.aload_n 0, 1) := by decide +kernel
theorem dX7_weigh_11 : decode cX7_weigh 11 = .ok (.getfield 19, 3) := by decide +kernel
theorem dX7_weigh_14 : decode cX7_weigh 14 = .ok (.if_icmp .ge 55, 3) := by decide +kernel
theorem dX7_weigh_17 : decode cX7_weigh 17 = .ok (.lload 4, 2) := by decide +kernel
theorem dX7_weigh_19 : decode cX7_weigh 19 = .ok (.aload_n 1, 1) := by decide +kernel
theorem dX7_weigh_20 : decode cX7_weigh 20 = .ok (.aload_n 0, 1) := by decide +kernel
theorem dX7_weigh_21 : decode cX7_weigh 21 = .ok (.getfield 9, 3) := by decide +kernel
theorem dX7_weigh_24 : decode cX7_weigh 24 = .ok (.iload 6, 2) := by decide +kernel
theorem dX7_weigh_26 : decode cX7_weigh 26 = .ok (.iaload, 1) := by decide +kernel
theorem dX7_weigh_27 : decode cX7_weigh 27 = .ok (.iaload, 1) := by decide +kernel
theorem dX7_weigh_28 : decode cX7_weigh 28 = .ok (.i2l, 1) := by decide +kernel
theorem dX7_weigh_29 : decode cX7_weigh 29 = .ok (.ladd, 1) := by decide +kernel
theorem dX7_weigh_30 : decode cX7_weigh 30 = .ok (.lstore 4, 2) := by decide +kernel
theorem dX7_weigh_32 : decode cX7_weigh 32 = .ok (.aload_n 0, 1) := by decide +kernel
theorem dX7_weigh_33 : decode cX7_weigh 33 = .ok (.getfield 15, 3) := by decide +kernel
theorem dX7_weigh_36 : decode cX7_weigh 36 = .ok (.iload 6, 2) := by decide +kernel
theorem dX7_weigh_38 : decode cX7_weigh 38 = .ok (.laload, 1) := by decide +kernel
theorem dX7_weigh_39 : decode cX7_weigh 39 = .ok (.lconst 0, 1) := by decide +kernel
theorem dX7_weigh_40 : decode cX7_weigh 40 = .ok (.lcmp, 1) := by decide +kernel
theorem dX7_weigh_41 : decode cX7_weigh 41 = .ok (.ifCond .eq 22, 3) := by decide +kernel
theorem dX7_weigh_44 : decode cX7_weigh 44 = .ok (.lload_n 2, 1) := by decide +kernel
theorem dX7_weigh_45 : decode cX7_weigh 45 = .ok (.aload_n 0, 1) := by decide +kernel
theorem dX7_weigh_46 : decode cX7_weigh 46 = .ok (.getfield 15, 3) := by decide +kernel
theorem dX7_weigh_49 : decode cX7_weigh 49 = .ok (.iload 6, 2) := by decide +kernel
theorem dX7_weigh_51 : decode cX7_weigh 51 = .ok (.laload, 1) := by decide +kernel
theorem dX7_weigh_52 : decode cX7_weigh 52 = .ok (.lload 4, 2) := by decide +kernel
theorem dX7_weigh_54 : decode cX7_weigh 54 = .ok (.lmul, 1) := by decide +kernel
theorem dX7_weigh_55 : decode cX7_weigh 55 = .ok (.lload 4, 2) := by decide +kernel
theorem dX7_weigh_57 : decode cX7_weigh 57 = .ok (.lmul, 1) := by decide +kernel
theorem dX7_weigh_58 : decode cX7_weigh 58 = .ok (.ladd, 1) := by decide +kernel
theorem dX7_weigh_59 : decode cX7_weigh 59 = .ok (.lstore_n 2, 1) := by decide +kernel
theorem dX7_weigh_60 : decode cX7_weigh 60 = .ok (.lconst 0, 1) := by decide +kernel
theorem dX7_weigh_61 : decode cX7_weigh 61 = .ok (.lstore 4, 2) := by decide +kernel
theorem dX7_weigh_63 : decode cX7_weigh 63 = .ok (.iinc 6 1, 3) := by decide +kernel
theorem dX7_weigh_66 : decode cX7_weigh 66 = .ok (.goto (-58), 3) := by decide +kernel
theorem dX7_weigh_69 : decode cX7_weigh 69 = .ok (.lload_n 2, 1) := by decide +kernel
theorem dX7_weigh_70 : decode cX7_weigh 70 = .ok (.lreturn, 1) := by decide +kernel
theorem dX8_init_0 : decode cX8_init 0 = .ok (.aload_n 0, 1) := by decide +kernel
theorem dX8_init_1 : decode cX8_init 1 = .ok (.invokespecial 3, 3) := by decide +kernel
theorem dX8_init_4 : decode cX8_init 4 = .ok (.aload_n 0, 1) := by decide +kernel
theorem dX8_init_5 : decode cX8_init 5 = .ok (.bipush 13, 2) := by decide +kernel
theorem dX8_init_7 : decode cX8_init 7 = .ok (.anewarray 9, 3) := by decide +kernel
theorem dX8_init_10 : decode cX8_init 10 = .ok (.putfield 11, 3) := by decide +kernel
theorem dX8_init_13 : decode cX8_init 13 = .ok (.aload_n 0, 1) := by decide +kernel
theorem dX8_init_14 : decode cX8_init 14 = .ok (.iconst 2, 1) := by decide +kernel
theorem dX8_init_15 : decode cX8_init 15 = .ok (.putfield 17, 3) := by decide +kernel
theorem dX8_init_18 : decode cX8_init 18 = .ok (.aload_n 0, 1) := by decide +kernel
theorem dX8_init_19 : decode cX8_init 19 = .ok (.iconst 2, 1) := by decide +kernel
theorem dX8_init_20 : decode cX8_init 20 = .ok (.putfield 21, 3) := by decide +kernel
theorem dX8_init_23 : decode cX8_init 23 = .ok (.iconst 0, 1) := by decide +kernel
theorem dX8_init_24 : decode cX8_init 24 = .ok (.istore_n 1, 1) := by decide +kernel
theorem dX8_init_25 : decode cX8_init 25 = .ok (.iload_n 1, 1) := by decide +kernel
theorem dX8_init_26 : decode cX8_init 26 = .ok (.bipush 12, 2) := by decide +kernel
theorem dX8_init_28 : decode cX8_init 28 = .ok (.if_icmp .gt 22, 3) := by decide +kernel
theorem dX8_init_31 : decode cX8_init 31 = .ok (.aload_n 0, 1) := by decide +kernel
theorem dX8_init_32 : decode cX8_init 32 = .ok (.getfield 11, 3) := by decide +kernel
theorem dX8_init_35 : decode cX8_init 35 = .ok (.iload_n 1, 1) := by decide +kernel
theorem dX8_init_36 : decode cX8_init 36 = .ok (.new 9, 3) := by decide +kernel
theorem dX8_init_39 : decode cX8_init 39 = .ok (.dup, 1) := by decide +kernel
theorem dX8_init_40 : decode cX8_init 40 = .ok (.invokespecial 24, 3) := by decide +kernel
theorem dX8_init_43 : decode cX8_init 43 = .ok (.aastore, 1) := by decide +kernel
theorem dX8_init_44 : decode cX8_init 44 = .ok (.iinc 1 1, 3) := by decide +kernel
theorem dX8_init_47 : decode cX8_init 47 = .ok (.goto (-22), 3) := by decide +kernel
theorem dX8_init_50 : decode cX8_init 50 = .ok (.return_, 1) := by decide +kernel
theorem dX8_lay_0 : decode cX8_lay 0 = .ok (.aload_n 0, 1) := by decide +kernel
theorem dX8_lay_1 : decode cX8_lay 1 = .ok (.iconst 2, 1) := by decide +kernel
theorem dX8_lay_2 : decode cX8_lay 2 = .ok (.bipush 12, 2) := by decide +kernel
theorem dX8_lay_4 : decode cX8_lay 4 = .ok (.iload_n 2, 1) := by decide +kernel
theorem dX8_lay_5 : decode cX8_lay 5 = .ok (.invokestatic 25, 3) := by decide +kernel
theorem dX8_lay_8 : decode cX8_lay 8 = .ok (.invokestatic 31, 3) := by decide +kernel
theorem dX8_lay_11 : decode cX8_lay 11 = .ok (.putfield 17, 3) := by decide +kernel
theorem dX8_lay_14 : decode cX8_lay 14 = .ok (.aload_n 0, 1) := by decide +kernel
theorem dX8_lay_15 : decode cX8_lay 15 = .ok (.iconst 2, 1) := by decide +kernel
theorem dX8_lay_16 : decode cX8_lay 16 = .ok (.bipush 12, 2) := by decide +kernel
theorem dX8_lay_18 : decode cX8_lay 18 = .ok (.iload_n 3, 1) := by decide +kernel
theorem dX8_lay_19 : decode cX8_lay 19 = .ok (.invokestatic 25, 3) := by decide +kernel
theorem dX8_lay_22 : decode cX8_lay 22 = .ok (.invokestatic 31, 3) := by decide +kernel
theorem dX8_lay_25 : decode cX8_lay 25 = .ok (.putfield 21, 3) := by decide +kernel
theorem dX8_lay_28 : decode cX8_lay 28 = .ok (.aload_n 0, 1) := by decide +kernel
theorem dX8_lay_29 : decode cX8_lay 29 = .ok (.getfield 17, 3) := by decide +kernel
theorem dX8_lay_32 : decode cX8_lay 32 = .ok (.istore 4, 2) := by decide +kernel
theorem dX8_lay_34 : decode cX8_lay 34 = .ok (.iload 4, 2) := by decide +kernel
theorem dX8_lay_36 : decode cX8_lay 36 = .ok (.aload_n 0, 1) := by decide +kernel
theorem dX8_lay_37 : decode cX8_lay 37 = .ok (.getfield 21, 3) := by decide +kernel
theorem dX8_lay_40 : decode cX8_lay 40 = .ok (.if_icmp .gt 22, 3) := by decide +kernel
theorem dX8_lay_43 : decode cX8_lay 43 = .ok (.aload_n 0, 1) := by decide +kernel
theorem dX8_lay_44 : decode cX8_lay 44 = .ok (.getfield 11, 3) := by decide +kernel
theorem dX8_lay_47 : decode cX8_lay 47 = .ok (.iload 4, 2) := by decide +kernel
theorem dX8_lay_49 : decode cX8_lay 49 = .ok (.aaload, 1) := by decide +kernel
theorem dX8_lay_50 : decode cX8_lay 50 = .ok (.aload_n 1, 1) := by decide +kernel
theorem dX8_lay_51 : decode cX8_lay 51 = .ok (.iload 4, 2) := by decide +kernel
theorem dX8_lay_53 : decode cX8_lay 53 = .ok (.invokevirtual 34, 3) := by decide +kernel
theorem dX8_lay_56 : decode cX8_lay 56 = .ok (.iinc 4 1, 3) := by decide +kernel
theorem dX8_lay_59 : decode cX8_lay 59 = .ok (.goto (-25), 3) := by decide +kernel
theorem dX8_lay_62 : decode cX8_lay 62 = .ok (.return_, 1) := by decide +kernel
theorem dX8_firstGreatest_0 : decode cX8_firstGreatest 0 = .ok (.aload_n 0, 1) := by decide +kernel
theorem dX8_firstGreatest_1 : decode cX8_firstGreatest 1 = .ok (.getfield 17, 3) := by decide +kernel
theorem dX8_firstGreatest_4 : decode cX8_firstGreatest 4 = .ok (.istore_n 2, 1) := by decide +kernel
theorem dX8_firstGreatest_5 : decode cX8_firstGreatest 5 = .ok (.ldc2_w 38, 3) := by decide +kernel
theorem dX8_firstGreatest_8 : decode cX8_firstGreatest 8 = .ok (.lstore_n 3, 1) := by decide +kernel
theorem dX8_firstGreatest_9 : decode cX8_firstGreatest 9 = .ok (.aload_n 0, 1) := by decide +kernel
theorem dX8_firstGreatest_10 : decode cX8_firstGreatest 10 = .ok (.getfield 17, 3) := by decide +kernel
theorem dX8_firstGreatest_13 : decode cX8_firstGreatest 13 = .ok (.istore 5, 2) := by decide +kernel
theorem dX8_firstGreatest_15 : decode cX8_firstGreatest 15 = .ok (.iload 5, 2) := by decide +kernel
theorem dX8_firstGreatest_17 : decode cX8_firstGreatest 17 = .ok (.aload_n 0, 1) := by decide +kernel
theorem dX8_firstGreatest_18 : decode cX8_firstGreatest 18 = .ok (.getfield 21, 3) := by decide +kernel
theorem dX8_firstGreatest_21 : decode cX8_firstGreatest 21 = .ok (.if_icmp .gt 35, 3) := by decide +kernel
theorem dX8_firstGreatest_24 : decode cX8_firstGreatest 24 = .ok (.aload_n 0, 1) := by decide +kernel
theorem dX8_firstGreatest_25 : decode cX8_firstGreatest 25 = .ok (.getfield 11, 3) := by decide +kernel
theorem dX8_firstGreatest_28 : decode cX8_firstGreatest 28 = .ok (.iload 5, 2) := by decide +kernel
theorem dX8_firstGreatest_30 : decode cX8_firstGreatest 30 = .ok (.aaload, 1) := by decide +kernel
theorem dX8_firstGreatest_31 : decode cX8_firstGreatest 31 = .ok (.aload_n 1, 1) := by decide +kernel
theorem dX8_firstGreatest_32 : decode cX8_firstGreatest 32 = .ok (.invokevirtual 40, 3) := by decide +kernel
theorem dX8_firstGreatest_35 : decode cX8_firstGreatest 35 = .ok (.lstore 6, 2) := by decide +kernel
theorem dX8_firstGreatest_37 : decode cX8_firstGreatest 37 = .ok (.lload 6, 2) := by decide +kernel
theorem dX8_firstGreatest_39 : decode cX8_firstGreatest 39 = .ok (.lload_n 3, 1) := by decide +kernel
theorem dX8_firstGreatest_40 : decode cX8_firstGreatest 40 = .ok (.lcmp, 1) := by decide +kernel
theorem dX8_firstGreatest_41 : decode cX8_firstGreatest 41 = .ok (.ifCond .le 9, 3) := by decide +kernel
theorem dX8_firstGreatest_44 : decode cX8_firstGreatest 44 = .ok (.lload 6, 2) := by decide +kernel
theorem dX8_firstGreatest_46 : decode cX8_firstGreatest 46 = .ok (.lstore_n 3, 1) := by decide +kernel
theorem dX8_firstGreatest_47 : decode cX8_firstGreatest 47 = .ok (.iload 5, 2) := by decide +kernel
theorem dX8_firstGreatest_49 : decode cX8_firstGreatest 49 = .ok (.istore_n 2, 1) := by decide +kernel
theorem dX8_firstGreatest_50 : decode cX8_firstGreatest 50 = .ok (.iinc 5 1, 3) := by decide +kernel
theorem dX8_firstGreatest_53 : decode cX8_firstGreatest 53 = .ok (.goto (-38), 3) := by decide +kernel
theorem dX8_firstGreatest_56 : decode cX8_firstGreatest 56 = .ok (.iload_n 2, 1) := by decide +kernel
theorem dX8_firstGreatest_57 : decode cX8_firstGreatest 57 = .ok (.ireturn, 1) := by decide +kernel
theorem dX8_greatest_0 : decode cX8_greatest 0 = .ok (.aload_n 0, 1) := by decide +kernel
theorem dX8_greatest_1 : decode cX8_greatest 1 = .ok (.getfield 11, 3) := by decide +kernel
theorem dX8_greatest_4 : decode cX8_greatest 4 = .ok (.aload_n 0, 1) := by decide +kernel
theorem dX8_greatest_5 : decode cX8_greatest 5 = .ok (.aload_n 1, 1) := by decide +kernel
theorem dX8_greatest_6 : decode cX8_greatest 6 = .ok (.invokevirtual 44, 3) := by decide +kernel
theorem dX8_greatest_9 : decode cX8_greatest 9 = .ok (.aaload, 1) := by decide +kernel
theorem dX8_greatest_10 : decode cX8_greatest 10 = .ok (.aload_n 1, 1) := by decide +kernel
theorem dX8_greatest_11 : decode cX8_greatest 11 = .ok (.invokevirtual 40, 3) := by decide +kernel
theorem dX8_greatest_14 : decode cX8_greatest 14 = .ok (.lreturn, 1) := by decide +kernel
theorem dX8_reach_0 : decode cX8_reach 0 = .ok (.aload_n 0, 1) := by decide +kernel
theorem dX8_reach_1 : decode cX8_reach 1 = .ok (.getfield 21, 3) := by decide +kernel
theorem dX8_reach_4 : decode cX8_reach 4 = .ok (.istore 4, 2) := by decide +kernel
theorem dX8_reach_6 : decode cX8_reach 6 = .ok (.iload 4, 2) := by decide +kernel
theorem dX8_reach_8 : decode cX8_reach 8 = .ok (.aload_n 0, 1) := by decide +kernel
theorem dX8_reach_9 : decode cX8_reach 9 = .ok (.getfield 17, 3) := by decide +kernel
theorem dX8_reach_12 : decode cX8_reach 12 = .ok (.if_icmp .lt 27, 3) := by decide +kernel
theorem dX8_reach_15 : decode cX8_reach 15 = .ok (.aload_n 0, 1) := by decide +kernel
