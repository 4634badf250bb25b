theorem dX0_init_0 : decode cX0_init 0 = .ok (.aload_n 0, 1) := by decide +kernel
theorem dX0_init_1 : decode cX0_init 1 = .ok (.invokespecial 3, 3) := by decide +kernel
theorem dX0_init_4 : decode cX0_init 4 = .ok (.aload_n 0, 1) := by decide +kernel
theorem dX0_init_5 : decode cX0_init 5 = .ok (.bipush 6, 2) := by decide +kernel
theorem dX0_init_7 : decode cX0_init 7 = .ok (.anewarray 9, 3) := by decide +kernel
theorem dX0_init_10 : decode cX0_init 10 = .ok (.putfield 11, 3) := by decide +kernel
theorem dX0_init_13 : decode cX0_init 13 = .ok (.iconst 0, 1) := by decide +kernel
theorem dX0_init_14 : decode cX0_init 14 = .ok (.istore_n 1, 1) := by decide +kernel
theorem dX0_init_15 : decode cX0_init 15 = .ok (.iload_n 1, 1) := by decide +kernel
theorem dX0_init_16 : decode cX0_init 16 = .ok (.aload_n 0, 1) := by decide +kernel
theorem dX0_init_17 : decode cX0_init 17 = .ok (.getfield 11, 3) := by decide +kernel
theorem dX0_init_20 : decode cX0_init 20 = .ok (.arraylength, 1) := by decide +kernel
theorem dX0_init_21 : decode cX0_init 21 = .ok (.if_icmp .ge 22, 3) := by decide +kernel
theorem dX0_init_24 : decode cX0_init 24 = .ok (.aload_n 0, 1) := by decide +kernel
theorem dX0_init_25 : decode cX0_init 25 = .ok (.getfield 11, 3) := by decide +kernel
theorem dX0_init_28 : decode cX0_init 28 = .ok (.iload_n 1, 1) := by decide +kernel
theorem dX0_init_29 : decode cX0_init 29 = .ok (.new 9, 3) := by decide +kernel
theorem dX0_init_32 : decode cX0_init 32 = .ok (.dup, 1) := by decide +kernel
theorem dX0_init_33 : decode cX0_init 33 = .ok (.invokespecial 17, 3) := by decide +kernel
theorem dX0_init_36 : decode cX0_init 36 = .ok (.aastore, 1) := by decide +kernel
theorem dX0_init_37 : decode cX0_init 37 = .ok (.iinc 1 1, 3) := by decide +kernel
theorem dX0_init_40 : decode cX0_init 40 = .ok (.goto (-25), 3) := by decide +kernel
theorem dX0_init_43 : decode cX0_init 43 = .ok (.aload_n 0, 1) := by decide +kernel
theorem dX0_init_44 : decode cX0_init 44 = .ok (.iconst 0, 1) := by decide +kernel
theorem dX0_init_45 : decode cX0_init 45 = .ok (.putfield 18, 3) := by decide +kernel
theorem dX0_init_48 : decode cX0_init 48 = .ok (.return_, 1) := by decide +kernel
theorem dX0_size_0 : decode cX0_size 0 = .ok (.aload_n 0, 1) := by decide +kernel
theorem dX0_size_1 : decode cX0_size 1 = .ok (.getfield 18, 3) := by decide +kernel
theorem dX0_size_4 : decode cX0_size 4 = .ok (.ireturn, 1) := by decide +kernel
theorem dX0_save_0 : decode cX0_save 0 = .ok (.aload_n 0, 1) := by decide +kernel
theorem dX0_save_1 : decode cX0_save 1 = .ok (.getfield 18, 3) := by decide +kernel
theorem dX0_save_4 : decode cX0_save 4 = .ok (.aload_n 0, 1) := by decide +kernel
theorem dX0_save_5 : decode cX0_save 5 = .ok (.getfield 11, 3) := by decide +kernel
theorem dX0_save_8 : decode cX0_save 8 = .ok (.arraylength, 1) := by decide +kernel
theorem dX0_save_9 : decode cX0_save 9 = .ok (.if_icmp .lt 7, 3) := by decide +kernel
theorem dX0_save_12 : decode cX0_save 12 = .ok (.aload_n 0, 1) := by decide +kernel
theorem dX0_save_13 : decode cX0_save 13 = .ok (.invokevirtual 22, 3) := by decide +kernel
theorem dX0_save_16 : decode cX0_save 16 = .ok (.aload_n 0, 1) := by decide +kernel
theorem dX0_save_17 : decode cX0_save 17 = .ok (.aload_n 0, 1) := by decide +kernel
theorem dX0_save_18 : decode cX0_save 18 = .ok (.getfield 18, 3) := by decide +kernel
theorem dX0_save_21 : decode cX0_save 21 = .ok (.invokevirtual 25, 3) := by decide +kernel
theorem dX0_save_24 : decode cX0_save 24 = .ok (.astore_n 2, 1) := by decide +kernel
theorem dX0_save_25 : decode cX0_save 25 = .ok (.aload_n 2, 1) := by decide +kernel
theorem dX0_save_26 : decode cX0_save 26 = .ok (.ifnull 18, 3) := by decide +kernel
theorem dX0_save_29 : decode cX0_save 29 = .ok (.aload_n 2, 1) := by decide +kernel
theorem dX0_save_30 : decode cX0_save 30 = .ok (.aload_n 1, 1) := by decide +kernel
theorem dX0_save_31 : decode cX0_save 31 = .ok (.invokevirtual 29, 3) := by decide +kernel
theorem dX0_save_34 : decode cX0_save 34 = .ok (.aload_n 0, 1) := by decide +kernel
theorem dX0_save_35 : decode cX0_save 35 = .ok (.dup, 1) := by decide +kernel
theorem dX0_save_36 : decode cX0_save 36 = .ok (.getfield 18, 3) := by decide +kernel
theorem dX0_save_39 : decode cX0_save 39 = .ok (.iconst 1, 1) := by decide +kernel
theorem dX0_save_40 : decode cX0_save 40 = .ok (.iadd, 1) := by decide +kernel
theorem dX0_save_41 : decode cX0_save 41 = .ok (.putfield 18, 3) := by decide +kernel
theorem dX0_save_44 : decode cX0_save 44 = .ok (.return_, 1) := by decide +kernel
theorem dX0_restoreLatest_0 : decode cX0_restoreLatest 0 = .ok (.aload_n 0, 1) := by decide +kernel
theorem dX0_restoreLatest_1 : decode cX0_restoreLatest 1 = .ok (.aload_n 0, 1) := by decide +kernel
theorem dX0_restoreLatest_2 : decode cX0_restoreLatest 2 = .ok (.getfield 18, 3) := by decide +kernel
theorem dX0_restoreLatest_5 : decode cX0_restoreLatest 5 = .ok (.iconst 1, 1) := by decide +kernel
theorem dX0_restoreLatest_6 : decode cX0_restoreLatest 6 = .ok (.isub, 1) := by decide +kernel
theorem dX0_restoreLatest_7 : decode cX0_restoreLatest 7 = .ok (.invokevirtual 25, 3) := by decide +kernel
theorem dX0_restoreLatest_10 : decode cX0_restoreLatest 10 = .ok (.astore_n 2, 1) := by decide +kernel
theorem dX0_restoreLatest_11 : decode cX0_restoreLatest 11 = .ok (.aload_n 2, 1) := by decide +kernel
theorem dX0_restoreLatest_12 : decode cX0_restoreLatest 12 = .ok (.ifnull 18, 3) := by decide +kernel
theorem dX0_restoreLatest_15 : decode cX0_restoreLatest 15 = .ok (.aload_n 1, 1) := by decide +kernel
theorem dX0_restoreLatest_16 : decode cX0_restoreLatest 16 = .ok (.aload_n 2, 1) := by decide +kernel
theorem dX0_restoreLatest_17 : decode cX0_restoreLatest 17 = .ok (.invokevirtual 29, 3) := by decide +kernel
theorem dX0_restoreLatest_20 : decode cX0_restoreLatest 20 = .ok (.aload_n 0, 1) := by decide +kernel
theorem dX0_restoreLatest_21 : decode cX0_restoreLatest 21 = .ok (.dup, 1) := by decide +kernel
theorem dX0_restoreLatest_22 : decode cX0_restoreLatest 22 = .ok (.getfield 18, 3) := by decide +kernel
theorem dX0_restoreLatest_25 : decode cX0_restoreLatest 25 = .ok (.iconst 1, 1) := by decide +kernel
theorem dX0_restoreLatest_26 : decode cX0_restoreLatest 26 = .ok (.isub, 1) := by decide +kernel
theorem dX0_restoreLatest_27 : decode cX0_restoreLatest 27 = .ok (.putfield 18, 3) := by decide +kernel
theorem dX0_restoreLatest_30 : decode cX0_restoreLatest 30 = .ok (.return_, 1) := by decide +kernel
theorem dX0_rowAt_0 : decode cX0_rowAt 0 = .ok (.iload_n 1, 1) := by decide +kernel
theorem dX0_rowAt_1 : decode cX0_rowAt 1 = .ok (.ifCond .lt 21, 3) := by decide +kernel
theorem dX0_rowAt_4 : decode cX0_rowAt 4 = .ok (.iload_n 1, 1) := by decide +kernel
theorem dX0_rowAt_5 : decode cX0_rowAt 5 = .ok (.aload_n 0, 1) := by decide +kernel
theorem dX0_rowAt_6 : decode cX0_rowAt 6 = .ok (.getfield 11, 3) := by decide +kernel
theorem dX0_rowAt_9 : decode cX0_rowAt 9 = .ok (.arraylength, 1) := by decide +kernel
theorem dX0_rowAt_10 : decode cX0_rowAt 10 = .ok (.if_icmp .ge 12, 3) := by decide +kernel
theorem dX0_rowAt_13 : decode cX0_rowAt 13 = .ok (.aload_n 0, 1) := by decide +kernel
theorem dX0_rowAt_14 : decode cX0_rowAt 14 = .ok (.getfield 11, 3) := by decide +kernel
theorem dX0_rowAt_17 : decode cX0_rowAt 17 = .ok (.iload_n 1, 1) := by decide +kernel
theorem dX0_rowAt_18 : decode cX0_rowAt 18 = .ok (.aaload, 1) := by decide +kernel
theorem dX0_rowAt_19 : decode cX0_rowAt 19 = .ok (.goto 4, 3) := by decide +kernel
theorem dX0_rowAt_22 : decode cX0_rowAt 22 = .ok (.aconst_null, 1) := by decide +kernel
theorem dX0_rowAt_23 : decode cX0_rowAt 23 = .ok (.areturn, 1) := by decide +kernel
theorem dX0_dropOldest_0 : decode cX0_dropOldest 0 = .ok (.aload_n 0, 1) := by decide +kernel
theorem dX0_dropOldest_1 : decode cX0_dropOldest 1 = .ok (.iconst 0, 1) := by decide +kernel
theorem dX0_dropOldest_2 : decode cX0_dropOldest 2 = .ok (.invokevirtual 25, 3) := by decide +kernel
theorem dX0_dropOldest_5 : decode cX0_dropOldest 5 = .ok (.astore_n 1, 1) := by decide +kernel
theorem dX0_dropOldest_6 : decode cX0_dropOldest 6 = .ok (.iconst 1, 1) := by decide +kernel
theorem dX0_dropOldest_7 : decode cX0_dropOldest 7 = .ok (.istore_n 2, 1) := by decide +kernel
theorem dX0_dropOldest_8 : decode cX0_dropOldest 8 = .ok (.iload_n 2, 1) := by decide +kernel
theorem dX0_dropOldest_9 : decode cX0_dropOldest 9 = .ok (.aload_n 0, 1) := by decide +kernel
theorem dX0_dropOldest_10 : decode cX0_dropOldest 10 = .ok (.getfield 11, 3) := by decide +kernel
theorem dX0_dropOldest_13 : decode cX0_dropOldest 13 = .ok (.arraylength, 1) := by decide +kernel
theorem dX0_dropOldest_14 : decode cX0_dropOldest 14 = .ok (.if_icmp .ge 23, 3) := by decide +kernel
theorem dX0_dropOldest_17 : decode cX0_dropOldest 17 = .ok (.aload_n 0, 1) := by decide +kernel
theorem dX0_dropOldest_18 : decode cX0_dropOldest 18 = .ok (.getfield 11, 3) := by decide +kernel
theorem dX0_dropOldest_21 : decode cX0_dropOldest 21 = .ok (.iload_n 2, 1) := by decide +kernel
theorem dX0_dropOldest_22 : decode cX0_dropOldest 22 = .ok (.iconst 1, 1) := by decide +kernel
theorem dX0_dropOldest_23 : decode cX0_dropOldest 23 = .ok (.isub, 1) := by decide +kernel
theorem dX0_dropOldest_24 : decode cX0_dropOldest 24 = .ok (.aload_n 0, 1) := by decide +kernel
theorem dX0_dropOldest_25 : decode cX0_dropOldest 25 = .ok (.getfield 11, 3) := by decide +kernel
theorem dX0_dropOldest_28 : decode cX0_dropOldest 28 = .ok (.iload_n 2, 1) := by decide +kernel
theorem dX0_dropOldest_29 : decode cX0_dropOldest 29 = .ok (.aaload, 1) := by decide +kernel
theorem dX0_dropOldest_30 : decode cX0_dropOldest 30 = .ok (.aastore, 1) := by decide +kernel
theorem dX0_dropOldest_31 : decode cX0_dropOldest 31 = .ok (.iinc 2 1, 3) := by decide +kernel
theorem dX0_dropOldest_34 : decode cX0_dropOldest 34 = .ok (.goto (-26), 3) := by decide +kernel
theorem dX0_dropOldest_37 : decode cX0_dropOldest 37 = .ok (.aload_n 0, 1) := by decide +kernel
theorem dX0_dropOldest_38 : decode cX0_dropOldest 38 = .ok (.aload_n 0, 1) := by decide +kernel
theorem dX0_dropOldest_39 : decode cX0_dropOldest 39 = .ok (.getfield 11, 3) := by decide +kernel
theorem dX0_dropOldest_42 : decode cX0_dropOldest 42 = .ok (.arraylength, 1) := by decide +kernel
theorem dX0_dropOldest_43 : decode cX0_dropOldest 43 = .ok (.iconst 1, 1) := by decide +kernel
theorem dX0_dropOldest_44 : decode cX0_dropOldest 44 = .ok (.isub, 1) := by decide +kernel
theorem dX0_dropOldest_45 : decode cX0_dropOldest 45 = .ok (.putfield 18, 3) := by decide +kernel
theorem dX0_dropOldest_48 : decode cX0_dropOldest 48 = .ok (.aload_n 0, 1) := by decide +kernel
theorem dX0_dropOldest_49 : decode cX0_dropOldest 49 = .ok (.getfield 18, 3) := by decide +kernel
theorem dX0_dropOldest_52 : decode cX0_dropOldest 52 = .ok (.ifCond .lt 25, 3) := by decide +kernel
theorem dX0_dropOldest_55 : decode cX0_dropOldest 55 = .ok (.aload_n 0, 1) := by decide +kernel
theorem dX0_dropOldest_56 : decode cX0_dropOldest 56 = .ok (.getfield 18, 3) := by decide +kernel
theorem dX0_dropOldest_59 : decode cX0_dropOldest 59 = .ok (.aload_n 0, 1) := by decide +kernel
theorem dX0_dropOldest_60 : decode cX0_dropOldest 60 = .ok (.getfield 11, 3) := by decide +kernel
theorem dX0_dropOldest_63 : decode cX0_dropOldest 63 = .ok (.arraylength, 1) := by decide +kernel
theorem dX0_dropOldest_64 : decode cX0_dropOldest 64 = .ok (.if_icmp .ge 13, 3) := by decide +kernel
theorem dX0_dropOldest_67 : decode cX0_dropOldest 67 = .ok (.aload_n 0, 1) := by decide +kernel
theorem dX0_dropOldest_68 : decode cX0_dropOldest 68 = .ok (.getfield 11, 3) := by decide +kernel
theorem dX0_dropOldest_71 : decode cX0_dropOldest 71 = .ok (.aload_n 0, 1) := by decide +kernel
theorem dX0_dropOldest_72 : decode cX0_dropOldest 72 = .ok (.getfield 18, 3) := by decide +kernel
theorem dX0_dropOldest_75 : decode cX0_dropOldest 75 = .ok (.aload_n 1, 1) := by decide +kernel
theorem dX0_dropOldest_76 : decode cX0_dropOldest 76 = .ok (.aastore, 1) := by decide +kernel
theorem dX0_dropOldest_77 : decode cX0_dropOldest 77 = .ok (.return_, 1) := by decide +kernel
theorem dX1_remainder_0 : decode cX1_remainder 0 = .ok (.iload_n 1, 1) := by decide +kernel
theorem dX1_remainder_1 : decode cX1_remainder 1 = .ok (.ifCond .le 9, 3) := by decide +kernel
theorem dX1_remainder_4 : decode cX1_remainder 4 = .ok (.iload_n 0, 1) := by decide +kernel
theorem dX1_remainder_5 : decode cX1_remainder 5 = .ok (.iload_n 1, 1) := by decide +kernel
theorem dX1_remainder_6 : decode cX1_remainder 6 = .ok (.irem, 1) := by decide +kernel
theorem dX1_remainder_7 : decode cX1_remainder 7 = .ok (.goto 4, 3) := by decide +kernel
theorem dX1_remainder_10 : decode cX1_remainder 10 = .ok (.iconst 0, 1) := by decide +kernel
theorem dX1_remainder_11 : decode cX1_remainder 11 = .ok (.ireturn, 1) := by decide +kernel
theorem dX1_greatestCommonDivisor_0 : decode cX1_greatestCommonDivisor 0 = .ok (.iload_n 0, 1) := by decide +kernel
theorem dX1_greatestCommonDivisor_1 : decode cX1_greatestCommonDivisor 1 = .ok (.istore_n 2, 1) := by decide +kernel
theorem dX1_greatestCommonDivisor_2 : decode cX1_greatestCommonDivisor 2 = .ok (.iload_n 1, 1) := by decide +kernel
theorem dX1_greatestCommonDivisor_3 : decode cX1_greatestCommonDivisor 3 = .ok (.istore_n 3, 1) := by decide +kernel
theorem dX1_greatestCommonDivisor_4 : decode cX1_greatestCommonDivisor 4 = .ok (.iconst 0, 1) := by decide +kernel
theorem dX1_greatestCommonDivisor_5 : decode cX1_greatestCommonDivisor 5 = .ok (.istore 4, 2) := by decide +kernel
theorem dX1_greatestCommonDivisor_7 : decode cX1_greatestCommonDivisor 7 = .ok (.iload 4, 2) := by decide +kernel
theorem dX1_greatestCommonDivisor_9 : decode cX1_greatestCommonDivisor 9 = .ok (.bipush 64, 2) := by decide +kernel
theorem dX1_greatestCommonDivisor_11 : decode cX1_greatestCommonDivisor 11 = .ok (.if_icmp .ge 23, 3) := by decide +kernel
theorem dX1_greatestCommonDivisor_14 : decode cX1_greatestCommonDivisor 14 = .ok (.iload_n 3, 1) := by decide +kernel
theorem dX1_greatestCommonDivisor_15 : decode cX1_greatestCommonDivisor 15 = .ok (.ifCond .le 19, 3) := by decide +kernel
theorem dX1_greatestCommonDivisor_18 : decode cX1_greatestCommonDivisor 18 = .ok (.iload_n 2, 1) := by decide +kernel
theorem dX1_greatestCommonDivisor_19 : decode cX1_greatestCommonDivisor 19 = .ok (.iload_n 3, 1) := by decide +kernel
theorem dX1_greatestCommonDivisor_20 : decode cX1_greatestCommonDivisor 20 = .ok (.irem, 1) := by decide +kernel
theorem dX1_greatestCommonDivisor_21 : decode cX1_greatestCommonDivisor 21 = .ok (.istore 5, 2) := by decide +kernel
theorem dX1_greatestCommonDivisor_23 : decode cX1_greatestCommonDivisor 23 = .ok (.iload_n 3, 1) := by decide +kernel
theorem dX1_greatestCommonDivisor_24 : decode cX1_greatestCommonDivisor 24 = .ok (.istore_n 2, 1) := by decide +kernel
theorem dX1_greatestCommonDivisor_25 : decode cX1_greatestCommonDivisor 25 = .ok (.iload 5, 2) := by decide +kernel
theorem dX1_greatestCommonDivisor_27 : decode cX1_greatestCommonDivisor 27 = .ok (.istore_n 3, 1) := by decide +kernel
theorem dX1_greatestCommonDivisor_28 : decode cX1_greatestCommonDivisor 28 = .ok (.iinc 4 1, 3) := by decide +kernel
theorem dX1_greatestCommonDivisor_31 : decode cX1_greatestCommonDivisor 31 = .ok (.goto (-24), 3) := by decide +kernel
theorem dX1_greatestCommonDivisor_34 : decode cX1_greatestCommonDivisor 34 = .ok (.iload_n 2, 1) := by decide +kernel
theorem dX1_greatestCommonDivisor_35 : decode cX1_greatestCommonDivisor 35 = .ok (.ireturn, 1) := by decide +kernel
theorem dX1_leastCommonMultiple_0 : decode cX1_leastCommonMultiple 0 = .ok (.iload_n 0, 1) := by decide +kernel
theorem dX1_leastCommonMultiple_1 : decode cX1_leastCommonMultiple 1 = .ok (.iload_n 1, 1) := by decide +kernel
theorem dX1_leastCommonMultiple_2 : decode cX1_leastCommonMultiple 2 = .ok (.invokestatic 11, 3) := by decide +kernel
theorem dX1_leastCommonMultiple_5 : decode cX1_leastCommonMultiple 5 = .ok (.istore_n 2, 1) := by decide +kernel
theorem dX1_leastCommonMultiple_6 : decode cX1_leastCommonMultiple 6 = .ok (.iload_n 2, 1) := by decide +kernel
theorem dX1_leastCommonMultiple_7 : decode cX1_leastCommonMultiple 7 = .ok (.ifCond .le 11, 3) := by decide +kernel
theorem dX1_leastCommonMultiple_10 : decode cX1_leastCommonMultiple 10 = .ok (.iload_n 0, 1) := by decide +kernel
theorem dX1_leastCommonMultiple_11 : decode cX1_leastCommonMultiple 11 = .ok (.iload_n 2, 1) := by decide +kernel
theorem dX1_leastCommonMultiple_12 : decode cX1_leastCommonMultiple 12 = .ok (.idiv, 1) := by decide +kernel
theorem dX1_leastCommonMultiple_13 : decode cX1_leastCommonMultiple 13 = .ok (.iload_n 1, 1) := by decide +kernel
theorem dX1_leastCommonMultiple_14 : decode cX1_leastCommonMultiple 14 = .ok (.imul, 1) := by decide +kernel
theorem dX1_leastCommonMultiple_15 : decode cX1_leastCommonMultiple 15 = .ok (.goto 4, 3) := by decide +kernel
theorem dX1_leastCommonMultiple_18 : decode cX1_leastCommonMultiple 18 = .ok (.iconst 0, 1) := by decide +kernel
theorem dX1_leastCommonMultiple_19 : decode cX1_leastCommonMultiple 19 = .ok (.ireturn, 1) := by decide +kernel
theorem dX1_meetByRemainders_0 : decode cX1_meetByRemainders 0 = .ok (.iload_n 0, 1) := by decide +kernel
theorem dX1_meetByRemainders_1 : decode cX1_meetByRemainders 1 = .ok (.iload_n 2, 1) := by decide +kernel
theorem dX1_meetByRemainders_2 : decode cX1_meetByRemainders 2 = .ok (.invokestatic 11, 3) := by decide +kernel
theorem dX1_meetByRemainders_5 : decode cX1_meetByRemainders 5 = .ok (.istore 4, 2) := by decide +kernel
theorem dX1_meetByRemainders_7 : decode cX1_meetByRemainders 7 = .ok (.iload_n 1, 1) := by decide +kernel
theorem dX1_meetByRemainders_8 : decode cX1_meetByRemainders 8 = .ok (.iload_n 3, 1) := by decide +kernel
theorem dX1_meetByRemainders_9 : decode cX1_meetByRemainders 9 = .ok (.isub, 1) := by decide +kernel
theorem dX1_meetByRemainders_10 : decode cX1_meetByRemainders 10 = .ok (.iload 4, 2) := by decide +kernel
theorem dX1_meetByRemainders_12 : decode cX1_meetByRemainders 12 = .ok (.invokestatic 15, 3) := by decide +kernel
theorem dX1_meetByRemainders_15 : decode cX1_meetByRemainders 15 = .ok (.ifCond .eq 5, 3) := by decide +kernel
theorem dX1_meetByRemainders_18 : decode cX1_meetByRemainders 18 = .ok (.iconst (-1), 1) := by decide +kernel
theorem dX1_meetByRemainders_19 : decode cX1_meetByRemainders 19 = .ok (.ireturn, 1) := by decide +kernel
theorem dX1_meetByRemainders_20 : decode cX1_meetByRemainders 20 = .ok (.iload_n 1, 1) := by decide +kernel
theorem dX1_meetByRemainders_21 : decode cX1_meetByRemainders 21 = .ok (.istore 5, 2) := by decide +kernel
theorem dX1_meetByRemainders_23 : decode cX1_meetByRemainders 23 = .ok (.iconst 0, 1) := by decide +kernel
theorem dX1_meetByRemainders_24 : decode cX1_meetByRemainders 24 = .ok (.istore 6, 2) := by decide +kernel
theorem dX1_meetByRemainders_26 : decode cX1_meetByRemainders 26 = .ok (.iload 6, 2) := by decide +kernel
theorem dX1_meetByRemainders_28 : decode cX1_meetByRemainders 28 = .ok (.iload_n 2, 1) := by decide +kernel
theorem dX1_meetByRemainders_29 : decode cX1_meetByRemainders 29 = .ok (.if_icmp .ge 34, 3) := by decide +kernel
theorem dX1_meetByRemainders_32 : decode cX1_meetByRemainders 32 = .ok (.iload 5, 2) := by decide +kernel
theorem dX1_meetByRemainders_34 : decode cX1_meetByRemainders 34 = .ok (.iload_n 3, 1) := by decide +kernel
theorem dX1_meetByRemainders_35 : decode cX1_meetByRemainders 35 = .ok (.if_icmp .lt 16, 3) := by decide +kernel
theorem dX1_meetByRemainders_38 : decode cX1_meetByRemainders 38 = .ok (.iload 5, 2) := by decide +kernel
theorem dX1_meetByRemainders_40 : decode cX1_meetByRemainders 40 = .ok (.iload_n 2, 1) := by decide +kernel
theorem dX1_meetByRemainders_41 : decode cX1_meetByRemainders 41 = .ok (.invokestatic 15, 3) := by decide +kernel
theorem dX1_meetByRemainders_44 : decode cX1_meetByRemainders 44 = .ok (.iload_n 3, 1) := by decide +kernel
theorem dX1_meetByRemainders_45 : decode cX1_meetByRemainders 45 = .ok (.if_icmp .ne 6, 3) := by decide +kernel
theorem dX1_meetByRemainders_48 : decode cX1_meetByRemainders 48 = .ok (.iload 5, 2) := by decide +kernel
theorem dX1_meetByRemainders_50 : decode cX1_meetByRemainders 50 = .ok (.ireturn, 1) := by decide +kernel
theorem dX1_meetByRemainders_51 : decode cX1_meetByRemainders 51 = .ok (.iload 5, 2) := by decide +kernel
theorem dX1_meetByRemainders_53 : decode cX1_meetByRemainders 53 = .ok (.iload_n 0, 1) := by decide +kernel
theorem dX1_meetByRemainders_54 : decode cX1_meetByRemainders 54 = .ok (.iadd, 1) := by decide +kernel
theorem dX1_meetByRemainders_55 : decode cX1_meetByRemainders 55 = .ok (.istore 5, 2) := by decide +kernel
theorem dX1_meetByRemainders_57 : decode cX1_meetByRemainders 57 = .ok (.iinc 6 1, 3) := by decide +kernel
theorem dX1_meetByRemainders_60 : decode cX1_meetByRemainders 60 = .ok (.goto (-34), 3) := by decide +kernel
theorem dX1_meetByRemainders_63 : decode cX1_meetByRemainders 63 = .ok (.iconst (-1), 1) := by decide +kernel
theorem dX1_meetByRemainders_64 : decode cX1_meetByRemainders 64 = .ok (.ireturn, 1) := by decide +kernel
theorem dX1_meetByWalking_0 : decode cX1_meetByWalking 0 = .ok (.iload_n 1, 1) := by decide +kernel
theorem dX1_meetByWalking_1 : decode cX1_meetByWalking 1 = .ok (.istore 4, 2) := by decide +kernel
theorem dX1_meetByWalking_3 : decode cX1_meetByWalking 3 = .ok (.iload_n 3, 1) := by decide +kernel
theorem dX1_meetByWalking_4 : decode cX1_meetByWalking 4 = .ok (.istore 5, 2) := by decide +kernel
theorem dX1_meetByWalking_6 : decode cX1_meetByWalking 6 = .ok (.iconst 0, 1) := by decide +kernel
theorem dX1_meetByWalking_7 : decode cX1_meetByWalking 7 = .ok (.istore 6, 2) := by decide +kernel
theorem dX1_meetByWalking_9 : decode cX1_meetByWalking 9 = .ok (.iload 6, 2) := by decide +kernel
theorem dX1_meetByWalking_11 : decode cX1_meetByWalking 11 = .ok (.sipush 800, 3) := by decide +kernel
theorem dX1_meetByWalking_14 : decode cX1_meetByWalking 14 = .ok (.if_icmp .ge 57, 3) := by decide +kernel
theorem dX1_meetByWalking_17 : decode cX1_meetByWalking 17 = .ok (.iload 4, 2) := by decide +kernel
theorem dX1_meetByWalking_19 : decode cX1_meetByWalking 19 = .ok (.sipush 800, 3) := by decide +kernel
theorem dX1_meetByWalking_22 : decode cX1_meetByWalking 22 = .ok (.if_icmp .ge 49, 3) := by decide +kernel
theorem dX1_meetByWalking_25 : decode cX1_meetByWalking 25 = .ok (.iload 5, 2) := by decide +kernel
theorem dX1_meetByWalking_27 : decode cX1_meetByWalking 27 = .ok (.sipush 800, 3) := by decide +kernel
theorem dX1_meetByWalking_30 : decode cX1_meetByWalking 30 = .ok (.if_icmp .ge 41, 3) := by decide +kernel
theorem dX1_meetByWalking_33 : decode cX1_meetByWalking 33 = .ok (.iload 4, 2) := by decide +kernel
theorem dX1_meetByWalking_35 : decode cX1_meetByWalking 35 = .ok (.iload 5, 2) := by decide +kernel
theorem dX1_meetByWalking_37 : decode cX1_meetByWalking 37 = .ok (.if_icmp .ne 6, 3) := by decide +kernel
theorem dX1_meetByWalking_40 : decode cX1_meetByWalking 40 = .ok (.iload 4, 2) := by decide +kernel
theorem dX1_meetByWalking_42 : decode cX1_meetByWalking 42 = .ok (.ireturn, 1) := by decide +kernel
theorem dX1_meetByWalking_43 : decode cX1_meetByWalking 43 = .ok (.iload 4, 2) := by decide +kernel
theorem dX1_meetByWalking_45 : decode cX1_meetByWalking 45 = .ok (.iload 5, 2) := by decide +kernel
theorem dX1_meetByWalking_47 : decode cX1_meetByWalking 47 = .ok (.if_icmp .ge 12, 3) := by decide +kernel
theorem dX1_meetByWalking_50 : decode cX1_meetByWalking 50 = .ok (.iload 4, 2) := by decide +kernel
theorem dX1_meetByWalking_52 : decode cX1_meetByWalking 52 = .ok (.iload_n 0, 1) := by decide +kernel
theorem dX1_meetByWalking_53 : decode cX1_meetByWalking 53 = .ok (.iadd, 1) := by decide +kernel
theorem dX1_meetByWalking_54 : decode cX1_meetByWalking 54 = .ok (.istore 4, 2) := by decide +kernel
theorem dX1_meetByWalking_56 : decode cX1_meetByWalking 56 = .ok (.goto 9, 3) := by decide +kernel
theorem dX1_meetByWalking_59 : decode cX1_meetByWalking 59 = .ok (.iload 5, 2) := by decide +kernel
theorem dX1_meetByWalking_61 : decode cX1_meetByWalking 61 = .ok (.iload_n 2, 1) := by decide +kernel
theorem dX1_meetByWalking_62 : decode cX1_meetByWalking 62 = .ok (.iadd, 1) := by decide +kernel
theorem dX1_meetByWalking_63 : decode cX1_meetByWalking 63 = .ok (.istore 5, 2) := by decide +kernel
theorem dX1_meetByWalking_65 : decode cX1_meetByWalking 65 = .ok (.iinc 6 1, 3) := by decide +kernel
theorem dX1_meetByWalking_68 : decode cX1_meetByWalking 68 = .ok (.goto (-59), 3) := by decide +kernel
theorem dX1_meetByWalking_71 : decode cX1_meetByWalking 71 = .ok (.iconst (-1), 1) := by decide +kernel
theorem dX1_meetByWalking_72 : decode cX1_meetByWalking 72 = .ok (.ireturn, 1) := by decide +kernel
theorem dX2_init_0 : decode cX2_init 0 = .ok (.aload_n 0, 1) := by decide +kernel
theorem dX2_init_1 : decode cX2_init 1 = .ok (.invokespecial 3, 3) := by decide +kernel
theorem dX2_init_4 : decode cX2_init 4 = .ok (.aload_n 0, 1) := by decide +kernel
theorem dX2_init_5 : decode cX2_init 5 = .ok (.bipush 60, 2) := by decide +kernel
theorem dX2_init_7 : decode cX2_init 7 = .ok (.newarray .int, 2) := by decide +kernel
theorem dX2_init_9 : decode cX2_init 9 = .ok (.putfield 9, 3) := by decide +kernel
theorem dX2_init_12 : decode cX2_init 12 = .ok (.aload_n 0, 1) := by decide +kernel
theorem dX2_init_13 : decode cX2_init 13 = .ok (.bipush 8, 2) := by decide +kernel
theorem dX2_init_15 : decode cX2_init 15 = .ok (.newarray .int, 2) := by decide +kernel
theorem dX2_init_17 : decode cX2_init 17 = .ok (.putfield 15, 3) := by decide +kernel
theorem dX2_init_20 : decode cX2_init 20 = .ok (.aload_n 0, 1) := by decide +kernel
theorem dX2_init_21 : decode cX2_init 21 = .ok (.iconst 0, 1) := by decide +kernel
theorem dX2_init_22 : decode cX2_init 22 = .ok (.putfield 18, 3) := by decide +kernel
theorem dX2_init_25 : decode cX2_init 25 = .ok (.aload_n 0, 1) := by decide +kernel
theorem dX2_init_26 : decode cX2_init 26 = .ok (.iconst 0, 1) := by decide +kernel
theorem dX2_init_27 : decode cX2_init 27 = .ok (.putfield 22, 3) := by decide +kernel
theorem dX2_init_30 : decode cX2_init 30 = .ok (.return_, 1) := by decide +kernel
theorem dX2_length_0 : decode cX2_length 0 = .ok (.aload_n 0, 1) := by decide +kernel
theorem dX2_length_1 : decode cX2_length 1 = .ok (.getfield 18, 3) := by decide +kernel
theorem dX2_length_4 : decode cX2_length 4 = .ok (.ireturn, 1) := by decide +kernel
theorem dX2_hueCount_0 : decode cX2_hueCount 0 = .ok (.aload_n 0, 1) := by decide +kernel
theorem dX2_hueCount_1 : decode cX2_hueCount 1 = .ok (.getfield 22, 3) := by decide +kernel
theorem dX2_hueCount_4 : decode cX2_hueCount 4 = .ok (.ireturn, 1) := by decide +kernel
theorem dX2_begin_0 : decode cX2_begin 0 = .ok (.aload_n 0, 1) := by decide +kernel
theorem dX2_begin_1 : decode cX2_begin 1 = .ok (.iconst 0, 1) := by decide +kernel
theorem dX2_begin_2 : decode cX2_begin 2 = .ok (.iload_n 1, 1) := by decide +kernel
theorem dX2_begin_3 : decode cX2_begin 3 = .ok (.aload_n 0, 1) := by decide +kernel
theorem dX2_begin_4 : decode cX2_begin 4 = .ok (.getfield 9, 3) := by decide +kernel
theorem dX2_begin_7 : decode cX2_begin 7 = .ok (.arraylength, 1) := by decide +kernel
theorem dX2_begin_8 : decode cX2_begin 8 = .ok (.invokestatic 25, 3) := by decide +kernel
theorem dX2_begin_11 : decode cX2_begin 11 = .ok (.invokestatic 31, 3) := by decide +kernel
theorem dX2_begin_14 : decode cX2_begin 14 = .ok (.putfield 18, 3) := by decide +kernel
theorem dX2_begin_17 : decode cX2_begin 17 = .ok (.aload_n 0, 1) := by decide +kernel
theorem dX2_begin_18 : decode cX2_begin 18 = .ok (.iconst 0, 1) := by decide +kernel
theorem dX2_begin_19 : decode cX2_begin 19 = .ok (.putfield 22, 3) := by decide +kernel
theorem dX2_begin_22 : decode cX2_begin 22 = .ok (.iconst 0, 1) := by decide +kernel
theorem dX2_begin_23 : decode cX2_begin 23 = .ok (.istore_n 2, 1) := by decide +kernel
theorem dX2_begin_24 : decode cX2_begin 24 = .ok (.iload_n 2, 1) := by decide +kernel
theorem dX2_begin_25 : decode cX2_begin 25 = .ok (.aload_n 0, 1) := by decide +kernel
theorem dX2_begin_26 : decode cX2_begin 26 = .ok (.getfield 9, 3) := by decide +kernel
theorem dX2_begin_29 : decode cX2_begin 29 = .ok (.arraylength, 1) := by decide +kernel
theorem dX2_begin_30 : decode cX2_begin 30 = .ok (.if_icmp .ge 16, 3) := by decide +kernel
theorem dX2_begin_33 : decode cX2_begin 33 = .ok (.aload_n 0, 1) := by decide +kernel
theorem dX2_begin_34 : decode cX2_begin 34 = .ok (.getfield 9, 3) := by decide +kernel
theorem dX2_begin_37 : decode cX2_begin 37 = .ok (.iload_n 2, 1) := by decide +kernel
theorem dX2_begin_38 : decode cX2_begin 38 = .ok (.iconst (-1), 1) := by decide +kernel
theorem dX2_begin_39 : decode cX2_begin 39 = .ok (.iastore, 1) := by decide +kernel
theorem dX2_begin_40 : decode cX2_begin 40 = .ok (.iinc 2 1, 3) := by decide +kernel
theorem dX2_begin_43 : decode cX2_begin 43 = .ok (.goto (-19), 3) := by decide +kernel
theorem dX2_begin_46 : decode cX2_begin 46 = .ok (.return_, 1) := by decide +kernel
theorem dX2_copyFrom_0 : decode cX2_copyFrom 0 = .ok (.aload_n 0, 1) := by decide +kernel
theorem dX2_copyFrom_1 : decode cX2_copyFrom 1 = .ok (.aload_n 1, 1) := by decide +kernel
theorem dX2_copyFrom_2 : decode cX2_copyFrom 2 = .ok (.getfield 18, 3) := by decide +kernel
theorem dX2_copyFrom_5 : decode cX2_copyFrom 5 = .ok (.putfield 18, 3) := by decide +kernel
theorem dX2_copyFrom_8 : decode cX2_copyFrom 8 = .ok (.aload_n 0, 1) := by decide +kernel
theorem dX2_copyFrom_9 : decode cX2_copyFrom 9 = .ok (.aload_n 1, 1) := by decide +kernel
theorem dX2_copyFrom_10 : decode cX2_copyFrom 10 = .ok (.getfield 22, 3) := by decide +kernel
theorem dX2_copyFrom_13 : decode cX2_copyFrom 13 = .ok (.putfield 22, 3) := by decide +kernel
theorem dX2_copyFrom_16 : decode cX2_copyFrom 16 = .ok (.iconst 0, 1) := by decide +kernel
theorem dX2_copyFrom_17 : decode cX2_copyFrom 17 = .ok (.istore_n 2, 1) := by decide +kernel
theorem dX2_copyFrom_18 : decode cX2_copyFrom 18 = .ok (.iload_n 2, 1) := by decide +kernel
theorem dX2_copyFrom_19 : decode cX2_copyFrom 19 = .ok (.aload_n 0, 1) := by decide +kernel
theorem dX2_copyFrom_20 : decode cX2_copyFrom 20 = .ok (.getfield 9, 3) := by decide +kernel
theorem dX2_copyFrom_23 : decode cX2_copyFrom 23 = .ok (.arraylength, 1) := by decide +kernel
theorem dX2_copyFrom_24 : decode cX2_copyFrom 24 = .ok (.if_icmp .ge 30, 3) := by decide +kernel
theorem dX2_copyFrom_27 : decode cX2_copyFrom 27 = .ok (.iload_n 2, 1) := by decide +kernel
theorem dX2_copyFrom_28 : decode cX2_copyFrom 28 = .ok (.aload_n 1, 1) := by decide +kernel
theorem dX2_copyFrom_29 : decode cX2_copyFrom 29 = .ok (.getfield 9, 3) := by decide +kernel
theorem dX2_copyFrom_32 : decode cX2_copyFrom 32 = .ok (.arraylength, 1) := by decide +kernel
theorem dX2_copyFrom_33 : decode cX2_copyFrom 33 = .ok (.if_icmp .ge 21, 3) := by decide +kernel
theorem dX2_copyFrom_36 : decode cX2_copyFrom 36 = .ok (.aload_n 0, 1) := by decide +kernel
theorem dX2_copyFrom_37 : decode cX2_copyFrom 37 = .ok (.getfield 9, 3) := by decide +kernel
theorem dX2_copyFrom_40 : decode cX2_copyFrom 40 = .ok (.iload_n 2, 1) := by decide +kernel
theorem dX2_copyFrom_41 : decode cX2_copyFrom 41 = .ok (.aload_n 1, 1) := by decide +kernel
theorem dX2_copyFrom_42 : decode cX2_copyFrom 42 = .ok (.getfield 9, 3) := by decide +kernel
theorem dX2_copyFrom_45 : decode cX2_copyFrom 45 = .ok (.iload_n 2, 1) := by decide +kernel
theorem dX2_copyFrom_46 : decode cX2_copyFrom 46 = .ok (.iaload, 1) := by decide +kernel
theorem dX2_copyFrom_47 : decode cX2_copyFrom 47 = .ok (.iastore, 1) := by decide +kernel
theorem dX2_copyFrom_48 : decode cX2_copyFrom 48 = .ok (.iinc 2 1, 3) := by decide +kernel
theorem dX2_copyFrom_51 : decode cX2_copyFrom 51 = .ok (.goto (-33), 3) := by decide +kernel
theorem dX2_copyFrom_54 : decode cX2_copyFrom 54 = .ok (.iconst 0, 1) := by decide +kernel
theorem dX2_copyFrom_55 : decode cX2_copyFrom 55 = .ok (.istore_n 2, 1) := by decide +kernel
theorem dX2_copyFrom_56 : decode cX2_copyFrom 56 = .ok (.iload_n 2, 1) := by decide +kernel
theorem dX2_copyFrom_57 : decode cX2_copyFrom 57 = .ok (.aload_n 0, 1) := by decide +kernel
theorem dX2_copyFrom_58 : decode cX2_copyFrom 58 = .ok (.getfield 15, 3) := by decide +kernel
theorem dX2_copyFrom_61 : decode cX2_copyFrom 61 = .ok (.arraylength, 1) := by decide +kernel
theorem dX2_copyFrom_62 : decode cX2_copyFrom 62 = .ok (.if_icmp .ge 30, 3) := by decide +kernel
theorem dX2_copyFrom_65 : decode cX2_copyFrom 65 = .ok (.iload_n 2, 1) := by decide +kernel
theorem dX2_copyFrom_66 : decode cX2_copyFrom 66 = .ok (.aload_n 1, 1) := by decide +kernel
theorem dX2_copyFrom_67 : decode cX2_copyFrom 67 = .ok (.getfield 15, 3) := by decide +kernel
theorem dX2_copyFrom_70 : decode cX2_copyFrom 70 = .ok (.arraylength, 1) := by decide +kernel
theorem dX2_copyFrom_71 : decode cX2_copyFrom 71 = .ok (.if_icmp .ge 21, 3) := by decide +kernel
theorem dX2_copyFrom_74 : decode cX2_copyFrom 74 = .ok (.aload_n 0, 1) := by decide +kernel
theorem dX2_copyFrom_75 : decode cX2_copyFrom 75 = .ok (.getfield 15, 3) := by decide +kernel
theorem dX2_copyFrom_78 : decode cX2_copyFrom 78 = .ok (.iload_n 2, 1) := by decide +kernel
theorem dX2_copyFrom_79 : decode cX2_copyFrom 79 = .ok (.aload_n 1, 1) := by decide +kernel
theorem dX2_copyFrom_80 : decode cX2_copyFrom 80 = .ok (.getfield 15, 3) := by decide +kernel
theorem dX2_copyFrom_83 : decode cX2_copyFrom 83 = .ok (.iload_n 2, 1) := by decide +kernel
theorem dX2_copyFrom_84 : decode cX2_copyFrom 84 = .ok (.iaload, 1) := by decide +kernel
theorem dX2_copyFrom_85 : decode cX2_copyFrom 85 = .ok (.iastore, 1) := by decide +kernel
theorem dX2_copyFrom_86 : decode cX2_copyFrom 86 = .ok (.iinc 2 1, 3) := by decide +kernel
theorem dX2_copyFrom_89 : decode cX2_copyFrom 89 = .ok (.goto (-33), 3) := by decide +kernel
theorem dX2_copyFrom_92 : decode cX2_copyFrom 92 = .ok (.return_, 1) := by decide +kernel
theorem dX2_colourAt_0 : decode cX2_colourAt 0 = .ok (.iload_n 1, 1) := by decide +kernel
theorem dX2_colourAt_1 : decode cX2_colourAt 1 = .ok (.ifCond .lt 29, 3) := by decide +kernel
theorem dX2_colourAt_4 : decode cX2_colourAt 4 = .ok (.iload_n 1, 1) := by decide +kernel
theorem dX2_colourAt_5 : decode cX2_colourAt 5 = .ok (.aload_n 0, 1) := by decide +kernel
theorem dX2_colourAt_6 : decode cX2_colourAt 6 = .ok (.getfield 18, 3) := by decide +kernel
theorem dX2_colourAt_9 : decode cX2_colourAt 9 = .ok (.if_icmp .ge 21, 3) := by decide +kernel
theorem dX2_colourAt_12 : decode cX2_colourAt 12 = .ok (.iload_n 1, 1) := by decide +kernel
theorem dX2_colourAt_13 : decode cX2_colourAt 13 = .ok (.aload_n 0, 1) := by decide +kernel
theorem dX2_colourAt_14 : decode cX2_colourAt 14 = .ok (.getfield 9, 3) := by decide +kernel
theorem dX2_colourAt_17 : decode cX2_colourAt 17 = .ok (.arraylength, 1) := by decide +kernel
theorem dX2_colourAt_18 : decode cX2_colourAt 18 = .ok (.if_icmp .ge 12, 3) := by decide +kernel
theorem dX2_colourAt_21 : decode cX2_colourAt 21 = .ok (.aload_n 0, 1) := by decide +kernel
theorem dX2_colourAt_22 : decode cX2_colourAt 22 = .ok (.getfield 9, 3) := by decide +kernel
theorem dX2_colourAt_25 : decode cX2_colourAt 25 = .ok (.iload_n 1, 1) := by decide +kernel
theorem dX2_colourAt_26 : decode cX2_colourAt 26 = .ok (.iaload, 1) := by decide +kernel
theorem dX2_colourAt_27 : decode cX2_colourAt 27 = .ok (.goto 4, 3) := by decide +kernel
theorem dX2_colourAt_30 : decode cX2_colourAt 30 = .ok (.iconst (-1), 1) := by decide +kernel
theorem dX2_colourAt_31 : decode cX2_colourAt 31 = .ok (.ireturn, 1) := by decide +kernel
theorem dX2_setColour_0 : decode cX2_setColour 0 = .ok (.iload_n 1, 1) := by decide +kernel
theorem dX2_setColour_1 : decode cX2_setColour 1 = .ok (.ifCond .lt 19, 3) := by decide +kernel
theorem dX2_setColour_4 : decode cX2_setColour 4 = .ok (.iload_n 1, 1) := by decide +kernel
theorem dX2_setColour_5 : decode cX2_setColour 5 = .ok (.aload_n 0, 1) := by decide +kernel
theorem dX2_setColour_6 : decode cX2_setColour 6 = .ok (.getfield 9, 3) := by decide +kernel
theorem dX2_setColour_9 : decode cX2_setColour 9 = .ok (.arraylength, 1) := by decide +kernel
theorem dX2_setColour_10 : decode cX2_setColour 10 = .ok (.if_icmp .ge 10, 3) := by decide +kernel
theorem dX2_setColour_13 : decode cX2_setColour 13 = .ok (.aload_n 0, 1) := by decide +kernel
theorem dX2_setColour_14 : decode cX2_setColour 14 = .ok (.getfield 9, 3) := by decide +kernel
theorem dX2_setColour_17 : decode cX2_setColour 17 = .ok (.iload_n 1, 1) := by decide +kernel
theorem dX2_setColour_18 : decode cX2_setColour 18 = .ok (.iload_n 2, 1) := by decide +kernel
theorem dX2_setColour_19 : decode cX2_setColour 19 = .ok (.iastore, 1) := by decide +kernel
theorem dX2_setColour_20 : decode cX2_setColour 20 = .ok (.return_, 1) := by decide +kernel
theorem dX2_hueAt_0 : decode cX2_hueAt 0 = .ok (.iload_n 1, 1) := by decide +kernel
theorem dX2_hueAt_1 : decode cX2_hueAt 1 = .ok (.ifCond .lt 29, 3) := by decide +kernel
theorem dX2_hueAt_4 : decode cX2_hueAt 4 = .ok (.iload_n 1, 1) := by decide +kernel
theorem dX2_hueAt_5 : decode cX2_hueAt 5 = .ok (.aload_n 0, 1) := by decide +kernel
theorem dX2_hueAt_6 : decode cX2_hueAt 6 = .ok (.getfield 22, 3) := by decide +kernel
theorem dX2_hueAt_9 : decode cX2_hueAt 9 = .ok (.if_icmp .ge 21, 3) := by decide +kernel
theorem dX2_hueAt_12 : decode cX2_hueAt 12 = .ok (.iload_n 1, 1) := by decide +kernel
theorem dX2_hueAt_13 : decode cX2_hueAt 13 = .ok (.aload_n 0, 1) := by decide +kernel
theorem dX2_hueAt_14 : decode cX2_hueAt 14 = .ok (.getfield 15, 3) := by decide +kernel
theorem dX2_hueAt_17 : decode cX2_hueAt 17 = .ok (.arraylength, 1) := by decide +kernel
theorem dX2_hueAt_18 : decode cX2_hueAt 18 = .ok (.if_icmp .ge 12, 3) := by decide +kernel
theorem dX2_hueAt_21 : decode cX2_hueAt 21 = .ok (.aload_n 0, 1) := by decide +kernel
theorem dX2_hueAt_22 : decode cX2_hueAt 22 = .ok (.getfield 15, 3) := by decide +kernel
theorem dX2_hueAt_25 : decode cX2_hueAt 25 = .ok (.iload_n 1, 1) := by decide +kernel
theorem dX2_hueAt_26 : decode cX2_hueAt 26 = .ok (.iaload, 1) := by decide +kernel
theorem dX2_hueAt_27 : decode cX2_hueAt 27 = .ok (.goto 4, 3) := by decide +kernel
theorem dX2_hueAt_30 : decode cX2_hueAt 30 = .ok (.iconst (-1), 1) := by decide +kernel
theorem dX2_hueAt_31 : decode cX2_hueAt 31 = .ok (.ireturn, 1) := by decide +kernel
theorem dX2_orderOf_0 : decode cX2_orderOf 0 = .ok (.iconst 0, 1) := by decide +kernel
theorem dX2_orderOf_1 : decode cX2_orderOf 1 = .ok (.istore_n 2, 1) := by decide +kernel
theorem dX2_orderOf_2 : decode cX2_orderOf 2 = .ok (.iload_n 2, 1) := by decide +kernel
theorem dX2_orderOf_3 : decode cX2_orderOf 3 = .ok (.aload_n 0, 1) := by decide +kernel
theorem dX2_orderOf_4 : decode cX2_orderOf 4 = .ok (.getfield 22, 3) := by decide +kernel
theorem dX2_orderOf_7 : decode cX2_orderOf 7 = .ok (.if_icmp .ge 30, 3) := by decide +kernel
theorem dX2_orderOf_10 : decode cX2_orderOf 10 = .ok (.iload_n 2, 1) := by decide +kernel
theorem dX2_orderOf_11 : decode cX2_orderOf 11 = .ok (.aload_n 0, 1) := by decide +kernel
theorem dX2_orderOf_12 : decode cX2_orderOf 12 = .ok (.getfield 15, 3) := by decide +kernel
theorem dX2_orderOf_15 : decode cX2_orderOf 15 = .ok (.arraylength, 1) := by decide +kernel
theorem dX2_orderOf_16 : decode cX2_orderOf 16 = .ok (.if_icmp .ge 21, 3) := by decide +kernel
theorem dX2_orderOf_19 : decode cX2_orderOf 19 = .ok (.aload_n 0, 1) := by decide +kernel
theorem dX2_orderOf_20 : decode cX2_orderOf 20 = .ok (.getfield 15, 3) := by decide +kernel
theorem dX2_orderOf_23 : decode cX2_orderOf 23 = .ok (.iload_n 2, 1) := by decide +kernel
theorem dX2_orderOf_24 : decode cX2_orderOf 24 = .ok (.iaload, 1) := by decide +kernel
theorem dX2_orderOf_25 : decode cX2_orderOf 25 = .ok (.iload_n 1, 1) := by decide +kernel
theorem dX2_orderOf_26 : decode cX2_orderOf 26 = .ok (.if_icmp .ne 5, 3) := by decide +kernel
theorem dX2_orderOf_29 : decode cX2_orderOf 29 = .ok (.iload_n 2, 1) := by decide +kernel
theorem dX2_orderOf_30 : decode cX2_orderOf 30 = .ok (.ireturn, 1) := by decide +kernel
theorem dX2_orderOf_31 : decode cX2_orderOf 31 = .ok (.iinc 2 1, 3) := by decide +kernel
theorem dX2_orderOf_34 : decode cX2_orderOf 34 = .ok (.goto (-32), 3) := by decide +kernel
theorem dX2_orderOf_37 : decode cX2_orderOf 37 = .ok (.iconst (-1), 1) := by decide +kernel
theorem dX2_orderOf_38 : decode cX2_orderOf 38 = .ok (.ireturn, 1) := by decide +kernel
theorem dX2_firstFrom_0 : decode cX2_firstFrom 0 = .ok (.iload_n 2, 1) := by decide +kernel
theorem dX2_firstFrom_1 : decode cX2_firstFrom 1 = .ok (.istore_n 3, 1) := by decide +kernel
theorem dX2_firstFrom_2 : decode cX2_firstFrom 2 = .ok (.iload_n 3, 1) := by decide +kernel
theorem dX2_firstFrom_3 : decode cX2_firstFrom 3 = .ok (.aload_n 0, 1) := by decide +kernel
theorem dX2_firstFrom_4 : decode cX2_firstFrom 4 = .ok (.getfield 18, 3) := by decide +kernel
theorem dX2_firstFrom_7 : decode cX2_firstFrom 7 = .ok (.if_icmp .ge 20, 3) := by decide +kernel
theorem dX2_firstFrom_10 : decode cX2_firstFrom 10 = .ok (.aload_n 0, 1) := by decide +kernel
theorem dX2_firstFrom_11 : decode cX2_firstFrom 11 = .ok (.iload_n 3, 1) := by decide +kernel
theorem dX2_firstFrom_12 : decode cX2_firstFrom 12 = .ok (.invokevirtual 34, 3) := by decide +kernel
theorem dX2_firstFrom_15 : decode cX2_firstFrom 15 = .ok (.iload_n 1, 1) := by decide +kernel
theorem dX2_firstFrom_16 : decode cX2_firstFrom 16 = .ok (.if_icmp .ne 5, 3) := by decide +kernel
theorem dX2_firstFrom_19 : decode cX2_firstFrom 19 = .ok (.iload_n 3, 1) := by decide +kernel
theorem dX2_firstFrom_20 : decode cX2_firstFrom 20 = .ok (.ireturn, 1) := by decide +kernel
theorem dX2_firstFrom_21 : decode cX2_firstFrom 21 = .ok (.iinc 3 1, 3) := by decide +kernel
theorem dX2_firstFrom_24 : decode cX2_firstFrom 24 = .ok (.goto (-22), 3) := by decide +kernel
theorem dX2_firstFrom_27 : decode cX2_firstFrom 27 = .ok (.iconst (-1), 1) := by decide +kernel
theorem dX2_firstFrom_28 : decode cX2_firstFrom 28 = .ok (.ireturn, 1) := by decide +kernel
theorem dX2_lastOf_0 : decode cX2_lastOf 0 = .ok (.aload_n 0, 1) := by decide +kernel
theorem dX2_lastOf_1 : decode cX2_lastOf 1 = .ok (.getfield 18, 3) := by decide +kernel
theorem dX2_lastOf_4 : decode cX2_lastOf 4 = .ok (.iconst 1, 1) := by decide +kernel
theorem dX2_lastOf_5 : decode cX2_lastOf 5 = .ok (.isub, 1) := by decide +kernel
theorem dX2_lastOf_6 : decode cX2_lastOf 6 = .ok (.istore_n 2, 1) := by decide +kernel
theorem dX2_lastOf_7 : decode cX2_lastOf 7 = .ok (.iload_n 2, 1) := by decide +kernel
theorem dX2_lastOf_8 : decode cX2_lastOf 8 = .ok (.ifCond .lt 20, 3) := by decide +kernel
theorem dX2_lastOf_11 : decode cX2_lastOf 11 = .ok (.aload_n 0, 1) := by decide +kernel
theorem dX2_lastOf_12 : decode cX2_lastOf 12 = .ok (.iload_n 2, 1) := by decide +kernel
theorem dX2_lastOf_13 : decode cX2_lastOf 13 = .ok (.invokevirtual 34, 3) := by decide +kernel
theorem dX2_lastOf_16 : decode cX2_lastOf 16 = .ok (.iload_n 1, 1) := by decide +kernel
theorem dX2_lastOf_17 : decode cX2_lastOf 17 = .ok (.if_icmp .ne 5, 3) := by decide +kernel
theorem dX2_lastOf_20 : decode cX2_lastOf 20 = .ok (.iload_n 2, 1) := by decide +kernel
theorem dX2_lastOf_21 : decode cX2_lastOf 21 = .ok (.ireturn, 1) := by decide +kernel
theorem dX2_lastOf_22 : decode cX2_lastOf 22 = .ok (.iinc 2 (-1), 3) := by decide +kernel
theorem dX2_lastOf_25 : decode cX2_lastOf 25 = .ok (.goto (-18), 3) := by decide +kernel
theorem dX2_lastOf_28 : decode cX2_lastOf 28 = .ok (.iconst (-1), 1) := by decide +kernel
theorem dX2_lastOf_29 : decode cX2_lastOf 29 = .ok (.ireturn, 1) := by decide +kernel
theorem dX2_placesOf_0 : decode cX2_placesOf 0 = .ok (.iconst 0, 1) := by decide +kernel
theorem dX2_placesOf_1 : decode cX2_placesOf 1 = .ok (.istore_n 2, 1) := by decide +kernel
theorem dX2_placesOf_2 : decode cX2_placesOf 2 = .ok (.iconst 0, 1) := by decide +kernel
theorem dX2_placesOf_3 : decode cX2_placesOf 3 = .ok (.istore_n 3, 1) := by decide +kernel
theorem dX2_placesOf_4 : decode cX2_placesOf 4 = .ok (.iload_n 3, 1) := by decide +kernel
theorem dX2_placesOf_5 : decode cX2_placesOf 5 = .ok (.aload_n 0, 1) := by decide +kernel
theorem dX2_placesOf_6 : decode cX2_placesOf 6 = .ok (.getfield 18, 3) := by decide +kernel
theorem dX2_placesOf_9 : decode cX2_placesOf 9 = .ok (.if_icmp .ge 21, 3) := by decide +kernel
theorem dX2_placesOf_12 : decode cX2_placesOf 12 = .ok (.aload_n 0, 1) := by decide +kernel
theorem dX2_placesOf_13 : decode cX2_placesOf 13 = .ok (.iload_n 3, 1) := by decide +kernel
theorem dX2_placesOf_14 : decode cX2_placesOf 14 = .ok (.invokevirtual 34, 3) := by decide +kernel
theorem dX2_placesOf_17 : decode cX2_placesOf 17 = .ok (.iload_n 1, 1) := by decide +kernel
theorem dX2_placesOf_18 : decode cX2_placesOf 18 = .ok (.if_icmp .ne 6, 3) := by decide +kernel
theorem dX2_placesOf_21 : decode cX2_placesOf 21 = .ok (.iinc 2 1, 3) := by decide +kernel
theorem dX2_placesOf_24 : decode cX2_placesOf 24 = .ok (.iinc 3 1, 3) := by decide +kernel
theorem dX2_placesOf_27 : decode cX2_placesOf 27 = .ok (.goto (-23), 3) := by decide +kernel
theorem dX2_placesOf_30 : decode cX2_placesOf 30 = .ok (.iload_n 2, 1) := by decide +kernel
theorem dX2_placesOf_31 : decode cX2_placesOf 31 = .ok (.ireturn, 1) := by decide +kernel
theorem dX2_placesFrom_0 : decode cX2_placesFrom 0 = .ok (.iconst 0, 1) := by decide +kernel
theorem dX2_placesFrom_1 : decode cX2_placesFrom 1 = .ok (.istore_n 3, 1) := by decide +kernel
theorem dX2_placesFrom_2 : decode cX2_placesFrom 2 = .ok (.iconst 1, 1) := by decide +kernel
theorem dX2_placesFrom_3 : decode cX2_placesFrom 3 = .ok (.iload_n 2, 1) := by decide +kernel
theorem dX2_placesFrom_4 : decode cX2_placesFrom 4 = .ok (.invokestatic 31, 3) := by decide +kernel
theorem dX2_placesFrom_7 : decode cX2_placesFrom 7 = .ok (.istore 4, 2) := by decide +kernel
theorem dX2_placesFrom_9 : decode cX2_placesFrom 9 = .ok (.iload_n 1, 1) := by decide +kernel
theorem dX2_placesFrom_10 : decode cX2_placesFrom 10 = .ok (.istore 5, 2) := by decide +kernel
theorem dX2_placesFrom_12 : decode cX2_placesFrom 12 = .ok (.iload 5, 2) := by decide +kernel
theorem dX2_placesFrom_14 : decode cX2_placesFrom 14 = .ok (.aload_n 0, 1) := by decide +kernel
theorem dX2_placesFrom_15 : decode cX2_placesFrom 15 = .ok (.getfield 18, 3) := by decide +kernel
theorem dX2_placesFrom_18 : decode cX2_placesFrom 18 = .ok (.if_icmp .ge 16, 3) := by decide +kernel
theorem dX2_placesFrom_21 : decode cX2_placesFrom 21 = .ok (.iinc 3 1, 3) := by decide +kernel
theorem dX2_placesFrom_24 : decode cX2_placesFrom 24 = .ok (.iload 5, 2) := by decide +kernel
theorem dX2_placesFrom_26 : decode cX2_placesFrom 26 = .ok (.iload 4, 2) := by decide +kernel
theorem dX2_placesFrom_28 : decode cX2_placesFrom 28 = .ok (.iadd, 1) := by decide +kernel
theorem dX2_placesFrom_29 : decode cX2_placesFrom 29 = .ok (.istore 5, 2) := by decide +kernel
theorem dX2_placesFrom_31 : decode cX2_placesFrom 31 = .ok (.goto (-19), 3) := by decide +kernel
theorem dX2_placesFrom_34 : decode cX2_placesFrom 34 = .ok (.iload_n 3, 1) := by decide +kernel
theorem dX2_placesFrom_35 : decode cX2_placesFrom 35 = .ok (.ireturn, 1) := by decide +kernel
theorem dX2_reasonAgainst_0 : decode cX2_reasonAgainst 0 = .ok (.aload_n 0, 1) := by decide +kernel
theorem dX2_reasonAgainst_1 : decode cX2_reasonAgainst 1 = .ok (.iload_n 1, 1) := by decide +kernel
theorem dX2_reasonAgainst_2 : decode cX2_reasonAgainst 2 = .ok (.invokevirtual 38, 3) := by decide +kernel
theorem dX2_reasonAgainst_5 : decode cX2_reasonAgainst 5 = .ok (.iconst (-1), 1) := by decide +kernel
theorem dX2_reasonAgainst_6 : decode cX2_reasonAgainst 6 = .ok (.if_icmp .eq 5, 3) := by decide +kernel
theorem dX2_reasonAgainst_9 : decode cX2_reasonAgainst 9 = .ok (.iconst 1, 1) := by decide +kernel
theorem dX2_reasonAgainst_10 : decode cX2_reasonAgainst 10 = .ok (.ireturn, 1) := by decide +kernel
theorem dX2_reasonAgainst_11 : decode cX2_reasonAgainst 11 = .ok (.iload_n 2, 1) := by decide +kernel
theorem dX2_reasonAgainst_12 : decode cX2_reasonAgainst 12 = .ok (.aload_n 0, 1) := by decide +kernel
theorem dX2_reasonAgainst_13 : decode cX2_reasonAgainst 13 = .ok (.getfield 18, 3) := by decide +kernel
theorem dX2_reasonAgainst_16 : decode cX2_reasonAgainst 16 = .ok (.if_icmp .lt 5, 3) := by decide +kernel
theorem dX2_reasonAgainst_19 : decode cX2_reasonAgainst 19 = .ok (.iconst 2, 1) := by decide +kernel
theorem dX2_reasonAgainst_20 : decode cX2_reasonAgainst 20 = .ok (.ireturn, 1) := by decide +kernel
theorem dX2_reasonAgainst_21 : decode cX2_reasonAgainst 21 = .ok (.iconst 1, 1) := by decide +kernel
theorem dX2_reasonAgainst_22 : decode cX2_reasonAgainst 22 = .ok (.iload_n 3, 1) := by decide +kernel
theorem dX2_reasonAgainst_23 : decode cX2_reasonAgainst 23 = .ok (.invokestatic 31, 3) := by decide +kernel
theorem dX2_reasonAgainst_26 : decode cX2_reasonAgainst 26 = .ok (.istore 4, 2) := by decide +kernel
theorem dX2_reasonAgainst_28 : decode cX2_reasonAgainst 28 = .ok (.iload_n 2, 1) := by decide +kernel
theorem dX2_reasonAgainst_29 : decode cX2_reasonAgainst 29 = .ok (.istore 5, 2) := by decide +kernel
theorem dX2_reasonAgainst_31 : decode cX2_reasonAgainst 31 = .ok (.iload 5, 2) := by decide +kernel
theorem dX2_reasonAgainst_33 : decode cX2_reasonAgainst 33 = .ok (.aload_n 0, 1) := by decide +kernel
theorem dX2_reasonAgainst_34 : decode cX2_reasonAgainst 34 = .ok (.getfield 18, 3) := by decide +kernel
theorem dX2_reasonAgainst_37 : decode cX2_reasonAgainst 37 = .ok (.if_icmp .ge 25, 3) := by decide +kernel
theorem dX2_reasonAgainst_40 : decode cX2_reasonAgainst 40 = .ok (.aload_n 0, 1) := by decide +kernel
theorem dX2_reasonAgainst_41 : decode cX2_reasonAgainst 41 = .ok (.iload 5, 2) := by decide +kernel
theorem dX2_reasonAgainst_43 : decode cX2_reasonAgainst 43 = .ok (.invokevirtual 34, 3) := by decide +kernel
theorem dX2_reasonAgainst_46 : decode cX2_reasonAgainst 46 = .ok (.iconst (-1), 1) := by decide +kernel
theorem dX2_reasonAgainst_47 : decode cX2_reasonAgainst 47 = .ok (.if_icmp .eq 5, 3) := by decide +kernel
theorem dX2_reasonAgainst_50 : decode cX2_reasonAgainst 50 = .ok (.iconst 3, 1) := by decide +kernel
theorem dX2_reasonAgainst_51 : decode cX2_reasonAgainst 51 = .ok (.ireturn, 1) := by decide +kernel
theorem dX2_reasonAgainst_52 : decode cX2_reasonAgainst 52 = .ok (.iload 5, 2) := by decide +kernel
theorem dX2_reasonAgainst_54 : decode cX2_reasonAgainst 54 = .ok (.iload 4, 2) := by decide +kernel
theorem dX2_reasonAgainst_56 : decode cX2_reasonAgainst 56 = .ok (.iadd, 1) := by decide +kernel
theorem dX2_reasonAgainst_57 : decode cX2_reasonAgainst 57 = .ok (.istore 5, 2) := by decide +kernel
theorem dX2_reasonAgainst_59 : decode cX2_reasonAgainst 59 = .ok (.goto (-28), 3) := by decide +kernel
theorem dX2_reasonAgainst_62 : decode cX2_reasonAgainst 62 = .ok (.iconst 0, 1) := by decide +kernel
theorem dX2_reasonAgainst_63 : decode cX2_reasonAgainst 63 = .ok (.ireturn, 1) := by decide +kernel
theorem dX2_put_0 : decode cX2_put 0 = .ok (.iload_n 2, 1) := by decide +kernel
theorem dX2_put_1 : decode cX2_put 1 = .ok (.ifCond .lt 30, 3) := by decide +kernel
theorem dX2_put_4 : decode cX2_put 4 = .ok (.iload_n 2, 1) := by decide +kernel
theorem dX2_put_5 : decode cX2_put 5 = .ok (.aload_n 0, 1) := by decide +kernel
theorem dX2_put_6 : decode cX2_put 6 = .ok (.getfield 18, 3) := by decide +kernel
theorem dX2_put_9 : decode cX2_put 9 = .ok (.if_icmp .ge 22, 3) := by decide +kernel
theorem dX2_put_12 : decode cX2_put 12 = .ok (.aload_n 0, 1) := by decide +kernel
theorem dX2_put_13 : decode cX2_put 13 = .ok (.getfield 22, 3) := by decide +kernel
theorem dX2_put_16 : decode cX2_put 16 = .ok (.ifCond .lt 15, 3) := by decide +kernel
theorem dX2_put_19 : decode cX2_put 19 = .ok (.aload_n 0, 1) := by decide +kernel
theorem dX2_put_20 : decode cX2_put 20 = .ok (.getfield 22, 3) := by decide +kernel
theorem dX2_put_23 : decode cX2_put 23 = .ok (.aload_n 0, 1) := by decide +kernel
theorem dX2_put_24 : decode cX2_put 24 = .ok (.getfield 15, 3) := by decide +kernel
theorem dX2_put_27 : decode cX2_put 27 = .ok (.arraylength, 1) := by decide +kernel
theorem dX2_put_28 : decode cX2_put 28 = .ok (.if_icmp .lt 5, 3) := by decide +kernel
theorem dX2_put_31 : decode cX2_put 31 = .ok (.iconst 0, 1) := by decide +kernel
theorem dX2_put_32 : decode cX2_put 32 = .ok (.ireturn, 1) := by decide +kernel
theorem dX2_put_33 : decode cX2_put 33 = .ok (.aload_n 0, 1) := by decide +kernel
theorem dX2_put_34 : decode cX2_put 34 = .ok (.getfield 15, 3) := by decide +kernel
theorem dX2_put_37 : decode cX2_put 37 = .ok (.aload_n 0, 1) := by decide +kernel
theorem dX2_put_38 : decode cX2_put 38 = .ok (.getfield 22, 3) := by decide +kernel
theorem dX2_put_41 : decode cX2_put 41 = .ok (.iload_n 1, 1) := by decide +kernel
theorem dX2_put_42 : decode cX2_put 42 = .ok (.iastore, 1) := by decide +kernel
theorem dX2_put_43 : decode cX2_put 43 = .ok (.aload_n 0, 1) := by decide +kernel
theorem dX2_put_44 : decode cX2_put 44 = .ok (.dup, 1) := by decide +kernel
theorem dX2_put_45 : decode cX2_put 45 = .ok (.getfield 22, 3) := by decide +kernel
theorem dX2_put_48 : decode cX2_put 48 = .ok (.iconst 1, 1) := by decide +kernel
theorem dX2_put_49 : decode cX2_put 49 = .ok (.iadd, 1) := by decide +kernel
theorem dX2_put_50 : decode cX2_put 50 = .ok (.putfield 22, 3) := by decide +kernel
theorem dX2_put_53 : decode cX2_put 53 = .ok (.iconst 0, 1) := by decide +kernel
theorem dX2_put_54 : decode cX2_put 54 = .ok (.istore 4, 2) := by decide +kernel
theorem dX2_put_56 : decode cX2_put 56 = .ok (.iconst 1, 1) := by decide +kernel
theorem dX2_put_57 : decode cX2_put 57 = .ok (.iload_n 3, 1) := by decide +kernel
theorem dX2_put_58 : decode cX2_put 58 = .ok (.invokestatic 31, 3) := by decide +kernel
theorem dX2_put_61 : decode cX2_put 61 = .ok (.istore 5, 2) := by decide +kernel
theorem dX2_put_63 : decode cX2_put 63 = .ok (.iload_n 2, 1) := by decide +kernel
theorem dX2_put_64 : decode cX2_put 64 = .ok (.istore 6, 2) := by decide +kernel
theorem dX2_put_66 : decode cX2_put 66 = .ok (.iload 6, 2) := by decide +kernel
theorem dX2_put_68 : decode cX2_put 68 = .ok (.aload_n 0, 1) := by decide +kernel
theorem dX2_put_69 : decode cX2_put 69 = .ok (.getfield 18, 3) := by decide +kernel
theorem dX2_put_72 : decode cX2_put 72 = .ok (.if_icmp .ge 23, 3) := by decide +kernel
theorem dX2_put_75 : decode cX2_put 75 = .ok (.aload_n 0, 1) := by decide +kernel
theorem dX2_put_76 : decode cX2_put 76 = .ok (.iload 6, 2) := by decide +kernel
theorem dX2_put_78 : decode cX2_put 78 = .ok (.iload_n 1, 1) := by decide +kernel
theorem dX2_put_79 : decode cX2_put 79 = .ok (.invokevirtual 41, 3) := by decide +kernel
theorem dX2_put_82 : decode cX2_put 82 = .ok (.iinc 4 1, 3) := by decide +kernel
theorem dX2_put_85 : decode cX2_put 85 = .ok (.iload 6, 2) := by decide +kernel
theorem dX2_put_87 : decode cX2_put 87 = .ok (.iload 5, 2) := by decide +kernel
theorem dX2_put_89 : decode cX2_put 89 = .ok (.iadd, 1) := by decide +kernel
theorem dX2_put_90 : decode cX2_put 90 = .ok (.istore 6, 2) := by decide +kernel
theorem dX2_put_92 : decode cX2_put 92 = .ok (.goto (-26), 3) := by decide +kernel
theorem dX2_put_95 : decode cX2_put 95 = .ok (.iload 4, 2) := by decide +kernel
theorem dX2_put_97 : decode cX2_put 97 = .ok (.ireturn, 1) := by decide +kernel
theorem dX2_remove_0 : decode cX2_remove 0 = .ok (.aload_n 0, 1) := by decide +kernel
theorem dX2_remove_1 : decode cX2_remove 1 = .ok (.iload_n 1, 1) := by decide +kernel
theorem dX2_remove_2 : decode cX2_remove 2 = .ok (.invokevirtual 38, 3) := by decide +kernel
theorem dX2_remove_5 : decode cX2_remove 5 = .ok (.istore_n 2, 1) := by decide +kernel
theorem dX2_remove_6 : decode cX2_remove 6 = .ok (.iload_n 2, 1) := by decide +kernel
theorem dX2_remove_7 : decode cX2_remove 7 = .ok (.ifCond .ge 5, 3) := by decide +kernel
theorem dX2_remove_10 : decode cX2_remove 10 = .ok (.iconst 0, 1) := by decide +kernel
theorem dX2_remove_11 : decode cX2_remove 11 = .ok (.ireturn, 1) := by decide +kernel
theorem dX2_remove_12 : decode cX2_remove 12 = .ok (.iload_n 2, 1) := by decide +kernel
theorem dX2_remove_13 : decode cX2_remove 13 = .ok (.iconst 1, 1) := by decide +kernel
theorem dX2_remove_14 : decode cX2_remove 14 = .ok (.iadd, 1) := by decide +kernel
theorem dX2_remove_15 : decode cX2_remove 15 = .ok (.istore_n 3, 1) := by decide +kernel
theorem dX2_remove_16 : decode cX2_remove 16 = .ok (.iload_n 3, 1) := by decide +kernel
theorem dX2_remove_17 : decode cX2_remove 17 = .ok (.aload_n 0, 1) := by decide +kernel
theorem dX2_remove_18 : decode cX2_remove 18 = .ok (.getfield 22, 3) := by decide +kernel
theorem dX2_remove_21 : decode cX2_remove 21 = .ok (.if_icmp .ge 32, 3) := by decide +kernel
theorem dX2_remove_24 : decode cX2_remove 24 = .ok (.iload_n 3, 1) := by decide +kernel
theorem dX2_remove_25 : decode cX2_remove 25 = .ok (.aload_n 0, 1) := by decide +kernel
theorem dX2_remove_26 : decode cX2_remove 26 = .ok (.getfield 15, 3) := by decide +kernel
theorem dX2_remove_29 : decode cX2_remove 29 = .ok (.arraylength, 1) := by decide +kernel
theorem dX2_remove_30 : decode cX2_remove 30 = .ok (.if_icmp .ge 23, 3) := by decide +kernel
theorem dX2_remove_33 : decode cX2_remove 33 = .ok (.aload_n 0, 1) := by decide +kernel
theorem dX2_remove_34 : decode cX2_remove 34 = .ok (.getfield 15, 3) := by decide +kernel
theorem dX2_remove_37 : decode cX2_remove 37 = .ok (.iload_n 3, 1) := by decide +kernel
theorem dX2_remove_38 : decode cX2_remove 38 = .ok (.iconst 1, 1) := by decide +kernel
theorem dX2_remove_39 : decode cX2_remove 39 = .ok (.isub, 1) := by decide +kernel
theorem dX2_remove_40 : decode cX2_remove 40 = .ok (.aload_n 0, 1) := by decide +kernel
theorem dX2_remove_41 : decode cX2_remove 41 = .ok (.getfield 15, 3) := by decide +kernel
theorem dX2_remove_44 : decode cX2_remove 44 = .ok (.iload_n 3, 1) := by decide +kernel
theorem dX2_remove_45 : decode cX2_remove 45 = .ok (.iaload, 1) := by decide +kernel
theorem dX2_remove_46 : decode cX2_remove 46 = .ok (.iastore, 1) := by decide +kernel
theorem dX2_remove_47 : decode cX2_remove 47 = .ok (.iinc 3 1, 3) := by decide +kernel
theorem dX2_remove_50 : decode cX2_remove 50 = .ok (.goto (-34), 3) := by decide +kernel
theorem dX2_remove_53 : decode cX2_remove 53 = .ok (.aload_n 0, 1) := by decide +kernel
theorem dX2_remove_54 : decode cX2_remove 54 = .ok (.dup, 1) := by decide +kernel
theorem dX2_remove_55 : decode cX2_remove 55 = .ok (.getfield 22, 3) := by decide +kernel
theorem dX2_remove_58 : decode cX2_remove 58 = .ok (.iconst 1, 1) := by decide +kernel
theorem dX2_remove_59 : decode cX2_remove 59 = .ok (.isub, 1) := by decide +kernel
theorem dX2_remove_60 : decode cX2_remove 60 = .ok (.putfield 22, 3) := by decide +kernel
theorem dX2_remove_63 : decode cX2_remove 63 = .ok (.aload_n 0, 1) := by decide +kernel
theorem dX2_remove_64 : decode cX2_remove 64 = .ok (.iload_n 1, 1) := by decide +kernel
theorem dX2_remove_65 : decode cX2_remove 65 = .ok (.invokevirtual 45, 3) := by decide +kernel
theorem dX2_remove_68 : decode cX2_remove 68 = .ok (.istore_n 3, 1) := by decide +kernel
theorem dX2_remove_69 : decode cX2_remove 69 = .ok (.iconst 0, 1) := by decide +kernel
theorem dX2_remove_70 : decode cX2_remove 70 = .ok (.istore 4, 2) := by decide +kernel
theorem dX2_remove_72 : decode cX2_remove 72 = .ok (.iload 4, 2) := by decide +kernel
theorem dX2_remove_74 : decode cX2_remove 74 = .ok (.aload_n 0, 1) := by decide +kernel
theorem dX2_remove_75 : decode cX2_remove 75 = .ok (.getfield 18, 3) := by decide +kernel
theorem dX2_remove_78 : decode cX2_remove 78 = .ok (.if_icmp .ge 26, 3) := by decide +kernel
theorem dX2_remove_81 : decode cX2_remove 81 = .ok (.aload_n 0, 1) := by decide +kernel
theorem dX2_remove_82 : decode cX2_remove 82 = .ok (.iload 4, 2) := by decide +kernel
theorem dX2_remove_84 : decode cX2_remove 84 = .ok (.invokevirtual 34, 3) := by decide +kernel
theorem dX2_remove_87 : decode cX2_remove 87 = .ok (.iload_n 1, 1) := by decide +kernel
theorem dX2_remove_88 : decode cX2_remove 88 = .ok (.if_icmp .ne 10, 3) := by decide +kernel
theorem dX2_remove_91 : decode cX2_remove 91 = .ok (.aload_n 0, 1) := by decide +kernel
theorem dX2_remove_92 : decode cX2_remove 92 = .ok (.iload 4, 2) := by decide +kernel
theorem dX2_remove_94 : decode cX2_remove 94 = .ok (.iconst (-1), 1) := by decide +kernel
theorem dX2_remove_95 : decode cX2_remove 95 = .ok (.invokevirtual 41, 3) := by decide +kernel
theorem dX2_remove_98 : decode cX2_remove 98 = .ok (.iinc 4 1, 3) := by decide +kernel
theorem dX2_remove_101 : decode cX2_remove 101 = .ok (.goto (-29), 3) := by decide +kernel
theorem dX2_remove_104 : decode cX2_remove 104 = .ok (.iload_n 3, 1) := by decide +kernel
theorem dX2_remove_105 : decode cX2_remove 105 = .ok (.ireturn, 1) := by decide +kernel
theorem dX2_differences_0 : decode cX2_differences 0 = .ok (.iconst 0, 1) := by decide +kernel
theorem dX2_differences_1 : decode cX2_differences 1 = .ok (.istore_n 2, 1) := by decide +kernel
theorem dX2_differences_2 : decode cX2_differences 2 = .ok (.iconst 0, 1) := by decide +kernel
theorem dX2_differences_3 : decode cX2_differences 3 = .ok (.istore_n 3, 1) := by decide +kernel
theorem dX2_differences_4 : decode cX2_differences 4 = .ok (.iload_n 3, 1) := by decide +kernel
theorem dX2_differences_5 : decode cX2_differences 5 = .ok (.aload_n 0, 1) := by decide +kernel
theorem dX2_differences_6 : decode cX2_differences 6 = .ok (.getfield 18, 3) := by decide +kernel
theorem dX2_differences_9 : decode cX2_differences 9 = .ok (.if_icmp .ge 25, 3) := by decide +kernel
theorem dX2_differences_12 : decode cX2_differences 12 = .ok (.aload_n 0, 1) := by decide +kernel
theorem dX2_differences_13 : decode cX2_differences 13 = .ok (.iload_n 3, 1) := by decide +kernel
theorem dX2_differences_14 : decode cX2_differences 14 = .ok (.invokevirtual 34, 3) := by decide +kernel
theorem dX2_differences_17 : decode cX2_differences 17 = .ok (.aload_n 1, 1) := by decide +kernel
theorem dX2_differences_18 : decode cX2_differences 18 = .ok (.iload_n 3, 1) := by decide +kernel
theorem dX2_differences_19 : decode cX2_differences 19 = .ok (.invokevirtual 34, 3) := by decide +kernel
theorem dX2_differences_22 : decode cX2_differences 22 = .ok (.if_icmp .eq 6, 3) := by decide +kernel
theorem dX2_differences_25 : decode cX2_differences 25 = .ok (.iinc 2 1, 3) := by decide +kernel
theorem dX2_differences_28 : decode cX2_differences 28 = .ok (.iinc 3 1, 3) := by decide +kernel
theorem dX2_differences_31 : decode cX2_differences 31 = .ok (.goto (-27), 3) := by decide +kernel
theorem dX2_differences_34 : decode cX2_differences 34 = .ok (.iload_n 2, 1) := by decide +kernel
theorem dX2_differences_35 : decode cX2_differences 35 = .ok (.ireturn, 1) := by decide +kernel
theorem dX2_mostHolesSideBySide_0 : decode cX2_mostHolesSideBySide 0 = .ok (.iconst 0, 1) := by decide +kernel
theorem dX2_mostHolesSideBySide_1 : decode cX2_mostHolesSideBySide 1 = .ok (.istore_n 1, 1) := by decide +kernel
theorem dX2_mostHolesSideBySide_2 : decode cX2_mostHolesSideBySide 2 = .ok (.iconst 0, 1) := by decide +kernel
theorem dX2_mostHolesSideBySide_3 : decode cX2_mostHolesSideBySide 3 = .ok (.istore_n 2, 1) := by decide +kernel
theorem dX2_mostHolesSideBySide_4 : decode cX2_mostHolesSideBySide 4 = .ok (.iconst 0, 1) := by decide +kernel
theorem dX2_mostHolesSideBySide_5 : decode cX2_mostHolesSideBySide 5 = .ok (.istore_n 3, 1) := by decide +kernel
theorem dX2_mostHolesSideBySide_6 : decode cX2_mostHolesSideBySide 6 = .ok (.iload_n 3, 1) := by decide +kernel
theorem dX2_mostHolesSideBySide_7 : decode cX2_mostHolesSideBySide 7 = .ok (.aload_n 0, 1) := by decide +kernel
theorem dX2_mostHolesSideBySide_8 : decode cX2_mostHolesSideBySide 8 = .ok (.getfield 18, 3) := by decide +kernel
theorem dX2_mostHolesSideBySide_11 : decode cX2_mostHolesSideBySide 11 = .ok (.if_icmp .ge 32, 3) := by decide +kernel
theorem dX2_mostHolesSideBySide_14 : decode cX2_mostHolesSideBySide 14 = .ok (.aload_n 0, 1) := by decide +kernel
theorem dX2_mostHolesSideBySide_15 : decode cX2_mostHolesSideBySide 15 = .ok (.iload_n 3, 1) := by decide +kernel
theorem dX2_mostHolesSideBySide_16 : decode cX2_mostHolesSideBySide 16 = .ok (.invokevirtual 34, 3) := by decide +kernel
theorem dX2_mostHolesSideBySide_19 : decode cX2_mostHolesSideBySide 19 = .ok (.iconst (-1), 1) := by decide +kernel
theorem dX2_mostHolesSideBySide_20 : decode cX2_mostHolesSideBySide 20 = .ok (.if_icmp .ne 9, 3) := by decide +kernel
theorem dX2_mostHolesSideBySide_23 : decode cX2_mostHolesSideBySide 23 = .ok (.iload_n 2, 1) := by decide +kernel
theorem dX2_mostHolesSideBySide_24 : decode cX2_mostHolesSideBySide 24 = .ok (.iconst 1, 1) := by decide +kernel
theorem dX2_mostHolesSideBySide_25 : decode cX2_mostHolesSideBySide 25 = .ok (.iadd, 1) := by decide +kernel
theorem dX2_mostHolesSideBySide_26 : decode cX2_mostHolesSideBySide 26 = .ok (.goto 4, 3) := by decide +kernel
theorem dX2_mostHolesSideBySide_29 : decode cX2_mostHolesSideBySide 29 = .ok (.iconst 0, 1) := by decide +kernel
theorem dX2_mostHolesSideBySide_30 : decode cX2_mostHolesSideBySide 30 = .ok (.istore_n 2, 1) := by decide +kernel
theorem dX2_mostHolesSideBySide_31 : decode cX2_mostHolesSideBySide 31 = .ok (.iload_n 1, 1) := by decide +kernel
theorem dX2_mostHolesSideBySide_32 : decode cX2_mostHolesSideBySide 32 = .ok (.iload_n 2, 1) := by decide +kernel
theorem dX2_mostHolesSideBySide_33 : decode cX2_mostHolesSideBySide 33 = .ok (.invokestatic 31, 3) := by decide +kernel
theorem dX2_mostHolesSideBySide_36 : decode cX2_mostHolesSideBySide 36 = .ok (.istore_n 1, 1) := by decide +kernel
theorem dX2_mostHolesSideBySide_37 : decode cX2_mostHolesSideBySide 37 = .ok (.iinc 3 1, 3) := by decide +kernel
theorem dX2_mostHolesSideBySide_40 : decode cX2_mostHolesSideBySide 40 = .ok (.goto (-34), 3) := by decide +kernel
theorem dX2_mostHolesSideBySide_43 : decode cX2_mostHolesSideBySide 43 = .ok (.iload_n 1, 1) := by decide +kernel
theorem dX2_mostHolesSideBySide_44 : decode cX2_mostHolesSideBySide 44 = .ok (.ireturn, 1) := by decide +kernel
theorem dX2_hueNumber_0 : decode cX2_hueNumber 0 = .ok (.aload_n 0, 1) := by decide +kernel
theorem dX2_hueNumber_1 : decode cX2_hueNumber 1 = .ok (.iload_n 1, 1) := by decide +kernel
theorem dX2_hueNumber_2 : decode cX2_hueNumber 2 = .ok (.invokevirtual 38, 3) := by decide +kernel
theorem dX2_hueNumber_5 : decode cX2_hueNumber 5 = .ok (.istore_n 3, 1) := by decide +kernel
theorem dX2_hueNumber_6 : decode cX2_hueNumber 6 = .ok (.iload_n 3, 1) := by decide +kernel
theorem dX2_hueNumber_7 : decode cX2_hueNumber 7 = .ok (.iconst (-1), 1) := by decide +kernel
theorem dX2_hueNumber_8 : decode cX2_hueNumber 8 = .ok (.if_icmp .ne 5, 3) := by decide +kernel
theorem dX2_hueNumber_11 : decode cX2_hueNumber 11 = .ok (.iconst (-1), 1) := by decide +kernel
theorem dX2_hueNumber_12 : decode cX2_hueNumber 12 = .ok (.ireturn, 1) := by decide +kernel
theorem dX2_hueNumber_13 : decode cX2_hueNumber 13 = .ok (.iload_n 2, 1) := by decide +kernel
theorem dX2_hueNumber_14 : decode cX2_hueNumber 14 = .ok (.tableswitch 45 0 2 #[26, 33, 39], 26) := by decide +kernel
theorem dX2_hueNumber_40 : decode cX2_hueNumber 40 = .ok (.aload_n 0, 1) := by decide +kernel
theorem dX2_hueNumber_41 : decode cX2_hueNumber 41 = .ok (.iload_n 1, 1) := by decide +kernel
theorem dX2_hueNumber_42 : decode cX2_hueNumber 42 = .ok (.iconst 0, 1) := by decide +kernel
theorem dX2_hueNumber_43 : decode cX2_hueNumber 43 = .ok (.invokevirtual 48, 3) := by decide +kernel
theorem dX2_hueNumber_46 : decode cX2_hueNumber 46 = .ok (.ireturn, 1) := by decide +kernel
theorem dX2_hueNumber_47 : decode cX2_hueNumber 47 = .ok (.aload_n 0, 1) := by decide +kernel
theorem dX2_hueNumber_48 : decode cX2_hueNumber 48 = .ok (.iload_n 1, 1) := by decide +kernel
theorem dX2_hueNumber_49 : decode cX2_hueNumber 49 = .ok (.invokevirtual 45, 3) := by decide +kernel
theorem dX2_hueNumber_52 : decode cX2_hueNumber 52 = .ok (.ireturn, 1) := by decide +kernel
theorem dX2_hueNumber_53 : decode cX2_hueNumber 53 = .ok (.aload_n 0, 1) := by decide +kernel
theorem dX2_hueNumber_54 : decode cX2_hueNumber 54 = .ok (.iload_n 1, 1) := by decide +kernel
theorem dX2_hueNumber_55 : decode cX2_hueNumber 55 = .ok (.invokevirtual 51, 3) := by decide +kernel
theorem dX2_hueNumber_58 : decode cX2_hueNumber 58 = .ok (.ireturn, 1) := by decide +kernel
theorem dX2_hueNumber_59 : decode cX2_hueNumber 59 = .ok (.iload_n 3, 1) := by decide +kernel
theorem dX2_hueNumber_60 : decode cX2_hueNumber 60 = .ok (.ireturn, 1) := by decide +kernel
theorem dX2_phaseNumber_0 : decode cX2_phaseNumber 0 = .ok (.iload_n 3, 1) := by decide +kernel
theorem dX2_phaseNumber_1 : decode cX2_phaseNumber 1 = .ok (.lookupswitch 41 #[(0, 27), (1, 34)], 27) := by decide +kernel
theorem dX2_phaseNumber_28 : decode cX2_phaseNumber 28 = .ok (.aload_n 0, 1) := by decide +kernel
theorem dX2_phaseNumber_29 : decode cX2_phaseNumber 29 = .ok (.iload_n 1, 1) := by decide +kernel
theorem dX2_phaseNumber_30 : decode cX2_phaseNumber 30 = .ok (.iload_n 2, 1) := by decide +kernel
theorem dX2_phaseNumber_31 : decode cX2_phaseNumber 31 = .ok (.invokevirtual 54, 3) := by decide +kernel
theorem dX2_phaseNumber_34 : decode cX2_phaseNumber 34 = .ok (.ireturn, 1) := by decide +kernel
theorem dX2_phaseNumber_35 : decode cX2_phaseNumber 35 = .ok (.aload_n 0, 1) := by decide +kernel
theorem dX2_phaseNumber_36 : decode cX2_phaseNumber 36 = .ok (.iload_n 1, 1) := by decide +kernel
theorem dX2_phaseNumber_37 : decode cX2_phaseNumber 37 = .ok (.iload_n 2, 1) := by decide +kernel
theorem dX2_phaseNumber_38 : decode cX2_phaseNumber 38 = .ok (.invokevirtual 57, 3) := by decide +kernel
theorem dX2_phaseNumber_41 : decode cX2_phaseNumber 41 = .ok (.ireturn, 1) := by decide +kernel
theorem dX2_phaseNumber_42 : decode cX2_phaseNumber 42 = .ok (.aload_n 0, 1) := by decide +kernel
theorem dX2_phaseNumber_43 : decode cX2_phaseNumber 43 = .ok (.iload_n 1, 1) := by decide +kernel
theorem dX2_phaseNumber_44 : decode cX2_phaseNumber 44 = .ok (.iload_n 2, 1) := by decide +kernel
theorem dX2_phaseNumber_45 : decode cX2_phaseNumber 45 = .ok (.invokevirtual 60, 3) := by decide +kernel
theorem dX2_phaseNumber_48 : decode cX2_phaseNumber 48 = .ok (.ireturn, 1) := by decide +kernel
theorem dX2_fittingPhases_0 : decode cX2_fittingPhases 0 = .ok (.iconst 0, 1) := by decide +kernel
theorem dX2_fittingPhases_1 : decode cX2_fittingPhases 1 = .ok (.istore_n 3, 1) := by decide +kernel
theorem dX2_fittingPhases_2 : decode cX2_fittingPhases 2 = .ok (.iconst 0, 1) := by decide +kernel
theorem dX2_fittingPhases_3 : decode cX2_fittingPhases 3 = .ok (.istore 4, 2) := by decide +kernel
theorem dX2_fittingPhases_5 : decode cX2_fittingPhases 5 = .ok (.iload 4, 2) := by decide +kernel
theorem dX2_fittingPhases_7 : decode cX2_fittingPhases 7 = .ok (.iload_n 2, 1) := by decide +kernel
theorem dX2_fittingPhases_8 : decode cX2_fittingPhases 8 = .ok (.if_icmp .ge 23, 3) := by decide +kernel
theorem dX2_fittingPhases_11 : decode cX2_fittingPhases 11 = .ok (.aload_n 0, 1) := by decide +kernel
theorem dX2_fittingPhases_12 : decode cX2_fittingPhases 12 = .ok (.iload_n 1, 1) := by decide +kernel
theorem dX2_fittingPhases_13 : decode cX2_fittingPhases 13 = .ok (.iload 4, 2) := by decide +kernel
theorem dX2_fittingPhases_15 : decode cX2_fittingPhases 15 = .ok (.iload_n 2, 1) := by decide +kernel
theorem dX2_fittingPhases_16 : decode cX2_fittingPhases 16 = .ok (.invokevirtual 63, 3) := by decide +kernel
theorem dX2_fittingPhases_19 : decode cX2_fittingPhases 19 = .ok (.ifCond .ne 6, 3) := by decide +kernel
theorem dX2_fittingPhases_22 : decode cX2_fittingPhases 22 = .ok (.iinc 3 1, 3) := by decide +kernel
theorem dX2_fittingPhases_25 : decode cX2_fittingPhases 25 = .ok (.iinc 4 1, 3) := by decide +kernel
theorem dX2_fittingPhases_28 : decode cX2_fittingPhases 28 = .ok (.goto (-23), 3) := by decide +kernel
theorem dX2_fittingPhases_31 : decode cX2_fittingPhases 31 = .ok (.iload_n 3, 1) := by decide +kernel
theorem dX2_fittingPhases_32 : decode cX2_fittingPhases 32 = .ok (.ireturn, 1) := by decide +kernel
theorem dX2_lowestPhase_0 : decode cX2_lowestPhase 0 = .ok (.iconst 0, 1) := by decide +kernel
theorem dX2_lowestPhase_1 : decode cX2_lowestPhase 1 = .ok (.istore_n 3, 1) := by decide +kernel
theorem dX2_lowestPhase_2 : decode cX2_lowestPhase 2 = .ok (.iload_n 3, 1) := by decide +kernel
theorem dX2_lowestPhase_3 : decode cX2_lowestPhase 3 = .ok (.iload_n 2, 1) := by decide +kernel
theorem dX2_lowestPhase_4 : decode cX2_lowestPhase 4 = .ok (.if_icmp .ge 21, 3) := by decide +kernel
theorem dX2_lowestPhase_7 : decode cX2_lowestPhase 7 = .ok (.aload_n 0, 1) := by decide +kernel
theorem dX2_lowestPhase_8 : decode cX2_lowestPhase 8 = .ok (.iload_n 1, 1) := by decide +kernel
theorem dX2_lowestPhase_9 : decode cX2_lowestPhase 9 = .ok (.iload_n 3, 1) := by decide +kernel
theorem dX2_lowestPhase_10 : decode cX2_lowestPhase 10 = .ok (.iload_n 2, 1) := by decide +kernel
theorem dX2_lowestPhase_11 : decode cX2_lowestPhase 11 = .ok (.invokevirtual 63, 3) := by decide +kernel
theorem dX2_lowestPhase_14 : decode cX2_lowestPhase 14 = .ok (.ifCond .ne 5, 3) := by decide +kernel
theorem dX2_lowestPhase_17 : decode cX2_lowestPhase 17 = .ok (.iload_n 3, 1) := by decide +kernel
theorem dX2_lowestPhase_18 : decode cX2_lowestPhase 18 = .ok (.ireturn, 1) := by decide +kernel
theorem dX2_lowestPhase_19 : decode cX2_lowestPhase 19 = .ok (.iinc 3 1, 3) := by decide +kernel
theorem dX2_lowestPhase_22 : decode cX2_lowestPhase 22 = .ok (.goto (-20), 3) := by decide +kernel
theorem dX2_lowestPhase_25 : decode cX2_lowestPhase 25 = .ok (.iconst (-1), 1) := by decide +kernel
theorem dX2_lowestPhase_26 : decode cX2_lowestPhase 26 = .ok (.ireturn, 1) := by decide +kernel
theorem dX2_fillingPhase_0 : decode cX2_fillingPhase 0 = .ok (.iconst (-1), 1) := by decide +kernel
theorem dX2_fillingPhase_1 : decode cX2_fillingPhase 1 = .ok (.istore_n 3, 1) := by decide +kernel
theorem dX2_fillingPhase_2 : decode cX2_fillingPhase 2 = .ok (.iconst 0, 1) := by decide +kernel
theorem dX2_fillingPhase_3 : decode cX2_fillingPhase 3 = .ok (.istore 4, 2) := by decide +kernel
theorem dX2_fillingPhase_5 : decode cX2_fillingPhase 5 = .ok (.iconst 0, 1) := by decide +kernel
theorem dX2_fillingPhase_6 : decode cX2_fillingPhase 6 = .ok (.istore 5, 2) := by decide +kernel
theorem dX2_fillingPhase_8 : decode cX2_fillingPhase 8 = .ok (.iload 5, 2) := by decide +kernel
theorem dX2_fillingPhase_10 : decode cX2_fillingPhase 10 = .ok (.iload_n 2, 1) := by decide +kernel
theorem dX2_fillingPhase_11 : decode cX2_fillingPhase 11 = .ok (.if_icmp .ge 43, 3) := by decide +kernel
theorem dX2_fillingPhase_14 : decode cX2_fillingPhase 14 = .ok (.aload_n 0, 1) := by decide +kernel
theorem dX2_fillingPhase_15 : decode cX2_fillingPhase 15 = .ok (.iload 5, 2) := by decide +kernel
theorem dX2_fillingPhase_17 : decode cX2_fillingPhase 17 = .ok (.iload_n 2, 1) := by decide +kernel
theorem dX2_fillingPhase_18 : decode cX2_fillingPhase 18 = .ok (.invokevirtual 67, 3) := by decide +kernel
theorem dX2_fillingPhase_21 : decode cX2_fillingPhase 21 = .ok (.istore 6, 2) := by decide +kernel
theorem dX2_fillingPhase_23 : decode cX2_fillingPhase 23 = .ok (.iload 6, 2) := by decide +kernel
theorem dX2_fillingPhase_25 : decode cX2_fillingPhase 25 = .ok (.iload 4, 2) := by decide +kernel
theorem dX2_fillingPhase_27 : decode cX2_fillingPhase 27 = .ok (.if_icmp .le 21, 3) := by decide +kernel
theorem dX2_fillingPhase_30 : decode cX2_fillingPhase 30 = .ok (.aload_n 0, 1) := by decide +kernel
theorem dX2_fillingPhase_31 : decode cX2_fillingPhase 31 = .ok (.iload_n 1, 1) := by decide +kernel
theorem dX2_fillingPhase_32 : decode cX2_fillingPhase 32 = .ok (.iload 5, 2) := by decide +kernel
theorem dX2_fillingPhase_34 : decode cX2_fillingPhase 34 = .ok (.iload_n 2, 1) := by decide +kernel
theorem dX2_fillingPhase_35 : decode cX2_fillingPhase 35 = .ok (.invokevirtual 63, 3) := by decide +kernel
theorem dX2_fillingPhase_38 : decode cX2_fillingPhase 38 = .ok (.ifCond .ne 10, 3) := by decide +kernel
theorem dX2_fillingPhase_41 : decode cX2_fillingPhase 41 = .ok (.iload 6, 2) := by decide +kernel
theorem dX2_fillingPhase_43 : decode cX2_fillingPhase 43 = .ok (.istore 4, 2) := by decide +kernel
theorem dX2_fillingPhase_45 : decode cX2_fillingPhase 45 = .ok (.iload 5, 2) := by decide +kernel
theorem dX2_fillingPhase_47 : decode cX2_fillingPhase 47 = .ok (.istore_n 3, 1) := by decide +kernel
theorem dX2_fillingPhase_48 : decode cX2_fillingPhase 48 = .ok (.iinc 5 1, 3) := by decide +kernel
theorem dX2_fillingPhase_51 : decode cX2_fillingPhase 51 = .ok (.goto (-43), 3) := by decide +kernel
theorem dX2_fillingPhase_54 : decode cX2_fillingPhase 54 = .ok (.iload_n 3, 1) := by decide +kernel
theorem dX2_fillingPhase_55 : decode cX2_fillingPhase 55 = .ok (.ireturn, 1) := by decide +kernel
theorem dX3_init_0 : decode cX3_init 0 = .ok (.aload_n 0, 1) := by decide +kernel
theorem dX3_init_1 : decode cX3_init 1 = .ok (.invokespecial 3, 3) := by decide +kernel
theorem dX3_init_4 : decode cX3_init 4 = .ok (.aload_n 0, 1) := by decide +kernel
theorem dX3_init_5 : decode cX3_init 5 = .ok (.bipush 8, 2) := by decide +kernel
theorem dX3_init_7 : decode cX3_init 7 = .ok (.newarray .int, 2) := by decide +kernel
theorem dX3_init_9 : decode cX3_init 9 = .ok (.putfield 9, 3) := by decide +kernel
theorem dX3_init_12 : decode cX3_init 12 = .ok (.iconst 0, 1) := by decide +kernel
theorem dX3_init_13 : decode cX3_init 13 = .ok (.istore_n 1, 1) := by decide +kernel
theorem dX3_init_14 : decode cX3_init 14 = .ok (.iload_n 1, 1) := by decide +kernel
theorem dX3_init_15 : decode cX3_init 15 = .ok (.aload_n 0, 1) := by decide +kernel
theorem dX3_init_16 : decode cX3_init 16 = .ok (.getfield 9, 3) := by decide +kernel
theorem dX3_init_19 : decode cX3_init 19 = .ok (.arraylength, 1) := by decide +kernel
theorem dX3_init_20 : decode cX3_init 20 = .ok (.if_icmp .ge 18, 3) := by decide +kernel
theorem dX3_init_23 : decode cX3_init 23 = .ok (.aload_n 0, 1) := by decide +kernel
theorem dX3_init_24 : decode cX3_init 24 = .ok (.getfield 9, 3) := by decide +kernel
theorem dX3_init_27 : decode cX3_init 27 = .ok (.iload_n 1, 1) := by decide +kernel
theorem dX3_init_28 : decode cX3_init 28 = .ok (.iconst 2, 1) := by decide +kernel
theorem dX3_init_29 : decode cX3_init 29 = .ok (.iload_n 1, 1) := by decide +kernel
theorem dX3_init_30 : decode cX3_init 30 = .ok (.iadd, 1) := by decide +kernel
theorem dX3_init_31 : decode cX3_init 31 = .ok (.iastore, 1) := by decide +kernel
theorem dX3_init_32 : decode cX3_init 32 = .ok (.iinc 1 1, 3) := by decide +kernel
theorem dX3_init_35 : decode cX3_init 35 = .ok (.goto (-21), 3) := by decide +kernel
theorem dX3_init_38 : decode cX3_init 38 = .ok (.aload_n 0, 1) := by decide +kernel
theorem dX3_init_39 : decode cX3_init 39 = .ok (.iconst 4, 1) := by decide +kernel
theorem dX3_init_40 : decode cX3_init 40 = .ok (.anewarray 15, 3) := by decide +kernel
theorem dX3_init_43 : decode cX3_init 43 = .ok (.putfield 17, 3) := by decide +kernel
theorem dX3_init_46 : decode cX3_init 46 = .ok (.iconst 0, 1) := by decide +kernel
theorem dX3_init_47 : decode cX3_init 47 = .ok (.istore_n 1, 1) := by decide +kernel
theorem dX3_init_48 : decode cX3_init 48 = .ok (.iload_n 1, 1) := by decide +kernel
theorem dX3_init_49 : decode cX3_init 49 = .ok (.aload_n 0, 1) := by decide +kernel
theorem dX3_init_50 : decode cX3_init 50 = .ok (.getfield 17, 3) := by decide +kernel
theorem dX3_init_53 : decode cX3_init 53 = .ok (.arraylength, 1) := by decide +kernel
theorem dX3_init_54 : decode cX3_init 54 = .ok (.if_icmp .ge 22, 3) := by decide +kernel
theorem dX3_init_57 : decode cX3_init 57 = .ok (.aload_n 0, 1) := by decide +kernel
theorem dX3_init_58 : decode cX3_init 58 = .ok (.getfield 17, 3) := by decide +kernel
theorem dX3_init_61 : decode cX3_init 61 = .ok (.iload_n 1, 1) := by decide +kernel
theorem dX3_init_62 : decode cX3_init 62 = .ok (.new 15, 3) := by decide +kernel
theorem dX3_init_65 : decode cX3_init 65 = .ok (.dup, 1) := by decide +kernel
theorem dX3_init_66 : decode cX3_init 66 = .ok (.invokespecial 21, 3) := by decide +kernel
theorem dX3_init_69 : decode cX3_init 69 = .ok (.aastore, 1) := by decide +kernel
theorem dX3_init_70 : decode cX3_init 70 = .ok (.iinc 1 1, 3) := by decide +kernel
theorem dX3_init_73 : decode cX3_init 73 = .ok (.goto (-25), 3) := by decide +kernel
theorem dX3_init_76 : decode cX3_init 76 = .ok (.aload_n 0, 1) := by decide +kernel
theorem dX3_init_77 : decode cX3_init 77 = .ok (.iconst 0, 1) := by decide +kernel
theorem dX3_init_78 : decode cX3_init 78 = .ok (.putfield 22, 3) := by decide +kernel
theorem dX3_init_81 : decode cX3_init 81 = .ok (.aload_n 0, 1) := by decide +kernel
theorem dX3_init_82 : decode cX3_init 82 = .ok (.iconst 0, 1) := by decide +kernel
theorem dX3_init_83 : decode cX3_init 83 = .ok (.putfield 26, 3) := by decide +kernel
theorem dX3_init_86 : decode cX3_init 86 = .ok (.aload_n 0, 1) := by decide +kernel
theorem dX3_init_87 : decode cX3_init 87 = .ok (.iconst 0, 1) := by decide +kernel
theorem dX3_init_88 : decode cX3_init 88 = .ok (.putfield 29, 3) := by decide +kernel
theorem dX3_init_91 : decode cX3_init 91 = .ok (.aload_n 0, 1) := by decide +kernel
theorem dX3_init_92 : decode cX3_init 92 = .ok (.iconst 0, 1) := by decide +kernel
theorem dX3_init_93 : decode cX3_init 93 = .ok (.putfield 32, 3) := by decide +kernel
theorem dX3_init_96 : decode cX3_init 96 = .ok (.return_, 1) := by decide +kernel
theorem dX3_copyFrom_0 : decode cX3_copyFrom 0 = .ok (.iconst 0, 1) := by decide +kernel
theorem dX3_copyFrom_1 : decode cX3_copyFrom 1 = .ok (.istore_n 2, 1) := by decide +kernel
theorem dX3_copyFrom_2 : decode cX3_copyFrom 2 = .ok (.iload_n 2, 1) := by decide +kernel
theorem dX3_copyFrom_3 : decode cX3_copyFrom 3 = .ok (.aload_n 0, 1) := by decide +kernel
theorem dX3_copyFrom_4 : decode cX3_copyFrom 4 = .ok (.getfield 9, 3) := by decide +kernel
theorem dX3_copyFrom_7 : decode cX3_copyFrom 7 = .ok (.arraylength, 1) := by decide +kernel
theorem dX3_copyFrom_8 : decode cX3_copyFrom 8 = .ok (.if_icmp .ge 30, 3) := by decide +kernel
theorem dX3_copyFrom_11 : decode cX3_copyFrom 11 = .ok (.iload_n 2, 1) := by decide +kernel
theorem dX3_copyFrom_12 : decode cX3_copyFrom 12 = .ok (.aload_n 1, 1) := by decide +kernel
theorem dX3_copyFrom_13 : decode cX3_copyFrom 13 = .ok (.getfield 9, 3) := by decide +kernel
theorem dX3_copyFrom_16 : decode cX3_copyFrom 16 = .ok (.arraylength, 1) := by decide +kernel
theorem dX3_copyFrom_17 : decode cX3_copyFrom 17 = .ok (.if_icmp .ge 21, 3) := by decide +kernel
theorem dX3_copyFrom_20 : decode cX3_copyFrom 20 = .ok (.aload_n 0, 1) := by decide +kernel
theorem dX3_copyFrom_21 : decode cX3_copyFrom 21 = .ok (.getfield 9, 3) := by decide +kernel
theorem dX3_copyFrom_24 : decode cX3_copyFrom 24 = .ok (.iload_n 2, 1) := by decide +kernel
theorem dX3_copyFrom_25 : decode cX3_copyFrom 25 = .ok (.aload_n 1, 1) := by decide +kernel
theorem dX3_copyFrom_26 : decode cX3_copyFrom 26 = .ok (.getfield 9, 3) := by decide +kernel
theorem dX3_copyFrom_29 : decode cX3_copyFrom 29 = .ok (.iload_n 2, 1) := by decide +kernel
theorem dX3_copyFrom_30 : decode cX3_copyFrom 30 = .ok (.iaload, 1) := by decide +kernel
theorem dX3_copyFrom_31 : decode cX3_copyFrom 31 = .ok (.iastore, 1) := by decide +kernel
theorem dX3_copyFrom_32 : decode cX3_copyFrom 32 = .ok (.iinc 2 1, 3) := by decide +kernel
theorem dX3_copyFrom_35 : decode cX3_copyFrom 35 = .ok (.goto (-33), 3) := by decide +kernel
theorem dX3_copyFrom_38 : decode cX3_copyFrom 38 = .ok (.aload_n 0, 1) := by decide +kernel
theorem dX3_copyFrom_39 : decode cX3_copyFrom 39 = .ok (.aload_n 1, 1) := by decide +kernel
theorem dX3_copyFrom_40 : decode cX3_copyFrom 40 = .ok (.getfield 22, 3) := by decide +kernel
theorem dX3_copyFrom_43 : decode cX3_copyFrom 43 = .ok (.putfield 22, 3) := by decide +kernel
theorem dX3_copyFrom_46 : decode cX3_copyFrom 46 = .ok (.iconst 0, 1) := by decide +kernel
theorem dX3_copyFrom_47 : decode cX3_copyFrom 47 = .ok (.istore_n 2, 1) := by decide +kernel
theorem dX3_copyFrom_48 : decode cX3_copyFrom 48 = .ok (.iload_n 2, 1) := by decide +kernel
theorem dX3_copyFrom_49 : decode cX3_copyFrom 49 = .ok (.aload_n 0, 1) := by decide +kernel
theorem dX3_copyFrom_50 : decode cX3_copyFrom 50 = .ok (.getfield 22, 3) := by decide +kernel
theorem dX3_copyFrom_53 : decode cX3_copyFrom 53 = .ok (.if_icmp .ge 37, 3) := by decide +kernel
theorem dX3_copyFrom_56 : decode cX3_copyFrom 56 = .ok (.aload_n 0, 1) := by decide +kernel
theorem dX3_copyFrom_57 : decode cX3_copyFrom 57 = .ok (.iload_n 2, 1) := by decide +kernel
theorem dX3_copyFrom_58 : decode cX3_copyFrom 58 = .ok (.invokevirtual 35, 3) := by decide +kernel
theorem dX3_copyFrom_61 : decode cX3_copyFrom 61 = .ok (.astore_n 3, 1) := by decide +kernel
theorem dX3_copyFrom_62 : decode cX3_copyFrom 62 = .ok (.aload_n 1, 1) := by decide +kernel
theorem dX3_copyFrom_63 : decode cX3_copyFrom 63 = .ok (.iload_n 2, 1) := by decide +kernel
theorem dX3_copyFrom_64 : decode cX3_copyFrom 64 = .ok (.invokevirtual 35, 3) := by decide +kernel
theorem dX3_copyFrom_67 : decode cX3_copyFrom 67 = .ok (.astore 4, 2) := by decide +kernel
theorem dX3_copyFrom_69 : decode cX3_copyFrom 69 = .ok (.aload_n 3, 1) := by decide +kernel
theorem dX3_copyFrom_70 : decode cX3_copyFrom 70 = .ok (.ifnull 14, 3) := by decide +kernel
theorem dX3_copyFrom_73 : decode cX3_copyFrom 73 = .ok (.aload 4, 2) := by decide +kernel
theorem dX3_copyFrom_75 : decode cX3_copyFrom 75 = .ok (.ifnull 9, 3) := by decide +kernel
theorem dX3_copyFrom_78 : decode cX3_copyFrom 78 = .ok (.aload_n 3, 1) := by decide +kernel
theorem dX3_copyFrom_79 : decode cX3_copyFrom 79 = .ok (.aload 4, 2) := by decide +kernel
theorem dX3_copyFrom_81 : decode cX3_copyFrom 81 = .ok (.invokevirtual 39, 3) := by decide +kernel
theorem dX3_copyFrom_84 : decode cX3_copyFrom 84 = .ok (.iinc 2 1, 3) := by decide +kernel
theorem dX3_copyFrom_87 : decode cX3_copyFrom 87 = .ok (.goto (-39), 3) := by decide +kernel
theorem dX3_copyFrom_90 : decode cX3_copyFrom 90 = .ok (.aload_n 0, 1) := by decide +kernel
theorem dX3_copyFrom_91 : decode cX3_copyFrom 91 = .ok (.aload_n 1, 1) := by decide +kernel
theorem dX3_copyFrom_92 : decode cX3_copyFrom 92 = .ok (.getfield 26, 3) := by decide +kernel
theorem dX3_copyFrom_95 : decode cX3_copyFrom 95 = .ok (.putfield 26, 3) := by decide +kernel
theorem dX3_copyFrom_98 : decode cX3_copyFrom 98 = .ok (.aload_n 0, 1) := by decide +kernel
theorem dX3_copyFrom_99 : decode cX3_copyFrom 99 = .ok (.aload_n 1, 1) := by decide +kernel
theorem dX3_copyFrom_100 : decode cX3_copyFrom 100 = .ok (.getfield 29, 3) := by decide +kernel
theorem dX3_copyFrom_103 : decode cX3_copyFrom 103 = .ok (.putfield 29, 3) := by decide +kernel
theorem dX3_copyFrom_106 : decode cX3_copyFrom 106 = .ok (.aload_n 0, 1) := by decide +kernel
theorem dX3_copyFrom_107 : decode cX3_copyFrom 107 = .ok (.aload_n 1, 1) := by decide +kernel
theorem dX3_copyFrom_108 : decode cX3_copyFrom 108 = .ok (.getfield 32, 3) := by decide +kernel
theorem dX3_copyFrom_111 : decode cX3_copyFrom 111 = .ok (.putfield 32, 3) := by decide +kernel
theorem dX3_copyFrom_114 : decode cX3_copyFrom 114 = .ok (.return_, 1) := by decide +kernel
theorem dX3_gapAt_0 : decode cX3_gapAt 0 = .ok (.iload_n 1, 1) := by decide +kernel
theorem dX3_gapAt_1 : decode cX3_gapAt 1 = .ok (.ifCond .lt 21, 3) := by decide +kernel
theorem dX3_gapAt_4 : decode cX3_gapAt 4 = .ok (.iload_n 1, 1) := by decide +kernel
theorem dX3_gapAt_5 : decode cX3_gapAt 5 = .ok (.aload_n 0, 1) := by decide +kernel
theorem dX3_gapAt_6 : decode cX3_gapAt 6 = .ok (.getfield 9, 3) := by decide +kernel
theorem dX3_gapAt_9 : decode cX3_gapAt 9 = .ok (.arraylength, 1) := by decide +kernel
theorem dX3_gapAt_10 : decode cX3_gapAt 10 = .ok (.if_icmp .ge 12, 3) := by decide +kernel
theorem dX3_gapAt_13 : decode cX3_gapAt 13 = .ok (.aload_n 0, 1) := by decide +kernel
theorem dX3_gapAt_14 : decode cX3_gapAt 14 = .ok (.getfield 9, 3) := by decide +kernel
theorem dX3_gapAt_17 : decode cX3_gapAt 17 = .ok (.iload_n 1, 1) := by decide +kernel
theorem dX3_gapAt_18 : decode cX3_gapAt 18 = .ok (.iaload, 1) := by decide +kernel
theorem dX3_gapAt_19 : decode cX3_gapAt 19 = .ok (.goto 4, 3) := by decide +kernel
theorem dX3_gapAt_22 : decode cX3_gapAt 22 = .ok (.iconst 0, 1) := by decide +kernel
theorem dX3_gapAt_23 : decode cX3_gapAt 23 = .ok (.ireturn, 1) := by decide +kernel
theorem dX3_setGap_0 : decode cX3_setGap 0 = .ok (.iload_n 1, 1) := by decide +kernel
theorem dX3_setGap_1 : decode cX3_setGap 1 = .ok (.ifCond .lt 19, 3) := by decide +kernel
theorem dX3_setGap_4 : decode cX3_setGap 4 = .ok (.iload_n 1, 1) := by decide +kernel
theorem dX3_setGap_5 : decode cX3_setGap 5 = .ok (.aload_n 0, 1) := by decide +kernel
theorem dX3_setGap_6 : decode cX3_setGap 6 = .ok (.getfield 9, 3) := by decide +kernel
theorem dX3_setGap_9 : decode cX3_setGap 9 = .ok (.arraylength, 1) := by decide +kernel
theorem dX3_setGap_10 : decode cX3_setGap 10 = .ok (.if_icmp .ge 10, 3) := by decide +kernel
theorem dX3_setGap_13 : decode cX3_setGap 13 = .ok (.aload_n 0, 1) := by decide +kernel
theorem dX3_setGap_14 : decode cX3_setGap 14 = .ok (.getfield 9, 3) := by decide +kernel
theorem dX3_setGap_17 : decode cX3_setGap 17 = .ok (.iload_n 1, 1) := by decide +kernel
theorem dX3_setGap_18 : decode cX3_setGap 18 = .ok (.iload_n 2, 1) := by decide +kernel
theorem dX3_setGap_19 : decode cX3_setGap 19 = .ok (.iastore, 1) := by decide +kernel
theorem dX3_setGap_20 : decode cX3_setGap 20 = .ok (.return_, 1) := by decide +kernel
theorem dX3_ropeCount_0 : decode cX3_ropeCount 0 = .ok (.aload_n 0, 1) := by decide +kernel
theorem dX3_ropeCount_1 : decode cX3_ropeCount 1 = .ok (.getfield 22, 3) := by decide +kernel
theorem dX3_ropeCount_4 : decode cX3_ropeCount 4 = .ok (.ireturn, 1) := by decide +kernel
theorem dX3_ropeAt_0 : decode cX3_ropeAt 0 = .ok (.iload_n 1, 1) := by decide +kernel
theorem dX3_ropeAt_1 : decode cX3_ropeAt 1 = .ok (.ifCond .lt 29, 3) := by decide +kernel
theorem dX3_ropeAt_4 : decode cX3_ropeAt 4 = .ok (.iload_n 1, 1) := by decide +kernel
theorem dX3_ropeAt_5 : decode cX3_ropeAt 5 = .ok (.aload_n 0, 1) := by decide +kernel
theorem dX3_ropeAt_6 : decode cX3_ropeAt 6 = .ok (.getfield 22, 3) := by decide +kernel
theorem dX3_ropeAt_9 : decode cX3_ropeAt 9 = .ok (.if_icmp .ge 21, 3) := by decide +kernel
theorem dX3_ropeAt_12 : decode cX3_ropeAt 12 = .ok (.iload_n 1, 1) := by decide +kernel
theorem dX3_ropeAt_13 : decode cX3_ropeAt 13 = .ok (.aload_n 0, 1) := by decide +kernel
theorem dX3_ropeAt_14 : decode cX3_ropeAt 14 = .ok (.getfield 17, 3) := by decide +kernel
theorem dX3_ropeAt_17 : decode cX3_ropeAt 17 = .ok (.arraylength, 1) := by decide +kernel
theorem dX3_ropeAt_18 : decode cX3_ropeAt 18 = .ok (.if_icmp .ge 12, 3) := by decide +kernel
theorem dX3_ropeAt_21 : decode cX3_ropeAt 21 = .ok (.aload_n 0, 1) := by decide +kernel
theorem dX3_ropeAt_22 : decode cX3_ropeAt 22 = .ok (.getfield 17, 3) := by decide +kernel
theorem dX3_ropeAt_25 : decode cX3_ropeAt 25 = .ok (.iload_n 1, 1) := by decide +kernel
theorem dX3_ropeAt_26 : decode cX3_ropeAt 26 = .ok (.aaload, 1) := by decide +kernel
theorem dX3_ropeAt_27 : decode cX3_ropeAt 27 = .ok (.goto 4, 3) := by decide +kernel
theorem dX3_ropeAt_30 : decode cX3_ropeAt 30 = .ok (.aconst_null, 1) := by decide +kernel
theorem dX3_ropeAt_31 : decode cX3_ropeAt 31 = .ok (.areturn, 1) := by decide +kernel
theorem dX3_addRope_0 : decode cX3_addRope 0 = .ok (.aload_n 0, 1) := by decide +kernel
theorem dX3_addRope_1 : decode cX3_addRope 1 = .ok (.getfield 22, 3) := by decide +kernel
theorem dX3_addRope_4 : decode cX3_addRope 4 = .ok (.ifCond .lt 15, 3) := by decide +kernel
theorem dX3_addRope_7 : decode cX3_addRope 7 = .ok (.aload_n 0, 1) := by decide +kernel
theorem dX3_addRope_8 : decode cX3_addRope 8 = .ok (.getfield 22, 3) := by decide +kernel
theorem dX3_addRope_11 : decode cX3_addRope 11 = .ok (.aload_n 0, 1) := by decide +kernel
theorem dX3_addRope_12 : decode cX3_addRope 12 = .ok (.getfield 17, 3) := by decide +kernel
theorem dX3_addRope_15 : decode cX3_addRope 15 = .ok (.arraylength, 1) := by decide +kernel
theorem dX3_addRope_16 : decode cX3_addRope 16 = .ok (.if_icmp .lt 5, 3) := by decide +kernel
theorem dX3_addRope_19 : decode cX3_addRope 19 = .ok (.aconst_null, 1) := by decide +kernel
theorem dX3_addRope_20 : decode cX3_addRope 20 = .ok (.areturn, 1) := by decide +kernel
theorem dX3_addRope_21 : decode cX3_addRope 21 = .ok (.aload_n 0, 1) := by decide +kernel
theorem dX3_addRope_22 : decode cX3_addRope 22 = .ok (.dup, 1) := by decide +kernel
theorem dX3_addRope_23 : decode cX3_addRope 23 = .ok (.getfield 22, 3) := by decide +kernel
theorem dX3_addRope_26 : decode cX3_addRope 26 = .ok (.iconst 1, 1) := by decide +kernel
theorem dX3_addRope_27 : decode cX3_addRope 27 = .ok (.iadd, 1) := by decide +kernel
theorem dX3_addRope_28 : decode cX3_addRope 28 = .ok (.putfield 22, 3) := by decide +kernel
theorem dX3_addRope_31 : decode cX3_addRope 31 = .ok (.aload_n 0, 1) := by decide +kernel
theorem dX3_addRope_32 : decode cX3_addRope 32 = .ok (.aload_n 0, 1) := by decide +kernel
theorem dX3_addRope_33 : decode cX3_addRope 33 = .ok (.getfield 22, 3) := by decide +kernel
theorem dX3_addRope_36 : decode cX3_addRope 36 = .ok (.iconst 1, 1) := by decide +kernel
theorem dX3_addRope_37 : decode cX3_addRope 37 = .ok (.isub, 1) := by decide +kernel
theorem dX3_addRope_38 : decode cX3_addRope 38 = .ok (.invokevirtual 35, 3) := by decide +kernel
theorem dX3_addRope_41 : decode cX3_addRope 41 = .ok (.astore_n 2, 1) := by decide +kernel
theorem dX3_addRope_42 : decode cX3_addRope 42 = .ok (.aload_n 2, 1) := by decide +kernel
theorem dX3_addRope_43 : decode cX3_addRope 43 = .ok (.ifnull 8, 3) := by decide +kernel
theorem dX3_addRope_46 : decode cX3_addRope 46 = .ok (.aload_n 2, 1) := by decide +kernel
theorem dX3_addRope_47 : decode cX3_addRope 47 = .ok (.iload_n 1, 1) := by decide +kernel
theorem dX3_addRope_48 : decode cX3_addRope 48 = .ok (.invokevirtual 43, 3) := by decide +kernel
theorem dX3_addRope_51 : decode cX3_addRope 51 = .ok (.aload_n 2, 1) := by decide +kernel
theorem dX3_addRope_52 : decode cX3_addRope 52 = .ok (.areturn, 1) := by decide +kernel
theorem dX3_removeRope_0 : decode cX3_removeRope 0 = .ok (.aload_n 0, 1) := by decide +kernel
theorem dX3_removeRope_1 : decode cX3_removeRope 1 = .ok (.iload_n 1, 1) := by decide +kernel
theorem dX3_removeRope_2 : decode cX3_removeRope 2 = .ok (.invokevirtual 35, 3) := by decide +kernel
theorem dX3_removeRope_5 : decode cX3_removeRope 5 = .ok (.astore_n 2, 1) := by decide +kernel
theorem dX3_removeRope_6 : decode cX3_removeRope 6 = .ok (.aload_n 2, 1) := by decide +kernel
theorem dX3_removeRope_7 : decode cX3_removeRope 7 = .ok (.ifnonnull 4, 3) := by decide +kernel
theorem dX3_removeRope_10 : decode cX3_removeRope 10 = .ok (.return_, 1) := by decide +kernel
theorem dX3_removeRope_11 : decode cX3_removeRope 11 = .ok (.iload_n 1, 1) := by decide +kernel
theorem dX3_removeRope_12 : decode cX3_removeRope 12 = .ok (.iconst 1, 1) := by decide +kernel
theorem dX3_removeRope_13 : decode cX3_removeRope 13 = .ok (.iadd, 1) := by decide +kernel
theorem dX3_removeRope_14 : decode cX3_removeRope 14 = .ok (.istore_n 3, 1) := by decide +kernel
theorem dX3_removeRope_15 : decode cX3_removeRope 15 = .ok (.iload_n 3, 1) := by decide +kernel
theorem dX3_removeRope_16 : decode cX3_removeRope 16 = .ok (.aload_n 0, 1) := by decide +kernel
theorem dX3_removeRope_17 : decode cX3_removeRope 17 = .ok (.getfield 22, 3) := by decide +kernel
theorem dX3_removeRope_20 : decode cX3_removeRope 20 = .ok (.if_icmp .ge 32, 3) := by decide +kernel
theorem dX3_removeRope_23 : decode cX3_removeRope 23 = .ok (.iload_n 3, 1) := by decide +kernel
theorem dX3_removeRope_24 : decode cX3_removeRope 24 = .ok (.aload_n 0, 1) := by decide +kernel
theorem dX3_removeRope_25 : decode cX3_removeRope 25 = .ok (.getfield 17, 3) := by decide +kernel
theorem dX3_removeRope_28 : decode cX3_removeRope 28 = .ok (.arraylength, 1) := by decide +kernel
theorem dX3_removeRope_29 : decode cX3_removeRope 29 = .ok (.if_icmp .ge 23, 3) := by decide +kernel
theorem dX3_removeRope_32 : decode cX3_removeRope 32 = .ok (.aload_n 0, 1) := by decide +kernel
theorem dX3_removeRope_33 : decode cX3_removeRope 33 = .ok (.getfield 17, 3) := by decide +kernel
theorem dX3_removeRope_36 : decode cX3_removeRope 36 = .ok (.iload_n 3, 1) := by decide +kernel
theorem dX3_removeRope_37 : decode cX3_removeRope 37 = .ok (.iconst 1, 1) := by decide +kernel
theorem dX3_removeRope_38 : decode cX3_removeRope 38 = .ok (.isub, 1) := by decide +kernel
theorem dX3_removeRope_39 : decode cX3_removeRope 39 = .ok (.aload_n 0, 1) := by decide +kernel
theorem dX3_removeRope_40 : decode cX3_removeRope 40 = .ok (.getfield 17, 3) := by decide +kernel
theorem dX3_removeRope_43 : decode cX3_removeRope 43 = .ok (.iload_n 3, 1) := by decide +kernel
theorem dX3_removeRope_44 : decode cX3_removeRope 44 = .ok (.aaload, 1) := by decide +kernel
theorem dX3_removeRope_45 : decode cX3_removeRope 45 = .ok (.aastore, 1) := by decide +kernel
theorem dX3_removeRope_46 : decode cX3_removeRope 46 = .ok (.iinc 3 1, 3) := by decide +kernel
theorem dX3_removeRope_49 : decode cX3_removeRope 49 = .ok (.goto (-34), 3) := by decide +kernel
theorem dX3_removeRope_52 : decode cX3_removeRope 52 = .ok (.aload_n 0, 1) := by decide +kernel
theorem dX3_removeRope_53 : decode cX3_removeRope 53 = .ok (.dup, 1) := by decide +kernel
theorem dX3_removeRope_54 : decode cX3_removeRope 54 = .ok (.getfield 22, 3) := by decide +kernel
theorem dX3_removeRope_57 : decode cX3_removeRope 57 = .ok (.iconst 1, 1) := by decide +kernel
theorem dX3_removeRope_58 : decode cX3_removeRope 58 = .ok (.isub, 1) := by decide +kernel
theorem dX3_removeRope_59 : decode cX3_removeRope 59 = .ok (.putfield 22, 3) := by decide +kernel
theorem dX3_removeRope_62 : decode cX3_removeRope 62 = .ok (.aload_n 0, 1) := by decide +kernel
theorem dX3_removeRope_63 : decode cX3_removeRope 63 = .ok (.getfield 22, 3) := by decide +kernel
theorem dX3_removeRope_66 : decode cX3_removeRope 66 = .ok (.ifCond .lt 25, 3) := by decide +kernel
theorem dX3_removeRope_69 : decode cX3_removeRope 69 = .ok (.aload_n 0, 1) := by decide +kernel
theorem dX3_removeRope_70 : decode cX3_removeRope 70 = .ok (.getfield 22, 3) := by decide +kernel
theorem dX3_removeRope_73 : decode cX3_removeRope 73 = .ok (.aload_n 0, 1) := by decide +kernel
theorem dX3_removeRope_74 : decode cX3_removeRope 74 = .ok (.getfield 17, 3) := by decide +kernel
theorem dX3_removeRope_77 : decode cX3_removeRope 77 = .ok (.arraylength, 1) := by decide +kernel
theorem dX3_removeRope_78 : decode cX3_removeRope 78 = .ok (.if_icmp .ge 13, 3) := by decide +kernel
theorem dX3_removeRope_81 : decode cX3_removeRope 81 = .ok (.aload_n 0, 1) := by decide +kernel
theorem dX3_removeRope_82 : decode cX3_removeRope 82 = .ok (.getfield 17, 3) := by decide +kernel
theorem dX3_removeRope_85 : decode cX3_removeRope 85 = .ok (.aload_n 0, 1) := by decide +kernel
theorem dX3_removeRope_86 : decode cX3_removeRope 86 = .ok (.getfield 22, 3) := by decide +kernel
theorem dX3_removeRope_89 : decode cX3_removeRope 89 = .ok (.aload_n 2, 1) := by decide +kernel
theorem dX3_removeRope_90 : decode cX3_removeRope 90 = .ok (.aastore, 1) := by decide +kernel
theorem dX3_removeRope_91 : decode cX3_removeRope 91 = .ok (.return_, 1) := by decide +kernel
theorem dX3_layOn_0 : decode cX3_layOn 0 = .ok (.aload_n 0, 1) := by decide +kernel
theorem dX3_layOn_1 : decode cX3_layOn 1 = .ok (.dup, 1) := by decide +kernel
theorem dX3_layOn_2 : decode cX3_layOn 2 = .ok (.getfield 26, 3) := by decide +kernel
theorem dX3_layOn_5 : decode cX3_layOn 5 = .ok (.iconst 1, 1) := by decide +kernel
theorem dX3_layOn_6 : decode cX3_layOn 6 = .ok (.iadd, 1) := by decide +kernel
theorem dX3_layOn_7 : decode cX3_layOn 7 = .ok (.putfield 26, 3) := by decide +kernel
theorem dX3_layOn_10 : decode cX3_layOn 10 = .ok (.aload_n 1, 1) := by decide +kernel
theorem dX3_layOn_11 : decode cX3_layOn 11 = .ok (.iload_n 2, 1) := by decide +kernel
theorem dX3_layOn_12 : decode cX3_layOn 12 = .ok (.iload_n 3, 1) := by decide +kernel
theorem dX3_layOn_13 : decode cX3_layOn 13 = .ok (.aload_n 0, 1) := by decide +kernel
theorem dX3_layOn_14 : decode cX3_layOn 14 = .ok (.iload_n 2, 1) := by decide +kernel
theorem dX3_layOn_15 : decode cX3_layOn 15 = .ok (.invokevirtual 47, 3) := by decide +kernel
theorem dX3_layOn_18 : decode cX3_layOn 18 = .ok (.invokevirtual 51, 3) := by decide +kernel
theorem dX3_layOn_21 : decode cX3_layOn 21 = .ok (.ireturn, 1) := by decide +kernel
theorem dX3_countJoin_0 : decode cX3_countJoin 0 = .ok (.aload_n 0, 1) := by decide +kernel
theorem dX3_countJoin_1 : decode cX3_countJoin 1 = .ok (.dup, 1) := by decide +kernel
theorem dX3_countJoin_2 : decode cX3_countJoin 2 = .ok (.getfield 29, 3) := by decide +kernel
theorem dX3_countJoin_5 : decode cX3_countJoin 5 = .ok (.iconst 1, 1) := by decide +kernel
theorem dX3_countJoin_6 : decode cX3_countJoin 6 = .ok (.iadd, 1) := by decide +kernel
theorem dX3_countJoin_7 : decode cX3_countJoin 7 = .ok (.putfield 29, 3) := by decide +kernel
theorem dX3_countJoin_10 : decode cX3_countJoin 10 = .ok (.return_, 1) := by decide +kernel
theorem dX3_countCut_0 : decode cX3_countCut 0 = .ok (.aload_n 0, 1) := by decide +kernel
theorem dX3_countCut_1 : decode cX3_countCut 1 = .ok (.dup, 1) := by decide +kernel
theorem dX3_countCut_2 : decode cX3_countCut 2 = .ok (.getfield 32, 3) := by decide +kernel
theorem dX3_countCut_5 : decode cX3_countCut 5 = .ok (.iconst 1, 1) := by decide +kernel
theorem dX3_countCut_6 : decode cX3_countCut 6 = .ok (.iadd, 1) := by decide +kernel
theorem dX3_countCut_7 : decode cX3_countCut 7 = .ok (.putfield 32, 3) := by decide +kernel
theorem dX3_countCut_10 : decode cX3_countCut 10 = .ok (.return_, 1) := by decide +kernel
theorem dX3_layings_0 : decode cX3_layings 0 = .ok (.aload_n 0, 1) := by decide +kernel
theorem dX3_layings_1 : decode cX3_layings 1 = .ok (.getfield 26, 3) := by decide +kernel
theorem dX3_layings_4 : decode cX3_layings 4 = .ok (.ireturn, 1) := by decide +kernel
theorem dX3_joins_0 : decode cX3_joins 0 = .ok (.aload_n 0, 1) := by decide +kernel
theorem dX3_joins_1 : decode cX3_joins 1 = .ok (.getfield 29, 3) := by decide +kernel
theorem dX3_joins_4 : decode cX3_joins 4 = .ok (.ireturn, 1) := by decide +kernel
theorem dX3_cuts_0 : decode cX3_cuts 0 = .ok (.aload_n 0, 1) := by decide +kernel
theorem dX3_cuts_1 : decode cX3_cuts 1 = .ok (.getfield 32, 3) := by decide +kernel
theorem dX3_cuts_4 : decode cX3_cuts 4 = .ok (.ireturn, 1) := by decide +kernel
theorem dX3_places_0 : decode cX3_places 0 = .ok (.iconst 0, 1) := by decide +kernel
theorem dX3_places_1 : decode cX3_places 1 = .ok (.istore_n 1, 1) := by decide +kernel
theorem dX3_places_2 : decode cX3_places 2 = .ok (.iconst 0, 1) := by decide +kernel
theorem dX3_places_3 : decode cX3_places 3 = .ok (.istore_n 2, 1) := by decide +kernel
theorem dX3_places_4 : decode cX3_places 4 = .ok (.iload_n 2, 1) := by decide +kernel
theorem dX3_places_5 : decode cX3_places 5 = .ok (.aload_n 0, 1) := by decide +kernel
theorem dX3_places_6 : decode cX3_places 6 = .ok (.getfield 22, 3) := by decide +kernel
theorem dX3_places_9 : decode cX3_places 9 = .ok (.if_icmp .ge 30, 3) := by decide +kernel
theorem dX3_places_12 : decode cX3_places 12 = .ok (.aload_n 0, 1) := by decide +kernel
theorem dX3_places_13 : decode cX3_places 13 = .ok (.iload_n 2, 1) := by decide +kernel
theorem dX3_places_14 : decode cX3_places 14 = .ok (.invokevirtual 35, 3) := by decide +kernel
theorem dX3_places_17 : decode cX3_places 17 = .ok (.astore_n 3, 1) := by decide +kernel
theorem dX3_places_18 : decode cX3_places 18 = .ok (.iload_n 1, 1) := by decide +kernel
theorem dX3_places_19 : decode cX3_places 19 = .ok (.aload_n 3, 1) := by decide +kernel
theorem dX3_places_20 : decode cX3_places 20 = .ok (.ifnonnull 7, 3) := by decide +kernel
theorem dX3_places_23 : decode cX3_places 23 = .ok (.iconst 0, 1) := by decide +kernel
theorem dX3_places_24 : decode cX3_places 24 = .ok (.goto 7, 3) := by decide +kernel
theorem dX3_places_27 : decode cX3_places 27 = .ok (.aload_n 3, 1) := by decide +kernel
theorem dX3_places_28 : decode cX3_places 28 = .ok (.invokevirtual 55, 3) := by decide +kernel
theorem dX3_places_31 : decode cX3_places 31 = .ok (.iadd, 1) := by decide +kernel
theorem dX3_places_32 : decode cX3_places 32 = .ok (.istore_n 1, 1) := by decide +kernel
theorem dX3_places_33 : decode cX3_places 33 = .ok (.iinc 2 1, 3) := by decide +kernel
theorem dX3_places_36 : decode cX3_places 36 = .ok (.goto (-32), 3) := by decide +kernel
theorem dX3_places_39 : decode cX3_places 39 = .ok (.iload_n 1, 1) := by decide +kernel
theorem dX3_places_40 : decode cX3_places 40 = .ok (.ireturn, 1) := by decide +kernel
theorem dX3_holes_0 : decode cX3_holes 0 = .ok (.iconst 0, 1) := by decide +kernel
theorem dX3_holes_1 : decode cX3_holes 1 = .ok (.istore_n 1, 1) := by decide +kernel
theorem dX3_holes_2 : decode cX3_holes 2 = .ok (.iconst 0, 1) := by decide +kernel
theorem dX3_holes_3 : decode cX3_holes 3 = .ok (.istore_n 2, 1) := by decide +kernel
theorem dX3_holes_4 : decode cX3_holes 4 = .ok (.iload_n 2, 1) := by decide +kernel
theorem dX3_holes_5 : decode cX3_holes 5 = .ok (.aload_n 0, 1) := by decide +kernel
theorem dX3_holes_6 : decode cX3_holes 6 = .ok (.getfield 22, 3) := by decide +kernel
theorem dX3_holes_9 : decode cX3_holes 9 = .ok (.if_icmp .ge 31, 3) := by decide +kernel
theorem dX3_holes_12 : decode cX3_holes 12 = .ok (.aload_n 0, 1) := by decide +kernel
theorem dX3_holes_13 : decode cX3_holes 13 = .ok (.iload_n 2, 1) := by decide +kernel
theorem dX3_holes_14 : decode cX3_holes 14 = .ok (.invokevirtual 35, 3) := by decide +kernel
theorem dX3_holes_17 : decode cX3_holes 17 = .ok (.astore_n 3, 1) := by decide +kernel
theorem dX3_holes_18 : decode cX3_holes 18 = .ok (.iload_n 1, 1) := by decide +kernel
theorem dX3_holes_19 : decode cX3_holes 19 = .ok (.aload_n 3, 1) := by decide +kernel
theorem dX3_holes_20 : decode cX3_holes 20 = .ok (.ifnonnull 7, 3) := by decide +kernel
theorem dX3_holes_23 : decode cX3_holes 23 = .ok (.iconst 0, 1) := by decide +kernel
theorem dX3_holes_24 : decode cX3_holes 24 = .ok (.goto 8, 3) := by decide +kernel
theorem dX3_holes_27 : decode cX3_holes 27 = .ok (.aload_n 3, 1) := by decide +kernel
theorem dX3_holes_28 : decode cX3_holes 28 = .ok (.iconst (-1), 1) := by decide +kernel
theorem dX3_holes_29 : decode cX3_holes 29 = .ok (.invokevirtual 59, 3) := by decide +kernel
theorem dX3_holes_32 : decode cX3_holes 32 = .ok (.iadd, 1) := by decide +kernel
theorem dX3_holes_33 : decode cX3_holes 33 = .ok (.istore_n 1, 1) := by decide +kernel
theorem dX3_holes_34 : decode cX3_holes 34 = .ok (.iinc 2 1, 3) := by decide +kernel
theorem dX3_holes_37 : decode cX3_holes 37 = .ok (.goto (-33), 3) := by decide +kernel
theorem dX3_holes_40 : decode cX3_holes 40 = .ok (.iload_n 1, 1) := by decide +kernel
theorem dX3_holes_41 : decode cX3_holes 41 = .ok (.ireturn, 1) := by decide +kernel
theorem dX3_laidHues_0 : decode cX3_laidHues 0 = .ok (.iconst 0, 1) := by decide +kernel
theorem dX3_laidHues_1 : decode cX3_laidHues 1 = .ok (.istore_n 1, 1) := by decide +kernel
theorem dX3_laidHues_2 : decode cX3_laidHues 2 = .ok (.iconst 0, 1) := by decide +kernel
theorem dX3_laidHues_3 : decode cX3_laidHues 3 = .ok (.istore_n 2, 1) := by decide +kernel
theorem dX3_laidHues_4 : decode cX3_laidHues 4 = .ok (.iload_n 2, 1) := by decide +kernel
theorem dX3_laidHues_5 : decode cX3_laidHues 5 = .ok (.bipush 8, 2) := by decide +kernel
theorem dX3_laidHues_7 : decode cX3_laidHues 7 = .ok (.if_icmp .ge 20, 3) := by decide +kernel
theorem dX3_laidHues_10 : decode cX3_laidHues 10 = .ok (.aload_n 0, 1) := by decide +kernel
theorem dX3_laidHues_11 : decode cX3_laidHues 11 = .ok (.iload_n 2, 1) := by decide +kernel
theorem dX3_laidHues_12 : decode cX3_laidHues 12 = .ok (.invokevirtual 62, 3) := by decide +kernel
theorem dX3_laidHues_15 : decode cX3_laidHues 15 = .ok (.ifCond .eq 6, 3) := by decide +kernel
theorem dX3_laidHues_18 : decode cX3_laidHues 18 = .ok (.iinc 1 1, 3) := by decide +kernel
theorem dX3_laidHues_21 : decode cX3_laidHues 21 = .ok (.iinc 2 1, 3) := by decide +kernel
theorem dX3_laidHues_24 : decode cX3_laidHues 24 = .ok (.goto (-20), 3) := by decide +kernel
theorem dX3_laidHues_27 : decode cX3_laidHues 27 = .ok (.iload_n 1, 1) := by decide +kernel
theorem dX3_laidHues_28 : decode cX3_laidHues 28 = .ok (.ireturn, 1) := by decide +kernel
theorem dX3_isLaidOnSome_0 : decode cX3_isLaidOnSome 0 = .ok (.iconst 0, 1) := by decide +kernel
theorem dX3_isLaidOnSome_1 : decode cX3_isLaidOnSome 1 = .ok (.istore_n 2, 1) := by decide +kernel
theorem dX3_isLaidOnSome_2 : decode cX3_isLaidOnSome 2 = .ok (.iload_n 2, 1) := by decide +kernel
theorem dX3_isLaidOnSome_3 : decode cX3_isLaidOnSome 3 = .ok (.aload_n 0, 1) := by decide +kernel
theorem dX3_isLaidOnSome_4 : decode cX3_isLaidOnSome 4 = .ok (.getfield 22, 3) := by decide +kernel
theorem dX3_isLaidOnSome_7 : decode cX3_isLaidOnSome 7 = .ok (.if_icmp .ge 30, 3) := by decide +kernel
theorem dX3_isLaidOnSome_10 : decode cX3_isLaidOnSome 10 = .ok (.aload_n 0, 1) := by decide +kernel
theorem dX3_isLaidOnSome_11 : decode cX3_isLaidOnSome 11 = .ok (.iload_n 2, 1) := by decide +kernel
theorem dX3_isLaidOnSome_12 : decode cX3_isLaidOnSome 12 = .ok (.invokevirtual 35, 3) := by decide +kernel
theorem dX3_isLaidOnSome_15 : decode cX3_isLaidOnSome 15 = .ok (.astore_n 3, 1) := by decide +kernel
theorem dX3_isLaidOnSome_16 : decode cX3_isLaidOnSome 16 = .ok (.aload_n 3, 1) := by decide +kernel
theorem dX3_isLaidOnSome_17 : decode cX3_isLaidOnSome 17 = .ok (.ifnull 14, 3) := by decide +kernel
theorem dX3_isLaidOnSome_20 : decode cX3_isLaidOnSome 20 = .ok (.aload_n 3, 1) := by decide +kernel
theorem dX3_isLaidOnSome_21 : decode cX3_isLaidOnSome 21 = .ok (.iload_n 1, 1) := by decide +kernel
theorem dX3_isLaidOnSome_22 : decode cX3_isLaidOnSome 22 = .ok (.invokevirtual 66, 3) := by decide +kernel
theorem dX3_isLaidOnSome_25 : decode cX3_isLaidOnSome 25 = .ok (.iconst (-1), 1) := by decide +kernel
theorem dX3_isLaidOnSome_26 : decode cX3_isLaidOnSome 26 = .ok (.if_icmp .eq 5, 3) := by decide +kernel
theorem dX3_isLaidOnSome_29 : decode cX3_isLaidOnSome 29 = .ok (.iconst 1, 1) := by decide +kernel
theorem dX3_isLaidOnSome_30 : decode cX3_isLaidOnSome 30 = .ok (.ireturn, 1) := by decide +kernel
theorem dX3_isLaidOnSome_31 : decode cX3_isLaidOnSome 31 = .ok (.iinc 2 1, 3) := by decide +kernel
theorem dX3_isLaidOnSome_34 : decode cX3_isLaidOnSome 34 = .ok (.goto (-32), 3) := by decide +kernel
theorem dX3_isLaidOnSome_37 : decode cX3_isLaidOnSome 37 = .ok (.iconst 0, 1) := by decide +kernel
theorem dX3_isLaidOnSome_38 : decode cX3_isLaidOnSome 38 = .ok (.ireturn, 1) := by decide +kernel
theorem dX4_init_0 : decode cX4_init 0 = .ok (.aload_n 0, 1) := by decide +kernel
theorem dX4_init_1 : decode cX4_init 1 = .ok (.invokespecial 3, 3) := by decide +kernel
theorem dX4_init_4 : decode cX4_init 4 = .ok (.aload_n 0, 1) := by decide +kernel
theorem dX4_init_5 : decode cX4_init 5 = .ok (.bipush 60, 2) := by decide +kernel
theorem dX4_init_7 : decode cX4_init 7 = .ok (.newarray .int, 2) := by decide +kernel
theorem dX4_init_9 : decode cX4_init 9 = .ok (.putfield 9, 3) := by decide +kernel
theorem dX4_init_12 : decode cX4_init 12 = .ok (.aload_n 0, 1) := by decide +kernel
theorem dX4_init_13 : decode cX4_init 13 = .ok (.iconst 0, 1) := by decide +kernel
theorem dX4_init_14 : decode cX4_init 14 = .ok (.putfield 15, 3) := by decide +kernel
theorem dX4_init_17 : decode cX4_init 17 = .ok (.return_, 1) := by decide +kernel
theorem dX5_init_0 : decode cX5_init 0 = .ok (.aload_n 0, 1) := by decide +kernel
theorem dX5_init_1 : decode cX5_init 1 = .ok (.invokespecial 1, 3) := by decide +kernel
theorem dX5_init_4 : decode cX5_init 4 = .ok (.aload_n 0, 1) := by decide +kernel
theorem dX5_init_5 : decode cX5_init 5 = .ok (.new 7, 3) := by decide +kernel
theorem dX5_init_8 : decode cX5_init 8 = .ok (.dup, 1) := by decide +kernel
theorem dX5_init_9 : decode cX5_init 9 = .ok (.invokespecial 9, 3) := by decide +kernel
theorem dX5_init_12 : decode cX5_init 12 = .ok (.putfield 10, 3) := by decide +kernel
theorem dX5_init_15 : decode cX5_init 15 = .ok (.aload_n 0, 1) := by decide +kernel
theorem dX5_init_16 : decode cX5_init 16 = .ok (.new 7, 3) := by decide +kernel
theorem dX5_init_19 : decode cX5_init 19 = .ok (.dup, 1) := by decide +kernel
theorem dX5_init_20 : decode cX5_init 20 = .ok (.invokespecial 9, 3) := by decide +kernel
theorem dX5_init_23 : decode cX5_init 23 = .ok (.putfield 16, 3) := by decide +kernel
theorem dX5_init_26 : decode cX5_init 26 = .ok (.aload_n 0, 1) := by decide +kernel
theorem dX5_init_27 : decode cX5_init 27 = .ok (.new 19, 3) := by decide +kernel
theorem dX5_init_30 : decode cX5_init 30 = .ok (.dup, 1) := by decide +kernel
theorem dX5_init_31 : decode cX5_init 31 = .ok (.invokespecial 21, 3) := by decide +kernel
theorem dX5_init_34 : decode cX5_init 34 = .ok (.putfield 22, 3) := by decide +kernel
theorem dX5_init_37 : decode cX5_init 37 = .ok (.aload_n 0, 1) := by decide +kernel
theorem dX5_init_38 : decode cX5_init 38 = .ok (.new 26, 3) := by decide +kernel
theorem dX5_init_41 : decode cX5_init 41 = .ok (.dup, 1) := by decide +kernel
theorem dX5_init_42 : decode cX5_init 42 = .ok (.invokespecial 28, 3) := by decide +kernel
theorem dX5_init_45 : decode cX5_init 45 = .ok (.putfield 29, 3) := by decide +kernel
theorem dX5_init_48 : decode cX5_init 48 = .ok (.aload_n 0, 1) := by decide +kernel
theorem dX5_init_49 : decode cX5_init 49 = .ok (.new 33, 3) := by decide +kernel
theorem dX5_init_52 : decode cX5_init 52 = .ok (.dup, 1) := by decide +kernel
theorem dX5_init_53 : decode cX5_init 53 = .ok (.invokespecial 35, 3) := by decide +kernel
theorem dX5_init_56 : decode cX5_init 56 = .ok (.putfield 36, 3) := by decide +kernel
theorem dX5_init_59 : decode cX5_init 59 = .ok (.aload_n 0, 1) := by decide +kernel
theorem dX5_init_60 : decode cX5_init 60 = .ok (.iconst 0, 1) := by decide +kernel
theorem dX5_init_61 : decode cX5_init 61 = .ok (.putfield 40, 3) := by decide +kernel
theorem dX5_init_64 : decode cX5_init 64 = .ok (.return_, 1) := by decide +kernel
theorem dX5_gap_0 : decode cX5_gap 0 = .ok (.aload_n 0, 1) := by decide +kernel
theorem dX5_gap_1 : decode cX5_gap 1 = .ok (.iload_n 1, 1) := by decide +kernel
theorem dX5_gap_2 : decode cX5_gap 2 = .ok (.invokevirtual 44, 3) := by decide +kernel
theorem dX5_gap_5 : decode cX5_gap 5 = .ok (.iload_n 2, 1) := by decide +kernel
theorem dX5_gap_6 : decode cX5_gap 6 = .ok (.iconst 2, 1) := by decide +kernel
theorem dX5_gap_7 : decode cX5_gap 7 = .ok (.if_icmp .lt 9, 3) := by decide +kernel
theorem dX5_gap_10 : decode cX5_gap 10 = .ok (.iload_n 2, 1) := by decide +kernel
theorem dX5_gap_11 : decode cX5_gap 11 = .ok (.bipush 20, 2) := by decide +kernel
theorem dX5_gap_13 : decode cX5_gap 13 = .ok (.if_icmp .le 13, 3) := by decide +kernel
theorem dX5_gap_16 : decode cX5_gap 16 = .ok (.new 48, 3) := by decide +kernel
theorem dX5_gap_19 : decode cX5_gap 19 = .ok (.dup, 1) := by decide +kernel
theorem dX5_gap_20 : decode cX5_gap 20 = .ok (.ldc 50, 2) := by decide +kernel
theorem dX5_gap_22 : decode cX5_gap 22 = .ok (.invokespecial 52, 3) := by decide +kernel
theorem dX5_gap_25 : decode cX5_gap 25 = .ok (.athrow, 1) := by decide +kernel
theorem dX5_gap_26 : decode cX5_gap 26 = .ok (.aload_n 0, 1) := by decide +kernel
theorem dX5_gap_27 : decode cX5_gap 27 = .ok (.getfield 10, 3) := by decide +kernel
theorem dX5_gap_30 : decode cX5_gap 30 = .ok (.iload_n 1, 1) := by decide +kernel
theorem dX5_gap_31 : decode cX5_gap 31 = .ok (.invokevirtual 55, 3) := by decide +kernel
theorem dX5_gap_34 : decode cX5_gap 34 = .ok (.ifCond .eq 13, 3) := by decide +kernel
theorem dX5_gap_37 : decode cX5_gap 37 = .ok (.new 59, 3) := by decide +kernel
theorem dX5_gap_40 : decode cX5_gap 40 = .ok (.dup, 1) := by decide +kernel
theorem dX5_gap_41 : decode cX5_gap 41 = .ok (.ldc 61, 2) := by decide +kernel
theorem dX5_gap_43 : decode cX5_gap 43 = .ok (.invokespecial 63, 3) := by decide +kernel
theorem dX5_gap_46 : decode cX5_gap 46 = .ok (.athrow, 1) := by decide +kernel
theorem dX5_gap_47 : decode cX5_gap 47 = .ok (.aload_n 0, 1) := by decide +kernel
theorem dX5_gap_48 : decode cX5_gap 48 = .ok (.getfield 22, 3) := by decide +kernel
theorem dX5_gap_51 : decode cX5_gap 51 = .ok (.aload_n 0, 1) := by decide +kernel
theorem dX5_gap_52 : decode cX5_gap 52 = .ok (.getfield 10, 3) := by decide +kernel
theorem dX5_gap_55 : decode cX5_gap 55 = .ok (.invokevirtual 64, 3) := by decide +kernel
theorem dX5_gap_58 : decode cX5_gap 58 = .ok (.aload_n 0, 1) := by decide +kernel
theorem dX5_gap_59 : decode cX5_gap 59 = .ok (.getfield 10, 3) := by decide +kernel
theorem dX5_gap_62 : decode cX5_gap 62 = .ok (.iload_n 1, 1) := by decide +kernel
theorem dX5_gap_63 : decode cX5_gap 63 = .ok (.invokevirtual 68, 3) := by decide +kernel
theorem dX5_gap_66 : decode cX5_gap 66 = .ok (.istore_n 3, 1) := by decide +kernel
theorem dX5_gap_67 : decode cX5_gap 67 = .ok (.aload_n 0, 1) := by decide +kernel
theorem dX5_gap_68 : decode cX5_gap 68 = .ok (.getfield 10, 3) := by decide +kernel
theorem dX5_gap_71 : decode cX5_gap 71 = .ok (.iload_n 1, 1) := by decide +kernel
theorem dX5_gap_72 : decode cX5_gap 72 = .ok (.iload_n 2, 1) := by decide +kernel
theorem dX5_gap_73 : decode cX5_gap 73 = .ok (.invokevirtual 72, 3) := by decide +kernel
theorem dX5_gap_76 : decode cX5_gap 76 = .ok (.iload_n 3, 1) := by decide +kernel
theorem dX5_gap_77 : decode cX5_gap 77 = .ok (.ireturn, 1) := by decide +kernel
theorem dX5_rope_0 : decode cX5_rope 0 = .ok (.aload_n 0, 1) := by decide +kernel
theorem dX5_rope_1 : decode cX5_rope 1 = .ok (.iload_n 1, 1) := by decide +kernel
theorem dX5_rope_2 : decode cX5_rope 2 = .ok (.invokevirtual 76, 3) := by decide +kernel
theorem dX5_rope_5 : decode cX5_rope 5 = .ok (.aload_n 0, 1) := by decide +kernel
theorem dX5_rope_6 : decode cX5_rope 6 = .ok (.invokevirtual 79, 3) := by decide +kernel
theorem dX5_rope_9 : decode cX5_rope 9 = .ok (.aload_n 0, 1) := by decide +kernel
theorem dX5_rope_10 : decode cX5_rope 10 = .ok (.getfield 22, 3) := by decide +kernel
theorem dX5_rope_13 : decode cX5_rope 13 = .ok (.aload_n 0, 1) := by decide +kernel
theorem dX5_rope_14 : decode cX5_rope 14 = .ok (.getfield 10, 3) := by decide +kernel
theorem dX5_rope_17 : decode cX5_rope 17 = .ok (.invokevirtual 64, 3) := by decide +kernel
theorem dX5_rope_20 : decode cX5_rope 20 = .ok (.aload_n 0, 1) := by decide +kernel
theorem dX5_rope_21 : decode cX5_rope 21 = .ok (.getfield 10, 3) := by decide +kernel
theorem dX5_rope_24 : decode cX5_rope 24 = .ok (.iload_n 1, 1) := by decide +kernel
theorem dX5_rope_25 : decode cX5_rope 25 = .ok (.invokevirtual 82, 3) := by decide +kernel
theorem dX5_rope_28 : decode cX5_rope 28 = .ok (.pop, 1) := by decide +kernel
theorem dX5_rope_29 : decode cX5_rope 29 = .ok (.aload_n 0, 1) := by decide +kernel
theorem dX5_rope_30 : decode cX5_rope 30 = .ok (.getfield 10, 3) := by decide +kernel
theorem dX5_rope_33 : decode cX5_rope 33 = .ok (.invokevirtual 86, 3) := by decide +kernel
theorem dX5_rope_36 : decode cX5_rope 36 = .ok (.iconst 1, 1) := by decide +kernel
theorem dX5_rope_37 : decode cX5_rope 37 = .ok (.isub, 1) := by decide +kernel
theorem dX5_rope_38 : decode cX5_rope 38 = .ok (.ireturn, 1) := by decide +kernel
theorem dX5_drop_0 : decode cX5_drop 0 = .ok (.aload_n 0, 1) := by decide +kernel
theorem dX5_drop_1 : decode cX5_drop 1 = .ok (.iload_n 1, 1) := by decide +kernel
theorem dX5_drop_2 : decode cX5_drop 2 = .ok (.invokevirtual 90, 3) := by decide +kernel
theorem dX5_drop_5 : decode cX5_drop 5 = .ok (.pop, 1) := by decide +kernel
theorem dX5_drop_6 : decode cX5_drop 6 = .ok (.aload_n 0, 1) := by decide +kernel
theorem dX5_drop_7 : decode cX5_drop 7 = .ok (.getfield 22, 3) := by decide +kernel
theorem dX5_drop_10 : decode cX5_drop 10 = .ok (.aload_n 0, 1) := by decide +kernel
theorem dX5_drop_11 : decode cX5_drop 11 = .ok (.getfield 10, 3) := by decide +kernel
theorem dX5_drop_14 : decode cX5_drop 14 = .ok (.invokevirtual 64, 3) := by decide +kernel
theorem dX5_drop_17 : decode cX5_drop 17 = .ok (.aload_n 0, 1) := by decide +kernel
theorem dX5_drop_18 : decode cX5_drop 18 = .ok (.getfield 10, 3) := by decide +kernel
theorem dX5_drop_21 : decode cX5_drop 21 = .ok (.iload_n 1, 1) := by decide +kernel
theorem dX5_drop_22 : decode cX5_drop 22 = .ok (.invokevirtual 93, 3) := by decide +kernel
theorem dX5_drop_25 : decode cX5_drop 25 = .ok (.aload_n 0, 1) := by decide +kernel
theorem dX5_drop_26 : decode cX5_drop 26 = .ok (.getfield 10, 3) := by decide +kernel
theorem dX5_drop_29 : decode cX5_drop 29 = .ok (.invokevirtual 86, 3) := by decide +kernel
theorem dX5_drop_32 : decode cX5_drop 32 = .ok (.ireturn, 1) := by decide +kernel
theorem dX5_lay_0 : decode cX5_lay 0 = .ok (.aload_n 0, 1) := by decide +kernel
theorem dX5_lay_1 : decode cX5_lay 1 = .ok (.iload_n 1, 1) := by decide +kernel
theorem dX5_lay_2 : decode cX5_lay 2 = .ok (.invokevirtual 90, 3) := by decide +kernel
theorem dX5_lay_5 : decode cX5_lay 5 = .ok (.astore 4, 2) := by decide +kernel
theorem dX5_lay_7 : decode cX5_lay 7 = .ok (.aload_n 0, 1) := by decide +kernel
theorem dX5_lay_8 : decode cX5_lay 8 = .ok (.iload_n 2, 1) := by decide +kernel
theorem dX5_lay_9 : decode cX5_lay 9 = .ok (.invokevirtual 44, 3) := by decide +kernel
theorem dX5_lay_12 : decode cX5_lay 12 = .ok (.aload_n 0, 1) := by decide +kernel
theorem dX5_lay_13 : decode cX5_lay 13 = .ok (.iload_n 2, 1) := by decide +kernel
theorem dX5_lay_14 : decode cX5_lay 14 = .ok (.iload_n 3, 1) := by decide +kernel
theorem dX5_lay_15 : decode cX5_lay 15 = .ok (.invokevirtual 96, 3) := by decide +kernel
theorem dX5_lay_18 : decode cX5_lay 18 = .ok (.aload 4, 2) := by decide +kernel
theorem dX5_lay_20 : decode cX5_lay 20 = .ok (.iload_n 2, 1) := by decide +kernel
theorem dX5_lay_21 : decode cX5_lay 21 = .ok (.iload_n 3, 1) := by decide +kernel
theorem dX5_lay_22 : decode cX5_lay 22 = .ok (.aload_n 0, 1) := by decide +kernel
theorem dX5_lay_23 : decode cX5_lay 23 = .ok (.getfield 10, 3) := by decide +kernel
theorem dX5_lay_26 : decode cX5_lay 26 = .ok (.iload_n 2, 1) := by decide +kernel
theorem dX5_lay_27 : decode cX5_lay 27 = .ok (.invokevirtual 68, 3) := by decide +kernel
theorem dX5_lay_30 : decode cX5_lay 30 = .ok (.invokevirtual 99, 3) := by decide +kernel
theorem dX5_lay_33 : decode cX5_lay 33 = .ok (.ifCond .eq 13, 3) := by decide +kernel
theorem dX5_lay_36 : decode cX5_lay 36 = .ok (.new 59, 3) := by decide +kernel
theorem dX5_lay_39 : decode cX5_lay 39 = .ok (.dup, 1) := by decide +kernel
theorem dX5_lay_40 : decode cX5_lay 40 = .ok (.ldc 103, 2) := by decide +kernel
theorem dX5_lay_42 : decode cX5_lay 42 = .ok (.invokespecial 63, 3) := by decide +kernel
theorem dX5_lay_45 : decode cX5_lay 45 = .ok (.athrow, 1) := by decide +kernel
theorem dX5_lay_46 : decode cX5_lay 46 = .ok (.aload_n 0, 1) := by decide +kernel
theorem dX5_lay_47 : decode cX5_lay 47 = .ok (.getfield 22, 3) := by decide +kernel
theorem dX5_lay_50 : decode cX5_lay 50 = .ok (.aload_n 0, 1) := by decide +kernel
theorem dX5_lay_51 : decode cX5_lay 51 = .ok (.getfield 10, 3) := by decide +kernel
theorem dX5_lay_54 : decode cX5_lay 54 = .ok (.invokevirtual 64, 3) := by decide +kernel
theorem dX5_lay_57 : decode cX5_lay 57 = .ok (.aload_n 0, 1) := by decide +kernel
theorem dX5_lay_58 : decode cX5_lay 58 = .ok (.getfield 10, 3) := by decide +kernel
theorem dX5_lay_61 : decode cX5_lay 61 = .ok (.aload 4, 2) := by decide +kernel
theorem dX5_lay_63 : decode cX5_lay 63 = .ok (.iload_n 2, 1) := by decide +kernel
theorem dX5_lay_64 : decode cX5_lay 64 = .ok (.iload_n 3, 1) := by decide +kernel
theorem dX5_lay_65 : decode cX5_lay 65 = .ok (.invokevirtual 105, 3) := by decide +kernel
theorem dX5_lay_68 : decode cX5_lay 68 = .ok (.ireturn, 1) := by decide +kernel
theorem dX5_take_0 : decode cX5_take 0 = .ok (.aload_n 0, 1) := by decide +kernel
theorem dX5_take_1 : decode cX5_take 1 = .ok (.iload_n 1, 1) := by decide +kernel
theorem dX5_take_2 : decode cX5_take 2 = .ok (.invokevirtual 90, 3) := by decide +kernel
theorem dX5_take_5 : decode cX5_take 5 = .ok (.astore_n 3, 1) := by decide +kernel
theorem dX5_take_6 : decode cX5_take 6 = .ok (.aload_n 0, 1) := by decide +kernel
theorem dX5_take_7 : decode cX5_take 7 = .ok (.iload_n 2, 1) := by decide +kernel
theorem dX5_take_8 : decode cX5_take 8 = .ok (.invokevirtual 44, 3) := by decide +kernel
theorem dX5_take_11 : decode cX5_take 11 = .ok (.aload_n 3, 1) := by decide +kernel
theorem dX5_take_12 : decode cX5_take 12 = .ok (.iload_n 2, 1) := by decide +kernel
theorem dX5_take_13 : decode cX5_take 13 = .ok (.invokevirtual 109, 3) := by decide +kernel
theorem dX5_take_16 : decode cX5_take 16 = .ok (.iconst (-1), 1) := by decide +kernel
theorem dX5_take_17 : decode cX5_take 17 = .ok (.if_icmp .ne 13, 3) := by decide +kernel
theorem dX5_take_20 : decode cX5_take 20 = .ok (.new 59, 3) := by decide +kernel
theorem dX5_take_23 : decode cX5_take 23 = .ok (.dup, 1) := by decide +kernel
theorem dX5_take_24 : decode cX5_take 24 = .ok (.ldc 112, 2) := by decide +kernel
theorem dX5_take_26 : decode cX5_take 26 = .ok (.invokespecial 63, 3) := by decide +kernel
theorem dX5_take_29 : decode cX5_take 29 = .ok (.athrow, 1) := by decide +kernel
theorem dX5_take_30 : decode cX5_take 30 = .ok (.aload_n 0, 1) := by decide +kernel
theorem dX5_take_31 : decode cX5_take 31 = .ok (.getfield 22, 3) := by decide +kernel
theorem dX5_take_34 : decode cX5_take 34 = .ok (.aload_n 0, 1) := by decide +kernel
theorem dX5_take_35 : decode cX5_take 35 = .ok (.getfield 10, 3) := by decide +kernel
theorem dX5_take_38 : decode cX5_take 38 = .ok (.invokevirtual 64, 3) := by decide +kernel
theorem dX5_take_41 : decode cX5_take 41 = .ok (.aload_n 3, 1) := by decide +kernel
theorem dX5_take_42 : decode cX5_take 42 = .ok (.iload_n 2, 1) := by decide +kernel
theorem dX5_take_43 : decode cX5_take 43 = .ok (.invokevirtual 114, 3) := by decide +kernel
theorem dX5_take_46 : decode cX5_take 46 = .ok (.ireturn, 1) := by decide +kernel
theorem dX5_stretch_0 : decode cX5_stretch 0 = .ok (.aload_n 0, 1) := by decide +kernel
theorem dX5_stretch_1 : decode cX5_stretch 1 = .ok (.iload_n 1, 1) := by decide +kernel
theorem dX5_stretch_2 : decode cX5_stretch 2 = .ok (.invokevirtual 90, 3) := by decide +kernel
theorem dX5_stretch_5 : decode cX5_stretch 5 = .ok (.astore_n 3, 1) := by decide +kernel
theorem dX5_stretch_6 : decode cX5_stretch 6 = .ok (.aload_n 0, 1) := by decide +kernel
theorem dX5_stretch_7 : decode cX5_stretch 7 = .ok (.iload_n 2, 1) := by decide +kernel
theorem dX5_stretch_8 : decode cX5_stretch 8 = .ok (.invokevirtual 76, 3) := by decide +kernel
theorem dX5_stretch_11 : decode cX5_stretch 11 = .ok (.iload_n 2, 1) := by decide +kernel
theorem dX5_stretch_12 : decode cX5_stretch 12 = .ok (.aload_n 0, 1) := by decide +kernel
theorem dX5_stretch_13 : decode cX5_stretch 13 = .ok (.aload_n 3, 1) := by decide +kernel
theorem dX5_stretch_14 : decode cX5_stretch 14 = .ok (.invokevirtual 117, 3) := by decide +kernel
theorem dX5_stretch_17 : decode cX5_stretch 17 = .ok (.if_icmp .le 13, 3) := by decide +kernel
theorem dX5_stretch_20 : decode cX5_stretch 20 = .ok (.new 59, 3) := by decide +kernel
theorem dX5_stretch_23 : decode cX5_stretch 23 = .ok (.dup, 1) := by decide +kernel
theorem dX5_stretch_24 : decode cX5_stretch 24 = .ok (.ldc 121, 2) := by decide +kernel
theorem dX5_stretch_26 : decode cX5_stretch 26 = .ok (.invokespecial 63, 3) := by decide +kernel
theorem dX5_stretch_29 : decode cX5_stretch 29 = .ok (.athrow, 1) := by decide +kernel
theorem dX5_stretch_30 : decode cX5_stretch 30 = .ok (.aload_n 0, 1) := by decide +kernel
theorem dX5_stretch_31 : decode cX5_stretch 31 = .ok (.getfield 22, 3) := by decide +kernel
theorem dX5_stretch_34 : decode cX5_stretch 34 = .ok (.aload_n 0, 1) := by decide +kernel
theorem dX5_stretch_35 : decode cX5_stretch 35 = .ok (.getfield 10, 3) := by decide +kernel
theorem dX5_stretch_38 : decode cX5_stretch 38 = .ok (.invokevirtual 64, 3) := by decide +kernel
theorem dX5_stretch_41 : decode cX5_stretch 41 = .ok (.aload_n 3, 1) := by decide +kernel
theorem dX5_stretch_42 : decode cX5_stretch 42 = .ok (.invokevirtual 123, 3) := by decide +kernel
theorem dX5_stretch_45 : decode cX5_stretch 45 = .ok (.istore 4, 2) := by decide +kernel
theorem dX5_stretch_47 : decode cX5_stretch 47 = .ok (.aload_n 0, 1) := by decide +kernel
theorem dX5_stretch_48 : decode cX5_stretch 48 = .ok (.aload_n 3, 1) := by decide +kernel
theorem dX5_stretch_49 : decode cX5_stretch 49 = .ok (.iload_n 2, 1) := by decide +kernel
theorem dX5_stretch_50 : decode cX5_stretch 50 = .ok (.invokevirtual 126, 3) := by decide +kernel
theorem dX5_stretch_53 : decode cX5_stretch 53 = .ok (.iload 4, 2) := by decide +kernel
theorem dX5_stretch_55 : decode cX5_stretch 55 = .ok (.aload_n 3, 1) := by decide +kernel
theorem dX5_stretch_56 : decode cX5_stretch 56 = .ok (.invokevirtual 123, 3) := by decide +kernel
theorem dX5_stretch_59 : decode cX5_stretch 59 = .ok (.isub, 1) := by decide +kernel
theorem dX5_stretch_60 : decode cX5_stretch 60 = .ok (.ireturn, 1) := by decide +kernel
theorem dX5_cut_0 : decode cX5_cut 0 = .ok (.aload_n 0, 1) := by decide +kernel
theorem dX5_cut_1 : decode cX5_cut 1 = .ok (.iload_n 1, 1) := by decide +kernel
theorem dX5_cut_2 : decode cX5_cut 2 = .ok (.invokevirtual 90, 3) := by decide +kernel
theorem dX5_cut_5 : decode cX5_cut 5 = .ok (.astore_n 3, 1) := by decide +kernel
theorem dX5_cut_6 : decode cX5_cut 6 = .ok (.iload_n 2, 1) := by decide +kernel
theorem dX5_cut_7 : decode cX5_cut 7 = .ok (.iconst 1, 1) := by decide +kernel
theorem dX5_cut_8 : decode cX5_cut 8 = .ok (.if_icmp .lt 13, 3) := by decide +kernel
theorem dX5_cut_11 : decode cX5_cut 11 = .ok (.iload_n 2, 1) := by decide +kernel
theorem dX5_cut_12 : decode cX5_cut 12 = .ok (.aload_n 3, 1) := by decide +kernel
theorem dX5_cut_13 : decode cX5_cut 13 = .ok (.invokevirtual 130, 3) := by decide +kernel
theorem dX5_cut_16 : decode cX5_cut 16 = .ok (.iconst 1, 1) := by decide +kernel
theorem dX5_cut_17 : decode cX5_cut 17 = .ok (.isub, 1) := by decide +kernel
theorem dX5_cut_18 : decode cX5_cut 18 = .ok (.if_icmp .le 13, 3) := by decide +kernel
theorem dX5_cut_21 : decode cX5_cut 21 = .ok (.new 48, 3) := by decide +kernel
theorem dX5_cut_24 : decode cX5_cut 24 = .ok (.dup, 1) := by decide +kernel
theorem dX5_cut_25 : decode cX5_cut 25 = .ok (.ldc 133, 2) := by decide +kernel
theorem dX5_cut_27 : decode cX5_cut 27 = .ok (.invokespecial 52, 3) := by decide +kernel
theorem dX5_cut_30 : decode cX5_cut 30 = .ok (.athrow, 1) := by decide +kernel
theorem dX5_cut_31 : decode cX5_cut 31 = .ok (.aload_n 0, 1) := by decide +kernel
theorem dX5_cut_32 : decode cX5_cut 32 = .ok (.invokevirtual 79, 3) := by decide +kernel
theorem dX5_cut_35 : decode cX5_cut 35 = .ok (.aload_n 0, 1) := by decide +kernel
theorem dX5_cut_36 : decode cX5_cut 36 = .ok (.getfield 22, 3) := by decide +kernel
theorem dX5_cut_39 : decode cX5_cut 39 = .ok (.aload_n 0, 1) := by decide +kernel
theorem dX5_cut_40 : decode cX5_cut 40 = .ok (.getfield 10, 3) := by decide +kernel
theorem dX5_cut_43 : decode cX5_cut 43 = .ok (.invokevirtual 64, 3) := by decide +kernel
theorem dX5_cut_46 : decode cX5_cut 46 = .ok (.aload_n 0, 1) := by decide +kernel
theorem dX5_cut_47 : decode cX5_cut 47 = .ok (.getfield 10, 3) := by decide +kernel
theorem dX5_cut_50 : decode cX5_cut 50 = .ok (.aload_n 3, 1) := by decide +kernel
theorem dX5_cut_51 : decode cX5_cut 51 = .ok (.invokevirtual 130, 3) := by decide +kernel
theorem dX5_cut_54 : decode cX5_cut 54 = .ok (.iload_n 2, 1) := by decide +kernel
theorem dX5_cut_55 : decode cX5_cut 55 = .ok (.isub, 1) := by decide +kernel
theorem dX5_cut_56 : decode cX5_cut 56 = .ok (.invokevirtual 82, 3) := by decide +kernel
theorem dX5_cut_59 : decode cX5_cut 59 = .ok (.astore 4, 2) := by decide +kernel
theorem dX5_cut_61 : decode cX5_cut 61 = .ok (.aload 4, 2) := by decide +kernel
theorem dX5_cut_63 : decode cX5_cut 63 = .ok (.ifnull 11, 3) := by decide +kernel
theorem dX5_cut_66 : decode cX5_cut 66 = .ok (.aload_n 0, 1) := by decide +kernel
theorem dX5_cut_67 : decode cX5_cut 67 = .ok (.aload_n 3, 1) := by decide +kernel
theorem dX5_cut_68 : decode cX5_cut 68 = .ok (.iload_n 2, 1) := by decide +kernel
theorem dX5_cut_69 : decode cX5_cut 69 = .ok (.aload 4, 2) := by decide +kernel
theorem dX5_cut_71 : decode cX5_cut 71 = .ok (.invokevirtual 135, 3) := by decide +kernel
theorem dX5_cut_74 : decode cX5_cut 74 = .ok (.aload_n 0, 1) := by decide +kernel
theorem dX5_cut_75 : decode cX5_cut 75 = .ok (.aload_n 3, 1) := by decide +kernel
theorem dX5_cut_76 : decode cX5_cut 76 = .ok (.iload_n 2, 1) := by decide +kernel
theorem dX5_cut_77 : decode cX5_cut 77 = .ok (.invokevirtual 126, 3) := by decide +kernel
theorem dX5_cut_80 : decode cX5_cut 80 = .ok (.aload_n 0, 1) := by decide +kernel
theorem dX5_cut_81 : decode cX5_cut 81 = .ok (.getfield 10, 3) := by decide +kernel
theorem dX5_cut_84 : decode cX5_cut 84 = .ok (.invokevirtual 139, 3) := by decide +kernel
theorem dX5_cut_87 : decode cX5_cut 87 = .ok (.aload_n 0, 1) := by decide +kernel
theorem dX5_cut_88 : decode cX5_cut 88 = .ok (.getfield 10, 3) := by decide +kernel
theorem dX5_cut_91 : decode cX5_cut 91 = .ok (.invokevirtual 86, 3) := by decide +kernel
theorem dX5_cut_94 : decode cX5_cut 94 = .ok (.iconst 1, 1) := by decide +kernel
theorem dX5_cut_95 : decode cX5_cut 95 = .ok (.isub, 1) := by decide +kernel
theorem dX5_cut_96 : decode cX5_cut 96 = .ok (.ireturn, 1) := by decide +kernel
theorem dX5_turn_0 : decode cX5_turn 0 = .ok (.aload_n 0, 1) := by decide +kernel
theorem dX5_turn_1 : decode cX5_turn 1 = .ok (.iload_n 1, 1) := by decide +kernel
theorem dX5_turn_2 : decode cX5_turn 2 = .ok (.invokevirtual 90, 3) := by decide +kernel
theorem dX5_turn_5 : decode cX5_turn 5 = .ok (.astore_n 2, 1) := by decide +kernel
theorem dX5_turn_6 : decode cX5_turn 6 = .ok (.aload_n 0, 1) := by decide +kernel
theorem dX5_turn_7 : decode cX5_turn 7 = .ok (.getfield 22, 3) := by decide +kernel
theorem dX5_turn_10 : decode cX5_turn 10 = .ok (.aload_n 0, 1) := by decide +kernel
theorem dX5_turn_11 : decode cX5_turn 11 = .ok (.getfield 10, 3) := by decide +kernel
theorem dX5_turn_14 : decode cX5_turn 14 = .ok (.invokevirtual 64, 3) := by decide +kernel
theorem dX5_turn_17 : decode cX5_turn 17 = .ok (.aload_n 0, 1) := by decide +kernel
theorem dX5_turn_18 : decode cX5_turn 18 = .ok (.aload_n 2, 1) := by decide +kernel
theorem dX5_turn_19 : decode cX5_turn 19 = .ok (.invokevirtual 142, 3) := by decide +kernel
theorem dX5_turn_22 : decode cX5_turn 22 = .ok (.ireturn, 1) := by decide +kernel
theorem dX5_join_0 : decode cX5_join 0 = .ok (.aload_n 0, 1) := by decide +kernel
theorem dX5_join_1 : decode cX5_join 1 = .ok (.iload_n 1, 1) := by decide +kernel
theorem dX5_join_2 : decode cX5_join 2 = .ok (.invokevirtual 90, 3) := by decide +kernel
theorem dX5_join_5 : decode cX5_join 5 = .ok (.astore_n 3, 1) := by decide +kernel
theorem dX5_join_6 : decode cX5_join 6 = .ok (.aload_n 0, 1) := by decide +kernel
theorem dX5_join_7 : decode cX5_join 7 = .ok (.iload_n 2, 1) := by decide +kernel
theorem dX5_join_8 : decode cX5_join 8 = .ok (.invokevirtual 90, 3) := by decide +kernel
theorem dX5_join_11 : decode cX5_join 11 = .ok (.astore 4, 2) := by decide +kernel
theorem dX5_join_13 : decode cX5_join 13 = .ok (.iload_n 1, 1) := by decide +kernel
theorem dX5_join_14 : decode cX5_join 14 = .ok (.iload_n 2, 1) := by decide +kernel
theorem dX5_join_15 : decode cX5_join 15 = .ok (.if_icmp .eq 13, 3) := by decide +kernel
theorem dX5_join_18 : decode cX5_join 18 = .ok (.aload_n 0, 1) := by decide +kernel
theorem dX5_join_19 : decode cX5_join 19 = .ok (.aload_n 3, 1) := by decide +kernel
theorem dX5_join_20 : decode cX5_join 20 = .ok (.aload 4, 2) := by decide +kernel
theorem dX5_join_22 : decode cX5_join 22 = .ok (.invokevirtual 145, 3) := by decide +kernel
theorem dX5_join_25 : decode cX5_join 25 = .ok (.ifCond .eq 13, 3) := by decide +kernel
theorem dX5_join_28 : decode cX5_join 28 = .ok (.new 59, 3) := by decide +kernel
theorem dX5_join_31 : decode cX5_join 31 = .ok (.dup, 1) := by decide +kernel
theorem dX5_join_32 : decode cX5_join 32 = .ok (.ldc 149, 2) := by decide +kernel
theorem dX5_join_34 : decode cX5_join 34 = .ok (.invokespecial 63, 3) := by decide +kernel
theorem dX5_join_37 : decode cX5_join 37 = .ok (.athrow, 1) := by decide +kernel
theorem dX5_join_38 : decode cX5_join 38 = .ok (.aload_n 0, 1) := by decide +kernel
theorem dX5_join_39 : decode cX5_join 39 = .ok (.getfield 22, 3) := by decide +kernel
theorem dX5_join_42 : decode cX5_join 42 = .ok (.aload_n 0, 1) := by decide +kernel
theorem dX5_join_43 : decode cX5_join 43 = .ok (.getfield 10, 3) := by decide +kernel
theorem dX5_join_46 : decode cX5_join 46 = .ok (.invokevirtual 64, 3) := by decide +kernel
theorem dX5_join_49 : decode cX5_join 49 = .ok (.aload_n 0, 1) := by decide +kernel
theorem dX5_join_50 : decode cX5_join 50 = .ok (.aload_n 3, 1) := by decide +kernel
theorem dX5_join_51 : decode cX5_join 51 = .ok (.aload 4, 2) := by decide +kernel
theorem dX5_join_53 : decode cX5_join 53 = .ok (.invokevirtual 151, 3) := by decide +kernel
theorem dX5_join_56 : decode cX5_join 56 = .ok (.pop, 1) := by decide +kernel
theorem dX5_join_57 : decode cX5_join 57 = .ok (.aload_n 3, 1) := by decide +kernel
theorem dX5_join_58 : decode cX5_join 58 = .ok (.aload_n 0, 1) := by decide +kernel
theorem dX5_join_59 : decode cX5_join 59 = .ok (.getfield 36, 3) := by decide +kernel
theorem dX5_join_62 : decode cX5_join 62 = .ok (.invokevirtual 155, 3) := by decide +kernel
theorem dX5_join_65 : decode cX5_join 65 = .ok (.aload_n 0, 1) := by decide +kernel
theorem dX5_join_66 : decode cX5_join 66 = .ok (.getfield 10, 3) := by decide +kernel
theorem dX5_join_69 : decode cX5_join 69 = .ok (.iload_n 2, 1) := by decide +kernel
theorem dX5_join_70 : decode cX5_join 70 = .ok (.invokevirtual 93, 3) := by decide +kernel
theorem dX5_join_73 : decode cX5_join 73 = .ok (.aload_n 0, 1) := by decide +kernel
theorem dX5_join_74 : decode cX5_join 74 = .ok (.getfield 10, 3) := by decide +kernel
theorem dX5_join_77 : decode cX5_join 77 = .ok (.invokevirtual 159, 3) := by decide +kernel
theorem dX5_join_80 : decode cX5_join 80 = .ok (.aload_n 3, 1) := by decide +kernel
theorem dX5_join_81 : decode cX5_join 81 = .ok (.invokevirtual 130, 3) := by decide +kernel
theorem dX5_join_84 : decode cX5_join 84 = .ok (.ireturn, 1) := by decide +kernel
theorem dX5_undo_0 : decode cX5_undo 0 = .ok (.aload_n 0, 1) := by decide +kernel
theorem dX5_undo_1 : decode cX5_undo 1 = .ok (.getfield 22, 3) := by decide +kernel
theorem dX5_undo_4 : decode cX5_undo 4 = .ok (.invokevirtual 192, 3) := by decide +kernel
theorem dX5_undo_7 : decode cX5_undo 7 = .ok (.ifCond .ne 13, 3) := by decide +kernel
theorem dX5_undo_10 : decode cX5_undo 10 = .ok (.new 59, 3) := by decide +kernel
theorem dX5_undo_13 : decode cX5_undo 13 = .ok (.dup, 1) := by decide +kernel
theorem dX5_undo_14 : decode cX5_undo 14 = .ok (.ldc 195, 2) := by decide +kernel
theorem dX5_undo_16 : decode cX5_undo 16 = .ok (.invokespecial 63, 3) := by decide +kernel
theorem dX5_undo_19 : decode cX5_undo 19 = .ok (.athrow, 1) := by decide +kernel
theorem dX5_undo_20 : decode cX5_undo 20 = .ok (.aload_n 0, 1) := by decide +kernel
theorem dX5_undo_21 : decode cX5_undo 21 = .ok (.getfield 22, 3) := by decide +kernel
theorem dX5_undo_24 : decode cX5_undo 24 = .ok (.aload_n 0, 1) := by decide +kernel
theorem dX5_undo_25 : decode cX5_undo 25 = .ok (.getfield 10, 3) := by decide +kernel
theorem dX5_undo_28 : decode cX5_undo 28 = .ok (.invokevirtual 197, 3) := by decide +kernel
theorem dX5_undo_31 : decode cX5_undo 31 = .ok (.aload_n 0, 1) := by decide +kernel
theorem dX5_undo_32 : decode cX5_undo 32 = .ok (.getfield 22, 3) := by decide +kernel
theorem dX5_undo_35 : decode cX5_undo 35 = .ok (.invokevirtual 192, 3) := by decide +kernel
theorem dX5_undo_38 : decode cX5_undo 38 = .ok (.ireturn, 1) := by decide +kernel
theorem dX5_keep_0 : decode cX5_keep 0 = .ok (.aload_n 0, 1) := by decide +kernel
theorem dX5_keep_1 : decode cX5_keep 1 = .ok (.getfield 16, 3) := by decide +kernel
theorem dX5_keep_4 : decode cX5_keep 4 = .ok (.aload_n 0, 1) := by decide +kernel
theorem dX5_keep_5 : decode cX5_keep 5 = .ok (.getfield 10, 3) := by decide +kernel
theorem dX5_keep_8 : decode cX5_keep 8 = .ok (.invokevirtual 200, 3) := by decide +kernel
theorem dX5_keep_11 : decode cX5_keep 11 = .ok (.aload_n 0, 1) := by decide +kernel
theorem dX5_keep_12 : decode cX5_keep 12 = .ok (.iconst 1, 1) := by decide +kernel
theorem dX5_keep_13 : decode cX5_keep 13 = .ok (.putfield 40, 3) := by decide +kernel
theorem dX5_keep_16 : decode cX5_keep 16 = .ok (.aload_n 0, 1) := by decide +kernel
theorem dX5_keep_17 : decode cX5_keep 17 = .ok (.getfield 10, 3) := by decide +kernel
theorem dX5_keep_20 : decode cX5_keep 20 = .ok (.invokevirtual 86, 3) := by decide +kernel
theorem dX5_keep_23 : decode cX5_keep 23 = .ok (.ireturn, 1) := by decide +kernel
theorem dX5_restore_0 : decode cX5_restore 0 = .ok (.aload_n 0, 1) := by decide +kernel
theorem dX5_restore_1 : decode cX5_restore 1 = .ok (.getfield 40, 3) := by decide +kernel
theorem dX5_restore_4 : decode cX5_restore 4 = .ok (.ifCond .ne 13, 3) := by decide +kernel
theorem dX5_restore_7 : decode cX5_restore 7 = .ok (.new 59, 3) := by decide +kernel
theorem dX5_restore_10 : decode cX5_restore 10 = .ok (.dup, 1) := by decide +kernel
theorem dX5_restore_11 : decode cX5_restore 11 = .ok (.ldc 202, 2) := by decide +kernel
theorem dX5_restore_13 : decode cX5_restore 13 = .ok (.invokespecial 63, 3) := by decide +kernel
theorem dX5_restore_16 : decode cX5_restore 16 = .ok (.athrow, 1) := by decide +kernel
theorem dX5_restore_17 : decode cX5_restore 17 = .ok (.aload_n 0, 1) := by decide +kernel
theorem dX5_restore_18 : decode cX5_restore 18 = .ok (.getfield 22, 3) := by decide +kernel
theorem dX5_restore_21 : decode cX5_restore 21 = .ok (.aload_n 0, 1) := by decide +kernel
theorem dX5_restore_22 : decode cX5_restore 22 = .ok (.getfield 10, 3) := by decide +kernel
theorem dX5_restore_25 : decode cX5_restore 25 = .ok (.invokevirtual 64, 3) := by decide +kernel
theorem dX5_restore_28 : decode cX5_restore 28 = .ok (.aload_n 0, 1) := by decide +kernel
theorem dX5_restore_29 : decode cX5_restore 29 = .ok (.getfield 10, 3) := by decide +kernel
theorem dX5_restore_32 : decode cX5_restore 32 = .ok (.aload_n 0, 1) := by decide +kernel
theorem dX5_restore_33 : decode cX5_restore 33 = .ok (.getfield 16, 3) := by decide +kernel
theorem dX5_restore_36 : decode cX5_restore 36 = .ok (.invokevirtual 200, 3) := by decide +kernel
theorem dX5_restore_39 : decode cX5_restore 39 = .ok (.aload_n 0, 1) := by decide +kernel
theorem dX5_restore_40 : decode cX5_restore 40 = .ok (.getfield 10, 3) := by decide +kernel
theorem dX5_restore_43 : decode cX5_restore 43 = .ok (.invokevirtual 86, 3) := by decide +kernel
theorem dX5_restore_46 : decode cX5_restore 46 = .ok (.ireturn, 1) := by decide +kernel
theorem dX5_place_0 : decode cX5_place 0 = .ok (.aload_n 0, 1) := by decide +kernel
theorem dX5_place_1 : decode cX5_place 1 = .ok (.iload_n 1, 1) := by decide +kernel
theorem dX5_place_2 : decode cX5_place 2 = .ok (.invokevirtual 90, 3) := by decide +kernel
theorem dX5_place_5 : decode cX5_place 5 = .ok (.astore_n 3, 1) := by decide +kernel
theorem dX5_place_6 : decode cX5_place 6 = .ok (.iload_n 2, 1) := by decide +kernel
theorem dX5_place_7 : decode cX5_place 7 = .ok (.ifCond .lt 11, 3) := by decide +kernel
theorem dX5_place_10 : decode cX5_place 10 = .ok (.iload_n 2, 1) := by decide +kernel
theorem dX5_place_11 : decode cX5_place 11 = .ok (.aload_n 3, 1) := by decide +kernel
theorem dX5_place_12 : decode cX5_place 12 = .ok (.invokevirtual 130, 3) := by decide +kernel
theorem dX5_place_15 : decode cX5_place 15 = .ok (.if_icmp .lt 13, 3) := by decide +kernel
theorem dX5_place_18 : decode cX5_place 18 = .ok (.new 204, 3) := by decide +kernel
theorem dX5_place_21 : decode cX5_place 21 = .ok (.dup, 1) := by decide +kernel
theorem dX5_place_22 : decode cX5_place 22 = .ok (.ldc 206, 2) := by decide +kernel
theorem dX5_place_24 : decode cX5_place 24 = .ok (.invokespecial 208, 3) := by decide +kernel
theorem dX5_place_27 : decode cX5_place 27 = .ok (.athrow, 1) := by decide +kernel
theorem dX5_place_28 : decode cX5_place 28 = .ok (.aload_n 3, 1) := by decide +kernel
theorem dX5_place_29 : decode cX5_place 29 = .ok (.iload_n 2, 1) := by decide +kernel
theorem dX5_place_30 : decode cX5_place 30 = .ok (.invokevirtual 209, 3) := by decide +kernel
theorem dX5_place_33 : decode cX5_place 33 = .ok (.ireturn, 1) := by decide +kernel
theorem dX5_ropeOf_0 : decode cX5_ropeOf 0 = .ok (.aload_n 0, 1) := by decide +kernel
theorem dX5_ropeOf_1 : decode cX5_ropeOf 1 = .ok (.iload_n 1, 1) := by decide +kernel
theorem dX5_ropeOf_2 : decode cX5_ropeOf 2 = .ok (.invokevirtual 90, 3) := by decide +kernel
theorem dX5_ropeOf_5 : decode cX5_ropeOf 5 = .ok (.astore_n 3, 1) := by decide +kernel
theorem dX5_ropeOf_6 : decode cX5_ropeOf 6 = .ok (.aload_n 0, 1) := by decide +kernel
theorem dX5_ropeOf_7 : decode cX5_ropeOf 7 = .ok (.iload_n 2, 1) := by decide +kernel
theorem dX5_ropeOf_8 : decode cX5_ropeOf 8 = .ok (.bipush 6, 2) := by decide +kernel
theorem dX5_ropeOf_10 : decode cX5_ropeOf 10 = .ok (.invokevirtual 212, 3) := by decide +kernel
theorem dX5_ropeOf_13 : decode cX5_ropeOf 13 = .ok (.aload_n 0, 1) := by decide +kernel
theorem dX5_ropeOf_14 : decode cX5_ropeOf 14 = .ok (.aload_n 3, 1) := by decide +kernel
theorem dX5_ropeOf_15 : decode cX5_ropeOf 15 = .ok (.iload_n 2, 1) := by decide +kernel
theorem dX5_ropeOf_16 : decode cX5_ropeOf 16 = .ok (.invokevirtual 215, 3) := by decide +kernel
theorem dX5_ropeOf_19 : decode cX5_ropeOf 19 = .ok (.ireturn, 1) := by decide +kernel
theorem dX5_hueOf_0 : decode cX5_hueOf 0 = .ok (.aload_n 0, 1) := by decide +kernel
theorem dX5_hueOf_1 : decode cX5_hueOf 1 = .ok (.iload_n 1, 1) := by decide +kernel
theorem dX5_hueOf_2 : decode cX5_hueOf 2 = .ok (.invokevirtual 90, 3) := by decide +kernel
theorem dX5_hueOf_5 : decode cX5_hueOf 5 = .ok (.astore 4, 2) := by decide +kernel
theorem dX5_hueOf_7 : decode cX5_hueOf 7 = .ok (.aload_n 0, 1) := by decide +kernel
theorem dX5_hueOf_8 : decode cX5_hueOf 8 = .ok (.iload_n 2, 1) := by decide +kernel
theorem dX5_hueOf_9 : decode cX5_hueOf 9 = .ok (.invokevirtual 44, 3) := by decide +kernel
theorem dX5_hueOf_12 : decode cX5_hueOf 12 = .ok (.aload_n 0, 1) := by decide +kernel
theorem dX5_hueOf_13 : decode cX5_hueOf 13 = .ok (.iload_n 3, 1) := by decide +kernel
theorem dX5_hueOf_14 : decode cX5_hueOf 14 = .ok (.iconst 4, 1) := by decide +kernel
theorem dX5_hueOf_15 : decode cX5_hueOf 15 = .ok (.invokevirtual 212, 3) := by decide +kernel
theorem dX5_hueOf_18 : decode cX5_hueOf 18 = .ok (.aload 4, 2) := by decide +kernel
theorem dX5_hueOf_20 : decode cX5_hueOf 20 = .ok (.iload_n 2, 1) := by decide +kernel
theorem dX5_hueOf_21 : decode cX5_hueOf 21 = .ok (.iload_n 3, 1) := by decide +kernel
theorem dX5_hueOf_22 : decode cX5_hueOf 22 = .ok (.invokevirtual 219, 3) := by decide +kernel
theorem dX5_hueOf_25 : decode cX5_hueOf 25 = .ok (.ireturn, 1) := by decide +kernel
theorem dX5_gapOf_0 : decode cX5_gapOf 0 = .ok (.aload_n 0, 1) := by decide +kernel
theorem dX5_gapOf_1 : decode cX5_gapOf 1 = .ok (.iload_n 1, 1) := by decide +kernel
theorem dX5_gapOf_2 : decode cX5_gapOf 2 = .ok (.invokevirtual 44, 3) := by decide +kernel
theorem dX5_gapOf_5 : decode cX5_gapOf 5 = .ok (.aload_n 0, 1) := by decide +kernel
theorem dX5_gapOf_6 : decode cX5_gapOf 6 = .ok (.getfield 10, 3) := by decide +kernel
theorem dX5_gapOf_9 : decode cX5_gapOf 9 = .ok (.iload_n 1, 1) := by decide +kernel
theorem dX5_gapOf_10 : decode cX5_gapOf 10 = .ok (.invokevirtual 68, 3) := by decide +kernel
theorem dX5_gapOf_13 : decode cX5_gapOf 13 = .ok (.ireturn, 1) := by decide +kernel
theorem dX5_count_0 : decode cX5_count 0 = .ok (.aload_n 0, 1) := by decide +kernel
theorem dX5_count_1 : decode cX5_count 1 = .ok (.iload_n 1, 1) := by decide +kernel
theorem dX5_count_2 : decode cX5_count 2 = .ok (.bipush 8, 2) := by decide +kernel
theorem dX5_count_4 : decode cX5_count 4 = .ok (.invokevirtual 212, 3) := by decide +kernel
theorem dX5_count_7 : decode cX5_count 7 = .ok (.aload_n 0, 1) := by decide +kernel
theorem dX5_count_8 : decode cX5_count 8 = .ok (.iload_n 1, 1) := by decide +kernel
theorem dX5_count_9 : decode cX5_count 9 = .ok (.invokevirtual 223, 3) := by decide +kernel
theorem dX5_count_12 : decode cX5_count 12 = .ok (.ireturn, 1) := by decide +kernel
theorem dX5_refusal_0 : decode cX5_refusal 0 = .ok (.aload_n 0, 1) := by decide +kernel
theorem dX5_refusal_1 : decode cX5_refusal 1 = .ok (.iload_n 1, 1) := by decide +kernel
theorem dX5_refusal_2 : decode cX5_refusal 2 = .ok (.invokevirtual 90, 3) := by decide +kernel
theorem dX5_refusal_5 : decode cX5_refusal 5 = .ok (.astore 4, 2) := by decide +kernel
theorem dX5_refusal_7 : decode cX5_refusal 7 = .ok (.aload_n 0, 1) := by decide +kernel
theorem dX5_refusal_8 : decode cX5_refusal 8 = .ok (.iload_n 2, 1) := by decide +kernel
theorem dX5_refusal_9 : decode cX5_refusal 9 = .ok (.invokevirtual 44, 3) := by decide +kernel
theorem dX5_refusal_12 : decode cX5_refusal 12 = .ok (.aload_n 0, 1) := by decide +kernel
theorem dX5_refusal_13 : decode cX5_refusal 13 = .ok (.iload_n 2, 1) := by decide +kernel
theorem dX5_refusal_14 : decode cX5_refusal 14 = .ok (.iload_n 3, 1) := by decide +kernel
theorem dX5_refusal_15 : decode cX5_refusal 15 = .ok (.invokevirtual 96, 3) := by decide +kernel
theorem dX5_refusal_18 : decode cX5_refusal 18 = .ok (.aload 4, 2) := by decide +kernel
theorem dX5_refusal_20 : decode cX5_refusal 20 = .ok (.iload_n 2, 1) := by decide +kernel
theorem dX5_refusal_21 : decode cX5_refusal 21 = .ok (.iload_n 3, 1) := by decide +kernel
theorem dX5_refusal_22 : decode cX5_refusal 22 = .ok (.aload_n 0, 1) := by decide +kernel
theorem dX5_refusal_23 : decode cX5_refusal 23 = .ok (.getfield 10, 3) := by decide +kernel
theorem dX5_refusal_26 : decode cX5_refusal 26 = .ok (.iload_n 2, 1) := by decide +kernel
theorem dX5_refusal_27 : decode cX5_refusal 27 = .ok (.invokevirtual 68, 3) := by decide +kernel
theorem dX5_refusal_30 : decode cX5_refusal 30 = .ok (.invokevirtual 99, 3) := by decide +kernel
theorem dX5_refusal_33 : decode cX5_refusal 33 = .ok (.ireturn, 1) := by decide +kernel
theorem dX5_meeting_0 : decode cX5_meeting 0 = .ok (.aload_n 0, 1) := by decide +kernel
theorem dX5_meeting_1 : decode cX5_meeting 1 = .ok (.iload_n 1, 1) := by decide +kernel
theorem dX5_meeting_2 : decode cX5_meeting 2 = .ok (.invokevirtual 44, 3) := by decide +kernel
theorem dX5_meeting_5 : decode cX5_meeting 5 = .ok (.aload_n 0, 1) := by decide +kernel
theorem dX5_meeting_6 : decode cX5_meeting 6 = .ok (.iload_n 3, 1) := by decide +kernel
theorem dX5_meeting_7 : decode cX5_meeting 7 = .ok (.invokevirtual 44, 3) := by decide +kernel
theorem dX5_meeting_10 : decode cX5_meeting 10 = .ok (.aload_n 0, 1) := by decide +kernel
theorem dX5_meeting_11 : decode cX5_meeting 11 = .ok (.iload_n 1, 1) := by decide +kernel
theorem dX5_meeting_12 : decode cX5_meeting 12 = .ok (.iload_n 2, 1) := by decide +kernel
theorem dX5_meeting_13 : decode cX5_meeting 13 = .ok (.invokevirtual 96, 3) := by decide +kernel
theorem dX5_meeting_16 : decode cX5_meeting 16 = .ok (.aload_n 0, 1) := by decide +kernel
theorem dX5_meeting_17 : decode cX5_meeting 17 = .ok (.iload_n 3, 1) := by decide +kernel
theorem dX5_meeting_18 : decode cX5_meeting 18 = .ok (.iload 4, 2) := by decide +kernel
theorem dX5_meeting_20 : decode cX5_meeting 20 = .ok (.invokevirtual 96, 3) := by decide +kernel
theorem dX5_meeting_23 : decode cX5_meeting 23 = .ok (.aload_n 0, 1) := by decide +kernel
theorem dX5_meeting_24 : decode cX5_meeting 24 = .ok (.getfield 10, 3) := by decide +kernel
theorem dX5_meeting_27 : decode cX5_meeting 27 = .ok (.iload_n 1, 1) := by decide +kernel
theorem dX5_meeting_28 : decode cX5_meeting 28 = .ok (.invokevirtual 68, 3) := by decide +kernel
theorem dX5_meeting_31 : decode cX5_meeting 31 = .ok (.iload_n 2, 1) := by decide +kernel
theorem dX5_meeting_32 : decode cX5_meeting 32 = .ok (.aload_n 0, 1) := by decide +kernel
theorem dX5_meeting_33 : decode cX5_meeting 33 = .ok (.getfield 10, 3) := by decide +kernel
theorem dX5_meeting_36 : decode cX5_meeting 36 = .ok (.iload_n 3, 1) := by decide +kernel
theorem dX5_meeting_37 : decode cX5_meeting 37 = .ok (.invokevirtual 68, 3) := by decide +kernel
theorem dX5_meeting_40 : decode cX5_meeting 40 = .ok (.iload 4, 2) := by decide +kernel
theorem dX5_meeting_42 : decode cX5_meeting 42 = .ok (.invokestatic 226, 3) := by decide +kernel
theorem dX5_meeting_45 : decode cX5_meeting 45 = .ok (.ireturn, 1) := by decide +kernel
theorem dX5_walked_0 : decode cX5_walked 0 = .ok (.aload_n 0, 1) := by decide +kernel
theorem dX5_walked_1 : decode cX5_walked 1 = .ok (.iload_n 1, 1) := by decide +kernel
theorem dX5_walked_2 : decode cX5_walked 2 = .ok (.invokevirtual 44, 3) := by decide +kernel
theorem dX5_walked_5 : decode cX5_walked 5 = .ok (.aload_n 0, 1) := by decide +kernel
theorem dX5_walked_6 : decode cX5_walked 6 = .ok (.iload_n 3, 1) := by decide +kernel
theorem dX5_walked_7 : decode cX5_walked 7 = .ok (.invokevirtual 44, 3) := by decide +kernel
theorem dX5_walked_10 : decode cX5_walked 10 = .ok (.aload_n 0, 1) := by decide +kernel
theorem dX5_walked_11 : decode cX5_walked 11 = .ok (.iload_n 1, 1) := by decide +kernel
theorem dX5_walked_12 : decode cX5_walked 12 = .ok (.iload_n 2, 1) := by decide +kernel
theorem dX5_walked_13 : decode cX5_walked 13 = .ok (.invokevirtual 96, 3) := by decide +kernel
theorem dX5_walked_16 : decode cX5_walked 16 = .ok (.aload_n 0, 1) := by decide +kernel
theorem dX5_walked_17 : decode cX5_walked 17 = .ok (.iload_n 3, 1) := by decide +kernel
theorem dX5_walked_18 : decode cX5_walked 18 = .ok (.iload 4, 2) := by decide +kernel
theorem dX5_walked_20 : decode cX5_walked 20 = .ok (.invokevirtual 96, 3) := by decide +kernel
theorem dX5_walked_23 : decode cX5_walked 23 = .ok (.aload_n 0, 1) := by decide +kernel
theorem dX5_walked_24 : decode cX5_walked 24 = .ok (.getfield 10, 3) := by decide +kernel
theorem dX5_walked_27 : decode cX5_walked 27 = .ok (.iload_n 1, 1) := by decide +kernel
theorem dX5_walked_28 : decode cX5_walked 28 = .ok (.invokevirtual 68, 3) := by decide +kernel
theorem dX5_walked_31 : decode cX5_walked 31 = .ok (.iload_n 2, 1) := by decide +kernel
theorem dX5_walked_32 : decode cX5_walked 32 = .ok (.aload_n 0, 1) := by decide +kernel
theorem dX5_walked_33 : decode cX5_walked 33 = .ok (.getfield 10, 3) := by decide +kernel
theorem dX5_walked_36 : decode cX5_walked 36 = .ok (.iload_n 3, 1) := by decide +kernel
theorem dX5_walked_37 : decode cX5_walked 37 = .ok (.invokevirtual 68, 3) := by decide +kernel
theorem dX5_walked_40 : decode cX5_walked 40 = .ok (.iload 4, 2) := by decide +kernel
theorem dX5_walked_42 : decode cX5_walked 42 = .ok (.invokestatic 232, 3) := by decide +kernel
theorem dX5_walked_45 : decode cX5_walked 45 = .ok (.ireturn, 1) := by decide +kernel
theorem dX5_phases_0 : decode cX5_phases 0 = .ok (.aload_n 0, 1) := by decide +kernel
theorem dX5_phases_1 : decode cX5_phases 1 = .ok (.iload_n 1, 1) := by decide +kernel
theorem dX5_phases_2 : decode cX5_phases 2 = .ok (.invokevirtual 90, 3) := by decide +kernel
theorem dX5_phases_5 : decode cX5_phases 5 = .ok (.astore 4, 2) := by decide +kernel
theorem dX5_phases_7 : decode cX5_phases 7 = .ok (.aload_n 0, 1) := by decide +kernel
theorem dX5_phases_8 : decode cX5_phases 8 = .ok (.iload_n 2, 1) := by decide +kernel
theorem dX5_phases_9 : decode cX5_phases 9 = .ok (.invokevirtual 44, 3) := by decide +kernel
theorem dX5_phases_12 : decode cX5_phases 12 = .ok (.aload_n 0, 1) := by decide +kernel
theorem dX5_phases_13 : decode cX5_phases 13 = .ok (.iload_n 3, 1) := by decide +kernel
theorem dX5_phases_14 : decode cX5_phases 14 = .ok (.iconst 3, 1) := by decide +kernel
theorem dX5_phases_15 : decode cX5_phases 15 = .ok (.invokevirtual 212, 3) := by decide +kernel
theorem dX5_phases_18 : decode cX5_phases 18 = .ok (.aload 4, 2) := by decide +kernel
theorem dX5_phases_20 : decode cX5_phases 20 = .ok (.iload_n 2, 1) := by decide +kernel
theorem dX5_phases_21 : decode cX5_phases 21 = .ok (.aload_n 0, 1) := by decide +kernel
theorem dX5_phases_22 : decode cX5_phases 22 = .ok (.getfield 10, 3) := by decide +kernel
theorem dX5_phases_25 : decode cX5_phases 25 = .ok (.iload_n 2, 1) := by decide +kernel
theorem dX5_phases_26 : decode cX5_phases 26 = .ok (.invokevirtual 68, 3) := by decide +kernel
theorem dX5_phases_29 : decode cX5_phases 29 = .ok (.iload_n 3, 1) := by decide +kernel
theorem dX5_phases_30 : decode cX5_phases 30 = .ok (.invokevirtual 235, 3) := by decide +kernel
theorem dX5_phases_33 : decode cX5_phases 33 = .ok (.ireturn, 1) := by decide +kernel
theorem dX5_joining_0 : decode cX5_joining 0 = .ok (.aload_n 0, 1) := by decide +kernel
theorem dX5_joining_1 : decode cX5_joining 1 = .ok (.iload_n 1, 1) := by decide +kernel
theorem dX5_joining_2 : decode cX5_joining 2 = .ok (.invokevirtual 90, 3) := by decide +kernel
theorem dX5_joining_5 : decode cX5_joining 5 = .ok (.astore_n 3, 1) := by decide +kernel
theorem dX5_joining_6 : decode cX5_joining 6 = .ok (.aload_n 0, 1) := by decide +kernel
theorem dX5_joining_7 : decode cX5_joining 7 = .ok (.iload_n 2, 1) := by decide +kernel
theorem dX5_joining_8 : decode cX5_joining 8 = .ok (.invokevirtual 90, 3) := by decide +kernel
theorem dX5_joining_11 : decode cX5_joining 11 = .ok (.astore 4, 2) := by decide +kernel
theorem dX5_joining_13 : decode cX5_joining 13 = .ok (.iload_n 1, 1) := by decide +kernel
theorem dX5_joining_14 : decode cX5_joining 14 = .ok (.iload_n 2, 1) := by decide +kernel
theorem dX5_joining_15 : decode cX5_joining 15 = .ok (.if_icmp .ne 7, 3) := by decide +kernel
theorem dX5_joining_18 : decode cX5_joining 18 = .ok (.iconst 1, 1) := by decide +kernel
theorem dX5_joining_19 : decode cX5_joining 19 = .ok (.goto 10, 3) := by decide +kernel
theorem dX5_joining_22 : decode cX5_joining 22 = .ok (.aload_n 0, 1) := by decide +kernel
theorem dX5_joining_23 : decode cX5_joining 23 = .ok (.aload_n 3, 1) := by decide +kernel
theorem dX5_joining_24 : decode cX5_joining 24 = .ok (.aload 4, 2) := by decide +kernel
theorem dX5_joining_26 : decode cX5_joining 26 = .ok (.invokevirtual 145, 3) := by decide +kernel
theorem dX5_joining_29 : decode cX5_joining 29 = .ok (.ireturn, 1) := by decide +kernel
theorem dX5_greatest_0 : decode cX5_greatest 0 = .ok (.aload_n 0, 1) := by decide +kernel
theorem dX5_greatest_1 : decode cX5_greatest 1 = .ok (.aload_n 0, 1) := by decide +kernel
theorem dX5_greatest_2 : decode cX5_greatest 2 = .ok (.iload_n 1, 1) := by decide +kernel
theorem dX5_greatest_3 : decode cX5_greatest 3 = .ok (.invokevirtual 90, 3) := by decide +kernel
theorem dX5_greatest_6 : decode cX5_greatest 6 = .ok (.invokevirtual 117, 3) := by decide +kernel
theorem dX5_greatest_9 : decode cX5_greatest 9 = .ok (.ireturn, 1) := by decide +kernel
theorem dX5_fullness_0 : decode cX5_fullness 0 = .ok (.aload_n 0, 1) := by decide +kernel
theorem dX5_fullness_1 : decode cX5_fullness 1 = .ok (.getfield 10, 3) := by decide +kernel
theorem dX5_fullness_4 : decode cX5_fullness 4 = .ok (.invokevirtual 241, 3) := by decide +kernel
theorem dX5_fullness_7 : decode cX5_fullness 7 = .ok (.istore_n 1, 1) := by decide +kernel
theorem dX5_fullness_8 : decode cX5_fullness 8 = .ok (.iload_n 1, 1) := by decide +kernel
theorem dX5_fullness_9 : decode cX5_fullness 9 = .ok (.aload_n 0, 1) := by decide +kernel
theorem dX5_fullness_10 : decode cX5_fullness 10 = .ok (.getfield 10, 3) := by decide +kernel
theorem dX5_fullness_13 : decode cX5_fullness 13 = .ok (.invokevirtual 244, 3) := by decide +kernel
theorem dX5_fullness_16 : decode cX5_fullness 16 = .ok (.isub, 1) := by decide +kernel
theorem dX5_fullness_17 : decode cX5_fullness 17 = .ok (.istore_n 2, 1) := by decide +kernel
theorem dX5_fullness_18 : decode cX5_fullness 18 = .ok (.iload_n 1, 1) := by decide +kernel
theorem dX5_fullness_19 : decode cX5_fullness 19 = .ok (.ifCond .le 11, 3) := by decide +kernel
theorem dX5_fullness_22 : decode cX5_fullness 22 = .ok (.iload_n 2, 1) := by decide +kernel
theorem dX5_fullness_23 : decode cX5_fullness 23 = .ok (.i2d, 1) := by decide +kernel
theorem dX5_fullness_24 : decode cX5_fullness 24 = .ok (.iload_n 1, 1) := by decide +kernel
theorem dX5_fullness_25 : decode cX5_fullness 25 = .ok (.i2d, 1) := by decide +kernel
theorem dX5_fullness_26 : decode cX5_fullness 26 = .ok (.ddiv, 1) := by decide +kernel
theorem dX5_fullness_27 : decode cX5_fullness 27 = .ok (.goto 4, 3) := by decide +kernel
theorem dX5_fullness_30 : decode cX5_fullness 30 = .ok (.dconst 1, 1) := by decide +kernel
theorem dX5_fullness_31 : decode cX5_fullness 31 = .ok (.dreturn, 1) := by decide +kernel
theorem dX5_existing_0 : decode cX5_existing 0 = .ok (.aload_n 0, 1) := by decide +kernel
theorem dX5_existing_1 : decode cX5_existing 1 = .ok (.getfield 10, 3) := by decide +kernel
theorem dX5_existing_4 : decode cX5_existing 4 = .ok (.iload_n 1, 1) := by decide +kernel
theorem dX5_existing_5 : decode cX5_existing 5 = .ok (.invokevirtual 268, 3) := by decide +kernel
theorem dX5_existing_8 : decode cX5_existing 8 = .ok (.astore_n 2, 1) := by decide +kernel
theorem dX5_existing_9 : decode cX5_existing 9 = .ok (.aload_n 2, 1) := by decide +kernel
theorem dX5_existing_10 : decode cX5_existing 10 = .ok (.ifnonnull 14, 3) := by decide +kernel
theorem dX5_existing_13 : decode cX5_existing 13 = .ok (.new 204, 3) := by decide +kernel
theorem dX5_existing_16 : decode cX5_existing 16 = .ok (.dup, 1) := by decide +kernel
theorem dX5_existing_17 : decode cX5_existing 17 = .ok (.ldc_w 271, 3) := by decide +kernel
theorem dX5_existing_20 : decode cX5_existing 20 = .ok (.invokespecial 208, 3) := by decide +kernel
theorem dX5_existing_23 : decode cX5_existing 23 = .ok (.athrow, 1) := by decide +kernel
theorem dX5_existing_24 : decode cX5_existing 24 = .ok (.aload_n 2, 1) := by decide +kernel
theorem dX5_existing_25 : decode cX5_existing 25 = .ok (.areturn, 1) := by decide +kernel
theorem dX5_requireHue_0 : decode cX5_requireHue 0 = .ok (.iload_n 1, 1) := by decide +kernel
theorem dX5_requireHue_1 : decode cX5_requireHue 1 = .ok (.ifCond .lt 9, 3) := by decide +kernel
theorem dX5_requireHue_4 : decode cX5_requireHue 4 = .ok (.iload_n 1, 1) := by decide +kernel
theorem dX5_requireHue_5 : decode cX5_requireHue 5 = .ok (.bipush 8, 2) := by decide +kernel
theorem dX5_requireHue_7 : decode cX5_requireHue 7 = .ok (.if_icmp .lt 14, 3) := by decide +kernel
theorem dX5_requireHue_10 : decode cX5_requireHue 10 = .ok (.new 204, 3) := by decide +kernel
theorem dX5_requireHue_13 : decode cX5_requireHue 13 = .ok (.dup, 1) := by decide +kernel
theorem dX5_requireHue_14 : decode cX5_requireHue 14 = .ok (.ldc_w 273, 3) := by decide +kernel
theorem dX5_requireHue_17 : decode cX5_requireHue 17 = .ok (.invokespecial 208, 3) := by decide +kernel
theorem dX5_requireHue_20 : decode cX5_requireHue 20 = .ok (.athrow, 1) := by decide +kernel
theorem dX5_requireHue_21 : decode cX5_requireHue 21 = .ok (.return_, 1) := by decide +kernel
theorem dX5_requirePhase_0 : decode cX5_requirePhase 0 = .ok (.iload_n 2, 1) := by decide +kernel
theorem dX5_requirePhase_1 : decode cX5_requirePhase 1 = .ok (.ifCond .lt 15, 3) := by decide +kernel
theorem dX5_requirePhase_4 : decode cX5_requirePhase 4 = .ok (.iload_n 2, 1) := by decide +kernel
theorem dX5_requirePhase_5 : decode cX5_requirePhase 5 = .ok (.aload_n 0, 1) := by decide +kernel
theorem dX5_requirePhase_6 : decode cX5_requirePhase 6 = .ok (.getfield 10, 3) := by decide +kernel
theorem dX5_requirePhase_9 : decode cX5_requirePhase 9 = .ok (.iload_n 1, 1) := by decide +kernel
theorem dX5_requirePhase_10 : decode cX5_requirePhase 10 = .ok (.invokevirtual 68, 3) := by decide +kernel
theorem dX5_requirePhase_13 : decode cX5_requirePhase 13 = .ok (.if_icmp .lt 14, 3) := by decide +kernel
theorem dX5_requirePhase_16 : decode cX5_requirePhase 16 = .ok (.new 48, 3) := by decide +kernel
theorem dX5_requirePhase_19 : decode cX5_requirePhase 19 = .ok (.dup, 1) := by decide +kernel
theorem dX5_requirePhase_20 : decode cX5_requirePhase 20 = .ok (.ldc_w 275, 3) := by decide +kernel
theorem dX5_requirePhase_23 : decode cX5_requirePhase 23 = .ok (.invokespecial 52, 3) := by decide +kernel
theorem dX5_requirePhase_26 : decode cX5_requirePhase 26 = .ok (.athrow, 1) := by decide +kernel
theorem dX5_requirePhase_27 : decode cX5_requirePhase 27 = .ok (.return_, 1) := by decide +kernel
theorem dX5_requireLength_0 : decode cX5_requireLength 0 = .ok (.iload_n 1, 1) := by decide +kernel
theorem dX5_requireLength_1 : decode cX5_requireLength 1 = .ok (.iconst 1, 1) := by decide +kernel
theorem dX5_requireLength_2 : decode cX5_requireLength 2 = .ok (.if_icmp .lt 9, 3) := by decide +kernel
theorem dX5_requireLength_5 : decode cX5_requireLength 5 = .ok (.iload_n 1, 1) := by decide +kernel
theorem dX5_requireLength_6 : decode cX5_requireLength 6 = .ok (.bipush 60, 2) := by decide +kernel
theorem dX5_requireLength_8 : decode cX5_requireLength 8 = .ok (.if_icmp .le 14, 3) := by decide +kernel
theorem dX5_requireLength_11 : decode cX5_requireLength 11 = .ok (.new 48, 3) := by decide +kernel
theorem dX5_requireLength_14 : decode cX5_requireLength 14 = .ok (.dup, 1) := by decide +kernel
theorem dX5_requireLength_15 : decode cX5_requireLength 15 = .ok (.ldc_w 277, 3) := by decide +kernel
theorem dX5_requireLength_18 : decode cX5_requireLength 18 = .ok (.invokespecial 52, 3) := by decide +kernel
theorem dX5_requireLength_21 : decode cX5_requireLength 21 = .ok (.athrow, 1) := by decide +kernel
theorem dX5_requireLength_22 : decode cX5_requireLength 22 = .ok (.return_, 1) := by decide +kernel
theorem dX5_requireWhat_0 : decode cX5_requireWhat 0 = .ok (.iload_n 1, 1) := by decide +kernel
theorem dX5_requireWhat_1 : decode cX5_requireWhat 1 = .ok (.ifCond .lt 8, 3) := by decide +kernel
theorem dX5_requireWhat_4 : decode cX5_requireWhat 4 = .ok (.iload_n 1, 1) := by decide +kernel
theorem dX5_requireWhat_5 : decode cX5_requireWhat 5 = .ok (.iload_n 2, 1) := by decide +kernel
theorem dX5_requireWhat_6 : decode cX5_requireWhat 6 = .ok (.if_icmp .lt 14, 3) := by decide +kernel
theorem dX5_requireWhat_9 : decode cX5_requireWhat 9 = .ok (.new 48, 3) := by decide +kernel
theorem dX5_requireWhat_12 : decode cX5_requireWhat 12 = .ok (.dup, 1) := by decide +kernel
theorem dX5_requireWhat_13 : decode cX5_requireWhat 13 = .ok (.ldc_w 279, 3) := by decide +kernel
theorem dX5_requireWhat_16 : decode cX5_requireWhat 16 = .ok (.invokespecial 52, 3) := by decide +kernel
theorem dX5_requireWhat_19 : decode cX5_requireWhat 19 = .ok (.athrow, 1) := by decide +kernel
theorem dX5_requireWhat_20 : decode cX5_requireWhat 20 = .ok (.return_, 1) := by decide +kernel
theorem dX5_requireRoomForRope_0 : decode cX5_requireRoomForRope 0 = .ok (.aload_n 0, 1) := by decide +kernel
theorem dX5_requireRoomForRope_1 : decode cX5_requireRoomForRope 1 = .ok (.getfield 10, 3) := by decide +kernel
theorem dX5_requireRoomForRope_4 : decode cX5_requireRoomForRope 4 = .ok (.invokevirtual 86, 3) := by decide +kernel
theorem dX5_requireRoomForRope_7 : decode cX5_requireRoomForRope 7 = .ok (.iconst 4, 1) := by decide +kernel
theorem dX5_requireRoomForRope_8 : decode cX5_requireRoomForRope 8 = .ok (.if_icmp .lt 14, 3) := by decide +kernel
theorem dX5_requireRoomForRope_11 : decode cX5_requireRoomForRope 11 = .ok (.new 59, 3) := by decide +kernel
theorem dX5_requireRoomForRope_14 : decode cX5_requireRoomForRope 14 = .ok (.dup, 1) := by decide +kernel
theorem dX5_requireRoomForRope_15 : decode cX5_requireRoomForRope 15 = .ok (.ldc_w 281, 3) := by decide +kernel
theorem dX5_requireRoomForRope_18 : decode cX5_requireRoomForRope 18 = .ok (.invokespecial 63, 3) := by decide +kernel
theorem dX5_requireRoomForRope_21 : decode cX5_requireRoomForRope 21 = .ok (.athrow, 1) := by decide +kernel
theorem dX5_requireRoomForRope_22 : decode cX5_requireRoomForRope 22 = .ok (.return_, 1) := by decide +kernel
theorem dX5_changeLength_0 : decode cX5_changeLength 0 = .ok (.aload_n 0, 1) := by decide +kernel
theorem dX5_changeLength_1 : decode cX5_changeLength 1 = .ok (.getfield 36, 3) := by decide +kernel
theorem dX5_changeLength_4 : decode cX5_changeLength 4 = .ok (.iload_n 2, 1) := by decide +kernel
theorem dX5_changeLength_5 : decode cX5_changeLength 5 = .ok (.invokevirtual 283, 3) := by decide +kernel
theorem dX5_changeLength_8 : decode cX5_changeLength 8 = .ok (.iconst 0, 1) := by decide +kernel
theorem dX5_changeLength_9 : decode cX5_changeLength 9 = .ok (.istore_n 3, 1) := by decide +kernel
theorem dX5_changeLength_10 : decode cX5_changeLength 10 = .ok (.iload_n 3, 1) := by decide +kernel
theorem dX5_changeLength_11 : decode cX5_changeLength 11 = .ok (.aload_n 1, 1) := by decide +kernel
theorem dX5_changeLength_12 : decode cX5_changeLength 12 = .ok (.invokevirtual 123, 3) := by decide +kernel
theorem dX5_changeLength_15 : decode cX5_changeLength 15 = .ok (.if_icmp .ge 42, 3) := by decide +kernel
theorem dX5_changeLength_18 : decode cX5_changeLength 18 = .ok (.aload_n 1, 1) := by decide +kernel
theorem dX5_changeLength_19 : decode cX5_changeLength 19 = .ok (.iload_n 3, 1) := by decide +kernel
theorem dX5_changeLength_20 : decode cX5_changeLength 20 = .ok (.invokevirtual 286, 3) := by decide +kernel
theorem dX5_changeLength_23 : decode cX5_changeLength 23 = .ok (.istore 4, 2) := by decide +kernel
theorem dX5_changeLength_25 : decode cX5_changeLength 25 = .ok (.aload_n 0, 1) := by decide +kernel
theorem dX5_changeLength_26 : decode cX5_changeLength 26 = .ok (.getfield 36, 3) := by decide +kernel
theorem dX5_changeLength_29 : decode cX5_changeLength 29 = .ok (.iload 4, 2) := by decide +kernel
theorem dX5_changeLength_31 : decode cX5_changeLength 31 = .ok (.aload_n 1, 1) := by decide +kernel
theorem dX5_changeLength_32 : decode cX5_changeLength 32 = .ok (.iload 4, 2) := by decide +kernel
theorem dX5_changeLength_34 : decode cX5_changeLength 34 = .ok (.iconst 0, 1) := by decide +kernel
theorem dX5_changeLength_35 : decode cX5_changeLength 35 = .ok (.invokevirtual 289, 3) := by decide +kernel
theorem dX5_changeLength_38 : decode cX5_changeLength 38 = .ok (.aload_n 0, 1) := by decide +kernel
theorem dX5_changeLength_39 : decode cX5_changeLength 39 = .ok (.getfield 10, 3) := by decide +kernel
theorem dX5_changeLength_42 : decode cX5_changeLength 42 = .ok (.iload 4, 2) := by decide +kernel
theorem dX5_changeLength_44 : decode cX5_changeLength 44 = .ok (.invokevirtual 68, 3) := by decide +kernel
theorem dX5_changeLength_47 : decode cX5_changeLength 47 = .ok (.invokevirtual 292, 3) := by decide +kernel
theorem dX5_changeLength_50 : decode cX5_changeLength 50 = .ok (.pop, 1) := by decide +kernel
theorem dX5_changeLength_51 : decode cX5_changeLength 51 = .ok (.iinc 3 1, 3) := by decide +kernel
theorem dX5_changeLength_54 : decode cX5_changeLength 54 = .ok (.goto (-44), 3) := by decide +kernel
theorem dX5_changeLength_57 : decode cX5_changeLength 57 = .ok (.aload_n 1, 1) := by decide +kernel
theorem dX5_changeLength_58 : decode cX5_changeLength 58 = .ok (.aload_n 0, 1) := by decide +kernel
theorem dX5_changeLength_59 : decode cX5_changeLength 59 = .ok (.getfield 36, 3) := by decide +kernel
theorem dX5_changeLength_62 : decode cX5_changeLength 62 = .ok (.invokevirtual 155, 3) := by decide +kernel
theorem dX5_changeLength_65 : decode cX5_changeLength 65 = .ok (.return_, 1) := by decide +kernel
theorem dX5_layBack_0 : decode cX5_layBack 0 = .ok (.iconst 0, 1) := by decide +kernel
theorem dX5_layBack_1 : decode cX5_layBack 1 = .ok (.istore 4, 2) := by decide +kernel
theorem dX5_layBack_3 : decode cX5_layBack 3 = .ok (.iload 4, 2) := by decide +kernel
theorem dX5_layBack_5 : decode cX5_layBack 5 = .ok (.aload_n 1, 1) := by decide +kernel
theorem dX5_layBack_6 : decode cX5_layBack 6 = .ok (.invokevirtual 123, 3) := by decide +kernel
theorem dX5_layBack_9 : decode cX5_layBack 9 = .ok (.if_icmp .ge 52, 3) := by decide +kernel
theorem dX5_layBack_12 : decode cX5_layBack 12 = .ok (.aload_n 1, 1) := by decide +kernel
theorem dX5_layBack_13 : decode cX5_layBack 13 = .ok (.iload 4, 2) := by decide +kernel
theorem dX5_layBack_15 : decode cX5_layBack 15 = .ok (.invokevirtual 286, 3) := by decide +kernel
theorem dX5_layBack_18 : decode cX5_layBack 18 = .ok (.istore 5, 2) := by decide +kernel
theorem dX5_layBack_20 : decode cX5_layBack 20 = .ok (.aload_n 1, 1) := by decide +kernel
theorem dX5_layBack_21 : decode cX5_layBack 21 = .ok (.iload 5, 2) := by decide +kernel
theorem dX5_layBack_23 : decode cX5_layBack 23 = .ok (.iload_n 2, 1) := by decide +kernel
theorem dX5_layBack_24 : decode cX5_layBack 24 = .ok (.invokevirtual 289, 3) := by decide +kernel
theorem dX5_layBack_27 : decode cX5_layBack 27 = .ok (.istore 6, 2) := by decide +kernel
theorem dX5_layBack_29 : decode cX5_layBack 29 = .ok (.iload 6, 2) := by decide +kernel
theorem dX5_layBack_31 : decode cX5_layBack 31 = .ok (.iconst (-1), 1) := by decide +kernel
theorem dX5_layBack_32 : decode cX5_layBack 32 = .ok (.if_icmp .eq 23, 3) := by decide +kernel
theorem dX5_layBack_35 : decode cX5_layBack 35 = .ok (.aload_n 3, 1) := by decide +kernel
theorem dX5_layBack_36 : decode cX5_layBack 36 = .ok (.iload 5, 2) := by decide +kernel
theorem dX5_layBack_38 : decode cX5_layBack 38 = .ok (.iload 6, 2) := by decide +kernel
theorem dX5_layBack_40 : decode cX5_layBack 40 = .ok (.iload_n 2, 1) := by decide +kernel
theorem dX5_layBack_41 : decode cX5_layBack 41 = .ok (.isub, 1) := by decide +kernel
theorem dX5_layBack_42 : decode cX5_layBack 42 = .ok (.aload_n 0, 1) := by decide +kernel
theorem dX5_layBack_43 : decode cX5_layBack 43 = .ok (.getfield 10, 3) := by decide +kernel
theorem dX5_layBack_46 : decode cX5_layBack 46 = .ok (.iload 5, 2) := by decide +kernel
theorem dX5_layBack_48 : decode cX5_layBack 48 = .ok (.invokevirtual 68, 3) := by decide +kernel
theorem dX5_layBack_51 : decode cX5_layBack 51 = .ok (.invokevirtual 292, 3) := by decide +kernel
theorem dX5_layBack_54 : decode cX5_layBack 54 = .ok (.pop, 1) := by decide +kernel
theorem dX5_layBack_55 : decode cX5_layBack 55 = .ok (.iinc 4 1, 3) := by decide +kernel
theorem dX5_layBack_58 : decode cX5_layBack 58 = .ok (.goto (-55), 3) := by decide +kernel
theorem dX5_layBack_61 : decode cX5_layBack 61 = .ok (.return_, 1) := by decide +kernel
theorem dX5_turnRound_0 : decode cX5_turnRound 0 = .ok (.aload_n 0, 1) := by decide +kernel
theorem dX5_turnRound_1 : decode cX5_turnRound 1 = .ok (.getfield 36, 3) := by decide +kernel
theorem dX5_turnRound_4 : decode cX5_turnRound 4 = .ok (.aload_n 1, 1) := by decide +kernel
theorem dX5_turnRound_5 : decode cX5_turnRound 5 = .ok (.invokevirtual 130, 3) := by decide +kernel
theorem dX5_turnRound_8 : decode cX5_turnRound 8 = .ok (.invokevirtual 283, 3) := by decide +kernel
theorem dX5_turnRound_11 : decode cX5_turnRound 11 = .ok (.iconst 0, 1) := by decide +kernel
theorem dX5_turnRound_12 : decode cX5_turnRound 12 = .ok (.istore_n 2, 1) := by decide +kernel
theorem dX5_turnRound_13 : decode cX5_turnRound 13 = .ok (.iload_n 2, 1) := by decide +kernel
theorem dX5_turnRound_14 : decode cX5_turnRound 14 = .ok (.aload_n 1, 1) := by decide +kernel
theorem dX5_turnRound_15 : decode cX5_turnRound 15 = .ok (.invokevirtual 123, 3) := by decide +kernel
theorem dX5_turnRound_18 : decode cX5_turnRound 18 = .ok (.if_icmp .ge 44, 3) := by decide +kernel
theorem dX5_turnRound_21 : decode cX5_turnRound 21 = .ok (.aload_n 1, 1) := by decide +kernel
theorem dX5_turnRound_22 : decode cX5_turnRound 22 = .ok (.iload_n 2, 1) := by decide +kernel
theorem dX5_turnRound_23 : decode cX5_turnRound 23 = .ok (.invokevirtual 286, 3) := by decide +kernel
theorem dX5_turnRound_26 : decode cX5_turnRound 26 = .ok (.istore_n 3, 1) := by decide +kernel
theorem dX5_turnRound_27 : decode cX5_turnRound 27 = .ok (.aload_n 0, 1) := by decide +kernel
theorem dX5_turnRound_28 : decode cX5_turnRound 28 = .ok (.getfield 36, 3) := by decide +kernel
theorem dX5_turnRound_31 : decode cX5_turnRound 31 = .ok (.iload_n 3, 1) := by decide +kernel
theorem dX5_turnRound_32 : decode cX5_turnRound 32 = .ok (.aload_n 1, 1) := by decide +kernel
theorem dX5_turnRound_33 : decode cX5_turnRound 33 = .ok (.invokevirtual 130, 3) := by decide +kernel
theorem dX5_turnRound_36 : decode cX5_turnRound 36 = .ok (.iconst 1, 1) := by decide +kernel
theorem dX5_turnRound_37 : decode cX5_turnRound 37 = .ok (.isub, 1) := by decide +kernel
theorem dX5_turnRound_38 : decode cX5_turnRound 38 = .ok (.aload_n 1, 1) := by decide +kernel
theorem dX5_turnRound_39 : decode cX5_turnRound 39 = .ok (.iload_n 3, 1) := by decide +kernel
theorem dX5_turnRound_40 : decode cX5_turnRound 40 = .ok (.invokevirtual 295, 3) := by decide +kernel
theorem dX5_turnRound_43 : decode cX5_turnRound 43 = .ok (.isub, 1) := by decide +kernel
theorem dX5_turnRound_44 : decode cX5_turnRound 44 = .ok (.aload_n 0, 1) := by decide +kernel
theorem dX5_turnRound_45 : decode cX5_turnRound 45 = .ok (.getfield 10, 3) := by decide +kernel
theorem dX5_turnRound_48 : decode cX5_turnRound 48 = .ok (.iload_n 3, 1) := by decide +kernel
theorem dX5_turnRound_49 : decode cX5_turnRound 49 = .ok (.invokevirtual 68, 3) := by decide +kernel
theorem dX5_turnRound_52 : decode cX5_turnRound 52 = .ok (.invokevirtual 292, 3) := by decide +kernel
theorem dX5_turnRound_55 : decode cX5_turnRound 55 = .ok (.pop, 1) := by decide +kernel
theorem dX5_turnRound_56 : decode cX5_turnRound 56 = .ok (.iinc 2 1, 3) := by decide +kernel
theorem dX5_turnRound_59 : decode cX5_turnRound 59 = .ok (.goto (-46), 3) := by decide +kernel
theorem dX5_turnRound_62 : decode cX5_turnRound 62 = .ok (.aload_n 1, 1) := by decide +kernel
theorem dX5_turnRound_63 : decode cX5_turnRound 63 = .ok (.aload_n 0, 1) := by decide +kernel
theorem dX5_turnRound_64 : decode cX5_turnRound 64 = .ok (.getfield 36, 3) := by decide +kernel
theorem dX5_turnRound_67 : decode cX5_turnRound 67 = .ok (.invokevirtual 298, 3) := by decide +kernel
theorem dX5_turnRound_70 : decode cX5_turnRound 70 = .ok (.istore_n 2, 1) := by decide +kernel
theorem dX5_turnRound_71 : decode cX5_turnRound 71 = .ok (.aload_n 1, 1) := by decide +kernel
theorem dX5_turnRound_72 : decode cX5_turnRound 72 = .ok (.aload_n 0, 1) := by decide +kernel
theorem dX5_turnRound_73 : decode cX5_turnRound 73 = .ok (.getfield 36, 3) := by decide +kernel
theorem dX5_turnRound_76 : decode cX5_turnRound 76 = .ok (.invokevirtual 155, 3) := by decide +kernel
theorem dX5_turnRound_79 : decode cX5_turnRound 79 = .ok (.iload_n 2, 1) := by decide +kernel
theorem dX5_turnRound_80 : decode cX5_turnRound 80 = .ok (.ireturn, 1) := by decide +kernel
theorem dX5_draftJoined_0 : decode cX5_draftJoined 0 = .ok (.aload_n 0, 1) := by decide +kernel
theorem dX5_draftJoined_1 : decode cX5_draftJoined 1 = .ok (.getfield 36, 3) := by decide +kernel
theorem dX5_draftJoined_4 : decode cX5_draftJoined 4 = .ok (.aload_n 1, 1) := by decide +kernel
theorem dX5_draftJoined_5 : decode cX5_draftJoined 5 = .ok (.invokevirtual 130, 3) := by decide +kernel
theorem dX5_draftJoined_8 : decode cX5_draftJoined 8 = .ok (.aload_n 2, 1) := by decide +kernel
theorem dX5_draftJoined_9 : decode cX5_draftJoined 9 = .ok (.invokevirtual 130, 3) := by decide +kernel
theorem dX5_draftJoined_12 : decode cX5_draftJoined 12 = .ok (.iadd, 1) := by decide +kernel
theorem dX5_draftJoined_13 : decode cX5_draftJoined 13 = .ok (.invokevirtual 283, 3) := by decide +kernel
theorem dX5_draftJoined_16 : decode cX5_draftJoined 16 = .ok (.iconst 1, 1) := by decide +kernel
theorem dX5_draftJoined_17 : decode cX5_draftJoined 17 = .ok (.istore_n 3, 1) := by decide +kernel
theorem dX5_draftJoined_18 : decode cX5_draftJoined 18 = .ok (.iconst 0, 1) := by decide +kernel
theorem dX5_draftJoined_19 : decode cX5_draftJoined 19 = .ok (.istore 4, 2) := by decide +kernel
theorem dX5_draftJoined_21 : decode cX5_draftJoined 21 = .ok (.iload 4, 2) := by decide +kernel
theorem dX5_draftJoined_23 : decode cX5_draftJoined 23 = .ok (.aload_n 1, 1) := by decide +kernel
theorem dX5_draftJoined_24 : decode cX5_draftJoined 24 = .ok (.invokevirtual 123, 3) := by decide +kernel
theorem dX5_draftJoined_27 : decode cX5_draftJoined 27 = .ok (.if_icmp .ge 43, 3) := by decide +kernel
theorem dX5_draftJoined_30 : decode cX5_draftJoined 30 = .ok (.aload_n 1, 1) := by decide +kernel
theorem dX5_draftJoined_31 : decode cX5_draftJoined 31 = .ok (.iload 4, 2) := by decide +kernel
theorem dX5_draftJoined_33 : decode cX5_draftJoined 33 = .ok (.invokevirtual 286, 3) := by decide +kernel
theorem dX5_draftJoined_36 : decode cX5_draftJoined 36 = .ok (.istore 5, 2) := by decide +kernel
theorem dX5_draftJoined_38 : decode cX5_draftJoined 38 = .ok (.aload_n 0, 1) := by decide +kernel
theorem dX5_draftJoined_39 : decode cX5_draftJoined 39 = .ok (.iload 5, 2) := by decide +kernel
theorem dX5_draftJoined_41 : decode cX5_draftJoined 41 = .ok (.aload_n 1, 1) := by decide +kernel
theorem dX5_draftJoined_42 : decode cX5_draftJoined 42 = .ok (.iload 5, 2) := by decide +kernel
theorem dX5_draftJoined_44 : decode cX5_draftJoined 44 = .ok (.iconst 0, 1) := by decide +kernel
theorem dX5_draftJoined_45 : decode cX5_draftJoined 45 = .ok (.invokevirtual 289, 3) := by decide +kernel
theorem dX5_draftJoined_48 : decode cX5_draftJoined 48 = .ok (.invokevirtual 301, 3) := by decide +kernel
theorem dX5_draftJoined_51 : decode cX5_draftJoined 51 = .ok (.ifCond .eq 11, 3) := by decide +kernel
theorem dX5_draftJoined_54 : decode cX5_draftJoined 54 = .ok (.iload_n 3, 1) := by decide +kernel
theorem dX5_draftJoined_55 : decode cX5_draftJoined 55 = .ok (.ifCond .eq 7, 3) := by decide +kernel
theorem dX5_draftJoined_58 : decode cX5_draftJoined 58 = .ok (.iconst 1, 1) := by decide +kernel
theorem dX5_draftJoined_59 : decode cX5_draftJoined 59 = .ok (.goto 4, 3) := by decide +kernel
theorem dX5_draftJoined_62 : decode cX5_draftJoined 62 = .ok (.iconst 0, 1) := by decide +kernel
theorem dX5_draftJoined_63 : decode cX5_draftJoined 63 = .ok (.istore_n 3, 1) := by decide +kernel
theorem dX5_draftJoined_64 : decode cX5_draftJoined 64 = .ok (.iinc 4 1, 3) := by decide +kernel
theorem dX5_draftJoined_67 : decode cX5_draftJoined 67 = .ok (.goto (-46), 3) := by decide +kernel
theorem dX5_draftJoined_70 : decode cX5_draftJoined 70 = .ok (.iconst 0, 1) := by decide +kernel
theorem dX5_draftJoined_71 : decode cX5_draftJoined 71 = .ok (.istore 4, 2) := by decide +kernel
theorem dX5_draftJoined_73 : decode cX5_draftJoined 73 = .ok (.iload 4, 2) := by decide +kernel
theorem dX5_draftJoined_75 : decode cX5_draftJoined 75 = .ok (.aload_n 2, 1) := by decide +kernel
theorem dX5_draftJoined_76 : decode cX5_draftJoined 76 = .ok (.invokevirtual 123, 3) := by decide +kernel
theorem dX5_draftJoined_79 : decode cX5_draftJoined 79 = .ok (.if_icmp .ge 74, 3) := by decide +kernel
theorem dX5_draftJoined_82 : decode cX5_draftJoined 82 = .ok (.aload_n 2, 1) := by decide +kernel
theorem dX5_draftJoined_83 : decode cX5_draftJoined 83 = .ok (.iload 4, 2) := by decide +kernel
theorem dX5_draftJoined_85 : decode cX5_draftJoined 85 = .ok (.invokevirtual 286, 3) := by decide +kernel
theorem dX5_draftJoined_88 : decode cX5_draftJoined 88 = .ok (.istore 5, 2) := by decide +kernel
theorem dX5_draftJoined_90 : decode cX5_draftJoined 90 = .ok (.aload_n 1, 1) := by decide +kernel
theorem dX5_draftJoined_91 : decode cX5_draftJoined 91 = .ok (.iload 5, 2) := by decide +kernel
theorem dX5_draftJoined_93 : decode cX5_draftJoined 93 = .ok (.invokevirtual 109, 3) := by decide +kernel
theorem dX5_draftJoined_96 : decode cX5_draftJoined 96 = .ok (.iconst (-1), 1) := by decide +kernel
theorem dX5_draftJoined_97 : decode cX5_draftJoined 97 = .ok (.if_icmp .ne 50, 3) := by decide +kernel
theorem dX5_draftJoined_100 : decode cX5_draftJoined 100 = .ok (.aload_n 1, 1) := by decide +kernel
theorem dX5_draftJoined_101 : decode cX5_draftJoined 101 = .ok (.invokevirtual 130, 3) := by decide +kernel
theorem dX5_draftJoined_104 : decode cX5_draftJoined 104 = .ok (.aload_n 2, 1) := by decide +kernel
theorem dX5_draftJoined_105 : decode cX5_draftJoined 105 = .ok (.iload 5, 2) := by decide +kernel
theorem dX5_draftJoined_107 : decode cX5_draftJoined 107 = .ok (.iconst 0, 1) := by decide +kernel
theorem dX5_draftJoined_108 : decode cX5_draftJoined 108 = .ok (.invokevirtual 289, 3) := by decide +kernel
theorem dX5_draftJoined_111 : decode cX5_draftJoined 111 = .ok (.iadd, 1) := by decide +kernel
theorem dX5_draftJoined_112 : decode cX5_draftJoined 112 = .ok (.istore 6, 2) := by decide +kernel
theorem dX5_draftJoined_114 : decode cX5_draftJoined 114 = .ok (.aload_n 0, 1) := by decide +kernel
theorem dX5_draftJoined_115 : decode cX5_draftJoined 115 = .ok (.iload 5, 2) := by decide +kernel
theorem dX5_draftJoined_117 : decode cX5_draftJoined 117 = .ok (.iload 6, 2) := by decide +kernel
theorem dX5_draftJoined_119 : decode cX5_draftJoined 119 = .ok (.aload_n 0, 1) := by decide +kernel
theorem dX5_draftJoined_120 : decode cX5_draftJoined 120 = .ok (.getfield 10, 3) := by decide +kernel
theorem dX5_draftJoined_123 : decode cX5_draftJoined 123 = .ok (.iload 5, 2) := by decide +kernel
theorem dX5_draftJoined_125 : decode cX5_draftJoined 125 = .ok (.invokevirtual 68, 3) := by decide +kernel
theorem dX5_draftJoined_128 : decode cX5_draftJoined 128 = .ok (.invokestatic 304, 3) := by decide +kernel
theorem dX5_draftJoined_131 : decode cX5_draftJoined 131 = .ok (.invokevirtual 301, 3) := by decide +kernel
theorem dX5_draftJoined_134 : decode cX5_draftJoined 134 = .ok (.ifCond .eq 11, 3) := by decide +kernel
theorem dX5_draftJoined_137 : decode cX5_draftJoined 137 = .ok (.iload_n 3, 1) := by decide +kernel
theorem dX5_draftJoined_138 : decode cX5_draftJoined 138 = .ok (.ifCond .eq 7, 3) := by decide +kernel
theorem dX5_draftJoined_141 : decode cX5_draftJoined 141 = .ok (.iconst 1, 1) := by decide +kernel
theorem dX5_draftJoined_142 : decode cX5_draftJoined 142 = .ok (.goto 4, 3) := by decide +kernel
theorem dX5_draftJoined_145 : decode cX5_draftJoined 145 = .ok (.iconst 0, 1) := by decide +kernel
theorem dX5_draftJoined_146 : decode cX5_draftJoined 146 = .ok (.istore_n 3, 1) := by decide +kernel
theorem dX5_draftJoined_147 : decode cX5_draftJoined 147 = .ok (.iinc 4 1, 3) := by decide +kernel
theorem dX5_draftJoined_150 : decode cX5_draftJoined 150 = .ok (.goto (-77), 3) := by decide +kernel
theorem dX5_draftJoined_153 : decode cX5_draftJoined 153 = .ok (.iload_n 3, 1) := by decide +kernel
theorem dX5_draftJoined_154 : decode cX5_draftJoined 154 = .ok (.ireturn, 1) := by decide +kernel
theorem dX5_draftLaid_0 : decode cX5_draftLaid 0 = .ok (.aload_n 0, 1) := by decide +kernel
theorem dX5_draftLaid_1 : decode cX5_draftLaid 1 = .ok (.getfield 10, 3) := by decide +kernel
theorem dX5_draftLaid_4 : decode cX5_draftLaid 4 = .ok (.iload_n 1, 1) := by decide +kernel
theorem dX5_draftLaid_5 : decode cX5_draftLaid 5 = .ok (.invokevirtual 68, 3) := by decide +kernel
theorem dX5_draftLaid_8 : decode cX5_draftLaid 8 = .ok (.istore_n 3, 1) := by decide +kernel
theorem dX5_draftLaid_9 : decode cX5_draftLaid 9 = .ok (.aload_n 0, 1) := by decide +kernel
theorem dX5_draftLaid_10 : decode cX5_draftLaid 10 = .ok (.getfield 36, 3) := by decide +kernel
theorem dX5_draftLaid_13 : decode cX5_draftLaid 13 = .ok (.iload_n 1, 1) := by decide +kernel
theorem dX5_draftLaid_14 : decode cX5_draftLaid 14 = .ok (.iload_n 2, 1) := by decide +kernel
theorem dX5_draftLaid_15 : decode cX5_draftLaid 15 = .ok (.iload_n 3, 1) := by decide +kernel
theorem dX5_draftLaid_16 : decode cX5_draftLaid 16 = .ok (.invokevirtual 99, 3) := by decide +kernel
theorem dX5_draftLaid_19 : decode cX5_draftLaid 19 = .ok (.ifCond .eq 5, 3) := by decide +kernel
theorem dX5_draftLaid_22 : decode cX5_draftLaid 22 = .ok (.iconst 0, 1) := by decide +kernel
theorem dX5_draftLaid_23 : decode cX5_draftLaid 23 = .ok (.ireturn, 1) := by decide +kernel
theorem dX5_draftLaid_24 : decode cX5_draftLaid 24 = .ok (.aload_n 0, 1) := by decide +kernel
theorem dX5_draftLaid_25 : decode cX5_draftLaid 25 = .ok (.getfield 36, 3) := by decide +kernel
theorem dX5_draftLaid_28 : decode cX5_draftLaid 28 = .ok (.iload_n 1, 1) := by decide +kernel
theorem dX5_draftLaid_29 : decode cX5_draftLaid 29 = .ok (.iload_n 2, 1) := by decide +kernel
theorem dX5_draftLaid_30 : decode cX5_draftLaid 30 = .ok (.iload_n 3, 1) := by decide +kernel
theorem dX5_draftLaid_31 : decode cX5_draftLaid 31 = .ok (.invokevirtual 292, 3) := by decide +kernel
theorem dX5_draftLaid_34 : decode cX5_draftLaid 34 = .ok (.pop, 1) := by decide +kernel
theorem dX5_draftLaid_35 : decode cX5_draftLaid 35 = .ok (.iconst 1, 1) := by decide +kernel
theorem dX5_draftLaid_36 : decode cX5_draftLaid 36 = .ok (.ireturn, 1) := by decide +kernel
theorem dX5_reasonAgainstJoining_0 : decode cX5_reasonAgainstJoining 0 = .ok (.aload_n 1, 1) := by decide +kernel
theorem dX5_reasonAgainstJoining_1 : decode cX5_reasonAgainstJoining 1 = .ok (.invokevirtual 130, 3) := by decide +kernel
theorem dX5_reasonAgainstJoining_4 : decode cX5_reasonAgainstJoining 4 = .ok (.aload_n 2, 1) := by decide +kernel
theorem dX5_reasonAgainstJoining_5 : decode cX5_reasonAgainstJoining 5 = .ok (.invokevirtual 130, 3) := by decide +kernel
theorem dX5_reasonAgainstJoining_8 : decode cX5_reasonAgainstJoining 8 = .ok (.iadd, 1) := by decide +kernel
theorem dX5_reasonAgainstJoining_9 : decode cX5_reasonAgainstJoining 9 = .ok (.bipush 60, 2) := by decide +kernel
theorem dX5_reasonAgainstJoining_11 : decode cX5_reasonAgainstJoining 11 = .ok (.if_icmp .le 5, 3) := by decide +kernel
theorem dX5_reasonAgainstJoining_14 : decode cX5_reasonAgainstJoining 14 = .ok (.iconst 2, 1) := by decide +kernel
theorem dX5_reasonAgainstJoining_15 : decode cX5_reasonAgainstJoining 15 = .ok (.ireturn, 1) := by decide +kernel
theorem dX5_reasonAgainstJoining_16 : decode cX5_reasonAgainstJoining 16 = .ok (.iconst 0, 1) := by decide +kernel
theorem dX5_reasonAgainstJoining_17 : decode cX5_reasonAgainstJoining 17 = .ok (.istore_n 3, 1) := by decide +kernel
theorem dX5_reasonAgainstJoining_18 : decode cX5_reasonAgainstJoining 18 = .ok (.iload_n 3, 1) := by decide +kernel
theorem dX5_reasonAgainstJoining_19 : decode cX5_reasonAgainstJoining 19 = .ok (.aload_n 1, 1) := by decide +kernel
theorem dX5_reasonAgainstJoining_20 : decode cX5_reasonAgainstJoining 20 = .ok (.invokevirtual 123, 3) := by decide +kernel
theorem dX5_reasonAgainstJoining_23 : decode cX5_reasonAgainstJoining 23 = .ok (.if_icmp .ge 63, 3) := by decide +kernel
theorem dX5_reasonAgainstJoining_26 : decode cX5_reasonAgainstJoining 26 = .ok (.aload_n 1, 1) := by decide +kernel
theorem dX5_reasonAgainstJoining_27 : decode cX5_reasonAgainstJoining 27 = .ok (.iload_n 3, 1) := by decide +kernel
theorem dX5_reasonAgainstJoining_28 : decode cX5_reasonAgainstJoining 28 = .ok (.invokevirtual 286, 3) := by decide +kernel
theorem dX5_reasonAgainstJoining_31 : decode cX5_reasonAgainstJoining 31 = .ok (.istore 4, 2) := by decide +kernel
theorem dX5_reasonAgainstJoining_33 : decode cX5_reasonAgainstJoining 33 = .ok (.aload_n 1, 1) := by decide +kernel
theorem dX5_reasonAgainstJoining_34 : decode cX5_reasonAgainstJoining 34 = .ok (.iload 4, 2) := by decide +kernel
theorem dX5_reasonAgainstJoining_36 : decode cX5_reasonAgainstJoining 36 = .ok (.invokevirtual 295, 3) := by decide +kernel
theorem dX5_reasonAgainstJoining_39 : decode cX5_reasonAgainstJoining 39 = .ok (.aload_n 0, 1) := by decide +kernel
theorem dX5_reasonAgainstJoining_40 : decode cX5_reasonAgainstJoining 40 = .ok (.getfield 10, 3) := by decide +kernel
theorem dX5_reasonAgainstJoining_43 : decode cX5_reasonAgainstJoining 43 = .ok (.iload 4, 2) := by decide +kernel
theorem dX5_reasonAgainstJoining_45 : decode cX5_reasonAgainstJoining 45 = .ok (.invokevirtual 68, 3) := by decide +kernel
theorem dX5_reasonAgainstJoining_48 : decode cX5_reasonAgainstJoining 48 = .ok (.iadd, 1) := by decide +kernel
theorem dX5_reasonAgainstJoining_49 : decode cX5_reasonAgainstJoining 49 = .ok (.istore 5, 2) := by decide +kernel
theorem dX5_reasonAgainstJoining_51 : decode cX5_reasonAgainstJoining 51 = .ok (.aload_n 2, 1) := by decide +kernel
theorem dX5_reasonAgainstJoining_52 : decode cX5_reasonAgainstJoining 52 = .ok (.iload 4, 2) := by decide +kernel
theorem dX5_reasonAgainstJoining_54 : decode cX5_reasonAgainstJoining 54 = .ok (.invokevirtual 109, 3) := by decide +kernel
theorem dX5_reasonAgainstJoining_57 : decode cX5_reasonAgainstJoining 57 = .ok (.iconst (-1), 1) := by decide +kernel
theorem dX5_reasonAgainstJoining_58 : decode cX5_reasonAgainstJoining 58 = .ok (.if_icmp .eq 22, 3) := by decide +kernel
theorem dX5_reasonAgainstJoining_61 : decode cX5_reasonAgainstJoining 61 = .ok (.iload 5, 2) := by decide +kernel
theorem dX5_reasonAgainstJoining_63 : decode cX5_reasonAgainstJoining 63 = .ok (.aload_n 1, 1) := by decide +kernel
theorem dX5_reasonAgainstJoining_64 : decode cX5_reasonAgainstJoining 64 = .ok (.invokevirtual 130, 3) := by decide +kernel
theorem dX5_reasonAgainstJoining_67 : decode cX5_reasonAgainstJoining 67 = .ok (.aload_n 2, 1) := by decide +kernel
theorem dX5_reasonAgainstJoining_68 : decode cX5_reasonAgainstJoining 68 = .ok (.iload 4, 2) := by decide +kernel
theorem dX5_reasonAgainstJoining_70 : decode cX5_reasonAgainstJoining 70 = .ok (.iconst 0, 1) := by decide +kernel
theorem dX5_reasonAgainstJoining_71 : decode cX5_reasonAgainstJoining 71 = .ok (.invokevirtual 289, 3) := by decide +kernel
theorem dX5_reasonAgainstJoining_74 : decode cX5_reasonAgainstJoining 74 = .ok (.iadd, 1) := by decide +kernel
theorem dX5_reasonAgainstJoining_75 : decode cX5_reasonAgainstJoining 75 = .ok (.if_icmp .eq 5, 3) := by decide +kernel
theorem dX5_reasonAgainstJoining_78 : decode cX5_reasonAgainstJoining 78 = .ok (.iconst 3, 1) := by decide +kernel
theorem dX5_reasonAgainstJoining_79 : decode cX5_reasonAgainstJoining 79 = .ok (.ireturn, 1) := by decide +kernel
theorem dX5_reasonAgainstJoining_80 : decode cX5_reasonAgainstJoining 80 = .ok (.iinc 3 1, 3) := by decide +kernel
theorem dX5_reasonAgainstJoining_83 : decode cX5_reasonAgainstJoining 83 = .ok (.goto (-65), 3) := by decide +kernel
theorem dX5_reasonAgainstJoining_86 : decode cX5_reasonAgainstJoining 86 = .ok (.aload_n 0, 1) := by decide +kernel
theorem dX5_reasonAgainstJoining_87 : decode cX5_reasonAgainstJoining 87 = .ok (.aload_n 1, 1) := by decide +kernel
theorem dX5_reasonAgainstJoining_88 : decode cX5_reasonAgainstJoining 88 = .ok (.aload_n 2, 1) := by decide +kernel
theorem dX5_reasonAgainstJoining_89 : decode cX5_reasonAgainstJoining 89 = .ok (.invokevirtual 151, 3) := by decide +kernel
theorem dX5_reasonAgainstJoining_92 : decode cX5_reasonAgainstJoining 92 = .ok (.ifCond .eq 7, 3) := by decide +kernel
theorem dX5_reasonAgainstJoining_95 : decode cX5_reasonAgainstJoining 95 = .ok (.iconst 0, 1) := by decide +kernel
theorem dX5_reasonAgainstJoining_96 : decode cX5_reasonAgainstJoining 96 = .ok (.goto 4, 3) := by decide +kernel
theorem dX5_reasonAgainstJoining_99 : decode cX5_reasonAgainstJoining 99 = .ok (.iconst 4, 1) := by decide +kernel
theorem dX5_reasonAgainstJoining_100 : decode cX5_reasonAgainstJoining 100 = .ok (.ireturn, 1) := by decide +kernel
theorem dX5_greatestLength_0 : decode cX5_greatestLength 0 = .ok (.aload_n 1, 1) := by decide +kernel
theorem dX5_greatestLength_1 : decode cX5_greatestLength 1 = .ok (.invokevirtual 130, 3) := by decide +kernel
theorem dX5_greatestLength_4 : decode cX5_greatestLength 4 = .ok (.istore_n 2, 1) := by decide +kernel
theorem dX5_greatestLength_5 : decode cX5_greatestLength 5 = .ok (.iload_n 2, 1) := by decide +kernel
theorem dX5_greatestLength_6 : decode cX5_greatestLength 6 = .ok (.bipush 60, 2) := by decide +kernel
theorem dX5_greatestLength_8 : decode cX5_greatestLength 8 = .ok (.if_icmp .ge 21, 3) := by decide +kernel
theorem dX5_greatestLength_11 : decode cX5_greatestLength 11 = .ok (.aload_n 0, 1) := by decide +kernel
theorem dX5_greatestLength_12 : decode cX5_greatestLength 12 = .ok (.aload_n 1, 1) := by decide +kernel
theorem dX5_greatestLength_13 : decode cX5_greatestLength 13 = .ok (.iload_n 2, 1) := by decide +kernel
theorem dX5_greatestLength_14 : decode cX5_greatestLength 14 = .ok (.invokevirtual 314, 3) := by decide +kernel
theorem dX5_greatestLength_17 : decode cX5_greatestLength 17 = .ok (.iconst 1, 1) := by decide +kernel
theorem dX5_greatestLength_18 : decode cX5_greatestLength 18 = .ok (.if_icmp .le 5, 3) := by decide +kernel
theorem dX5_greatestLength_21 : decode cX5_greatestLength 21 = .ok (.iload_n 2, 1) := by decide +kernel
theorem dX5_greatestLength_22 : decode cX5_greatestLength 22 = .ok (.ireturn, 1) := by decide +kernel
theorem dX5_greatestLength_23 : decode cX5_greatestLength 23 = .ok (.iinc 2 1, 3) := by decide +kernel
theorem dX5_greatestLength_26 : decode cX5_greatestLength 26 = .ok (.goto (-21), 3) := by decide +kernel
theorem dX5_greatestLength_29 : decode cX5_greatestLength 29 = .ok (.bipush 60, 2) := by decide +kernel
theorem dX5_greatestLength_31 : decode cX5_greatestLength 31 = .ok (.ireturn, 1) := by decide +kernel
theorem dX5_huesDueAt_0 : decode cX5_huesDueAt 0 = .ok (.iconst 0, 1) := by decide +kernel
theorem dX5_huesDueAt_1 : decode cX5_huesDueAt 1 = .ok (.istore_n 3, 1) := by decide +kernel
theorem dX5_huesDueAt_2 : decode cX5_huesDueAt 2 = .ok (.iconst 0, 1) := by decide +kernel
theorem dX5_huesDueAt_3 : decode cX5_huesDueAt 3 = .ok (.istore 4, 2) := by decide +kernel
theorem dX5_huesDueAt_5 : decode cX5_huesDueAt 5 = .ok (.iload 4, 2) := by decide +kernel
theorem dX5_huesDueAt_7 : decode cX5_huesDueAt 7 = .ok (.aload_n 1, 1) := by decide +kernel
theorem dX5_huesDueAt_8 : decode cX5_huesDueAt 8 = .ok (.invokevirtual 123, 3) := by decide +kernel
theorem dX5_huesDueAt_11 : decode cX5_huesDueAt 11 = .ok (.if_icmp .ge 44, 3) := by decide +kernel
theorem dX5_huesDueAt_14 : decode cX5_huesDueAt 14 = .ok (.aload_n 1, 1) := by decide +kernel
theorem dX5_huesDueAt_15 : decode cX5_huesDueAt 15 = .ok (.iload 4, 2) := by decide +kernel
theorem dX5_huesDueAt_17 : decode cX5_huesDueAt 17 = .ok (.invokevirtual 286, 3) := by decide +kernel
theorem dX5_huesDueAt_20 : decode cX5_huesDueAt 20 = .ok (.istore 5, 2) := by decide +kernel
theorem dX5_huesDueAt_22 : decode cX5_huesDueAt 22 = .ok (.iload_n 2, 1) := by decide +kernel
theorem dX5_huesDueAt_23 : decode cX5_huesDueAt 23 = .ok (.aload_n 1, 1) := by decide +kernel
theorem dX5_huesDueAt_24 : decode cX5_huesDueAt 24 = .ok (.iload 5, 2) := by decide +kernel
theorem dX5_huesDueAt_26 : decode cX5_huesDueAt 26 = .ok (.iconst 0, 1) := by decide +kernel
theorem dX5_huesDueAt_27 : decode cX5_huesDueAt 27 = .ok (.invokevirtual 289, 3) := by decide +kernel
theorem dX5_huesDueAt_30 : decode cX5_huesDueAt 30 = .ok (.isub, 1) := by decide +kernel
theorem dX5_huesDueAt_31 : decode cX5_huesDueAt 31 = .ok (.aload_n 0, 1) := by decide +kernel
theorem dX5_huesDueAt_32 : decode cX5_huesDueAt 32 = .ok (.getfield 10, 3) := by decide +kernel
theorem dX5_huesDueAt_35 : decode cX5_huesDueAt 35 = .ok (.iload 5, 2) := by decide +kernel
theorem dX5_huesDueAt_37 : decode cX5_huesDueAt 37 = .ok (.invokevirtual 68, 3) := by decide +kernel
theorem dX5_huesDueAt_40 : decode cX5_huesDueAt 40 = .ok (.invokestatic 304, 3) := by decide +kernel
theorem dX5_huesDueAt_43 : decode cX5_huesDueAt 43 = .ok (.ifCond .ne 6, 3) := by decide +kernel
theorem dX5_huesDueAt_46 : decode cX5_huesDueAt 46 = .ok (.iinc 3 1, 3) := by decide +kernel
theorem dX5_huesDueAt_49 : decode cX5_huesDueAt 49 = .ok (.iinc 4 1, 3) := by decide +kernel
theorem dX5_huesDueAt_52 : decode cX5_huesDueAt 52 = .ok (.goto (-47), 3) := by decide +kernel
theorem dX5_huesDueAt_55 : decode cX5_huesDueAt 55 = .ok (.iload_n 3, 1) := by decide +kernel
theorem dX5_huesDueAt_56 : decode cX5_huesDueAt 56 = .ok (.ireturn, 1) := by decide +kernel
theorem dX5_period_0 : decode cX5_period 0 = .ok (.iconst 1, 1) := by decide +kernel
theorem dX5_period_1 : decode cX5_period 1 = .ok (.istore_n 2, 1) := by decide +kernel
theorem dX5_period_2 : decode cX5_period 2 = .ok (.iconst 0, 1) := by decide +kernel
theorem dX5_period_3 : decode cX5_period 3 = .ok (.istore_n 3, 1) := by decide +kernel
theorem dX5_period_4 : decode cX5_period 4 = .ok (.iload_n 3, 1) := by decide +kernel
theorem dX5_period_5 : decode cX5_period 5 = .ok (.aload_n 1, 1) := by decide +kernel
theorem dX5_period_6 : decode cX5_period 6 = .ok (.invokevirtual 123, 3) := by decide +kernel
theorem dX5_period_9 : decode cX5_period 9 = .ok (.if_icmp .ge 26, 3) := by decide +kernel
theorem dX5_period_12 : decode cX5_period 12 = .ok (.iload_n 2, 1) := by decide +kernel
theorem dX5_period_13 : decode cX5_period 13 = .ok (.aload_n 0, 1) := by decide +kernel
theorem dX5_period_14 : decode cX5_period 14 = .ok (.getfield 10, 3) := by decide +kernel
theorem dX5_period_17 : decode cX5_period 17 = .ok (.aload_n 1, 1) := by decide +kernel
theorem dX5_period_18 : decode cX5_period 18 = .ok (.iload_n 3, 1) := by decide +kernel
theorem dX5_period_19 : decode cX5_period 19 = .ok (.invokevirtual 286, 3) := by decide +kernel
theorem dX5_period_22 : decode cX5_period 22 = .ok (.invokevirtual 68, 3) := by decide +kernel
theorem dX5_period_25 : decode cX5_period 25 = .ok (.invokestatic 323, 3) := by decide +kernel
theorem dX5_period_28 : decode cX5_period 28 = .ok (.istore_n 2, 1) := by decide +kernel
theorem dX5_period_29 : decode cX5_period 29 = .ok (.iinc 3 1, 3) := by decide +kernel
theorem dX5_period_32 : decode cX5_period 32 = .ok (.goto (-28), 3) := by decide +kernel
theorem dX5_period_35 : decode cX5_period 35 = .ok (.iload_n 2, 1) := by decide +kernel
theorem dX5_period_36 : decode cX5_period 36 = .ok (.ireturn, 1) := by decide +kernel
theorem dX5_ropeNumber_0 : decode cX5_ropeNumber 0 = .ok (.iload_n 2, 1) := by decide +kernel
theorem dX5_ropeNumber_1 : decode cX5_ropeNumber 1 = .ok (.tableswitch 63 0 4 #[35, 40, 45, 51, 58], 35) := by decide +kernel
theorem dX5_ropeNumber_36 : decode cX5_ropeNumber 36 = .ok (.aload_n 1, 1) := by decide +kernel
theorem dX5_ropeNumber_37 : decode cX5_ropeNumber 37 = .ok (.invokevirtual 130, 3) := by decide +kernel
theorem dX5_ropeNumber_40 : decode cX5_ropeNumber 40 = .ok (.ireturn, 1) := by decide +kernel
theorem dX5_ropeNumber_41 : decode cX5_ropeNumber 41 = .ok (.aload_n 1, 1) := by decide +kernel
theorem dX5_ropeNumber_42 : decode cX5_ropeNumber 42 = .ok (.invokevirtual 123, 3) := by decide +kernel
theorem dX5_ropeNumber_45 : decode cX5_ropeNumber 45 = .ok (.ireturn, 1) := by decide +kernel
theorem dX5_ropeNumber_46 : decode cX5_ropeNumber 46 = .ok (.aload_n 1, 1) := by decide +kernel
theorem dX5_ropeNumber_47 : decode cX5_ropeNumber 47 = .ok (.iconst (-1), 1) := by decide +kernel
theorem dX5_ropeNumber_48 : decode cX5_ropeNumber 48 = .ok (.invokevirtual 326, 3) := by decide +kernel
theorem dX5_ropeNumber_51 : decode cX5_ropeNumber 51 = .ok (.ireturn, 1) := by decide +kernel
theorem dX5_ropeNumber_52 : decode cX5_ropeNumber 52 = .ok (.aload_n 1, 1) := by decide +kernel
theorem dX5_ropeNumber_53 : decode cX5_ropeNumber 53 = .ok (.iconst (-1), 1) := by decide +kernel
theorem dX5_ropeNumber_54 : decode cX5_ropeNumber 54 = .ok (.iconst 0, 1) := by decide +kernel
theorem dX5_ropeNumber_55 : decode cX5_ropeNumber 55 = .ok (.invokevirtual 289, 3) := by decide +kernel
theorem dX5_ropeNumber_58 : decode cX5_ropeNumber 58 = .ok (.ireturn, 1) := by decide +kernel
theorem dX5_ropeNumber_59 : decode cX5_ropeNumber 59 = .ok (.aload_n 1, 1) := by decide +kernel
theorem dX5_ropeNumber_60 : decode cX5_ropeNumber 60 = .ok (.invokevirtual 329, 3) := by decide +kernel
theorem dX5_ropeNumber_63 : decode cX5_ropeNumber 63 = .ok (.ireturn, 1) := by decide +kernel
theorem dX5_ropeNumber_64 : decode cX5_ropeNumber 64 = .ok (.aload_n 0, 1) := by decide +kernel
theorem dX5_ropeNumber_65 : decode cX5_ropeNumber 65 = .ok (.aload_n 1, 1) := by decide +kernel
theorem dX5_ropeNumber_66 : decode cX5_ropeNumber 66 = .ok (.invokevirtual 332, 3) := by decide +kernel
theorem dX5_ropeNumber_69 : decode cX5_ropeNumber 69 = .ok (.ireturn, 1) := by decide +kernel
theorem dX5_counted_0 : decode cX5_counted 0 = .ok (.iload_n 1, 1) := by decide +kernel
theorem dX5_counted_1 : decode cX5_counted 1 = .ok (.tableswitch 99 0 6 #[43, 51, 59, 67, 75, 83, 91], 43) := by decide +kernel
theorem dX5_counted_44 : decode cX5_counted 44 = .ok (.aload_n 0, 1) := by decide +kernel
theorem dX5_counted_45 : decode cX5_counted 45 = .ok (.getfield 10, 3) := by decide +kernel
theorem dX5_counted_48 : decode cX5_counted 48 = .ok (.invokevirtual 86, 3) := by decide +kernel
theorem dX5_counted_51 : decode cX5_counted 51 = .ok (.ireturn, 1) := by decide +kernel
theorem dX5_counted_52 : decode cX5_counted 52 = .ok (.aload_n 0, 1) := by decide +kernel
theorem dX5_counted_53 : decode cX5_counted 53 = .ok (.getfield 10, 3) := by decide +kernel
theorem dX5_counted_56 : decode cX5_counted 56 = .ok (.invokevirtual 241, 3) := by decide +kernel
theorem dX5_counted_59 : decode cX5_counted 59 = .ok (.ireturn, 1) := by decide +kernel
theorem dX5_counted_60 : decode cX5_counted 60 = .ok (.aload_n 0, 1) := by decide +kernel
theorem dX5_counted_61 : decode cX5_counted 61 = .ok (.getfield 10, 3) := by decide +kernel
theorem dX5_counted_64 : decode cX5_counted 64 = .ok (.invokevirtual 244, 3) := by decide +kernel
theorem dX5_counted_67 : decode cX5_counted 67 = .ok (.ireturn, 1) := by decide +kernel
theorem dX5_counted_68 : decode cX5_counted 68 = .ok (.aload_n 0, 1) := by decide +kernel
theorem dX5_counted_69 : decode cX5_counted 69 = .ok (.getfield 10, 3) := by decide +kernel
theorem dX5_counted_72 : decode cX5_counted 72 = .ok (.invokevirtual 335, 3) := by decide +kernel
theorem dX5_counted_75 : decode cX5_counted 75 = .ok (.ireturn, 1) := by decide +kernel
theorem dX5_counted_76 : decode cX5_counted 76 = .ok (.aload_n 0, 1) := by decide +kernel
theorem dX5_counted_77 : decode cX5_counted 77 = .ok (.getfield 10, 3) := by decide +kernel
theorem dX5_counted_80 : decode cX5_counted 80 = .ok (.invokevirtual 338, 3) := by decide +kernel
theorem dX5_counted_83 : decode cX5_counted 83 = .ok (.ireturn, 1) := by decide +kernel
theorem dX5_counted_84 : decode cX5_counted 84 = .ok (.aload_n 0, 1) := by decide +kernel
theorem dX5_counted_85 : decode cX5_counted 85 = .ok (.getfield 10, 3) := by decide +kernel
theorem dX5_counted_88 : decode cX5_counted 88 = .ok (.invokevirtual 341, 3) := by decide +kernel
theorem dX5_counted_91 : decode cX5_counted 91 = .ok (.ireturn, 1) := by decide +kernel
theorem dX5_counted_92 : decode cX5_counted 92 = .ok (.aload_n 0, 1) := by decide +kernel
theorem dX5_counted_93 : decode cX5_counted 93 = .ok (.getfield 10, 3) := by decide +kernel
theorem dX5_counted_96 : decode cX5_counted 96 = .ok (.invokevirtual 344, 3) := by decide +kernel
theorem dX5_counted_99 : decode cX5_counted 99 = .ok (.ireturn, 1) := by decide +kernel
theorem dX5_counted_100 : decode cX5_counted 100 = .ok (.aload_n 0, 1) := by decide +kernel
theorem dX5_counted_101 : decode cX5_counted 101 = .ok (.getfield 22, 3) := by decide +kernel
theorem dX5_counted_104 : decode cX5_counted 104 = .ok (.invokevirtual 192, 3) := by decide +kernel
theorem dX5_counted_107 : decode cX5_counted 107 = .ok (.ireturn, 1) := by decide +kernel
