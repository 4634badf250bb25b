theorem dX6_init_0 : decode cX6_init 0 = .ok (.aload_n 0, 1) := by decide +kernel
theorem dX6_init_1 : decode cX6_init 1 = .ok (.invokespecial 1, 3) := by decide +kernel
theorem dX6_init_4 : decode cX6_init 4 = .ok (.aload_n 0, 1) := by decide +kernel
theorem dX6_init_5 : decode cX6_init 5 = .ok (.bipush 84, 2) := by decide +kernel
theorem dX6_init_7 : decode cX6_init 7 = .ok (.newarray .int, 2) := by decide +kernel
theorem dX6_init_9 : decode cX6_init 9 = .ok (.putfield 7, 3) := by decide +kernel
theorem dX6_init_12 : decode cX6_init 12 = .ok (.aload_n 0, 1) := by decide +kernel
theorem dX6_init_13 : decode cX6_init 13 = .ok (.bipush 84, 2) := by decide +kernel
theorem dX6_init_15 : decode cX6_init 15 = .ok (.newarray .int, 2) := by decide +kernel
theorem dX6_init_17 : decode cX6_init 17 = .ok (.putfield 13, 3) := by decide +kernel
theorem dX6_init_20 : decode cX6_init 20 = .ok (.aload_n 0, 1) := by decide +kernel
theorem dX6_init_21 : decode cX6_init 21 = .ok (.bipush 84, 2) := by decide +kernel
theorem dX6_init_23 : decode cX6_init 23 = .ok (.newarray .int, 2) := by decide +kernel
theorem dX6_init_25 : decode cX6_init 25 = .ok (.putfield 16, 3) := by decide +kernel
theorem dX6_init_28 : decode cX6_init 28 = .ok (.aload_n 0, 1) := by decide +kernel
theorem dX6_init_29 : decode cX6_init 29 = .ok (.sipush 504, 3) := by decide +kernel
theorem dX6_init_32 : decode cX6_init 32 = .ok (.newarray .int, 2) := by decide +kernel
theorem dX6_init_34 : decode cX6_init 34 = .ok (.putfield 19, 3) := by decide +kernel
theorem dX6_init_37 : decode cX6_init 37 = .ok (.aload_n 0, 1) := by decide +kernel
theorem dX6_init_38 : decode cX6_init 38 = .ok (.bipush 60, 2) := by decide +kernel
theorem dX6_init_40 : decode cX6_init 40 = .ok (.newarray .int, 2) := by decide +kernel
theorem dX6_init_42 : decode cX6_init 42 = .ok (.putfield 22, 3) := by decide +kernel
theorem dX6_init_45 : decode cX6_init 45 = .ok (.aload_n 0, 1) := by decide +kernel
theorem dX6_init_46 : decode cX6_init 46 = .ok (.bipush 18, 2) := by decide +kernel
theorem dX6_init_48 : decode cX6_init 48 = .ok (.newarray .int, 2) := by decide +kernel
theorem dX6_init_50 : decode cX6_init 50 = .ok (.putfield 25, 3) := by decide +kernel
theorem dX6_init_53 : decode cX6_init 53 = .ok (.iconst 0, 1) := by decide +kernel
theorem dX6_init_54 : decode cX6_init 54 = .ok (.istore_n 1, 1) := by decide +kernel
theorem dX6_init_55 : decode cX6_init 55 = .ok (.iload_n 1, 1) := by decide +kernel
theorem dX6_init_56 : decode cX6_init 56 = .ok (.bipush 8, 2) := by decide +kernel
theorem dX6_init_58 : decode cX6_init 58 = .ok (.if_icmp .ge 20, 3) := by decide +kernel
theorem dX6_init_61 : decode cX6_init 61 = .ok (.aload_n 0, 1) := by decide +kernel
theorem dX6_init_62 : decode cX6_init 62 = .ok (.getfield 7, 3) := by decide +kernel
theorem dX6_init_65 : decode cX6_init 65 = .ok (.iconst 0, 1) := by decide +kernel
theorem dX6_init_66 : decode cX6_init 66 = .ok (.iload_n 1, 1) := by decide +kernel
theorem dX6_init_67 : decode cX6_init 67 = .ok (.iadd, 1) := by decide +kernel
theorem dX6_init_68 : decode cX6_init 68 = .ok (.iconst 2, 1) := by decide +kernel
theorem dX6_init_69 : decode cX6_init 69 = .ok (.iload_n 1, 1) := by decide +kernel
theorem dX6_init_70 : decode cX6_init 70 = .ok (.iadd, 1) := by decide +kernel
theorem dX6_init_71 : decode cX6_init 71 = .ok (.iastore, 1) := by decide +kernel
theorem dX6_init_72 : decode cX6_init 72 = .ok (.iinc 1 1, 3) := by decide +kernel
theorem dX6_init_75 : decode cX6_init 75 = .ok (.goto (-20), 3) := by decide +kernel
theorem dX6_init_78 : decode cX6_init 78 = .ok (.return_, 1) := by decide +kernel
theorem dX6_thrown_0 : decode cX6_thrown 0 = .ok (.aload_n 0, 1) := by decide +kernel
theorem dX6_thrown_1 : decode cX6_thrown 1 = .ok (.getfield 28, 3) := by decide +kernel
theorem dX6_thrown_4 : decode cX6_thrown 4 = .ok (.ireturn, 1) := by decide +kernel
theorem dX6_in_0 : decode cX6_in 0 = .ok (.iload_n 0, 1) := by decide +kernel
theorem dX6_in_1 : decode cX6_in 1 = .ok (.iload_n 1, 1) := by decide +kernel
theorem dX6_in_2 : decode cX6_in 2 = .ok (.if_icmp .lt 12, 3) := by decide +kernel
theorem dX6_in_5 : decode cX6_in 5 = .ok (.iload_n 0, 1) := by decide +kernel
theorem dX6_in_6 : decode cX6_in 6 = .ok (.iload_n 2, 1) := by decide +kernel
theorem dX6_in_7 : decode cX6_in 7 = .ok (.if_icmp .gt 7, 3) := by decide +kernel
theorem dX6_in_10 : decode cX6_in 10 = .ok (.iconst 1, 1) := by decide +kernel
theorem dX6_in_11 : decode cX6_in 11 = .ok (.goto 4, 3) := by decide +kernel
theorem dX6_in_14 : decode cX6_in 14 = .ok (.iconst 0, 1) := by decide +kernel
theorem dX6_in_15 : decode cX6_in 15 = .ok (.ireturn, 1) := by decide +kernel
theorem dX6_holds_0 : decode cX6_holds 0 = .ok (.aload_n 0, 1) := by decide +kernel
theorem dX6_holds_1 : decode cX6_holds 1 = .ok (.iload_n 1, 1) := by decide +kernel
theorem dX6_holds_2 : decode cX6_holds 2 = .ok (.putfield 28, 3) := by decide +kernel
theorem dX6_holds_5 : decode cX6_holds 5 = .ok (.iload_n 1, 1) := by decide +kernel
theorem dX6_holds_6 : decode cX6_holds 6 = .ok (.ifCond .ne 7, 3) := by decide +kernel
theorem dX6_holds_9 : decode cX6_holds 9 = .ok (.iconst 1, 1) := by decide +kernel
theorem dX6_holds_10 : decode cX6_holds 10 = .ok (.goto 4, 3) := by decide +kernel
theorem dX6_holds_13 : decode cX6_holds 13 = .ok (.iconst 0, 1) := by decide +kernel
theorem dX6_holds_14 : decode cX6_holds 14 = .ok (.ireturn, 1) := by decide +kernel
theorem dX6_isHue_0 : decode cX6_isHue 0 = .ok (.iload_n 0, 1) := by decide +kernel
theorem dX6_isHue_1 : decode cX6_isHue 1 = .ok (.iconst 0, 1) := by decide +kernel
theorem dX6_isHue_2 : decode cX6_isHue 2 = .ok (.bipush 7, 2) := by decide +kernel
theorem dX6_isHue_4 : decode cX6_isHue 4 = .ok (.invokestatic 32, 3) := by decide +kernel
theorem dX6_isHue_7 : decode cX6_isHue 7 = .ok (.ireturn, 1) := by decide +kernel
theorem dX6_isRope_0 : decode cX6_isRope 0 = .ok (.iload_n 1, 1) := by decide +kernel
theorem dX6_isRope_1 : decode cX6_isRope 1 = .ok (.iconst 0, 1) := by decide +kernel
theorem dX6_isRope_2 : decode cX6_isRope 2 = .ok (.aload_n 0, 1) := by decide +kernel
theorem dX6_isRope_3 : decode cX6_isRope 3 = .ok (.getfield 7, 3) := by decide +kernel
theorem dX6_isRope_6 : decode cX6_isRope 6 = .ok (.bipush 8, 2) := by decide +kernel
theorem dX6_isRope_8 : decode cX6_isRope 8 = .ok (.iaload, 1) := by decide +kernel
theorem dX6_isRope_9 : decode cX6_isRope 9 = .ok (.iconst 1, 1) := by decide +kernel
theorem dX6_isRope_10 : decode cX6_isRope 10 = .ok (.isub, 1) := by decide +kernel
theorem dX6_isRope_11 : decode cX6_isRope 11 = .ok (.invokestatic 32, 3) := by decide +kernel
theorem dX6_isRope_14 : decode cX6_isRope 14 = .ok (.ireturn, 1) := by decide +kernel
theorem dX6_isPhase_0 : decode cX6_isPhase 0 = .ok (.iload_n 2, 1) := by decide +kernel
theorem dX6_isPhase_1 : decode cX6_isPhase 1 = .ok (.iconst 0, 1) := by decide +kernel
theorem dX6_isPhase_2 : decode cX6_isPhase 2 = .ok (.aload_n 0, 1) := by decide +kernel
theorem dX6_isPhase_3 : decode cX6_isPhase 3 = .ok (.getfield 7, 3) := by decide +kernel
theorem dX6_isPhase_6 : decode cX6_isPhase 6 = .ok (.iconst 0, 1) := by decide +kernel
theorem dX6_isPhase_7 : decode cX6_isPhase 7 = .ok (.iload_n 1, 1) := by decide +kernel
theorem dX6_isPhase_8 : decode cX6_isPhase 8 = .ok (.iadd, 1) := by decide +kernel
theorem dX6_isPhase_9 : decode cX6_isPhase 9 = .ok (.iaload, 1) := by decide +kernel
theorem dX6_isPhase_10 : decode cX6_isPhase 10 = .ok (.iconst 1, 1) := by decide +kernel
theorem dX6_isPhase_11 : decode cX6_isPhase 11 = .ok (.isub, 1) := by decide +kernel
theorem dX6_isPhase_12 : decode cX6_isPhase 12 = .ok (.invokestatic 32, 3) := by decide +kernel
theorem dX6_isPhase_15 : decode cX6_isPhase 15 = .ok (.ireturn, 1) := by decide +kernel
theorem dX6_of_0 : decode cX6_of 0 = .ok (.bipush 12, 2) := by decide +kernel
theorem dX6_of_2 : decode cX6_of 2 = .ok (.bipush 18, 2) := by decide +kernel
theorem dX6_of_4 : decode cX6_of 4 = .ok (.iload_n 0, 1) := by decide +kernel
theorem dX6_of_5 : decode cX6_of 5 = .ok (.imul, 1) := by decide +kernel
theorem dX6_of_6 : decode cX6_of 6 = .ok (.iadd, 1) := by decide +kernel
theorem dX6_of_7 : decode cX6_of 7 = .ok (.iload_n 1, 1) := by decide +kernel
theorem dX6_of_8 : decode cX6_of 8 = .ok (.iadd, 1) := by decide +kernel
theorem dX6_of_9 : decode cX6_of 9 = .ok (.ireturn, 1) := by decide +kernel
theorem dX6_phaseOf_0 : decode cX6_phaseOf 0 = .ok (.aload_n 0, 1) := by decide +kernel
theorem dX6_phaseOf_1 : decode cX6_phaseOf 1 = .ok (.getfield 7, 3) := by decide +kernel
theorem dX6_phaseOf_4 : decode cX6_phaseOf 4 = .ok (.iload_n 1, 1) := by decide +kernel
theorem dX6_phaseOf_5 : decode cX6_phaseOf 5 = .ok (.bipush 10, 2) := by decide +kernel
theorem dX6_phaseOf_7 : decode cX6_phaseOf 7 = .ok (.iload_n 2, 1) := by decide +kernel
theorem dX6_phaseOf_8 : decode cX6_phaseOf 8 = .ok (.iadd, 1) := by decide +kernel
theorem dX6_phaseOf_9 : decode cX6_phaseOf 9 = .ok (.invokestatic 36, 3) := by decide +kernel
theorem dX6_phaseOf_12 : decode cX6_phaseOf 12 = .ok (.iaload, 1) := by decide +kernel
theorem dX6_phaseOf_13 : decode cX6_phaseOf 13 = .ok (.ireturn, 1) := by decide +kernel
theorem dX6_isLaid_0 : decode cX6_isLaid 0 = .ok (.aload_n 0, 1) := by decide +kernel
theorem dX6_isLaid_1 : decode cX6_isLaid 1 = .ok (.iload_n 1, 1) := by decide +kernel
theorem dX6_isLaid_2 : decode cX6_isLaid 2 = .ok (.iload_n 2, 1) := by decide +kernel
theorem dX6_isLaid_3 : decode cX6_isLaid 3 = .ok (.invokevirtual 40, 3) := by decide +kernel
theorem dX6_isLaid_6 : decode cX6_isLaid 6 = .ok (.ifCond .lt 7, 3) := by decide +kernel
theorem dX6_isLaid_9 : decode cX6_isLaid 9 = .ok (.iconst 1, 1) := by decide +kernel
theorem dX6_isLaid_10 : decode cX6_isLaid 10 = .ok (.goto 4, 3) := by decide +kernel
theorem dX6_isLaid_13 : decode cX6_isLaid 13 = .ok (.iconst 0, 1) := by decide +kernel
theorem dX6_isLaid_14 : decode cX6_isLaid 14 = .ok (.ireturn, 1) := by decide +kernel
theorem dX6_save_0 : decode cX6_save 0 = .ok (.aload_n 0, 1) := by decide +kernel
theorem dX6_save_1 : decode cX6_save 1 = .ok (.getfield 43, 3) := by decide +kernel
theorem dX6_save_4 : decode cX6_save 4 = .ok (.bipush 6, 2) := by decide +kernel
theorem dX6_save_6 : decode cX6_save 6 = .ok (.if_icmp .ne 43, 3) := by decide +kernel
theorem dX6_save_9 : decode cX6_save 9 = .ok (.iconst 0, 1) := by decide +kernel
theorem dX6_save_10 : decode cX6_save 10 = .ok (.istore_n 1, 1) := by decide +kernel
theorem dX6_save_11 : decode cX6_save 11 = .ok (.iload_n 1, 1) := by decide +kernel
theorem dX6_save_12 : decode cX6_save 12 = .ok (.sipush 420, 3) := by decide +kernel
theorem dX6_save_15 : decode cX6_save 15 = .ok (.if_icmp .ge 24, 3) := by decide +kernel
theorem dX6_save_18 : decode cX6_save 18 = .ok (.aload_n 0, 1) := by decide +kernel
theorem dX6_save_19 : decode cX6_save 19 = .ok (.getfield 19, 3) := by decide +kernel
theorem dX6_save_22 : decode cX6_save 22 = .ok (.iload_n 1, 1) := by decide +kernel
theorem dX6_save_23 : decode cX6_save 23 = .ok (.aload_n 0, 1) := by decide +kernel
theorem dX6_save_24 : decode cX6_save 24 = .ok (.getfield 19, 3) := by decide +kernel
theorem dX6_save_27 : decode cX6_save 27 = .ok (.bipush 84, 2) := by decide +kernel
theorem dX6_save_29 : decode cX6_save 29 = .ok (.iload_n 1, 1) := by decide +kernel
theorem dX6_save_30 : decode cX6_save 30 = .ok (.iadd, 1) := by decide +kernel
theorem dX6_save_31 : decode cX6_save 31 = .ok (.iaload, 1) := by decide +kernel
theorem dX6_save_32 : decode cX6_save 32 = .ok (.iastore, 1) := by decide +kernel
theorem dX6_save_33 : decode cX6_save 33 = .ok (.iinc 1 1, 3) := by decide +kernel
theorem dX6_save_36 : decode cX6_save 36 = .ok (.goto (-25), 3) := by decide +kernel
theorem dX6_save_39 : decode cX6_save 39 = .ok (.aload_n 0, 1) := by decide +kernel
theorem dX6_save_40 : decode cX6_save 40 = .ok (.dup, 1) := by decide +kernel
theorem dX6_save_41 : decode cX6_save 41 = .ok (.getfield 43, 3) := by decide +kernel
theorem dX6_save_44 : decode cX6_save 44 = .ok (.iconst 1, 1) := by decide +kernel
theorem dX6_save_45 : decode cX6_save 45 = .ok (.isub, 1) := by decide +kernel
theorem dX6_save_46 : decode cX6_save 46 = .ok (.putfield 43, 3) := by decide +kernel
theorem dX6_save_49 : decode cX6_save 49 = .ok (.iconst 0, 1) := by decide +kernel
theorem dX6_save_50 : decode cX6_save 50 = .ok (.istore_n 1, 1) := by decide +kernel
theorem dX6_save_51 : decode cX6_save 51 = .ok (.iload_n 1, 1) := by decide +kernel
theorem dX6_save_52 : decode cX6_save 52 = .ok (.bipush 84, 2) := by decide +kernel
theorem dX6_save_54 : decode cX6_save 54 = .ok (.if_icmp .ge 29, 3) := by decide +kernel
theorem dX6_save_57 : decode cX6_save 57 = .ok (.aload_n 0, 1) := by decide +kernel
theorem dX6_save_58 : decode cX6_save 58 = .ok (.getfield 19, 3) := by decide +kernel
theorem dX6_save_61 : decode cX6_save 61 = .ok (.bipush 84, 2) := by decide +kernel
theorem dX6_save_63 : decode cX6_save 63 = .ok (.aload_n 0, 1) := by decide +kernel
theorem dX6_save_64 : decode cX6_save 64 = .ok (.getfield 43, 3) := by decide +kernel
theorem dX6_save_67 : decode cX6_save 67 = .ok (.imul, 1) := by decide +kernel
theorem dX6_save_68 : decode cX6_save 68 = .ok (.iload_n 1, 1) := by decide +kernel
theorem dX6_save_69 : decode cX6_save 69 = .ok (.iadd, 1) := by decide +kernel
theorem dX6_save_70 : decode cX6_save 70 = .ok (.aload_n 0, 1) := by decide +kernel
theorem dX6_save_71 : decode cX6_save 71 = .ok (.getfield 7, 3) := by decide +kernel
theorem dX6_save_74 : decode cX6_save 74 = .ok (.iload_n 1, 1) := by decide +kernel
theorem dX6_save_75 : decode cX6_save 75 = .ok (.iaload, 1) := by decide +kernel
theorem dX6_save_76 : decode cX6_save 76 = .ok (.iastore, 1) := by decide +kernel
theorem dX6_save_77 : decode cX6_save 77 = .ok (.iinc 1 1, 3) := by decide +kernel
theorem dX6_save_80 : decode cX6_save 80 = .ok (.goto (-29), 3) := by decide +kernel
theorem dX6_save_83 : decode cX6_save 83 = .ok (.aload_n 0, 1) := by decide +kernel
theorem dX6_save_84 : decode cX6_save 84 = .ok (.dup, 1) := by decide +kernel
theorem dX6_save_85 : decode cX6_save 85 = .ok (.getfield 43, 3) := by decide +kernel
theorem dX6_save_88 : decode cX6_save 88 = .ok (.iconst 1, 1) := by decide +kernel
theorem dX6_save_89 : decode cX6_save 89 = .ok (.iadd, 1) := by decide +kernel
theorem dX6_save_90 : decode cX6_save 90 = .ok (.putfield 43, 3) := by decide +kernel
theorem dX6_save_93 : decode cX6_save 93 = .ok (.return_, 1) := by decide +kernel
theorem dX6_putAside_0 : decode cX6_putAside 0 = .ok (.iconst 0, 1) := by decide +kernel
theorem dX6_putAside_1 : decode cX6_putAside 1 = .ok (.istore_n 1, 1) := by decide +kernel
theorem dX6_putAside_2 : decode cX6_putAside 2 = .ok (.iload_n 1, 1) := by decide +kernel
theorem dX6_putAside_3 : decode cX6_putAside 3 = .ok (.bipush 84, 2) := by decide +kernel
theorem dX6_putAside_5 : decode cX6_putAside 5 = .ok (.if_icmp .ge 21, 3) := by decide +kernel
theorem dX6_putAside_8 : decode cX6_putAside 8 = .ok (.aload_n 0, 1) := by decide +kernel
theorem dX6_putAside_9 : decode cX6_putAside 9 = .ok (.getfield 13, 3) := by decide +kernel
theorem dX6_putAside_12 : decode cX6_putAside 12 = .ok (.iload_n 1, 1) := by decide +kernel
theorem dX6_putAside_13 : decode cX6_putAside 13 = .ok (.aload_n 0, 1) := by decide +kernel
theorem dX6_putAside_14 : decode cX6_putAside 14 = .ok (.getfield 7, 3) := by decide +kernel
theorem dX6_putAside_17 : decode cX6_putAside 17 = .ok (.iload_n 1, 1) := by decide +kernel
theorem dX6_putAside_18 : decode cX6_putAside 18 = .ok (.iaload, 1) := by decide +kernel
theorem dX6_putAside_19 : decode cX6_putAside 19 = .ok (.iastore, 1) := by decide +kernel
theorem dX6_putAside_20 : decode cX6_putAside 20 = .ok (.iinc 1 1, 3) := by decide +kernel
theorem dX6_putAside_23 : decode cX6_putAside 23 = .ok (.goto (-21), 3) := by decide +kernel
theorem dX6_putAside_26 : decode cX6_putAside 26 = .ok (.return_, 1) := by decide +kernel
theorem dX6_putBack_0 : decode cX6_putBack 0 = .ok (.iconst 0, 1) := by decide +kernel
theorem dX6_putBack_1 : decode cX6_putBack 1 = .ok (.istore_n 1, 1) := by decide +kernel
theorem dX6_putBack_2 : decode cX6_putBack 2 = .ok (.iload_n 1, 1) := by decide +kernel
theorem dX6_putBack_3 : decode cX6_putBack 3 = .ok (.bipush 84, 2) := by decide +kernel
theorem dX6_putBack_5 : decode cX6_putBack 5 = .ok (.if_icmp .ge 21, 3) := by decide +kernel
theorem dX6_putBack_8 : decode cX6_putBack 8 = .ok (.aload_n 0, 1) := by decide +kernel
theorem dX6_putBack_9 : decode cX6_putBack 9 = .ok (.getfield 7, 3) := by decide +kernel
theorem dX6_putBack_12 : decode cX6_putBack 12 = .ok (.iload_n 1, 1) := by decide +kernel
theorem dX6_putBack_13 : decode cX6_putBack 13 = .ok (.aload_n 0, 1) := by decide +kernel
theorem dX6_putBack_14 : decode cX6_putBack 14 = .ok (.getfield 13, 3) := by decide +kernel
theorem dX6_putBack_17 : decode cX6_putBack 17 = .ok (.iload_n 1, 1) := by decide +kernel
theorem dX6_putBack_18 : decode cX6_putBack 18 = .ok (.iaload, 1) := by decide +kernel
theorem dX6_putBack_19 : decode cX6_putBack 19 = .ok (.iastore, 1) := by decide +kernel
theorem dX6_putBack_20 : decode cX6_putBack 20 = .ok (.iinc 1 1, 3) := by decide +kernel
theorem dX6_putBack_23 : decode cX6_putBack 23 = .ok (.goto (-21), 3) := by decide +kernel
theorem dX6_putBack_26 : decode cX6_putBack 26 = .ok (.return_, 1) := by decide +kernel
theorem dX6_takes_0 : decode cX6_takes 0 = .ok (.aload_n 0, 1) := by decide +kernel
theorem dX6_takes_1 : decode cX6_takes 1 = .ok (.iload_n 1, 1) := by decide +kernel
theorem dX6_takes_2 : decode cX6_takes 2 = .ok (.iload_n 2, 1) := by decide +kernel
theorem dX6_takes_3 : decode cX6_takes 3 = .ok (.invokevirtual 40, 3) := by decide +kernel
theorem dX6_takes_6 : decode cX6_takes 6 = .ok (.istore 4, 2) := by decide +kernel
theorem dX6_takes_8 : decode cX6_takes 8 = .ok (.iload 4, 2) := by decide +kernel
theorem dX6_takes_10 : decode cX6_takes 10 = .ok (.ifCond .lt 29, 3) := by decide +kernel
theorem dX6_takes_13 : decode cX6_takes 13 = .ok (.iload_n 3, 1) := by decide +kernel
theorem dX6_takes_14 : decode cX6_takes 14 = .ok (.iload 4, 2) := by decide +kernel
theorem dX6_takes_16 : decode cX6_takes 16 = .ok (.if_icmp .lt 23, 3) := by decide +kernel
theorem dX6_takes_19 : decode cX6_takes 19 = .ok (.iload_n 3, 1) := by decide +kernel
theorem dX6_takes_20 : decode cX6_takes 20 = .ok (.iload 4, 2) := by decide +kernel
theorem dX6_takes_22 : decode cX6_takes 22 = .ok (.isub, 1) := by decide +kernel
theorem dX6_takes_23 : decode cX6_takes 23 = .ok (.aload_n 0, 1) := by decide +kernel
theorem dX6_takes_24 : decode cX6_takes 24 = .ok (.getfield 7, 3) := by decide +kernel
theorem dX6_takes_27 : decode cX6_takes 27 = .ok (.iconst 0, 1) := by decide +kernel
theorem dX6_takes_28 : decode cX6_takes 28 = .ok (.iload_n 2, 1) := by decide +kernel
theorem dX6_takes_29 : decode cX6_takes 29 = .ok (.iadd, 1) := by decide +kernel
theorem dX6_takes_30 : decode cX6_takes 30 = .ok (.iaload, 1) := by decide +kernel
theorem dX6_takes_31 : decode cX6_takes 31 = .ok (.irem, 1) := by decide +kernel
theorem dX6_takes_32 : decode cX6_takes 32 = .ok (.ifCond .ne 7, 3) := by decide +kernel
theorem dX6_takes_35 : decode cX6_takes 35 = .ok (.iconst 1, 1) := by decide +kernel
theorem dX6_takes_36 : decode cX6_takes 36 = .ok (.goto 4, 3) := by decide +kernel
theorem dX6_takes_39 : decode cX6_takes 39 = .ok (.iconst 0, 1) := by decide +kernel
theorem dX6_takes_40 : decode cX6_takes 40 = .ok (.ireturn, 1) := by decide +kernel
theorem dX6_hueAt_0 : decode cX6_hueAt 0 = .ok (.iconst (-1), 1) := by decide +kernel
theorem dX6_hueAt_1 : decode cX6_hueAt 1 = .ok (.istore_n 3, 1) := by decide +kernel
theorem dX6_hueAt_2 : decode cX6_hueAt 2 = .ok (.iconst 0, 1) := by decide +kernel
theorem dX6_hueAt_3 : decode cX6_hueAt 3 = .ok (.istore 4, 2) := by decide +kernel
theorem dX6_hueAt_5 : decode cX6_hueAt 5 = .ok (.iload 4, 2) := by decide +kernel
theorem dX6_hueAt_7 : decode cX6_hueAt 7 = .ok (.bipush 8, 2) := by decide +kernel
theorem dX6_hueAt_9 : decode cX6_hueAt 9 = .ok (.if_icmp .ge 27, 3) := by decide +kernel
theorem dX6_hueAt_12 : decode cX6_hueAt 12 = .ok (.aload_n 0, 1) := by decide +kernel
theorem dX6_hueAt_13 : decode cX6_hueAt 13 = .ok (.iload_n 1, 1) := by decide +kernel
theorem dX6_hueAt_14 : decode cX6_hueAt 14 = .ok (.iload 4, 2) := by decide +kernel
theorem dX6_hueAt_16 : decode cX6_hueAt 16 = .ok (.iload_n 2, 1) := by decide +kernel
theorem dX6_hueAt_17 : decode cX6_hueAt 17 = .ok (.invokevirtual 46, 3) := by decide +kernel
theorem dX6_hueAt_20 : decode cX6_hueAt 20 = .ok (.ifCond .eq 8, 3) := by decide +kernel
theorem dX6_hueAt_23 : decode cX6_hueAt 23 = .ok (.iload 4, 2) := by decide +kernel
theorem dX6_hueAt_25 : decode cX6_hueAt 25 = .ok (.goto 4, 3) := by decide +kernel
theorem dX6_hueAt_28 : decode cX6_hueAt 28 = .ok (.iload_n 3, 1) := by decide +kernel
theorem dX6_hueAt_29 : decode cX6_hueAt 29 = .ok (.istore_n 3, 1) := by decide +kernel
theorem dX6_hueAt_30 : decode cX6_hueAt 30 = .ok (.iinc 4 1, 3) := by decide +kernel
theorem dX6_hueAt_33 : decode cX6_hueAt 33 = .ok (.goto (-28), 3) := by decide +kernel
theorem dX6_hueAt_36 : decode cX6_hueAt 36 = .ok (.iload_n 3, 1) := by decide +kernel
theorem dX6_hueAt_37 : decode cX6_hueAt 37 = .ok (.ireturn, 1) := by decide +kernel
theorem dX6_takers_0 : decode cX6_takers 0 = .ok (.iconst 0, 1) := by decide +kernel
theorem dX6_takers_1 : decode cX6_takers 1 = .ok (.istore_n 3, 1) := by decide +kernel
theorem dX6_takers_2 : decode cX6_takers 2 = .ok (.iconst 0, 1) := by decide +kernel
theorem dX6_takers_3 : decode cX6_takers 3 = .ok (.istore 4, 2) := by decide +kernel
theorem dX6_takers_5 : decode cX6_takers 5 = .ok (.iload 4, 2) := by decide +kernel
theorem dX6_takers_7 : decode cX6_takers 7 = .ok (.bipush 8, 2) := by decide +kernel
theorem dX6_takers_9 : decode cX6_takers 9 = .ok (.if_icmp .ge 28, 3) := by decide +kernel
theorem dX6_takers_12 : decode cX6_takers 12 = .ok (.iload_n 3, 1) := by decide +kernel
theorem dX6_takers_13 : decode cX6_takers 13 = .ok (.aload_n 0, 1) := by decide +kernel
theorem dX6_takers_14 : decode cX6_takers 14 = .ok (.iload_n 1, 1) := by decide +kernel
theorem dX6_takers_15 : decode cX6_takers 15 = .ok (.iload 4, 2) := by decide +kernel
theorem dX6_takers_17 : decode cX6_takers 17 = .ok (.iload_n 2, 1) := by decide +kernel
theorem dX6_takers_18 : decode cX6_takers 18 = .ok (.invokevirtual 46, 3) := by decide +kernel
theorem dX6_takers_21 : decode cX6_takers 21 = .ok (.ifCond .eq 7, 3) := by decide +kernel
theorem dX6_takers_24 : decode cX6_takers 24 = .ok (.iconst 1, 1) := by decide +kernel
theorem dX6_takers_25 : decode cX6_takers 25 = .ok (.goto 4, 3) := by decide +kernel
theorem dX6_takers_28 : decode cX6_takers 28 = .ok (.iconst 0, 1) := by decide +kernel
theorem dX6_takers_29 : decode cX6_takers 29 = .ok (.iadd, 1) := by decide +kernel
theorem dX6_takers_30 : decode cX6_takers 30 = .ok (.istore_n 3, 1) := by decide +kernel
theorem dX6_takers_31 : decode cX6_takers 31 = .ok (.iinc 4 1, 3) := by decide +kernel
theorem dX6_takers_34 : decode cX6_takers 34 = .ok (.goto (-29), 3) := by decide +kernel
theorem dX6_takers_37 : decode cX6_takers 37 = .ok (.iload_n 3, 1) := by decide +kernel
theorem dX6_takers_38 : decode cX6_takers 38 = .ok (.ireturn, 1) := by decide +kernel
theorem dX6_clash_0 : decode cX6_clash 0 = .ok (.iconst 0, 1) := by decide +kernel
theorem dX6_clash_1 : decode cX6_clash 1 = .ok (.istore_n 2, 1) := by decide +kernel
theorem dX6_clash_2 : decode cX6_clash 2 = .ok (.iload_n 2, 1) := by decide +kernel
theorem dX6_clash_3 : decode cX6_clash 3 = .ok (.bipush 60, 2) := by decide +kernel
theorem dX6_clash_5 : decode cX6_clash 5 = .ok (.if_icmp .ge 19, 3) := by decide +kernel
theorem dX6_clash_8 : decode cX6_clash 8 = .ok (.aload_n 0, 1) := by decide +kernel
theorem dX6_clash_9 : decode cX6_clash 9 = .ok (.iload_n 1, 1) := by decide +kernel
theorem dX6_clash_10 : decode cX6_clash 10 = .ok (.iload_n 2, 1) := by decide +kernel
theorem dX6_clash_11 : decode cX6_clash 11 = .ok (.invokevirtual 49, 3) := by decide +kernel
theorem dX6_clash_14 : decode cX6_clash 14 = .ok (.iconst 2, 1) := by decide +kernel
theorem dX6_clash_15 : decode cX6_clash 15 = .ok (.if_icmp .ge 9, 3) := by decide +kernel
theorem dX6_clash_18 : decode cX6_clash 18 = .ok (.iinc 2 1, 3) := by decide +kernel
theorem dX6_clash_21 : decode cX6_clash 21 = .ok (.goto (-19), 3) := by decide +kernel
theorem dX6_clash_24 : decode cX6_clash 24 = .ok (.iload_n 2, 1) := by decide +kernel
theorem dX6_clash_25 : decode cX6_clash 25 = .ok (.ireturn, 1) := by decide +kernel
theorem dX6_placesOf_0 : decode cX6_placesOf 0 = .ok (.iconst 0, 1) := by decide +kernel
theorem dX6_placesOf_1 : decode cX6_placesOf 1 = .ok (.istore_n 3, 1) := by decide +kernel
theorem dX6_placesOf_2 : decode cX6_placesOf 2 = .ok (.iconst 0, 1) := by decide +kernel
theorem dX6_placesOf_3 : decode cX6_placesOf 3 = .ok (.istore 4, 2) := by decide +kernel
theorem dX6_placesOf_5 : decode cX6_placesOf 5 = .ok (.iload 4, 2) := by decide +kernel
theorem dX6_placesOf_7 : decode cX6_placesOf 7 = .ok (.aload_n 0, 1) := by decide +kernel
theorem dX6_placesOf_8 : decode cX6_placesOf 8 = .ok (.getfield 7, 3) := by decide +kernel
theorem dX6_placesOf_11 : decode cX6_placesOf 11 = .ok (.iload_n 1, 1) := by decide +kernel
theorem dX6_placesOf_12 : decode cX6_placesOf 12 = .ok (.iconst 0, 1) := by decide +kernel
theorem dX6_placesOf_13 : decode cX6_placesOf 13 = .ok (.invokestatic 36, 3) := by decide +kernel
theorem dX6_placesOf_16 : decode cX6_placesOf 16 = .ok (.iaload, 1) := by decide +kernel
theorem dX6_placesOf_17 : decode cX6_placesOf 17 = .ok (.if_icmp .ge 28, 3) := by decide +kernel
theorem dX6_placesOf_20 : decode cX6_placesOf 20 = .ok (.iload_n 3, 1) := by decide +kernel
theorem dX6_placesOf_21 : decode cX6_placesOf 21 = .ok (.aload_n 0, 1) := by decide +kernel
theorem dX6_placesOf_22 : decode cX6_placesOf 22 = .ok (.iload_n 1, 1) := by decide +kernel
theorem dX6_placesOf_23 : decode cX6_placesOf 23 = .ok (.iload_n 2, 1) := by decide +kernel
theorem dX6_placesOf_24 : decode cX6_placesOf 24 = .ok (.iload 4, 2) := by decide +kernel
theorem dX6_placesOf_26 : decode cX6_placesOf 26 = .ok (.invokevirtual 46, 3) := by decide +kernel
theorem dX6_placesOf_29 : decode cX6_placesOf 29 = .ok (.ifCond .eq 7, 3) := by decide +kernel
theorem dX6_placesOf_32 : decode cX6_placesOf 32 = .ok (.iconst 1, 1) := by decide +kernel
theorem dX6_placesOf_33 : decode cX6_placesOf 33 = .ok (.goto 4, 3) := by decide +kernel
theorem dX6_placesOf_36 : decode cX6_placesOf 36 = .ok (.iconst 0, 1) := by decide +kernel
theorem dX6_placesOf_37 : decode cX6_placesOf 37 = .ok (.iadd, 1) := by decide +kernel
theorem dX6_placesOf_38 : decode cX6_placesOf 38 = .ok (.istore_n 3, 1) := by decide +kernel
theorem dX6_placesOf_39 : decode cX6_placesOf 39 = .ok (.iinc 4 1, 3) := by decide +kernel
theorem dX6_placesOf_42 : decode cX6_placesOf 42 = .ok (.goto (-37), 3) := by decide +kernel
theorem dX6_placesOf_45 : decode cX6_placesOf 45 = .ok (.iload_n 3, 1) := by decide +kernel
theorem dX6_placesOf_46 : decode cX6_placesOf 46 = .ok (.ireturn, 1) := by decide +kernel
theorem dX6_lastOf_0 : decode cX6_lastOf 0 = .ok (.iconst (-1), 1) := by decide +kernel
theorem dX6_lastOf_1 : decode cX6_lastOf 1 = .ok (.istore_n 3, 1) := by decide +kernel
theorem dX6_lastOf_2 : decode cX6_lastOf 2 = .ok (.iconst 0, 1) := by decide +kernel
theorem dX6_lastOf_3 : decode cX6_lastOf 3 = .ok (.istore 4, 2) := by decide +kernel
theorem dX6_lastOf_5 : decode cX6_lastOf 5 = .ok (.iload 4, 2) := by decide +kernel
theorem dX6_lastOf_7 : decode cX6_lastOf 7 = .ok (.aload_n 0, 1) := by decide +kernel
theorem dX6_lastOf_8 : decode cX6_lastOf 8 = .ok (.getfield 7, 3) := by decide +kernel
theorem dX6_lastOf_11 : decode cX6_lastOf 11 = .ok (.iload_n 1, 1) := by decide +kernel
theorem dX6_lastOf_12 : decode cX6_lastOf 12 = .ok (.iconst 0, 1) := by decide +kernel
theorem dX6_lastOf_13 : decode cX6_lastOf 13 = .ok (.invokestatic 36, 3) := by decide +kernel
theorem dX6_lastOf_16 : decode cX6_lastOf 16 = .ok (.iaload, 1) := by decide +kernel
theorem dX6_lastOf_17 : decode cX6_lastOf 17 = .ok (.if_icmp .ge 27, 3) := by decide +kernel
theorem dX6_lastOf_20 : decode cX6_lastOf 20 = .ok (.aload_n 0, 1) := by decide +kernel
theorem dX6_lastOf_21 : decode cX6_lastOf 21 = .ok (.iload_n 1, 1) := by decide +kernel
theorem dX6_lastOf_22 : decode cX6_lastOf 22 = .ok (.iload_n 2, 1) := by decide +kernel
theorem dX6_lastOf_23 : decode cX6_lastOf 23 = .ok (.iload 4, 2) := by decide +kernel
theorem dX6_lastOf_25 : decode cX6_lastOf 25 = .ok (.invokevirtual 46, 3) := by decide +kernel
theorem dX6_lastOf_28 : decode cX6_lastOf 28 = .ok (.ifCond .eq 8, 3) := by decide +kernel
theorem dX6_lastOf_31 : decode cX6_lastOf 31 = .ok (.iload 4, 2) := by decide +kernel
theorem dX6_lastOf_33 : decode cX6_lastOf 33 = .ok (.goto 4, 3) := by decide +kernel
theorem dX6_lastOf_36 : decode cX6_lastOf 36 = .ok (.iload_n 3, 1) := by decide +kernel
theorem dX6_lastOf_37 : decode cX6_lastOf 37 = .ok (.istore_n 3, 1) := by decide +kernel
theorem dX6_lastOf_38 : decode cX6_lastOf 38 = .ok (.iinc 4 1, 3) := by decide +kernel
theorem dX6_lastOf_41 : decode cX6_lastOf 41 = .ok (.goto (-36), 3) := by decide +kernel
theorem dX6_lastOf_44 : decode cX6_lastOf 44 = .ok (.iload_n 3, 1) := by decide +kernel
theorem dX6_lastOf_45 : decode cX6_lastOf 45 = .ok (.ireturn, 1) := by decide +kernel
theorem dX6_clears_0 : decode cX6_clears 0 = .ok (.aload_n 0, 1) := by decide +kernel
theorem dX6_clears_1 : decode cX6_clears 1 = .ok (.getfield 7, 3) := by decide +kernel
theorem dX6_clears_4 : decode cX6_clears 4 = .ok (.iload_n 1, 1) := by decide +kernel
theorem dX6_clears_5 : decode cX6_clears 5 = .ok (.iconst 0, 1) := by decide +kernel
theorem dX6_clears_6 : decode cX6_clears 6 = .ok (.invokestatic 36, 3) := by decide +kernel
theorem dX6_clears_9 : decode cX6_clears 9 = .ok (.iload_n 2, 1) := by decide +kernel
theorem dX6_clears_10 : decode cX6_clears 10 = .ok (.iastore, 1) := by decide +kernel
theorem dX6_clears_11 : decode cX6_clears 11 = .ok (.aload_n 0, 1) := by decide +kernel
theorem dX6_clears_12 : decode cX6_clears 12 = .ok (.getfield 7, 3) := by decide +kernel
theorem dX6_clears_15 : decode cX6_clears 15 = .ok (.iload_n 1, 1) := by decide +kernel
theorem dX6_clears_16 : decode cX6_clears 16 = .ok (.iconst 1, 1) := by decide +kernel
theorem dX6_clears_17 : decode cX6_clears 17 = .ok (.invokestatic 36, 3) := by decide +kernel
theorem dX6_clears_20 : decode cX6_clears 20 = .ok (.iconst 0, 1) := by decide +kernel
theorem dX6_clears_21 : decode cX6_clears 21 = .ok (.iastore, 1) := by decide +kernel
theorem dX6_clears_22 : decode cX6_clears 22 = .ok (.iconst 0, 1) := by decide +kernel
theorem dX6_clears_23 : decode cX6_clears 23 = .ok (.istore_n 3, 1) := by decide +kernel
theorem dX6_clears_24 : decode cX6_clears 24 = .ok (.iload_n 3, 1) := by decide +kernel
theorem dX6_clears_25 : decode cX6_clears 25 = .ok (.bipush 8, 2) := by decide +kernel
theorem dX6_clears_27 : decode cX6_clears 27 = .ok (.if_icmp .ge 36, 3) := by decide +kernel
theorem dX6_clears_30 : decode cX6_clears 30 = .ok (.aload_n 0, 1) := by decide +kernel
theorem dX6_clears_31 : decode cX6_clears 31 = .ok (.getfield 7, 3) := by decide +kernel
theorem dX6_clears_34 : decode cX6_clears 34 = .ok (.iload_n 1, 1) := by decide +kernel
theorem dX6_clears_35 : decode cX6_clears 35 = .ok (.iconst 2, 1) := by decide +kernel
theorem dX6_clears_36 : decode cX6_clears 36 = .ok (.iload_n 3, 1) := by decide +kernel
theorem dX6_clears_37 : decode cX6_clears 37 = .ok (.iadd, 1) := by decide +kernel
theorem dX6_clears_38 : decode cX6_clears 38 = .ok (.invokestatic 36, 3) := by decide +kernel
theorem dX6_clears_41 : decode cX6_clears 41 = .ok (.iconst 0, 1) := by decide +kernel
theorem dX6_clears_42 : decode cX6_clears 42 = .ok (.iastore, 1) := by decide +kernel
theorem dX6_clears_43 : decode cX6_clears 43 = .ok (.aload_n 0, 1) := by decide +kernel
theorem dX6_clears_44 : decode cX6_clears 44 = .ok (.getfield 7, 3) := by decide +kernel
theorem dX6_clears_47 : decode cX6_clears 47 = .ok (.iload_n 1, 1) := by decide +kernel
theorem dX6_clears_48 : decode cX6_clears 48 = .ok (.bipush 10, 2) := by decide +kernel
theorem dX6_clears_50 : decode cX6_clears 50 = .ok (.iload_n 3, 1) := by decide +kernel
theorem dX6_clears_51 : decode cX6_clears 51 = .ok (.iadd, 1) := by decide +kernel
theorem dX6_clears_52 : decode cX6_clears 52 = .ok (.invokestatic 36, 3) := by decide +kernel
theorem dX6_clears_55 : decode cX6_clears 55 = .ok (.iconst (-1), 1) := by decide +kernel
theorem dX6_clears_56 : decode cX6_clears 56 = .ok (.iastore, 1) := by decide +kernel
theorem dX6_clears_57 : decode cX6_clears 57 = .ok (.iinc 3 1, 3) := by decide +kernel
theorem dX6_clears_60 : decode cX6_clears 60 = .ok (.goto (-36), 3) := by decide +kernel
theorem dX6_clears_63 : decode cX6_clears 63 = .ok (.return_, 1) := by decide +kernel
theorem dX6_lays_0 : decode cX6_lays 0 = .ok (.aload_n 0, 1) := by decide +kernel
theorem dX6_lays_1 : decode cX6_lays 1 = .ok (.getfield 7, 3) := by decide +kernel
theorem dX6_lays_4 : decode cX6_lays 4 = .ok (.iload_n 1, 1) := by decide +kernel
theorem dX6_lays_5 : decode cX6_lays 5 = .ok (.iconst 2, 1) := by decide +kernel
theorem dX6_lays_6 : decode cX6_lays 6 = .ok (.aload_n 0, 1) := by decide +kernel
theorem dX6_lays_7 : decode cX6_lays 7 = .ok (.getfield 7, 3) := by decide +kernel
theorem dX6_lays_10 : decode cX6_lays 10 = .ok (.iload_n 1, 1) := by decide +kernel
theorem dX6_lays_11 : decode cX6_lays 11 = .ok (.iconst 1, 1) := by decide +kernel
theorem dX6_lays_12 : decode cX6_lays 12 = .ok (.invokestatic 36, 3) := by decide +kernel
theorem dX6_lays_15 : decode cX6_lays 15 = .ok (.iaload, 1) := by decide +kernel
theorem dX6_lays_16 : decode cX6_lays 16 = .ok (.iadd, 1) := by decide +kernel
theorem dX6_lays_17 : decode cX6_lays 17 = .ok (.invokestatic 36, 3) := by decide +kernel
theorem dX6_lays_20 : decode cX6_lays 20 = .ok (.iload_n 2, 1) := by decide +kernel
theorem dX6_lays_21 : decode cX6_lays 21 = .ok (.iastore, 1) := by decide +kernel
theorem dX6_lays_22 : decode cX6_lays 22 = .ok (.aload_n 0, 1) := by decide +kernel
theorem dX6_lays_23 : decode cX6_lays 23 = .ok (.getfield 7, 3) := by decide +kernel
theorem dX6_lays_26 : decode cX6_lays 26 = .ok (.iload_n 1, 1) := by decide +kernel
theorem dX6_lays_27 : decode cX6_lays 27 = .ok (.iconst 1, 1) := by decide +kernel
theorem dX6_lays_28 : decode cX6_lays 28 = .ok (.invokestatic 36, 3) := by decide +kernel
theorem dX6_lays_31 : decode cX6_lays 31 = .ok (.dup2, 1) := by decide +kernel
theorem dX6_lays_32 : decode cX6_lays 32 = .ok (.iaload, 1) := by decide +kernel
theorem dX6_lays_33 : decode cX6_lays 33 = .ok (.iconst 1, 1) := by decide +kernel
theorem dX6_lays_34 : decode cX6_lays 34 = .ok (.iadd, 1) := by decide +kernel
theorem dX6_lays_35 : decode cX6_lays 35 = .ok (.iastore, 1) := by decide +kernel
theorem dX6_lays_36 : decode cX6_lays 36 = .ok (.aload_n 0, 1) := by decide +kernel
theorem dX6_lays_37 : decode cX6_lays 37 = .ok (.getfield 7, 3) := by decide +kernel
theorem dX6_lays_40 : decode cX6_lays 40 = .ok (.iload_n 1, 1) := by decide +kernel
theorem dX6_lays_41 : decode cX6_lays 41 = .ok (.bipush 10, 2) := by decide +kernel
theorem dX6_lays_43 : decode cX6_lays 43 = .ok (.iload_n 2, 1) := by decide +kernel
theorem dX6_lays_44 : decode cX6_lays 44 = .ok (.iadd, 1) := by decide +kernel
theorem dX6_lays_45 : decode cX6_lays 45 = .ok (.invokestatic 36, 3) := by decide +kernel
theorem dX6_lays_48 : decode cX6_lays 48 = .ok (.iload_n 3, 1) := by decide +kernel
theorem dX6_lays_49 : decode cX6_lays 49 = .ok (.iastore, 1) := by decide +kernel
theorem dX6_lays_50 : decode cX6_lays 50 = .ok (.return_, 1) := by decide +kernel
theorem dX6_remembers_0 : decode cX6_remembers 0 = .ok (.iconst 0, 1) := by decide +kernel
theorem dX6_remembers_1 : decode cX6_remembers 1 = .ok (.istore_n 2, 1) := by decide +kernel
theorem dX6_remembers_2 : decode cX6_remembers 2 = .ok (.iload_n 2, 1) := by decide +kernel
theorem dX6_remembers_3 : decode cX6_remembers 3 = .ok (.bipush 18, 2) := by decide +kernel
theorem dX6_remembers_5 : decode cX6_remembers 5 = .ok (.if_icmp .ge 25, 3) := by decide +kernel
theorem dX6_remembers_8 : decode cX6_remembers 8 = .ok (.aload_n 0, 1) := by decide +kernel
theorem dX6_remembers_9 : decode cX6_remembers 9 = .ok (.getfield 25, 3) := by decide +kernel
theorem dX6_remembers_12 : decode cX6_remembers 12 = .ok (.iload_n 2, 1) := by decide +kernel
theorem dX6_remembers_13 : decode cX6_remembers 13 = .ok (.aload_n 0, 1) := by decide +kernel
theorem dX6_remembers_14 : decode cX6_remembers 14 = .ok (.getfield 7, 3) := by decide +kernel
theorem dX6_remembers_17 : decode cX6_remembers 17 = .ok (.iload_n 1, 1) := by decide +kernel
theorem dX6_remembers_18 : decode cX6_remembers 18 = .ok (.iload_n 2, 1) := by decide +kernel
theorem dX6_remembers_19 : decode cX6_remembers 19 = .ok (.invokestatic 36, 3) := by decide +kernel
theorem dX6_remembers_22 : decode cX6_remembers 22 = .ok (.iaload, 1) := by decide +kernel
theorem dX6_remembers_23 : decode cX6_remembers 23 = .ok (.iastore, 1) := by decide +kernel
theorem dX6_remembers_24 : decode cX6_remembers 24 = .ok (.iinc 2 1, 3) := by decide +kernel
theorem dX6_remembers_27 : decode cX6_remembers 27 = .ok (.goto (-25), 3) := by decide +kernel
theorem dX6_remembers_30 : decode cX6_remembers 30 = .ok (.return_, 1) := by decide +kernel
theorem dX6_laysFrom_0 : decode cX6_laysFrom 0 = .ok (.iconst 0, 1) := by decide +kernel
theorem dX6_laysFrom_1 : decode cX6_laysFrom 1 = .ok (.istore_n 3, 1) := by decide +kernel
theorem dX6_laysFrom_2 : decode cX6_laysFrom 2 = .ok (.iload_n 3, 1) := by decide +kernel
theorem dX6_laysFrom_3 : decode cX6_laysFrom 3 = .ok (.aload_n 0, 1) := by decide +kernel
theorem dX6_laysFrom_4 : decode cX6_laysFrom 4 = .ok (.getfield 25, 3) := by decide +kernel
theorem dX6_laysFrom_7 : decode cX6_laysFrom 7 = .ok (.iconst 1, 1) := by decide +kernel
theorem dX6_laysFrom_8 : decode cX6_laysFrom 8 = .ok (.iaload, 1) := by decide +kernel
theorem dX6_laysFrom_9 : decode cX6_laysFrom 9 = .ok (.if_icmp .ge 79, 3) := by decide +kernel
theorem dX6_laysFrom_12 : decode cX6_laysFrom 12 = .ok (.aload_n 0, 1) := by decide +kernel
theorem dX6_laysFrom_13 : decode cX6_laysFrom 13 = .ok (.getfield 25, 3) := by decide +kernel
theorem dX6_laysFrom_16 : decode cX6_laysFrom 16 = .ok (.iconst 2, 1) := by decide +kernel
theorem dX6_laysFrom_17 : decode cX6_laysFrom 17 = .ok (.iload_n 3, 1) := by decide +kernel
theorem dX6_laysFrom_18 : decode cX6_laysFrom 18 = .ok (.iadd, 1) := by decide +kernel
theorem dX6_laysFrom_19 : decode cX6_laysFrom 19 = .ok (.iaload, 1) := by decide +kernel
theorem dX6_laysFrom_20 : decode cX6_laysFrom 20 = .ok (.istore 4, 2) := by decide +kernel
theorem dX6_laysFrom_22 : decode cX6_laysFrom 22 = .ok (.aload_n 0, 1) := by decide +kernel
theorem dX6_laysFrom_23 : decode cX6_laysFrom 23 = .ok (.getfield 25, 3) := by decide +kernel
theorem dX6_laysFrom_26 : decode cX6_laysFrom 26 = .ok (.bipush 10, 2) := by decide +kernel
theorem dX6_laysFrom_28 : decode cX6_laysFrom 28 = .ok (.iload 4, 2) := by decide +kernel
theorem dX6_laysFrom_30 : decode cX6_laysFrom 30 = .ok (.iadd, 1) := by decide +kernel
theorem dX6_laysFrom_31 : decode cX6_laysFrom 31 = .ok (.iaload, 1) := by decide +kernel
theorem dX6_laysFrom_32 : decode cX6_laysFrom 32 = .ok (.iload_n 2, 1) := by decide +kernel
theorem dX6_laysFrom_33 : decode cX6_laysFrom 33 = .ok (.isub, 1) := by decide +kernel
theorem dX6_laysFrom_34 : decode cX6_laysFrom 34 = .ok (.istore 5, 2) := by decide +kernel
theorem dX6_laysFrom_36 : decode cX6_laysFrom 36 = .ok (.iload 5, 2) := by decide +kernel
theorem dX6_laysFrom_38 : decode cX6_laysFrom 38 = .ok (.ifCond .ge 20, 3) := by decide +kernel
theorem dX6_laysFrom_41 : decode cX6_laysFrom 41 = .ok (.iload 5, 2) := by decide +kernel
theorem dX6_laysFrom_43 : decode cX6_laysFrom 43 = .ok (.aload_n 0, 1) := by decide +kernel
theorem dX6_laysFrom_44 : decode cX6_laysFrom 44 = .ok (.getfield 7, 3) := by decide +kernel
theorem dX6_laysFrom_47 : decode cX6_laysFrom 47 = .ok (.iconst 0, 1) := by decide +kernel
theorem dX6_laysFrom_48 : decode cX6_laysFrom 48 = .ok (.iload 4, 2) := by decide +kernel
theorem dX6_laysFrom_50 : decode cX6_laysFrom 50 = .ok (.iadd, 1) := by decide +kernel
theorem dX6_laysFrom_51 : decode cX6_laysFrom 51 = .ok (.iaload, 1) := by decide +kernel
theorem dX6_laysFrom_52 : decode cX6_laysFrom 52 = .ok (.iadd, 1) := by decide +kernel
theorem dX6_laysFrom_53 : decode cX6_laysFrom 53 = .ok (.istore 5, 2) := by decide +kernel
theorem dX6_laysFrom_55 : decode cX6_laysFrom 55 = .ok (.goto (-19), 3) := by decide +kernel
theorem dX6_laysFrom_58 : decode cX6_laysFrom 58 = .ok (.iload 5, 2) := by decide +kernel
theorem dX6_laysFrom_60 : decode cX6_laysFrom 60 = .ok (.aload_n 0, 1) := by decide +kernel
theorem dX6_laysFrom_61 : decode cX6_laysFrom 61 = .ok (.getfield 7, 3) := by decide +kernel
theorem dX6_laysFrom_64 : decode cX6_laysFrom 64 = .ok (.iload_n 1, 1) := by decide +kernel
theorem dX6_laysFrom_65 : decode cX6_laysFrom 65 = .ok (.iconst 0, 1) := by decide +kernel
theorem dX6_laysFrom_66 : decode cX6_laysFrom 66 = .ok (.invokestatic 36, 3) := by decide +kernel
theorem dX6_laysFrom_69 : decode cX6_laysFrom 69 = .ok (.iaload, 1) := by decide +kernel
theorem dX6_laysFrom_70 : decode cX6_laysFrom 70 = .ok (.if_icmp .ge 12, 3) := by decide +kernel
theorem dX6_laysFrom_73 : decode cX6_laysFrom 73 = .ok (.aload_n 0, 1) := by decide +kernel
theorem dX6_laysFrom_74 : decode cX6_laysFrom 74 = .ok (.iload_n 1, 1) := by decide +kernel
theorem dX6_laysFrom_75 : decode cX6_laysFrom 75 = .ok (.iload 4, 2) := by decide +kernel
theorem dX6_laysFrom_77 : decode cX6_laysFrom 77 = .ok (.iload 5, 2) := by decide +kernel
theorem dX6_laysFrom_79 : decode cX6_laysFrom 79 = .ok (.invokevirtual 52, 3) := by decide +kernel
theorem dX6_laysFrom_82 : decode cX6_laysFrom 82 = .ok (.iinc 3 1, 3) := by decide +kernel
theorem dX6_laysFrom_85 : decode cX6_laysFrom 85 = .ok (.goto (-83), 3) := by decide +kernel
theorem dX6_laysFrom_88 : decode cX6_laysFrom 88 = .ok (.return_, 1) := by decide +kernel
theorem dX6_drops_0 : decode cX6_drops 0 = .ok (.aload_n 0, 1) := by decide +kernel
theorem dX6_drops_1 : decode cX6_drops 1 = .ok (.getfield 7, 3) := by decide +kernel
theorem dX6_drops_4 : decode cX6_drops 4 = .ok (.bipush 8, 2) := by decide +kernel
theorem dX6_drops_6 : decode cX6_drops 6 = .ok (.dup2, 1) := by decide +kernel
theorem dX6_drops_7 : decode cX6_drops 7 = .ok (.iaload, 1) := by decide +kernel
theorem dX6_drops_8 : decode cX6_drops 8 = .ok (.iconst 1, 1) := by decide +kernel
theorem dX6_drops_9 : decode cX6_drops 9 = .ok (.isub, 1) := by decide +kernel
theorem dX6_drops_10 : decode cX6_drops 10 = .ok (.iastore, 1) := by decide +kernel
theorem dX6_drops_11 : decode cX6_drops 11 = .ok (.iload_n 1, 1) := by decide +kernel
theorem dX6_drops_12 : decode cX6_drops 12 = .ok (.iconst 0, 1) := by decide +kernel
theorem dX6_drops_13 : decode cX6_drops 13 = .ok (.invokestatic 36, 3) := by decide +kernel
theorem dX6_drops_16 : decode cX6_drops 16 = .ok (.istore_n 2, 1) := by decide +kernel
theorem dX6_drops_17 : decode cX6_drops 17 = .ok (.iload_n 2, 1) := by decide +kernel
theorem dX6_drops_18 : decode cX6_drops 18 = .ok (.aload_n 0, 1) := by decide +kernel
theorem dX6_drops_19 : decode cX6_drops 19 = .ok (.getfield 7, 3) := by decide +kernel
theorem dX6_drops_22 : decode cX6_drops 22 = .ok (.bipush 8, 2) := by decide +kernel
theorem dX6_drops_24 : decode cX6_drops 24 = .ok (.iaload, 1) := by decide +kernel
theorem dX6_drops_25 : decode cX6_drops 25 = .ok (.iconst 0, 1) := by decide +kernel
theorem dX6_drops_26 : decode cX6_drops 26 = .ok (.invokestatic 36, 3) := by decide +kernel
theorem dX6_drops_29 : decode cX6_drops 29 = .ok (.if_icmp .ge 24, 3) := by decide +kernel
theorem dX6_drops_32 : decode cX6_drops 32 = .ok (.aload_n 0, 1) := by decide +kernel
theorem dX6_drops_33 : decode cX6_drops 33 = .ok (.getfield 7, 3) := by decide +kernel
theorem dX6_drops_36 : decode cX6_drops 36 = .ok (.iload_n 2, 1) := by decide +kernel
theorem dX6_drops_37 : decode cX6_drops 37 = .ok (.aload_n 0, 1) := by decide +kernel
theorem dX6_drops_38 : decode cX6_drops 38 = .ok (.getfield 7, 3) := by decide +kernel
theorem dX6_drops_41 : decode cX6_drops 41 = .ok (.iload_n 2, 1) := by decide +kernel
theorem dX6_drops_42 : decode cX6_drops 42 = .ok (.bipush 18, 2) := by decide +kernel
theorem dX6_drops_44 : decode cX6_drops 44 = .ok (.iadd, 1) := by decide +kernel
theorem dX6_drops_45 : decode cX6_drops 45 = .ok (.iaload, 1) := by decide +kernel
theorem dX6_drops_46 : decode cX6_drops 46 = .ok (.iastore, 1) := by decide +kernel
theorem dX6_drops_47 : decode cX6_drops 47 = .ok (.iinc 2 1, 3) := by decide +kernel
theorem dX6_drops_50 : decode cX6_drops 50 = .ok (.goto (-33), 3) := by decide +kernel
theorem dX6_drops_53 : decode cX6_drops 53 = .ok (.iconst 0, 1) := by decide +kernel
theorem dX6_drops_54 : decode cX6_drops 54 = .ok (.istore_n 2, 1) := by decide +kernel
theorem dX6_drops_55 : decode cX6_drops 55 = .ok (.iload_n 2, 1) := by decide +kernel
theorem dX6_drops_56 : decode cX6_drops 56 = .ok (.bipush 18, 2) := by decide +kernel
theorem dX6_drops_58 : decode cX6_drops 58 = .ok (.if_icmp .ge 26, 3) := by decide +kernel
theorem dX6_drops_61 : decode cX6_drops 61 = .ok (.aload_n 0, 1) := by decide +kernel
theorem dX6_drops_62 : decode cX6_drops 62 = .ok (.getfield 7, 3) := by decide +kernel
theorem dX6_drops_65 : decode cX6_drops 65 = .ok (.aload_n 0, 1) := by decide +kernel
theorem dX6_drops_66 : decode cX6_drops 66 = .ok (.getfield 7, 3) := by decide +kernel
theorem dX6_drops_69 : decode cX6_drops 69 = .ok (.bipush 8, 2) := by decide +kernel
theorem dX6_drops_71 : decode cX6_drops 71 = .ok (.iaload, 1) := by decide +kernel
theorem dX6_drops_72 : decode cX6_drops 72 = .ok (.iload_n 2, 1) := by decide +kernel
theorem dX6_drops_73 : decode cX6_drops 73 = .ok (.invokestatic 36, 3) := by decide +kernel
theorem dX6_drops_76 : decode cX6_drops 76 = .ok (.iconst 0, 1) := by decide +kernel
theorem dX6_drops_77 : decode cX6_drops 77 = .ok (.iastore, 1) := by decide +kernel
theorem dX6_drops_78 : decode cX6_drops 78 = .ok (.iinc 2 1, 3) := by decide +kernel
theorem dX6_drops_81 : decode cX6_drops 81 = .ok (.goto (-26), 3) := by decide +kernel
theorem dX6_drops_84 : decode cX6_drops 84 = .ok (.return_, 1) := by decide +kernel
theorem dX6_turns_0 : decode cX6_turns 0 = .ok (.aload_n 0, 1) := by decide +kernel
theorem dX6_turns_1 : decode cX6_turns 1 = .ok (.iload_n 1, 1) := by decide +kernel
theorem dX6_turns_2 : decode cX6_turns 2 = .ok (.invokevirtual 56, 3) := by decide +kernel
theorem dX6_turns_5 : decode cX6_turns 5 = .ok (.iconst 0, 1) := by decide +kernel
theorem dX6_turns_6 : decode cX6_turns 6 = .ok (.istore_n 2, 1) := by decide +kernel
theorem dX6_turns_7 : decode cX6_turns 7 = .ok (.iload_n 2, 1) := by decide +kernel
theorem dX6_turns_8 : decode cX6_turns 8 = .ok (.aload_n 0, 1) := by decide +kernel
theorem dX6_turns_9 : decode cX6_turns 9 = .ok (.getfield 25, 3) := by decide +kernel
theorem dX6_turns_12 : decode cX6_turns 12 = .ok (.iconst 1, 1) := by decide +kernel
theorem dX6_turns_13 : decode cX6_turns 13 = .ok (.iaload, 1) := by decide +kernel
theorem dX6_turns_14 : decode cX6_turns 14 = .ok (.if_icmp .ge 46, 3) := by decide +kernel
theorem dX6_turns_17 : decode cX6_turns 17 = .ok (.aload_n 0, 1) := by decide +kernel
theorem dX6_turns_18 : decode cX6_turns 18 = .ok (.getfield 25, 3) := by decide +kernel
theorem dX6_turns_21 : decode cX6_turns 21 = .ok (.iconst 2, 1) := by decide +kernel
theorem dX6_turns_22 : decode cX6_turns 22 = .ok (.iload_n 2, 1) := by decide +kernel
theorem dX6_turns_23 : decode cX6_turns 23 = .ok (.iadd, 1) := by decide +kernel
theorem dX6_turns_24 : decode cX6_turns 24 = .ok (.iaload, 1) := by decide +kernel
theorem dX6_turns_25 : decode cX6_turns 25 = .ok (.istore_n 3, 1) := by decide +kernel
theorem dX6_turns_26 : decode cX6_turns 26 = .ok (.aload_n 0, 1) := by decide +kernel
theorem dX6_turns_27 : decode cX6_turns 27 = .ok (.getfield 7, 3) := by decide +kernel
theorem dX6_turns_30 : decode cX6_turns 30 = .ok (.iload_n 1, 1) := by decide +kernel
theorem dX6_turns_31 : decode cX6_turns 31 = .ok (.bipush 10, 2) := by decide +kernel
theorem dX6_turns_33 : decode cX6_turns 33 = .ok (.iload_n 3, 1) := by decide +kernel
theorem dX6_turns_34 : decode cX6_turns 34 = .ok (.iadd, 1) := by decide +kernel
theorem dX6_turns_35 : decode cX6_turns 35 = .ok (.invokestatic 36, 3) := by decide +kernel
theorem dX6_turns_38 : decode cX6_turns 38 = .ok (.aload_n 0, 1) := by decide +kernel
theorem dX6_turns_39 : decode cX6_turns 39 = .ok (.getfield 25, 3) := by decide +kernel
theorem dX6_turns_42 : decode cX6_turns 42 = .ok (.iconst 0, 1) := by decide +kernel
theorem dX6_turns_43 : decode cX6_turns 43 = .ok (.iaload, 1) := by decide +kernel
theorem dX6_turns_44 : decode cX6_turns 44 = .ok (.iconst 1, 1) := by decide +kernel
theorem dX6_turns_45 : decode cX6_turns 45 = .ok (.isub, 1) := by decide +kernel
theorem dX6_turns_46 : decode cX6_turns 46 = .ok (.aload_n 0, 1) := by decide +kernel
theorem dX6_turns_47 : decode cX6_turns 47 = .ok (.iload_n 1, 1) := by decide +kernel
theorem dX6_turns_48 : decode cX6_turns 48 = .ok (.iload_n 3, 1) := by decide +kernel
theorem dX6_turns_49 : decode cX6_turns 49 = .ok (.invokevirtual 60, 3) := by decide +kernel
theorem dX6_turns_52 : decode cX6_turns 52 = .ok (.isub, 1) := by decide +kernel
theorem dX6_turns_53 : decode cX6_turns 53 = .ok (.iastore, 1) := by decide +kernel
theorem dX6_turns_54 : decode cX6_turns 54 = .ok (.iinc 2 1, 3) := by decide +kernel
theorem dX6_turns_57 : decode cX6_turns 57 = .ok (.goto (-50), 3) := by decide +kernel
theorem dX6_turns_60 : decode cX6_turns 60 = .ok (.return_, 1) := by decide +kernel
theorem dX6_unlikeTurned_0 : decode cX6_unlikeTurned 0 = .ok (.iconst 0, 1) := by decide +kernel
theorem dX6_unlikeTurned_1 : decode cX6_unlikeTurned 1 = .ok (.istore_n 2, 1) := by decide +kernel
theorem dX6_unlikeTurned_2 : decode cX6_unlikeTurned 2 = .ok (.iconst 0, 1) := by decide +kernel
theorem dX6_unlikeTurned_3 : decode cX6_unlikeTurned 3 = .ok (.istore_n 3, 1) := by decide +kernel
theorem dX6_unlikeTurned_4 : decode cX6_unlikeTurned 4 = .ok (.iload_n 3, 1) := by decide +kernel
theorem dX6_unlikeTurned_5 : decode cX6_unlikeTurned 5 = .ok (.aload_n 0, 1) := by decide +kernel
theorem dX6_unlikeTurned_6 : decode cX6_unlikeTurned 6 = .ok (.getfield 7, 3) := by decide +kernel
theorem dX6_unlikeTurned_9 : decode cX6_unlikeTurned 9 = .ok (.iload_n 1, 1) := by decide +kernel
theorem dX6_unlikeTurned_10 : decode cX6_unlikeTurned 10 = .ok (.iconst 0, 1) := by decide +kernel
theorem dX6_unlikeTurned_11 : decode cX6_unlikeTurned 11 = .ok (.invokestatic 36, 3) := by decide +kernel
theorem dX6_unlikeTurned_14 : decode cX6_unlikeTurned 14 = .ok (.iaload, 1) := by decide +kernel
theorem dX6_unlikeTurned_15 : decode cX6_unlikeTurned 15 = .ok (.if_icmp .ge 45, 3) := by decide +kernel
theorem dX6_unlikeTurned_18 : decode cX6_unlikeTurned 18 = .ok (.iload_n 2, 1) := by decide +kernel
theorem dX6_unlikeTurned_19 : decode cX6_unlikeTurned 19 = .ok (.aload_n 0, 1) := by decide +kernel
theorem dX6_unlikeTurned_20 : decode cX6_unlikeTurned 20 = .ok (.iload_n 1, 1) := by decide +kernel
theorem dX6_unlikeTurned_21 : decode cX6_unlikeTurned 21 = .ok (.iload_n 3, 1) := by decide +kernel
theorem dX6_unlikeTurned_22 : decode cX6_unlikeTurned 22 = .ok (.invokevirtual 63, 3) := by decide +kernel
theorem dX6_unlikeTurned_25 : decode cX6_unlikeTurned 25 = .ok (.aload_n 0, 1) := by decide +kernel
theorem dX6_unlikeTurned_26 : decode cX6_unlikeTurned 26 = .ok (.iload_n 1, 1) := by decide +kernel
theorem dX6_unlikeTurned_27 : decode cX6_unlikeTurned 27 = .ok (.aload_n 0, 1) := by decide +kernel
theorem dX6_unlikeTurned_28 : decode cX6_unlikeTurned 28 = .ok (.getfield 7, 3) := by decide +kernel
theorem dX6_unlikeTurned_31 : decode cX6_unlikeTurned 31 = .ok (.iload_n 1, 1) := by decide +kernel
theorem dX6_unlikeTurned_32 : decode cX6_unlikeTurned 32 = .ok (.iconst 0, 1) := by decide +kernel
theorem dX6_unlikeTurned_33 : decode cX6_unlikeTurned 33 = .ok (.invokestatic 36, 3) := by decide +kernel
theorem dX6_unlikeTurned_36 : decode cX6_unlikeTurned 36 = .ok (.iaload, 1) := by decide +kernel
theorem dX6_unlikeTurned_37 : decode cX6_unlikeTurned 37 = .ok (.iconst 1, 1) := by decide +kernel
theorem dX6_unlikeTurned_38 : decode cX6_unlikeTurned 38 = .ok (.isub, 1) := by decide +kernel
theorem dX6_unlikeTurned_39 : decode cX6_unlikeTurned 39 = .ok (.iload_n 3, 1) := by decide +kernel
theorem dX6_unlikeTurned_40 : decode cX6_unlikeTurned 40 = .ok (.isub, 1) := by decide +kernel
theorem dX6_unlikeTurned_41 : decode cX6_unlikeTurned 41 = .ok (.invokevirtual 63, 3) := by decide +kernel
theorem dX6_unlikeTurned_44 : decode cX6_unlikeTurned 44 = .ok (.if_icmp .eq 7, 3) := by decide +kernel
theorem dX6_unlikeTurned_47 : decode cX6_unlikeTurned 47 = .ok (.iconst 1, 1) := by decide +kernel
theorem dX6_unlikeTurned_48 : decode cX6_unlikeTurned 48 = .ok (.goto 4, 3) := by decide +kernel
theorem dX6_unlikeTurned_51 : decode cX6_unlikeTurned 51 = .ok (.iconst 0, 1) := by decide +kernel
theorem dX6_unlikeTurned_52 : decode cX6_unlikeTurned 52 = .ok (.iadd, 1) := by decide +kernel
theorem dX6_unlikeTurned_53 : decode cX6_unlikeTurned 53 = .ok (.istore_n 2, 1) := by decide +kernel
theorem dX6_unlikeTurned_54 : decode cX6_unlikeTurned 54 = .ok (.iinc 3 1, 3) := by decide +kernel
theorem dX6_unlikeTurned_57 : decode cX6_unlikeTurned 57 = .ok (.goto (-53), 3) := by decide +kernel
theorem dX6_unlikeTurned_60 : decode cX6_unlikeTurned 60 = .ok (.iload_n 2, 1) := by decide +kernel
theorem dX6_unlikeTurned_61 : decode cX6_unlikeTurned 61 = .ok (.ireturn, 1) := by decide +kernel
theorem dX6_takesOff_0 : decode cX6_takesOff 0 = .ok (.aload_n 0, 1) := by decide +kernel
theorem dX6_takesOff_1 : decode cX6_takesOff 1 = .ok (.iload_n 1, 1) := by decide +kernel
theorem dX6_takesOff_2 : decode cX6_takesOff 2 = .ok (.invokevirtual 56, 3) := by decide +kernel
theorem dX6_takesOff_5 : decode cX6_takesOff 5 = .ok (.aload_n 0, 1) := by decide +kernel
theorem dX6_takesOff_6 : decode cX6_takesOff 6 = .ok (.iload_n 1, 1) := by decide +kernel
theorem dX6_takesOff_7 : decode cX6_takesOff 7 = .ok (.aload_n 0, 1) := by decide +kernel
theorem dX6_takesOff_8 : decode cX6_takesOff 8 = .ok (.getfield 25, 3) := by decide +kernel
theorem dX6_takesOff_11 : decode cX6_takesOff 11 = .ok (.iconst 0, 1) := by decide +kernel
theorem dX6_takesOff_12 : decode cX6_takesOff 12 = .ok (.iaload, 1) := by decide +kernel
theorem dX6_takesOff_13 : decode cX6_takesOff 13 = .ok (.invokevirtual 66, 3) := by decide +kernel
theorem dX6_takesOff_16 : decode cX6_takesOff 16 = .ok (.iconst 0, 1) := by decide +kernel
theorem dX6_takesOff_17 : decode cX6_takesOff 17 = .ok (.istore_n 3, 1) := by decide +kernel
theorem dX6_takesOff_18 : decode cX6_takesOff 18 = .ok (.iload_n 3, 1) := by decide +kernel
theorem dX6_takesOff_19 : decode cX6_takesOff 19 = .ok (.aload_n 0, 1) := by decide +kernel
theorem dX6_takesOff_20 : decode cX6_takesOff 20 = .ok (.getfield 25, 3) := by decide +kernel
theorem dX6_takesOff_23 : decode cX6_takesOff 23 = .ok (.iconst 1, 1) := by decide +kernel
theorem dX6_takesOff_24 : decode cX6_takesOff 24 = .ok (.iaload, 1) := by decide +kernel
theorem dX6_takesOff_25 : decode cX6_takesOff 25 = .ok (.if_icmp .ge 50, 3) := by decide +kernel
theorem dX6_takesOff_28 : decode cX6_takesOff 28 = .ok (.aload_n 0, 1) := by decide +kernel
theorem dX6_takesOff_29 : decode cX6_takesOff 29 = .ok (.getfield 25, 3) := by decide +kernel
theorem dX6_takesOff_32 : decode cX6_takesOff 32 = .ok (.iconst 2, 1) := by decide +kernel
theorem dX6_takesOff_33 : decode cX6_takesOff 33 = .ok (.iload_n 3, 1) := by decide +kernel
theorem dX6_takesOff_34 : decode cX6_takesOff 34 = .ok (.iadd, 1) := by decide +kernel
theorem dX6_takesOff_35 : decode cX6_takesOff 35 = .ok (.iaload, 1) := by decide +kernel
theorem dX6_takesOff_36 : decode cX6_takesOff 36 = .ok (.iload_n 2, 1) := by decide +kernel
theorem dX6_takesOff_37 : decode cX6_takesOff 37 = .ok (.if_icmp .eq 32, 3) := by decide +kernel
theorem dX6_takesOff_40 : decode cX6_takesOff 40 = .ok (.aload_n 0, 1) := by decide +kernel
theorem dX6_takesOff_41 : decode cX6_takesOff 41 = .ok (.iload_n 1, 1) := by decide +kernel
theorem dX6_takesOff_42 : decode cX6_takesOff 42 = .ok (.aload_n 0, 1) := by decide +kernel
theorem dX6_takesOff_43 : decode cX6_takesOff 43 = .ok (.getfield 25, 3) := by decide +kernel
theorem dX6_takesOff_46 : decode cX6_takesOff 46 = .ok (.iconst 2, 1) := by decide +kernel
theorem dX6_takesOff_47 : decode cX6_takesOff 47 = .ok (.iload_n 3, 1) := by decide +kernel
theorem dX6_takesOff_48 : decode cX6_takesOff 48 = .ok (.iadd, 1) := by decide +kernel
theorem dX6_takesOff_49 : decode cX6_takesOff 49 = .ok (.iaload, 1) := by decide +kernel
theorem dX6_takesOff_50 : decode cX6_takesOff 50 = .ok (.aload_n 0, 1) := by decide +kernel
theorem dX6_takesOff_51 : decode cX6_takesOff 51 = .ok (.getfield 25, 3) := by decide +kernel
theorem dX6_takesOff_54 : decode cX6_takesOff 54 = .ok (.bipush 10, 2) := by decide +kernel
theorem dX6_takesOff_56 : decode cX6_takesOff 56 = .ok (.aload_n 0, 1) := by decide +kernel
theorem dX6_takesOff_57 : decode cX6_takesOff 57 = .ok (.getfield 25, 3) := by decide +kernel
theorem dX6_takesOff_60 : decode cX6_takesOff 60 = .ok (.iconst 2, 1) := by decide +kernel
theorem dX6_takesOff_61 : decode cX6_takesOff 61 = .ok (.iload_n 3, 1) := by decide +kernel
theorem dX6_takesOff_62 : decode cX6_takesOff 62 = .ok (.iadd, 1) := by decide +kernel
theorem dX6_takesOff_63 : decode cX6_takesOff 63 = .ok (.iaload, 1) := by decide +kernel
theorem dX6_takesOff_64 : decode cX6_takesOff 64 = .ok (.iadd, 1) := by decide +kernel
theorem dX6_takesOff_65 : decode cX6_takesOff 65 = .ok (.iaload, 1) := by decide +kernel
theorem dX6_takesOff_66 : decode cX6_takesOff 66 = .ok (.invokevirtual 52, 3) := by decide +kernel
theorem dX6_takesOff_69 : decode cX6_takesOff 69 = .ok (.iinc 3 1, 3) := by decide +kernel
theorem dX6_takesOff_72 : decode cX6_takesOff 72 = .ok (.goto (-54), 3) := by decide +kernel
theorem dX6_takesOff_75 : decode cX6_takesOff 75 = .ok (.return_, 1) := by decide +kernel
theorem dX6_isLaidAnywhere_0 : decode cX6_isLaidAnywhere 0 = .ok (.iconst 0, 1) := by decide +kernel
theorem dX6_isLaidAnywhere_1 : decode cX6_isLaidAnywhere 1 = .ok (.istore_n 2, 1) := by decide +kernel
theorem dX6_isLaidAnywhere_2 : decode cX6_isLaidAnywhere 2 = .ok (.iconst 0, 1) := by decide +kernel
theorem dX6_isLaidAnywhere_3 : decode cX6_isLaidAnywhere 3 = .ok (.istore_n 3, 1) := by decide +kernel
theorem dX6_isLaidAnywhere_4 : decode cX6_isLaidAnywhere 4 = .ok (.iload_n 3, 1) := by decide +kernel
theorem dX6_isLaidAnywhere_5 : decode cX6_isLaidAnywhere 5 = .ok (.aload_n 0, 1) := by decide +kernel
theorem dX6_isLaidAnywhere_6 : decode cX6_isLaidAnywhere 6 = .ok (.getfield 7, 3) := by decide +kernel
theorem dX6_isLaidAnywhere_9 : decode cX6_isLaidAnywhere 9 = .ok (.bipush 8, 2) := by decide +kernel
theorem dX6_isLaidAnywhere_11 : decode cX6_isLaidAnywhere 11 = .ok (.iaload, 1) := by decide +kernel
theorem dX6_isLaidAnywhere_12 : decode cX6_isLaidAnywhere 12 = .ok (.if_icmp .ge 28, 3) := by decide +kernel
theorem dX6_isLaidAnywhere_15 : decode cX6_isLaidAnywhere 15 = .ok (.iload_n 2, 1) := by decide +kernel
theorem dX6_isLaidAnywhere_16 : decode cX6_isLaidAnywhere 16 = .ok (.ifCond .ne 12, 3) := by decide +kernel
theorem dX6_isLaidAnywhere_19 : decode cX6_isLaidAnywhere 19 = .ok (.aload_n 0, 1) := by decide +kernel
theorem dX6_isLaidAnywhere_20 : decode cX6_isLaidAnywhere 20 = .ok (.iload_n 3, 1) := by decide +kernel
theorem dX6_isLaidAnywhere_21 : decode cX6_isLaidAnywhere 21 = .ok (.iload_n 1, 1) := by decide +kernel
theorem dX6_isLaidAnywhere_22 : decode cX6_isLaidAnywhere 22 = .ok (.invokevirtual 70, 3) := by decide +kernel
theorem dX6_isLaidAnywhere_25 : decode cX6_isLaidAnywhere 25 = .ok (.ifCond .eq 7, 3) := by decide +kernel
theorem dX6_isLaidAnywhere_28 : decode cX6_isLaidAnywhere 28 = .ok (.iconst 1, 1) := by decide +kernel
theorem dX6_isLaidAnywhere_29 : decode cX6_isLaidAnywhere 29 = .ok (.goto 4, 3) := by decide +kernel
theorem dX6_isLaidAnywhere_32 : decode cX6_isLaidAnywhere 32 = .ok (.iconst 0, 1) := by decide +kernel
theorem dX6_isLaidAnywhere_33 : decode cX6_isLaidAnywhere 33 = .ok (.istore_n 2, 1) := by decide +kernel
theorem dX6_isLaidAnywhere_34 : decode cX6_isLaidAnywhere 34 = .ok (.iinc 3 1, 3) := by decide +kernel
theorem dX6_isLaidAnywhere_37 : decode cX6_isLaidAnywhere 37 = .ok (.goto (-33), 3) := by decide +kernel
theorem dX6_isLaidAnywhere_40 : decode cX6_isLaidAnywhere 40 = .ok (.iload_n 2, 1) := by decide +kernel
theorem dX6_isLaidAnywhere_41 : decode cX6_isLaidAnywhere 41 = .ok (.ireturn, 1) := by decide +kernel
theorem dX6_gap_0 : decode cX6_gap 0 = .ok (.aload_n 0, 1) := by decide +kernel
theorem dX6_gap_1 : decode cX6_gap 1 = .ok (.iload_n 1, 1) := by decide +kernel
theorem dX6_gap_2 : decode cX6_gap 2 = .ok (.invokestatic 74, 3) := by decide +kernel
theorem dX6_gap_5 : decode cX6_gap 5 = .ok (.ifCond .ne 7, 3) := by decide +kernel
theorem dX6_gap_8 : decode cX6_gap 8 = .ok (.iconst 1, 1) := by decide +kernel
theorem dX6_gap_9 : decode cX6_gap 9 = .ok (.goto 30, 3) := by decide +kernel
theorem dX6_gap_12 : decode cX6_gap 12 = .ok (.iload_n 2, 1) := by decide +kernel
theorem dX6_gap_13 : decode cX6_gap 13 = .ok (.iconst 2, 1) := by decide +kernel
theorem dX6_gap_14 : decode cX6_gap 14 = .ok (.bipush 20, 2) := by decide +kernel
theorem dX6_gap_16 : decode cX6_gap 16 = .ok (.invokestatic 32, 3) := by decide +kernel
theorem dX6_gap_19 : decode cX6_gap 19 = .ok (.ifCond .ne 7, 3) := by decide +kernel
theorem dX6_gap_22 : decode cX6_gap 22 = .ok (.iconst 2, 1) := by decide +kernel
theorem dX6_gap_23 : decode cX6_gap 23 = .ok (.goto 16, 3) := by decide +kernel
theorem dX6_gap_26 : decode cX6_gap 26 = .ok (.aload_n 0, 1) := by decide +kernel
theorem dX6_gap_27 : decode cX6_gap 27 = .ok (.iload_n 1, 1) := by decide +kernel
theorem dX6_gap_28 : decode cX6_gap 28 = .ok (.invokevirtual 78, 3) := by decide +kernel
theorem dX6_gap_31 : decode cX6_gap 31 = .ok (.ifCond .eq 7, 3) := by decide +kernel
theorem dX6_gap_34 : decode cX6_gap 34 = .ok (.iconst 3, 1) := by decide +kernel
theorem dX6_gap_35 : decode cX6_gap 35 = .ok (.goto 4, 3) := by decide +kernel
theorem dX6_gap_38 : decode cX6_gap 38 = .ok (.iconst 0, 1) := by decide +kernel
theorem dX6_gap_39 : decode cX6_gap 39 = .ok (.invokevirtual 81, 3) := by decide +kernel
theorem dX6_gap_42 : decode cX6_gap 42 = .ok (.ifCond .ne 5, 3) := by decide +kernel
theorem dX6_gap_45 : decode cX6_gap 45 = .ok (.iconst 0, 1) := by decide +kernel
theorem dX6_gap_46 : decode cX6_gap 46 = .ok (.ireturn, 1) := by decide +kernel
theorem dX6_gap_47 : decode cX6_gap 47 = .ok (.aload_n 0, 1) := by decide +kernel
theorem dX6_gap_48 : decode cX6_gap 48 = .ok (.invokevirtual 84, 3) := by decide +kernel
theorem dX6_gap_51 : decode cX6_gap 51 = .ok (.aload_n 0, 1) := by decide +kernel
theorem dX6_gap_52 : decode cX6_gap 52 = .ok (.getfield 7, 3) := by decide +kernel
theorem dX6_gap_55 : decode cX6_gap 55 = .ok (.iconst 0, 1) := by decide +kernel
theorem dX6_gap_56 : decode cX6_gap 56 = .ok (.iload_n 1, 1) := by decide +kernel
theorem dX6_gap_57 : decode cX6_gap 57 = .ok (.iadd, 1) := by decide +kernel
theorem dX6_gap_58 : decode cX6_gap 58 = .ok (.iaload, 1) := by decide +kernel
theorem dX6_gap_59 : decode cX6_gap 59 = .ok (.istore_n 3, 1) := by decide +kernel
theorem dX6_gap_60 : decode cX6_gap 60 = .ok (.aload_n 0, 1) := by decide +kernel
theorem dX6_gap_61 : decode cX6_gap 61 = .ok (.getfield 7, 3) := by decide +kernel
theorem dX6_gap_64 : decode cX6_gap 64 = .ok (.iconst 0, 1) := by decide +kernel
theorem dX6_gap_65 : decode cX6_gap 65 = .ok (.iload_n 1, 1) := by decide +kernel
theorem dX6_gap_66 : decode cX6_gap 66 = .ok (.iadd, 1) := by decide +kernel
theorem dX6_gap_67 : decode cX6_gap 67 = .ok (.iload_n 2, 1) := by decide +kernel
theorem dX6_gap_68 : decode cX6_gap 68 = .ok (.iastore, 1) := by decide +kernel
theorem dX6_gap_69 : decode cX6_gap 69 = .ok (.iload_n 3, 1) := by decide +kernel
theorem dX6_gap_70 : decode cX6_gap 70 = .ok (.ireturn, 1) := by decide +kernel
theorem dX6_adds_0 : decode cX6_adds 0 = .ok (.aload_n 0, 1) := by decide +kernel
theorem dX6_adds_1 : decode cX6_adds 1 = .ok (.aload_n 0, 1) := by decide +kernel
theorem dX6_adds_2 : decode cX6_adds 2 = .ok (.getfield 7, 3) := by decide +kernel
theorem dX6_adds_5 : decode cX6_adds 5 = .ok (.bipush 8, 2) := by decide +kernel
theorem dX6_adds_7 : decode cX6_adds 7 = .ok (.iaload, 1) := by decide +kernel
theorem dX6_adds_8 : decode cX6_adds 8 = .ok (.iload_n 1, 1) := by decide +kernel
theorem dX6_adds_9 : decode cX6_adds 9 = .ok (.invokevirtual 66, 3) := by decide +kernel
theorem dX6_adds_12 : decode cX6_adds 12 = .ok (.aload_n 0, 1) := by decide +kernel
theorem dX6_adds_13 : decode cX6_adds 13 = .ok (.getfield 7, 3) := by decide +kernel
theorem dX6_adds_16 : decode cX6_adds 16 = .ok (.bipush 8, 2) := by decide +kernel
theorem dX6_adds_18 : decode cX6_adds 18 = .ok (.dup2, 1) := by decide +kernel
theorem dX6_adds_19 : decode cX6_adds 19 = .ok (.iaload, 1) := by decide +kernel
theorem dX6_adds_20 : decode cX6_adds 20 = .ok (.iconst 1, 1) := by decide +kernel
theorem dX6_adds_21 : decode cX6_adds 21 = .ok (.iadd, 1) := by decide +kernel
theorem dX6_adds_22 : decode cX6_adds 22 = .ok (.iastore, 1) := by decide +kernel
theorem dX6_adds_23 : decode cX6_adds 23 = .ok (.return_, 1) := by decide +kernel
theorem dX6_rope_0 : decode cX6_rope 0 = .ok (.aload_n 0, 1) := by decide +kernel
theorem dX6_rope_1 : decode cX6_rope 1 = .ok (.iload_n 1, 1) := by decide +kernel
theorem dX6_rope_2 : decode cX6_rope 2 = .ok (.iconst 1, 1) := by decide +kernel
theorem dX6_rope_3 : decode cX6_rope 3 = .ok (.bipush 60, 2) := by decide +kernel
theorem dX6_rope_5 : decode cX6_rope 5 = .ok (.invokestatic 32, 3) := by decide +kernel
theorem dX6_rope_8 : decode cX6_rope 8 = .ok (.ifCond .ne 7, 3) := by decide +kernel
theorem dX6_rope_11 : decode cX6_rope 11 = .ok (.iconst 1, 1) := by decide +kernel
theorem dX6_rope_12 : decode cX6_rope 12 = .ok (.goto 19, 3) := by decide +kernel
theorem dX6_rope_15 : decode cX6_rope 15 = .ok (.aload_n 0, 1) := by decide +kernel
theorem dX6_rope_16 : decode cX6_rope 16 = .ok (.getfield 7, 3) := by decide +kernel
theorem dX6_rope_19 : decode cX6_rope 19 = .ok (.bipush 8, 2) := by decide +kernel
theorem dX6_rope_21 : decode cX6_rope 21 = .ok (.iaload, 1) := by decide +kernel
theorem dX6_rope_22 : decode cX6_rope 22 = .ok (.iconst 4, 1) := by decide +kernel
theorem dX6_rope_23 : decode cX6_rope 23 = .ok (.if_icmp .ne 7, 3) := by decide +kernel
theorem dX6_rope_26 : decode cX6_rope 26 = .ok (.iconst 2, 1) := by decide +kernel
theorem dX6_rope_27 : decode cX6_rope 27 = .ok (.goto 4, 3) := by decide +kernel
theorem dX6_rope_30 : decode cX6_rope 30 = .ok (.iconst 0, 1) := by decide +kernel
theorem dX6_rope_31 : decode cX6_rope 31 = .ok (.invokevirtual 81, 3) := by decide +kernel
theorem dX6_rope_34 : decode cX6_rope 34 = .ok (.ifCond .ne 5, 3) := by decide +kernel
theorem dX6_rope_37 : decode cX6_rope 37 = .ok (.iconst 0, 1) := by decide +kernel
theorem dX6_rope_38 : decode cX6_rope 38 = .ok (.ireturn, 1) := by decide +kernel
theorem dX6_rope_39 : decode cX6_rope 39 = .ok (.aload_n 0, 1) := by decide +kernel
theorem dX6_rope_40 : decode cX6_rope 40 = .ok (.invokevirtual 84, 3) := by decide +kernel
theorem dX6_rope_43 : decode cX6_rope 43 = .ok (.aload_n 0, 1) := by decide +kernel
theorem dX6_rope_44 : decode cX6_rope 44 = .ok (.iload_n 1, 1) := by decide +kernel
theorem dX6_rope_45 : decode cX6_rope 45 = .ok (.invokevirtual 87, 3) := by decide +kernel
theorem dX6_rope_48 : decode cX6_rope 48 = .ok (.aload_n 0, 1) := by decide +kernel
theorem dX6_rope_49 : decode cX6_rope 49 = .ok (.getfield 7, 3) := by decide +kernel
theorem dX6_rope_52 : decode cX6_rope 52 = .ok (.bipush 8, 2) := by decide +kernel
theorem dX6_rope_54 : decode cX6_rope 54 = .ok (.iaload, 1) := by decide +kernel
theorem dX6_rope_55 : decode cX6_rope 55 = .ok (.iconst 1, 1) := by decide +kernel
theorem dX6_rope_56 : decode cX6_rope 56 = .ok (.isub, 1) := by decide +kernel
theorem dX6_rope_57 : decode cX6_rope 57 = .ok (.ireturn, 1) := by decide +kernel
theorem dX6_drop_0 : decode cX6_drop 0 = .ok (.aload_n 0, 1) := by decide +kernel
theorem dX6_drop_1 : decode cX6_drop 1 = .ok (.aload_n 0, 1) := by decide +kernel
theorem dX6_drop_2 : decode cX6_drop 2 = .ok (.iload_n 1, 1) := by decide +kernel
theorem dX6_drop_3 : decode cX6_drop 3 = .ok (.invokevirtual 90, 3) := by decide +kernel
theorem dX6_drop_6 : decode cX6_drop 6 = .ok (.ifCond .eq 7, 3) := by decide +kernel
theorem dX6_drop_9 : decode cX6_drop 9 = .ok (.iconst 0, 1) := by decide +kernel
theorem dX6_drop_10 : decode cX6_drop 10 = .ok (.goto 4, 3) := by decide +kernel
theorem dX6_drop_13 : decode cX6_drop 13 = .ok (.iconst 1, 1) := by decide +kernel
theorem dX6_drop_14 : decode cX6_drop 14 = .ok (.invokevirtual 81, 3) := by decide +kernel
theorem dX6_drop_17 : decode cX6_drop 17 = .ok (.ifCond .ne 5, 3) := by decide +kernel
theorem dX6_drop_20 : decode cX6_drop 20 = .ok (.iconst 0, 1) := by decide +kernel
theorem dX6_drop_21 : decode cX6_drop 21 = .ok (.ireturn, 1) := by decide +kernel
theorem dX6_drop_22 : decode cX6_drop 22 = .ok (.aload_n 0, 1) := by decide +kernel
theorem dX6_drop_23 : decode cX6_drop 23 = .ok (.invokevirtual 84, 3) := by decide +kernel
theorem dX6_drop_26 : decode cX6_drop 26 = .ok (.aload_n 0, 1) := by decide +kernel
theorem dX6_drop_27 : decode cX6_drop 27 = .ok (.iload_n 1, 1) := by decide +kernel
theorem dX6_drop_28 : decode cX6_drop 28 = .ok (.invokevirtual 93, 3) := by decide +kernel
theorem dX6_drop_31 : decode cX6_drop 31 = .ok (.aload_n 0, 1) := by decide +kernel
theorem dX6_drop_32 : decode cX6_drop 32 = .ok (.getfield 7, 3) := by decide +kernel
theorem dX6_drop_35 : decode cX6_drop 35 = .ok (.bipush 8, 2) := by decide +kernel
theorem dX6_drop_37 : decode cX6_drop 37 = .ok (.iaload, 1) := by decide +kernel
theorem dX6_drop_38 : decode cX6_drop 38 = .ok (.ireturn, 1) := by decide +kernel
theorem dX6_why_0 : decode cX6_why 0 = .ok (.aload_n 0, 1) := by decide +kernel
theorem dX6_why_1 : decode cX6_why 1 = .ok (.iload_n 1, 1) := by decide +kernel
theorem dX6_why_2 : decode cX6_why 2 = .ok (.iload_n 2, 1) := by decide +kernel
theorem dX6_why_3 : decode cX6_why 3 = .ok (.invokevirtual 70, 3) := by decide +kernel
theorem dX6_why_6 : decode cX6_why 6 = .ok (.ifCond .eq 5, 3) := by decide +kernel
theorem dX6_why_9 : decode cX6_why 9 = .ok (.iconst 1, 1) := by decide +kernel
theorem dX6_why_10 : decode cX6_why 10 = .ok (.ireturn, 1) := by decide +kernel
theorem dX6_why_11 : decode cX6_why 11 = .ok (.iload_n 3, 1) := by decide +kernel
theorem dX6_why_12 : decode cX6_why 12 = .ok (.aload_n 0, 1) := by decide +kernel
theorem dX6_why_13 : decode cX6_why 13 = .ok (.getfield 7, 3) := by decide +kernel
theorem dX6_why_16 : decode cX6_why 16 = .ok (.iload_n 1, 1) := by decide +kernel
theorem dX6_why_17 : decode cX6_why 17 = .ok (.iconst 0, 1) := by decide +kernel
theorem dX6_why_18 : decode cX6_why 18 = .ok (.invokestatic 36, 3) := by decide +kernel
theorem dX6_why_21 : decode cX6_why 21 = .ok (.iaload, 1) := by decide +kernel
theorem dX6_why_22 : decode cX6_why 22 = .ok (.if_icmp .lt 5, 3) := by decide +kernel
theorem dX6_why_25 : decode cX6_why 25 = .ok (.iconst 2, 1) := by decide +kernel
theorem dX6_why_26 : decode cX6_why 26 = .ok (.ireturn, 1) := by decide +kernel
theorem dX6_why_27 : decode cX6_why 27 = .ok (.iconst 0, 1) := by decide +kernel
theorem dX6_why_28 : decode cX6_why 28 = .ok (.istore 4, 2) := by decide +kernel
theorem dX6_why_30 : decode cX6_why 30 = .ok (.iload_n 3, 1) := by decide +kernel
theorem dX6_why_31 : decode cX6_why 31 = .ok (.istore 5, 2) := by decide +kernel
theorem dX6_why_33 : decode cX6_why 33 = .ok (.iload 5, 2) := by decide +kernel
theorem dX6_why_35 : decode cX6_why 35 = .ok (.aload_n 0, 1) := by decide +kernel
theorem dX6_why_36 : decode cX6_why 36 = .ok (.getfield 7, 3) := by decide +kernel
theorem dX6_why_39 : decode cX6_why 39 = .ok (.iload_n 1, 1) := by decide +kernel
theorem dX6_why_40 : decode cX6_why 40 = .ok (.iconst 0, 1) := by decide +kernel
theorem dX6_why_41 : decode cX6_why 41 = .ok (.invokestatic 36, 3) := by decide +kernel
theorem dX6_why_44 : decode cX6_why 44 = .ok (.iaload, 1) := by decide +kernel
theorem dX6_why_45 : decode cX6_why 45 = .ok (.if_icmp .ge 42, 3) := by decide +kernel
theorem dX6_why_48 : decode cX6_why 48 = .ok (.iload 4, 2) := by decide +kernel
theorem dX6_why_50 : decode cX6_why 50 = .ok (.ifCond .ne 14, 3) := by decide +kernel
theorem dX6_why_53 : decode cX6_why 53 = .ok (.aload_n 0, 1) := by decide +kernel
theorem dX6_why_54 : decode cX6_why 54 = .ok (.iload_n 1, 1) := by decide +kernel
theorem dX6_why_55 : decode cX6_why 55 = .ok (.iload 5, 2) := by decide +kernel
theorem dX6_why_57 : decode cX6_why 57 = .ok (.invokevirtual 63, 3) := by decide +kernel
theorem dX6_why_60 : decode cX6_why 60 = .ok (.iconst (-1), 1) := by decide +kernel
theorem dX6_why_61 : decode cX6_why 61 = .ok (.if_icmp .eq 7, 3) := by decide +kernel
theorem dX6_why_64 : decode cX6_why 64 = .ok (.iconst 1, 1) := by decide +kernel
theorem dX6_why_65 : decode cX6_why 65 = .ok (.goto 4, 3) := by decide +kernel
theorem dX6_why_68 : decode cX6_why 68 = .ok (.iconst 0, 1) := by decide +kernel
theorem dX6_why_69 : decode cX6_why 69 = .ok (.istore 4, 2) := by decide +kernel
theorem dX6_why_71 : decode cX6_why 71 = .ok (.iload 5, 2) := by decide +kernel
theorem dX6_why_73 : decode cX6_why 73 = .ok (.aload_n 0, 1) := by decide +kernel
theorem dX6_why_74 : decode cX6_why 74 = .ok (.getfield 7, 3) := by decide +kernel
theorem dX6_why_77 : decode cX6_why 77 = .ok (.iconst 0, 1) := by decide +kernel
theorem dX6_why_78 : decode cX6_why 78 = .ok (.iload_n 2, 1) := by decide +kernel
theorem dX6_why_79 : decode cX6_why 79 = .ok (.iadd, 1) := by decide +kernel
theorem dX6_why_80 : decode cX6_why 80 = .ok (.iaload, 1) := by decide +kernel
theorem dX6_why_81 : decode cX6_why 81 = .ok (.iadd, 1) := by decide +kernel
theorem dX6_why_82 : decode cX6_why 82 = .ok (.istore 5, 2) := by decide +kernel
theorem dX6_why_84 : decode cX6_why 84 = .ok (.goto (-51), 3) := by decide +kernel
theorem dX6_why_87 : decode cX6_why 87 = .ok (.iload 4, 2) := by decide +kernel
theorem dX6_why_89 : decode cX6_why 89 = .ok (.ifCond .eq 7, 3) := by decide +kernel
theorem dX6_why_92 : decode cX6_why 92 = .ok (.iconst 3, 1) := by decide +kernel
theorem dX6_why_93 : decode cX6_why 93 = .ok (.goto 4, 3) := by decide +kernel
theorem dX6_why_96 : decode cX6_why 96 = .ok (.iconst 0, 1) := by decide +kernel
theorem dX6_why_97 : decode cX6_why 97 = .ok (.ireturn, 1) := by decide +kernel
theorem dX6_areThere_0 : decode cX6_areThere 0 = .ok (.aload_n 0, 1) := by decide +kernel
theorem dX6_areThere_1 : decode cX6_areThere 1 = .ok (.iload_n 1, 1) := by decide +kernel
theorem dX6_areThere_2 : decode cX6_areThere 2 = .ok (.invokevirtual 90, 3) := by decide +kernel
theorem dX6_areThere_5 : decode cX6_areThere 5 = .ok (.ifCond .eq 14, 3) := by decide +kernel
theorem dX6_areThere_8 : decode cX6_areThere 8 = .ok (.iload_n 2, 1) := by decide +kernel
theorem dX6_areThere_9 : decode cX6_areThere 9 = .ok (.invokestatic 74, 3) := by decide +kernel
theorem dX6_areThere_12 : decode cX6_areThere 12 = .ok (.ifCond .eq 7, 3) := by decide +kernel
theorem dX6_areThere_15 : decode cX6_areThere 15 = .ok (.iconst 1, 1) := by decide +kernel
theorem dX6_areThere_16 : decode cX6_areThere 16 = .ok (.goto 4, 3) := by decide +kernel
theorem dX6_areThere_19 : decode cX6_areThere 19 = .ok (.iconst 0, 1) := by decide +kernel
theorem dX6_areThere_20 : decode cX6_areThere 20 = .ok (.ireturn, 1) := by decide +kernel
theorem dX6_lay_0 : decode cX6_lay 0 = .ok (.aload_n 0, 1) := by decide +kernel
theorem dX6_lay_1 : decode cX6_lay 1 = .ok (.aload_n 0, 1) := by decide +kernel
theorem dX6_lay_2 : decode cX6_lay 2 = .ok (.iload_n 1, 1) := by decide +kernel
theorem dX6_lay_3 : decode cX6_lay 3 = .ok (.iload_n 2, 1) := by decide +kernel
theorem dX6_lay_4 : decode cX6_lay 4 = .ok (.invokevirtual 96, 3) := by decide +kernel
theorem dX6_lay_7 : decode cX6_lay 7 = .ok (.ifCond .ne 7, 3) := by decide +kernel
theorem dX6_lay_10 : decode cX6_lay 10 = .ok (.iconst 1, 1) := by decide +kernel
theorem dX6_lay_11 : decode cX6_lay 11 = .ok (.goto 31, 3) := by decide +kernel
theorem dX6_lay_14 : decode cX6_lay 14 = .ok (.aload_n 0, 1) := by decide +kernel
theorem dX6_lay_15 : decode cX6_lay 15 = .ok (.iload_n 2, 1) := by decide +kernel
theorem dX6_lay_16 : decode cX6_lay 16 = .ok (.iload_n 3, 1) := by decide +kernel
theorem dX6_lay_17 : decode cX6_lay 17 = .ok (.invokevirtual 99, 3) := by decide +kernel
theorem dX6_lay_20 : decode cX6_lay 20 = .ok (.ifCond .ne 7, 3) := by decide +kernel
theorem dX6_lay_23 : decode cX6_lay 23 = .ok (.iconst 2, 1) := by decide +kernel
theorem dX6_lay_24 : decode cX6_lay 24 = .ok (.goto 18, 3) := by decide +kernel
theorem dX6_lay_27 : decode cX6_lay 27 = .ok (.aload_n 0, 1) := by decide +kernel
theorem dX6_lay_28 : decode cX6_lay 28 = .ok (.iload_n 1, 1) := by decide +kernel
theorem dX6_lay_29 : decode cX6_lay 29 = .ok (.iload_n 2, 1) := by decide +kernel
theorem dX6_lay_30 : decode cX6_lay 30 = .ok (.iload_n 3, 1) := by decide +kernel
theorem dX6_lay_31 : decode cX6_lay 31 = .ok (.invokevirtual 102, 3) := by decide +kernel
theorem dX6_lay_34 : decode cX6_lay 34 = .ok (.ifCond .le 7, 3) := by decide +kernel
theorem dX6_lay_37 : decode cX6_lay 37 = .ok (.iconst 3, 1) := by decide +kernel
theorem dX6_lay_38 : decode cX6_lay 38 = .ok (.goto 4, 3) := by decide +kernel
theorem dX6_lay_41 : decode cX6_lay 41 = .ok (.iconst 0, 1) := by decide +kernel
theorem dX6_lay_42 : decode cX6_lay 42 = .ok (.invokevirtual 81, 3) := by decide +kernel
theorem dX6_lay_45 : decode cX6_lay 45 = .ok (.ifCond .ne 5, 3) := by decide +kernel
theorem dX6_lay_48 : decode cX6_lay 48 = .ok (.iconst 0, 1) := by decide +kernel
theorem dX6_lay_49 : decode cX6_lay 49 = .ok (.ireturn, 1) := by decide +kernel
theorem dX6_lay_50 : decode cX6_lay 50 = .ok (.aload_n 0, 1) := by decide +kernel
theorem dX6_lay_51 : decode cX6_lay 51 = .ok (.invokevirtual 84, 3) := by decide +kernel
theorem dX6_lay_54 : decode cX6_lay 54 = .ok (.aload_n 0, 1) := by decide +kernel
theorem dX6_lay_55 : decode cX6_lay 55 = .ok (.iload_n 1, 1) := by decide +kernel
theorem dX6_lay_56 : decode cX6_lay 56 = .ok (.iload_n 2, 1) := by decide +kernel
theorem dX6_lay_57 : decode cX6_lay 57 = .ok (.iload_n 3, 1) := by decide +kernel
theorem dX6_lay_58 : decode cX6_lay 58 = .ok (.invokevirtual 52, 3) := by decide +kernel
theorem dX6_lay_61 : decode cX6_lay 61 = .ok (.aload_n 0, 1) := by decide +kernel
theorem dX6_lay_62 : decode cX6_lay 62 = .ok (.getfield 7, 3) := by decide +kernel
theorem dX6_lay_65 : decode cX6_lay 65 = .ok (.bipush 9, 2) := by decide +kernel
theorem dX6_lay_67 : decode cX6_lay 67 = .ok (.dup2, 1) := by decide +kernel
theorem dX6_lay_68 : decode cX6_lay 68 = .ok (.iaload, 1) := by decide +kernel
theorem dX6_lay_69 : decode cX6_lay 69 = .ok (.iconst 1, 1) := by decide +kernel
theorem dX6_lay_70 : decode cX6_lay 70 = .ok (.iadd, 1) := by decide +kernel
theorem dX6_lay_71 : decode cX6_lay 71 = .ok (.iastore, 1) := by decide +kernel
theorem dX6_lay_72 : decode cX6_lay 72 = .ok (.aload_n 0, 1) := by decide +kernel
theorem dX6_lay_73 : decode cX6_lay 73 = .ok (.iload_n 1, 1) := by decide +kernel
theorem dX6_lay_74 : decode cX6_lay 74 = .ok (.iload_n 2, 1) := by decide +kernel
theorem dX6_lay_75 : decode cX6_lay 75 = .ok (.invokevirtual 106, 3) := by decide +kernel
theorem dX6_lay_78 : decode cX6_lay 78 = .ok (.ireturn, 1) := by decide +kernel
theorem dX6_take_0 : decode cX6_take 0 = .ok (.aload_n 0, 1) := by decide +kernel
theorem dX6_take_1 : decode cX6_take 1 = .ok (.aload_n 0, 1) := by decide +kernel
theorem dX6_take_2 : decode cX6_take 2 = .ok (.iload_n 1, 1) := by decide +kernel
theorem dX6_take_3 : decode cX6_take 3 = .ok (.iload_n 2, 1) := by decide +kernel
theorem dX6_take_4 : decode cX6_take 4 = .ok (.invokevirtual 96, 3) := by decide +kernel
theorem dX6_take_7 : decode cX6_take 7 = .ok (.ifCond .ne 7, 3) := by decide +kernel
theorem dX6_take_10 : decode cX6_take 10 = .ok (.iconst 1, 1) := by decide +kernel
theorem dX6_take_11 : decode cX6_take 11 = .ok (.goto 17, 3) := by decide +kernel
theorem dX6_take_14 : decode cX6_take 14 = .ok (.aload_n 0, 1) := by decide +kernel
theorem dX6_take_15 : decode cX6_take 15 = .ok (.iload_n 1, 1) := by decide +kernel
theorem dX6_take_16 : decode cX6_take 16 = .ok (.iload_n 2, 1) := by decide +kernel
theorem dX6_take_17 : decode cX6_take 17 = .ok (.invokevirtual 70, 3) := by decide +kernel
theorem dX6_take_20 : decode cX6_take 20 = .ok (.ifCond .ne 7, 3) := by decide +kernel
theorem dX6_take_23 : decode cX6_take 23 = .ok (.iconst 2, 1) := by decide +kernel
theorem dX6_take_24 : decode cX6_take 24 = .ok (.goto 4, 3) := by decide +kernel
theorem dX6_take_27 : decode cX6_take 27 = .ok (.iconst 0, 1) := by decide +kernel
theorem dX6_take_28 : decode cX6_take 28 = .ok (.invokevirtual 81, 3) := by decide +kernel
theorem dX6_take_31 : decode cX6_take 31 = .ok (.ifCond .ne 5, 3) := by decide +kernel
theorem dX6_take_34 : decode cX6_take 34 = .ok (.iconst 0, 1) := by decide +kernel
theorem dX6_take_35 : decode cX6_take 35 = .ok (.ireturn, 1) := by decide +kernel
theorem dX6_take_36 : decode cX6_take 36 = .ok (.aload_n 0, 1) := by decide +kernel
theorem dX6_take_37 : decode cX6_take 37 = .ok (.invokevirtual 84, 3) := by decide +kernel
theorem dX6_take_40 : decode cX6_take 40 = .ok (.aload_n 0, 1) := by decide +kernel
theorem dX6_take_41 : decode cX6_take 41 = .ok (.iload_n 1, 1) := by decide +kernel
theorem dX6_take_42 : decode cX6_take 42 = .ok (.iload_n 2, 1) := by decide +kernel
theorem dX6_take_43 : decode cX6_take 43 = .ok (.invokevirtual 106, 3) := by decide +kernel
theorem dX6_take_46 : decode cX6_take 46 = .ok (.istore_n 3, 1) := by decide +kernel
theorem dX6_take_47 : decode cX6_take 47 = .ok (.aload_n 0, 1) := by decide +kernel
theorem dX6_take_48 : decode cX6_take 48 = .ok (.iload_n 1, 1) := by decide +kernel
theorem dX6_take_49 : decode cX6_take 49 = .ok (.iload_n 2, 1) := by decide +kernel
theorem dX6_take_50 : decode cX6_take 50 = .ok (.invokevirtual 109, 3) := by decide +kernel
theorem dX6_take_53 : decode cX6_take 53 = .ok (.iload_n 3, 1) := by decide +kernel
theorem dX6_take_54 : decode cX6_take 54 = .ok (.ireturn, 1) := by decide +kernel
theorem dX6_stretch_0 : decode cX6_stretch 0 = .ok (.aload_n 0, 1) := by decide +kernel
theorem dX6_stretch_1 : decode cX6_stretch 1 = .ok (.aload_n 0, 1) := by decide +kernel
theorem dX6_stretch_2 : decode cX6_stretch 2 = .ok (.iload_n 1, 1) := by decide +kernel
theorem dX6_stretch_3 : decode cX6_stretch 3 = .ok (.invokevirtual 90, 3) := by decide +kernel
theorem dX6_stretch_6 : decode cX6_stretch 6 = .ok (.ifCond .ne 7, 3) := by decide +kernel
theorem dX6_stretch_9 : decode cX6_stretch 9 = .ok (.iconst 1, 1) := by decide +kernel
theorem dX6_stretch_10 : decode cX6_stretch 10 = .ok (.goto 31, 3) := by decide +kernel
theorem dX6_stretch_13 : decode cX6_stretch 13 = .ok (.iload_n 2, 1) := by decide +kernel
theorem dX6_stretch_14 : decode cX6_stretch 14 = .ok (.iconst 1, 1) := by decide +kernel
theorem dX6_stretch_15 : decode cX6_stretch 15 = .ok (.bipush 60, 2) := by decide +kernel
theorem dX6_stretch_17 : decode cX6_stretch 17 = .ok (.invokestatic 32, 3) := by decide +kernel
theorem dX6_stretch_20 : decode cX6_stretch 20 = .ok (.ifCond .ne 7, 3) := by decide +kernel
theorem dX6_stretch_23 : decode cX6_stretch 23 = .ok (.iconst 2, 1) := by decide +kernel
theorem dX6_stretch_24 : decode cX6_stretch 24 = .ok (.goto 17, 3) := by decide +kernel
theorem dX6_stretch_27 : decode cX6_stretch 27 = .ok (.iload_n 2, 1) := by decide +kernel
theorem dX6_stretch_28 : decode cX6_stretch 28 = .ok (.aload_n 0, 1) := by decide +kernel
theorem dX6_stretch_29 : decode cX6_stretch 29 = .ok (.iload_n 1, 1) := by decide +kernel
theorem dX6_stretch_30 : decode cX6_stretch 30 = .ok (.invokevirtual 112, 3) := by decide +kernel
theorem dX6_stretch_33 : decode cX6_stretch 33 = .ok (.if_icmp .le 7, 3) := by decide +kernel
theorem dX6_stretch_36 : decode cX6_stretch 36 = .ok (.iconst 3, 1) := by decide +kernel
theorem dX6_stretch_37 : decode cX6_stretch 37 = .ok (.goto 4, 3) := by decide +kernel
theorem dX6_stretch_40 : decode cX6_stretch 40 = .ok (.iconst 0, 1) := by decide +kernel
theorem dX6_stretch_41 : decode cX6_stretch 41 = .ok (.invokevirtual 81, 3) := by decide +kernel
theorem dX6_stretch_44 : decode cX6_stretch 44 = .ok (.ifCond .ne 5, 3) := by decide +kernel
theorem dX6_stretch_47 : decode cX6_stretch 47 = .ok (.iconst 0, 1) := by decide +kernel
theorem dX6_stretch_48 : decode cX6_stretch 48 = .ok (.ireturn, 1) := by decide +kernel
theorem dX6_stretch_49 : decode cX6_stretch 49 = .ok (.aload_n 0, 1) := by decide +kernel
theorem dX6_stretch_50 : decode cX6_stretch 50 = .ok (.invokevirtual 84, 3) := by decide +kernel
theorem dX6_stretch_53 : decode cX6_stretch 53 = .ok (.aload_n 0, 1) := by decide +kernel
theorem dX6_stretch_54 : decode cX6_stretch 54 = .ok (.iload_n 1, 1) := by decide +kernel
theorem dX6_stretch_55 : decode cX6_stretch 55 = .ok (.invokevirtual 56, 3) := by decide +kernel
theorem dX6_stretch_58 : decode cX6_stretch 58 = .ok (.aload_n 0, 1) := by decide +kernel
theorem dX6_stretch_59 : decode cX6_stretch 59 = .ok (.iload_n 1, 1) := by decide +kernel
theorem dX6_stretch_60 : decode cX6_stretch 60 = .ok (.iload_n 2, 1) := by decide +kernel
theorem dX6_stretch_61 : decode cX6_stretch 61 = .ok (.invokevirtual 66, 3) := by decide +kernel
theorem dX6_stretch_64 : decode cX6_stretch 64 = .ok (.aload_n 0, 1) := by decide +kernel
theorem dX6_stretch_65 : decode cX6_stretch 65 = .ok (.iload_n 1, 1) := by decide +kernel
theorem dX6_stretch_66 : decode cX6_stretch 66 = .ok (.iconst 0, 1) := by decide +kernel
theorem dX6_stretch_67 : decode cX6_stretch 67 = .ok (.invokevirtual 116, 3) := by decide +kernel
theorem dX6_stretch_70 : decode cX6_stretch 70 = .ok (.aload_n 0, 1) := by decide +kernel
theorem dX6_stretch_71 : decode cX6_stretch 71 = .ok (.getfield 25, 3) := by decide +kernel
theorem dX6_stretch_74 : decode cX6_stretch 74 = .ok (.iconst 1, 1) := by decide +kernel
theorem dX6_stretch_75 : decode cX6_stretch 75 = .ok (.iaload, 1) := by decide +kernel
theorem dX6_stretch_76 : decode cX6_stretch 76 = .ok (.aload_n 0, 1) := by decide +kernel
theorem dX6_stretch_77 : decode cX6_stretch 77 = .ok (.getfield 7, 3) := by decide +kernel
theorem dX6_stretch_80 : decode cX6_stretch 80 = .ok (.iload_n 1, 1) := by decide +kernel
theorem dX6_stretch_81 : decode cX6_stretch 81 = .ok (.iconst 1, 1) := by decide +kernel
theorem dX6_stretch_82 : decode cX6_stretch 82 = .ok (.invokestatic 36, 3) := by decide +kernel
theorem dX6_stretch_85 : decode cX6_stretch 85 = .ok (.iaload, 1) := by decide +kernel
theorem dX6_stretch_86 : decode cX6_stretch 86 = .ok (.isub, 1) := by decide +kernel
theorem dX6_stretch_87 : decode cX6_stretch 87 = .ok (.ireturn, 1) := by decide +kernel
theorem dX6_cut_0 : decode cX6_cut 0 = .ok (.aload_n 0, 1) := by decide +kernel
theorem dX6_cut_1 : decode cX6_cut 1 = .ok (.iload_n 1, 1) := by decide +kernel
theorem dX6_cut_2 : decode cX6_cut 2 = .ok (.invokevirtual 90, 3) := by decide +kernel
theorem dX6_cut_5 : decode cX6_cut 5 = .ok (.istore_n 3, 1) := by decide +kernel
theorem dX6_cut_6 : decode cX6_cut 6 = .ok (.aload_n 0, 1) := by decide +kernel
theorem dX6_cut_7 : decode cX6_cut 7 = .ok (.iload_n 3, 1) := by decide +kernel
theorem dX6_cut_8 : decode cX6_cut 8 = .ok (.ifCond .ne 7, 3) := by decide +kernel
theorem dX6_cut_11 : decode cX6_cut 11 = .ok (.iconst 1, 1) := by decide +kernel
theorem dX6_cut_12 : decode cX6_cut 12 = .ok (.goto 43, 3) := by decide +kernel
theorem dX6_cut_15 : decode cX6_cut 15 = .ok (.iload_n 2, 1) := by decide +kernel
theorem dX6_cut_16 : decode cX6_cut 16 = .ok (.iconst 1, 1) := by decide +kernel
theorem dX6_cut_17 : decode cX6_cut 17 = .ok (.aload_n 0, 1) := by decide +kernel
theorem dX6_cut_18 : decode cX6_cut 18 = .ok (.getfield 7, 3) := by decide +kernel
theorem dX6_cut_21 : decode cX6_cut 21 = .ok (.iload_n 1, 1) := by decide +kernel
theorem dX6_cut_22 : decode cX6_cut 22 = .ok (.iconst 0, 1) := by decide +kernel
theorem dX6_cut_23 : decode cX6_cut 23 = .ok (.invokestatic 36, 3) := by decide +kernel
theorem dX6_cut_26 : decode cX6_cut 26 = .ok (.iaload, 1) := by decide +kernel
theorem dX6_cut_27 : decode cX6_cut 27 = .ok (.iconst 1, 1) := by decide +kernel
theorem dX6_cut_28 : decode cX6_cut 28 = .ok (.isub, 1) := by decide +kernel
theorem dX6_cut_29 : decode cX6_cut 29 = .ok (.invokestatic 32, 3) := by decide +kernel
theorem dX6_cut_32 : decode cX6_cut 32 = .ok (.ifCond .ne 7, 3) := by decide +kernel
theorem dX6_cut_35 : decode cX6_cut 35 = .ok (.iconst 2, 1) := by decide +kernel
theorem dX6_cut_36 : decode cX6_cut 36 = .ok (.goto 19, 3) := by decide +kernel
theorem dX6_cut_39 : decode cX6_cut 39 = .ok (.aload_n 0, 1) := by decide +kernel
theorem dX6_cut_40 : decode cX6_cut 40 = .ok (.getfield 7, 3) := by decide +kernel
theorem dX6_cut_43 : decode cX6_cut 43 = .ok (.bipush 8, 2) := by decide +kernel
theorem dX6_cut_45 : decode cX6_cut 45 = .ok (.iaload, 1) := by decide +kernel
theorem dX6_cut_46 : decode cX6_cut 46 = .ok (.iconst 4, 1) := by decide +kernel
theorem dX6_cut_47 : decode cX6_cut 47 = .ok (.if_icmp .ne 7, 3) := by decide +kernel
theorem dX6_cut_50 : decode cX6_cut 50 = .ok (.iconst 3, 1) := by decide +kernel
theorem dX6_cut_51 : decode cX6_cut 51 = .ok (.goto 4, 3) := by decide +kernel
theorem dX6_cut_54 : decode cX6_cut 54 = .ok (.iconst 0, 1) := by decide +kernel
theorem dX6_cut_55 : decode cX6_cut 55 = .ok (.invokevirtual 81, 3) := by decide +kernel
theorem dX6_cut_58 : decode cX6_cut 58 = .ok (.ifCond .ne 5, 3) := by decide +kernel
theorem dX6_cut_61 : decode cX6_cut 61 = .ok (.iconst 0, 1) := by decide +kernel
theorem dX6_cut_62 : decode cX6_cut 62 = .ok (.ireturn, 1) := by decide +kernel
theorem dX6_cut_63 : decode cX6_cut 63 = .ok (.aload_n 0, 1) := by decide +kernel
theorem dX6_cut_64 : decode cX6_cut 64 = .ok (.invokevirtual 84, 3) := by decide +kernel
theorem dX6_cut_67 : decode cX6_cut 67 = .ok (.aload_n 0, 1) := by decide +kernel
theorem dX6_cut_68 : decode cX6_cut 68 = .ok (.iload_n 1, 1) := by decide +kernel
theorem dX6_cut_69 : decode cX6_cut 69 = .ok (.invokevirtual 56, 3) := by decide +kernel
theorem dX6_cut_72 : decode cX6_cut 72 = .ok (.aload_n 0, 1) := by decide +kernel
theorem dX6_cut_73 : decode cX6_cut 73 = .ok (.aload_n 0, 1) := by decide +kernel
theorem dX6_cut_74 : decode cX6_cut 74 = .ok (.getfield 25, 3) := by decide +kernel
theorem dX6_cut_77 : decode cX6_cut 77 = .ok (.iconst 0, 1) := by decide +kernel
theorem dX6_cut_78 : decode cX6_cut 78 = .ok (.iaload, 1) := by decide +kernel
theorem dX6_cut_79 : decode cX6_cut 79 = .ok (.iload_n 2, 1) := by decide +kernel
theorem dX6_cut_80 : decode cX6_cut 80 = .ok (.isub, 1) := by decide +kernel
theorem dX6_cut_81 : decode cX6_cut 81 = .ok (.invokevirtual 87, 3) := by decide +kernel
theorem dX6_cut_84 : decode cX6_cut 84 = .ok (.aload_n 0, 1) := by decide +kernel
theorem dX6_cut_85 : decode cX6_cut 85 = .ok (.aload_n 0, 1) := by decide +kernel
theorem dX6_cut_86 : decode cX6_cut 86 = .ok (.getfield 7, 3) := by decide +kernel
theorem dX6_cut_89 : decode cX6_cut 89 = .ok (.bipush 8, 2) := by decide +kernel
theorem dX6_cut_91 : decode cX6_cut 91 = .ok (.iaload, 1) := by decide +kernel
theorem dX6_cut_92 : decode cX6_cut 92 = .ok (.iconst 1, 1) := by decide +kernel
theorem dX6_cut_93 : decode cX6_cut 93 = .ok (.isub, 1) := by decide +kernel
theorem dX6_cut_94 : decode cX6_cut 94 = .ok (.iload_n 2, 1) := by decide +kernel
theorem dX6_cut_95 : decode cX6_cut 95 = .ok (.invokevirtual 116, 3) := by decide +kernel
theorem dX6_cut_98 : decode cX6_cut 98 = .ok (.aload_n 0, 1) := by decide +kernel
theorem dX6_cut_99 : decode cX6_cut 99 = .ok (.iload_n 1, 1) := by decide +kernel
theorem dX6_cut_100 : decode cX6_cut 100 = .ok (.iload_n 2, 1) := by decide +kernel
theorem dX6_cut_101 : decode cX6_cut 101 = .ok (.invokevirtual 66, 3) := by decide +kernel
theorem dX6_cut_104 : decode cX6_cut 104 = .ok (.aload_n 0, 1) := by decide +kernel
theorem dX6_cut_105 : decode cX6_cut 105 = .ok (.iload_n 1, 1) := by decide +kernel
theorem dX6_cut_106 : decode cX6_cut 106 = .ok (.iconst 0, 1) := by decide +kernel
theorem dX6_cut_107 : decode cX6_cut 107 = .ok (.invokevirtual 116, 3) := by decide +kernel
theorem dX6_cut_110 : decode cX6_cut 110 = .ok (.aload_n 0, 1) := by decide +kernel
theorem dX6_cut_111 : decode cX6_cut 111 = .ok (.getfield 7, 3) := by decide +kernel
theorem dX6_cut_114 : decode cX6_cut 114 = .ok (.bipush 11, 2) := by decide +kernel
theorem dX6_cut_116 : decode cX6_cut 116 = .ok (.dup2, 1) := by decide +kernel
theorem dX6_cut_117 : decode cX6_cut 117 = .ok (.iaload, 1) := by decide +kernel
theorem dX6_cut_118 : decode cX6_cut 118 = .ok (.iconst 1, 1) := by decide +kernel
theorem dX6_cut_119 : decode cX6_cut 119 = .ok (.iadd, 1) := by decide +kernel
theorem dX6_cut_120 : decode cX6_cut 120 = .ok (.iastore, 1) := by decide +kernel
theorem dX6_cut_121 : decode cX6_cut 121 = .ok (.aload_n 0, 1) := by decide +kernel
theorem dX6_cut_122 : decode cX6_cut 122 = .ok (.getfield 7, 3) := by decide +kernel
theorem dX6_cut_125 : decode cX6_cut 125 = .ok (.bipush 8, 2) := by decide +kernel
theorem dX6_cut_127 : decode cX6_cut 127 = .ok (.iaload, 1) := by decide +kernel
theorem dX6_cut_128 : decode cX6_cut 128 = .ok (.iconst 1, 1) := by decide +kernel
theorem dX6_cut_129 : decode cX6_cut 129 = .ok (.isub, 1) := by decide +kernel
theorem dX6_cut_130 : decode cX6_cut 130 = .ok (.ireturn, 1) := by decide +kernel
theorem dX6_turn_0 : decode cX6_turn 0 = .ok (.aload_n 0, 1) := by decide +kernel
theorem dX6_turn_1 : decode cX6_turn 1 = .ok (.aload_n 0, 1) := by decide +kernel
theorem dX6_turn_2 : decode cX6_turn 2 = .ok (.iload_n 1, 1) := by decide +kernel
theorem dX6_turn_3 : decode cX6_turn 3 = .ok (.invokevirtual 90, 3) := by decide +kernel
theorem dX6_turn_6 : decode cX6_turn 6 = .ok (.ifCond .eq 7, 3) := by decide +kernel
theorem dX6_turn_9 : decode cX6_turn 9 = .ok (.iconst 0, 1) := by decide +kernel
theorem dX6_turn_10 : decode cX6_turn 10 = .ok (.goto 4, 3) := by decide +kernel
theorem dX6_turn_13 : decode cX6_turn 13 = .ok (.iconst 1, 1) := by decide +kernel
theorem dX6_turn_14 : decode cX6_turn 14 = .ok (.invokevirtual 81, 3) := by decide +kernel
theorem dX6_turn_17 : decode cX6_turn 17 = .ok (.ifCond .ne 5, 3) := by decide +kernel
theorem dX6_turn_20 : decode cX6_turn 20 = .ok (.iconst 0, 1) := by decide +kernel
theorem dX6_turn_21 : decode cX6_turn 21 = .ok (.ireturn, 1) := by decide +kernel
theorem dX6_turn_22 : decode cX6_turn 22 = .ok (.aload_n 0, 1) := by decide +kernel
theorem dX6_turn_23 : decode cX6_turn 23 = .ok (.invokevirtual 84, 3) := by decide +kernel
theorem dX6_turn_26 : decode cX6_turn 26 = .ok (.aload_n 0, 1) := by decide +kernel
theorem dX6_turn_27 : decode cX6_turn 27 = .ok (.iload_n 1, 1) := by decide +kernel
theorem dX6_turn_28 : decode cX6_turn 28 = .ok (.invokevirtual 119, 3) := by decide +kernel
theorem dX6_turn_31 : decode cX6_turn 31 = .ok (.istore_n 2, 1) := by decide +kernel
theorem dX6_turn_32 : decode cX6_turn 32 = .ok (.aload_n 0, 1) := by decide +kernel
theorem dX6_turn_33 : decode cX6_turn 33 = .ok (.iload_n 1, 1) := by decide +kernel
theorem dX6_turn_34 : decode cX6_turn 34 = .ok (.invokevirtual 122, 3) := by decide +kernel
theorem dX6_turn_37 : decode cX6_turn 37 = .ok (.iload_n 2, 1) := by decide +kernel
theorem dX6_turn_38 : decode cX6_turn 38 = .ok (.ireturn, 1) := by decide +kernel
theorem dX6_phaseBehind_0 : decode cX6_phaseBehind 0 = .ok (.aload_n 0, 1) := by decide +kernel
theorem dX6_phaseBehind_1 : decode cX6_phaseBehind 1 = .ok (.getfield 7, 3) := by decide +kernel
theorem dX6_phaseBehind_4 : decode cX6_phaseBehind 4 = .ok (.iload_n 1, 1) := by decide +kernel
theorem dX6_phaseBehind_5 : decode cX6_phaseBehind 5 = .ok (.iconst 0, 1) := by decide +kernel
theorem dX6_phaseBehind_6 : decode cX6_phaseBehind 6 = .ok (.invokestatic 36, 3) := by decide +kernel
theorem dX6_phaseBehind_9 : decode cX6_phaseBehind 9 = .ok (.iaload, 1) := by decide +kernel
theorem dX6_phaseBehind_10 : decode cX6_phaseBehind 10 = .ok (.aload_n 0, 1) := by decide +kernel
theorem dX6_phaseBehind_11 : decode cX6_phaseBehind 11 = .ok (.iload_n 2, 1) := by decide +kernel
theorem dX6_phaseBehind_12 : decode cX6_phaseBehind 12 = .ok (.iload_n 3, 1) := by decide +kernel
theorem dX6_phaseBehind_13 : decode cX6_phaseBehind 13 = .ok (.invokevirtual 40, 3) := by decide +kernel
theorem dX6_phaseBehind_16 : decode cX6_phaseBehind 16 = .ok (.iadd, 1) := by decide +kernel
theorem dX6_phaseBehind_17 : decode cX6_phaseBehind 17 = .ok (.aload_n 0, 1) := by decide +kernel
theorem dX6_phaseBehind_18 : decode cX6_phaseBehind 18 = .ok (.getfield 7, 3) := by decide +kernel
theorem dX6_phaseBehind_21 : decode cX6_phaseBehind 21 = .ok (.iconst 0, 1) := by decide +kernel
theorem dX6_phaseBehind_22 : decode cX6_phaseBehind 22 = .ok (.iload_n 3, 1) := by decide +kernel
theorem dX6_phaseBehind_23 : decode cX6_phaseBehind 23 = .ok (.iadd, 1) := by decide +kernel
theorem dX6_phaseBehind_24 : decode cX6_phaseBehind 24 = .ok (.iaload, 1) := by decide +kernel
theorem dX6_phaseBehind_25 : decode cX6_phaseBehind 25 = .ok (.irem, 1) := by decide +kernel
theorem dX6_phaseBehind_26 : decode cX6_phaseBehind 26 = .ok (.ireturn, 1) := by decide +kernel
theorem dX6_joinsWith_0 : decode cX6_joinsWith 0 = .ok (.iconst 0, 1) := by decide +kernel
theorem dX6_joinsWith_1 : decode cX6_joinsWith 1 = .ok (.istore_n 3, 1) := by decide +kernel
theorem dX6_joinsWith_2 : decode cX6_joinsWith 2 = .ok (.iload_n 3, 1) := by decide +kernel
theorem dX6_joinsWith_3 : decode cX6_joinsWith 3 = .ok (.aload_n 0, 1) := by decide +kernel
theorem dX6_joinsWith_4 : decode cX6_joinsWith 4 = .ok (.getfield 7, 3) := by decide +kernel
theorem dX6_joinsWith_7 : decode cX6_joinsWith 7 = .ok (.iload_n 2, 1) := by decide +kernel
theorem dX6_joinsWith_8 : decode cX6_joinsWith 8 = .ok (.iconst 1, 1) := by decide +kernel
theorem dX6_joinsWith_9 : decode cX6_joinsWith 9 = .ok (.invokestatic 36, 3) := by decide +kernel
theorem dX6_joinsWith_12 : decode cX6_joinsWith 12 = .ok (.iaload, 1) := by decide +kernel
theorem dX6_joinsWith_13 : decode cX6_joinsWith 13 = .ok (.if_icmp .ge 48, 3) := by decide +kernel
theorem dX6_joinsWith_16 : decode cX6_joinsWith 16 = .ok (.aload_n 0, 1) := by decide +kernel
theorem dX6_joinsWith_17 : decode cX6_joinsWith 17 = .ok (.getfield 7, 3) := by decide +kernel
theorem dX6_joinsWith_20 : decode cX6_joinsWith 20 = .ok (.iload_n 2, 1) := by decide +kernel
theorem dX6_joinsWith_21 : decode cX6_joinsWith 21 = .ok (.iconst 2, 1) := by decide +kernel
theorem dX6_joinsWith_22 : decode cX6_joinsWith 22 = .ok (.iload_n 3, 1) := by decide +kernel
theorem dX6_joinsWith_23 : decode cX6_joinsWith 23 = .ok (.iadd, 1) := by decide +kernel
theorem dX6_joinsWith_24 : decode cX6_joinsWith 24 = .ok (.invokestatic 36, 3) := by decide +kernel
theorem dX6_joinsWith_27 : decode cX6_joinsWith 27 = .ok (.iaload, 1) := by decide +kernel
theorem dX6_joinsWith_28 : decode cX6_joinsWith 28 = .ok (.istore 4, 2) := by decide +kernel
theorem dX6_joinsWith_30 : decode cX6_joinsWith 30 = .ok (.aload_n 0, 1) := by decide +kernel
theorem dX6_joinsWith_31 : decode cX6_joinsWith 31 = .ok (.iload_n 1, 1) := by decide +kernel
theorem dX6_joinsWith_32 : decode cX6_joinsWith 32 = .ok (.iload 4, 2) := by decide +kernel
theorem dX6_joinsWith_34 : decode cX6_joinsWith 34 = .ok (.invokevirtual 70, 3) := by decide +kernel
theorem dX6_joinsWith_37 : decode cX6_joinsWith 37 = .ok (.ifCond .ne 18, 3) := by decide +kernel
theorem dX6_joinsWith_40 : decode cX6_joinsWith 40 = .ok (.aload_n 0, 1) := by decide +kernel
theorem dX6_joinsWith_41 : decode cX6_joinsWith 41 = .ok (.iload_n 1, 1) := by decide +kernel
theorem dX6_joinsWith_42 : decode cX6_joinsWith 42 = .ok (.iload 4, 2) := by decide +kernel
theorem dX6_joinsWith_44 : decode cX6_joinsWith 44 = .ok (.aload_n 0, 1) := by decide +kernel
theorem dX6_joinsWith_45 : decode cX6_joinsWith 45 = .ok (.iload_n 1, 1) := by decide +kernel
theorem dX6_joinsWith_46 : decode cX6_joinsWith 46 = .ok (.iload_n 2, 1) := by decide +kernel
theorem dX6_joinsWith_47 : decode cX6_joinsWith 47 = .ok (.iload 4, 2) := by decide +kernel
theorem dX6_joinsWith_49 : decode cX6_joinsWith 49 = .ok (.invokevirtual 125, 3) := by decide +kernel
theorem dX6_joinsWith_52 : decode cX6_joinsWith 52 = .ok (.invokevirtual 52, 3) := by decide +kernel
theorem dX6_joinsWith_55 : decode cX6_joinsWith 55 = .ok (.iinc 3 1, 3) := by decide +kernel
theorem dX6_joinsWith_58 : decode cX6_joinsWith 58 = .ok (.goto (-56), 3) := by decide +kernel
theorem dX6_joinsWith_61 : decode cX6_joinsWith 61 = .ok (.aload_n 0, 1) := by decide +kernel
theorem dX6_joinsWith_62 : decode cX6_joinsWith 62 = .ok (.getfield 7, 3) := by decide +kernel
theorem dX6_joinsWith_65 : decode cX6_joinsWith 65 = .ok (.iload_n 1, 1) := by decide +kernel
theorem dX6_joinsWith_66 : decode cX6_joinsWith 66 = .ok (.iconst 0, 1) := by decide +kernel
theorem dX6_joinsWith_67 : decode cX6_joinsWith 67 = .ok (.invokestatic 36, 3) := by decide +kernel
theorem dX6_joinsWith_70 : decode cX6_joinsWith 70 = .ok (.dup2, 1) := by decide +kernel
theorem dX6_joinsWith_71 : decode cX6_joinsWith 71 = .ok (.iaload, 1) := by decide +kernel
theorem dX6_joinsWith_72 : decode cX6_joinsWith 72 = .ok (.aload_n 0, 1) := by decide +kernel
theorem dX6_joinsWith_73 : decode cX6_joinsWith 73 = .ok (.getfield 7, 3) := by decide +kernel
theorem dX6_joinsWith_76 : decode cX6_joinsWith 76 = .ok (.iload_n 2, 1) := by decide +kernel
theorem dX6_joinsWith_77 : decode cX6_joinsWith 77 = .ok (.iconst 0, 1) := by decide +kernel
theorem dX6_joinsWith_78 : decode cX6_joinsWith 78 = .ok (.invokestatic 36, 3) := by decide +kernel
theorem dX6_joinsWith_81 : decode cX6_joinsWith 81 = .ok (.iaload, 1) := by decide +kernel
theorem dX6_joinsWith_82 : decode cX6_joinsWith 82 = .ok (.iadd, 1) := by decide +kernel
theorem dX6_joinsWith_83 : decode cX6_joinsWith 83 = .ok (.iastore, 1) := by decide +kernel
theorem dX6_joinsWith_84 : decode cX6_joinsWith 84 = .ok (.return_, 1) := by decide +kernel
theorem dX6_whyNotJoined_0 : decode cX6_whyNotJoined 0 = .ok (.aload_n 0, 1) := by decide +kernel
theorem dX6_whyNotJoined_1 : decode cX6_whyNotJoined 1 = .ok (.getfield 7, 3) := by decide +kernel
theorem dX6_whyNotJoined_4 : decode cX6_whyNotJoined 4 = .ok (.iload_n 1, 1) := by decide +kernel
theorem dX6_whyNotJoined_5 : decode cX6_whyNotJoined 5 = .ok (.iconst 0, 1) := by decide +kernel
theorem dX6_whyNotJoined_6 : decode cX6_whyNotJoined 6 = .ok (.invokestatic 36, 3) := by decide +kernel
theorem dX6_whyNotJoined_9 : decode cX6_whyNotJoined 9 = .ok (.iaload, 1) := by decide +kernel
theorem dX6_whyNotJoined_10 : decode cX6_whyNotJoined 10 = .ok (.aload_n 0, 1) := by decide +kernel
theorem dX6_whyNotJoined_11 : decode cX6_whyNotJoined 11 = .ok (.getfield 7, 3) := by decide +kernel
theorem dX6_whyNotJoined_14 : decode cX6_whyNotJoined 14 = .ok (.iload_n 2, 1) := by decide +kernel
theorem dX6_whyNotJoined_15 : decode cX6_whyNotJoined 15 = .ok (.iconst 0, 1) := by decide +kernel
theorem dX6_whyNotJoined_16 : decode cX6_whyNotJoined 16 = .ok (.invokestatic 36, 3) := by decide +kernel
theorem dX6_whyNotJoined_19 : decode cX6_whyNotJoined 19 = .ok (.iaload, 1) := by decide +kernel
theorem dX6_whyNotJoined_20 : decode cX6_whyNotJoined 20 = .ok (.iadd, 1) := by decide +kernel
theorem dX6_whyNotJoined_21 : decode cX6_whyNotJoined 21 = .ok (.istore_n 3, 1) := by decide +kernel
theorem dX6_whyNotJoined_22 : decode cX6_whyNotJoined 22 = .ok (.iload_n 1, 1) := by decide +kernel
theorem dX6_whyNotJoined_23 : decode cX6_whyNotJoined 23 = .ok (.iload_n 2, 1) := by decide +kernel
theorem dX6_whyNotJoined_24 : decode cX6_whyNotJoined 24 = .ok (.if_icmp .eq 9, 3) := by decide +kernel
theorem dX6_whyNotJoined_27 : decode cX6_whyNotJoined 27 = .ok (.iload_n 3, 1) := by decide +kernel
theorem dX6_whyNotJoined_28 : decode cX6_whyNotJoined 28 = .ok (.bipush 60, 2) := by decide +kernel
theorem dX6_whyNotJoined_30 : decode cX6_whyNotJoined 30 = .ok (.if_icmp .le 14, 3) := by decide +kernel
theorem dX6_whyNotJoined_33 : decode cX6_whyNotJoined 33 = .ok (.iload_n 1, 1) := by decide +kernel
theorem dX6_whyNotJoined_34 : decode cX6_whyNotJoined 34 = .ok (.iload_n 2, 1) := by decide +kernel
theorem dX6_whyNotJoined_35 : decode cX6_whyNotJoined 35 = .ok (.if_icmp .ne 7, 3) := by decide +kernel
theorem dX6_whyNotJoined_38 : decode cX6_whyNotJoined 38 = .ok (.iconst 1, 1) := by decide +kernel
theorem dX6_whyNotJoined_39 : decode cX6_whyNotJoined 39 = .ok (.goto 4, 3) := by decide +kernel
theorem dX6_whyNotJoined_42 : decode cX6_whyNotJoined 42 = .ok (.iconst 2, 1) := by decide +kernel
theorem dX6_whyNotJoined_43 : decode cX6_whyNotJoined 43 = .ok (.ireturn, 1) := by decide +kernel
theorem dX6_whyNotJoined_44 : decode cX6_whyNotJoined 44 = .ok (.iconst 1, 1) := by decide +kernel
theorem dX6_whyNotJoined_45 : decode cX6_whyNotJoined 45 = .ok (.istore 4, 2) := by decide +kernel
theorem dX6_whyNotJoined_47 : decode cX6_whyNotJoined 47 = .ok (.iconst 0, 1) := by decide +kernel
theorem dX6_whyNotJoined_48 : decode cX6_whyNotJoined 48 = .ok (.istore 5, 2) := by decide +kernel
theorem dX6_whyNotJoined_50 : decode cX6_whyNotJoined 50 = .ok (.iload 5, 2) := by decide +kernel
theorem dX6_whyNotJoined_52 : decode cX6_whyNotJoined 52 = .ok (.bipush 8, 2) := by decide +kernel
theorem dX6_whyNotJoined_54 : decode cX6_whyNotJoined 54 = .ok (.if_icmp .ge 59, 3) := by decide +kernel
theorem dX6_whyNotJoined_57 : decode cX6_whyNotJoined 57 = .ok (.iload 4, 2) := by decide +kernel
theorem dX6_whyNotJoined_59 : decode cX6_whyNotJoined 59 = .ok (.ifCond .eq 45, 3) := by decide +kernel
theorem dX6_whyNotJoined_62 : decode cX6_whyNotJoined 62 = .ok (.aload_n 0, 1) := by decide +kernel
theorem dX6_whyNotJoined_63 : decode cX6_whyNotJoined 63 = .ok (.iload_n 1, 1) := by decide +kernel
theorem dX6_whyNotJoined_64 : decode cX6_whyNotJoined 64 = .ok (.iload 5, 2) := by decide +kernel
theorem dX6_whyNotJoined_66 : decode cX6_whyNotJoined 66 = .ok (.invokevirtual 70, 3) := by decide +kernel
theorem dX6_whyNotJoined_69 : decode cX6_whyNotJoined 69 = .ok (.ifCond .eq 31, 3) := by decide +kernel
theorem dX6_whyNotJoined_72 : decode cX6_whyNotJoined 72 = .ok (.aload_n 0, 1) := by decide +kernel
theorem dX6_whyNotJoined_73 : decode cX6_whyNotJoined 73 = .ok (.iload_n 2, 1) := by decide +kernel
theorem dX6_whyNotJoined_74 : decode cX6_whyNotJoined 74 = .ok (.iload 5, 2) := by decide +kernel
theorem dX6_whyNotJoined_76 : decode cX6_whyNotJoined 76 = .ok (.invokevirtual 70, 3) := by decide +kernel
theorem dX6_whyNotJoined_79 : decode cX6_whyNotJoined 79 = .ok (.ifCond .eq 21, 3) := by decide +kernel
theorem dX6_whyNotJoined_82 : decode cX6_whyNotJoined 82 = .ok (.aload_n 0, 1) := by decide +kernel
theorem dX6_whyNotJoined_83 : decode cX6_whyNotJoined 83 = .ok (.iload_n 1, 1) := by decide +kernel
theorem dX6_whyNotJoined_84 : decode cX6_whyNotJoined 84 = .ok (.iload 5, 2) := by decide +kernel
theorem dX6_whyNotJoined_86 : decode cX6_whyNotJoined 86 = .ok (.invokevirtual 40, 3) := by decide +kernel
theorem dX6_whyNotJoined_89 : decode cX6_whyNotJoined 89 = .ok (.aload_n 0, 1) := by decide +kernel
theorem dX6_whyNotJoined_90 : decode cX6_whyNotJoined 90 = .ok (.iload_n 1, 1) := by decide +kernel
theorem dX6_whyNotJoined_91 : decode cX6_whyNotJoined 91 = .ok (.iload_n 2, 1) := by decide +kernel
theorem dX6_whyNotJoined_92 : decode cX6_whyNotJoined 92 = .ok (.iload 5, 2) := by decide +kernel
theorem dX6_whyNotJoined_94 : decode cX6_whyNotJoined 94 = .ok (.invokevirtual 125, 3) := by decide +kernel
theorem dX6_whyNotJoined_97 : decode cX6_whyNotJoined 97 = .ok (.if_icmp .ne 7, 3) := by decide +kernel
theorem dX6_whyNotJoined_100 : decode cX6_whyNotJoined 100 = .ok (.iconst 1, 1) := by decide +kernel
theorem dX6_whyNotJoined_101 : decode cX6_whyNotJoined 101 = .ok (.goto 4, 3) := by decide +kernel
theorem dX6_whyNotJoined_104 : decode cX6_whyNotJoined 104 = .ok (.iconst 0, 1) := by decide +kernel
theorem dX6_whyNotJoined_105 : decode cX6_whyNotJoined 105 = .ok (.istore 4, 2) := by decide +kernel
theorem dX6_whyNotJoined_107 : decode cX6_whyNotJoined 107 = .ok (.iinc 5 1, 3) := by decide +kernel
theorem dX6_whyNotJoined_110 : decode cX6_whyNotJoined 110 = .ok (.goto (-60), 3) := by decide +kernel
theorem dX6_whyNotJoined_113 : decode cX6_whyNotJoined 113 = .ok (.iload 4, 2) := by decide +kernel
theorem dX6_whyNotJoined_115 : decode cX6_whyNotJoined 115 = .ok (.ifCond .ne 5, 3) := by decide +kernel
theorem dX6_whyNotJoined_118 : decode cX6_whyNotJoined 118 = .ok (.iconst 3, 1) := by decide +kernel
theorem dX6_whyNotJoined_119 : decode cX6_whyNotJoined 119 = .ok (.ireturn, 1) := by decide +kernel
theorem dX6_whyNotJoined_120 : decode cX6_whyNotJoined 120 = .ok (.aload_n 0, 1) := by decide +kernel
theorem dX6_whyNotJoined_121 : decode cX6_whyNotJoined 121 = .ok (.invokevirtual 128, 3) := by decide +kernel
theorem dX6_whyNotJoined_124 : decode cX6_whyNotJoined 124 = .ok (.aload_n 0, 1) := by decide +kernel
theorem dX6_whyNotJoined_125 : decode cX6_whyNotJoined 125 = .ok (.iload_n 1, 1) := by decide +kernel
theorem dX6_whyNotJoined_126 : decode cX6_whyNotJoined 126 = .ok (.iload_n 2, 1) := by decide +kernel
theorem dX6_whyNotJoined_127 : decode cX6_whyNotJoined 127 = .ok (.invokevirtual 131, 3) := by decide +kernel
theorem dX6_whyNotJoined_130 : decode cX6_whyNotJoined 130 = .ok (.aload_n 0, 1) := by decide +kernel
theorem dX6_whyNotJoined_131 : decode cX6_whyNotJoined 131 = .ok (.iload_n 1, 1) := by decide +kernel
theorem dX6_whyNotJoined_132 : decode cX6_whyNotJoined 132 = .ok (.invokevirtual 112, 3) := by decide +kernel
theorem dX6_whyNotJoined_135 : decode cX6_whyNotJoined 135 = .ok (.iload_n 3, 1) := by decide +kernel
theorem dX6_whyNotJoined_136 : decode cX6_whyNotJoined 136 = .ok (.if_icmp .ge 7, 3) := by decide +kernel
theorem dX6_whyNotJoined_139 : decode cX6_whyNotJoined 139 = .ok (.iconst 1, 1) := by decide +kernel
theorem dX6_whyNotJoined_140 : decode cX6_whyNotJoined 140 = .ok (.goto 4, 3) := by decide +kernel
theorem dX6_whyNotJoined_143 : decode cX6_whyNotJoined 143 = .ok (.iconst 0, 1) := by decide +kernel
theorem dX6_whyNotJoined_144 : decode cX6_whyNotJoined 144 = .ok (.istore 5, 2) := by decide +kernel
theorem dX6_whyNotJoined_146 : decode cX6_whyNotJoined 146 = .ok (.aload_n 0, 1) := by decide +kernel
theorem dX6_whyNotJoined_147 : decode cX6_whyNotJoined 147 = .ok (.invokevirtual 134, 3) := by decide +kernel
theorem dX6_whyNotJoined_150 : decode cX6_whyNotJoined 150 = .ok (.iload 5, 2) := by decide +kernel
theorem dX6_whyNotJoined_152 : decode cX6_whyNotJoined 152 = .ok (.ifCond .eq 7, 3) := by decide +kernel
theorem dX6_whyNotJoined_155 : decode cX6_whyNotJoined 155 = .ok (.iconst 4, 1) := by decide +kernel
theorem dX6_whyNotJoined_156 : decode cX6_whyNotJoined 156 = .ok (.goto 4, 3) := by decide +kernel
theorem dX6_whyNotJoined_159 : decode cX6_whyNotJoined 159 = .ok (.iconst 0, 1) := by decide +kernel
theorem dX6_whyNotJoined_160 : decode cX6_whyNotJoined 160 = .ok (.ireturn, 1) := by decide +kernel
theorem dX6_join_0 : decode cX6_join 0 = .ok (.aload_n 0, 1) := by decide +kernel
theorem dX6_join_1 : decode cX6_join 1 = .ok (.aload_n 0, 1) := by decide +kernel
theorem dX6_join_2 : decode cX6_join 2 = .ok (.iload_n 1, 1) := by decide +kernel
theorem dX6_join_3 : decode cX6_join 3 = .ok (.invokevirtual 90, 3) := by decide +kernel
theorem dX6_join_6 : decode cX6_join 6 = .ok (.ifCond .eq 11, 3) := by decide +kernel
theorem dX6_join_9 : decode cX6_join 9 = .ok (.aload_n 0, 1) := by decide +kernel
theorem dX6_join_10 : decode cX6_join 10 = .ok (.iload_n 2, 1) := by decide +kernel
theorem dX6_join_11 : decode cX6_join 11 = .ok (.invokevirtual 90, 3) := by decide +kernel
theorem dX6_join_14 : decode cX6_join 14 = .ok (.ifCond .ne 7, 3) := by decide +kernel
theorem dX6_join_17 : decode cX6_join 17 = .ok (.iconst 1, 1) := by decide +kernel
theorem dX6_join_18 : decode cX6_join 18 = .ok (.goto 17, 3) := by decide +kernel
theorem dX6_join_21 : decode cX6_join 21 = .ok (.aload_n 0, 1) := by decide +kernel
theorem dX6_join_22 : decode cX6_join 22 = .ok (.iload_n 1, 1) := by decide +kernel
theorem dX6_join_23 : decode cX6_join 23 = .ok (.iload_n 2, 1) := by decide +kernel
theorem dX6_join_24 : decode cX6_join 24 = .ok (.invokevirtual 137, 3) := by decide +kernel
theorem dX6_join_27 : decode cX6_join 27 = .ok (.ifCond .le 7, 3) := by decide +kernel
theorem dX6_join_30 : decode cX6_join 30 = .ok (.iconst 2, 1) := by decide +kernel
theorem dX6_join_31 : decode cX6_join 31 = .ok (.goto 4, 3) := by decide +kernel
theorem dX6_join_34 : decode cX6_join 34 = .ok (.iconst 0, 1) := by decide +kernel
theorem dX6_join_35 : decode cX6_join 35 = .ok (.invokevirtual 81, 3) := by decide +kernel
theorem dX6_join_38 : decode cX6_join 38 = .ok (.ifCond .ne 5, 3) := by decide +kernel
theorem dX6_join_41 : decode cX6_join 41 = .ok (.iconst 0, 1) := by decide +kernel
theorem dX6_join_42 : decode cX6_join 42 = .ok (.ireturn, 1) := by decide +kernel
theorem dX6_join_43 : decode cX6_join 43 = .ok (.aload_n 0, 1) := by decide +kernel
theorem dX6_join_44 : decode cX6_join 44 = .ok (.invokevirtual 84, 3) := by decide +kernel
theorem dX6_join_47 : decode cX6_join 47 = .ok (.aload_n 0, 1) := by decide +kernel
theorem dX6_join_48 : decode cX6_join 48 = .ok (.iload_n 1, 1) := by decide +kernel
theorem dX6_join_49 : decode cX6_join 49 = .ok (.iload_n 2, 1) := by decide +kernel
theorem dX6_join_50 : decode cX6_join 50 = .ok (.invokevirtual 131, 3) := by decide +kernel
theorem dX6_join_53 : decode cX6_join 53 = .ok (.aload_n 0, 1) := by decide +kernel
theorem dX6_join_54 : decode cX6_join 54 = .ok (.getfield 7, 3) := by decide +kernel
theorem dX6_join_57 : decode cX6_join 57 = .ok (.iload_n 1, 1) := by decide +kernel
theorem dX6_join_58 : decode cX6_join 58 = .ok (.iconst 0, 1) := by decide +kernel
theorem dX6_join_59 : decode cX6_join 59 = .ok (.invokestatic 36, 3) := by decide +kernel
theorem dX6_join_62 : decode cX6_join 62 = .ok (.iaload, 1) := by decide +kernel
theorem dX6_join_63 : decode cX6_join 63 = .ok (.istore_n 3, 1) := by decide +kernel
theorem dX6_join_64 : decode cX6_join 64 = .ok (.aload_n 0, 1) := by decide +kernel
theorem dX6_join_65 : decode cX6_join 65 = .ok (.iload_n 2, 1) := by decide +kernel
theorem dX6_join_66 : decode cX6_join 66 = .ok (.invokevirtual 93, 3) := by decide +kernel
theorem dX6_join_69 : decode cX6_join 69 = .ok (.aload_n 0, 1) := by decide +kernel
theorem dX6_join_70 : decode cX6_join 70 = .ok (.getfield 7, 3) := by decide +kernel
theorem dX6_join_73 : decode cX6_join 73 = .ok (.bipush 10, 2) := by decide +kernel
theorem dX6_join_75 : decode cX6_join 75 = .ok (.dup2, 1) := by decide +kernel
theorem dX6_join_76 : decode cX6_join 76 = .ok (.iaload, 1) := by decide +kernel
theorem dX6_join_77 : decode cX6_join 77 = .ok (.iconst 1, 1) := by decide +kernel
theorem dX6_join_78 : decode cX6_join 78 = .ok (.iadd, 1) := by decide +kernel
theorem dX6_join_79 : decode cX6_join 79 = .ok (.iastore, 1) := by decide +kernel
theorem dX6_join_80 : decode cX6_join 80 = .ok (.iload_n 3, 1) := by decide +kernel
theorem dX6_join_81 : decode cX6_join 81 = .ok (.ireturn, 1) := by decide +kernel
theorem dX6_append_0 : decode cX6_append 0 = .ok (.aload_n 0, 1) := by decide +kernel
theorem dX6_append_1 : decode cX6_append 1 = .ok (.iload_n 1, 1) := by decide +kernel
theorem dX6_append_2 : decode cX6_append 2 = .ok (.bipush 33, 2) := by decide +kernel
theorem dX6_append_4 : decode cX6_append 4 = .ok (.bipush 126, 2) := by decide +kernel
theorem dX6_append_6 : decode cX6_append 6 = .ok (.invokestatic 32, 3) := by decide +kernel
theorem dX6_append_9 : decode cX6_append 9 = .ok (.ifCond .ne 7, 3) := by decide +kernel
theorem dX6_append_12 : decode cX6_append 12 = .ok (.iconst 1, 1) := by decide +kernel
theorem dX6_append_13 : decode cX6_append 13 = .ok (.goto 17, 3) := by decide +kernel
theorem dX6_append_16 : decode cX6_append 16 = .ok (.aload_n 0, 1) := by decide +kernel
theorem dX6_append_17 : decode cX6_append 17 = .ok (.getfield 140, 3) := by decide +kernel
theorem dX6_append_20 : decode cX6_append 20 = .ok (.bipush 60, 2) := by decide +kernel
theorem dX6_append_22 : decode cX6_append 22 = .ok (.if_icmp .ne 7, 3) := by decide +kernel
theorem dX6_append_25 : decode cX6_append 25 = .ok (.iconst 2, 1) := by decide +kernel
theorem dX6_append_26 : decode cX6_append 26 = .ok (.goto 4, 3) := by decide +kernel
theorem dX6_append_29 : decode cX6_append 29 = .ok (.iconst 0, 1) := by decide +kernel
theorem dX6_append_30 : decode cX6_append 30 = .ok (.invokevirtual 81, 3) := by decide +kernel
theorem dX6_append_33 : decode cX6_append 33 = .ok (.ifCond .ne 5, 3) := by decide +kernel
theorem dX6_append_36 : decode cX6_append 36 = .ok (.iconst 0, 1) := by decide +kernel
theorem dX6_append_37 : decode cX6_append 37 = .ok (.ireturn, 1) := by decide +kernel
theorem dX6_append_38 : decode cX6_append 38 = .ok (.aload_n 0, 1) := by decide +kernel
theorem dX6_append_39 : decode cX6_append 39 = .ok (.getfield 22, 3) := by decide +kernel
theorem dX6_append_42 : decode cX6_append 42 = .ok (.aload_n 0, 1) := by decide +kernel
theorem dX6_append_43 : decode cX6_append 43 = .ok (.getfield 140, 3) := by decide +kernel
theorem dX6_append_46 : decode cX6_append 46 = .ok (.iload_n 1, 1) := by decide +kernel
theorem dX6_append_47 : decode cX6_append 47 = .ok (.iastore, 1) := by decide +kernel
theorem dX6_append_48 : decode cX6_append 48 = .ok (.aload_n 0, 1) := by decide +kernel
theorem dX6_append_49 : decode cX6_append 49 = .ok (.dup, 1) := by decide +kernel
theorem dX6_append_50 : decode cX6_append 50 = .ok (.getfield 140, 3) := by decide +kernel
theorem dX6_append_53 : decode cX6_append 53 = .ok (.iconst 1, 1) := by decide +kernel
theorem dX6_append_54 : decode cX6_append 54 = .ok (.iadd, 1) := by decide +kernel
theorem dX6_append_55 : decode cX6_append 55 = .ok (.putfield 140, 3) := by decide +kernel
theorem dX6_append_58 : decode cX6_append 58 = .ok (.aload_n 0, 1) := by decide +kernel
theorem dX6_append_59 : decode cX6_append 59 = .ok (.getfield 140, 3) := by decide +kernel
theorem dX6_append_62 : decode cX6_append 62 = .ok (.ireturn, 1) := by decide +kernel
theorem dX6_clearBuffer_0 : decode cX6_clearBuffer 0 = .ok (.aload_n 0, 1) := by decide +kernel
theorem dX6_clearBuffer_1 : decode cX6_clearBuffer 1 = .ok (.iconst 0, 1) := by decide +kernel
theorem dX6_clearBuffer_2 : decode cX6_clearBuffer 2 = .ok (.putfield 28, 3) := by decide +kernel
theorem dX6_clearBuffer_5 : decode cX6_clearBuffer 5 = .ok (.aload_n 0, 1) := by decide +kernel
theorem dX6_clearBuffer_6 : decode cX6_clearBuffer 6 = .ok (.getfield 140, 3) := by decide +kernel
theorem dX6_clearBuffer_9 : decode cX6_clearBuffer 9 = .ok (.istore_n 1, 1) := by decide +kernel
theorem dX6_clearBuffer_10 : decode cX6_clearBuffer 10 = .ok (.aload_n 0, 1) := by decide +kernel
theorem dX6_clearBuffer_11 : decode cX6_clearBuffer 11 = .ok (.iconst 0, 1) := by decide +kernel
theorem dX6_clearBuffer_12 : decode cX6_clearBuffer 12 = .ok (.putfield 140, 3) := by decide +kernel
theorem dX6_clearBuffer_15 : decode cX6_clearBuffer 15 = .ok (.iload_n 1, 1) := by decide +kernel
theorem dX6_clearBuffer_16 : decode cX6_clearBuffer 16 = .ok (.ireturn, 1) := by decide +kernel
theorem dX6_isNext_0 : decode cX6_isNext 0 = .ok (.aload_n 0, 1) := by decide +kernel
theorem dX6_isNext_1 : decode cX6_isNext 1 = .ok (.getfield 143, 3) := by decide +kernel
theorem dX6_isNext_4 : decode cX6_isNext 4 = .ok (.ifCond .ne 35, 3) := by decide +kernel
theorem dX6_isNext_7 : decode cX6_isNext 7 = .ok (.aload_n 0, 1) := by decide +kernel
theorem dX6_isNext_8 : decode cX6_isNext 8 = .ok (.getfield 147, 3) := by decide +kernel
theorem dX6_isNext_11 : decode cX6_isNext 11 = .ok (.aload_n 0, 1) := by decide +kernel
theorem dX6_isNext_12 : decode cX6_isNext 12 = .ok (.getfield 140, 3) := by decide +kernel
theorem dX6_isNext_15 : decode cX6_isNext 15 = .ok (.if_icmp .ge 24, 3) := by decide +kernel
theorem dX6_isNext_18 : decode cX6_isNext 18 = .ok (.aload_n 0, 1) := by decide +kernel
theorem dX6_isNext_19 : decode cX6_isNext 19 = .ok (.getfield 22, 3) := by decide +kernel
theorem dX6_isNext_22 : decode cX6_isNext 22 = .ok (.aload_n 0, 1) := by decide +kernel
theorem dX6_isNext_23 : decode cX6_isNext 23 = .ok (.getfield 147, 3) := by decide +kernel
theorem dX6_isNext_26 : decode cX6_isNext 26 = .ok (.iaload, 1) := by decide +kernel
theorem dX6_isNext_27 : decode cX6_isNext 27 = .ok (.iload_n 1, 1) := by decide +kernel
theorem dX6_isNext_28 : decode cX6_isNext 28 = .ok (.iload_n 2, 1) := by decide +kernel
theorem dX6_isNext_29 : decode cX6_isNext 29 = .ok (.invokestatic 32, 3) := by decide +kernel
theorem dX6_isNext_32 : decode cX6_isNext 32 = .ok (.ifCond .eq 7, 3) := by decide +kernel
theorem dX6_isNext_35 : decode cX6_isNext 35 = .ok (.iconst 1, 1) := by decide +kernel
theorem dX6_isNext_36 : decode cX6_isNext 36 = .ok (.goto 4, 3) := by decide +kernel
theorem dX6_isNext_39 : decode cX6_isNext 39 = .ok (.iconst 0, 1) := by decide +kernel
theorem dX6_isNext_40 : decode cX6_isNext 40 = .ok (.ireturn, 1) := by decide +kernel
theorem dX6_reads_0 : decode cX6_reads 0 = .ok (.aload_n 0, 1) := by decide +kernel
theorem dX6_reads_1 : decode cX6_reads 1 = .ok (.getfield 147, 3) := by decide +kernel
theorem dX6_reads_4 : decode cX6_reads 4 = .ok (.aload_n 0, 1) := by decide +kernel
theorem dX6_reads_5 : decode cX6_reads 5 = .ok (.getfield 140, 3) := by decide +kernel
theorem dX6_reads_8 : decode cX6_reads 8 = .ok (.if_icmp .ge 15, 3) := by decide +kernel
theorem dX6_reads_11 : decode cX6_reads 11 = .ok (.aload_n 0, 1) := by decide +kernel
theorem dX6_reads_12 : decode cX6_reads 12 = .ok (.getfield 22, 3) := by decide +kernel
theorem dX6_reads_15 : decode cX6_reads 15 = .ok (.aload_n 0, 1) := by decide +kernel
theorem dX6_reads_16 : decode cX6_reads 16 = .ok (.getfield 147, 3) := by decide +kernel
theorem dX6_reads_19 : decode cX6_reads 19 = .ok (.iaload, 1) := by decide +kernel
theorem dX6_reads_20 : decode cX6_reads 20 = .ok (.goto 4, 3) := by decide +kernel
theorem dX6_reads_23 : decode cX6_reads 23 = .ok (.iconst 0, 1) := by decide +kernel
theorem dX6_reads_24 : decode cX6_reads 24 = .ok (.istore_n 3, 1) := by decide +kernel
theorem dX6_reads_25 : decode cX6_reads 25 = .ok (.aload_n 0, 1) := by decide +kernel
theorem dX6_reads_26 : decode cX6_reads 26 = .ok (.aload_n 0, 1) := by decide +kernel
theorem dX6_reads_27 : decode cX6_reads 27 = .ok (.getfield 143, 3) := by decide +kernel
theorem dX6_reads_30 : decode cX6_reads 30 = .ok (.ifCond .ne 12, 3) := by decide +kernel
theorem dX6_reads_33 : decode cX6_reads 33 = .ok (.iload_n 3, 1) := by decide +kernel
theorem dX6_reads_34 : decode cX6_reads 34 = .ok (.iload_n 1, 1) := by decide +kernel
theorem dX6_reads_35 : decode cX6_reads 35 = .ok (.iload_n 2, 1) := by decide +kernel
theorem dX6_reads_36 : decode cX6_reads 36 = .ok (.invokestatic 32, 3) := by decide +kernel
theorem dX6_reads_39 : decode cX6_reads 39 = .ok (.ifCond .ne 7, 3) := by decide +kernel
theorem dX6_reads_42 : decode cX6_reads 42 = .ok (.iconst 1, 1) := by decide +kernel
theorem dX6_reads_43 : decode cX6_reads 43 = .ok (.goto 4, 3) := by decide +kernel
theorem dX6_reads_46 : decode cX6_reads 46 = .ok (.iconst 0, 1) := by decide +kernel
theorem dX6_reads_47 : decode cX6_reads 47 = .ok (.putfield 143, 3) := by decide +kernel
theorem dX6_reads_50 : decode cX6_reads 50 = .ok (.aload_n 0, 1) := by decide +kernel
theorem dX6_reads_51 : decode cX6_reads 51 = .ok (.dup, 1) := by decide +kernel
theorem dX6_reads_52 : decode cX6_reads 52 = .ok (.getfield 147, 3) := by decide +kernel
theorem dX6_reads_55 : decode cX6_reads 55 = .ok (.aload_n 0, 1) := by decide +kernel
theorem dX6_reads_56 : decode cX6_reads 56 = .ok (.getfield 143, 3) := by decide +kernel
theorem dX6_reads_59 : decode cX6_reads 59 = .ok (.ifCond .eq 7, 3) := by decide +kernel
theorem dX6_reads_62 : decode cX6_reads 62 = .ok (.iconst 0, 1) := by decide +kernel
theorem dX6_reads_63 : decode cX6_reads 63 = .ok (.goto 4, 3) := by decide +kernel
theorem dX6_reads_66 : decode cX6_reads 66 = .ok (.iconst 1, 1) := by decide +kernel
theorem dX6_reads_67 : decode cX6_reads 67 = .ok (.iadd, 1) := by decide +kernel
theorem dX6_reads_68 : decode cX6_reads 68 = .ok (.putfield 147, 3) := by decide +kernel
theorem dX6_reads_71 : decode cX6_reads 71 = .ok (.iload_n 3, 1) := by decide +kernel
theorem dX6_reads_72 : decode cX6_reads 72 = .ok (.iload_n 1, 1) := by decide +kernel
theorem dX6_reads_73 : decode cX6_reads 73 = .ok (.isub, 1) := by decide +kernel
theorem dX6_reads_74 : decode cX6_reads 74 = .ok (.ireturn, 1) := by decide +kernel
theorem dX6_readsNumber_0 : decode cX6_readsNumber 0 = .ok (.iload_n 1, 1) := by decide +kernel
theorem dX6_readsNumber_1 : decode cX6_readsNumber 1 = .ok (.aload_n 0, 1) := by decide +kernel
theorem dX6_readsNumber_2 : decode cX6_readsNumber 2 = .ok (.bipush 48, 2) := by decide +kernel
theorem dX6_readsNumber_4 : decode cX6_readsNumber 4 = .ok (.iload_n 1, 1) := by decide +kernel
theorem dX6_readsNumber_5 : decode cX6_readsNumber 5 = .ok (.iadd, 1) := by decide +kernel
theorem dX6_readsNumber_6 : decode cX6_readsNumber 6 = .ok (.bipush 57, 2) := by decide +kernel
theorem dX6_readsNumber_8 : decode cX6_readsNumber 8 = .ok (.invokevirtual 150, 3) := by decide +kernel
theorem dX6_readsNumber_11 : decode cX6_readsNumber 11 = .ok (.iadd, 1) := by decide +kernel
theorem dX6_readsNumber_12 : decode cX6_readsNumber 12 = .ok (.istore_n 3, 1) := by decide +kernel
theorem dX6_readsNumber_13 : decode cX6_readsNumber 13 = .ok (.iload_n 3, 1) := by decide +kernel
theorem dX6_readsNumber_14 : decode cX6_readsNumber 14 = .ok (.ifCond .le 7, 3) := by decide +kernel
theorem dX6_readsNumber_17 : decode cX6_readsNumber 17 = .ok (.iconst 1, 1) := by decide +kernel
theorem dX6_readsNumber_18 : decode cX6_readsNumber 18 = .ok (.goto 4, 3) := by decide +kernel
theorem dX6_readsNumber_21 : decode cX6_readsNumber 21 = .ok (.iconst 0, 1) := by decide +kernel
theorem dX6_readsNumber_22 : decode cX6_readsNumber 22 = .ok (.istore 4, 2) := by decide +kernel
theorem dX6_readsNumber_24 : decode cX6_readsNumber 24 = .ok (.iload 4, 2) := by decide +kernel
theorem dX6_readsNumber_26 : decode cX6_readsNumber 26 = .ok (.ifCond .eq 68, 3) := by decide +kernel
theorem dX6_readsNumber_29 : decode cX6_readsNumber 29 = .ok (.aload_n 0, 1) := by decide +kernel
theorem dX6_readsNumber_30 : decode cX6_readsNumber 30 = .ok (.bipush 48, 2) := by decide +kernel
theorem dX6_readsNumber_32 : decode cX6_readsNumber 32 = .ok (.bipush 57, 2) := by decide +kernel
theorem dX6_readsNumber_34 : decode cX6_readsNumber 34 = .ok (.invokevirtual 153, 3) := by decide +kernel
theorem dX6_readsNumber_37 : decode cX6_readsNumber 37 = .ok (.ifCond .eq 28, 3) := by decide +kernel
theorem dX6_readsNumber_40 : decode cX6_readsNumber 40 = .ok (.bipush 10, 2) := by decide +kernel
theorem dX6_readsNumber_42 : decode cX6_readsNumber 42 = .ok (.iload_n 3, 1) := by decide +kernel
theorem dX6_readsNumber_43 : decode cX6_readsNumber 43 = .ok (.imul, 1) := by decide +kernel
theorem dX6_readsNumber_44 : decode cX6_readsNumber 44 = .ok (.aload_n 0, 1) := by decide +kernel
theorem dX6_readsNumber_45 : decode cX6_readsNumber 45 = .ok (.getfield 22, 3) := by decide +kernel
theorem dX6_readsNumber_48 : decode cX6_readsNumber 48 = .ok (.aload_n 0, 1) := by decide +kernel
theorem dX6_readsNumber_49 : decode cX6_readsNumber 49 = .ok (.getfield 147, 3) := by decide +kernel
theorem dX6_readsNumber_52 : decode cX6_readsNumber 52 = .ok (.iaload, 1) := by decide +kernel
theorem dX6_readsNumber_53 : decode cX6_readsNumber 53 = .ok (.iadd, 1) := by decide +kernel
theorem dX6_readsNumber_54 : decode cX6_readsNumber 54 = .ok (.bipush 48, 2) := by decide +kernel
theorem dX6_readsNumber_56 : decode cX6_readsNumber 56 = .ok (.isub, 1) := by decide +kernel
theorem dX6_readsNumber_57 : decode cX6_readsNumber 57 = .ok (.iload_n 2, 1) := by decide +kernel
theorem dX6_readsNumber_58 : decode cX6_readsNumber 58 = .ok (.if_icmp .gt 7, 3) := by decide +kernel
theorem dX6_readsNumber_61 : decode cX6_readsNumber 61 = .ok (.iconst 1, 1) := by decide +kernel
theorem dX6_readsNumber_62 : decode cX6_readsNumber 62 = .ok (.goto 4, 3) := by decide +kernel
theorem dX6_readsNumber_65 : decode cX6_readsNumber 65 = .ok (.iconst 0, 1) := by decide +kernel
theorem dX6_readsNumber_66 : decode cX6_readsNumber 66 = .ok (.istore 4, 2) := by decide +kernel
theorem dX6_readsNumber_68 : decode cX6_readsNumber 68 = .ok (.iload 4, 2) := by decide +kernel
theorem dX6_readsNumber_70 : decode cX6_readsNumber 70 = .ok (.ifCond .eq 19, 3) := by decide +kernel
theorem dX6_readsNumber_73 : decode cX6_readsNumber 73 = .ok (.bipush 10, 2) := by decide +kernel
theorem dX6_readsNumber_75 : decode cX6_readsNumber 75 = .ok (.iload_n 3, 1) := by decide +kernel
theorem dX6_readsNumber_76 : decode cX6_readsNumber 76 = .ok (.imul, 1) := by decide +kernel
theorem dX6_readsNumber_77 : decode cX6_readsNumber 77 = .ok (.aload_n 0, 1) := by decide +kernel
theorem dX6_readsNumber_78 : decode cX6_readsNumber 78 = .ok (.bipush 48, 2) := by decide +kernel
theorem dX6_readsNumber_80 : decode cX6_readsNumber 80 = .ok (.bipush 57, 2) := by decide +kernel
theorem dX6_readsNumber_82 : decode cX6_readsNumber 82 = .ok (.invokevirtual 150, 3) := by decide +kernel
theorem dX6_readsNumber_85 : decode cX6_readsNumber 85 = .ok (.iadd, 1) := by decide +kernel
theorem dX6_readsNumber_86 : decode cX6_readsNumber 86 = .ok (.goto 4, 3) := by decide +kernel
theorem dX6_readsNumber_89 : decode cX6_readsNumber 89 = .ok (.iload_n 3, 1) := by decide +kernel
theorem dX6_readsNumber_90 : decode cX6_readsNumber 90 = .ok (.istore_n 3, 1) := by decide +kernel
theorem dX6_readsNumber_91 : decode cX6_readsNumber 91 = .ok (.goto (-67), 3) := by decide +kernel
theorem dX6_readsNumber_94 : decode cX6_readsNumber 94 = .ok (.iload_n 3, 1) := by decide +kernel
theorem dX6_readsNumber_95 : decode cX6_readsNumber 95 = .ok (.ireturn, 1) := by decide +kernel
theorem dX6_readsPart_0 : decode cX6_readsPart 0 = .ok (.aload_n 0, 1) := by decide +kernel
theorem dX6_readsPart_1 : decode cX6_readsPart 1 = .ok (.getfield 147, 3) := by decide +kernel
theorem dX6_readsPart_4 : decode cX6_readsPart 4 = .ok (.aload_n 0, 1) := by decide +kernel
theorem dX6_readsPart_5 : decode cX6_readsPart 5 = .ok (.getfield 140, 3) := by decide +kernel
theorem dX6_readsPart_8 : decode cX6_readsPart 8 = .ok (.if_icmp .ge 15, 3) := by decide +kernel
theorem dX6_readsPart_11 : decode cX6_readsPart 11 = .ok (.aload_n 0, 1) := by decide +kernel
theorem dX6_readsPart_12 : decode cX6_readsPart 12 = .ok (.getfield 22, 3) := by decide +kernel
theorem dX6_readsPart_15 : decode cX6_readsPart 15 = .ok (.aload_n 0, 1) := by decide +kernel
theorem dX6_readsPart_16 : decode cX6_readsPart 16 = .ok (.getfield 147, 3) := by decide +kernel
theorem dX6_readsPart_19 : decode cX6_readsPart 19 = .ok (.iaload, 1) := by decide +kernel
theorem dX6_readsPart_20 : decode cX6_readsPart 20 = .ok (.goto 4, 3) := by decide +kernel
theorem dX6_readsPart_23 : decode cX6_readsPart 23 = .ok (.iconst 0, 1) := by decide +kernel
theorem dX6_readsPart_24 : decode cX6_readsPart 24 = .ok (.istore_n 1, 1) := by decide +kernel
theorem dX6_readsPart_25 : decode cX6_readsPart 25 = .ok (.aload_n 0, 1) := by decide +kernel
theorem dX6_readsPart_26 : decode cX6_readsPart 26 = .ok (.aload_n 0, 1) := by decide +kernel
theorem dX6_readsPart_27 : decode cX6_readsPart 27 = .ok (.getfield 143, 3) := by decide +kernel
theorem dX6_readsPart_30 : decode cX6_readsPart 30 = .ok (.ifCond .ne 32, 3) := by decide +kernel
theorem dX6_readsPart_33 : decode cX6_readsPart 33 = .ok (.iload_n 1, 1) := by decide +kernel
theorem dX6_readsPart_34 : decode cX6_readsPart 34 = .ok (.bipush 114, 2) := by decide +kernel
theorem dX6_readsPart_36 : decode cX6_readsPart 36 = .ok (.if_icmp .eq 30, 3) := by decide +kernel
theorem dX6_readsPart_39 : decode cX6_readsPart 39 = .ok (.iload_n 1, 1) := by decide +kernel
theorem dX6_readsPart_40 : decode cX6_readsPart 40 = .ok (.bipush 45, 2) := by decide +kernel
theorem dX6_readsPart_42 : decode cX6_readsPart 42 = .ok (.if_icmp .eq 24, 3) := by decide +kernel
theorem dX6_readsPart_45 : decode cX6_readsPart 45 = .ok (.iload_n 1, 1) := by decide +kernel
theorem dX6_readsPart_46 : decode cX6_readsPart 46 = .ok (.bipush 60, 2) := by decide +kernel
theorem dX6_readsPart_48 : decode cX6_readsPart 48 = .ok (.if_icmp .eq 18, 3) := by decide +kernel
theorem dX6_readsPart_51 : decode cX6_readsPart 51 = .ok (.iload_n 1, 1) := by decide +kernel
theorem dX6_readsPart_52 : decode cX6_readsPart 52 = .ok (.bipush 97, 2) := by decide +kernel
theorem dX6_readsPart_54 : decode cX6_readsPart 54 = .ok (.bipush 104, 2) := by decide +kernel
theorem dX6_readsPart_56 : decode cX6_readsPart 56 = .ok (.invokestatic 32, 3) := by decide +kernel
theorem dX6_readsPart_59 : decode cX6_readsPart 59 = .ok (.ifCond .ne 7, 3) := by decide +kernel
theorem dX6_readsPart_62 : decode cX6_readsPart 62 = .ok (.iconst 1, 1) := by decide +kernel
theorem dX6_readsPart_63 : decode cX6_readsPart 63 = .ok (.goto 4, 3) := by decide +kernel
theorem dX6_readsPart_66 : decode cX6_readsPart 66 = .ok (.iconst 0, 1) := by decide +kernel
theorem dX6_readsPart_67 : decode cX6_readsPart 67 = .ok (.putfield 143, 3) := by decide +kernel
theorem dX6_readsPart_70 : decode cX6_readsPart 70 = .ok (.aload_n 0, 1) := by decide +kernel
theorem dX6_readsPart_71 : decode cX6_readsPart 71 = .ok (.dup, 1) := by decide +kernel
theorem dX6_readsPart_72 : decode cX6_readsPart 72 = .ok (.getfield 147, 3) := by decide +kernel
theorem dX6_readsPart_75 : decode cX6_readsPart 75 = .ok (.aload_n 0, 1) := by decide +kernel
theorem dX6_readsPart_76 : decode cX6_readsPart 76 = .ok (.getfield 143, 3) := by decide +kernel
theorem dX6_readsPart_79 : decode cX6_readsPart 79 = .ok (.ifCond .eq 7, 3) := by decide +kernel
theorem dX6_readsPart_82 : decode cX6_readsPart 82 = .ok (.iconst 0, 1) := by decide +kernel
theorem dX6_readsPart_83 : decode cX6_readsPart 83 = .ok (.goto 4, 3) := by decide +kernel
theorem dX6_readsPart_86 : decode cX6_readsPart 86 = .ok (.iconst 1, 1) := by decide +kernel
theorem dX6_readsPart_87 : decode cX6_readsPart 87 = .ok (.iadd, 1) := by decide +kernel
theorem dX6_readsPart_88 : decode cX6_readsPart 88 = .ok (.putfield 147, 3) := by decide +kernel
theorem dX6_readsPart_91 : decode cX6_readsPart 91 = .ok (.aload_n 0, 1) := by decide +kernel
theorem dX6_readsPart_92 : decode cX6_readsPart 92 = .ok (.iload_n 1, 1) := by decide +kernel
theorem dX6_readsPart_93 : decode cX6_readsPart 93 = .ok (.bipush 97, 2) := by decide +kernel
theorem dX6_readsPart_95 : decode cX6_readsPart 95 = .ok (.bipush 104, 2) := by decide +kernel
theorem dX6_readsPart_97 : decode cX6_readsPart 97 = .ok (.invokestatic 32, 3) := by decide +kernel
theorem dX6_readsPart_100 : decode cX6_readsPart 100 = .ok (.ifCond .eq 8, 3) := by decide +kernel
theorem dX6_readsPart_103 : decode cX6_readsPart 103 = .ok (.bipush 97, 2) := by decide +kernel
theorem dX6_readsPart_105 : decode cX6_readsPart 105 = .ok (.goto 4, 3) := by decide +kernel
theorem dX6_readsPart_108 : decode cX6_readsPart 108 = .ok (.iload_n 1, 1) := by decide +kernel
theorem dX6_readsPart_109 : decode cX6_readsPart 109 = .ok (.putfield 156, 3) := by decide +kernel
theorem dX6_readsPart_112 : decode cX6_readsPart 112 = .ok (.aload_n 0, 1) := by decide +kernel
theorem dX6_readsPart_113 : decode cX6_readsPart 113 = .ok (.iload_n 1, 1) := by decide +kernel
theorem dX6_readsPart_114 : decode cX6_readsPart 114 = .ok (.bipush 114, 2) := by decide +kernel
theorem dX6_readsPart_116 : decode cX6_readsPart 116 = .ok (.if_icmp .ne 13, 3) := by decide +kernel
theorem dX6_readsPart_119 : decode cX6_readsPart 119 = .ok (.aload_n 0, 1) := by decide +kernel
theorem dX6_readsPart_120 : decode cX6_readsPart 120 = .ok (.iconst 1, 1) := by decide +kernel
theorem dX6_readsPart_121 : decode cX6_readsPart 121 = .ok (.bipush 60, 2) := by decide +kernel
theorem dX6_readsPart_123 : decode cX6_readsPart 123 = .ok (.invokevirtual 159, 3) := by decide +kernel
theorem dX6_readsPart_126 : decode cX6_readsPart 126 = .ok (.goto 24, 3) := by decide +kernel
theorem dX6_readsPart_129 : decode cX6_readsPart 129 = .ok (.iload_n 1, 1) := by decide +kernel
theorem dX6_readsPart_130 : decode cX6_readsPart 130 = .ok (.bipush 45, 2) := by decide +kernel
theorem dX6_readsPart_132 : decode cX6_readsPart 132 = .ok (.if_icmp .ne 14, 3) := by decide +kernel
theorem dX6_readsPart_135 : decode cX6_readsPart 135 = .ok (.aload_n 0, 1) := by decide +kernel
theorem dX6_readsPart_136 : decode cX6_readsPart 136 = .ok (.bipush 97, 2) := by decide +kernel
theorem dX6_readsPart_138 : decode cX6_readsPart 138 = .ok (.bipush 104, 2) := by decide +kernel
theorem dX6_readsPart_140 : decode cX6_readsPart 140 = .ok (.invokevirtual 150, 3) := by decide +kernel
theorem dX6_readsPart_143 : decode cX6_readsPart 143 = .ok (.goto 7, 3) := by decide +kernel
theorem dX6_readsPart_146 : decode cX6_readsPart 146 = .ok (.iload_n 1, 1) := by decide +kernel
theorem dX6_readsPart_147 : decode cX6_readsPart 147 = .ok (.bipush 97, 2) := by decide +kernel
theorem dX6_readsPart_149 : decode cX6_readsPart 149 = .ok (.isub, 1) := by decide +kernel
theorem dX6_readsPart_150 : decode cX6_readsPart 150 = .ok (.putfield 162, 3) := by decide +kernel
theorem dX6_readsPart_153 : decode cX6_readsPart 153 = .ok (.aload_n 0, 1) := by decide +kernel
theorem dX6_readsPart_154 : decode cX6_readsPart 154 = .ok (.aload_n 0, 1) := by decide +kernel
theorem dX6_readsPart_155 : decode cX6_readsPart 155 = .ok (.getfield 156, 3) := by decide +kernel
theorem dX6_readsPart_158 : decode cX6_readsPart 158 = .ok (.bipush 97, 2) := by decide +kernel
theorem dX6_readsPart_160 : decode cX6_readsPart 160 = .ok (.if_icmp .ne 13, 3) := by decide +kernel
theorem dX6_readsPart_163 : decode cX6_readsPart 163 = .ok (.aload_n 0, 1) := by decide +kernel
theorem dX6_readsPart_164 : decode cX6_readsPart 164 = .ok (.iconst 0, 1) := by decide +kernel
theorem dX6_readsPart_165 : decode cX6_readsPart 165 = .ok (.bipush 19, 2) := by decide +kernel
theorem dX6_readsPart_167 : decode cX6_readsPart 167 = .ok (.invokevirtual 159, 3) := by decide +kernel
theorem dX6_readsPart_170 : decode cX6_readsPart 170 = .ok (.goto 4, 3) := by decide +kernel
theorem dX6_readsPart_173 : decode cX6_readsPart 173 = .ok (.iconst 0, 1) := by decide +kernel
theorem dX6_readsPart_174 : decode cX6_readsPart 174 = .ok (.putfield 165, 3) := by decide +kernel
theorem dX6_readsPart_177 : decode cX6_readsPart 177 = .ok (.return_, 1) := by decide +kernel
theorem dX6_does_0 : decode cX6_does 0 = .ok (.aload_n 0, 1) := by decide +kernel
theorem dX6_does_1 : decode cX6_does 1 = .ok (.getfield 7, 3) := by decide +kernel
theorem dX6_does_4 : decode cX6_does 4 = .ok (.bipush 8, 2) := by decide +kernel
theorem dX6_does_6 : decode cX6_does 6 = .ok (.iaload, 1) := by decide +kernel
theorem dX6_does_7 : decode cX6_does 7 = .ok (.iconst 1, 1) := by decide +kernel
theorem dX6_does_8 : decode cX6_does 8 = .ok (.isub, 1) := by decide +kernel
theorem dX6_does_9 : decode cX6_does 9 = .ok (.istore_n 1, 1) := by decide +kernel
theorem dX6_does_10 : decode cX6_does 10 = .ok (.aload_n 0, 1) := by decide +kernel
theorem dX6_does_11 : decode cX6_does 11 = .ok (.getfield 156, 3) := by decide +kernel
theorem dX6_does_14 : decode cX6_does 14 = .ok (.bipush 114, 2) := by decide +kernel
theorem dX6_does_16 : decode cX6_does 16 = .ok (.if_icmp .ne 17, 3) := by decide +kernel
theorem dX6_does_19 : decode cX6_does 19 = .ok (.aload_n 0, 1) := by decide +kernel
theorem dX6_does_20 : decode cX6_does 20 = .ok (.getfield 7, 3) := by decide +kernel
theorem dX6_does_23 : decode cX6_does 23 = .ok (.bipush 8, 2) := by decide +kernel
theorem dX6_does_25 : decode cX6_does 25 = .ok (.iaload, 1) := by decide +kernel
theorem dX6_does_26 : decode cX6_does 26 = .ok (.iconst 4, 1) := by decide +kernel
theorem dX6_does_27 : decode cX6_does 27 = .ok (.if_icmp .ne 12, 3) := by decide +kernel
theorem dX6_does_30 : decode cX6_does 30 = .ok (.goto 7, 3) := by decide +kernel
theorem dX6_does_33 : decode cX6_does 33 = .ok (.iload_n 1, 1) := by decide +kernel
theorem dX6_does_34 : decode cX6_does 34 = .ok (.ifCond .ge 5, 3) := by decide +kernel
theorem dX6_does_37 : decode cX6_does 37 = .ok (.iconst 0, 1) := by decide +kernel
theorem dX6_does_38 : decode cX6_does 38 = .ok (.ireturn, 1) := by decide +kernel
theorem dX6_does_39 : decode cX6_does 39 = .ok (.aload_n 0, 1) := by decide +kernel
theorem dX6_does_40 : decode cX6_does 40 = .ok (.getfield 156, 3) := by decide +kernel
theorem dX6_does_43 : decode cX6_does 43 = .ok (.lookupswitch 127 #[(45, 102), (97, 43), (114, 33)], 33) := by decide +kernel
theorem dX6_does_76 : decode cX6_does 76 = .ok (.aload_n 0, 1) := by decide +kernel
theorem dX6_does_77 : decode cX6_does 77 = .ok (.aload_n 0, 1) := by decide +kernel
theorem dX6_does_78 : decode cX6_does 78 = .ok (.getfield 162, 3) := by decide +kernel
theorem dX6_does_81 : decode cX6_does 81 = .ok (.invokevirtual 87, 3) := by decide +kernel
theorem dX6_does_84 : decode cX6_does 84 = .ok (.iconst 1, 1) := by decide +kernel
theorem dX6_does_85 : decode cX6_does 85 = .ok (.ireturn, 1) := by decide +kernel
theorem dX6_does_86 : decode cX6_does 86 = .ok (.aload_n 0, 1) := by decide +kernel
theorem dX6_does_87 : decode cX6_does 87 = .ok (.aload_n 0, 1) := by decide +kernel
theorem dX6_does_88 : decode cX6_does 88 = .ok (.getfield 162, 3) := by decide +kernel
theorem dX6_does_91 : decode cX6_does 91 = .ok (.aload_n 0, 1) := by decide +kernel
theorem dX6_does_92 : decode cX6_does 92 = .ok (.getfield 165, 3) := by decide +kernel
theorem dX6_does_95 : decode cX6_does 95 = .ok (.invokevirtual 99, 3) := by decide +kernel
theorem dX6_does_98 : decode cX6_does 98 = .ok (.ifCond .eq 19, 3) := by decide +kernel
theorem dX6_does_101 : decode cX6_does 101 = .ok (.aload_n 0, 1) := by decide +kernel
theorem dX6_does_102 : decode cX6_does 102 = .ok (.iload_n 1, 1) := by decide +kernel
theorem dX6_does_103 : decode cX6_does 103 = .ok (.aload_n 0, 1) := by decide +kernel
theorem dX6_does_104 : decode cX6_does 104 = .ok (.getfield 162, 3) := by decide +kernel
theorem dX6_does_107 : decode cX6_does 107 = .ok (.aload_n 0, 1) := by decide +kernel
theorem dX6_does_108 : decode cX6_does 108 = .ok (.getfield 165, 3) := by decide +kernel
theorem dX6_does_111 : decode cX6_does 111 = .ok (.invokevirtual 102, 3) := by decide +kernel
theorem dX6_does_114 : decode cX6_does 114 = .ok (.ifCond .le 5, 3) := by decide +kernel
theorem dX6_does_117 : decode cX6_does 117 = .ok (.iconst 0, 1) := by decide +kernel
theorem dX6_does_118 : decode cX6_does 118 = .ok (.ireturn, 1) := by decide +kernel
theorem dX6_does_119 : decode cX6_does 119 = .ok (.aload_n 0, 1) := by decide +kernel
theorem dX6_does_120 : decode cX6_does 120 = .ok (.iload_n 1, 1) := by decide +kernel
theorem dX6_does_121 : decode cX6_does 121 = .ok (.aload_n 0, 1) := by decide +kernel
theorem dX6_does_122 : decode cX6_does 122 = .ok (.getfield 162, 3) := by decide +kernel
theorem dX6_does_125 : decode cX6_does 125 = .ok (.aload_n 0, 1) := by decide +kernel
theorem dX6_does_126 : decode cX6_does 126 = .ok (.getfield 165, 3) := by decide +kernel
theorem dX6_does_129 : decode cX6_does 129 = .ok (.invokevirtual 52, 3) := by decide +kernel
theorem dX6_does_132 : decode cX6_does 132 = .ok (.aload_n 0, 1) := by decide +kernel
theorem dX6_does_133 : decode cX6_does 133 = .ok (.getfield 7, 3) := by decide +kernel
theorem dX6_does_136 : decode cX6_does 136 = .ok (.bipush 9, 2) := by decide +kernel
theorem dX6_does_138 : decode cX6_does 138 = .ok (.dup2, 1) := by decide +kernel
theorem dX6_does_139 : decode cX6_does 139 = .ok (.iaload, 1) := by decide +kernel
theorem dX6_does_140 : decode cX6_does 140 = .ok (.iconst 1, 1) := by decide +kernel
theorem dX6_does_141 : decode cX6_does 141 = .ok (.iadd, 1) := by decide +kernel
theorem dX6_does_142 : decode cX6_does 142 = .ok (.iastore, 1) := by decide +kernel
theorem dX6_does_143 : decode cX6_does 143 = .ok (.iconst 1, 1) := by decide +kernel
theorem dX6_does_144 : decode cX6_does 144 = .ok (.ireturn, 1) := by decide +kernel
theorem dX6_does_145 : decode cX6_does 145 = .ok (.aload_n 0, 1) := by decide +kernel
theorem dX6_does_146 : decode cX6_does 146 = .ok (.iload_n 1, 1) := by decide +kernel
theorem dX6_does_147 : decode cX6_does 147 = .ok (.aload_n 0, 1) := by decide +kernel
theorem dX6_does_148 : decode cX6_does 148 = .ok (.getfield 162, 3) := by decide +kernel
theorem dX6_does_151 : decode cX6_does 151 = .ok (.invokevirtual 70, 3) := by decide +kernel
theorem dX6_does_154 : decode cX6_does 154 = .ok (.ifCond .ne 5, 3) := by decide +kernel
theorem dX6_does_157 : decode cX6_does 157 = .ok (.iconst 0, 1) := by decide +kernel
theorem dX6_does_158 : decode cX6_does 158 = .ok (.ireturn, 1) := by decide +kernel
theorem dX6_does_159 : decode cX6_does 159 = .ok (.aload_n 0, 1) := by decide +kernel
theorem dX6_does_160 : decode cX6_does 160 = .ok (.iload_n 1, 1) := by decide +kernel
theorem dX6_does_161 : decode cX6_does 161 = .ok (.aload_n 0, 1) := by decide +kernel
theorem dX6_does_162 : decode cX6_does 162 = .ok (.getfield 162, 3) := by decide +kernel
theorem dX6_does_165 : decode cX6_does 165 = .ok (.invokevirtual 109, 3) := by decide +kernel
theorem dX6_does_168 : decode cX6_does 168 = .ok (.iconst 1, 1) := by decide +kernel
theorem dX6_does_169 : decode cX6_does 169 = .ok (.ireturn, 1) := by decide +kernel
theorem dX6_does_170 : decode cX6_does 170 = .ok (.aload_n 0, 1) := by decide +kernel
theorem dX6_does_171 : decode cX6_does 171 = .ok (.iload_n 1, 1) := by decide +kernel
theorem dX6_does_172 : decode cX6_does 172 = .ok (.invokevirtual 122, 3) := by decide +kernel
theorem dX6_does_175 : decode cX6_does 175 = .ok (.iconst 1, 1) := by decide +kernel
theorem dX6_does_176 : decode cX6_does 176 = .ok (.ireturn, 1) := by decide +kernel
theorem dX6_goes_0 : decode cX6_goes 0 = .ok (.aload_n 0, 1) := by decide +kernel
theorem dX6_goes_1 : decode cX6_goes 1 = .ok (.iconst 0, 1) := by decide +kernel
theorem dX6_goes_2 : decode cX6_goes 2 = .ok (.putfield 147, 3) := by decide +kernel
theorem dX6_goes_5 : decode cX6_goes 5 = .ok (.aload_n 0, 1) := by decide +kernel
theorem dX6_goes_6 : decode cX6_goes 6 = .ok (.iconst 0, 1) := by decide +kernel
theorem dX6_goes_7 : decode cX6_goes 7 = .ok (.putfield 143, 3) := by decide +kernel
theorem dX6_goes_10 : decode cX6_goes 10 = .ok (.iconst 0, 1) := by decide +kernel
theorem dX6_goes_11 : decode cX6_goes 11 = .ok (.istore_n 2, 1) := by decide +kernel
theorem dX6_goes_12 : decode cX6_goes 12 = .ok (.iconst 1, 1) := by decide +kernel
theorem dX6_goes_13 : decode cX6_goes 13 = .ok (.istore_n 3, 1) := by decide +kernel
theorem dX6_goes_14 : decode cX6_goes 14 = .ok (.iload_n 3, 1) := by decide +kernel
theorem dX6_goes_15 : decode cX6_goes 15 = .ok (.ifCond .eq 97, 3) := by decide +kernel
theorem dX6_goes_18 : decode cX6_goes 18 = .ok (.aload_n 0, 1) := by decide +kernel
theorem dX6_goes_19 : decode cX6_goes 19 = .ok (.invokevirtual 168, 3) := by decide +kernel
theorem dX6_goes_22 : decode cX6_goes 22 = .ok (.iload_n 1, 1) := by decide +kernel
theorem dX6_goes_23 : decode cX6_goes 23 = .ok (.ifCond .eq 10, 3) := by decide +kernel
theorem dX6_goes_26 : decode cX6_goes 26 = .ok (.aload_n 0, 1) := by decide +kernel
theorem dX6_goes_27 : decode cX6_goes 27 = .ok (.invokevirtual 171, 3) := by decide +kernel
theorem dX6_goes_30 : decode cX6_goes 30 = .ok (.ifCond .eq 7, 3) := by decide +kernel
theorem dX6_goes_33 : decode cX6_goes 33 = .ok (.iconst 1, 1) := by decide +kernel
theorem dX6_goes_34 : decode cX6_goes 34 = .ok (.goto 4, 3) := by decide +kernel
theorem dX6_goes_37 : decode cX6_goes 37 = .ok (.iconst 0, 1) := by decide +kernel
theorem dX6_goes_38 : decode cX6_goes 38 = .ok (.istore 4, 2) := by decide +kernel
theorem dX6_goes_40 : decode cX6_goes 40 = .ok (.iload_n 2, 1) := by decide +kernel
theorem dX6_goes_41 : decode cX6_goes 41 = .ok (.iload 4, 2) := by decide +kernel
theorem dX6_goes_43 : decode cX6_goes 43 = .ok (.ifCond .eq 7, 3) := by decide +kernel
theorem dX6_goes_46 : decode cX6_goes 46 = .ok (.iconst 1, 1) := by decide +kernel
theorem dX6_goes_47 : decode cX6_goes 47 = .ok (.goto 4, 3) := by decide +kernel
theorem dX6_goes_50 : decode cX6_goes 50 = .ok (.iconst 0, 1) := by decide +kernel
theorem dX6_goes_51 : decode cX6_goes 51 = .ok (.iadd, 1) := by decide +kernel
theorem dX6_goes_52 : decode cX6_goes 52 = .ok (.istore_n 2, 1) := by decide +kernel
theorem dX6_goes_53 : decode cX6_goes 53 = .ok (.iload 4, 2) := by decide +kernel
theorem dX6_goes_55 : decode cX6_goes 55 = .ok (.ifCond .eq 25, 3) := by decide +kernel
theorem dX6_goes_58 : decode cX6_goes 58 = .ok (.aload_n 0, 1) := by decide +kernel
theorem dX6_goes_59 : decode cX6_goes 59 = .ok (.getfield 143, 3) := by decide +kernel
theorem dX6_goes_62 : decode cX6_goes 62 = .ok (.ifCond .ne 18, 3) := by decide +kernel
theorem dX6_goes_65 : decode cX6_goes 65 = .ok (.aload_n 0, 1) := by decide +kernel
theorem dX6_goes_66 : decode cX6_goes 66 = .ok (.getfield 147, 3) := by decide +kernel
theorem dX6_goes_69 : decode cX6_goes 69 = .ok (.aload_n 0, 1) := by decide +kernel
theorem dX6_goes_70 : decode cX6_goes 70 = .ok (.getfield 140, 3) := by decide +kernel
theorem dX6_goes_73 : decode cX6_goes 73 = .ok (.if_icmp .ge 7, 3) := by decide +kernel
theorem dX6_goes_76 : decode cX6_goes 76 = .ok (.iconst 1, 1) := by decide +kernel
theorem dX6_goes_77 : decode cX6_goes 77 = .ok (.goto 4, 3) := by decide +kernel
theorem dX6_goes_80 : decode cX6_goes 80 = .ok (.iconst 0, 1) := by decide +kernel
theorem dX6_goes_81 : decode cX6_goes 81 = .ok (.istore_n 3, 1) := by decide +kernel
theorem dX6_goes_82 : decode cX6_goes 82 = .ok (.iload_n 3, 1) := by decide +kernel
theorem dX6_goes_83 : decode cX6_goes 83 = .ok (.ifCond .eq 26, 3) := by decide +kernel
theorem dX6_goes_86 : decode cX6_goes 86 = .ok (.aload_n 0, 1) := by decide +kernel
theorem dX6_goes_87 : decode cX6_goes 87 = .ok (.bipush 44, 2) := by decide +kernel
theorem dX6_goes_89 : decode cX6_goes 89 = .ok (.bipush 44, 2) := by decide +kernel
theorem dX6_goes_91 : decode cX6_goes 91 = .ok (.invokevirtual 150, 3) := by decide +kernel
theorem dX6_goes_94 : decode cX6_goes 94 = .ok (.istore 5, 2) := by decide +kernel
theorem dX6_goes_96 : decode cX6_goes 96 = .ok (.aload_n 0, 1) := by decide +kernel
theorem dX6_goes_97 : decode cX6_goes 97 = .ok (.getfield 143, 3) := by decide +kernel
theorem dX6_goes_100 : decode cX6_goes 100 = .ok (.ifCond .ne 7, 3) := by decide +kernel
theorem dX6_goes_103 : decode cX6_goes 103 = .ok (.iconst 1, 1) := by decide +kernel
theorem dX6_goes_104 : decode cX6_goes 104 = .ok (.goto 4, 3) := by decide +kernel
theorem dX6_goes_107 : decode cX6_goes 107 = .ok (.iconst 0, 1) := by decide +kernel
theorem dX6_goes_108 : decode cX6_goes 108 = .ok (.istore_n 3, 1) := by decide +kernel
theorem dX6_goes_109 : decode cX6_goes 109 = .ok (.goto (-95), 3) := by decide +kernel
theorem dX6_goes_112 : decode cX6_goes 112 = .ok (.iload_n 2, 1) := by decide +kernel
theorem dX6_goes_113 : decode cX6_goes 113 = .ok (.ireturn, 1) := by decide +kernel
theorem dX6_firstError_0 : decode cX6_firstError 0 = .ok (.aload_n 0, 1) := by decide +kernel
theorem dX6_firstError_1 : decode cX6_firstError 1 = .ok (.iconst 0, 1) := by decide +kernel
theorem dX6_firstError_2 : decode cX6_firstError 2 = .ok (.putfield 28, 3) := by decide +kernel
theorem dX6_firstError_5 : decode cX6_firstError 5 = .ok (.aload_n 0, 1) := by decide +kernel
theorem dX6_firstError_6 : decode cX6_firstError 6 = .ok (.iconst 0, 1) := by decide +kernel
theorem dX6_firstError_7 : decode cX6_firstError 7 = .ok (.invokevirtual 175, 3) := by decide +kernel
theorem dX6_firstError_10 : decode cX6_firstError 10 = .ok (.istore_n 1, 1) := by decide +kernel
theorem dX6_firstError_11 : decode cX6_firstError 11 = .ok (.aload_n 0, 1) := by decide +kernel
theorem dX6_firstError_12 : decode cX6_firstError 12 = .ok (.getfield 143, 3) := by decide +kernel
theorem dX6_firstError_15 : decode cX6_firstError 15 = .ok (.ifCond .eq 10, 3) := by decide +kernel
theorem dX6_firstError_18 : decode cX6_firstError 18 = .ok (.aload_n 0, 1) := by decide +kernel
theorem dX6_firstError_19 : decode cX6_firstError 19 = .ok (.getfield 147, 3) := by decide +kernel
theorem dX6_firstError_22 : decode cX6_firstError 22 = .ok (.goto 7, 3) := by decide +kernel
theorem dX6_firstError_25 : decode cX6_firstError 25 = .ok (.aload_n 0, 1) := by decide +kernel
theorem dX6_firstError_26 : decode cX6_firstError 26 = .ok (.getfield 140, 3) := by decide +kernel
theorem dX6_firstError_29 : decode cX6_firstError 29 = .ok (.ireturn, 1) := by decide +kernel
theorem dX6_play_0 : decode cX6_play 0 = .ok (.aload_n 0, 1) := by decide +kernel
theorem dX6_play_1 : decode cX6_play 1 = .ok (.iconst 0, 1) := by decide +kernel
theorem dX6_play_2 : decode cX6_play 2 = .ok (.invokevirtual 175, 3) := by decide +kernel
theorem dX6_play_5 : decode cX6_play 5 = .ok (.istore_n 1, 1) := by decide +kernel
theorem dX6_play_6 : decode cX6_play 6 = .ok (.aload_n 0, 1) := by decide +kernel
theorem dX6_play_7 : decode cX6_play 7 = .ok (.aload_n 0, 1) := by decide +kernel
theorem dX6_play_8 : decode cX6_play 8 = .ok (.getfield 143, 3) := by decide +kernel
theorem dX6_play_11 : decode cX6_play 11 = .ok (.ifCond .eq 7, 3) := by decide +kernel
theorem dX6_play_14 : decode cX6_play 14 = .ok (.iconst 1, 1) := by decide +kernel
theorem dX6_play_15 : decode cX6_play 15 = .ok (.goto 4, 3) := by decide +kernel
theorem dX6_play_18 : decode cX6_play 18 = .ok (.iconst 0, 1) := by decide +kernel
theorem dX6_play_19 : decode cX6_play 19 = .ok (.invokevirtual 81, 3) := by decide +kernel
theorem dX6_play_22 : decode cX6_play 22 = .ok (.ifCond .ne 5, 3) := by decide +kernel
theorem dX6_play_25 : decode cX6_play 25 = .ok (.iconst 0, 1) := by decide +kernel
theorem dX6_play_26 : decode cX6_play 26 = .ok (.ireturn, 1) := by decide +kernel
theorem dX6_play_27 : decode cX6_play 27 = .ok (.aload_n 0, 1) := by decide +kernel
theorem dX6_play_28 : decode cX6_play 28 = .ok (.invokevirtual 84, 3) := by decide +kernel
theorem dX6_play_31 : decode cX6_play 31 = .ok (.aload_n 0, 1) := by decide +kernel
theorem dX6_play_32 : decode cX6_play 32 = .ok (.iconst 1, 1) := by decide +kernel
theorem dX6_play_33 : decode cX6_play 33 = .ok (.invokevirtual 175, 3) := by decide +kernel
theorem dX6_play_36 : decode cX6_play 36 = .ok (.istore_n 2, 1) := by decide +kernel
theorem dX6_play_37 : decode cX6_play 37 = .ok (.aload_n 0, 1) := by decide +kernel
theorem dX6_play_38 : decode cX6_play 38 = .ok (.iconst 0, 1) := by decide +kernel
theorem dX6_play_39 : decode cX6_play 39 = .ok (.putfield 140, 3) := by decide +kernel
theorem dX6_play_42 : decode cX6_play 42 = .ok (.iload_n 2, 1) := by decide +kernel
theorem dX6_play_43 : decode cX6_play 43 = .ok (.ireturn, 1) := by decide +kernel
theorem dX6_undo_0 : decode cX6_undo 0 = .ok (.aload_n 0, 1) := by decide +kernel
theorem dX6_undo_1 : decode cX6_undo 1 = .ok (.aload_n 0, 1) := by decide +kernel
theorem dX6_undo_2 : decode cX6_undo 2 = .ok (.getfield 43, 3) := by decide +kernel
theorem dX6_undo_5 : decode cX6_undo 5 = .ok (.ifCond .le 7, 3) := by decide +kernel
theorem dX6_undo_8 : decode cX6_undo 8 = .ok (.iconst 0, 1) := by decide +kernel
theorem dX6_undo_9 : decode cX6_undo 9 = .ok (.goto 4, 3) := by decide +kernel
theorem dX6_undo_12 : decode cX6_undo 12 = .ok (.iconst 1, 1) := by decide +kernel
theorem dX6_undo_13 : decode cX6_undo 13 = .ok (.invokevirtual 81, 3) := by decide +kernel
theorem dX6_undo_16 : decode cX6_undo 16 = .ok (.ifCond .ne 5, 3) := by decide +kernel
theorem dX6_undo_19 : decode cX6_undo 19 = .ok (.iconst 0, 1) := by decide +kernel
theorem dX6_undo_20 : decode cX6_undo 20 = .ok (.ireturn, 1) := by decide +kernel
theorem dX6_undo_21 : decode cX6_undo 21 = .ok (.aload_n 0, 1) := by decide +kernel
theorem dX6_undo_22 : decode cX6_undo 22 = .ok (.dup, 1) := by decide +kernel
theorem dX6_undo_23 : decode cX6_undo 23 = .ok (.getfield 43, 3) := by decide +kernel
theorem dX6_undo_26 : decode cX6_undo 26 = .ok (.iconst 1, 1) := by decide +kernel
theorem dX6_undo_27 : decode cX6_undo 27 = .ok (.isub, 1) := by decide +kernel
theorem dX6_undo_28 : decode cX6_undo 28 = .ok (.putfield 43, 3) := by decide +kernel
theorem dX6_undo_31 : decode cX6_undo 31 = .ok (.iconst 0, 1) := by decide +kernel
theorem dX6_undo_32 : decode cX6_undo 32 = .ok (.istore_n 1, 1) := by decide +kernel
theorem dX6_undo_33 : decode cX6_undo 33 = .ok (.iload_n 1, 1) := by decide +kernel
theorem dX6_undo_34 : decode cX6_undo 34 = .ok (.bipush 84, 2) := by decide +kernel
theorem dX6_undo_36 : decode cX6_undo 36 = .ok (.if_icmp .ge 29, 3) := by decide +kernel
theorem dX6_undo_39 : decode cX6_undo 39 = .ok (.aload_n 0, 1) := by decide +kernel
theorem dX6_undo_40 : decode cX6_undo 40 = .ok (.getfield 7, 3) := by decide +kernel
theorem dX6_undo_43 : decode cX6_undo 43 = .ok (.iload_n 1, 1) := by decide +kernel
theorem dX6_undo_44 : decode cX6_undo 44 = .ok (.aload_n 0, 1) := by decide +kernel
theorem dX6_undo_45 : decode cX6_undo 45 = .ok (.getfield 19, 3) := by decide +kernel
theorem dX6_undo_48 : decode cX6_undo 48 = .ok (.bipush 84, 2) := by decide +kernel
theorem dX6_undo_50 : decode cX6_undo 50 = .ok (.aload_n 0, 1) := by decide +kernel
theorem dX6_undo_51 : decode cX6_undo 51 = .ok (.getfield 43, 3) := by decide +kernel
theorem dX6_undo_54 : decode cX6_undo 54 = .ok (.imul, 1) := by decide +kernel
theorem dX6_undo_55 : decode cX6_undo 55 = .ok (.iload_n 1, 1) := by decide +kernel
theorem dX6_undo_56 : decode cX6_undo 56 = .ok (.iadd, 1) := by decide +kernel
theorem dX6_undo_57 : decode cX6_undo 57 = .ok (.iaload, 1) := by decide +kernel
theorem dX6_undo_58 : decode cX6_undo 58 = .ok (.iastore, 1) := by decide +kernel
theorem dX6_undo_59 : decode cX6_undo 59 = .ok (.iinc 1 1, 3) := by decide +kernel
theorem dX6_undo_62 : decode cX6_undo 62 = .ok (.goto (-29), 3) := by decide +kernel
theorem dX6_undo_65 : decode cX6_undo 65 = .ok (.aload_n 0, 1) := by decide +kernel
theorem dX6_undo_66 : decode cX6_undo 66 = .ok (.getfield 43, 3) := by decide +kernel
theorem dX6_undo_69 : decode cX6_undo 69 = .ok (.ireturn, 1) := by decide +kernel
theorem dX6_keep_0 : decode cX6_keep 0 = .ok (.aload_n 0, 1) := by decide +kernel
theorem dX6_keep_1 : decode cX6_keep 1 = .ok (.iconst 0, 1) := by decide +kernel
theorem dX6_keep_2 : decode cX6_keep 2 = .ok (.putfield 28, 3) := by decide +kernel
theorem dX6_keep_5 : decode cX6_keep 5 = .ok (.iconst 0, 1) := by decide +kernel
theorem dX6_keep_6 : decode cX6_keep 6 = .ok (.istore_n 1, 1) := by decide +kernel
theorem dX6_keep_7 : decode cX6_keep 7 = .ok (.iload_n 1, 1) := by decide +kernel
theorem dX6_keep_8 : decode cX6_keep 8 = .ok (.bipush 84, 2) := by decide +kernel
theorem dX6_keep_10 : decode cX6_keep 10 = .ok (.if_icmp .ge 21, 3) := by decide +kernel
theorem dX6_keep_13 : decode cX6_keep 13 = .ok (.aload_n 0, 1) := by decide +kernel
theorem dX6_keep_14 : decode cX6_keep 14 = .ok (.getfield 16, 3) := by decide +kernel
theorem dX6_keep_17 : decode cX6_keep 17 = .ok (.iload_n 1, 1) := by decide +kernel
theorem dX6_keep_18 : decode cX6_keep 18 = .ok (.aload_n 0, 1) := by decide +kernel
theorem dX6_keep_19 : decode cX6_keep 19 = .ok (.getfield 7, 3) := by decide +kernel
theorem dX6_keep_22 : decode cX6_keep 22 = .ok (.iload_n 1, 1) := by decide +kernel
theorem dX6_keep_23 : decode cX6_keep 23 = .ok (.iaload, 1) := by decide +kernel
theorem dX6_keep_24 : decode cX6_keep 24 = .ok (.iastore, 1) := by decide +kernel
theorem dX6_keep_25 : decode cX6_keep 25 = .ok (.iinc 1 1, 3) := by decide +kernel
theorem dX6_keep_28 : decode cX6_keep 28 = .ok (.goto (-21), 3) := by decide +kernel
theorem dX6_keep_31 : decode cX6_keep 31 = .ok (.aload_n 0, 1) := by decide +kernel
theorem dX6_keep_32 : decode cX6_keep 32 = .ok (.iconst 1, 1) := by decide +kernel
theorem dX6_keep_33 : decode cX6_keep 33 = .ok (.putfield 179, 3) := by decide +kernel
theorem dX6_keep_36 : decode cX6_keep 36 = .ok (.aload_n 0, 1) := by decide +kernel
theorem dX6_keep_37 : decode cX6_keep 37 = .ok (.getfield 7, 3) := by decide +kernel
theorem dX6_keep_40 : decode cX6_keep 40 = .ok (.bipush 8, 2) := by decide +kernel
theorem dX6_keep_42 : decode cX6_keep 42 = .ok (.iaload, 1) := by decide +kernel
theorem dX6_keep_43 : decode cX6_keep 43 = .ok (.ireturn, 1) := by decide +kernel
theorem dX6_restore_0 : decode cX6_restore 0 = .ok (.aload_n 0, 1) := by decide +kernel
theorem dX6_restore_1 : decode cX6_restore 1 = .ok (.aload_n 0, 1) := by decide +kernel
theorem dX6_restore_2 : decode cX6_restore 2 = .ok (.getfield 179, 3) := by decide +kernel
theorem dX6_restore_5 : decode cX6_restore 5 = .ok (.ifCond .eq 7, 3) := by decide +kernel
theorem dX6_restore_8 : decode cX6_restore 8 = .ok (.iconst 0, 1) := by decide +kernel
theorem dX6_restore_9 : decode cX6_restore 9 = .ok (.goto 4, 3) := by decide +kernel
theorem dX6_restore_12 : decode cX6_restore 12 = .ok (.iconst 1, 1) := by decide +kernel
theorem dX6_restore_13 : decode cX6_restore 13 = .ok (.invokevirtual 81, 3) := by decide +kernel
theorem dX6_restore_16 : decode cX6_restore 16 = .ok (.ifCond .ne 5, 3) := by decide +kernel
theorem dX6_restore_19 : decode cX6_restore 19 = .ok (.iconst 0, 1) := by decide +kernel
theorem dX6_restore_20 : decode cX6_restore 20 = .ok (.ireturn, 1) := by decide +kernel
theorem dX6_restore_21 : decode cX6_restore 21 = .ok (.aload_n 0, 1) := by decide +kernel
theorem dX6_restore_22 : decode cX6_restore 22 = .ok (.invokevirtual 84, 3) := by decide +kernel
theorem dX6_restore_25 : decode cX6_restore 25 = .ok (.iconst 0, 1) := by decide +kernel
theorem dX6_restore_26 : decode cX6_restore 26 = .ok (.istore_n 1, 1) := by decide +kernel
theorem dX6_restore_27 : decode cX6_restore 27 = .ok (.iload_n 1, 1) := by decide +kernel
theorem dX6_restore_28 : decode cX6_restore 28 = .ok (.bipush 84, 2) := by decide +kernel
theorem dX6_restore_30 : decode cX6_restore 30 = .ok (.if_icmp .ge 21, 3) := by decide +kernel
theorem dX6_restore_33 : decode cX6_restore 33 = .ok (.aload_n 0, 1) := by decide +kernel
theorem dX6_restore_34 : decode cX6_restore 34 = .ok (.getfield 7, 3) := by decide +kernel
theorem dX6_restore_37 : decode cX6_restore 37 = .ok (.iload_n 1, 1) := by decide +kernel
theorem dX6_restore_38 : decode cX6_restore 38 = .ok (.aload_n 0, 1) := by decide +kernel
theorem dX6_restore_39 : decode cX6_restore 39 = .ok (.getfield 16, 3) := by decide +kernel
theorem dX6_restore_42 : decode cX6_restore 42 = .ok (.iload_n 1, 1) := by decide +kernel
theorem dX6_restore_43 : decode cX6_restore 43 = .ok (.iaload, 1) := by decide +kernel
theorem dX6_restore_44 : decode cX6_restore 44 = .ok (.iastore, 1) := by decide +kernel
theorem dX6_restore_45 : decode cX6_restore 45 = .ok (.iinc 1 1, 3) := by decide +kernel
theorem dX6_restore_48 : decode cX6_restore 48 = .ok (.goto (-21), 3) := by decide +kernel
theorem dX6_restore_51 : decode cX6_restore 51 = .ok (.aload_n 0, 1) := by decide +kernel
theorem dX6_restore_52 : decode cX6_restore 52 = .ok (.getfield 7, 3) := by decide +kernel
theorem dX6_restore_55 : decode cX6_restore 55 = .ok (.bipush 8, 2) := by decide +kernel
theorem dX6_restore_57 : decode cX6_restore 57 = .ok (.iaload, 1) := by decide +kernel
theorem dX6_restore_58 : decode cX6_restore 58 = .ok (.ireturn, 1) := by decide +kernel
theorem dX6_place_0 : decode cX6_place 0 = .ok (.aload_n 0, 1) := by decide +kernel
theorem dX6_place_1 : decode cX6_place 1 = .ok (.aload_n 0, 1) := by decide +kernel
theorem dX6_place_2 : decode cX6_place 2 = .ok (.iload_n 1, 1) := by decide +kernel
theorem dX6_place_3 : decode cX6_place 3 = .ok (.invokevirtual 90, 3) := by decide +kernel
theorem dX6_place_6 : decode cX6_place 6 = .ok (.ifCond .eq 27, 3) := by decide +kernel
theorem dX6_place_9 : decode cX6_place 9 = .ok (.iload_n 2, 1) := by decide +kernel
theorem dX6_place_10 : decode cX6_place 10 = .ok (.iconst 0, 1) := by decide +kernel
theorem dX6_place_11 : decode cX6_place 11 = .ok (.aload_n 0, 1) := by decide +kernel
theorem dX6_place_12 : decode cX6_place 12 = .ok (.getfield 7, 3) := by decide +kernel
theorem dX6_place_15 : decode cX6_place 15 = .ok (.iload_n 1, 1) := by decide +kernel
theorem dX6_place_16 : decode cX6_place 16 = .ok (.iconst 0, 1) := by decide +kernel
theorem dX6_place_17 : decode cX6_place 17 = .ok (.invokestatic 36, 3) := by decide +kernel
theorem dX6_place_20 : decode cX6_place 20 = .ok (.iaload, 1) := by decide +kernel
theorem dX6_place_21 : decode cX6_place 21 = .ok (.iconst 1, 1) := by decide +kernel
theorem dX6_place_22 : decode cX6_place 22 = .ok (.isub, 1) := by decide +kernel
theorem dX6_place_23 : decode cX6_place 23 = .ok (.invokestatic 32, 3) := by decide +kernel
theorem dX6_place_26 : decode cX6_place 26 = .ok (.ifCond .eq 7, 3) := by decide +kernel
theorem dX6_place_29 : decode cX6_place 29 = .ok (.iconst 0, 1) := by decide +kernel
theorem dX6_place_30 : decode cX6_place 30 = .ok (.goto 4, 3) := by decide +kernel
theorem dX6_place_33 : decode cX6_place 33 = .ok (.iconst 1, 1) := by decide +kernel
theorem dX6_place_34 : decode cX6_place 34 = .ok (.invokevirtual 81, 3) := by decide +kernel
theorem dX6_place_37 : decode cX6_place 37 = .ok (.ifCond .eq 12, 3) := by decide +kernel
theorem dX6_place_40 : decode cX6_place 40 = .ok (.aload_n 0, 1) := by decide +kernel
theorem dX6_place_41 : decode cX6_place 41 = .ok (.iload_n 1, 1) := by decide +kernel
theorem dX6_place_42 : decode cX6_place 42 = .ok (.iload_n 2, 1) := by decide +kernel
theorem dX6_place_43 : decode cX6_place 43 = .ok (.invokevirtual 63, 3) := by decide +kernel
theorem dX6_place_46 : decode cX6_place 46 = .ok (.goto 4, 3) := by decide +kernel
theorem dX6_place_49 : decode cX6_place 49 = .ok (.iconst 0, 1) := by decide +kernel
theorem dX6_place_50 : decode cX6_place 50 = .ok (.ireturn, 1) := by decide +kernel
theorem dX6_holes_0 : decode cX6_holes 0 = .ok (.iconst 0, 1) := by decide +kernel
theorem dX6_holes_1 : decode cX6_holes 1 = .ok (.istore_n 2, 1) := by decide +kernel
theorem dX6_holes_2 : decode cX6_holes 2 = .ok (.iconst 0, 1) := by decide +kernel
theorem dX6_holes_3 : decode cX6_holes 3 = .ok (.istore_n 3, 1) := by decide +kernel
theorem dX6_holes_4 : decode cX6_holes 4 = .ok (.iload_n 3, 1) := by decide +kernel
theorem dX6_holes_5 : decode cX6_holes 5 = .ok (.aload_n 0, 1) := by decide +kernel
theorem dX6_holes_6 : decode cX6_holes 6 = .ok (.getfield 7, 3) := by decide +kernel
theorem dX6_holes_9 : decode cX6_holes 9 = .ok (.iload_n 1, 1) := by decide +kernel
theorem dX6_holes_10 : decode cX6_holes 10 = .ok (.iconst 0, 1) := by decide +kernel
theorem dX6_holes_11 : decode cX6_holes 11 = .ok (.invokestatic 36, 3) := by decide +kernel
theorem dX6_holes_14 : decode cX6_holes 14 = .ok (.iaload, 1) := by decide +kernel
theorem dX6_holes_15 : decode cX6_holes 15 = .ok (.if_icmp .ge 27, 3) := by decide +kernel
theorem dX6_holes_18 : decode cX6_holes 18 = .ok (.iload_n 2, 1) := by decide +kernel
theorem dX6_holes_19 : decode cX6_holes 19 = .ok (.aload_n 0, 1) := by decide +kernel
theorem dX6_holes_20 : decode cX6_holes 20 = .ok (.iload_n 1, 1) := by decide +kernel
theorem dX6_holes_21 : decode cX6_holes 21 = .ok (.iload_n 3, 1) := by decide +kernel
theorem dX6_holes_22 : decode cX6_holes 22 = .ok (.invokevirtual 63, 3) := by decide +kernel
theorem dX6_holes_25 : decode cX6_holes 25 = .ok (.iconst (-1), 1) := by decide +kernel
theorem dX6_holes_26 : decode cX6_holes 26 = .ok (.if_icmp .ne 7, 3) := by decide +kernel
theorem dX6_holes_29 : decode cX6_holes 29 = .ok (.iconst 1, 1) := by decide +kernel
theorem dX6_holes_30 : decode cX6_holes 30 = .ok (.goto 4, 3) := by decide +kernel
theorem dX6_holes_33 : decode cX6_holes 33 = .ok (.iconst 0, 1) := by decide +kernel
theorem dX6_holes_34 : decode cX6_holes 34 = .ok (.iadd, 1) := by decide +kernel
theorem dX6_holes_35 : decode cX6_holes 35 = .ok (.istore_n 2, 1) := by decide +kernel
theorem dX6_holes_36 : decode cX6_holes 36 = .ok (.iinc 3 1, 3) := by decide +kernel
theorem dX6_holes_39 : decode cX6_holes 39 = .ok (.goto (-35), 3) := by decide +kernel
theorem dX6_holes_42 : decode cX6_holes 42 = .ok (.iload_n 2, 1) := by decide +kernel
theorem dX6_holes_43 : decode cX6_holes 43 = .ok (.ireturn, 1) := by decide +kernel
theorem dX6_firstHole_0 : decode cX6_firstHole 0 = .ok (.iconst (-1), 1) := by decide +kernel
theorem dX6_firstHole_1 : decode cX6_firstHole 1 = .ok (.istore_n 2, 1) := by decide +kernel
theorem dX6_firstHole_2 : decode cX6_firstHole 2 = .ok (.aload_n 0, 1) := by decide +kernel
theorem dX6_firstHole_3 : decode cX6_firstHole 3 = .ok (.getfield 7, 3) := by decide +kernel
theorem dX6_firstHole_6 : decode cX6_firstHole 6 = .ok (.iload_n 1, 1) := by decide +kernel
theorem dX6_firstHole_7 : decode cX6_firstHole 7 = .ok (.iconst 0, 1) := by decide +kernel
theorem dX6_firstHole_8 : decode cX6_firstHole 8 = .ok (.invokestatic 36, 3) := by decide +kernel
theorem dX6_firstHole_11 : decode cX6_firstHole 11 = .ok (.iaload, 1) := by decide +kernel
theorem dX6_firstHole_12 : decode cX6_firstHole 12 = .ok (.iconst 1, 1) := by decide +kernel
theorem dX6_firstHole_13 : decode cX6_firstHole 13 = .ok (.isub, 1) := by decide +kernel
theorem dX6_firstHole_14 : decode cX6_firstHole 14 = .ok (.istore_n 3, 1) := by decide +kernel
theorem dX6_firstHole_15 : decode cX6_firstHole 15 = .ok (.iload_n 3, 1) := by decide +kernel
theorem dX6_firstHole_16 : decode cX6_firstHole 16 = .ok (.ifCond .lt 25, 3) := by decide +kernel
theorem dX6_firstHole_19 : decode cX6_firstHole 19 = .ok (.aload_n 0, 1) := by decide +kernel
theorem dX6_firstHole_20 : decode cX6_firstHole 20 = .ok (.iload_n 1, 1) := by decide +kernel
theorem dX6_firstHole_21 : decode cX6_firstHole 21 = .ok (.iload_n 3, 1) := by decide +kernel
theorem dX6_firstHole_22 : decode cX6_firstHole 22 = .ok (.invokevirtual 63, 3) := by decide +kernel
theorem dX6_firstHole_25 : decode cX6_firstHole 25 = .ok (.iconst (-1), 1) := by decide +kernel
theorem dX6_firstHole_26 : decode cX6_firstHole 26 = .ok (.if_icmp .ne 7, 3) := by decide +kernel
theorem dX6_firstHole_29 : decode cX6_firstHole 29 = .ok (.iload_n 3, 1) := by decide +kernel
theorem dX6_firstHole_30 : decode cX6_firstHole 30 = .ok (.goto 4, 3) := by decide +kernel
theorem dX6_firstHole_33 : decode cX6_firstHole 33 = .ok (.iload_n 2, 1) := by decide +kernel
theorem dX6_firstHole_34 : decode cX6_firstHole 34 = .ok (.istore_n 2, 1) := by decide +kernel
theorem dX6_firstHole_35 : decode cX6_firstHole 35 = .ok (.iinc 3 (-1), 3) := by decide +kernel
theorem dX6_firstHole_38 : decode cX6_firstHole 38 = .ok (.goto (-23), 3) := by decide +kernel
theorem dX6_firstHole_41 : decode cX6_firstHole 41 = .ok (.iload_n 2, 1) := by decide +kernel
theorem dX6_firstHole_42 : decode cX6_firstHole 42 = .ok (.ireturn, 1) := by decide +kernel
theorem dX6_holesSideBySide_0 : decode cX6_holesSideBySide 0 = .ok (.iconst 0, 1) := by decide +kernel
theorem dX6_holesSideBySide_1 : decode cX6_holesSideBySide 1 = .ok (.istore_n 2, 1) := by decide +kernel
theorem dX6_holesSideBySide_2 : decode cX6_holesSideBySide 2 = .ok (.iconst 0, 1) := by decide +kernel
theorem dX6_holesSideBySide_3 : decode cX6_holesSideBySide 3 = .ok (.istore_n 3, 1) := by decide +kernel
theorem dX6_holesSideBySide_4 : decode cX6_holesSideBySide 4 = .ok (.iconst 0, 1) := by decide +kernel
theorem dX6_holesSideBySide_5 : decode cX6_holesSideBySide 5 = .ok (.istore 4, 2) := by decide +kernel
theorem dX6_holesSideBySide_7 : decode cX6_holesSideBySide 7 = .ok (.iload 4, 2) := by decide +kernel
theorem dX6_holesSideBySide_9 : decode cX6_holesSideBySide 9 = .ok (.aload_n 0, 1) := by decide +kernel
theorem dX6_holesSideBySide_10 : decode cX6_holesSideBySide 10 = .ok (.getfield 7, 3) := by decide +kernel
theorem dX6_holesSideBySide_13 : decode cX6_holesSideBySide 13 = .ok (.iload_n 1, 1) := by decide +kernel
theorem dX6_holesSideBySide_14 : decode cX6_holesSideBySide 14 = .ok (.iconst 0, 1) := by decide +kernel
theorem dX6_holesSideBySide_15 : decode cX6_holesSideBySide 15 = .ok (.invokestatic 36, 3) := by decide +kernel
theorem dX6_holesSideBySide_18 : decode cX6_holesSideBySide 18 = .ok (.iaload, 1) := by decide +kernel
theorem dX6_holesSideBySide_19 : decode cX6_holesSideBySide 19 = .ok (.if_icmp .ge 39, 3) := by decide +kernel
theorem dX6_holesSideBySide_22 : decode cX6_holesSideBySide 22 = .ok (.aload_n 0, 1) := by decide +kernel
theorem dX6_holesSideBySide_23 : decode cX6_holesSideBySide 23 = .ok (.iload_n 1, 1) := by decide +kernel
theorem dX6_holesSideBySide_24 : decode cX6_holesSideBySide 24 = .ok (.iload 4, 2) := by decide +kernel
theorem dX6_holesSideBySide_26 : decode cX6_holesSideBySide 26 = .ok (.invokevirtual 63, 3) := by decide +kernel
theorem dX6_holesSideBySide_29 : decode cX6_holesSideBySide 29 = .ok (.iconst (-1), 1) := by decide +kernel
theorem dX6_holesSideBySide_30 : decode cX6_holesSideBySide 30 = .ok (.if_icmp .ne 9, 3) := by decide +kernel
theorem dX6_holesSideBySide_33 : decode cX6_holesSideBySide 33 = .ok (.iload_n 3, 1) := by decide +kernel
theorem dX6_holesSideBySide_34 : decode cX6_holesSideBySide 34 = .ok (.iconst 1, 1) := by decide +kernel
theorem dX6_holesSideBySide_35 : decode cX6_holesSideBySide 35 = .ok (.iadd, 1) := by decide +kernel
theorem dX6_holesSideBySide_36 : decode cX6_holesSideBySide 36 = .ok (.goto 4, 3) := by decide +kernel
theorem dX6_holesSideBySide_39 : decode cX6_holesSideBySide 39 = .ok (.iconst 0, 1) := by decide +kernel
theorem dX6_holesSideBySide_40 : decode cX6_holesSideBySide 40 = .ok (.istore_n 3, 1) := by decide +kernel
theorem dX6_holesSideBySide_41 : decode cX6_holesSideBySide 41 = .ok (.iload_n 3, 1) := by decide +kernel
theorem dX6_holesSideBySide_42 : decode cX6_holesSideBySide 42 = .ok (.iload_n 2, 1) := by decide +kernel
theorem dX6_holesSideBySide_43 : decode cX6_holesSideBySide 43 = .ok (.if_icmp .le 7, 3) := by decide +kernel
theorem dX6_holesSideBySide_46 : decode cX6_holesSideBySide 46 = .ok (.iload_n 3, 1) := by decide +kernel
theorem dX6_holesSideBySide_47 : decode cX6_holesSideBySide 47 = .ok (.goto 4, 3) := by decide +kernel
theorem dX6_holesSideBySide_50 : decode cX6_holesSideBySide 50 = .ok (.iload_n 2, 1) := by decide +kernel
theorem dX6_holesSideBySide_51 : decode cX6_holesSideBySide 51 = .ok (.istore_n 2, 1) := by decide +kernel
theorem dX6_holesSideBySide_52 : decode cX6_holesSideBySide 52 = .ok (.iinc 4 1, 3) := by decide +kernel
theorem dX6_holesSideBySide_55 : decode cX6_holesSideBySide 55 = .ok (.goto (-48), 3) := by decide +kernel
theorem dX6_holesSideBySide_58 : decode cX6_holesSideBySide 58 = .ok (.iload_n 2, 1) := by decide +kernel
theorem dX6_holesSideBySide_59 : decode cX6_holesSideBySide 59 = .ok (.ireturn, 1) := by decide +kernel
theorem dX6_divisor_0 : decode cX6_divisor 0 = .ok (.iload_n 0, 1) := by decide +kernel
theorem dX6_divisor_1 : decode cX6_divisor 1 = .ok (.istore_n 2, 1) := by decide +kernel
theorem dX6_divisor_2 : decode cX6_divisor 2 = .ok (.iload_n 1, 1) := by decide +kernel
theorem dX6_divisor_3 : decode cX6_divisor 3 = .ok (.istore_n 3, 1) := by decide +kernel
theorem dX6_divisor_4 : decode cX6_divisor 4 = .ok (.iload_n 3, 1) := by decide +kernel
theorem dX6_divisor_5 : decode cX6_divisor 5 = .ok (.ifCond .le 16, 3) := by decide +kernel
theorem dX6_divisor_8 : decode cX6_divisor 8 = .ok (.iload_n 2, 1) := by decide +kernel
theorem dX6_divisor_9 : decode cX6_divisor 9 = .ok (.iload_n 3, 1) := by decide +kernel
theorem dX6_divisor_10 : decode cX6_divisor 10 = .ok (.irem, 1) := by decide +kernel
theorem dX6_divisor_11 : decode cX6_divisor 11 = .ok (.istore 4, 2) := by decide +kernel
theorem dX6_divisor_13 : decode cX6_divisor 13 = .ok (.iload_n 3, 1) := by decide +kernel
theorem dX6_divisor_14 : decode cX6_divisor 14 = .ok (.istore_n 2, 1) := by decide +kernel
theorem dX6_divisor_15 : decode cX6_divisor 15 = .ok (.iload 4, 2) := by decide +kernel
theorem dX6_divisor_17 : decode cX6_divisor 17 = .ok (.istore_n 3, 1) := by decide +kernel
theorem dX6_divisor_18 : decode cX6_divisor 18 = .ok (.goto (-14), 3) := by decide +kernel
theorem dX6_divisor_21 : decode cX6_divisor 21 = .ok (.iload_n 2, 1) := by decide +kernel
theorem dX6_divisor_22 : decode cX6_divisor 22 = .ok (.ireturn, 1) := by decide +kernel
theorem dX6_period_0 : decode cX6_period 0 = .ok (.iconst 1, 1) := by decide +kernel
theorem dX6_period_1 : decode cX6_period 1 = .ok (.istore_n 2, 1) := by decide +kernel
theorem dX6_period_2 : decode cX6_period 2 = .ok (.iconst 0, 1) := by decide +kernel
theorem dX6_period_3 : decode cX6_period 3 = .ok (.istore_n 3, 1) := by decide +kernel
theorem dX6_period_4 : decode cX6_period 4 = .ok (.iload_n 3, 1) := by decide +kernel
theorem dX6_period_5 : decode cX6_period 5 = .ok (.bipush 8, 2) := by decide +kernel
theorem dX6_period_7 : decode cX6_period 7 = .ok (.if_icmp .ge 46, 3) := by decide +kernel
theorem dX6_period_10 : decode cX6_period 10 = .ok (.aload_n 0, 1) := by decide +kernel
theorem dX6_period_11 : decode cX6_period 11 = .ok (.iload_n 1, 1) := by decide +kernel
theorem dX6_period_12 : decode cX6_period 12 = .ok (.iload_n 3, 1) := by decide +kernel
theorem dX6_period_13 : decode cX6_period 13 = .ok (.invokevirtual 70, 3) := by decide +kernel
theorem dX6_period_16 : decode cX6_period 16 = .ok (.ifCond .eq 29, 3) := by decide +kernel
theorem dX6_period_19 : decode cX6_period 19 = .ok (.iload_n 2, 1) := by decide +kernel
theorem dX6_period_20 : decode cX6_period 20 = .ok (.iload_n 2, 1) := by decide +kernel
theorem dX6_period_21 : decode cX6_period 21 = .ok (.aload_n 0, 1) := by decide +kernel
theorem dX6_period_22 : decode cX6_period 22 = .ok (.getfield 7, 3) := by decide +kernel
theorem dX6_period_25 : decode cX6_period 25 = .ok (.iconst 0, 1) := by decide +kernel
theorem dX6_period_26 : decode cX6_period 26 = .ok (.iload_n 3, 1) := by decide +kernel
theorem dX6_period_27 : decode cX6_period 27 = .ok (.iadd, 1) := by decide +kernel
theorem dX6_period_28 : decode cX6_period 28 = .ok (.iaload, 1) := by decide +kernel
theorem dX6_period_29 : decode cX6_period 29 = .ok (.invokestatic 182, 3) := by decide +kernel
theorem dX6_period_32 : decode cX6_period 32 = .ok (.idiv, 1) := by decide +kernel
theorem dX6_period_33 : decode cX6_period 33 = .ok (.aload_n 0, 1) := by decide +kernel
theorem dX6_period_34 : decode cX6_period 34 = .ok (.getfield 7, 3) := by decide +kernel
theorem dX6_period_37 : decode cX6_period 37 = .ok (.iconst 0, 1) := by decide +kernel
theorem dX6_period_38 : decode cX6_period 38 = .ok (.iload_n 3, 1) := by decide +kernel
theorem dX6_period_39 : decode cX6_period 39 = .ok (.iadd, 1) := by decide +kernel
theorem dX6_period_40 : decode cX6_period 40 = .ok (.iaload, 1) := by decide +kernel
theorem dX6_period_41 : decode cX6_period 41 = .ok (.imul, 1) := by decide +kernel
theorem dX6_period_42 : decode cX6_period 42 = .ok (.goto 4, 3) := by decide +kernel
theorem dX6_period_45 : decode cX6_period 45 = .ok (.iload_n 2, 1) := by decide +kernel
theorem dX6_period_46 : decode cX6_period 46 = .ok (.istore_n 2, 1) := by decide +kernel
theorem dX6_period_47 : decode cX6_period 47 = .ok (.iinc 3 1, 3) := by decide +kernel
theorem dX6_period_50 : decode cX6_period 50 = .ok (.goto (-46), 3) := by decide +kernel
theorem dX6_period_53 : decode cX6_period 53 = .ok (.iload_n 2, 1) := by decide +kernel
theorem dX6_period_54 : decode cX6_period 54 = .ok (.ireturn, 1) := by decide +kernel
theorem dX6_toldOfRope_0 : decode cX6_toldOfRope 0 = .ok (.iload_n 2, 1) := by decide +kernel
theorem dX6_toldOfRope_1 : decode cX6_toldOfRope 1 = .ok (.tableswitch 64 0 4 #[35, 35, 46, 52, 58], 35) := by decide +kernel
theorem dX6_toldOfRope_36 : decode cX6_toldOfRope 36 = .ok (.aload_n 0, 1) := by decide +kernel
theorem dX6_toldOfRope_37 : decode cX6_toldOfRope 37 = .ok (.getfield 7, 3) := by decide +kernel
theorem dX6_toldOfRope_40 : decode cX6_toldOfRope 40 = .ok (.iload_n 1, 1) := by decide +kernel
theorem dX6_toldOfRope_41 : decode cX6_toldOfRope 41 = .ok (.iload_n 2, 1) := by decide +kernel
theorem dX6_toldOfRope_42 : decode cX6_toldOfRope 42 = .ok (.invokestatic 36, 3) := by decide +kernel
theorem dX6_toldOfRope_45 : decode cX6_toldOfRope 45 = .ok (.iaload, 1) := by decide +kernel
theorem dX6_toldOfRope_46 : decode cX6_toldOfRope 46 = .ok (.ireturn, 1) := by decide +kernel
theorem dX6_toldOfRope_47 : decode cX6_toldOfRope 47 = .ok (.aload_n 0, 1) := by decide +kernel
theorem dX6_toldOfRope_48 : decode cX6_toldOfRope 48 = .ok (.iload_n 1, 1) := by decide +kernel
theorem dX6_toldOfRope_49 : decode cX6_toldOfRope 49 = .ok (.invokevirtual 185, 3) := by decide +kernel
theorem dX6_toldOfRope_52 : decode cX6_toldOfRope 52 = .ok (.ireturn, 1) := by decide +kernel
theorem dX6_toldOfRope_53 : decode cX6_toldOfRope 53 = .ok (.aload_n 0, 1) := by decide +kernel
theorem dX6_toldOfRope_54 : decode cX6_toldOfRope 54 = .ok (.iload_n 1, 1) := by decide +kernel
theorem dX6_toldOfRope_55 : decode cX6_toldOfRope 55 = .ok (.invokevirtual 188, 3) := by decide +kernel
theorem dX6_toldOfRope_58 : decode cX6_toldOfRope 58 = .ok (.ireturn, 1) := by decide +kernel
theorem dX6_toldOfRope_59 : decode cX6_toldOfRope 59 = .ok (.aload_n 0, 1) := by decide +kernel
theorem dX6_toldOfRope_60 : decode cX6_toldOfRope 60 = .ok (.iload_n 1, 1) := by decide +kernel
theorem dX6_toldOfRope_61 : decode cX6_toldOfRope 61 = .ok (.invokevirtual 191, 3) := by decide +kernel
theorem dX6_toldOfRope_64 : decode cX6_toldOfRope 64 = .ok (.ireturn, 1) := by decide +kernel
theorem dX6_toldOfRope_65 : decode cX6_toldOfRope 65 = .ok (.aload_n 0, 1) := by decide +kernel
theorem dX6_toldOfRope_66 : decode cX6_toldOfRope 66 = .ok (.iload_n 1, 1) := by decide +kernel
theorem dX6_toldOfRope_67 : decode cX6_toldOfRope 67 = .ok (.invokevirtual 194, 3) := by decide +kernel
theorem dX6_toldOfRope_70 : decode cX6_toldOfRope 70 = .ok (.ireturn, 1) := by decide +kernel
theorem dX6_ropeOf_0 : decode cX6_ropeOf 0 = .ok (.aload_n 0, 1) := by decide +kernel
theorem dX6_ropeOf_1 : decode cX6_ropeOf 1 = .ok (.aload_n 0, 1) := by decide +kernel
theorem dX6_ropeOf_2 : decode cX6_ropeOf 2 = .ok (.iload_n 1, 1) := by decide +kernel
theorem dX6_ropeOf_3 : decode cX6_ropeOf 3 = .ok (.invokevirtual 90, 3) := by decide +kernel
theorem dX6_ropeOf_6 : decode cX6_ropeOf 6 = .ok (.ifCond .ne 7, 3) := by decide +kernel
theorem dX6_ropeOf_9 : decode cX6_ropeOf 9 = .ok (.iconst 1, 1) := by decide +kernel
theorem dX6_ropeOf_10 : decode cX6_ropeOf 10 = .ok (.goto 17, 3) := by decide +kernel
theorem dX6_ropeOf_13 : decode cX6_ropeOf 13 = .ok (.iload_n 2, 1) := by decide +kernel
theorem dX6_ropeOf_14 : decode cX6_ropeOf 14 = .ok (.iconst 0, 1) := by decide +kernel
theorem dX6_ropeOf_15 : decode cX6_ropeOf 15 = .ok (.iconst 5, 1) := by decide +kernel
theorem dX6_ropeOf_16 : decode cX6_ropeOf 16 = .ok (.invokestatic 32, 3) := by decide +kernel
theorem dX6_ropeOf_19 : decode cX6_ropeOf 19 = .ok (.ifCond .ne 7, 3) := by decide +kernel
theorem dX6_ropeOf_22 : decode cX6_ropeOf 22 = .ok (.iconst 2, 1) := by decide +kernel
theorem dX6_ropeOf_23 : decode cX6_ropeOf 23 = .ok (.goto 4, 3) := by decide +kernel
theorem dX6_ropeOf_26 : decode cX6_ropeOf 26 = .ok (.iconst 0, 1) := by decide +kernel
theorem dX6_ropeOf_27 : decode cX6_ropeOf 27 = .ok (.invokevirtual 81, 3) := by decide +kernel
theorem dX6_ropeOf_30 : decode cX6_ropeOf 30 = .ok (.ifCond .eq 12, 3) := by decide +kernel
theorem dX6_ropeOf_33 : decode cX6_ropeOf 33 = .ok (.aload_n 0, 1) := by decide +kernel
theorem dX6_ropeOf_34 : decode cX6_ropeOf 34 = .ok (.iload_n 1, 1) := by decide +kernel
theorem dX6_ropeOf_35 : decode cX6_ropeOf 35 = .ok (.iload_n 2, 1) := by decide +kernel
theorem dX6_ropeOf_36 : decode cX6_ropeOf 36 = .ok (.invokevirtual 197, 3) := by decide +kernel
theorem dX6_ropeOf_39 : decode cX6_ropeOf 39 = .ok (.goto 4, 3) := by decide +kernel
theorem dX6_ropeOf_42 : decode cX6_ropeOf 42 = .ok (.iconst 0, 1) := by decide +kernel
theorem dX6_ropeOf_43 : decode cX6_ropeOf 43 = .ok (.ireturn, 1) := by decide +kernel
theorem dX6_orderOf_0 : decode cX6_orderOf 0 = .ok (.iconst (-1), 1) := by decide +kernel
theorem dX6_orderOf_1 : decode cX6_orderOf 1 = .ok (.istore_n 3, 1) := by decide +kernel
theorem dX6_orderOf_2 : decode cX6_orderOf 2 = .ok (.iconst 0, 1) := by decide +kernel
theorem dX6_orderOf_3 : decode cX6_orderOf 3 = .ok (.istore 4, 2) := by decide +kernel
theorem dX6_orderOf_5 : decode cX6_orderOf 5 = .ok (.iload 4, 2) := by decide +kernel
theorem dX6_orderOf_7 : decode cX6_orderOf 7 = .ok (.aload_n 0, 1) := by decide +kernel
theorem dX6_orderOf_8 : decode cX6_orderOf 8 = .ok (.getfield 7, 3) := by decide +kernel
theorem dX6_orderOf_11 : decode cX6_orderOf 11 = .ok (.iload_n 1, 1) := by decide +kernel
theorem dX6_orderOf_12 : decode cX6_orderOf 12 = .ok (.iconst 1, 1) := by decide +kernel
theorem dX6_orderOf_13 : decode cX6_orderOf 13 = .ok (.invokestatic 36, 3) := by decide +kernel
theorem dX6_orderOf_16 : decode cX6_orderOf 16 = .ok (.iaload, 1) := by decide +kernel
theorem dX6_orderOf_17 : decode cX6_orderOf 17 = .ok (.if_icmp .ge 33, 3) := by decide +kernel
theorem dX6_orderOf_20 : decode cX6_orderOf 20 = .ok (.aload_n 0, 1) := by decide +kernel
theorem dX6_orderOf_21 : decode cX6_orderOf 21 = .ok (.getfield 7, 3) := by decide +kernel
theorem dX6_orderOf_24 : decode cX6_orderOf 24 = .ok (.iload_n 1, 1) := by decide +kernel
theorem dX6_orderOf_25 : decode cX6_orderOf 25 = .ok (.iconst 2, 1) := by decide +kernel
theorem dX6_orderOf_26 : decode cX6_orderOf 26 = .ok (.iload 4, 2) := by decide +kernel
theorem dX6_orderOf_28 : decode cX6_orderOf 28 = .ok (.iadd, 1) := by decide +kernel
theorem dX6_orderOf_29 : decode cX6_orderOf 29 = .ok (.invokestatic 36, 3) := by decide +kernel
theorem dX6_orderOf_32 : decode cX6_orderOf 32 = .ok (.iaload, 1) := by decide +kernel
theorem dX6_orderOf_33 : decode cX6_orderOf 33 = .ok (.iload_n 2, 1) := by decide +kernel
theorem dX6_orderOf_34 : decode cX6_orderOf 34 = .ok (.if_icmp .ne 8, 3) := by decide +kernel
theorem dX6_orderOf_37 : decode cX6_orderOf 37 = .ok (.iload 4, 2) := by decide +kernel
theorem dX6_orderOf_39 : decode cX6_orderOf 39 = .ok (.goto 4, 3) := by decide +kernel
theorem dX6_orderOf_42 : decode cX6_orderOf 42 = .ok (.iload_n 3, 1) := by decide +kernel
theorem dX6_orderOf_43 : decode cX6_orderOf 43 = .ok (.istore_n 3, 1) := by decide +kernel
theorem dX6_orderOf_44 : decode cX6_orderOf 44 = .ok (.iinc 4 1, 3) := by decide +kernel
theorem dX6_orderOf_47 : decode cX6_orderOf 47 = .ok (.goto (-42), 3) := by decide +kernel
theorem dX6_orderOf_50 : decode cX6_orderOf 50 = .ok (.iload_n 3, 1) := by decide +kernel
theorem dX6_orderOf_51 : decode cX6_orderOf 51 = .ok (.ireturn, 1) := by decide +kernel
theorem dX6_toldOfHue_0 : decode cX6_toldOfHue 0 = .ok (.aload_n 0, 1) := by decide +kernel
theorem dX6_toldOfHue_1 : decode cX6_toldOfHue 1 = .ok (.iload_n 1, 1) := by decide +kernel
theorem dX6_toldOfHue_2 : decode cX6_toldOfHue 2 = .ok (.iload_n 2, 1) := by decide +kernel
theorem dX6_toldOfHue_3 : decode cX6_toldOfHue 3 = .ok (.invokevirtual 70, 3) := by decide +kernel
theorem dX6_toldOfHue_6 : decode cX6_toldOfHue 6 = .ok (.ifCond .ne 5, 3) := by decide +kernel
theorem dX6_toldOfHue_9 : decode cX6_toldOfHue 9 = .ok (.iconst (-1), 1) := by decide +kernel
theorem dX6_toldOfHue_10 : decode cX6_toldOfHue 10 = .ok (.ireturn, 1) := by decide +kernel
theorem dX6_toldOfHue_11 : decode cX6_toldOfHue 11 = .ok (.iload_n 3, 1) := by decide +kernel
theorem dX6_toldOfHue_12 : decode cX6_toldOfHue 12 = .ok (.ifCond .ne 12, 3) := by decide +kernel
theorem dX6_toldOfHue_15 : decode cX6_toldOfHue 15 = .ok (.aload_n 0, 1) := by decide +kernel
theorem dX6_toldOfHue_16 : decode cX6_toldOfHue 16 = .ok (.iload_n 1, 1) := by decide +kernel
theorem dX6_toldOfHue_17 : decode cX6_toldOfHue 17 = .ok (.iload_n 2, 1) := by decide +kernel
theorem dX6_toldOfHue_18 : decode cX6_toldOfHue 18 = .ok (.invokevirtual 40, 3) := by decide +kernel
theorem dX6_toldOfHue_21 : decode cX6_toldOfHue 21 = .ok (.goto 37, 3) := by decide +kernel
theorem dX6_toldOfHue_24 : decode cX6_toldOfHue 24 = .ok (.iload_n 3, 1) := by decide +kernel
theorem dX6_toldOfHue_25 : decode cX6_toldOfHue 25 = .ok (.iconst 1, 1) := by decide +kernel
theorem dX6_toldOfHue_26 : decode cX6_toldOfHue 26 = .ok (.if_icmp .ne 12, 3) := by decide +kernel
theorem dX6_toldOfHue_29 : decode cX6_toldOfHue 29 = .ok (.aload_n 0, 1) := by decide +kernel
theorem dX6_toldOfHue_30 : decode cX6_toldOfHue 30 = .ok (.iload_n 1, 1) := by decide +kernel
theorem dX6_toldOfHue_31 : decode cX6_toldOfHue 31 = .ok (.iload_n 2, 1) := by decide +kernel
theorem dX6_toldOfHue_32 : decode cX6_toldOfHue 32 = .ok (.invokevirtual 106, 3) := by decide +kernel
theorem dX6_toldOfHue_35 : decode cX6_toldOfHue 35 = .ok (.goto 23, 3) := by decide +kernel
theorem dX6_toldOfHue_38 : decode cX6_toldOfHue 38 = .ok (.iload_n 3, 1) := by decide +kernel
theorem dX6_toldOfHue_39 : decode cX6_toldOfHue 39 = .ok (.iconst 2, 1) := by decide +kernel
theorem dX6_toldOfHue_40 : decode cX6_toldOfHue 40 = .ok (.if_icmp .ne 12, 3) := by decide +kernel
theorem dX6_toldOfHue_43 : decode cX6_toldOfHue 43 = .ok (.aload_n 0, 1) := by decide +kernel
theorem dX6_toldOfHue_44 : decode cX6_toldOfHue 44 = .ok (.iload_n 1, 1) := by decide +kernel
theorem dX6_toldOfHue_45 : decode cX6_toldOfHue 45 = .ok (.iload_n 2, 1) := by decide +kernel
theorem dX6_toldOfHue_46 : decode cX6_toldOfHue 46 = .ok (.invokevirtual 60, 3) := by decide +kernel
theorem dX6_toldOfHue_49 : decode cX6_toldOfHue 49 = .ok (.goto 9, 3) := by decide +kernel
theorem dX6_toldOfHue_52 : decode cX6_toldOfHue 52 = .ok (.aload_n 0, 1) := by decide +kernel
theorem dX6_toldOfHue_53 : decode cX6_toldOfHue 53 = .ok (.iload_n 1, 1) := by decide +kernel
theorem dX6_toldOfHue_54 : decode cX6_toldOfHue 54 = .ok (.iload_n 2, 1) := by decide +kernel
theorem dX6_toldOfHue_55 : decode cX6_toldOfHue 55 = .ok (.invokevirtual 200, 3) := by decide +kernel
theorem dX6_toldOfHue_58 : decode cX6_toldOfHue 58 = .ok (.ireturn, 1) := by decide +kernel
theorem dX6_hueOf_0 : decode cX6_hueOf 0 = .ok (.aload_n 0, 1) := by decide +kernel
theorem dX6_hueOf_1 : decode cX6_hueOf 1 = .ok (.aload_n 0, 1) := by decide +kernel
theorem dX6_hueOf_2 : decode cX6_hueOf 2 = .ok (.iload_n 1, 1) := by decide +kernel
theorem dX6_hueOf_3 : decode cX6_hueOf 3 = .ok (.iload_n 2, 1) := by decide +kernel
theorem dX6_hueOf_4 : decode cX6_hueOf 4 = .ok (.invokevirtual 96, 3) := by decide +kernel
theorem dX6_hueOf_7 : decode cX6_hueOf 7 = .ok (.ifCond .ne 7, 3) := by decide +kernel
theorem dX6_hueOf_10 : decode cX6_hueOf 10 = .ok (.iconst 1, 1) := by decide +kernel
theorem dX6_hueOf_11 : decode cX6_hueOf 11 = .ok (.goto 17, 3) := by decide +kernel
theorem dX6_hueOf_14 : decode cX6_hueOf 14 = .ok (.iload_n 3, 1) := by decide +kernel
theorem dX6_hueOf_15 : decode cX6_hueOf 15 = .ok (.iconst 0, 1) := by decide +kernel
theorem dX6_hueOf_16 : decode cX6_hueOf 16 = .ok (.iconst 3, 1) := by decide +kernel
theorem dX6_hueOf_17 : decode cX6_hueOf 17 = .ok (.invokestatic 32, 3) := by decide +kernel
theorem dX6_hueOf_20 : decode cX6_hueOf 20 = .ok (.ifCond .ne 7, 3) := by decide +kernel
theorem dX6_hueOf_23 : decode cX6_hueOf 23 = .ok (.iconst 2, 1) := by decide +kernel
theorem dX6_hueOf_24 : decode cX6_hueOf 24 = .ok (.goto 4, 3) := by decide +kernel
theorem dX6_hueOf_27 : decode cX6_hueOf 27 = .ok (.iconst 0, 1) := by decide +kernel
theorem dX6_hueOf_28 : decode cX6_hueOf 28 = .ok (.invokevirtual 81, 3) := by decide +kernel
theorem dX6_hueOf_31 : decode cX6_hueOf 31 = .ok (.ifCond .eq 13, 3) := by decide +kernel
theorem dX6_hueOf_34 : decode cX6_hueOf 34 = .ok (.aload_n 0, 1) := by decide +kernel
theorem dX6_hueOf_35 : decode cX6_hueOf 35 = .ok (.iload_n 1, 1) := by decide +kernel
theorem dX6_hueOf_36 : decode cX6_hueOf 36 = .ok (.iload_n 2, 1) := by decide +kernel
theorem dX6_hueOf_37 : decode cX6_hueOf 37 = .ok (.iload_n 3, 1) := by decide +kernel
theorem dX6_hueOf_38 : decode cX6_hueOf 38 = .ok (.invokevirtual 203, 3) := by decide +kernel
theorem dX6_hueOf_41 : decode cX6_hueOf 41 = .ok (.goto 4, 3) := by decide +kernel
theorem dX6_hueOf_44 : decode cX6_hueOf 44 = .ok (.iconst 0, 1) := by decide +kernel
theorem dX6_hueOf_45 : decode cX6_hueOf 45 = .ok (.ireturn, 1) := by decide +kernel
theorem dX6_gapOf_0 : decode cX6_gapOf 0 = .ok (.aload_n 0, 1) := by decide +kernel
theorem dX6_gapOf_1 : decode cX6_gapOf 1 = .ok (.iload_n 1, 1) := by decide +kernel
theorem dX6_gapOf_2 : decode cX6_gapOf 2 = .ok (.invokestatic 74, 3) := by decide +kernel
theorem dX6_gapOf_5 : decode cX6_gapOf 5 = .ok (.ifCond .eq 7, 3) := by decide +kernel
theorem dX6_gapOf_8 : decode cX6_gapOf 8 = .ok (.iconst 0, 1) := by decide +kernel
theorem dX6_gapOf_9 : decode cX6_gapOf 9 = .ok (.goto 4, 3) := by decide +kernel
theorem dX6_gapOf_12 : decode cX6_gapOf 12 = .ok (.iconst 1, 1) := by decide +kernel
theorem dX6_gapOf_13 : decode cX6_gapOf 13 = .ok (.invokevirtual 81, 3) := by decide +kernel
theorem dX6_gapOf_16 : decode cX6_gapOf 16 = .ok (.ifCond .eq 14, 3) := by decide +kernel
theorem dX6_gapOf_19 : decode cX6_gapOf 19 = .ok (.aload_n 0, 1) := by decide +kernel
theorem dX6_gapOf_20 : decode cX6_gapOf 20 = .ok (.getfield 7, 3) := by decide +kernel
theorem dX6_gapOf_23 : decode cX6_gapOf 23 = .ok (.iconst 0, 1) := by decide +kernel
theorem dX6_gapOf_24 : decode cX6_gapOf 24 = .ok (.iload_n 1, 1) := by decide +kernel
theorem dX6_gapOf_25 : decode cX6_gapOf 25 = .ok (.iadd, 1) := by decide +kernel
theorem dX6_gapOf_26 : decode cX6_gapOf 26 = .ok (.iaload, 1) := by decide +kernel
theorem dX6_gapOf_27 : decode cX6_gapOf 27 = .ok (.goto 4, 3) := by decide +kernel
theorem dX6_gapOf_30 : decode cX6_gapOf 30 = .ok (.iconst 0, 1) := by decide +kernel
theorem dX6_gapOf_31 : decode cX6_gapOf 31 = .ok (.ireturn, 1) := by decide +kernel
theorem dX6_sum_0 : decode cX6_sum 0 = .ok (.iconst 0, 1) := by decide +kernel
theorem dX6_sum_1 : decode cX6_sum 1 = .ok (.istore_n 2, 1) := by decide +kernel
theorem dX6_sum_2 : decode cX6_sum 2 = .ok (.iconst 0, 1) := by decide +kernel
theorem dX6_sum_3 : decode cX6_sum 3 = .ok (.istore_n 3, 1) := by decide +kernel
theorem dX6_sum_4 : decode cX6_sum 4 = .ok (.iload_n 3, 1) := by decide +kernel
theorem dX6_sum_5 : decode cX6_sum 5 = .ok (.aload_n 0, 1) := by decide +kernel
theorem dX6_sum_6 : decode cX6_sum 6 = .ok (.getfield 7, 3) := by decide +kernel
theorem dX6_sum_9 : decode cX6_sum 9 = .ok (.bipush 8, 2) := by decide +kernel
theorem dX6_sum_11 : decode cX6_sum 11 = .ok (.iaload, 1) := by decide +kernel
theorem dX6_sum_12 : decode cX6_sum 12 = .ok (.if_icmp .ge 34, 3) := by decide +kernel
theorem dX6_sum_15 : decode cX6_sum 15 = .ok (.iload_n 2, 1) := by decide +kernel
theorem dX6_sum_16 : decode cX6_sum 16 = .ok (.iload_n 1, 1) := by decide +kernel
theorem dX6_sum_17 : decode cX6_sum 17 = .ok (.ifCond .eq 11, 3) := by decide +kernel
theorem dX6_sum_20 : decode cX6_sum 20 = .ok (.aload_n 0, 1) := by decide +kernel
theorem dX6_sum_21 : decode cX6_sum 21 = .ok (.iload_n 3, 1) := by decide +kernel
theorem dX6_sum_22 : decode cX6_sum 22 = .ok (.invokevirtual 185, 3) := by decide +kernel
theorem dX6_sum_25 : decode cX6_sum 25 = .ok (.goto 13, 3) := by decide +kernel
theorem dX6_sum_28 : decode cX6_sum 28 = .ok (.aload_n 0, 1) := by decide +kernel
theorem dX6_sum_29 : decode cX6_sum 29 = .ok (.getfield 7, 3) := by decide +kernel
theorem dX6_sum_32 : decode cX6_sum 32 = .ok (.iload_n 3, 1) := by decide +kernel
theorem dX6_sum_33 : decode cX6_sum 33 = .ok (.iconst 0, 1) := by decide +kernel
theorem dX6_sum_34 : decode cX6_sum 34 = .ok (.invokestatic 36, 3) := by decide +kernel
theorem dX6_sum_37 : decode cX6_sum 37 = .ok (.iaload, 1) := by decide +kernel
theorem dX6_sum_38 : decode cX6_sum 38 = .ok (.iadd, 1) := by decide +kernel
theorem dX6_sum_39 : decode cX6_sum 39 = .ok (.istore_n 2, 1) := by decide +kernel
theorem dX6_sum_40 : decode cX6_sum 40 = .ok (.iinc 3 1, 3) := by decide +kernel
theorem dX6_sum_43 : decode cX6_sum 43 = .ok (.goto (-39), 3) := by decide +kernel
theorem dX6_sum_46 : decode cX6_sum 46 = .ok (.iload_n 2, 1) := by decide +kernel
theorem dX6_sum_47 : decode cX6_sum 47 = .ok (.ireturn, 1) := by decide +kernel
theorem dX6_huesLaid_0 : decode cX6_huesLaid 0 = .ok (.iconst 0, 1) := by decide +kernel
theorem dX6_huesLaid_1 : decode cX6_huesLaid 1 = .ok (.istore_n 1, 1) := by decide +kernel
theorem dX6_huesLaid_2 : decode cX6_huesLaid 2 = .ok (.iconst 0, 1) := by decide +kernel
theorem dX6_huesLaid_3 : decode cX6_huesLaid 3 = .ok (.istore_n 2, 1) := by decide +kernel
theorem dX6_huesLaid_4 : decode cX6_huesLaid 4 = .ok (.iload_n 2, 1) := by decide +kernel
theorem dX6_huesLaid_5 : decode cX6_huesLaid 5 = .ok (.bipush 8, 2) := by decide +kernel
theorem dX6_huesLaid_7 : decode cX6_huesLaid 7 = .ok (.if_icmp .ge 25, 3) := by decide +kernel
theorem dX6_huesLaid_10 : decode cX6_huesLaid 10 = .ok (.iload_n 1, 1) := by decide +kernel
theorem dX6_huesLaid_11 : decode cX6_huesLaid 11 = .ok (.aload_n 0, 1) := by decide +kernel
theorem dX6_huesLaid_12 : decode cX6_huesLaid 12 = .ok (.iload_n 2, 1) := by decide +kernel
theorem dX6_huesLaid_13 : decode cX6_huesLaid 13 = .ok (.invokevirtual 78, 3) := by decide +kernel
theorem dX6_huesLaid_16 : decode cX6_huesLaid 16 = .ok (.ifCond .eq 7, 3) := by decide +kernel
theorem dX6_huesLaid_19 : decode cX6_huesLaid 19 = .ok (.iconst 1, 1) := by decide +kernel
theorem dX6_huesLaid_20 : decode cX6_huesLaid 20 = .ok (.goto 4, 3) := by decide +kernel
theorem dX6_huesLaid_23 : decode cX6_huesLaid 23 = .ok (.iconst 0, 1) := by decide +kernel
theorem dX6_huesLaid_24 : decode cX6_huesLaid 24 = .ok (.iadd, 1) := by decide +kernel
theorem dX6_huesLaid_25 : decode cX6_huesLaid 25 = .ok (.istore_n 1, 1) := by decide +kernel
theorem dX6_huesLaid_26 : decode cX6_huesLaid 26 = .ok (.iinc 2 1, 3) := by decide +kernel
theorem dX6_huesLaid_29 : decode cX6_huesLaid 29 = .ok (.goto (-25), 3) := by decide +kernel
theorem dX6_huesLaid_32 : decode cX6_huesLaid 32 = .ok (.iload_n 1, 1) := by decide +kernel
theorem dX6_huesLaid_33 : decode cX6_huesLaid 33 = .ok (.ireturn, 1) := by decide +kernel
theorem dX6_counted_0 : decode cX6_counted 0 = .ok (.iload_n 1, 1) := by decide +kernel
theorem dX6_counted_1 : decode cX6_counted 1 = .ok (.tableswitch 83 0 6 #[43, 51, 51, 66, 71, 71, 71], 43) := by decide +kernel
theorem dX6_counted_44 : decode cX6_counted 44 = .ok (.aload_n 0, 1) := by decide +kernel
theorem dX6_counted_45 : decode cX6_counted 45 = .ok (.getfield 7, 3) := by decide +kernel
theorem dX6_counted_48 : decode cX6_counted 48 = .ok (.bipush 8, 2) := by decide +kernel
theorem dX6_counted_50 : decode cX6_counted 50 = .ok (.iaload, 1) := by decide +kernel
theorem dX6_counted_51 : decode cX6_counted 51 = .ok (.ireturn, 1) := by decide +kernel
theorem dX6_counted_52 : decode cX6_counted 52 = .ok (.aload_n 0, 1) := by decide +kernel
theorem dX6_counted_53 : decode cX6_counted 53 = .ok (.iload_n 1, 1) := by decide +kernel
theorem dX6_counted_54 : decode cX6_counted 54 = .ok (.iconst 2, 1) := by decide +kernel
theorem dX6_counted_55 : decode cX6_counted 55 = .ok (.if_icmp .ne 7, 3) := by decide +kernel
theorem dX6_counted_58 : decode cX6_counted 58 = .ok (.iconst 1, 1) := by decide +kernel
theorem dX6_counted_59 : decode cX6_counted 59 = .ok (.goto 4, 3) := by decide +kernel
theorem dX6_counted_62 : decode cX6_counted 62 = .ok (.iconst 0, 1) := by decide +kernel
theorem dX6_counted_63 : decode cX6_counted 63 = .ok (.invokevirtual 206, 3) := by decide +kernel
theorem dX6_counted_66 : decode cX6_counted 66 = .ok (.ireturn, 1) := by decide +kernel
theorem dX6_counted_67 : decode cX6_counted 67 = .ok (.aload_n 0, 1) := by decide +kernel
theorem dX6_counted_68 : decode cX6_counted 68 = .ok (.invokevirtual 209, 3) := by decide +kernel
theorem dX6_counted_71 : decode cX6_counted 71 = .ok (.ireturn, 1) := by decide +kernel
theorem dX6_counted_72 : decode cX6_counted 72 = .ok (.aload_n 0, 1) := by decide +kernel
theorem dX6_counted_73 : decode cX6_counted 73 = .ok (.getfield 7, 3) := by decide +kernel
theorem dX6_counted_76 : decode cX6_counted 76 = .ok (.bipush 9, 2) := by decide +kernel
theorem dX6_counted_78 : decode cX6_counted 78 = .ok (.iload_n 1, 1) := by decide +kernel
theorem dX6_counted_79 : decode cX6_counted 79 = .ok (.iadd, 1) := by decide +kernel
theorem dX6_counted_80 : decode cX6_counted 80 = .ok (.iconst 4, 1) := by decide +kernel
theorem dX6_counted_81 : decode cX6_counted 81 = .ok (.isub, 1) := by decide +kernel
theorem dX6_counted_82 : decode cX6_counted 82 = .ok (.iaload, 1) := by decide +kernel
theorem dX6_counted_83 : decode cX6_counted 83 = .ok (.ireturn, 1) := by decide +kernel
theorem dX6_counted_84 : decode cX6_counted 84 = .ok (.aload_n 0, 1) := by decide +kernel
theorem dX6_counted_85 : decode cX6_counted 85 = .ok (.getfield 43, 3) := by decide +kernel
theorem dX6_counted_88 : decode cX6_counted 88 = .ok (.ireturn, 1) := by decide +kernel
theorem dX6_count_0 : decode cX6_count 0 = .ok (.aload_n 0, 1) := by decide +kernel
theorem dX6_count_1 : decode cX6_count 1 = .ok (.iload_n 1, 1) := by decide +kernel
theorem dX6_count_2 : decode cX6_count 2 = .ok (.iconst 0, 1) := by decide +kernel
theorem dX6_count_3 : decode cX6_count 3 = .ok (.bipush 7, 2) := by decide +kernel
theorem dX6_count_5 : decode cX6_count 5 = .ok (.invokestatic 32, 3) := by decide +kernel
theorem dX6_count_8 : decode cX6_count 8 = .ok (.ifCond .eq 7, 3) := by decide +kernel
theorem dX6_count_11 : decode cX6_count 11 = .ok (.iconst 0, 1) := by decide +kernel
theorem dX6_count_12 : decode cX6_count 12 = .ok (.goto 4, 3) := by decide +kernel
theorem dX6_count_15 : decode cX6_count 15 = .ok (.iconst 1, 1) := by decide +kernel
theorem dX6_count_16 : decode cX6_count 16 = .ok (.invokevirtual 81, 3) := by decide +kernel
theorem dX6_count_19 : decode cX6_count 19 = .ok (.ifCond .eq 11, 3) := by decide +kernel
theorem dX6_count_22 : decode cX6_count 22 = .ok (.aload_n 0, 1) := by decide +kernel
theorem dX6_count_23 : decode cX6_count 23 = .ok (.iload_n 1, 1) := by decide +kernel
theorem dX6_count_24 : decode cX6_count 24 = .ok (.invokevirtual 213, 3) := by decide +kernel
theorem dX6_count_27 : decode cX6_count 27 = .ok (.goto 4, 3) := by decide +kernel
theorem dX6_count_30 : decode cX6_count 30 = .ok (.iconst 0, 1) := by decide +kernel
theorem dX6_count_31 : decode cX6_count 31 = .ok (.ireturn, 1) := by decide +kernel
theorem dX6_refusal_0 : decode cX6_refusal 0 = .ok (.aload_n 0, 1) := by decide +kernel
theorem dX6_refusal_1 : decode cX6_refusal 1 = .ok (.aload_n 0, 1) := by decide +kernel
theorem dX6_refusal_2 : decode cX6_refusal 2 = .ok (.iload_n 1, 1) := by decide +kernel
theorem dX6_refusal_3 : decode cX6_refusal 3 = .ok (.iload_n 2, 1) := by decide +kernel
theorem dX6_refusal_4 : decode cX6_refusal 4 = .ok (.invokevirtual 96, 3) := by decide +kernel
theorem dX6_refusal_7 : decode cX6_refusal 7 = .ok (.ifCond .ne 7, 3) := by decide +kernel
theorem dX6_refusal_10 : decode cX6_refusal 10 = .ok (.iconst 1, 1) := by decide +kernel
theorem dX6_refusal_11 : decode cX6_refusal 11 = .ok (.goto 17, 3) := by decide +kernel
theorem dX6_refusal_14 : decode cX6_refusal 14 = .ok (.aload_n 0, 1) := by decide +kernel
theorem dX6_refusal_15 : decode cX6_refusal 15 = .ok (.iload_n 2, 1) := by decide +kernel
theorem dX6_refusal_16 : decode cX6_refusal 16 = .ok (.iload_n 3, 1) := by decide +kernel
theorem dX6_refusal_17 : decode cX6_refusal 17 = .ok (.invokevirtual 99, 3) := by decide +kernel
theorem dX6_refusal_20 : decode cX6_refusal 20 = .ok (.ifCond .ne 7, 3) := by decide +kernel
theorem dX6_refusal_23 : decode cX6_refusal 23 = .ok (.iconst 2, 1) := by decide +kernel
theorem dX6_refusal_24 : decode cX6_refusal 24 = .ok (.goto 4, 3) := by decide +kernel
theorem dX6_refusal_27 : decode cX6_refusal 27 = .ok (.iconst 0, 1) := by decide +kernel
theorem dX6_refusal_28 : decode cX6_refusal 28 = .ok (.invokevirtual 81, 3) := by decide +kernel
theorem dX6_refusal_31 : decode cX6_refusal 31 = .ok (.ifCond .eq 13, 3) := by decide +kernel
theorem dX6_refusal_34 : decode cX6_refusal 34 = .ok (.aload_n 0, 1) := by decide +kernel
theorem dX6_refusal_35 : decode cX6_refusal 35 = .ok (.iload_n 1, 1) := by decide +kernel
theorem dX6_refusal_36 : decode cX6_refusal 36 = .ok (.iload_n 2, 1) := by decide +kernel
theorem dX6_refusal_37 : decode cX6_refusal 37 = .ok (.iload_n 3, 1) := by decide +kernel
theorem dX6_refusal_38 : decode cX6_refusal 38 = .ok (.invokevirtual 102, 3) := by decide +kernel
theorem dX6_refusal_41 : decode cX6_refusal 41 = .ok (.goto 4, 3) := by decide +kernel
theorem dX6_refusal_44 : decode cX6_refusal 44 = .ok (.iconst 0, 1) := by decide +kernel
theorem dX6_refusal_45 : decode cX6_refusal 45 = .ok (.ireturn, 1) := by decide +kernel
theorem dX6_meet_0 : decode cX6_meet 0 = .ok (.iload_n 2, 1) := by decide +kernel
theorem dX6_meet_1 : decode cX6_meet 1 = .ok (.iload 4, 2) := by decide +kernel
theorem dX6_meet_3 : decode cX6_meet 3 = .ok (.if_icmp .le 7, 3) := by decide +kernel
theorem dX6_meet_6 : decode cX6_meet 6 = .ok (.iload_n 2, 1) := by decide +kernel
theorem dX6_meet_7 : decode cX6_meet 7 = .ok (.goto 5, 3) := by decide +kernel
theorem dX6_meet_10 : decode cX6_meet 10 = .ok (.iload 4, 2) := by decide +kernel
theorem dX6_meet_12 : decode cX6_meet 12 = .ok (.istore 5, 2) := by decide +kernel
theorem dX6_meet_14 : decode cX6_meet 14 = .ok (.iload 5, 2) := by decide +kernel
theorem dX6_meet_16 : decode cX6_meet 16 = .ok (.sipush 800, 3) := by decide +kernel
theorem dX6_meet_19 : decode cX6_meet 19 = .ok (.if_icmp .ge 45, 3) := by decide +kernel
theorem dX6_meet_22 : decode cX6_meet 22 = .ok (.iload 5, 2) := by decide +kernel
theorem dX6_meet_24 : decode cX6_meet 24 = .ok (.iload_n 2, 1) := by decide +kernel
theorem dX6_meet_25 : decode cX6_meet 25 = .ok (.isub, 1) := by decide +kernel
theorem dX6_meet_26 : decode cX6_meet 26 = .ok (.aload_n 0, 1) := by decide +kernel
theorem dX6_meet_27 : decode cX6_meet 27 = .ok (.getfield 7, 3) := by decide +kernel
theorem dX6_meet_30 : decode cX6_meet 30 = .ok (.iconst 0, 1) := by decide +kernel
theorem dX6_meet_31 : decode cX6_meet 31 = .ok (.iload_n 1, 1) := by decide +kernel
theorem dX6_meet_32 : decode cX6_meet 32 = .ok (.iadd, 1) := by decide +kernel
theorem dX6_meet_33 : decode cX6_meet 33 = .ok (.iaload, 1) := by decide +kernel
theorem dX6_meet_34 : decode cX6_meet 34 = .ok (.irem, 1) := by decide +kernel
theorem dX6_meet_35 : decode cX6_meet 35 = .ok (.ifCond .ne 23, 3) := by decide +kernel
theorem dX6_meet_38 : decode cX6_meet 38 = .ok (.iload 5, 2) := by decide +kernel
theorem dX6_meet_40 : decode cX6_meet 40 = .ok (.iload 4, 2) := by decide +kernel
theorem dX6_meet_42 : decode cX6_meet 42 = .ok (.isub, 1) := by decide +kernel
theorem dX6_meet_43 : decode cX6_meet 43 = .ok (.aload_n 0, 1) := by decide +kernel
theorem dX6_meet_44 : decode cX6_meet 44 = .ok (.getfield 7, 3) := by decide +kernel
theorem dX6_meet_47 : decode cX6_meet 47 = .ok (.iconst 0, 1) := by decide +kernel
theorem dX6_meet_48 : decode cX6_meet 48 = .ok (.iload_n 3, 1) := by decide +kernel
theorem dX6_meet_49 : decode cX6_meet 49 = .ok (.iadd, 1) := by decide +kernel
theorem dX6_meet_50 : decode cX6_meet 50 = .ok (.iaload, 1) := by decide +kernel
theorem dX6_meet_51 : decode cX6_meet 51 = .ok (.irem, 1) := by decide +kernel
theorem dX6_meet_52 : decode cX6_meet 52 = .ok (.ifCond .ne 6, 3) := by decide +kernel
theorem dX6_meet_55 : decode cX6_meet 55 = .ok (.iload 5, 2) := by decide +kernel
theorem dX6_meet_57 : decode cX6_meet 57 = .ok (.ireturn, 1) := by decide +kernel
theorem dX6_meet_58 : decode cX6_meet 58 = .ok (.iinc 5 1, 3) := by decide +kernel
theorem dX6_meet_61 : decode cX6_meet 61 = .ok (.goto (-47), 3) := by decide +kernel
theorem dX6_meet_64 : decode cX6_meet 64 = .ok (.iconst (-1), 1) := by decide +kernel
theorem dX6_meet_65 : decode cX6_meet 65 = .ok (.ireturn, 1) := by decide +kernel
theorem dX6_canMeet_0 : decode cX6_canMeet 0 = .ok (.iload_n 1, 1) := by decide +kernel
theorem dX6_canMeet_1 : decode cX6_canMeet 1 = .ok (.invokestatic 74, 3) := by decide +kernel
theorem dX6_canMeet_4 : decode cX6_canMeet 4 = .ok (.ifCond .eq 14, 3) := by decide +kernel
theorem dX6_canMeet_7 : decode cX6_canMeet 7 = .ok (.iload_n 3, 1) := by decide +kernel
theorem dX6_canMeet_8 : decode cX6_canMeet 8 = .ok (.invokestatic 74, 3) := by decide +kernel
theorem dX6_canMeet_11 : decode cX6_canMeet 11 = .ok (.ifCond .eq 7, 3) := by decide +kernel
theorem dX6_canMeet_14 : decode cX6_canMeet 14 = .ok (.iconst 1, 1) := by decide +kernel
theorem dX6_canMeet_15 : decode cX6_canMeet 15 = .ok (.goto 4, 3) := by decide +kernel
theorem dX6_canMeet_18 : decode cX6_canMeet 18 = .ok (.iconst 0, 1) := by decide +kernel
theorem dX6_canMeet_19 : decode cX6_canMeet 19 = .ok (.istore 5, 2) := by decide +kernel
theorem dX6_canMeet_21 : decode cX6_canMeet 21 = .ok (.aload_n 0, 1) := by decide +kernel
theorem dX6_canMeet_22 : decode cX6_canMeet 22 = .ok (.iload 5, 2) := by decide +kernel
theorem dX6_canMeet_24 : decode cX6_canMeet 24 = .ok (.ifCond .ne 7, 3) := by decide +kernel
theorem dX6_canMeet_27 : decode cX6_canMeet 27 = .ok (.iconst 1, 1) := by decide +kernel
theorem dX6_canMeet_28 : decode cX6_canMeet 28 = .ok (.goto 27, 3) := by decide +kernel
theorem dX6_canMeet_31 : decode cX6_canMeet 31 = .ok (.aload_n 0, 1) := by decide +kernel
theorem dX6_canMeet_32 : decode cX6_canMeet 32 = .ok (.iload_n 1, 1) := by decide +kernel
theorem dX6_canMeet_33 : decode cX6_canMeet 33 = .ok (.iload_n 2, 1) := by decide +kernel
theorem dX6_canMeet_34 : decode cX6_canMeet 34 = .ok (.invokevirtual 99, 3) := by decide +kernel
theorem dX6_canMeet_37 : decode cX6_canMeet 37 = .ok (.ifCond .eq 13, 3) := by decide +kernel
theorem dX6_canMeet_40 : decode cX6_canMeet 40 = .ok (.aload_n 0, 1) := by decide +kernel
theorem dX6_canMeet_41 : decode cX6_canMeet 41 = .ok (.iload_n 3, 1) := by decide +kernel
theorem dX6_canMeet_42 : decode cX6_canMeet 42 = .ok (.iload 4, 2) := by decide +kernel
theorem dX6_canMeet_44 : decode cX6_canMeet 44 = .ok (.invokevirtual 99, 3) := by decide +kernel
theorem dX6_canMeet_47 : decode cX6_canMeet 47 = .ok (.ifCond .ne 7, 3) := by decide +kernel
theorem dX6_canMeet_50 : decode cX6_canMeet 50 = .ok (.iconst 2, 1) := by decide +kernel
theorem dX6_canMeet_51 : decode cX6_canMeet 51 = .ok (.goto 4, 3) := by decide +kernel
theorem dX6_canMeet_54 : decode cX6_canMeet 54 = .ok (.iconst 0, 1) := by decide +kernel
theorem dX6_canMeet_55 : decode cX6_canMeet 55 = .ok (.invokevirtual 81, 3) := by decide +kernel
theorem dX6_canMeet_58 : decode cX6_canMeet 58 = .ok (.ireturn, 1) := by decide +kernel
theorem dX6_meeting_0 : decode cX6_meeting 0 = .ok (.aload_n 0, 1) := by decide +kernel
theorem dX6_meeting_1 : decode cX6_meeting 1 = .ok (.iload_n 1, 1) := by decide +kernel
theorem dX6_meeting_2 : decode cX6_meeting 2 = .ok (.iload_n 2, 1) := by decide +kernel
theorem dX6_meeting_3 : decode cX6_meeting 3 = .ok (.iload_n 3, 1) := by decide +kernel
theorem dX6_meeting_4 : decode cX6_meeting 4 = .ok (.iload 4, 2) := by decide +kernel
theorem dX6_meeting_6 : decode cX6_meeting 6 = .ok (.invokevirtual 216, 3) := by decide +kernel
theorem dX6_meeting_9 : decode cX6_meeting 9 = .ok (.ifCond .eq 15, 3) := by decide +kernel
theorem dX6_meeting_12 : decode cX6_meeting 12 = .ok (.aload_n 0, 1) := by decide +kernel
theorem dX6_meeting_13 : decode cX6_meeting 13 = .ok (.iload_n 1, 1) := by decide +kernel
theorem dX6_meeting_14 : decode cX6_meeting 14 = .ok (.iload_n 2, 1) := by decide +kernel
theorem dX6_meeting_15 : decode cX6_meeting 15 = .ok (.iload_n 3, 1) := by decide +kernel
theorem dX6_meeting_16 : decode cX6_meeting 16 = .ok (.iload 4, 2) := by decide +kernel
theorem dX6_meeting_18 : decode cX6_meeting 18 = .ok (.invokevirtual 220, 3) := by decide +kernel
theorem dX6_meeting_21 : decode cX6_meeting 21 = .ok (.goto 4, 3) := by decide +kernel
theorem dX6_meeting_24 : decode cX6_meeting 24 = .ok (.iconst 0, 1) := by decide +kernel
theorem dX6_meeting_25 : decode cX6_meeting 25 = .ok (.ireturn, 1) := by decide +kernel
theorem dX6_walked_0 : decode cX6_walked 0 = .ok (.aload_n 0, 1) := by decide +kernel
theorem dX6_walked_1 : decode cX6_walked 1 = .ok (.iload_n 1, 1) := by decide +kernel
theorem dX6_walked_2 : decode cX6_walked 2 = .ok (.iload_n 2, 1) := by decide +kernel
theorem dX6_walked_3 : decode cX6_walked 3 = .ok (.iload_n 3, 1) := by decide +kernel
theorem dX6_walked_4 : decode cX6_walked 4 = .ok (.iload 4, 2) := by decide +kernel
theorem dX6_walked_6 : decode cX6_walked 6 = .ok (.invokevirtual 216, 3) := by decide +kernel
theorem dX6_walked_9 : decode cX6_walked 9 = .ok (.ifCond .eq 15, 3) := by decide +kernel
theorem dX6_walked_12 : decode cX6_walked 12 = .ok (.aload_n 0, 1) := by decide +kernel
theorem dX6_walked_13 : decode cX6_walked 13 = .ok (.iload_n 1, 1) := by decide +kernel
theorem dX6_walked_14 : decode cX6_walked 14 = .ok (.iload_n 2, 1) := by decide +kernel
theorem dX6_walked_15 : decode cX6_walked 15 = .ok (.iload_n 3, 1) := by decide +kernel
theorem dX6_walked_16 : decode cX6_walked 16 = .ok (.iload 4, 2) := by decide +kernel
theorem dX6_walked_18 : decode cX6_walked 18 = .ok (.invokevirtual 220, 3) := by decide +kernel
theorem dX6_walked_21 : decode cX6_walked 21 = .ok (.goto 4, 3) := by decide +kernel
theorem dX6_walked_24 : decode cX6_walked 24 = .ok (.iconst 0, 1) := by decide +kernel
theorem dX6_walked_25 : decode cX6_walked 25 = .ok (.ireturn, 1) := by decide +kernel
theorem dX6_wouldTake_0 : decode cX6_wouldTake 0 = .ok (.aload_n 0, 1) := by decide +kernel
theorem dX6_wouldTake_1 : decode cX6_wouldTake 1 = .ok (.getfield 7, 3) := by decide +kernel
theorem dX6_wouldTake_4 : decode cX6_wouldTake 4 = .ok (.iload_n 1, 1) := by decide +kernel
theorem dX6_wouldTake_5 : decode cX6_wouldTake 5 = .ok (.iconst 0, 1) := by decide +kernel
theorem dX6_wouldTake_6 : decode cX6_wouldTake 6 = .ok (.invokestatic 36, 3) := by decide +kernel
theorem dX6_wouldTake_9 : decode cX6_wouldTake 9 = .ok (.iaload, 1) := by decide +kernel
theorem dX6_wouldTake_10 : decode cX6_wouldTake 10 = .ok (.iload_n 3, 1) := by decide +kernel
theorem dX6_wouldTake_11 : decode cX6_wouldTake 11 = .ok (.isub, 1) := by decide +kernel
theorem dX6_wouldTake_12 : decode cX6_wouldTake 12 = .ok (.aload_n 0, 1) := by decide +kernel
theorem dX6_wouldTake_13 : decode cX6_wouldTake 13 = .ok (.getfield 7, 3) := by decide +kernel
theorem dX6_wouldTake_16 : decode cX6_wouldTake 16 = .ok (.iconst 0, 1) := by decide +kernel
theorem dX6_wouldTake_17 : decode cX6_wouldTake 17 = .ok (.iload_n 2, 1) := by decide +kernel
theorem dX6_wouldTake_18 : decode cX6_wouldTake 18 = .ok (.iadd, 1) := by decide +kernel
theorem dX6_wouldTake_19 : decode cX6_wouldTake 19 = .ok (.iaload, 1) := by decide +kernel
theorem dX6_wouldTake_20 : decode cX6_wouldTake 20 = .ok (.iadd, 1) := by decide +kernel
theorem dX6_wouldTake_21 : decode cX6_wouldTake 21 = .ok (.iconst 1, 1) := by decide +kernel
theorem dX6_wouldTake_22 : decode cX6_wouldTake 22 = .ok (.isub, 1) := by decide +kernel
theorem dX6_wouldTake_23 : decode cX6_wouldTake 23 = .ok (.aload_n 0, 1) := by decide +kernel
theorem dX6_wouldTake_24 : decode cX6_wouldTake 24 = .ok (.getfield 7, 3) := by decide +kernel
theorem dX6_wouldTake_27 : decode cX6_wouldTake 27 = .ok (.iconst 0, 1) := by decide +kernel
theorem dX6_wouldTake_28 : decode cX6_wouldTake 28 = .ok (.iload_n 2, 1) := by decide +kernel
theorem dX6_wouldTake_29 : decode cX6_wouldTake 29 = .ok (.iadd, 1) := by decide +kernel
theorem dX6_wouldTake_30 : decode cX6_wouldTake 30 = .ok (.iaload, 1) := by decide +kernel
theorem dX6_wouldTake_31 : decode cX6_wouldTake 31 = .ok (.idiv, 1) := by decide +kernel
theorem dX6_wouldTake_32 : decode cX6_wouldTake 32 = .ok (.ireturn, 1) := by decide +kernel
theorem dX6_toldOfPhases_0 : decode cX6_toldOfPhases 0 = .ok (.iconst 0, 1) := by decide +kernel
theorem dX6_toldOfPhases_1 : decode cX6_toldOfPhases 1 = .ok (.istore 4, 2) := by decide +kernel
theorem dX6_toldOfPhases_3 : decode cX6_toldOfPhases 3 = .ok (.iconst (-1), 1) := by decide +kernel
theorem dX6_toldOfPhases_4 : decode cX6_toldOfPhases 4 = .ok (.istore 5, 2) := by decide +kernel
theorem dX6_toldOfPhases_6 : decode cX6_toldOfPhases 6 = .ok (.iconst (-1), 1) := by decide +kernel
theorem dX6_toldOfPhases_7 : decode cX6_toldOfPhases 7 = .ok (.istore 6, 2) := by decide +kernel
theorem dX6_toldOfPhases_9 : decode cX6_toldOfPhases 9 = .ok (.aload_n 0, 1) := by decide +kernel
theorem dX6_toldOfPhases_10 : decode cX6_toldOfPhases 10 = .ok (.getfield 7, 3) := by decide +kernel
theorem dX6_toldOfPhases_13 : decode cX6_toldOfPhases 13 = .ok (.iconst 0, 1) := by decide +kernel
theorem dX6_toldOfPhases_14 : decode cX6_toldOfPhases 14 = .ok (.iload_n 2, 1) := by decide +kernel
theorem dX6_toldOfPhases_15 : decode cX6_toldOfPhases 15 = .ok (.iadd, 1) := by decide +kernel
theorem dX6_toldOfPhases_16 : decode cX6_toldOfPhases 16 = .ok (.iaload, 1) := by decide +kernel
theorem dX6_toldOfPhases_17 : decode cX6_toldOfPhases 17 = .ok (.iconst 1, 1) := by decide +kernel
theorem dX6_toldOfPhases_18 : decode cX6_toldOfPhases 18 = .ok (.isub, 1) := by decide +kernel
theorem dX6_toldOfPhases_19 : decode cX6_toldOfPhases 19 = .ok (.istore 7, 2) := by decide +kernel
theorem dX6_toldOfPhases_21 : decode cX6_toldOfPhases 21 = .ok (.iload 7, 2) := by decide +kernel
theorem dX6_toldOfPhases_23 : decode cX6_toldOfPhases 23 = .ok (.ifCond .lt 95, 3) := by decide +kernel
theorem dX6_toldOfPhases_26 : decode cX6_toldOfPhases 26 = .ok (.aload_n 0, 1) := by decide +kernel
theorem dX6_toldOfPhases_27 : decode cX6_toldOfPhases 27 = .ok (.iload_n 1, 1) := by decide +kernel
theorem dX6_toldOfPhases_28 : decode cX6_toldOfPhases 28 = .ok (.iload_n 2, 1) := by decide +kernel
theorem dX6_toldOfPhases_29 : decode cX6_toldOfPhases 29 = .ok (.iload 7, 2) := by decide +kernel
theorem dX6_toldOfPhases_31 : decode cX6_toldOfPhases 31 = .ok (.invokevirtual 102, 3) := by decide +kernel
theorem dX6_toldOfPhases_34 : decode cX6_toldOfPhases 34 = .ok (.ifCond .ne 7, 3) := by decide +kernel
theorem dX6_toldOfPhases_37 : decode cX6_toldOfPhases 37 = .ok (.iconst 1, 1) := by decide +kernel
theorem dX6_toldOfPhases_38 : decode cX6_toldOfPhases 38 = .ok (.goto 4, 3) := by decide +kernel
theorem dX6_toldOfPhases_41 : decode cX6_toldOfPhases 41 = .ok (.iconst 0, 1) := by decide +kernel
theorem dX6_toldOfPhases_42 : decode cX6_toldOfPhases 42 = .ok (.istore 8, 2) := by decide +kernel
theorem dX6_toldOfPhases_44 : decode cX6_toldOfPhases 44 = .ok (.iload 4, 2) := by decide +kernel
theorem dX6_toldOfPhases_46 : decode cX6_toldOfPhases 46 = .ok (.iload 8, 2) := by decide +kernel
theorem dX6_toldOfPhases_48 : decode cX6_toldOfPhases 48 = .ok (.ifCond .eq 7, 3) := by decide +kernel
theorem dX6_toldOfPhases_51 : decode cX6_toldOfPhases 51 = .ok (.iconst 1, 1) := by decide +kernel
theorem dX6_toldOfPhases_52 : decode cX6_toldOfPhases 52 = .ok (.goto 4, 3) := by decide +kernel
theorem dX6_toldOfPhases_55 : decode cX6_toldOfPhases 55 = .ok (.iconst 0, 1) := by decide +kernel
theorem dX6_toldOfPhases_56 : decode cX6_toldOfPhases 56 = .ok (.iadd, 1) := by decide +kernel
theorem dX6_toldOfPhases_57 : decode cX6_toldOfPhases 57 = .ok (.istore 4, 2) := by decide +kernel
theorem dX6_toldOfPhases_59 : decode cX6_toldOfPhases 59 = .ok (.iload 8, 2) := by decide +kernel
theorem dX6_toldOfPhases_61 : decode cX6_toldOfPhases 61 = .ok (.ifCond .eq 8, 3) := by decide +kernel
theorem dX6_toldOfPhases_64 : decode cX6_toldOfPhases 64 = .ok (.iload 7, 2) := by decide +kernel
theorem dX6_toldOfPhases_66 : decode cX6_toldOfPhases 66 = .ok (.goto 5, 3) := by decide +kernel
theorem dX6_toldOfPhases_69 : decode cX6_toldOfPhases 69 = .ok (.iload 5, 2) := by decide +kernel
theorem dX6_toldOfPhases_71 : decode cX6_toldOfPhases 71 = .ok (.istore 5, 2) := by decide +kernel
theorem dX6_toldOfPhases_73 : decode cX6_toldOfPhases 73 = .ok (.iload 8, 2) := by decide +kernel
theorem dX6_toldOfPhases_75 : decode cX6_toldOfPhases 75 = .ok (.ifCond .eq 33, 3) := by decide +kernel
theorem dX6_toldOfPhases_78 : decode cX6_toldOfPhases 78 = .ok (.iload 6, 2) := by decide +kernel
theorem dX6_toldOfPhases_80 : decode cX6_toldOfPhases 80 = .ok (.iconst (-1), 1) := by decide +kernel
theorem dX6_toldOfPhases_81 : decode cX6_toldOfPhases 81 = .ok (.if_icmp .eq 22, 3) := by decide +kernel
theorem dX6_toldOfPhases_84 : decode cX6_toldOfPhases 84 = .ok (.aload_n 0, 1) := by decide +kernel
theorem dX6_toldOfPhases_85 : decode cX6_toldOfPhases 85 = .ok (.iload_n 1, 1) := by decide +kernel
theorem dX6_toldOfPhases_86 : decode cX6_toldOfPhases 86 = .ok (.iload_n 2, 1) := by decide +kernel
theorem dX6_toldOfPhases_87 : decode cX6_toldOfPhases 87 = .ok (.iload 7, 2) := by decide +kernel
theorem dX6_toldOfPhases_89 : decode cX6_toldOfPhases 89 = .ok (.invokevirtual 224, 3) := by decide +kernel
theorem dX6_toldOfPhases_92 : decode cX6_toldOfPhases 92 = .ok (.aload_n 0, 1) := by decide +kernel
theorem dX6_toldOfPhases_93 : decode cX6_toldOfPhases 93 = .ok (.iload_n 1, 1) := by decide +kernel
theorem dX6_toldOfPhases_94 : decode cX6_toldOfPhases 94 = .ok (.iload_n 2, 1) := by decide +kernel
theorem dX6_toldOfPhases_95 : decode cX6_toldOfPhases 95 = .ok (.iload 6, 2) := by decide +kernel
theorem dX6_toldOfPhases_97 : decode cX6_toldOfPhases 97 = .ok (.invokevirtual 224, 3) := by decide +kernel
theorem dX6_toldOfPhases_100 : decode cX6_toldOfPhases 100 = .ok (.if_icmp .lt 8, 3) := by decide +kernel
theorem dX6_toldOfPhases_103 : decode cX6_toldOfPhases 103 = .ok (.iload 7, 2) := by decide +kernel
theorem dX6_toldOfPhases_105 : decode cX6_toldOfPhases 105 = .ok (.goto 5, 3) := by decide +kernel
theorem dX6_toldOfPhases_108 : decode cX6_toldOfPhases 108 = .ok (.iload 6, 2) := by decide +kernel
theorem dX6_toldOfPhases_110 : decode cX6_toldOfPhases 110 = .ok (.istore 6, 2) := by decide +kernel
theorem dX6_toldOfPhases_112 : decode cX6_toldOfPhases 112 = .ok (.iinc 7 (-1), 3) := by decide +kernel
theorem dX6_toldOfPhases_115 : decode cX6_toldOfPhases 115 = .ok (.goto (-94), 3) := by decide +kernel
theorem dX6_toldOfPhases_118 : decode cX6_toldOfPhases 118 = .ok (.iload_n 3, 1) := by decide +kernel
theorem dX6_toldOfPhases_119 : decode cX6_toldOfPhases 119 = .ok (.ifCond .ne 8, 3) := by decide +kernel
theorem dX6_toldOfPhases_122 : decode cX6_toldOfPhases 122 = .ok (.iload 4, 2) := by decide +kernel
theorem dX6_toldOfPhases_124 : decode cX6_toldOfPhases 124 = .ok (.goto 15, 3) := by decide +kernel
theorem dX6_toldOfPhases_127 : decode cX6_toldOfPhases 127 = .ok (.iload_n 3, 1) := by decide +kernel
theorem dX6_toldOfPhases_128 : decode cX6_toldOfPhases 128 = .ok (.iconst 1, 1) := by decide +kernel
theorem dX6_toldOfPhases_129 : decode cX6_toldOfPhases 129 = .ok (.if_icmp .ne 8, 3) := by decide +kernel
theorem dX6_toldOfPhases_132 : decode cX6_toldOfPhases 132 = .ok (.iload 5, 2) := by decide +kernel
theorem dX6_toldOfPhases_134 : decode cX6_toldOfPhases 134 = .ok (.goto 5, 3) := by decide +kernel
theorem dX6_toldOfPhases_137 : decode cX6_toldOfPhases 137 = .ok (.iload 6, 2) := by decide +kernel
theorem dX6_toldOfPhases_139 : decode cX6_toldOfPhases 139 = .ok (.ireturn, 1) := by decide +kernel
theorem dX6_phases_0 : decode cX6_phases 0 = .ok (.aload_n 0, 1) := by decide +kernel
theorem dX6_phases_1 : decode cX6_phases 1 = .ok (.aload_n 0, 1) := by decide +kernel
theorem dX6_phases_2 : decode cX6_phases 2 = .ok (.iload_n 1, 1) := by decide +kernel
theorem dX6_phases_3 : decode cX6_phases 3 = .ok (.iload_n 2, 1) := by decide +kernel
theorem dX6_phases_4 : decode cX6_phases 4 = .ok (.invokevirtual 96, 3) := by decide +kernel
theorem dX6_phases_7 : decode cX6_phases 7 = .ok (.ifCond .ne 7, 3) := by decide +kernel
theorem dX6_phases_10 : decode cX6_phases 10 = .ok (.iconst 1, 1) := by decide +kernel
theorem dX6_phases_11 : decode cX6_phases 11 = .ok (.goto 17, 3) := by decide +kernel
theorem dX6_phases_14 : decode cX6_phases 14 = .ok (.iload_n 3, 1) := by decide +kernel
theorem dX6_phases_15 : decode cX6_phases 15 = .ok (.iconst 0, 1) := by decide +kernel
theorem dX6_phases_16 : decode cX6_phases 16 = .ok (.iconst 2, 1) := by decide +kernel
theorem dX6_phases_17 : decode cX6_phases 17 = .ok (.invokestatic 32, 3) := by decide +kernel
theorem dX6_phases_20 : decode cX6_phases 20 = .ok (.ifCond .ne 7, 3) := by decide +kernel
theorem dX6_phases_23 : decode cX6_phases 23 = .ok (.iconst 2, 1) := by decide +kernel
theorem dX6_phases_24 : decode cX6_phases 24 = .ok (.goto 4, 3) := by decide +kernel
theorem dX6_phases_27 : decode cX6_phases 27 = .ok (.iconst 0, 1) := by decide +kernel
theorem dX6_phases_28 : decode cX6_phases 28 = .ok (.invokevirtual 81, 3) := by decide +kernel
theorem dX6_phases_31 : decode cX6_phases 31 = .ok (.ifCond .eq 13, 3) := by decide +kernel
theorem dX6_phases_34 : decode cX6_phases 34 = .ok (.aload_n 0, 1) := by decide +kernel
theorem dX6_phases_35 : decode cX6_phases 35 = .ok (.iload_n 1, 1) := by decide +kernel
theorem dX6_phases_36 : decode cX6_phases 36 = .ok (.iload_n 2, 1) := by decide +kernel
theorem dX6_phases_37 : decode cX6_phases 37 = .ok (.iload_n 3, 1) := by decide +kernel
theorem dX6_phases_38 : decode cX6_phases 38 = .ok (.invokevirtual 227, 3) := by decide +kernel
theorem dX6_phases_41 : decode cX6_phases 41 = .ok (.goto 4, 3) := by decide +kernel
theorem dX6_phases_44 : decode cX6_phases 44 = .ok (.iconst 0, 1) := by decide +kernel
theorem dX6_phases_45 : decode cX6_phases 45 = .ok (.ireturn, 1) := by decide +kernel
theorem dX6_best_0 : decode cX6_best 0 = .ok (.iconst (-1), 1) := by decide +kernel
theorem dX6_best_1 : decode cX6_best 1 = .ok (.istore_n 2, 1) := by decide +kernel
theorem dX6_best_2 : decode cX6_best 2 = .ok (.iconst 0, 1) := by decide +kernel
theorem dX6_best_3 : decode cX6_best 3 = .ok (.istore_n 3, 1) := by decide +kernel
theorem dX6_best_4 : decode cX6_best 4 = .ok (.iconst 0, 1) := by decide +kernel
theorem dX6_best_5 : decode cX6_best 5 = .ok (.istore 4, 2) := by decide +kernel
theorem dX6_best_7 : decode cX6_best 7 = .ok (.iload 4, 2) := by decide +kernel
theorem dX6_best_9 : decode cX6_best 9 = .ok (.bipush 8, 2) := by decide +kernel
theorem dX6_best_11 : decode cX6_best 11 = .ok (.if_icmp .ge 66, 3) := by decide +kernel
theorem dX6_best_14 : decode cX6_best 14 = .ok (.aload_n 0, 1) := by decide +kernel
theorem dX6_best_15 : decode cX6_best 15 = .ok (.iload_n 1, 1) := by decide +kernel
theorem dX6_best_16 : decode cX6_best 16 = .ok (.iload 4, 2) := by decide +kernel
theorem dX6_best_18 : decode cX6_best 18 = .ok (.iconst 2, 1) := by decide +kernel
theorem dX6_best_19 : decode cX6_best 19 = .ok (.invokevirtual 227, 3) := by decide +kernel
theorem dX6_best_22 : decode cX6_best 22 = .ok (.istore 5, 2) := by decide +kernel
theorem dX6_best_24 : decode cX6_best 24 = .ok (.iload 5, 2) := by decide +kernel
theorem dX6_best_26 : decode cX6_best 26 = .ok (.iconst (-1), 1) := by decide +kernel
theorem dX6_best_27 : decode cX6_best 27 = .ok (.if_icmp .ne 7, 3) := by decide +kernel
theorem dX6_best_30 : decode cX6_best 30 = .ok (.iconst 0, 1) := by decide +kernel
theorem dX6_best_31 : decode cX6_best 31 = .ok (.goto 12, 3) := by decide +kernel
theorem dX6_best_34 : decode cX6_best 34 = .ok (.aload_n 0, 1) := by decide +kernel
theorem dX6_best_35 : decode cX6_best 35 = .ok (.iload_n 1, 1) := by decide +kernel
theorem dX6_best_36 : decode cX6_best 36 = .ok (.iload 4, 2) := by decide +kernel
theorem dX6_best_38 : decode cX6_best 38 = .ok (.iload 5, 2) := by decide +kernel
theorem dX6_best_40 : decode cX6_best 40 = .ok (.invokevirtual 224, 3) := by decide +kernel
theorem dX6_best_43 : decode cX6_best 43 = .ok (.istore 6, 2) := by decide +kernel
theorem dX6_best_45 : decode cX6_best 45 = .ok (.iload 6, 2) := by decide +kernel
theorem dX6_best_47 : decode cX6_best 47 = .ok (.iload_n 3, 1) := by decide +kernel
theorem dX6_best_48 : decode cX6_best 48 = .ok (.if_icmp .le 8, 3) := by decide +kernel
theorem dX6_best_51 : decode cX6_best 51 = .ok (.iload 4, 2) := by decide +kernel
theorem dX6_best_53 : decode cX6_best 53 = .ok (.goto 4, 3) := by decide +kernel
theorem dX6_best_56 : decode cX6_best 56 = .ok (.iload_n 2, 1) := by decide +kernel
theorem dX6_best_57 : decode cX6_best 57 = .ok (.istore_n 2, 1) := by decide +kernel
theorem dX6_best_58 : decode cX6_best 58 = .ok (.iload 6, 2) := by decide +kernel
theorem dX6_best_60 : decode cX6_best 60 = .ok (.iload_n 3, 1) := by decide +kernel
theorem dX6_best_61 : decode cX6_best 61 = .ok (.if_icmp .le 8, 3) := by decide +kernel
theorem dX6_best_64 : decode cX6_best 64 = .ok (.iload 6, 2) := by decide +kernel
theorem dX6_best_66 : decode cX6_best 66 = .ok (.goto 4, 3) := by decide +kernel
theorem dX6_best_69 : decode cX6_best 69 = .ok (.iload_n 3, 1) := by decide +kernel
theorem dX6_best_70 : decode cX6_best 70 = .ok (.istore_n 3, 1) := by decide +kernel
theorem dX6_best_71 : decode cX6_best 71 = .ok (.iinc 4 1, 3) := by decide +kernel
theorem dX6_best_74 : decode cX6_best 74 = .ok (.goto (-67), 3) := by decide +kernel
theorem dX6_best_77 : decode cX6_best 77 = .ok (.iload_n 2, 1) := by decide +kernel
theorem dX6_best_78 : decode cX6_best 78 = .ok (.ireturn, 1) := by decide +kernel
theorem dX6_bestHue_0 : decode cX6_bestHue 0 = .ok (.aload_n 0, 1) := by decide +kernel
theorem dX6_bestHue_1 : decode cX6_bestHue 1 = .ok (.aload_n 0, 1) := by decide +kernel
theorem dX6_bestHue_2 : decode cX6_bestHue 2 = .ok (.iload_n 1, 1) := by decide +kernel
theorem dX6_bestHue_3 : decode cX6_bestHue 3 = .ok (.invokevirtual 90, 3) := by decide +kernel
theorem dX6_bestHue_6 : decode cX6_bestHue 6 = .ok (.ifCond .eq 7, 3) := by decide +kernel
theorem dX6_bestHue_9 : decode cX6_bestHue 9 = .ok (.iconst 0, 1) := by decide +kernel
theorem dX6_bestHue_10 : decode cX6_bestHue 10 = .ok (.goto 4, 3) := by decide +kernel
theorem dX6_bestHue_13 : decode cX6_bestHue 13 = .ok (.iconst 1, 1) := by decide +kernel
theorem dX6_bestHue_14 : decode cX6_bestHue 14 = .ok (.invokevirtual 81, 3) := by decide +kernel
theorem dX6_bestHue_17 : decode cX6_bestHue 17 = .ok (.ifCond .eq 11, 3) := by decide +kernel
theorem dX6_bestHue_20 : decode cX6_bestHue 20 = .ok (.aload_n 0, 1) := by decide +kernel
theorem dX6_bestHue_21 : decode cX6_bestHue 21 = .ok (.iload_n 1, 1) := by decide +kernel
theorem dX6_bestHue_22 : decode cX6_bestHue 22 = .ok (.invokevirtual 230, 3) := by decide +kernel
theorem dX6_bestHue_25 : decode cX6_bestHue 25 = .ok (.goto 4, 3) := by decide +kernel
theorem dX6_bestHue_28 : decode cX6_bestHue 28 = .ok (.iconst 0, 1) := by decide +kernel
theorem dX6_bestHue_29 : decode cX6_bestHue 29 = .ok (.ireturn, 1) := by decide +kernel
theorem dX6_joining_0 : decode cX6_joining 0 = .ok (.aload_n 0, 1) := by decide +kernel
theorem dX6_joining_1 : decode cX6_joining 1 = .ok (.aload_n 0, 1) := by decide +kernel
theorem dX6_joining_2 : decode cX6_joining 2 = .ok (.iload_n 1, 1) := by decide +kernel
theorem dX6_joining_3 : decode cX6_joining 3 = .ok (.invokevirtual 90, 3) := by decide +kernel
theorem dX6_joining_6 : decode cX6_joining 6 = .ok (.ifCond .eq 15, 3) := by decide +kernel
theorem dX6_joining_9 : decode cX6_joining 9 = .ok (.aload_n 0, 1) := by decide +kernel
theorem dX6_joining_10 : decode cX6_joining 10 = .ok (.iload_n 2, 1) := by decide +kernel
theorem dX6_joining_11 : decode cX6_joining 11 = .ok (.invokevirtual 90, 3) := by decide +kernel
theorem dX6_joining_14 : decode cX6_joining 14 = .ok (.ifCond .eq 7, 3) := by decide +kernel
theorem dX6_joining_17 : decode cX6_joining 17 = .ok (.iconst 0, 1) := by decide +kernel
theorem dX6_joining_18 : decode cX6_joining 18 = .ok (.goto 4, 3) := by decide +kernel
theorem dX6_joining_21 : decode cX6_joining 21 = .ok (.iconst 1, 1) := by decide +kernel
theorem dX6_joining_22 : decode cX6_joining 22 = .ok (.invokevirtual 81, 3) := by decide +kernel
theorem dX6_joining_25 : decode cX6_joining 25 = .ok (.ifCond .eq 12, 3) := by decide +kernel
theorem dX6_joining_28 : decode cX6_joining 28 = .ok (.aload_n 0, 1) := by decide +kernel
theorem dX6_joining_29 : decode cX6_joining 29 = .ok (.iload_n 1, 1) := by decide +kernel
theorem dX6_joining_30 : decode cX6_joining 30 = .ok (.iload_n 2, 1) := by decide +kernel
theorem dX6_joining_31 : decode cX6_joining 31 = .ok (.invokevirtual 137, 3) := by decide +kernel
theorem dX6_joining_34 : decode cX6_joining 34 = .ok (.goto 4, 3) := by decide +kernel
theorem dX6_joining_37 : decode cX6_joining 37 = .ok (.iconst 0, 1) := by decide +kernel
theorem dX6_joining_38 : decode cX6_joining 38 = .ok (.ireturn, 1) := by decide +kernel
theorem dX6_greatest_0 : decode cX6_greatest 0 = .ok (.aload_n 0, 1) := by decide +kernel
theorem dX6_greatest_1 : decode cX6_greatest 1 = .ok (.aload_n 0, 1) := by decide +kernel
theorem dX6_greatest_2 : decode cX6_greatest 2 = .ok (.iload_n 1, 1) := by decide +kernel
theorem dX6_greatest_3 : decode cX6_greatest 3 = .ok (.invokevirtual 90, 3) := by decide +kernel
theorem dX6_greatest_6 : decode cX6_greatest 6 = .ok (.ifCond .eq 7, 3) := by decide +kernel
theorem dX6_greatest_9 : decode cX6_greatest 9 = .ok (.iconst 0, 1) := by decide +kernel
theorem dX6_greatest_10 : decode cX6_greatest 10 = .ok (.goto 4, 3) := by decide +kernel
theorem dX6_greatest_13 : decode cX6_greatest 13 = .ok (.iconst 1, 1) := by decide +kernel
theorem dX6_greatest_14 : decode cX6_greatest 14 = .ok (.invokevirtual 81, 3) := by decide +kernel
theorem dX6_greatest_17 : decode cX6_greatest 17 = .ok (.ifCond .eq 11, 3) := by decide +kernel
theorem dX6_greatest_20 : decode cX6_greatest 20 = .ok (.aload_n 0, 1) := by decide +kernel
theorem dX6_greatest_21 : decode cX6_greatest 21 = .ok (.iload_n 1, 1) := by decide +kernel
theorem dX6_greatest_22 : decode cX6_greatest 22 = .ok (.invokevirtual 112, 3) := by decide +kernel
theorem dX6_greatest_25 : decode cX6_greatest 25 = .ok (.goto 4, 3) := by decide +kernel
theorem dX6_greatest_28 : decode cX6_greatest 28 = .ok (.iconst 0, 1) := by decide +kernel
theorem dX6_greatest_29 : decode cX6_greatest 29 = .ok (.ireturn, 1) := by decide +kernel
theorem dX6_share_0 : decode cX6_share 0 = .ok (.aload_n 0, 1) := by decide +kernel
theorem dX6_share_1 : decode cX6_share 1 = .ok (.getfield 7, 3) := by decide +kernel
theorem dX6_share_4 : decode cX6_share 4 = .ok (.bipush 8, 2) := by decide +kernel
theorem dX6_share_6 : decode cX6_share 6 = .ok (.iaload, 1) := by decide +kernel
theorem dX6_share_7 : decode cX6_share 7 = .ok (.ifCond .ne 7, 3) := by decide +kernel
theorem dX6_share_10 : decode cX6_share 10 = .ok (.dconst 1, 1) := by decide +kernel
theorem dX6_share_11 : decode cX6_share 11 = .ok (.goto 22, 3) := by decide +kernel
theorem dX6_share_14 : decode cX6_share 14 = .ok (.aload_n 0, 1) := by decide +kernel
theorem dX6_share_15 : decode cX6_share 15 = .ok (.iconst 0, 1) := by decide +kernel
theorem dX6_share_16 : decode cX6_share 16 = .ok (.invokevirtual 206, 3) := by decide +kernel
theorem dX6_share_19 : decode cX6_share 19 = .ok (.aload_n 0, 1) := by decide +kernel
theorem dX6_share_20 : decode cX6_share 20 = .ok (.iconst 1, 1) := by decide +kernel
theorem dX6_share_21 : decode cX6_share 21 = .ok (.invokevirtual 206, 3) := by decide +kernel
theorem dX6_share_24 : decode cX6_share 24 = .ok (.isub, 1) := by decide +kernel
theorem dX6_share_25 : decode cX6_share 25 = .ok (.i2d, 1) := by decide +kernel
theorem dX6_share_26 : decode cX6_share 26 = .ok (.aload_n 0, 1) := by decide +kernel
theorem dX6_share_27 : decode cX6_share 27 = .ok (.iconst 0, 1) := by decide +kernel
theorem dX6_share_28 : decode cX6_share 28 = .ok (.invokevirtual 206, 3) := by decide +kernel
theorem dX6_share_31 : decode cX6_share 31 = .ok (.i2d, 1) := by decide +kernel
theorem dX6_share_32 : decode cX6_share 32 = .ok (.ddiv, 1) := by decide +kernel
theorem dX6_share_33 : decode cX6_share 33 = .ok (.dreturn, 1) := by decide +kernel
theorem dX6_fullness_0 : decode cX6_fullness 0 = .ok (.aload_n 0, 1) := by decide +kernel
theorem dX6_fullness_1 : decode cX6_fullness 1 = .ok (.iconst 0, 1) := by decide +kernel
theorem dX6_fullness_2 : decode cX6_fullness 2 = .ok (.putfield 28, 3) := by decide +kernel
theorem dX6_fullness_5 : decode cX6_fullness 5 = .ok (.aload_n 0, 1) := by decide +kernel
theorem dX6_fullness_6 : decode cX6_fullness 6 = .ok (.invokevirtual 233, 3) := by decide +kernel
theorem dX6_fullness_9 : decode cX6_fullness 9 = .ok (.dreturn, 1) := by decide +kernel
theorem dX6_bitsOf_0 : decode cX6_bitsOf 0 = .ok (.dload_n 0, 1) := by decide +kernel
theorem dX6_bitsOf_1 : decode cX6_bitsOf 1 = .ok (.dconst 0, 1) := by decide +kernel
theorem dX6_bitsOf_2 : decode cX6_bitsOf 2 = .ok (.dcmp .l, 1) := by decide +kernel
theorem dX6_bitsOf_3 : decode cX6_bitsOf 3 = .ok (.ifCond .ne 5, 3) := by decide +kernel
theorem dX6_bitsOf_6 : decode cX6_bitsOf 6 = .ok (.lconst 0, 1) := by decide +kernel
theorem dX6_bitsOf_7 : decode cX6_bitsOf 7 = .ok (.lreturn, 1) := by decide +kernel
theorem dX6_bitsOf_8 : decode cX6_bitsOf 8 = .ok (.ldc2_w 237, 3) := by decide +kernel
theorem dX6_bitsOf_11 : decode cX6_bitsOf 11 = .ok (.lstore_n 2, 1) := by decide +kernel
theorem dX6_bitsOf_12 : decode cX6_bitsOf 12 = .ok (.dload_n 0, 1) := by decide +kernel
theorem dX6_bitsOf_13 : decode cX6_bitsOf 13 = .ok (.dstore 4, 2) := by decide +kernel
theorem dX6_bitsOf_15 : decode cX6_bitsOf 15 = .ok (.dload 4, 2) := by decide +kernel
theorem dX6_bitsOf_17 : decode cX6_bitsOf 17 = .ok (.dconst 1, 1) := by decide +kernel
theorem dX6_bitsOf_18 : decode cX6_bitsOf 18 = .ok (.dcmp .g, 1) := by decide +kernel
theorem dX6_bitsOf_19 : decode cX6_bitsOf 19 = .ok (.ifCond .ge 18, 3) := by decide +kernel
theorem dX6_bitsOf_22 : decode cX6_bitsOf 22 = .ok (.dload 4, 2) := by decide +kernel
theorem dX6_bitsOf_24 : decode cX6_bitsOf 24 = .ok (.ldc2_w 239, 3) := by decide +kernel
theorem dX6_bitsOf_27 : decode cX6_bitsOf 27 = .ok (.dmul, 1) := by decide +kernel
theorem dX6_bitsOf_28 : decode cX6_bitsOf 28 = .ok (.dstore 4, 2) := by decide +kernel
theorem dX6_bitsOf_30 : decode cX6_bitsOf 30 = .ok (.lload_n 2, 1) := by decide +kernel
theorem dX6_bitsOf_31 : decode cX6_bitsOf 31 = .ok (.lconst 1, 1) := by decide +kernel
theorem dX6_bitsOf_32 : decode cX6_bitsOf 32 = .ok (.lsub, 1) := by decide +kernel
theorem dX6_bitsOf_33 : decode cX6_bitsOf 33 = .ok (.lstore_n 2, 1) := by decide +kernel
theorem dX6_bitsOf_34 : decode cX6_bitsOf 34 = .ok (.goto (-19), 3) := by decide +kernel
theorem dX6_bitsOf_37 : decode cX6_bitsOf 37 = .ok (.lload_n 2, 1) := by decide +kernel
theorem dX6_bitsOf_38 : decode cX6_bitsOf 38 = .ok (.ldc2_w 241, 3) := by decide +kernel
theorem dX6_bitsOf_41 : decode cX6_bitsOf 41 = .ok (.lmul, 1) := by decide +kernel
theorem dX6_bitsOf_42 : decode cX6_bitsOf 42 = .ok (.dload 4, 2) := by decide +kernel
theorem dX6_bitsOf_44 : decode cX6_bitsOf 44 = .ok (.dconst 1, 1) := by decide +kernel
theorem dX6_bitsOf_45 : decode cX6_bitsOf 45 = .ok (.dsub, 1) := by decide +kernel
theorem dX6_bitsOf_46 : decode cX6_bitsOf 46 = .ok (.ldc2_w 243, 3) := by decide +kernel
theorem dX6_bitsOf_49 : decode cX6_bitsOf 49 = .ok (.dmul, 1) := by decide +kernel
theorem dX6_bitsOf_50 : decode cX6_bitsOf 50 = .ok (.d2l, 1) := by decide +kernel
theorem dX6_bitsOf_51 : decode cX6_bitsOf 51 = .ok (.ladd, 1) := by decide +kernel
theorem dX6_bitsOf_52 : decode cX6_bitsOf 52 = .ok (.lreturn, 1) := by decide +kernel
theorem dX6_digestOne_0 : decode cX6_digestOne 0 = .ok (.aload_n 0, 1) := by decide +kernel
theorem dX6_digestOne_1 : decode cX6_digestOne 1 = .ok (.ldc2_w 245, 3) := by decide +kernel
theorem dX6_digestOne_4 : decode cX6_digestOne 4 = .ok (.aload_n 0, 1) := by decide +kernel
theorem dX6_digestOne_5 : decode cX6_digestOne 5 = .ok (.getfield 247, 3) := by decide +kernel
theorem dX6_digestOne_8 : decode cX6_digestOne 8 = .ok (.lmul, 1) := by decide +kernel
theorem dX6_digestOne_9 : decode cX6_digestOne 9 = .ok (.lload_n 1, 1) := by decide +kernel
theorem dX6_digestOne_10 : decode cX6_digestOne 10 = .ok (.ladd, 1) := by decide +kernel
theorem dX6_digestOne_11 : decode cX6_digestOne 11 = .ok (.putfield 247, 3) := by decide +kernel
theorem dX6_digestOne_14 : decode cX6_digestOne 14 = .ok (.return_, 1) := by decide +kernel
theorem dX6_digestRope_0 : decode cX6_digestRope 0 = .ok (.iconst 0, 1) := by decide +kernel
theorem dX6_digestRope_1 : decode cX6_digestRope 1 = .ok (.istore_n 2, 1) := by decide +kernel
theorem dX6_digestRope_2 : decode cX6_digestRope 2 = .ok (.iload_n 2, 1) := by decide +kernel
theorem dX6_digestRope_3 : decode cX6_digestRope 3 = .ok (.bipush 6, 2) := by decide +kernel
theorem dX6_digestRope_5 : decode cX6_digestRope 5 = .ok (.if_icmp .ge 20, 3) := by decide +kernel
theorem dX6_digestRope_8 : decode cX6_digestRope 8 = .ok (.aload_n 0, 1) := by decide +kernel
theorem dX6_digestRope_9 : decode cX6_digestRope 9 = .ok (.aload_n 0, 1) := by decide +kernel
theorem dX6_digestRope_10 : decode cX6_digestRope 10 = .ok (.iload_n 1, 1) := by decide +kernel
theorem dX6_digestRope_11 : decode cX6_digestRope 11 = .ok (.iload_n 2, 1) := by decide +kernel
theorem dX6_digestRope_12 : decode cX6_digestRope 12 = .ok (.invokevirtual 197, 3) := by decide +kernel
theorem dX6_digestRope_15 : decode cX6_digestRope 15 = .ok (.i2l, 1) := by decide +kernel
theorem dX6_digestRope_16 : decode cX6_digestRope 16 = .ok (.invokevirtual 251, 3) := by decide +kernel
theorem dX6_digestRope_19 : decode cX6_digestRope 19 = .ok (.iinc 2 1, 3) := by decide +kernel
theorem dX6_digestRope_22 : decode cX6_digestRope 22 = .ok (.goto (-20), 3) := by decide +kernel
theorem dX6_digestRope_25 : decode cX6_digestRope 25 = .ok (.iconst 0, 1) := by decide +kernel
theorem dX6_digestRope_26 : decode cX6_digestRope 26 = .ok (.istore_n 2, 1) := by decide +kernel
theorem dX6_digestRope_27 : decode cX6_digestRope 27 = .ok (.iload_n 2, 1) := by decide +kernel
theorem dX6_digestRope_28 : decode cX6_digestRope 28 = .ok (.aload_n 0, 1) := by decide +kernel
theorem dX6_digestRope_29 : decode cX6_digestRope 29 = .ok (.getfield 7, 3) := by decide +kernel
theorem dX6_digestRope_32 : decode cX6_digestRope 32 = .ok (.iload_n 1, 1) := by decide +kernel
theorem dX6_digestRope_33 : decode cX6_digestRope 33 = .ok (.iconst 0, 1) := by decide +kernel
theorem dX6_digestRope_34 : decode cX6_digestRope 34 = .ok (.invokestatic 36, 3) := by decide +kernel
theorem dX6_digestRope_37 : decode cX6_digestRope 37 = .ok (.iaload, 1) := by decide +kernel
theorem dX6_digestRope_38 : decode cX6_digestRope 38 = .ok (.if_icmp .ge 20, 3) := by decide +kernel
theorem dX6_digestRope_41 : decode cX6_digestRope 41 = .ok (.aload_n 0, 1) := by decide +kernel
theorem dX6_digestRope_42 : decode cX6_digestRope 42 = .ok (.aload_n 0, 1) := by decide +kernel
theorem dX6_digestRope_43 : decode cX6_digestRope 43 = .ok (.iload_n 1, 1) := by decide +kernel
theorem dX6_digestRope_44 : decode cX6_digestRope 44 = .ok (.iload_n 2, 1) := by decide +kernel
theorem dX6_digestRope_45 : decode cX6_digestRope 45 = .ok (.invokevirtual 63, 3) := by decide +kernel
theorem dX6_digestRope_48 : decode cX6_digestRope 48 = .ok (.i2l, 1) := by decide +kernel
theorem dX6_digestRope_49 : decode cX6_digestRope 49 = .ok (.invokevirtual 251, 3) := by decide +kernel
theorem dX6_digestRope_52 : decode cX6_digestRope 52 = .ok (.iinc 2 1, 3) := by decide +kernel
theorem dX6_digestRope_55 : decode cX6_digestRope 55 = .ok (.goto (-28), 3) := by decide +kernel
theorem dX6_digestRope_58 : decode cX6_digestRope 58 = .ok (.iconst 0, 1) := by decide +kernel
theorem dX6_digestRope_59 : decode cX6_digestRope 59 = .ok (.istore_n 2, 1) := by decide +kernel
theorem dX6_digestRope_60 : decode cX6_digestRope 60 = .ok (.iload_n 2, 1) := by decide +kernel
theorem dX6_digestRope_61 : decode cX6_digestRope 61 = .ok (.bipush 8, 2) := by decide +kernel
theorem dX6_digestRope_63 : decode cX6_digestRope 63 = .ok (.if_icmp .ge 59, 3) := by decide +kernel
theorem dX6_digestRope_66 : decode cX6_digestRope 66 = .ok (.iconst 0, 1) := by decide +kernel
theorem dX6_digestRope_67 : decode cX6_digestRope 67 = .ok (.istore_n 3, 1) := by decide +kernel
theorem dX6_digestRope_68 : decode cX6_digestRope 68 = .ok (.iload_n 3, 1) := by decide +kernel
theorem dX6_digestRope_69 : decode cX6_digestRope 69 = .ok (.iconst 4, 1) := by decide +kernel
theorem dX6_digestRope_70 : decode cX6_digestRope 70 = .ok (.if_icmp .ge 21, 3) := by decide +kernel
theorem dX6_digestRope_73 : decode cX6_digestRope 73 = .ok (.aload_n 0, 1) := by decide +kernel
theorem dX6_digestRope_74 : decode cX6_digestRope 74 = .ok (.aload_n 0, 1) := by decide +kernel
theorem dX6_digestRope_75 : decode cX6_digestRope 75 = .ok (.iload_n 1, 1) := by decide +kernel
theorem dX6_digestRope_76 : decode cX6_digestRope 76 = .ok (.iload_n 2, 1) := by decide +kernel
theorem dX6_digestRope_77 : decode cX6_digestRope 77 = .ok (.iload_n 3, 1) := by decide +kernel
theorem dX6_digestRope_78 : decode cX6_digestRope 78 = .ok (.invokevirtual 203, 3) := by decide +kernel
theorem dX6_digestRope_81 : decode cX6_digestRope 81 = .ok (.i2l, 1) := by decide +kernel
theorem dX6_digestRope_82 : decode cX6_digestRope 82 = .ok (.invokevirtual 251, 3) := by decide +kernel
theorem dX6_digestRope_85 : decode cX6_digestRope 85 = .ok (.iinc 3 1, 3) := by decide +kernel
theorem dX6_digestRope_88 : decode cX6_digestRope 88 = .ok (.goto (-20), 3) := by decide +kernel
theorem dX6_digestRope_91 : decode cX6_digestRope 91 = .ok (.iconst 0, 1) := by decide +kernel
theorem dX6_digestRope_92 : decode cX6_digestRope 92 = .ok (.istore_n 3, 1) := by decide +kernel
theorem dX6_digestRope_93 : decode cX6_digestRope 93 = .ok (.iload_n 3, 1) := by decide +kernel
theorem dX6_digestRope_94 : decode cX6_digestRope 94 = .ok (.iconst 3, 1) := by decide +kernel
theorem dX6_digestRope_95 : decode cX6_digestRope 95 = .ok (.if_icmp .ge 21, 3) := by decide +kernel
theorem dX6_digestRope_98 : decode cX6_digestRope 98 = .ok (.aload_n 0, 1) := by decide +kernel
theorem dX6_digestRope_99 : decode cX6_digestRope 99 = .ok (.aload_n 0, 1) := by decide +kernel
theorem dX6_digestRope_100 : decode cX6_digestRope 100 = .ok (.iload_n 1, 1) := by decide +kernel
theorem dX6_digestRope_101 : decode cX6_digestRope 101 = .ok (.iload_n 2, 1) := by decide +kernel
theorem dX6_digestRope_102 : decode cX6_digestRope 102 = .ok (.iload_n 3, 1) := by decide +kernel
theorem dX6_digestRope_103 : decode cX6_digestRope 103 = .ok (.invokevirtual 227, 3) := by decide +kernel
theorem dX6_digestRope_106 : decode cX6_digestRope 106 = .ok (.i2l, 1) := by decide +kernel
theorem dX6_digestRope_107 : decode cX6_digestRope 107 = .ok (.invokevirtual 251, 3) := by decide +kernel
theorem dX6_digestRope_110 : decode cX6_digestRope 110 = .ok (.iinc 3 1, 3) := by decide +kernel
theorem dX6_digestRope_113 : decode cX6_digestRope 113 = .ok (.goto (-20), 3) := by decide +kernel
theorem dX6_digestRope_116 : decode cX6_digestRope 116 = .ok (.iinc 2 1, 3) := by decide +kernel
theorem dX6_digestRope_119 : decode cX6_digestRope 119 = .ok (.goto (-59), 3) := by decide +kernel
theorem dX6_digestRope_122 : decode cX6_digestRope 122 = .ok (.aload_n 0, 1) := by decide +kernel
theorem dX6_digestRope_123 : decode cX6_digestRope 123 = .ok (.aload_n 0, 1) := by decide +kernel
theorem dX6_digestRope_124 : decode cX6_digestRope 124 = .ok (.iload_n 1, 1) := by decide +kernel
theorem dX6_digestRope_125 : decode cX6_digestRope 125 = .ok (.invokevirtual 230, 3) := by decide +kernel
theorem dX6_digestRope_128 : decode cX6_digestRope 128 = .ok (.i2l, 1) := by decide +kernel
theorem dX6_digestRope_129 : decode cX6_digestRope 129 = .ok (.invokevirtual 251, 3) := by decide +kernel
theorem dX6_digestRope_132 : decode cX6_digestRope 132 = .ok (.aload_n 0, 1) := by decide +kernel
theorem dX6_digestRope_133 : decode cX6_digestRope 133 = .ok (.aload_n 0, 1) := by decide +kernel
theorem dX6_digestRope_134 : decode cX6_digestRope 134 = .ok (.iload_n 1, 1) := by decide +kernel
theorem dX6_digestRope_135 : decode cX6_digestRope 135 = .ok (.invokevirtual 112, 3) := by decide +kernel
theorem dX6_digestRope_138 : decode cX6_digestRope 138 = .ok (.i2l, 1) := by decide +kernel
theorem dX6_digestRope_139 : decode cX6_digestRope 139 = .ok (.invokevirtual 251, 3) := by decide +kernel
theorem dX6_digestRope_142 : decode cX6_digestRope 142 = .ok (.aload_n 0, 1) := by decide +kernel
theorem dX6_digestRope_143 : decode cX6_digestRope 143 = .ok (.aload_n 0, 1) := by decide +kernel
theorem dX6_digestRope_144 : decode cX6_digestRope 144 = .ok (.iload_n 1, 1) := by decide +kernel
theorem dX6_digestRope_145 : decode cX6_digestRope 145 = .ok (.iconst 0, 1) := by decide +kernel
theorem dX6_digestRope_146 : decode cX6_digestRope 146 = .ok (.invokevirtual 137, 3) := by decide +kernel
theorem dX6_digestRope_149 : decode cX6_digestRope 149 = .ok (.i2l, 1) := by decide +kernel
theorem dX6_digestRope_150 : decode cX6_digestRope 150 = .ok (.invokevirtual 251, 3) := by decide +kernel
theorem dX6_digestRope_153 : decode cX6_digestRope 153 = .ok (.return_, 1) := by decide +kernel
theorem dX6_digest_0 : decode cX6_digest 0 = .ok (.aload_n 0, 1) := by decide +kernel
theorem dX6_digest_1 : decode cX6_digest 1 = .ok (.iconst 0, 1) := by decide +kernel
theorem dX6_digest_2 : decode cX6_digest 2 = .ok (.putfield 28, 3) := by decide +kernel
theorem dX6_digest_5 : decode cX6_digest 5 = .ok (.aload_n 0, 1) := by decide +kernel
theorem dX6_digest_6 : decode cX6_digest 6 = .ok (.ldc2_w 255, 3) := by decide +kernel
theorem dX6_digest_9 : decode cX6_digest 9 = .ok (.putfield 247, 3) := by decide +kernel
theorem dX6_digest_12 : decode cX6_digest 12 = .ok (.iconst 0, 1) := by decide +kernel
theorem dX6_digest_13 : decode cX6_digest 13 = .ok (.istore_n 1, 1) := by decide +kernel
theorem dX6_digest_14 : decode cX6_digest 14 = .ok (.iload_n 1, 1) := by decide +kernel
theorem dX6_digest_15 : decode cX6_digest 15 = .ok (.bipush 8, 2) := by decide +kernel
theorem dX6_digest_17 : decode cX6_digest 17 = .ok (.if_icmp .ge 19, 3) := by decide +kernel
theorem dX6_digest_20 : decode cX6_digest 20 = .ok (.aload_n 0, 1) := by decide +kernel
theorem dX6_digest_21 : decode cX6_digest 21 = .ok (.aload_n 0, 1) := by decide +kernel
theorem dX6_digest_22 : decode cX6_digest 22 = .ok (.iload_n 1, 1) := by decide +kernel
theorem dX6_digest_23 : decode cX6_digest 23 = .ok (.invokevirtual 213, 3) := by decide +kernel
theorem dX6_digest_26 : decode cX6_digest 26 = .ok (.i2l, 1) := by decide +kernel
theorem dX6_digest_27 : decode cX6_digest 27 = .ok (.invokevirtual 251, 3) := by decide +kernel
theorem dX6_digest_30 : decode cX6_digest 30 = .ok (.iinc 1 1, 3) := by decide +kernel
theorem dX6_digest_33 : decode cX6_digest 33 = .ok (.goto (-19), 3) := by decide +kernel
theorem dX6_digest_36 : decode cX6_digest 36 = .ok (.iconst 0, 1) := by decide +kernel
theorem dX6_digest_37 : decode cX6_digest 37 = .ok (.istore_n 1, 1) := by decide +kernel
theorem dX6_digest_38 : decode cX6_digest 38 = .ok (.iload_n 1, 1) := by decide +kernel
theorem dX6_digest_39 : decode cX6_digest 39 = .ok (.bipush 8, 2) := by decide +kernel
theorem dX6_digest_41 : decode cX6_digest 41 = .ok (.if_icmp .ge 22, 3) := by decide +kernel
theorem dX6_digest_44 : decode cX6_digest 44 = .ok (.aload_n 0, 1) := by decide +kernel
theorem dX6_digest_45 : decode cX6_digest 45 = .ok (.aload_n 0, 1) := by decide +kernel
theorem dX6_digest_46 : decode cX6_digest 46 = .ok (.getfield 7, 3) := by decide +kernel
theorem dX6_digest_49 : decode cX6_digest 49 = .ok (.iconst 0, 1) := by decide +kernel
theorem dX6_digest_50 : decode cX6_digest 50 = .ok (.iload_n 1, 1) := by decide +kernel
theorem dX6_digest_51 : decode cX6_digest 51 = .ok (.iadd, 1) := by decide +kernel
theorem dX6_digest_52 : decode cX6_digest 52 = .ok (.iaload, 1) := by decide +kernel
theorem dX6_digest_53 : decode cX6_digest 53 = .ok (.i2l, 1) := by decide +kernel
theorem dX6_digest_54 : decode cX6_digest 54 = .ok (.invokevirtual 251, 3) := by decide +kernel
theorem dX6_digest_57 : decode cX6_digest 57 = .ok (.iinc 1 1, 3) := by decide +kernel
theorem dX6_digest_60 : decode cX6_digest 60 = .ok (.goto (-22), 3) := by decide +kernel
theorem dX6_digest_63 : decode cX6_digest 63 = .ok (.iconst 0, 1) := by decide +kernel
theorem dX6_digest_64 : decode cX6_digest 64 = .ok (.istore_n 1, 1) := by decide +kernel
theorem dX6_digest_65 : decode cX6_digest 65 = .ok (.iload_n 1, 1) := by decide +kernel
theorem dX6_digest_66 : decode cX6_digest 66 = .ok (.aload_n 0, 1) := by decide +kernel
theorem dX6_digest_67 : decode cX6_digest 67 = .ok (.getfield 7, 3) := by decide +kernel
theorem dX6_digest_70 : decode cX6_digest 70 = .ok (.bipush 8, 2) := by decide +kernel
theorem dX6_digest_72 : decode cX6_digest 72 = .ok (.iaload, 1) := by decide +kernel
theorem dX6_digest_73 : decode cX6_digest 73 = .ok (.if_icmp .ge 14, 3) := by decide +kernel
theorem dX6_digest_76 : decode cX6_digest 76 = .ok (.aload_n 0, 1) := by decide +kernel
theorem dX6_digest_77 : decode cX6_digest 77 = .ok (.iload_n 1, 1) := by decide +kernel
theorem dX6_digest_78 : decode cX6_digest 78 = .ok (.invokevirtual 257, 3) := by decide +kernel
theorem dX6_digest_81 : decode cX6_digest 81 = .ok (.iinc 1 1, 3) := by decide +kernel
theorem dX6_digest_84 : decode cX6_digest 84 = .ok (.goto (-19), 3) := by decide +kernel
theorem dX6_digest_87 : decode cX6_digest 87 = .ok (.iconst 0, 1) := by decide +kernel
theorem dX6_digest_88 : decode cX6_digest 88 = .ok (.istore_n 1, 1) := by decide +kernel
theorem dX6_digest_89 : decode cX6_digest 89 = .ok (.iload_n 1, 1) := by decide +kernel
theorem dX6_digest_90 : decode cX6_digest 90 = .ok (.bipush 8, 2) := by decide +kernel
theorem dX6_digest_92 : decode cX6_digest 92 = .ok (.if_icmp .ge 22, 3) := by decide +kernel
theorem dX6_digest_95 : decode cX6_digest 95 = .ok (.aload_n 0, 1) := by decide +kernel
theorem dX6_digest_96 : decode cX6_digest 96 = .ok (.aload_n 0, 1) := by decide +kernel
theorem dX6_digest_97 : decode cX6_digest 97 = .ok (.iconst 0, 1) := by decide +kernel
theorem dX6_digest_98 : decode cX6_digest 98 = .ok (.iconst 1, 1) := by decide +kernel
theorem dX6_digest_99 : decode cX6_digest 99 = .ok (.iload_n 1, 1) := by decide +kernel
theorem dX6_digest_100 : decode cX6_digest 100 = .ok (.iconst 0, 1) := by decide +kernel
theorem dX6_digest_101 : decode cX6_digest 101 = .ok (.invokevirtual 220, 3) := by decide +kernel
theorem dX6_digest_104 : decode cX6_digest 104 = .ok (.i2l, 1) := by decide +kernel
theorem dX6_digest_105 : decode cX6_digest 105 = .ok (.invokevirtual 251, 3) := by decide +kernel
theorem dX6_digest_108 : decode cX6_digest 108 = .ok (.iinc 1 1, 3) := by decide +kernel
theorem dX6_digest_111 : decode cX6_digest 111 = .ok (.goto (-22), 3) := by decide +kernel
theorem dX6_digest_114 : decode cX6_digest 114 = .ok (.aload_n 0, 1) := by decide +kernel
theorem dX6_digest_115 : decode cX6_digest 115 = .ok (.aload_n 0, 1) := by decide +kernel
theorem dX6_digest_116 : decode cX6_digest 116 = .ok (.invokevirtual 233, 3) := by decide +kernel
theorem dX6_digest_119 : decode cX6_digest 119 = .ok (.invokestatic 260, 3) := by decide +kernel
theorem dX6_digest_122 : decode cX6_digest 122 = .ok (.invokevirtual 251, 3) := by decide +kernel
theorem dX6_digest_125 : decode cX6_digest 125 = .ok (.aload_n 0, 1) := by decide +kernel
theorem dX6_digest_126 : decode cX6_digest 126 = .ok (.aload_n 0, 1) := by decide +kernel
theorem dX6_digest_127 : decode cX6_digest 127 = .ok (.getfield 140, 3) := by decide +kernel
theorem dX6_digest_130 : decode cX6_digest 130 = .ok (.i2l, 1) := by decide +kernel
theorem dX6_digest_131 : decode cX6_digest 131 = .ok (.invokevirtual 251, 3) := by decide +kernel
theorem dX6_digest_134 : decode cX6_digest 134 = .ok (.iconst 0, 1) := by decide +kernel
theorem dX6_digest_135 : decode cX6_digest 135 = .ok (.istore_n 1, 1) := by decide +kernel
theorem dX6_digest_136 : decode cX6_digest 136 = .ok (.iload_n 1, 1) := by decide +kernel
theorem dX6_digest_137 : decode cX6_digest 137 = .ok (.aload_n 0, 1) := by decide +kernel
theorem dX6_digest_138 : decode cX6_digest 138 = .ok (.getfield 140, 3) := by decide +kernel
theorem dX6_digest_141 : decode cX6_digest 141 = .ok (.if_icmp .ge 20, 3) := by decide +kernel
theorem dX6_digest_144 : decode cX6_digest 144 = .ok (.aload_n 0, 1) := by decide +kernel
theorem dX6_digest_145 : decode cX6_digest 145 = .ok (.aload_n 0, 1) := by decide +kernel
theorem dX6_digest_146 : decode cX6_digest 146 = .ok (.getfield 22, 3) := by decide +kernel
theorem dX6_digest_149 : decode cX6_digest 149 = .ok (.iload_n 1, 1) := by decide +kernel
theorem dX6_digest_150 : decode cX6_digest 150 = .ok (.iaload, 1) := by decide +kernel
theorem dX6_digest_151 : decode cX6_digest 151 = .ok (.i2l, 1) := by decide +kernel
theorem dX6_digest_152 : decode cX6_digest 152 = .ok (.invokevirtual 251, 3) := by decide +kernel
theorem dX6_digest_155 : decode cX6_digest 155 = .ok (.iinc 1 1, 3) := by decide +kernel
theorem dX6_digest_158 : decode cX6_digest 158 = .ok (.goto (-22), 3) := by decide +kernel
theorem dX6_digest_161 : decode cX6_digest 161 = .ok (.aload_n 0, 1) := by decide +kernel
theorem dX6_digest_162 : decode cX6_digest 162 = .ok (.getfield 247, 3) := by decide +kernel
theorem dX6_digest_165 : decode cX6_digest 165 = .ok (.lreturn, 1) := by decide +kernel
