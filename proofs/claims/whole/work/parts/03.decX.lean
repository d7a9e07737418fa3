theorem dX0_init_0 : decode cX0_init 0 = .ok (.aload_n 0, 1) := by decide +kernel
theorem dX0_init_1 : decode cX0_init 1 = .ok (.invokespecial 3, 3) := by decide +kernel
theorem dX0_init_4 : decode cX0_init 4 = .ok (.aload_n 0, 1) := by decide +kernel
theorem dX0_init_5 : decode cX0_init 5 = .ok (.bipush 32, 2) := by decide +kernel
theorem dX0_init_7 : decode cX0_init 7 = .ok (.newarray .int, 2) := by decide +kernel
theorem dX0_init_9 : decode cX0_init 9 = .ok (.putfield 9, 3) := by decide +kernel
theorem dX0_init_12 : decode cX0_init 12 = .ok (.return_, 1) := by decide +kernel
theorem dX0_meet_0 : decode cX0_meet 0 = .ok (.aload_n 0, 1) := by decide +kernel
theorem dX0_meet_1 : decode cX0_meet 1 = .ok (.getfield 9, 3) := by decide +kernel
theorem dX0_meet_4 : decode cX0_meet 4 = .ok (.iconst 0, 1) := by decide +kernel
theorem dX0_meet_5 : decode cX0_meet 5 = .ok (.iconst 0, 1) := by decide +kernel
theorem dX0_meet_6 : decode cX0_meet 6 = .ok (.iastore, 1) := by decide +kernel
theorem dX0_meet_7 : decode cX0_meet 7 = .ok (.aload_n 0, 1) := by decide +kernel
theorem dX0_meet_8 : decode cX0_meet 8 = .ok (.iconst 1, 1) := by decide +kernel
theorem dX0_meet_9 : decode cX0_meet 9 = .ok (.putfield 15, 3) := by decide +kernel
theorem dX0_meet_12 : decode cX0_meet 12 = .ok (.iconst 0, 1) := by decide +kernel
theorem dX0_meet_13 : decode cX0_meet 13 = .ok (.istore_n 3, 1) := by decide +kernel
theorem dX0_meet_14 : decode cX0_meet 14 = .ok (.iload_n 3, 1) := by decide +kernel
theorem dX0_meet_15 : decode cX0_meet 15 = .ok (.iload_n 1, 1) := by decide +kernel
theorem dX0_meet_16 : decode cX0_meet 16 = .ok (.if_icmp .ge 65, 3) := by decide +kernel
theorem dX0_meet_19 : decode cX0_meet 19 = .ok (.iload_n 3, 1) := by decide +kernel
theorem dX0_meet_20 : decode cX0_meet 20 = .ok (.iconst 5, 1) := by decide +kernel
theorem dX0_meet_21 : decode cX0_meet 21 = .ok (.if_icmp .ge 60, 3) := by decide +kernel
theorem dX0_meet_24 : decode cX0_meet 24 = .ok (.iconst 0, 1) := by decide +kernel
theorem dX0_meet_25 : decode cX0_meet 25 = .ok (.istore 4, 2) := by decide +kernel
theorem dX0_meet_27 : decode cX0_meet 27 = .ok (.iload 4, 2) := by decide +kernel
theorem dX0_meet_29 : decode cX0_meet 29 = .ok (.aload_n 0, 1) := by decide +kernel
theorem dX0_meet_30 : decode cX0_meet 30 = .ok (.getfield 15, 3) := by decide +kernel
theorem dX0_meet_33 : decode cX0_meet 33 = .ok (.if_icmp .ge 32, 3) := by decide +kernel
theorem dX0_meet_36 : decode cX0_meet 36 = .ok (.aload_n 0, 1) := by decide +kernel
theorem dX0_meet_37 : decode cX0_meet 37 = .ok (.getfield 9, 3) := by decide +kernel
theorem dX0_meet_40 : decode cX0_meet 40 = .ok (.iload 4, 2) := by decide +kernel
theorem dX0_meet_42 : decode cX0_meet 42 = .ok (.aload_n 0, 1) := by decide +kernel
theorem dX0_meet_43 : decode cX0_meet 43 = .ok (.getfield 15, 3) := by decide +kernel
theorem dX0_meet_46 : decode cX0_meet 46 = .ok (.iadd, 1) := by decide +kernel
theorem dX0_meet_47 : decode cX0_meet 47 = .ok (.aload_n 0, 1) := by decide +kernel
theorem dX0_meet_48 : decode cX0_meet 48 = .ok (.getfield 9, 3) := by decide +kernel
theorem dX0_meet_51 : decode cX0_meet 51 = .ok (.iload 4, 2) := by decide +kernel
theorem dX0_meet_53 : decode cX0_meet 53 = .ok (.iaload, 1) := by decide +kernel
theorem dX0_meet_54 : decode cX0_meet 54 = .ok (.aload_n 2, 1) := by decide +kernel
theorem dX0_meet_55 : decode cX0_meet 55 = .ok (.iload_n 3, 1) := by decide +kernel
theorem dX0_meet_56 : decode cX0_meet 56 = .ok (.iaload, 1) := by decide +kernel
theorem dX0_meet_57 : decode cX0_meet 57 = .ok (.iadd, 1) := by decide +kernel
theorem dX0_meet_58 : decode cX0_meet 58 = .ok (.iastore, 1) := by decide +kernel
theorem dX0_meet_59 : decode cX0_meet 59 = .ok (.iinc 4 1, 3) := by decide +kernel
theorem dX0_meet_62 : decode cX0_meet 62 = .ok (.goto (-35), 3) := by decide +kernel
theorem dX0_meet_65 : decode cX0_meet 65 = .ok (.aload_n 0, 1) := by decide +kernel
theorem dX0_meet_66 : decode cX0_meet 66 = .ok (.dup, 1) := by decide +kernel
theorem dX0_meet_67 : decode cX0_meet 67 = .ok (.getfield 15, 3) := by decide +kernel
theorem dX0_meet_70 : decode cX0_meet 70 = .ok (.iconst 2, 1) := by decide +kernel
theorem dX0_meet_71 : decode cX0_meet 71 = .ok (.imul, 1) := by decide +kernel
theorem dX0_meet_72 : decode cX0_meet 72 = .ok (.putfield 15, 3) := by decide +kernel
theorem dX0_meet_75 : decode cX0_meet 75 = .ok (.iinc 3 1, 3) := by decide +kernel
theorem dX0_meet_78 : decode cX0_meet 78 = .ok (.goto (-64), 3) := by decide +kernel
theorem dX0_meet_81 : decode cX0_meet 81 = .ok (.aload_n 0, 1) := by decide +kernel
theorem dX0_meet_82 : decode cX0_meet 82 = .ok (.aload_n 0, 1) := by decide +kernel
theorem dX0_meet_83 : decode cX0_meet 83 = .ok (.getfield 9, 3) := by decide +kernel
theorem dX0_meet_86 : decode cX0_meet 86 = .ok (.aload_n 0, 1) := by decide +kernel
theorem dX0_meet_87 : decode cX0_meet 87 = .ok (.getfield 15, 3) := by decide +kernel
theorem dX0_meet_90 : decode cX0_meet 90 = .ok (.iconst 1, 1) := by decide +kernel
theorem dX0_meet_91 : decode cX0_meet 91 = .ok (.isub, 1) := by decide +kernel
theorem dX0_meet_92 : decode cX0_meet 92 = .ok (.iaload, 1) := by decide +kernel
theorem dX0_meet_93 : decode cX0_meet 93 = .ok (.putfield 19, 3) := by decide +kernel
theorem dX0_meet_96 : decode cX0_meet 96 = .ok (.return_, 1) := by decide +kernel
theorem dX0_setsOf_0 : decode cX0_setsOf 0 = .ok (.iconst 0, 1) := by decide +kernel
theorem dX0_setsOf_1 : decode cX0_setsOf 1 = .ok (.istore_n 2, 1) := by decide +kernel
theorem dX0_setsOf_2 : decode cX0_setsOf 2 = .ok (.iconst 0, 1) := by decide +kernel
theorem dX0_setsOf_3 : decode cX0_setsOf 3 = .ok (.istore_n 3, 1) := by decide +kernel
theorem dX0_setsOf_4 : decode cX0_setsOf 4 = .ok (.iload_n 3, 1) := by decide +kernel
theorem dX0_setsOf_5 : decode cX0_setsOf 5 = .ok (.aload_n 0, 1) := by decide +kernel
theorem dX0_setsOf_6 : decode cX0_setsOf 6 = .ok (.getfield 15, 3) := by decide +kernel
theorem dX0_setsOf_9 : decode cX0_setsOf 9 = .ok (.if_icmp .ge 22, 3) := by decide +kernel
theorem dX0_setsOf_12 : decode cX0_setsOf 12 = .ok (.aload_n 0, 1) := by decide +kernel
theorem dX0_setsOf_13 : decode cX0_setsOf 13 = .ok (.getfield 9, 3) := by decide +kernel
theorem dX0_setsOf_16 : decode cX0_setsOf 16 = .ok (.iload_n 3, 1) := by decide +kernel
theorem dX0_setsOf_17 : decode cX0_setsOf 17 = .ok (.iaload, 1) := by decide +kernel
theorem dX0_setsOf_18 : decode cX0_setsOf 18 = .ok (.iload_n 1, 1) := by decide +kernel
theorem dX0_setsOf_19 : decode cX0_setsOf 19 = .ok (.if_icmp .ne 6, 3) := by decide +kernel
theorem dX0_setsOf_22 : decode cX0_setsOf 22 = .ok (.iinc 2 1, 3) := by decide +kernel
theorem dX0_setsOf_25 : decode cX0_setsOf 25 = .ok (.iinc 3 1, 3) := by decide +kernel
theorem dX0_setsOf_28 : decode cX0_setsOf 28 = .ok (.goto (-24), 3) := by decide +kernel
theorem dX0_setsOf_31 : decode cX0_setsOf 31 = .ok (.iload_n 2, 1) := by decide +kernel
theorem dX0_setsOf_32 : decode cX0_setsOf 32 = .ok (.ireturn, 1) := by decide +kernel
theorem dX0_turnsBy_0 : decode cX0_turnsBy 0 = .ok (.iconst 0, 1) := by decide +kernel
theorem dX0_turnsBy_1 : decode cX0_turnsBy 1 = .ok (.istore_n 2, 1) := by decide +kernel
theorem dX0_turnsBy_2 : decode cX0_turnsBy 2 = .ok (.iconst 1, 1) := by decide +kernel
theorem dX0_turnsBy_3 : decode cX0_turnsBy 3 = .ok (.iload_n 1, 1) := by decide +kernel
theorem dX0_turnsBy_4 : decode cX0_turnsBy 4 = .ok (.ishl, 1) := by decide +kernel
theorem dX0_turnsBy_5 : decode cX0_turnsBy 5 = .ok (.istore_n 3, 1) := by decide +kernel
theorem dX0_turnsBy_6 : decode cX0_turnsBy 6 = .ok (.iconst 0, 1) := by decide +kernel
theorem dX0_turnsBy_7 : decode cX0_turnsBy 7 = .ok (.istore 4, 2) := by decide +kernel
theorem dX0_turnsBy_9 : decode cX0_turnsBy 9 = .ok (.iload 4, 2) := by decide +kernel
theorem dX0_turnsBy_11 : decode cX0_turnsBy 11 = .ok (.aload_n 0, 1) := by decide +kernel
theorem dX0_turnsBy_12 : decode cX0_turnsBy 12 = .ok (.getfield 15, 3) := by decide +kernel
theorem dX0_turnsBy_15 : decode cX0_turnsBy 15 = .ok (.if_icmp .ge 39, 3) := by decide +kernel
theorem dX0_turnsBy_18 : decode cX0_turnsBy 18 = .ok (.iload 4, 2) := by decide +kernel
theorem dX0_turnsBy_20 : decode cX0_turnsBy 20 = .ok (.iload_n 3, 1) := by decide +kernel
theorem dX0_turnsBy_21 : decode cX0_turnsBy 21 = .ok (.iand, 1) := by decide +kernel
theorem dX0_turnsBy_22 : decode cX0_turnsBy 22 = .ok (.ifCond .ne 26, 3) := by decide +kernel
theorem dX0_turnsBy_25 : decode cX0_turnsBy 25 = .ok (.aload_n 0, 1) := by decide +kernel
theorem dX0_turnsBy_26 : decode cX0_turnsBy 26 = .ok (.iload 4, 2) := by decide +kernel
theorem dX0_turnsBy_28 : decode cX0_turnsBy 28 = .ok (.invokevirtual 22, 3) := by decide +kernel
theorem dX0_turnsBy_31 : decode cX0_turnsBy 31 = .ok (.ifCond .ne 17, 3) := by decide +kernel
theorem dX0_turnsBy_34 : decode cX0_turnsBy 34 = .ok (.aload_n 0, 1) := by decide +kernel
theorem dX0_turnsBy_35 : decode cX0_turnsBy 35 = .ok (.iload 4, 2) := by decide +kernel
theorem dX0_turnsBy_37 : decode cX0_turnsBy 37 = .ok (.iload_n 3, 1) := by decide +kernel
theorem dX0_turnsBy_38 : decode cX0_turnsBy 38 = .ok (.ior, 1) := by decide +kernel
theorem dX0_turnsBy_39 : decode cX0_turnsBy 39 = .ok (.invokevirtual 22, 3) := by decide +kernel
theorem dX0_turnsBy_42 : decode cX0_turnsBy 42 = .ok (.ifCond .eq 6, 3) := by decide +kernel
theorem dX0_turnsBy_45 : decode cX0_turnsBy 45 = .ok (.iinc 2 1, 3) := by decide +kernel
theorem dX0_turnsBy_48 : decode cX0_turnsBy 48 = .ok (.iinc 4 1, 3) := by decide +kernel
theorem dX0_turnsBy_51 : decode cX0_turnsBy 51 = .ok (.goto (-42), 3) := by decide +kernel
theorem dX0_turnsBy_54 : decode cX0_turnsBy 54 = .ok (.iload_n 2, 1) := by decide +kernel
theorem dX0_turnsBy_55 : decode cX0_turnsBy 55 = .ok (.ireturn, 1) := by decide +kernel
theorem dX0_inEveryMajority_0 : decode cX0_inEveryMajority 0 = .ok (.aload_n 0, 1) := by decide +kernel
theorem dX0_inEveryMajority_1 : decode cX0_inEveryMajority 1 = .ok (.aload_n 0, 1) := by decide +kernel
theorem dX0_inEveryMajority_2 : decode cX0_inEveryMajority 2 = .ok (.getfield 15, 3) := by decide +kernel
theorem dX0_inEveryMajority_5 : decode cX0_inEveryMajority 5 = .ok (.iconst 1, 1) := by decide +kernel
theorem dX0_inEveryMajority_6 : decode cX0_inEveryMajority 6 = .ok (.isub, 1) := by decide +kernel
theorem dX0_inEveryMajority_7 : decode cX0_inEveryMajority 7 = .ok (.invokevirtual 22, 3) := by decide +kernel
theorem dX0_inEveryMajority_10 : decode cX0_inEveryMajority 10 = .ok (.ifCond .eq 12, 3) := by decide +kernel
theorem dX0_inEveryMajority_13 : decode cX0_inEveryMajority 13 = .ok (.aload_n 0, 1) := by decide +kernel
theorem dX0_inEveryMajority_14 : decode cX0_inEveryMajority 14 = .ok (.getfield 15, 3) := by decide +kernel
theorem dX0_inEveryMajority_17 : decode cX0_inEveryMajority 17 = .ok (.iconst 1, 1) := by decide +kernel
theorem dX0_inEveryMajority_18 : decode cX0_inEveryMajority 18 = .ok (.isub, 1) := by decide +kernel
theorem dX0_inEveryMajority_19 : decode cX0_inEveryMajority 19 = .ok (.goto 4, 3) := by decide +kernel
theorem dX0_inEveryMajority_22 : decode cX0_inEveryMajority 22 = .ok (.iconst 0, 1) := by decide +kernel
theorem dX0_inEveryMajority_23 : decode cX0_inEveryMajority 23 = .ok (.istore_n 1, 1) := by decide +kernel
theorem dX0_inEveryMajority_24 : decode cX0_inEveryMajority 24 = .ok (.iconst 0, 1) := by decide +kernel
theorem dX0_inEveryMajority_25 : decode cX0_inEveryMajority 25 = .ok (.istore_n 2, 1) := by decide +kernel
theorem dX0_inEveryMajority_26 : decode cX0_inEveryMajority 26 = .ok (.iload_n 2, 1) := by decide +kernel
theorem dX0_inEveryMajority_27 : decode cX0_inEveryMajority 27 = .ok (.aload_n 0, 1) := by decide +kernel
theorem dX0_inEveryMajority_28 : decode cX0_inEveryMajority 28 = .ok (.getfield 15, 3) := by decide +kernel
theorem dX0_inEveryMajority_31 : decode cX0_inEveryMajority 31 = .ok (.if_icmp .ge 21, 3) := by decide +kernel
theorem dX0_inEveryMajority_34 : decode cX0_inEveryMajority 34 = .ok (.aload_n 0, 1) := by decide +kernel
theorem dX0_inEveryMajority_35 : decode cX0_inEveryMajority 35 = .ok (.iload_n 2, 1) := by decide +kernel
theorem dX0_inEveryMajority_36 : decode cX0_inEveryMajority 36 = .ok (.invokevirtual 22, 3) := by decide +kernel
theorem dX0_inEveryMajority_39 : decode cX0_inEveryMajority 39 = .ok (.ifCond .eq 7, 3) := by decide +kernel
theorem dX0_inEveryMajority_42 : decode cX0_inEveryMajority 42 = .ok (.iload_n 1, 1) := by decide +kernel
theorem dX0_inEveryMajority_43 : decode cX0_inEveryMajority 43 = .ok (.iload_n 2, 1) := by decide +kernel
theorem dX0_inEveryMajority_44 : decode cX0_inEveryMajority 44 = .ok (.iand, 1) := by decide +kernel
theorem dX0_inEveryMajority_45 : decode cX0_inEveryMajority 45 = .ok (.istore_n 1, 1) := by decide +kernel
theorem dX0_inEveryMajority_46 : decode cX0_inEveryMajority 46 = .ok (.iinc 2 1, 3) := by decide +kernel
theorem dX0_inEveryMajority_49 : decode cX0_inEveryMajority 49 = .ok (.goto (-23), 3) := by decide +kernel
theorem dX0_inEveryMajority_52 : decode cX0_inEveryMajority 52 = .ok (.iload_n 1, 1) := by decide +kernel
theorem dX0_inEveryMajority_53 : decode cX0_inEveryMajority 53 = .ok (.ireturn, 1) := by decide +kernel
theorem dX0_leastMajority_0 : decode cX0_leastMajority 0 = .ok (.iconst (-1), 1) := by decide +kernel
theorem dX0_leastMajority_1 : decode cX0_leastMajority 1 = .ok (.istore_n 1, 1) := by decide +kernel
theorem dX0_leastMajority_2 : decode cX0_leastMajority 2 = .ok (.iconst 0, 1) := by decide +kernel
theorem dX0_leastMajority_3 : decode cX0_leastMajority 3 = .ok (.istore_n 2, 1) := by decide +kernel
theorem dX0_leastMajority_4 : decode cX0_leastMajority 4 = .ok (.iload_n 2, 1) := by decide +kernel
theorem dX0_leastMajority_5 : decode cX0_leastMajority 5 = .ok (.aload_n 0, 1) := by decide +kernel
theorem dX0_leastMajority_6 : decode cX0_leastMajority 6 = .ok (.getfield 15, 3) := by decide +kernel
theorem dX0_leastMajority_9 : decode cX0_leastMajority 9 = .ok (.if_icmp .ge 35, 3) := by decide +kernel
theorem dX0_leastMajority_12 : decode cX0_leastMajority 12 = .ok (.aload_n 0, 1) := by decide +kernel
theorem dX0_leastMajority_13 : decode cX0_leastMajority 13 = .ok (.iload_n 2, 1) := by decide +kernel
theorem dX0_leastMajority_14 : decode cX0_leastMajority 14 = .ok (.invokevirtual 22, 3) := by decide +kernel
theorem dX0_leastMajority_17 : decode cX0_leastMajority 17 = .ok (.ifCond .eq 21, 3) := by decide +kernel
theorem dX0_leastMajority_20 : decode cX0_leastMajority 20 = .ok (.iload_n 1, 1) := by decide +kernel
theorem dX0_leastMajority_21 : decode cX0_leastMajority 21 = .ok (.iconst (-1), 1) := by decide +kernel
theorem dX0_leastMajority_22 : decode cX0_leastMajority 22 = .ok (.if_icmp .eq 14, 3) := by decide +kernel
theorem dX0_leastMajority_25 : decode cX0_leastMajority 25 = .ok (.iload_n 2, 1) := by decide +kernel
theorem dX0_leastMajority_26 : decode cX0_leastMajority 26 = .ok (.invokestatic 26, 3) := by decide +kernel
theorem dX0_leastMajority_29 : decode cX0_leastMajority 29 = .ok (.iload_n 1, 1) := by decide +kernel
theorem dX0_leastMajority_30 : decode cX0_leastMajority 30 = .ok (.invokestatic 26, 3) := by decide +kernel
theorem dX0_leastMajority_33 : decode cX0_leastMajority 33 = .ok (.if_icmp .ge 5, 3) := by decide +kernel
theorem dX0_leastMajority_36 : decode cX0_leastMajority 36 = .ok (.iload_n 2, 1) := by decide +kernel
theorem dX0_leastMajority_37 : decode cX0_leastMajority 37 = .ok (.istore_n 1, 1) := by decide +kernel
theorem dX0_leastMajority_38 : decode cX0_leastMajority 38 = .ok (.iinc 2 1, 3) := by decide +kernel
theorem dX0_leastMajority_41 : decode cX0_leastMajority 41 = .ok (.goto (-37), 3) := by decide +kernel
theorem dX0_leastMajority_44 : decode cX0_leastMajority 44 = .ok (.iload_n 1, 1) := by decide +kernel
theorem dX0_leastMajority_45 : decode cX0_leastMajority 45 = .ok (.ireturn, 1) := by decide +kernel
theorem dX0_isMajority_0 : decode cX0_isMajority 0 = .ok (.iload_n 1, 1) := by decide +kernel
theorem dX0_isMajority_1 : decode cX0_isMajority 1 = .ok (.ifCond .lt 31, 3) := by decide +kernel
theorem dX0_isMajority_4 : decode cX0_isMajority 4 = .ok (.iload_n 1, 1) := by decide +kernel
theorem dX0_isMajority_5 : decode cX0_isMajority 5 = .ok (.aload_n 0, 1) := by decide +kernel
theorem dX0_isMajority_6 : decode cX0_isMajority 6 = .ok (.getfield 9, 3) := by decide +kernel
theorem dX0_isMajority_9 : decode cX0_isMajority 9 = .ok (.arraylength, 1) := by decide +kernel
theorem dX0_isMajority_10 : decode cX0_isMajority 10 = .ok (.if_icmp .ge 22, 3) := by decide +kernel
theorem dX0_isMajority_13 : decode cX0_isMajority 13 = .ok (.iconst 2, 1) := by decide +kernel
theorem dX0_isMajority_14 : decode cX0_isMajority 14 = .ok (.aload_n 0, 1) := by decide +kernel
theorem dX0_isMajority_15 : decode cX0_isMajority 15 = .ok (.getfield 9, 3) := by decide +kernel
theorem dX0_isMajority_18 : decode cX0_isMajority 18 = .ok (.iload_n 1, 1) := by decide +kernel
theorem dX0_isMajority_19 : decode cX0_isMajority 19 = .ok (.iaload, 1) := by decide +kernel
theorem dX0_isMajority_20 : decode cX0_isMajority 20 = .ok (.imul, 1) := by decide +kernel
theorem dX0_isMajority_21 : decode cX0_isMajority 21 = .ok (.aload_n 0, 1) := by decide +kernel
theorem dX0_isMajority_22 : decode cX0_isMajority 22 = .ok (.getfield 19, 3) := by decide +kernel
theorem dX0_isMajority_25 : decode cX0_isMajority 25 = .ok (.if_icmp .le 7, 3) := by decide +kernel
theorem dX0_isMajority_28 : decode cX0_isMajority 28 = .ok (.iconst 1, 1) := by decide +kernel
theorem dX0_isMajority_29 : decode cX0_isMajority 29 = .ok (.goto 4, 3) := by decide +kernel
theorem dX0_isMajority_32 : decode cX0_isMajority 32 = .ok (.iconst 0, 1) := by decide +kernel
theorem dX0_isMajority_33 : decode cX0_isMajority 33 = .ok (.ireturn, 1) := by decide +kernel
theorem dX1_init_0 : decode cX1_init 0 = .ok (.aload_n 0, 1) := by decide +kernel
theorem dX1_init_1 : decode cX1_init 1 = .ok (.invokespecial 3, 3) := by decide +kernel
theorem dX1_init_4 : decode cX1_init 4 = .ok (.aload_n 0, 1) := by decide +kernel
theorem dX1_init_5 : decode cX1_init 5 = .ok (.sipush 1000, 3) := by decide +kernel
theorem dX1_init_8 : decode cX1_init 8 = .ok (.newarray .int, 2) := by decide +kernel
theorem dX1_init_10 : decode cX1_init 10 = .ok (.putfield 9, 3) := by decide +kernel
theorem dX1_init_13 : decode cX1_init 13 = .ok (.aload_n 0, 1) := by decide +kernel
theorem dX1_init_14 : decode cX1_init 14 = .ok (.bipush 32, 2) := by decide +kernel
theorem dX1_init_16 : decode cX1_init 16 = .ok (.newarray .int, 2) := by decide +kernel
theorem dX1_init_18 : decode cX1_init 18 = .ok (.putfield 15, 3) := by decide +kernel
theorem dX1_init_21 : decode cX1_init 21 = .ok (.return_, 1) := by decide +kernel
theorem dX1_put_0 : decode cX1_put 0 = .ok (.aload_n 0, 1) := by decide +kernel
theorem dX1_put_1 : decode cX1_put 1 = .ok (.getfield 18, 3) := by decide +kernel
theorem dX1_put_4 : decode cX1_put 4 = .ok (.ifCond .lt 35, 3) := by decide +kernel
theorem dX1_put_7 : decode cX1_put 7 = .ok (.aload_n 0, 1) := by decide +kernel
theorem dX1_put_8 : decode cX1_put 8 = .ok (.getfield 18, 3) := by decide +kernel
theorem dX1_put_11 : decode cX1_put 11 = .ok (.aload_n 0, 1) := by decide +kernel
theorem dX1_put_12 : decode cX1_put 12 = .ok (.getfield 9, 3) := by decide +kernel
theorem dX1_put_15 : decode cX1_put 15 = .ok (.arraylength, 1) := by decide +kernel
theorem dX1_put_16 : decode cX1_put 16 = .ok (.if_icmp .ge 23, 3) := by decide +kernel
theorem dX1_put_19 : decode cX1_put 19 = .ok (.aload_n 0, 1) := by decide +kernel
theorem dX1_put_20 : decode cX1_put 20 = .ok (.getfield 9, 3) := by decide +kernel
theorem dX1_put_23 : decode cX1_put 23 = .ok (.aload_n 0, 1) := by decide +kernel
theorem dX1_put_24 : decode cX1_put 24 = .ok (.getfield 18, 3) := by decide +kernel
theorem dX1_put_27 : decode cX1_put 27 = .ok (.iload_n 1, 1) := by decide +kernel
theorem dX1_put_28 : decode cX1_put 28 = .ok (.iastore, 1) := by decide +kernel
theorem dX1_put_29 : decode cX1_put 29 = .ok (.aload_n 0, 1) := by decide +kernel
theorem dX1_put_30 : decode cX1_put 30 = .ok (.dup, 1) := by decide +kernel
theorem dX1_put_31 : decode cX1_put 31 = .ok (.getfield 18, 3) := by decide +kernel
theorem dX1_put_34 : decode cX1_put 34 = .ok (.iconst 1, 1) := by decide +kernel
theorem dX1_put_35 : decode cX1_put 35 = .ok (.iadd, 1) := by decide +kernel
theorem dX1_put_36 : decode cX1_put 36 = .ok (.putfield 18, 3) := by decide +kernel
theorem dX1_put_39 : decode cX1_put 39 = .ok (.return_, 1) := by decide +kernel
theorem dX1_value_0 : decode cX1_value 0 = .ok (.aload_n 0, 1) := by decide +kernel
theorem dX1_value_1 : decode cX1_value 1 = .ok (.getfield 18, 3) := by decide +kernel
theorem dX1_value_4 : decode cX1_value 4 = .ok (.ifCond .gt 5, 3) := by decide +kernel
theorem dX1_value_7 : decode cX1_value 7 = .ok (.iconst 1, 1) := by decide +kernel
theorem dX1_value_8 : decode cX1_value 8 = .ok (.ireturn, 1) := by decide +kernel
theorem dX1_value_9 : decode cX1_value 9 = .ok (.iconst 0, 1) := by decide +kernel
theorem dX1_value_10 : decode cX1_value 10 = .ok (.istore 5, 2) := by decide +kernel
theorem dX1_value_12 : decode cX1_value 12 = .ok (.iconst 0, 1) := by decide +kernel
theorem dX1_value_13 : decode cX1_value 13 = .ok (.istore 6, 2) := by decide +kernel
theorem dX1_value_15 : decode cX1_value 15 = .ok (.iload 6, 2) := by decide +kernel
theorem dX1_value_17 : decode cX1_value 17 = .ok (.aload_n 0, 1) := by decide +kernel
theorem dX1_value_18 : decode cX1_value 18 = .ok (.getfield 18, 3) := by decide +kernel
theorem dX1_value_21 : decode cX1_value 21 = .ok (.if_icmp .ge 159, 3) := by decide +kernel
theorem dX1_value_24 : decode cX1_value 24 = .ok (.aload_n 0, 1) := by decide +kernel
theorem dX1_value_25 : decode cX1_value 25 = .ok (.getfield 9, 3) := by decide +kernel
theorem dX1_value_28 : decode cX1_value 28 = .ok (.iload 6, 2) := by decide +kernel
theorem dX1_value_30 : decode cX1_value 30 = .ok (.iaload, 1) := by decide +kernel
theorem dX1_value_31 : decode cX1_value 31 = .ok (.istore 7, 2) := by decide +kernel
theorem dX1_value_33 : decode cX1_value 33 = .ok (.iload 7, 2) := by decide +kernel
theorem dX1_value_35 : decode cX1_value 35 = .ok (.bipush (-5), 2) := by decide +kernel
theorem dX1_value_37 : decode cX1_value 37 = .ok (.if_icmp .ge 45, 3) := by decide +kernel
theorem dX1_value_40 : decode cX1_value 40 = .ok (.iload 5, 2) := by decide +kernel
theorem dX1_value_42 : decode cX1_value 42 = .ok (.iconst 2, 1) := by decide +kernel
theorem dX1_value_43 : decode cX1_value 43 = .ok (.if_icmp .lt 39, 3) := by decide +kernel
theorem dX1_value_46 : decode cX1_value 46 = .ok (.iinc 5 (-1), 3) := by decide +kernel
theorem dX1_value_49 : decode cX1_value 49 = .ok (.aload_n 0, 1) := by decide +kernel
theorem dX1_value_50 : decode cX1_value 50 = .ok (.getfield 15, 3) := by decide +kernel
theorem dX1_value_53 : decode cX1_value 53 = .ok (.iload 5, 2) := by decide +kernel
theorem dX1_value_55 : decode cX1_value 55 = .ok (.iconst 1, 1) := by decide +kernel
theorem dX1_value_56 : decode cX1_value 56 = .ok (.isub, 1) := by decide +kernel
theorem dX1_value_57 : decode cX1_value 57 = .ok (.iload 7, 2) := by decide +kernel
theorem dX1_value_59 : decode cX1_value 59 = .ok (.aload_n 0, 1) := by decide +kernel
theorem dX1_value_60 : decode cX1_value 60 = .ok (.getfield 15, 3) := by decide +kernel
theorem dX1_value_63 : decode cX1_value 63 = .ok (.iload 5, 2) := by decide +kernel
theorem dX1_value_65 : decode cX1_value 65 = .ok (.iconst 1, 1) := by decide +kernel
theorem dX1_value_66 : decode cX1_value 66 = .ok (.isub, 1) := by decide +kernel
theorem dX1_value_67 : decode cX1_value 67 = .ok (.iaload, 1) := by decide +kernel
theorem dX1_value_68 : decode cX1_value 68 = .ok (.aload_n 0, 1) := by decide +kernel
theorem dX1_value_69 : decode cX1_value 69 = .ok (.getfield 15, 3) := by decide +kernel
theorem dX1_value_72 : decode cX1_value 72 = .ok (.iload 5, 2) := by decide +kernel
theorem dX1_value_74 : decode cX1_value 74 = .ok (.iaload, 1) := by decide +kernel
theorem dX1_value_75 : decode cX1_value 75 = .ok (.invokestatic 22, 3) := by decide +kernel
theorem dX1_value_78 : decode cX1_value 78 = .ok (.iastore, 1) := by decide +kernel
theorem dX1_value_79 : decode cX1_value 79 = .ok (.goto 95, 3) := by decide +kernel
theorem dX1_value_82 : decode cX1_value 82 = .ok (.iload 7, 2) := by decide +kernel
theorem dX1_value_84 : decode cX1_value 84 = .ok (.bipush (-5), 2) := by decide +kernel
theorem dX1_value_86 : decode cX1_value 86 = .ok (.if_icmp .ne 41, 3) := by decide +kernel
theorem dX1_value_89 : decode cX1_value 89 = .ok (.iload 5, 2) := by decide +kernel
theorem dX1_value_91 : decode cX1_value 91 = .ok (.iconst 1, 1) := by decide +kernel
theorem dX1_value_92 : decode cX1_value 92 = .ok (.if_icmp .lt 35, 3) := by decide +kernel
theorem dX1_value_95 : decode cX1_value 95 = .ok (.aload_n 0, 1) := by decide +kernel
theorem dX1_value_96 : decode cX1_value 96 = .ok (.getfield 15, 3) := by decide +kernel
theorem dX1_value_99 : decode cX1_value 99 = .ok (.iload 5, 2) := by decide +kernel
theorem dX1_value_101 : decode cX1_value 101 = .ok (.iconst 1, 1) := by decide +kernel
theorem dX1_value_102 : decode cX1_value 102 = .ok (.isub, 1) := by decide +kernel
theorem dX1_value_103 : decode cX1_value 103 = .ok (.aload_n 0, 1) := by decide +kernel
theorem dX1_value_104 : decode cX1_value 104 = .ok (.getfield 15, 3) := by decide +kernel
theorem dX1_value_107 : decode cX1_value 107 = .ok (.iload 5, 2) := by decide +kernel
theorem dX1_value_109 : decode cX1_value 109 = .ok (.iconst 1, 1) := by decide +kernel
theorem dX1_value_110 : decode cX1_value 110 = .ok (.isub, 1) := by decide +kernel
theorem dX1_value_111 : decode cX1_value 111 = .ok (.iaload, 1) := by decide +kernel
theorem dX1_value_112 : decode cX1_value 112 = .ok (.ifCond .ne 7, 3) := by decide +kernel
theorem dX1_value_115 : decode cX1_value 115 = .ok (.iconst 1, 1) := by decide +kernel
theorem dX1_value_116 : decode cX1_value 116 = .ok (.goto 4, 3) := by decide +kernel
theorem dX1_value_119 : decode cX1_value 119 = .ok (.iconst 0, 1) := by decide +kernel
theorem dX1_value_120 : decode cX1_value 120 = .ok (.invokestatic 26, 3) := by decide +kernel
theorem dX1_value_123 : decode cX1_value 123 = .ok (.iastore, 1) := by decide +kernel
theorem dX1_value_124 : decode cX1_value 124 = .ok (.goto 50, 3) := by decide +kernel
theorem dX1_value_127 : decode cX1_value 127 = .ok (.iload 7, 2) := by decide +kernel
theorem dX1_value_129 : decode cX1_value 129 = .ok (.bipush (-5), 2) := by decide +kernel
theorem dX1_value_131 : decode cX1_value 131 = .ok (.if_icmp .le 43, 3) := by decide +kernel
theorem dX1_value_134 : decode cX1_value 134 = .ok (.iload 5, 2) := by decide +kernel
theorem dX1_value_136 : decode cX1_value 136 = .ok (.aload_n 0, 1) := by decide +kernel
theorem dX1_value_137 : decode cX1_value 137 = .ok (.getfield 15, 3) := by decide +kernel
theorem dX1_value_140 : decode cX1_value 140 = .ok (.arraylength, 1) := by decide +kernel
theorem dX1_value_141 : decode cX1_value 141 = .ok (.if_icmp .ge 33, 3) := by decide +kernel
theorem dX1_value_144 : decode cX1_value 144 = .ok (.aload_n 0, 1) := by decide +kernel
theorem dX1_value_145 : decode cX1_value 145 = .ok (.getfield 15, 3) := by decide +kernel
theorem dX1_value_148 : decode cX1_value 148 = .ok (.iload 5, 2) := by decide +kernel
theorem dX1_value_150 : decode cX1_value 150 = .ok (.iload 7, 2) := by decide +kernel
theorem dX1_value_152 : decode cX1_value 152 = .ok (.ifCond .lt 8, 3) := by decide +kernel
theorem dX1_value_155 : decode cX1_value 155 = .ok (.iload 7, 2) := by decide +kernel
theorem dX1_value_157 : decode cX1_value 157 = .ok (.goto 13, 3) := by decide +kernel
theorem dX1_value_160 : decode cX1_value 160 = .ok (.iload 7, 2) := by decide +kernel
theorem dX1_value_162 : decode cX1_value 162 = .ok (.iload_n 1, 1) := by decide +kernel
theorem dX1_value_163 : decode cX1_value 163 = .ok (.iload_n 2, 1) := by decide +kernel
theorem dX1_value_164 : decode cX1_value 164 = .ok (.iload_n 3, 1) := by decide +kernel
theorem dX1_value_165 : decode cX1_value 165 = .ok (.iload 4, 2) := by decide +kernel
theorem dX1_value_167 : decode cX1_value 167 = .ok (.invokestatic 30, 3) := by decide +kernel
theorem dX1_value_170 : decode cX1_value 170 = .ok (.iastore, 1) := by decide +kernel
theorem dX1_value_171 : decode cX1_value 171 = .ok (.iinc 5 1, 3) := by decide +kernel
theorem dX1_value_174 : decode cX1_value 174 = .ok (.iinc 6 1, 3) := by decide +kernel
theorem dX1_value_177 : decode cX1_value 177 = .ok (.goto (-162), 3) := by decide +kernel
theorem dX1_value_180 : decode cX1_value 180 = .ok (.aload_n 0, 1) := by decide +kernel
theorem dX1_value_181 : decode cX1_value 181 = .ok (.getfield 15, 3) := by decide +kernel
theorem dX1_value_184 : decode cX1_value 184 = .ok (.iconst 0, 1) := by decide +kernel
theorem dX1_value_185 : decode cX1_value 185 = .ok (.iaload, 1) := by decide +kernel
theorem dX1_value_186 : decode cX1_value 186 = .ok (.ireturn, 1) := by decide +kernel
theorem dX1_fact_0 : decode cX1_fact 0 = .ok (.iload_n 0, 1) := by decide +kernel
theorem dX1_fact_1 : decode cX1_fact 1 = .ok (.tableswitch 33 (-3) (-1) #[31, 29, 27], 27) := by decide +kernel
theorem dX1_fact_28 : decode cX1_fact 28 = .ok (.iload_n 1, 1) := by decide +kernel
theorem dX1_fact_29 : decode cX1_fact 29 = .ok (.ireturn, 1) := by decide +kernel
theorem dX1_fact_30 : decode cX1_fact 30 = .ok (.iload_n 2, 1) := by decide +kernel
theorem dX1_fact_31 : decode cX1_fact 31 = .ok (.ireturn, 1) := by decide +kernel
theorem dX1_fact_32 : decode cX1_fact 32 = .ok (.iload_n 3, 1) := by decide +kernel
theorem dX1_fact_33 : decode cX1_fact 33 = .ok (.ireturn, 1) := by decide +kernel
theorem dX1_fact_34 : decode cX1_fact 34 = .ok (.iload 4, 2) := by decide +kernel
theorem dX1_fact_36 : decode cX1_fact 36 = .ok (.ireturn, 1) := by decide +kernel
theorem dX1_combine_0 : decode cX1_combine 0 = .ok (.iload_n 0, 1) := by decide +kernel
theorem dX1_combine_1 : decode cX1_combine 1 = .ok (.tableswitch 109 (-11) (-6) #[105, 101, 87, 73, 56, 39], 39) := by decide +kernel
theorem dX1_combine_40 : decode cX1_combine 40 = .ok (.iload_n 1, 1) := by decide +kernel
theorem dX1_combine_41 : decode cX1_combine 41 = .ok (.ifCond .eq 11, 3) := by decide +kernel
theorem dX1_combine_44 : decode cX1_combine 44 = .ok (.iload_n 2, 1) := by decide +kernel
theorem dX1_combine_45 : decode cX1_combine 45 = .ok (.ifCond .eq 7, 3) := by decide +kernel
theorem dX1_combine_48 : decode cX1_combine 48 = .ok (.iconst 1, 1) := by decide +kernel
theorem dX1_combine_49 : decode cX1_combine 49 = .ok (.goto 4, 3) := by decide +kernel
theorem dX1_combine_52 : decode cX1_combine 52 = .ok (.iconst 0, 1) := by decide +kernel
theorem dX1_combine_53 : decode cX1_combine 53 = .ok (.invokestatic 26, 3) := by decide +kernel
theorem dX1_combine_56 : decode cX1_combine 56 = .ok (.ireturn, 1) := by decide +kernel
theorem dX1_combine_57 : decode cX1_combine 57 = .ok (.iload_n 1, 1) := by decide +kernel
theorem dX1_combine_58 : decode cX1_combine 58 = .ok (.ifCond .ne 7, 3) := by decide +kernel
theorem dX1_combine_61 : decode cX1_combine 61 = .ok (.iload_n 2, 1) := by decide +kernel
theorem dX1_combine_62 : decode cX1_combine 62 = .ok (.ifCond .eq 7, 3) := by decide +kernel
theorem dX1_combine_65 : decode cX1_combine 65 = .ok (.iconst 1, 1) := by decide +kernel
theorem dX1_combine_66 : decode cX1_combine 66 = .ok (.goto 4, 3) := by decide +kernel
theorem dX1_combine_69 : decode cX1_combine 69 = .ok (.iconst 0, 1) := by decide +kernel
theorem dX1_combine_70 : decode cX1_combine 70 = .ok (.invokestatic 26, 3) := by decide +kernel
theorem dX1_combine_73 : decode cX1_combine 73 = .ok (.ireturn, 1) := by decide +kernel
theorem dX1_combine_74 : decode cX1_combine 74 = .ok (.iload_n 1, 1) := by decide +kernel
theorem dX1_combine_75 : decode cX1_combine 75 = .ok (.iload_n 2, 1) := by decide +kernel
theorem dX1_combine_76 : decode cX1_combine 76 = .ok (.if_icmp .ge 7, 3) := by decide +kernel
theorem dX1_combine_79 : decode cX1_combine 79 = .ok (.iconst 1, 1) := by decide +kernel
theorem dX1_combine_80 : decode cX1_combine 80 = .ok (.goto 4, 3) := by decide +kernel
theorem dX1_combine_83 : decode cX1_combine 83 = .ok (.iconst 0, 1) := by decide +kernel
theorem dX1_combine_84 : decode cX1_combine 84 = .ok (.invokestatic 26, 3) := by decide +kernel
theorem dX1_combine_87 : decode cX1_combine 87 = .ok (.ireturn, 1) := by decide +kernel
theorem dX1_combine_88 : decode cX1_combine 88 = .ok (.iload_n 1, 1) := by decide +kernel
theorem dX1_combine_89 : decode cX1_combine 89 = .ok (.iload_n 2, 1) := by decide +kernel
theorem dX1_combine_90 : decode cX1_combine 90 = .ok (.if_icmp .ne 7, 3) := by decide +kernel
theorem dX1_combine_93 : decode cX1_combine 93 = .ok (.iconst 1, 1) := by decide +kernel
theorem dX1_combine_94 : decode cX1_combine 94 = .ok (.goto 4, 3) := by decide +kernel
theorem dX1_combine_97 : decode cX1_combine 97 = .ok (.iconst 0, 1) := by decide +kernel
theorem dX1_combine_98 : decode cX1_combine 98 = .ok (.invokestatic 26, 3) := by decide +kernel
theorem dX1_combine_101 : decode cX1_combine 101 = .ok (.ireturn, 1) := by decide +kernel
theorem dX1_combine_102 : decode cX1_combine 102 = .ok (.iload_n 1, 1) := by decide +kernel
theorem dX1_combine_103 : decode cX1_combine 103 = .ok (.iload_n 2, 1) := by decide +kernel
theorem dX1_combine_104 : decode cX1_combine 104 = .ok (.iadd, 1) := by decide +kernel
theorem dX1_combine_105 : decode cX1_combine 105 = .ok (.ireturn, 1) := by decide +kernel
theorem dX1_combine_106 : decode cX1_combine 106 = .ok (.iload_n 1, 1) := by decide +kernel
theorem dX1_combine_107 : decode cX1_combine 107 = .ok (.iload_n 2, 1) := by decide +kernel
theorem dX1_combine_108 : decode cX1_combine 108 = .ok (.isub, 1) := by decide +kernel
theorem dX1_combine_109 : decode cX1_combine 109 = .ok (.ireturn, 1) := by decide +kernel
theorem dX1_combine_110 : decode cX1_combine 110 = .ok (.iload_n 1, 1) := by decide +kernel
theorem dX1_combine_111 : decode cX1_combine 111 = .ok (.iload_n 2, 1) := by decide +kernel
theorem dX1_combine_112 : decode cX1_combine 112 = .ok (.imul, 1) := by decide +kernel
theorem dX1_combine_113 : decode cX1_combine 113 = .ok (.ireturn, 1) := by decide +kernel
theorem dX1_truth_0 : decode cX1_truth 0 = .ok (.iload_n 0, 1) := by decide +kernel
theorem dX1_truth_1 : decode cX1_truth 1 = .ok (.ifCond .eq 7, 3) := by decide +kernel
theorem dX1_truth_4 : decode cX1_truth 4 = .ok (.iconst 1, 1) := by decide +kernel
theorem dX1_truth_5 : decode cX1_truth 5 = .ok (.goto 4, 3) := by decide +kernel
theorem dX1_truth_8 : decode cX1_truth 8 = .ok (.iconst 0, 1) := by decide +kernel
theorem dX1_truth_9 : decode cX1_truth 9 = .ok (.ireturn, 1) := by decide +kernel
theorem dX10_withLetter_0 : decode cX10_withLetter 0 = .ok (.lload_n 0, 1) := by decide +kernel
theorem dX10_withLetter_1 : decode cX10_withLetter 1 = .ok (.ldc2_w 117, 3) := by decide +kernel
theorem dX10_withLetter_4 : decode cX10_withLetter 4 = .ok (.lmul, 1) := by decide +kernel
theorem dX10_withLetter_5 : decode cX10_withLetter 5 = .ok (.iload_n 2, 1) := by decide +kernel
theorem dX10_withLetter_6 : decode cX10_withLetter 6 = .ok (.bipush 97, 2) := by decide +kernel
theorem dX10_withLetter_8 : decode cX10_withLetter 8 = .ok (.isub, 1) := by decide +kernel
theorem dX10_withLetter_9 : decode cX10_withLetter 9 = .ok (.iconst 1, 1) := by decide +kernel
theorem dX10_withLetter_10 : decode cX10_withLetter 10 = .ok (.iadd, 1) := by decide +kernel
theorem dX10_withLetter_11 : decode cX10_withLetter 11 = .ok (.i2l, 1) := by decide +kernel
theorem dX10_withLetter_12 : decode cX10_withLetter 12 = .ok (.ladd, 1) := by decide +kernel
theorem dX10_withLetter_13 : decode cX10_withLetter 13 = .ok (.lreturn, 1) := by decide +kernel
theorem dX10_isReserved_0 : decode cX10_isReserved 0 = .ok (.iconst 0, 1) := by decide +kernel
theorem dX10_isReserved_1 : decode cX10_isReserved 1 = .ok (.istore_n 2, 1) := by decide +kernel
theorem dX10_isReserved_2 : decode cX10_isReserved 2 = .ok (.iload_n 2, 1) := by decide +kernel
theorem dX10_isReserved_3 : decode cX10_isReserved 3 = .ok (.getstatic 119, 3) := by decide +kernel
theorem dX10_isReserved_6 : decode cX10_isReserved 6 = .ok (.arraylength, 1) := by decide +kernel
theorem dX10_isReserved_7 : decode cX10_isReserved 7 = .ok (.if_icmp .ge 31, 3) := by decide +kernel
theorem dX10_isReserved_10 : decode cX10_isReserved 10 = .ok (.getstatic 119, 3) := by decide +kernel
theorem dX10_isReserved_13 : decode cX10_isReserved 13 = .ok (.iload_n 2, 1) := by decide +kernel
theorem dX10_isReserved_14 : decode cX10_isReserved 14 = .ok (.aaload, 1) := by decide +kernel
theorem dX10_isReserved_15 : decode cX10_isReserved 15 = .ok (.getfield 109, 3) := by decide +kernel
theorem dX10_isReserved_18 : decode cX10_isReserved 18 = .ok (.lload_n 0, 1) := by decide +kernel
theorem dX10_isReserved_19 : decode cX10_isReserved 19 = .ok (.lcmp, 1) := by decide +kernel
theorem dX10_isReserved_20 : decode cX10_isReserved 20 = .ok (.ifCond .ne 12, 3) := by decide +kernel
theorem dX10_isReserved_23 : decode cX10_isReserved 23 = .ok (.getstatic 119, 3) := by decide +kernel
theorem dX10_isReserved_26 : decode cX10_isReserved 26 = .ok (.iload_n 2, 1) := by decide +kernel
theorem dX10_isReserved_27 : decode cX10_isReserved 27 = .ok (.aaload, 1) := by decide +kernel
theorem dX10_isReserved_28 : decode cX10_isReserved 28 = .ok (.getfield 113, 3) := by decide +kernel
theorem dX10_isReserved_31 : decode cX10_isReserved 31 = .ok (.ireturn, 1) := by decide +kernel
theorem dX10_isReserved_32 : decode cX10_isReserved 32 = .ok (.iinc 2 1, 3) := by decide +kernel
theorem dX10_isReserved_35 : decode cX10_isReserved 35 = .ok (.goto (-33), 3) := by decide +kernel
theorem dX10_isReserved_38 : decode cX10_isReserved 38 = .ok (.iconst 0, 1) := by decide +kernel
theorem dX10_isReserved_39 : decode cX10_isReserved 39 = .ok (.ireturn, 1) := by decide +kernel
theorem dX11_init_0 : decode cX11_init 0 = .ok (.aload_n 0, 1) := by decide +kernel
theorem dX11_init_1 : decode cX11_init 1 = .ok (.invokespecial 1, 3) := by decide +kernel
theorem dX11_init_4 : decode cX11_init 4 = .ok (.aload_n 0, 1) := by decide +kernel
theorem dX11_init_5 : decode cX11_init 5 = .ok (.new 7, 3) := by decide +kernel
theorem dX11_init_8 : decode cX11_init 8 = .ok (.dup, 1) := by decide +kernel
theorem dX11_init_9 : decode cX11_init 9 = .ok (.invokespecial 9, 3) := by decide +kernel
theorem dX11_init_12 : decode cX11_init 12 = .ok (.putfield 10, 3) := by decide +kernel
theorem dX11_init_15 : decode cX11_init 15 = .ok (.aload_n 0, 1) := by decide +kernel
theorem dX11_init_16 : decode cX11_init 16 = .ok (.new 16, 3) := by decide +kernel
theorem dX11_init_19 : decode cX11_init 19 = .ok (.dup, 1) := by decide +kernel
theorem dX11_init_20 : decode cX11_init 20 = .ok (.aload_n 0, 1) := by decide +kernel
theorem dX11_init_21 : decode cX11_init 21 = .ok (.getfield 10, 3) := by decide +kernel
theorem dX11_init_24 : decode cX11_init 24 = .ok (.invokespecial 18, 3) := by decide +kernel
theorem dX11_init_27 : decode cX11_init 27 = .ok (.putfield 21, 3) := by decide +kernel
theorem dX11_init_30 : decode cX11_init 30 = .ok (.aload_n 0, 1) := by decide +kernel
theorem dX11_init_31 : decode cX11_init 31 = .ok (.new 25, 3) := by decide +kernel
theorem dX11_init_34 : decode cX11_init 34 = .ok (.dup, 1) := by decide +kernel
theorem dX11_init_35 : decode cX11_init 35 = .ok (.invokespecial 27, 3) := by decide +kernel
theorem dX11_init_38 : decode cX11_init 38 = .ok (.putfield 28, 3) := by decide +kernel
theorem dX11_init_41 : decode cX11_init 41 = .ok (.aload_n 0, 1) := by decide +kernel
theorem dX11_init_42 : decode cX11_init 42 = .ok (.new 25, 3) := by decide +kernel
theorem dX11_init_45 : decode cX11_init 45 = .ok (.dup, 1) := by decide +kernel
theorem dX11_init_46 : decode cX11_init 46 = .ok (.invokespecial 27, 3) := by decide +kernel
theorem dX11_init_49 : decode cX11_init 49 = .ok (.putfield 32, 3) := by decide +kernel
theorem dX11_init_52 : decode cX11_init 52 = .ok (.aload_n 0, 1) := by decide +kernel
theorem dX11_init_53 : decode cX11_init 53 = .ok (.new 35, 3) := by decide +kernel
theorem dX11_init_56 : decode cX11_init 56 = .ok (.dup, 1) := by decide +kernel
theorem dX11_init_57 : decode cX11_init 57 = .ok (.invokespecial 37, 3) := by decide +kernel
theorem dX11_init_60 : decode cX11_init 60 = .ok (.putfield 38, 3) := by decide +kernel
theorem dX11_init_63 : decode cX11_init 63 = .ok (.aload_n 0, 1) := by decide +kernel
theorem dX11_init_64 : decode cX11_init 64 = .ok (.new 35, 3) := by decide +kernel
theorem dX11_init_67 : decode cX11_init 67 = .ok (.dup, 1) := by decide +kernel
theorem dX11_init_68 : decode cX11_init 68 = .ok (.invokespecial 37, 3) := by decide +kernel
theorem dX11_init_71 : decode cX11_init 71 = .ok (.putfield 42, 3) := by decide +kernel
theorem dX11_init_74 : decode cX11_init 74 = .ok (.aload_n 0, 1) := by decide +kernel
theorem dX11_init_75 : decode cX11_init 75 = .ok (.new 45, 3) := by decide +kernel
theorem dX11_init_78 : decode cX11_init 78 = .ok (.dup, 1) := by decide +kernel
theorem dX11_init_79 : decode cX11_init 79 = .ok (.invokespecial 47, 3) := by decide +kernel
theorem dX11_init_82 : decode cX11_init 82 = .ok (.putfield 48, 3) := by decide +kernel
theorem dX11_init_85 : decode cX11_init 85 = .ok (.aload_n 0, 1) := by decide +kernel
theorem dX11_init_86 : decode cX11_init 86 = .ok (.new 45, 3) := by decide +kernel
theorem dX11_init_89 : decode cX11_init 89 = .ok (.dup, 1) := by decide +kernel
theorem dX11_init_90 : decode cX11_init 90 = .ok (.invokespecial 47, 3) := by decide +kernel
theorem dX11_init_93 : decode cX11_init 93 = .ok (.putfield 52, 3) := by decide +kernel
theorem dX11_init_96 : decode cX11_init 96 = .ok (.aload_n 0, 1) := by decide +kernel
theorem dX11_init_97 : decode cX11_init 97 = .ok (.new 55, 3) := by decide +kernel
theorem dX11_init_100 : decode cX11_init 100 = .ok (.dup, 1) := by decide +kernel
theorem dX11_init_101 : decode cX11_init 101 = .ok (.invokespecial 57, 3) := by decide +kernel
theorem dX11_init_104 : decode cX11_init 104 = .ok (.putfield 58, 3) := by decide +kernel
theorem dX11_init_107 : decode cX11_init 107 = .ok (.aload_n 0, 1) := by decide +kernel
theorem dX11_init_108 : decode cX11_init 108 = .ok (.new 62, 3) := by decide +kernel
theorem dX11_init_111 : decode cX11_init 111 = .ok (.dup, 1) := by decide +kernel
theorem dX11_init_112 : decode cX11_init 112 = .ok (.invokespecial 64, 3) := by decide +kernel
theorem dX11_init_115 : decode cX11_init 115 = .ok (.putfield 65, 3) := by decide +kernel
theorem dX11_init_118 : decode cX11_init 118 = .ok (.aload_n 0, 1) := by decide +kernel
theorem dX11_init_119 : decode cX11_init 119 = .ok (.bipush 16, 2) := by decide +kernel
theorem dX11_init_121 : decode cX11_init 121 = .ok (.anewarray 45, 3) := by decide +kernel
theorem dX11_init_124 : decode cX11_init 124 = .ok (.putfield 69, 3) := by decide +kernel
theorem dX11_init_127 : decode cX11_init 127 = .ok (.iconst 0, 1) := by decide +kernel
theorem dX11_init_128 : decode cX11_init 128 = .ok (.istore_n 1, 1) := by decide +kernel
theorem dX11_init_129 : decode cX11_init 129 = .ok (.iload_n 1, 1) := by decide +kernel
theorem dX11_init_130 : decode cX11_init 130 = .ok (.aload_n 0, 1) := by decide +kernel
theorem dX11_init_131 : decode cX11_init 131 = .ok (.getfield 69, 3) := by decide +kernel
theorem dX11_init_134 : decode cX11_init 134 = .ok (.arraylength, 1) := by decide +kernel
theorem dX11_init_135 : decode cX11_init 135 = .ok (.if_icmp .ge 22, 3) := by decide +kernel
theorem dX11_init_138 : decode cX11_init 138 = .ok (.aload_n 0, 1) := by decide +kernel
theorem dX11_init_139 : decode cX11_init 139 = .ok (.getfield 69, 3) := by decide +kernel
theorem dX11_init_142 : decode cX11_init 142 = .ok (.iload_n 1, 1) := by decide +kernel
theorem dX11_init_143 : decode cX11_init 143 = .ok (.new 45, 3) := by decide +kernel
theorem dX11_init_146 : decode cX11_init 146 = .ok (.dup, 1) := by decide +kernel
theorem dX11_init_147 : decode cX11_init 147 = .ok (.invokespecial 47, 3) := by decide +kernel
theorem dX11_init_150 : decode cX11_init 150 = .ok (.aastore, 1) := by decide +kernel
theorem dX11_init_151 : decode cX11_init 151 = .ok (.iinc 1 1, 3) := by decide +kernel
theorem dX11_init_154 : decode cX11_init 154 = .ok (.goto (-25), 3) := by decide +kernel
theorem dX11_init_157 : decode cX11_init 157 = .ok (.aload_n 0, 1) := by decide +kernel
theorem dX11_init_158 : decode cX11_init 158 = .ok (.iconst 4, 1) := by decide +kernel
theorem dX11_init_159 : decode cX11_init 159 = .ok (.anewarray 73, 3) := by decide +kernel
theorem dX11_init_162 : decode cX11_init 162 = .ok (.putfield 75, 3) := by decide +kernel
theorem dX11_init_165 : decode cX11_init 165 = .ok (.iconst 0, 1) := by decide +kernel
theorem dX11_init_166 : decode cX11_init 166 = .ok (.istore_n 1, 1) := by decide +kernel
theorem dX11_init_167 : decode cX11_init 167 = .ok (.iload_n 1, 1) := by decide +kernel
theorem dX11_init_168 : decode cX11_init 168 = .ok (.aload_n 0, 1) := by decide +kernel
theorem dX11_init_169 : decode cX11_init 169 = .ok (.getfield 75, 3) := by decide +kernel
theorem dX11_init_172 : decode cX11_init 172 = .ok (.arraylength, 1) := by decide +kernel
theorem dX11_init_173 : decode cX11_init 173 = .ok (.if_icmp .ge 22, 3) := by decide +kernel
theorem dX11_init_176 : decode cX11_init 176 = .ok (.aload_n 0, 1) := by decide +kernel
theorem dX11_init_177 : decode cX11_init 177 = .ok (.getfield 75, 3) := by decide +kernel
theorem dX11_init_180 : decode cX11_init 180 = .ok (.iload_n 1, 1) := by decide +kernel
theorem dX11_init_181 : decode cX11_init 181 = .ok (.new 73, 3) := by decide +kernel
theorem dX11_init_184 : decode cX11_init 184 = .ok (.dup, 1) := by decide +kernel
theorem dX11_init_185 : decode cX11_init 185 = .ok (.invokespecial 79, 3) := by decide +kernel
theorem dX11_init_188 : decode cX11_init 188 = .ok (.aastore, 1) := by decide +kernel
theorem dX11_init_189 : decode cX11_init 189 = .ok (.iinc 1 1, 3) := by decide +kernel
theorem dX11_init_192 : decode cX11_init 192 = .ok (.goto (-25), 3) := by decide +kernel
theorem dX11_init_195 : decode cX11_init 195 = .ok (.return_, 1) := by decide +kernel
theorem dX11_feed_0 : decode cX11_feed 0 = .ok (.aload_n 0, 1) := by decide +kernel
theorem dX11_feed_1 : decode cX11_feed 1 = .ok (.getfield 10, 3) := by decide +kernel
theorem dX11_feed_4 : decode cX11_feed 4 = .ok (.lload_n 1, 1) := by decide +kernel
theorem dX11_feed_5 : decode cX11_feed 5 = .ok (.invokevirtual 80, 3) := by decide +kernel
theorem dX11_feed_8 : decode cX11_feed 8 = .ok (.aload_n 0, 1) := by decide +kernel
theorem dX11_feed_9 : decode cX11_feed 9 = .ok (.getfield 10, 3) := by decide +kernel
theorem dX11_feed_12 : decode cX11_feed 12 = .ok (.lload_n 3, 1) := by decide +kernel
theorem dX11_feed_13 : decode cX11_feed 13 = .ok (.invokevirtual 80, 3) := by decide +kernel
theorem dX11_feed_16 : decode cX11_feed 16 = .ok (.aload_n 0, 1) := by decide +kernel
theorem dX11_feed_17 : decode cX11_feed 17 = .ok (.getfield 10, 3) := by decide +kernel
theorem dX11_feed_20 : decode cX11_feed 20 = .ok (.lload 5, 2) := by decide +kernel
theorem dX11_feed_22 : decode cX11_feed 22 = .ok (.invokevirtual 80, 3) := by decide +kernel
theorem dX11_feed_25 : decode cX11_feed 25 = .ok (.aload_n 0, 1) := by decide +kernel
theorem dX11_feed_26 : decode cX11_feed 26 = .ok (.getfield 10, 3) := by decide +kernel
theorem dX11_feed_29 : decode cX11_feed 29 = .ok (.getfield 84, 3) := by decide +kernel
theorem dX11_feed_32 : decode cX11_feed 32 = .ok (.ireturn, 1) := by decide +kernel
theorem dX11_republic_0 : decode cX11_republic 0 = .ok (.aload_n 0, 1) := by decide +kernel
theorem dX11_republic_1 : decode cX11_republic 1 = .ok (.getfield 21, 3) := by decide +kernel
theorem dX11_republic_4 : decode cX11_republic 4 = .ok (.aload_n 0, 1) := by decide +kernel
theorem dX11_republic_5 : decode cX11_republic 5 = .ok (.getfield 32, 3) := by decide +kernel
theorem dX11_republic_8 : decode cX11_republic 8 = .ok (.invokevirtual 88, 3) := by decide +kernel
theorem dX11_republic_11 : decode cX11_republic 11 = .ok (.istore_n 1, 1) := by decide +kernel
theorem dX11_republic_12 : decode cX11_republic 12 = .ok (.iload_n 1, 1) := by decide +kernel
theorem dX11_republic_13 : decode cX11_republic 13 = .ok (.ifCond .ne 7, 3) := by decide +kernel
theorem dX11_republic_16 : decode cX11_republic 16 = .ok (.aload_n 0, 1) := by decide +kernel
theorem dX11_republic_17 : decode cX11_republic 17 = .ok (.invokevirtual 92, 3) := by decide +kernel
theorem dX11_republic_20 : decode cX11_republic 20 = .ok (.iload_n 1, 1) := by decide +kernel
theorem dX11_republic_21 : decode cX11_republic 21 = .ok (.ireturn, 1) := by decide +kernel
theorem dX11_term_0 : decode cX11_term 0 = .ok (.aload_n 0, 1) := by decide +kernel
theorem dX11_term_1 : decode cX11_term 1 = .ok (.getfield 21, 3) := by decide +kernel
theorem dX11_term_4 : decode cX11_term 4 = .ok (.aload_n 0, 1) := by decide +kernel
theorem dX11_term_5 : decode cX11_term 5 = .ok (.getfield 28, 3) := by decide +kernel
theorem dX11_term_8 : decode cX11_term 8 = .ok (.aload_n 0, 1) := by decide +kernel
theorem dX11_term_9 : decode cX11_term 9 = .ok (.getfield 42, 3) := by decide +kernel
theorem dX11_term_12 : decode cX11_term 12 = .ok (.invokevirtual 95, 3) := by decide +kernel
theorem dX11_term_15 : decode cX11_term 15 = .ok (.istore_n 1, 1) := by decide +kernel
theorem dX11_term_16 : decode cX11_term 16 = .ok (.iload_n 1, 1) := by decide +kernel
theorem dX11_term_17 : decode cX11_term 17 = .ok (.ifCond .ne 21, 3) := by decide +kernel
theorem dX11_term_20 : decode cX11_term 20 = .ok (.aload_n 0, 1) := by decide +kernel
theorem dX11_term_21 : decode cX11_term 21 = .ok (.getfield 38, 3) := by decide +kernel
theorem dX11_term_24 : decode cX11_term 24 = .ok (.astore_n 2, 1) := by decide +kernel
theorem dX11_term_25 : decode cX11_term 25 = .ok (.aload_n 0, 1) := by decide +kernel
theorem dX11_term_26 : decode cX11_term 26 = .ok (.aload_n 0, 1) := by decide +kernel
theorem dX11_term_27 : decode cX11_term 27 = .ok (.getfield 42, 3) := by decide +kernel
theorem dX11_term_30 : decode cX11_term 30 = .ok (.putfield 38, 3) := by decide +kernel
theorem dX11_term_33 : decode cX11_term 33 = .ok (.aload_n 0, 1) := by decide +kernel
theorem dX11_term_34 : decode cX11_term 34 = .ok (.aload_n 2, 1) := by decide +kernel
theorem dX11_term_35 : decode cX11_term 35 = .ok (.putfield 42, 3) := by decide +kernel
theorem dX11_term_38 : decode cX11_term 38 = .ok (.iload_n 1, 1) := by decide +kernel
theorem dX11_term_39 : decode cX11_term 39 = .ok (.ireturn, 1) := by decide +kernel
theorem dX11_ware_0 : decode cX11_ware 0 = .ok (.aload_n 0, 1) := by decide +kernel
theorem dX11_ware_1 : decode cX11_ware 1 = .ok (.getfield 28, 3) := by decide +kernel
theorem dX11_ware_4 : decode cX11_ware 4 = .ok (.iload_n 1, 1) := by decide +kernel
theorem dX11_ware_5 : decode cX11_ware 5 = .ok (.invokevirtual 99, 3) := by decide +kernel
theorem dX11_ware_8 : decode cX11_ware 8 = .ok (.ifCond .ne 5, 3) := by decide +kernel
theorem dX11_ware_11 : decode cX11_ware 11 = .ok (.iconst (-1), 1) := by decide +kernel
theorem dX11_ware_12 : decode cX11_ware 12 = .ok (.ireturn, 1) := by decide +kernel
theorem dX11_ware_13 : decode cX11_ware 13 = .ok (.iload_n 2, 1) := by decide +kernel
theorem dX11_ware_14 : decode cX11_ware 14 = .ok (.tableswitch 113 0 5 #[38, 48, 58, 68, 77, 90], 38) := by decide +kernel
theorem dX11_ware_52 : decode cX11_ware 52 = .ok (.aload_n 0, 1) := by decide +kernel
theorem dX11_ware_53 : decode cX11_ware 53 = .ok (.getfield 28, 3) := by decide +kernel
theorem dX11_ware_56 : decode cX11_ware 56 = .ok (.getfield 103, 3) := by decide +kernel
theorem dX11_ware_59 : decode cX11_ware 59 = .ok (.iload_n 1, 1) := by decide +kernel
theorem dX11_ware_60 : decode cX11_ware 60 = .ok (.iaload, 1) := by decide +kernel
theorem dX11_ware_61 : decode cX11_ware 61 = .ok (.ireturn, 1) := by decide +kernel
theorem dX11_ware_62 : decode cX11_ware 62 = .ok (.aload_n 0, 1) := by decide +kernel
theorem dX11_ware_63 : decode cX11_ware 63 = .ok (.getfield 28, 3) := by decide +kernel
theorem dX11_ware_66 : decode cX11_ware 66 = .ok (.getfield 107, 3) := by decide +kernel
theorem dX11_ware_69 : decode cX11_ware 69 = .ok (.iload_n 1, 1) := by decide +kernel
theorem dX11_ware_70 : decode cX11_ware 70 = .ok (.iaload, 1) := by decide +kernel
theorem dX11_ware_71 : decode cX11_ware 71 = .ok (.ireturn, 1) := by decide +kernel
theorem dX11_ware_72 : decode cX11_ware 72 = .ok (.aload_n 0, 1) := by decide +kernel
theorem dX11_ware_73 : decode cX11_ware 73 = .ok (.getfield 48, 3) := by decide +kernel
theorem dX11_ware_76 : decode cX11_ware 76 = .ok (.getfield 110, 3) := by decide +kernel
theorem dX11_ware_79 : decode cX11_ware 79 = .ok (.iload_n 1, 1) := by decide +kernel
theorem dX11_ware_80 : decode cX11_ware 80 = .ok (.iaload, 1) := by decide +kernel
theorem dX11_ware_81 : decode cX11_ware 81 = .ok (.ireturn, 1) := by decide +kernel
theorem dX11_ware_82 : decode cX11_ware 82 = .ok (.aload_n 0, 1) := by decide +kernel
theorem dX11_ware_83 : decode cX11_ware 83 = .ok (.getfield 28, 3) := by decide +kernel
theorem dX11_ware_86 : decode cX11_ware 86 = .ok (.iload_n 1, 1) := by decide +kernel
theorem dX11_ware_87 : decode cX11_ware 87 = .ok (.invokevirtual 113, 3) := by decide +kernel
theorem dX11_ware_90 : decode cX11_ware 90 = .ok (.ireturn, 1) := by decide +kernel
theorem dX11_ware_91 : decode cX11_ware 91 = .ok (.aload_n 0, 1) := by decide +kernel
theorem dX11_ware_92 : decode cX11_ware 92 = .ok (.getfield 48, 3) := by decide +kernel
theorem dX11_ware_95 : decode cX11_ware 95 = .ok (.aload_n 0, 1) := by decide +kernel
theorem dX11_ware_96 : decode cX11_ware 96 = .ok (.getfield 28, 3) := by decide +kernel
theorem dX11_ware_99 : decode cX11_ware 99 = .ok (.iload_n 1, 1) := by decide +kernel
theorem dX11_ware_100 : decode cX11_ware 100 = .ok (.invokevirtual 117, 3) := by decide +kernel
theorem dX11_ware_103 : decode cX11_ware 103 = .ok (.ireturn, 1) := by decide +kernel
theorem dX11_ware_104 : decode cX11_ware 104 = .ok (.aload_n 0, 1) := by decide +kernel
theorem dX11_ware_105 : decode cX11_ware 105 = .ok (.getfield 48, 3) := by decide +kernel
theorem dX11_ware_108 : decode cX11_ware 108 = .ok (.aload_n 0, 1) := by decide +kernel
theorem dX11_ware_109 : decode cX11_ware 109 = .ok (.getfield 28, 3) := by decide +kernel
theorem dX11_ware_112 : decode cX11_ware 112 = .ok (.iload_n 1, 1) := by decide +kernel
theorem dX11_ware_113 : decode cX11_ware 113 = .ok (.invokevirtual 117, 3) := by decide +kernel
theorem dX11_ware_116 : decode cX11_ware 116 = .ok (.aload_n 0, 1) := by decide +kernel
theorem dX11_ware_117 : decode cX11_ware 117 = .ok (.getfield 48, 3) := by decide +kernel
theorem dX11_ware_120 : decode cX11_ware 120 = .ok (.invokevirtual 121, 3) := by decide +kernel
theorem dX11_ware_123 : decode cX11_ware 123 = .ok (.invokestatic 125, 3) := by decide +kernel
theorem dX11_ware_126 : decode cX11_ware 126 = .ok (.ireturn, 1) := by decide +kernel
theorem dX11_ware_127 : decode cX11_ware 127 = .ok (.iconst (-1), 1) := by decide +kernel
theorem dX11_ware_128 : decode cX11_ware 128 = .ok (.ireturn, 1) := by decide +kernel
theorem dX11_party_0 : decode cX11_party 0 = .ok (.aload_n 0, 1) := by decide +kernel
theorem dX11_party_1 : decode cX11_party 1 = .ok (.getfield 28, 3) := by decide +kernel
theorem dX11_party_4 : decode cX11_party 4 = .ok (.iload_n 1, 1) := by decide +kernel
theorem dX11_party_5 : decode cX11_party 5 = .ok (.invokevirtual 129, 3) := by decide +kernel
theorem dX11_party_8 : decode cX11_party 8 = .ok (.ifCond .ne 5, 3) := by decide +kernel
theorem dX11_party_11 : decode cX11_party 11 = .ok (.iconst (-1), 1) := by decide +kernel
theorem dX11_party_12 : decode cX11_party 12 = .ok (.ireturn, 1) := by decide +kernel
theorem dX11_party_13 : decode cX11_party 13 = .ok (.iload_n 2, 1) := by decide +kernel
theorem dX11_party_14 : decode cX11_party 14 = .ok (.lookupswitch 46 #[(0, 26), (1, 36)], 26) := by decide +kernel
theorem dX11_party_40 : decode cX11_party 40 = .ok (.aload_n 0, 1) := by decide +kernel
theorem dX11_party_41 : decode cX11_party 41 = .ok (.getfield 48, 3) := by decide +kernel
theorem dX11_party_44 : decode cX11_party 44 = .ok (.getfield 132, 3) := by decide +kernel
theorem dX11_party_47 : decode cX11_party 47 = .ok (.iload_n 1, 1) := by decide +kernel
theorem dX11_party_48 : decode cX11_party 48 = .ok (.iaload, 1) := by decide +kernel
theorem dX11_party_49 : decode cX11_party 49 = .ok (.ireturn, 1) := by decide +kernel
theorem dX11_party_50 : decode cX11_party 50 = .ok (.aload_n 0, 1) := by decide +kernel
theorem dX11_party_51 : decode cX11_party 51 = .ok (.getfield 28, 3) := by decide +kernel
theorem dX11_party_54 : decode cX11_party 54 = .ok (.getfield 135, 3) := by decide +kernel
theorem dX11_party_57 : decode cX11_party 57 = .ok (.iload_n 1, 1) := by decide +kernel
theorem dX11_party_58 : decode cX11_party 58 = .ok (.iaload, 1) := by decide +kernel
theorem dX11_party_59 : decode cX11_party 59 = .ok (.ireturn, 1) := by decide +kernel
theorem dX11_party_60 : decode cX11_party 60 = .ok (.iconst (-1), 1) := by decide +kernel
theorem dX11_party_61 : decode cX11_party 61 = .ok (.ireturn, 1) := by decide +kernel
theorem dX11_work_0 : decode cX11_work 0 = .ok (.aload_n 0, 1) := by decide +kernel
theorem dX11_work_1 : decode cX11_work 1 = .ok (.getfield 28, 3) := by decide +kernel
theorem dX11_work_4 : decode cX11_work 4 = .ok (.iload_n 1, 1) := by decide +kernel
theorem dX11_work_5 : decode cX11_work 5 = .ok (.invokevirtual 99, 3) := by decide +kernel
theorem dX11_work_8 : decode cX11_work 8 = .ok (.ifCond .eq 10, 3) := by decide +kernel
theorem dX11_work_11 : decode cX11_work 11 = .ok (.iload_n 2, 1) := by decide +kernel
theorem dX11_work_12 : decode cX11_work 12 = .ok (.invokestatic 138, 3) := by decide +kernel
theorem dX11_work_15 : decode cX11_work 15 = .ok (.ifCond .ne 5, 3) := by decide +kernel
theorem dX11_work_18 : decode cX11_work 18 = .ok (.iconst (-1), 1) := by decide +kernel
theorem dX11_work_19 : decode cX11_work 19 = .ok (.ireturn, 1) := by decide +kernel
theorem dX11_work_20 : decode cX11_work 20 = .ok (.aload_n 0, 1) := by decide +kernel
theorem dX11_work_21 : decode cX11_work 21 = .ok (.invokevirtual 141, 3) := by decide +kernel
theorem dX11_work_24 : decode cX11_work 24 = .ok (.aload_n 0, 1) := by decide +kernel
theorem dX11_work_25 : decode cX11_work 25 = .ok (.getfield 48, 3) := by decide +kernel
theorem dX11_work_28 : decode cX11_work 28 = .ok (.aload_n 0, 1) := by decide +kernel
theorem dX11_work_29 : decode cX11_work 29 = .ok (.getfield 28, 3) := by decide +kernel
theorem dX11_work_32 : decode cX11_work 32 = .ok (.iload_n 1, 1) := by decide +kernel
theorem dX11_work_33 : decode cX11_work 33 = .ok (.iload_n 2, 1) := by decide +kernel
theorem dX11_work_34 : decode cX11_work 34 = .ok (.invokevirtual 144, 3) := by decide +kernel
theorem dX11_work_37 : decode cX11_work 37 = .ok (.ireturn, 1) := by decide +kernel
theorem dX11_stop_0 : decode cX11_stop 0 = .ok (.aload_n 0, 1) := by decide +kernel
theorem dX11_stop_1 : decode cX11_stop 1 = .ok (.getfield 28, 3) := by decide +kernel
theorem dX11_stop_4 : decode cX11_stop 4 = .ok (.iload_n 1, 1) := by decide +kernel
theorem dX11_stop_5 : decode cX11_stop 5 = .ok (.invokevirtual 99, 3) := by decide +kernel
theorem dX11_stop_8 : decode cX11_stop 8 = .ok (.ifCond .eq 10, 3) := by decide +kernel
theorem dX11_stop_11 : decode cX11_stop 11 = .ok (.iload_n 2, 1) := by decide +kernel
theorem dX11_stop_12 : decode cX11_stop 12 = .ok (.invokestatic 138, 3) := by decide +kernel
theorem dX11_stop_15 : decode cX11_stop 15 = .ok (.ifCond .ne 5, 3) := by decide +kernel
theorem dX11_stop_18 : decode cX11_stop 18 = .ok (.iconst (-1), 1) := by decide +kernel
theorem dX11_stop_19 : decode cX11_stop 19 = .ok (.ireturn, 1) := by decide +kernel
theorem dX11_stop_20 : decode cX11_stop 20 = .ok (.aload_n 0, 1) := by decide +kernel
theorem dX11_stop_21 : decode cX11_stop 21 = .ok (.invokevirtual 141, 3) := by decide +kernel
theorem dX11_stop_24 : decode cX11_stop 24 = .ok (.aload_n 0, 1) := by decide +kernel
theorem dX11_stop_25 : decode cX11_stop 25 = .ok (.getfield 48, 3) := by decide +kernel
theorem dX11_stop_28 : decode cX11_stop 28 = .ok (.iload_n 1, 1) := by decide +kernel
theorem dX11_stop_29 : decode cX11_stop 29 = .ok (.iload_n 2, 1) := by decide +kernel
theorem dX11_stop_30 : decode cX11_stop 30 = .ok (.invokevirtual 148, 3) := by decide +kernel
theorem dX11_stop_33 : decode cX11_stop 33 = .ok (.aload_n 0, 1) := by decide +kernel
theorem dX11_stop_34 : decode cX11_stop 34 = .ok (.getfield 48, 3) := by decide +kernel
theorem dX11_stop_37 : decode cX11_stop 37 = .ok (.getfield 110, 3) := by decide +kernel
theorem dX11_stop_40 : decode cX11_stop 40 = .ok (.iload_n 1, 1) := by decide +kernel
theorem dX11_stop_41 : decode cX11_stop 41 = .ok (.iaload, 1) := by decide +kernel
theorem dX11_stop_42 : decode cX11_stop 42 = .ok (.ireturn, 1) := by decide +kernel
theorem dX11_join_0 : decode cX11_join 0 = .ok (.aload_n 0, 1) := by decide +kernel
theorem dX11_join_1 : decode cX11_join 1 = .ok (.getfield 48, 3) := by decide +kernel
theorem dX11_join_4 : decode cX11_join 4 = .ok (.aload_n 0, 1) := by decide +kernel
theorem dX11_join_5 : decode cX11_join 5 = .ok (.getfield 28, 3) := by decide +kernel
theorem dX11_join_8 : decode cX11_join 8 = .ok (.iload_n 1, 1) := by decide +kernel
theorem dX11_join_9 : decode cX11_join 9 = .ok (.iload_n 2, 1) := by decide +kernel
theorem dX11_join_10 : decode cX11_join 10 = .ok (.invokevirtual 152, 3) := by decide +kernel
theorem dX11_join_13 : decode cX11_join 13 = .ok (.ifCond .ne 5, 3) := by decide +kernel
theorem dX11_join_16 : decode cX11_join 16 = .ok (.iconst 0, 1) := by decide +kernel
theorem dX11_join_17 : decode cX11_join 17 = .ok (.ireturn, 1) := by decide +kernel
theorem dX11_join_18 : decode cX11_join 18 = .ok (.aload_n 0, 1) := by decide +kernel
theorem dX11_join_19 : decode cX11_join 19 = .ok (.invokevirtual 141, 3) := by decide +kernel
theorem dX11_join_22 : decode cX11_join 22 = .ok (.aload_n 0, 1) := by decide +kernel
theorem dX11_join_23 : decode cX11_join 23 = .ok (.getfield 48, 3) := by decide +kernel
theorem dX11_join_26 : decode cX11_join 26 = .ok (.aload_n 0, 1) := by decide +kernel
theorem dX11_join_27 : decode cX11_join 27 = .ok (.getfield 28, 3) := by decide +kernel
theorem dX11_join_30 : decode cX11_join 30 = .ok (.iload_n 1, 1) := by decide +kernel
theorem dX11_join_31 : decode cX11_join 31 = .ok (.iload_n 2, 1) := by decide +kernel
theorem dX11_join_32 : decode cX11_join 32 = .ok (.invokevirtual 156, 3) := by decide +kernel
theorem dX11_join_35 : decode cX11_join 35 = .ok (.iconst 1, 1) := by decide +kernel
theorem dX11_join_36 : decode cX11_join 36 = .ok (.ireturn, 1) := by decide +kernel
theorem dX11_lend_0 : decode cX11_lend 0 = .ok (.iload_n 3, 1) := by decide +kernel
theorem dX11_lend_1 : decode cX11_lend 1 = .ok (.invokestatic 138, 3) := by decide +kernel
theorem dX11_lend_4 : decode cX11_lend 4 = .ok (.ifCond .eq 20, 3) := by decide +kernel
theorem dX11_lend_7 : decode cX11_lend 7 = .ok (.aload_n 0, 1) := by decide +kernel
theorem dX11_lend_8 : decode cX11_lend 8 = .ok (.getfield 48, 3) := by decide +kernel
theorem dX11_lend_11 : decode cX11_lend 11 = .ok (.aload_n 0, 1) := by decide +kernel
theorem dX11_lend_12 : decode cX11_lend 12 = .ok (.getfield 28, 3) := by decide +kernel
theorem dX11_lend_15 : decode cX11_lend 15 = .ok (.iload_n 1, 1) := by decide +kernel
theorem dX11_lend_16 : decode cX11_lend 16 = .ok (.iload_n 2, 1) := by decide +kernel
theorem dX11_lend_17 : decode cX11_lend 17 = .ok (.iload_n 3, 1) := by decide +kernel
theorem dX11_lend_18 : decode cX11_lend 18 = .ok (.invokevirtual 160, 3) := by decide +kernel
theorem dX11_lend_21 : decode cX11_lend 21 = .ok (.ifCond .ne 5, 3) := by decide +kernel
theorem dX11_lend_24 : decode cX11_lend 24 = .ok (.iconst 0, 1) := by decide +kernel
theorem dX11_lend_25 : decode cX11_lend 25 = .ok (.ireturn, 1) := by decide +kernel
theorem dX11_lend_26 : decode cX11_lend 26 = .ok (.aload_n 0, 1) := by decide +kernel
theorem dX11_lend_27 : decode cX11_lend 27 = .ok (.invokevirtual 141, 3) := by decide +kernel
theorem dX11_lend_30 : decode cX11_lend 30 = .ok (.aload_n 0, 1) := by decide +kernel
theorem dX11_lend_31 : decode cX11_lend 31 = .ok (.getfield 48, 3) := by decide +kernel
theorem dX11_lend_34 : decode cX11_lend 34 = .ok (.iload_n 1, 1) := by decide +kernel
theorem dX11_lend_35 : decode cX11_lend 35 = .ok (.iload_n 2, 1) := by decide +kernel
theorem dX11_lend_36 : decode cX11_lend 36 = .ok (.iload_n 3, 1) := by decide +kernel
theorem dX11_lend_37 : decode cX11_lend 37 = .ok (.invokevirtual 164, 3) := by decide +kernel
theorem dX11_lend_40 : decode cX11_lend 40 = .ok (.iconst 1, 1) := by decide +kernel
theorem dX11_lend_41 : decode cX11_lend 41 = .ok (.ireturn, 1) := by decide +kernel
theorem dX11_week_0 : decode cX11_week 0 = .ok (.aload_n 0, 1) := by decide +kernel
theorem dX11_week_1 : decode cX11_week 1 = .ok (.invokevirtual 141, 3) := by decide +kernel
theorem dX11_week_4 : decode cX11_week 4 = .ok (.aload_n 0, 1) := by decide +kernel
theorem dX11_week_5 : decode cX11_week 5 = .ok (.getfield 48, 3) := by decide +kernel
theorem dX11_week_8 : decode cX11_week 8 = .ok (.aload_n 0, 1) := by decide +kernel
theorem dX11_week_9 : decode cX11_week 9 = .ok (.getfield 28, 3) := by decide +kernel
theorem dX11_week_12 : decode cX11_week 12 = .ok (.invokevirtual 168, 3) := by decide +kernel
theorem dX11_week_15 : decode cX11_week 15 = .ok (.ireturn, 1) := by decide +kernel
theorem dX11_undo_0 : decode cX11_undo 0 = .ok (.aload_n 0, 1) := by decide +kernel
theorem dX11_undo_1 : decode cX11_undo 1 = .ok (.getfield 171, 3) := by decide +kernel
theorem dX11_undo_4 : decode cX11_undo 4 = .ok (.ifCond .gt 5, 3) := by decide +kernel
theorem dX11_undo_7 : decode cX11_undo 7 = .ok (.iconst 0, 1) := by decide +kernel
theorem dX11_undo_8 : decode cX11_undo 8 = .ok (.ireturn, 1) := by decide +kernel
theorem dX11_undo_9 : decode cX11_undo 9 = .ok (.aload_n 0, 1) := by decide +kernel
theorem dX11_undo_10 : decode cX11_undo 10 = .ok (.dup, 1) := by decide +kernel
theorem dX11_undo_11 : decode cX11_undo 11 = .ok (.getfield 171, 3) := by decide +kernel
theorem dX11_undo_14 : decode cX11_undo 14 = .ok (.iconst 1, 1) := by decide +kernel
theorem dX11_undo_15 : decode cX11_undo 15 = .ok (.isub, 1) := by decide +kernel
theorem dX11_undo_16 : decode cX11_undo 16 = .ok (.putfield 171, 3) := by decide +kernel
theorem dX11_undo_19 : decode cX11_undo 19 = .ok (.aload_n 0, 1) := by decide +kernel
theorem dX11_undo_20 : decode cX11_undo 20 = .ok (.aload_n 0, 1) := by decide +kernel
theorem dX11_undo_21 : decode cX11_undo 21 = .ok (.getfield 174, 3) := by decide +kernel
theorem dX11_undo_24 : decode cX11_undo 24 = .ok (.iconst 1, 1) := by decide +kernel
theorem dX11_undo_25 : decode cX11_undo 25 = .ok (.isub, 1) := by decide +kernel
theorem dX11_undo_26 : decode cX11_undo 26 = .ok (.bipush 16, 2) := by decide +kernel
theorem dX11_undo_28 : decode cX11_undo 28 = .ok (.invokestatic 177, 3) := by decide +kernel
theorem dX11_undo_31 : decode cX11_undo 31 = .ok (.putfield 174, 3) := by decide +kernel
theorem dX11_undo_34 : decode cX11_undo 34 = .ok (.aload_n 0, 1) := by decide +kernel
theorem dX11_undo_35 : decode cX11_undo 35 = .ok (.getfield 48, 3) := by decide +kernel
theorem dX11_undo_38 : decode cX11_undo 38 = .ok (.aload_n 0, 1) := by decide +kernel
theorem dX11_undo_39 : decode cX11_undo 39 = .ok (.getfield 69, 3) := by decide +kernel
theorem dX11_undo_42 : decode cX11_undo 42 = .ok (.aload_n 0, 1) := by decide +kernel
theorem dX11_undo_43 : decode cX11_undo 43 = .ok (.getfield 174, 3) := by decide +kernel
theorem dX11_undo_46 : decode cX11_undo 46 = .ok (.aaload, 1) := by decide +kernel
theorem dX11_undo_47 : decode cX11_undo 47 = .ok (.invokevirtual 182, 3) := by decide +kernel
theorem dX11_undo_50 : decode cX11_undo 50 = .ok (.iconst 1, 1) := by decide +kernel
theorem dX11_undo_51 : decode cX11_undo 51 = .ok (.ireturn, 1) := by decide +kernel
theorem dX11_judged_0 : decode cX11_judged 0 = .ok (.iload_n 1, 1) := by decide +kernel
theorem dX11_judged_1 : decode cX11_judged 1 = .ok (.ifCond .lt 8, 3) := by decide +kernel
theorem dX11_judged_4 : decode cX11_judged 4 = .ok (.iload_n 1, 1) := by decide +kernel
theorem dX11_judged_5 : decode cX11_judged 5 = .ok (.iconst 2, 1) := by decide +kernel
theorem dX11_judged_6 : decode cX11_judged 6 = .ok (.if_icmp .le 6, 3) := by decide +kernel
theorem dX11_judged_9 : decode cX11_judged 9 = .ok (.bipush (-2), 2) := by decide +kernel
theorem dX11_judged_11 : decode cX11_judged 11 = .ok (.ireturn, 1) := by decide +kernel
theorem dX11_judged_12 : decode cX11_judged 12 = .ok (.aload_n 0, 1) := by decide +kernel
theorem dX11_judged_13 : decode cX11_judged 13 = .ok (.getfield 52, 3) := by decide +kernel
theorem dX11_judged_16 : decode cX11_judged 16 = .ok (.aload_n 0, 1) := by decide +kernel
theorem dX11_judged_17 : decode cX11_judged 17 = .ok (.getfield 28, 3) := by decide +kernel
theorem dX11_judged_20 : decode cX11_judged 20 = .ok (.invokevirtual 186, 3) := by decide +kernel
theorem dX11_judged_23 : decode cX11_judged 23 = .ok (.iconst (-1), 1) := by decide +kernel
theorem dX11_judged_24 : decode cX11_judged 24 = .ok (.istore_n 2, 1) := by decide +kernel
theorem dX11_judged_25 : decode cX11_judged 25 = .ok (.iconst (-1), 1) := by decide +kernel
theorem dX11_judged_26 : decode cX11_judged 26 = .ok (.istore_n 3, 1) := by decide +kernel
theorem dX11_judged_27 : decode cX11_judged 27 = .ok (.iconst 0, 1) := by decide +kernel
theorem dX11_judged_28 : decode cX11_judged 28 = .ok (.istore 4, 2) := by decide +kernel
theorem dX11_judged_30 : decode cX11_judged 30 = .ok (.iload 4, 2) := by decide +kernel
theorem dX11_judged_32 : decode cX11_judged 32 = .ok (.aload_n 0, 1) := by decide +kernel
theorem dX11_judged_33 : decode cX11_judged 33 = .ok (.getfield 38, 3) := by decide +kernel
theorem dX11_judged_36 : decode cX11_judged 36 = .ok (.getfield 190, 3) := by decide +kernel
theorem dX11_judged_39 : decode cX11_judged 39 = .ok (.if_icmp .ge 70, 3) := by decide +kernel
theorem dX11_judged_42 : decode cX11_judged 42 = .ok (.aload_n 0, 1) := by decide +kernel
theorem dX11_judged_43 : decode cX11_judged 43 = .ok (.getfield 52, 3) := by decide +kernel
theorem dX11_judged_46 : decode cX11_judged 46 = .ok (.getfield 193, 3) := by decide +kernel
theorem dX11_judged_49 : decode cX11_judged 49 = .ok (.istore 5, 2) := by decide +kernel
theorem dX11_judged_51 : decode cX11_judged 51 = .ok (.aload_n 0, 1) := by decide +kernel
theorem dX11_judged_52 : decode cX11_judged 52 = .ok (.getfield 52, 3) := by decide +kernel
theorem dX11_judged_55 : decode cX11_judged 55 = .ok (.aload_n 0, 1) := by decide +kernel
theorem dX11_judged_56 : decode cX11_judged 56 = .ok (.getfield 28, 3) := by decide +kernel
theorem dX11_judged_59 : decode cX11_judged 59 = .ok (.aload_n 0, 1) := by decide +kernel
theorem dX11_judged_60 : decode cX11_judged 60 = .ok (.getfield 38, 3) := by decide +kernel
theorem dX11_judged_63 : decode cX11_judged 63 = .ok (.iload 4, 2) := by decide +kernel
theorem dX11_judged_65 : decode cX11_judged 65 = .ok (.invokevirtual 196, 3) := by decide +kernel
theorem dX11_judged_68 : decode cX11_judged 68 = .ok (.istore 6, 2) := by decide +kernel
theorem dX11_judged_70 : decode cX11_judged 70 = .ok (.iload 6, 2) := by decide +kernel
theorem dX11_judged_72 : decode cX11_judged 72 = .ok (.ifCond .ne 11, 3) := by decide +kernel
theorem dX11_judged_75 : decode cX11_judged 75 = .ok (.iload_n 2, 1) := by decide +kernel
theorem dX11_judged_76 : decode cX11_judged 76 = .ok (.iconst (-1), 1) := by decide +kernel
theorem dX11_judged_77 : decode cX11_judged 77 = .ok (.if_icmp .ne 6, 3) := by decide +kernel
theorem dX11_judged_80 : decode cX11_judged 80 = .ok (.iload 4, 2) := by decide +kernel
theorem dX11_judged_82 : decode cX11_judged 82 = .ok (.istore_n 2, 1) := by decide +kernel
theorem dX11_judged_83 : decode cX11_judged 83 = .ok (.aload_n 0, 1) := by decide +kernel
theorem dX11_judged_84 : decode cX11_judged 84 = .ok (.getfield 52, 3) := by decide +kernel
theorem dX11_judged_87 : decode cX11_judged 87 = .ok (.getfield 193, 3) := by decide +kernel
theorem dX11_judged_90 : decode cX11_judged 90 = .ok (.iload 5, 2) := by decide +kernel
theorem dX11_judged_92 : decode cX11_judged 92 = .ok (.if_icmp .le 11, 3) := by decide +kernel
theorem dX11_judged_95 : decode cX11_judged 95 = .ok (.iload_n 3, 1) := by decide +kernel
theorem dX11_judged_96 : decode cX11_judged 96 = .ok (.iconst (-1), 1) := by decide +kernel
theorem dX11_judged_97 : decode cX11_judged 97 = .ok (.if_icmp .ne 6, 3) := by decide +kernel
theorem dX11_judged_100 : decode cX11_judged 100 = .ok (.iload 4, 2) := by decide +kernel
theorem dX11_judged_102 : decode cX11_judged 102 = .ok (.istore_n 3, 1) := by decide +kernel
theorem dX11_judged_103 : decode cX11_judged 103 = .ok (.iinc 4 1, 3) := by decide +kernel
theorem dX11_judged_106 : decode cX11_judged 106 = .ok (.goto (-76), 3) := by decide +kernel
theorem dX11_judged_109 : decode cX11_judged 109 = .ok (.iload_n 1, 1) := by decide +kernel
theorem dX11_judged_110 : decode cX11_judged 110 = .ok (.ifCond .ne 7, 3) := by decide +kernel
theorem dX11_judged_113 : decode cX11_judged 113 = .ok (.iload_n 2, 1) := by decide +kernel
theorem dX11_judged_114 : decode cX11_judged 114 = .ok (.goto 19, 3) := by decide +kernel
theorem dX11_judged_117 : decode cX11_judged 117 = .ok (.iload_n 1, 1) := by decide +kernel
theorem dX11_judged_118 : decode cX11_judged 118 = .ok (.iconst 1, 1) := by decide +kernel
theorem dX11_judged_119 : decode cX11_judged 119 = .ok (.if_icmp .ne 7, 3) := by decide +kernel
theorem dX11_judged_122 : decode cX11_judged 122 = .ok (.iload_n 3, 1) := by decide +kernel
theorem dX11_judged_123 : decode cX11_judged 123 = .ok (.goto 10, 3) := by decide +kernel
theorem dX11_judged_126 : decode cX11_judged 126 = .ok (.aload_n 0, 1) := by decide +kernel
theorem dX11_judged_127 : decode cX11_judged 127 = .ok (.getfield 52, 3) := by decide +kernel
theorem dX11_judged_130 : decode cX11_judged 130 = .ok (.getfield 193, 3) := by decide +kernel
theorem dX11_judged_133 : decode cX11_judged 133 = .ok (.ireturn, 1) := by decide +kernel
theorem dX11_when_0 : decode cX11_when 0 = .ok (.aload_n 0, 1) := by decide +kernel
theorem dX11_when_1 : decode cX11_when 1 = .ok (.getfield 28, 3) := by decide +kernel
theorem dX11_when_4 : decode cX11_when 4 = .ok (.iload_n 1, 1) := by decide +kernel
theorem dX11_when_5 : decode cX11_when 5 = .ok (.invokevirtual 99, 3) := by decide +kernel
theorem dX11_when_8 : decode cX11_when 8 = .ok (.ifCond .eq 11, 3) := by decide +kernel
theorem dX11_when_11 : decode cX11_when 11 = .ok (.aload_n 0, 1) := by decide +kernel
theorem dX11_when_12 : decode cX11_when 12 = .ok (.iload_n 1, 1) := by decide +kernel
theorem dX11_when_13 : decode cX11_when 13 = .ok (.invokevirtual 200, 3) := by decide +kernel
theorem dX11_when_16 : decode cX11_when 16 = .ok (.goto 4, 3) := by decide +kernel
theorem dX11_when_19 : decode cX11_when 19 = .ok (.iconst (-1), 1) := by decide +kernel
theorem dX11_when_20 : decode cX11_when 20 = .ok (.ireturn, 1) := by decide +kernel
theorem dX11_caught_0 : decode cX11_caught 0 = .ok (.aload_n 0, 1) := by decide +kernel
theorem dX11_caught_1 : decode cX11_caught 1 = .ok (.getfield 28, 3) := by decide +kernel
theorem dX11_caught_4 : decode cX11_caught 4 = .ok (.iload_n 1, 1) := by decide +kernel
theorem dX11_caught_5 : decode cX11_caught 5 = .ok (.invokevirtual 99, 3) := by decide +kernel
theorem dX11_caught_8 : decode cX11_caught 8 = .ok (.ifCond .ne 5, 3) := by decide +kernel
theorem dX11_caught_11 : decode cX11_caught 11 = .ok (.iconst (-1), 1) := by decide +kernel
theorem dX11_caught_12 : decode cX11_caught 12 = .ok (.ireturn, 1) := by decide +kernel
theorem dX11_caught_13 : decode cX11_caught 13 = .ok (.aload_n 0, 1) := by decide +kernel
theorem dX11_caught_14 : decode cX11_caught 14 = .ok (.getfield 28, 3) := by decide +kernel
theorem dX11_caught_17 : decode cX11_caught 17 = .ok (.iload_n 1, 1) := by decide +kernel
theorem dX11_caught_18 : decode cX11_caught 18 = .ok (.invokevirtual 113, 3) := by decide +kernel
theorem dX11_caught_21 : decode cX11_caught 21 = .ok (.istore_n 2, 1) := by decide +kernel
theorem dX11_caught_22 : decode cX11_caught 22 = .ok (.aload_n 0, 1) := by decide +kernel
theorem dX11_caught_23 : decode cX11_caught 23 = .ok (.getfield 48, 3) := by decide +kernel
theorem dX11_caught_26 : decode cX11_caught 26 = .ok (.aload_n 0, 1) := by decide +kernel
theorem dX11_caught_27 : decode cX11_caught 27 = .ok (.getfield 28, 3) := by decide +kernel
theorem dX11_caught_30 : decode cX11_caught 30 = .ok (.iload_n 1, 1) := by decide +kernel
theorem dX11_caught_31 : decode cX11_caught 31 = .ok (.invokevirtual 117, 3) := by decide +kernel
theorem dX11_caught_34 : decode cX11_caught 34 = .ok (.istore_n 3, 1) := by decide +kernel
theorem dX11_caught_35 : decode cX11_caught 35 = .ok (.aload_n 0, 1) := by decide +kernel
theorem dX11_caught_36 : decode cX11_caught 36 = .ok (.getfield 48, 3) := by decide +kernel
theorem dX11_caught_39 : decode cX11_caught 39 = .ok (.getfield 110, 3) := by decide +kernel
theorem dX11_caught_42 : decode cX11_caught 42 = .ok (.iload_n 1, 1) := by decide +kernel
theorem dX11_caught_43 : decode cX11_caught 43 = .ok (.iaload, 1) := by decide +kernel
theorem dX11_caught_44 : decode cX11_caught 44 = .ok (.istore 4, 2) := by decide +kernel
theorem dX11_caught_46 : decode cX11_caught 46 = .ok (.iconst 1, 1) := by decide +kernel
theorem dX11_caught_47 : decode cX11_caught 47 = .ok (.istore 5, 2) := by decide +kernel
theorem dX11_caught_49 : decode cX11_caught 49 = .ok (.iload 5, 2) := by decide +kernel
theorem dX11_caught_51 : decode cX11_caught 51 = .ok (.bipush 60, 2) := by decide +kernel
theorem dX11_caught_53 : decode cX11_caught 53 = .ok (.if_icmp .gt 55, 3) := by decide +kernel
theorem dX11_caught_56 : decode cX11_caught 56 = .ok (.iload 4, 2) := by decide +kernel
theorem dX11_caught_58 : decode cX11_caught 58 = .ok (.aload_n 0, 1) := by decide +kernel
theorem dX11_caught_59 : decode cX11_caught 59 = .ok (.getfield 28, 3) := by decide +kernel
theorem dX11_caught_62 : decode cX11_caught 62 = .ok (.aload_n 0, 1) := by decide +kernel
theorem dX11_caught_63 : decode cX11_caught 63 = .ok (.getfield 28, 3) := by decide +kernel
theorem dX11_caught_66 : decode cX11_caught 66 = .ok (.getfield 103, 3) := by decide +kernel
theorem dX11_caught_69 : decode cX11_caught 69 = .ok (.iload_n 1, 1) := by decide +kernel
theorem dX11_caught_70 : decode cX11_caught 70 = .ok (.iaload, 1) := by decide +kernel
theorem dX11_caught_71 : decode cX11_caught 71 = .ok (.iload 4, 2) := by decide +kernel
theorem dX11_caught_73 : decode cX11_caught 73 = .ok (.iload_n 2, 1) := by decide +kernel
theorem dX11_caught_74 : decode cX11_caught 74 = .ok (.iload_n 3, 1) := by decide +kernel
theorem dX11_caught_75 : decode cX11_caught 75 = .ok (.aload_n 0, 1) := by decide +kernel
theorem dX11_caught_76 : decode cX11_caught 76 = .ok (.getfield 48, 3) := by decide +kernel
theorem dX11_caught_79 : decode cX11_caught 79 = .ok (.getfield 203, 3) := by decide +kernel
theorem dX11_caught_82 : decode cX11_caught 82 = .ok (.iload 5, 2) := by decide +kernel
theorem dX11_caught_84 : decode cX11_caught 84 = .ok (.iadd, 1) := by decide +kernel
theorem dX11_caught_85 : decode cX11_caught 85 = .ok (.iconst 1, 1) := by decide +kernel
theorem dX11_caught_86 : decode cX11_caught 86 = .ok (.isub, 1) := by decide +kernel
theorem dX11_caught_87 : decode cX11_caught 87 = .ok (.invokevirtual 206, 3) := by decide +kernel
theorem dX11_caught_90 : decode cX11_caught 90 = .ok (.iadd, 1) := by decide +kernel
theorem dX11_caught_91 : decode cX11_caught 91 = .ok (.istore 4, 2) := by decide +kernel
theorem dX11_caught_93 : decode cX11_caught 93 = .ok (.iload 4, 2) := by decide +kernel
theorem dX11_caught_95 : decode cX11_caught 95 = .ok (.iload_n 2, 1) := by decide +kernel
theorem dX11_caught_96 : decode cX11_caught 96 = .ok (.if_icmp .le 6, 3) := by decide +kernel
theorem dX11_caught_99 : decode cX11_caught 99 = .ok (.iload 5, 2) := by decide +kernel
theorem dX11_caught_101 : decode cX11_caught 101 = .ok (.ireturn, 1) := by decide +kernel
theorem dX11_caught_102 : decode cX11_caught 102 = .ok (.iinc 5 1, 3) := by decide +kernel
theorem dX11_caught_105 : decode cX11_caught 105 = .ok (.goto (-56), 3) := by decide +kernel
theorem dX11_caught_108 : decode cX11_caught 108 = .ok (.iconst (-1), 1) := by decide +kernel
theorem dX11_caught_109 : decode cX11_caught 109 = .ok (.ireturn, 1) := by decide +kernel
theorem dX11_joined_0 : decode cX11_joined 0 = .ok (.aload_n 0, 1) := by decide +kernel
theorem dX11_joined_1 : decode cX11_joined 1 = .ok (.getfield 28, 3) := by decide +kernel
theorem dX11_joined_4 : decode cX11_joined 4 = .ok (.iload_n 1, 1) := by decide +kernel
theorem dX11_joined_5 : decode cX11_joined 5 = .ok (.iload_n 2, 1) := by decide +kernel
theorem dX11_joined_6 : decode cX11_joined 6 = .ok (.invokevirtual 210, 3) := by decide +kernel
theorem dX11_joined_9 : decode cX11_joined 9 = .ok (.ifCond .ne 5, 3) := by decide +kernel
theorem dX11_joined_12 : decode cX11_joined 12 = .ok (.iconst (-1), 1) := by decide +kernel
theorem dX11_joined_13 : decode cX11_joined 13 = .ok (.ireturn, 1) := by decide +kernel
theorem dX11_joined_14 : decode cX11_joined 14 = .ok (.aload_n 0, 1) := by decide +kernel
theorem dX11_joined_15 : decode cX11_joined 15 = .ok (.iload_n 1, 1) := by decide +kernel
theorem dX11_joined_16 : decode cX11_joined 16 = .ok (.invokevirtual 200, 3) := by decide +kernel
theorem dX11_joined_19 : decode cX11_joined 19 = .ok (.istore_n 3, 1) := by decide +kernel
theorem dX11_joined_20 : decode cX11_joined 20 = .ok (.aload_n 0, 1) := by decide +kernel
theorem dX11_joined_21 : decode cX11_joined 21 = .ok (.iload_n 2, 1) := by decide +kernel
theorem dX11_joined_22 : decode cX11_joined 22 = .ok (.invokevirtual 200, 3) := by decide +kernel
theorem dX11_joined_25 : decode cX11_joined 25 = .ok (.istore 4, 2) := by decide +kernel
theorem dX11_joined_27 : decode cX11_joined 27 = .ok (.iload_n 3, 1) := by decide +kernel
theorem dX11_joined_28 : decode cX11_joined 28 = .ok (.iconst (-1), 1) := by decide +kernel
theorem dX11_joined_29 : decode cX11_joined 29 = .ok (.if_icmp .eq 9, 3) := by decide +kernel
theorem dX11_joined_32 : decode cX11_joined 32 = .ok (.iload 4, 2) := by decide +kernel
theorem dX11_joined_34 : decode cX11_joined 34 = .ok (.iconst (-1), 1) := by decide +kernel
theorem dX11_joined_35 : decode cX11_joined 35 = .ok (.if_icmp .ne 7, 3) := by decide +kernel
theorem dX11_joined_38 : decode cX11_joined 38 = .ok (.iconst (-1), 1) := by decide +kernel
theorem dX11_joined_39 : decode cX11_joined 39 = .ok (.goto 9, 3) := by decide +kernel
theorem dX11_joined_42 : decode cX11_joined 42 = .ok (.iload_n 3, 1) := by decide +kernel
theorem dX11_joined_43 : decode cX11_joined 43 = .ok (.iload 4, 2) := by decide +kernel
theorem dX11_joined_45 : decode cX11_joined 45 = .ok (.invokestatic 214, 3) := by decide +kernel
theorem dX11_joined_48 : decode cX11_joined 48 = .ok (.ireturn, 1) := by decide +kernel
theorem dX11_fines_0 : decode cX11_fines 0 = .ok (.iload_n 1, 1) := by decide +kernel
theorem dX11_fines_1 : decode cX11_fines 1 = .ok (.iconst 1, 1) := by decide +kernel
theorem dX11_fines_2 : decode cX11_fines 2 = .ok (.if_icmp .lt 9, 3) := by decide +kernel
theorem dX11_fines_5 : decode cX11_fines 5 = .ok (.iload_n 1, 1) := by decide +kernel
theorem dX11_fines_6 : decode cX11_fines 6 = .ok (.bipush 60, 2) := by decide +kernel
theorem dX11_fines_8 : decode cX11_fines 8 = .ok (.if_icmp .le 5, 3) := by decide +kernel
theorem dX11_fines_11 : decode cX11_fines 11 = .ok (.iconst (-1), 1) := by decide +kernel
theorem dX11_fines_12 : decode cX11_fines 12 = .ok (.ireturn, 1) := by decide +kernel
theorem dX11_fines_13 : decode cX11_fines 13 = .ok (.aload_n 0, 1) := by decide +kernel
theorem dX11_fines_14 : decode cX11_fines 14 = .ok (.getfield 52, 3) := by decide +kernel
theorem dX11_fines_17 : decode cX11_fines 17 = .ok (.aload_n 0, 1) := by decide +kernel
theorem dX11_fines_18 : decode cX11_fines 18 = .ok (.getfield 48, 3) := by decide +kernel
theorem dX11_fines_21 : decode cX11_fines 21 = .ok (.invokevirtual 182, 3) := by decide +kernel
theorem dX11_fines_24 : decode cX11_fines 24 = .ok (.iconst 0, 1) := by decide +kernel
theorem dX11_fines_25 : decode cX11_fines 25 = .ok (.istore_n 2, 1) := by decide +kernel
theorem dX11_fines_26 : decode cX11_fines 26 = .ok (.iconst 0, 1) := by decide +kernel
theorem dX11_fines_27 : decode cX11_fines 27 = .ok (.istore_n 3, 1) := by decide +kernel
theorem dX11_fines_28 : decode cX11_fines 28 = .ok (.iload_n 3, 1) := by decide +kernel
theorem dX11_fines_29 : decode cX11_fines 29 = .ok (.iload_n 1, 1) := by decide +kernel
theorem dX11_fines_30 : decode cX11_fines 30 = .ok (.if_icmp .ge 23, 3) := by decide +kernel
theorem dX11_fines_33 : decode cX11_fines 33 = .ok (.iload_n 2, 1) := by decide +kernel
theorem dX11_fines_34 : decode cX11_fines 34 = .ok (.aload_n 0, 1) := by decide +kernel
theorem dX11_fines_35 : decode cX11_fines 35 = .ok (.getfield 52, 3) := by decide +kernel
theorem dX11_fines_38 : decode cX11_fines 38 = .ok (.aload_n 0, 1) := by decide +kernel
theorem dX11_fines_39 : decode cX11_fines 39 = .ok (.getfield 28, 3) := by decide +kernel
theorem dX11_fines_42 : decode cX11_fines 42 = .ok (.invokevirtual 168, 3) := by decide +kernel
theorem dX11_fines_45 : decode cX11_fines 45 = .ok (.iadd, 1) := by decide +kernel
theorem dX11_fines_46 : decode cX11_fines 46 = .ok (.istore_n 2, 1) := by decide +kernel
theorem dX11_fines_47 : decode cX11_fines 47 = .ok (.iinc 3 1, 3) := by decide +kernel
theorem dX11_fines_50 : decode cX11_fines 50 = .ok (.goto (-22), 3) := by decide +kernel
theorem dX11_fines_53 : decode cX11_fines 53 = .ok (.iload_n 2, 1) := by decide +kernel
theorem dX11_fines_54 : decode cX11_fines 54 = .ok (.ireturn, 1) := by decide +kernel
theorem dX11_round_0 : decode cX11_round 0 = .ok (.iconst 0, 1) := by decide +kernel
theorem dX11_round_1 : decode cX11_round 1 = .ok (.istore_n 1, 1) := by decide +kernel
theorem dX11_round_2 : decode cX11_round 2 = .ok (.iconst 0, 1) := by decide +kernel
theorem dX11_round_3 : decode cX11_round 3 = .ok (.istore_n 2, 1) := by decide +kernel
theorem dX11_round_4 : decode cX11_round 4 = .ok (.iload_n 2, 1) := by decide +kernel
theorem dX11_round_5 : decode cX11_round 5 = .ok (.aload_n 0, 1) := by decide +kernel
theorem dX11_round_6 : decode cX11_round 6 = .ok (.getfield 28, 3) := by decide +kernel
theorem dX11_round_9 : decode cX11_round 9 = .ok (.getfield 217, 3) := by decide +kernel
theorem dX11_round_12 : decode cX11_round 12 = .ok (.if_icmp .ge 49, 3) := by decide +kernel
theorem dX11_round_15 : decode cX11_round 15 = .ok (.iload_n 2, 1) := by decide +kernel
theorem dX11_round_16 : decode cX11_round 16 = .ok (.iconst 1, 1) := by decide +kernel
theorem dX11_round_17 : decode cX11_round 17 = .ok (.iadd, 1) := by decide +kernel
theorem dX11_round_18 : decode cX11_round 18 = .ok (.istore_n 3, 1) := by decide +kernel
theorem dX11_round_19 : decode cX11_round 19 = .ok (.iload_n 3, 1) := by decide +kernel
theorem dX11_round_20 : decode cX11_round 20 = .ok (.aload_n 0, 1) := by decide +kernel
theorem dX11_round_21 : decode cX11_round 21 = .ok (.getfield 28, 3) := by decide +kernel
theorem dX11_round_24 : decode cX11_round 24 = .ok (.getfield 217, 3) := by decide +kernel
theorem dX11_round_27 : decode cX11_round 27 = .ok (.if_icmp .ge 28, 3) := by decide +kernel
theorem dX11_round_30 : decode cX11_round 30 = .ok (.aload_n 0, 1) := by decide +kernel
theorem dX11_round_31 : decode cX11_round 31 = .ok (.getfield 48, 3) := by decide +kernel
theorem dX11_round_34 : decode cX11_round 34 = .ok (.aload_n 0, 1) := by decide +kernel
theorem dX11_round_35 : decode cX11_round 35 = .ok (.getfield 28, 3) := by decide +kernel
theorem dX11_round_38 : decode cX11_round 38 = .ok (.iload_n 2, 1) := by decide +kernel
theorem dX11_round_39 : decode cX11_round 39 = .ok (.iload_n 3, 1) := by decide +kernel
theorem dX11_round_40 : decode cX11_round 40 = .ok (.invokevirtual 152, 3) := by decide +kernel
theorem dX11_round_43 : decode cX11_round 43 = .ok (.ifCond .eq 6, 3) := by decide +kernel
theorem dX11_round_46 : decode cX11_round 46 = .ok (.iinc 1 1, 3) := by decide +kernel
theorem dX11_round_49 : decode cX11_round 49 = .ok (.iinc 3 1, 3) := by decide +kernel
theorem dX11_round_52 : decode cX11_round 52 = .ok (.goto (-33), 3) := by decide +kernel
theorem dX11_round_55 : decode cX11_round 55 = .ok (.iinc 2 1, 3) := by decide +kernel
theorem dX11_round_58 : decode cX11_round 58 = .ok (.goto (-54), 3) := by decide +kernel
theorem dX11_round_61 : decode cX11_round 61 = .ok (.iload_n 1, 1) := by decide +kernel
theorem dX11_round_62 : decode cX11_round 62 = .ok (.ireturn, 1) := by decide +kernel
theorem dX11_most_0 : decode cX11_most 0 = .ok (.iload_n 1, 1) := by decide +kernel
theorem dX11_most_1 : decode cX11_most 1 = .ok (.ifCond .lt 19, 3) := by decide +kernel
theorem dX11_most_4 : decode cX11_most 4 = .ok (.iload_n 1, 1) := by decide +kernel
theorem dX11_most_5 : decode cX11_most 5 = .ok (.sipush 200, 3) := by decide +kernel
theorem dX11_most_8 : decode cX11_most 8 = .ok (.if_icmp .gt 12, 3) := by decide +kernel
theorem dX11_most_11 : decode cX11_most 11 = .ok (.iload_n 2, 1) := by decide +kernel
theorem dX11_most_12 : decode cX11_most 12 = .ok (.ifCond .lt 8, 3) := by decide +kernel
theorem dX11_most_15 : decode cX11_most 15 = .ok (.iload_n 2, 1) := by decide +kernel
theorem dX11_most_16 : decode cX11_most 16 = .ok (.iconst 2, 1) := by decide +kernel
theorem dX11_most_17 : decode cX11_most 17 = .ok (.if_icmp .le 5, 3) := by decide +kernel
theorem dX11_most_20 : decode cX11_most 20 = .ok (.iconst (-1), 1) := by decide +kernel
theorem dX11_most_21 : decode cX11_most 21 = .ok (.ireturn, 1) := by decide +kernel
theorem dX11_most_22 : decode cX11_most 22 = .ok (.aload_n 0, 1) := by decide +kernel
theorem dX11_most_23 : decode cX11_most 23 = .ok (.getfield 48, 3) := by decide +kernel
theorem dX11_most_26 : decode cX11_most 26 = .ok (.aload_n 0, 1) := by decide +kernel
theorem dX11_most_27 : decode cX11_most 27 = .ok (.getfield 28, 3) := by decide +kernel
theorem dX11_most_30 : decode cX11_most 30 = .ok (.invokevirtual 220, 3) := by decide +kernel
theorem dX11_most_33 : decode cX11_most 33 = .ok (.istore_n 3, 1) := by decide +kernel
theorem dX11_most_34 : decode cX11_most 34 = .ok (.iload_n 3, 1) := by decide +kernel
theorem dX11_most_35 : decode cX11_most 35 = .ok (.istore 4, 2) := by decide +kernel
theorem dX11_most_37 : decode cX11_most 37 = .ok (.iconst 0, 1) := by decide +kernel
theorem dX11_most_38 : decode cX11_most 38 = .ok (.istore 5, 2) := by decide +kernel
theorem dX11_most_40 : decode cX11_most 40 = .ok (.iload 5, 2) := by decide +kernel
theorem dX11_most_42 : decode cX11_most 42 = .ok (.iconst 1, 1) := by decide +kernel
theorem dX11_most_43 : decode cX11_most 43 = .ok (.aload_n 0, 1) := by decide +kernel
theorem dX11_most_44 : decode cX11_most 44 = .ok (.getfield 28, 3) := by decide +kernel
theorem dX11_most_47 : decode cX11_most 47 = .ok (.getfield 217, 3) := by decide +kernel
theorem dX11_most_50 : decode cX11_most 50 = .ok (.ishl, 1) := by decide +kernel
theorem dX11_most_51 : decode cX11_most 51 = .ok (.if_icmp .ge 61, 3) := by decide +kernel
theorem dX11_most_54 : decode cX11_most 54 = .ok (.iload 5, 2) := by decide +kernel
theorem dX11_most_56 : decode cX11_most 56 = .ok (.iload_n 3, 1) := by decide +kernel
theorem dX11_most_57 : decode cX11_most 57 = .ok (.iand, 1) := by decide +kernel
theorem dX11_most_58 : decode cX11_most 58 = .ok (.iload_n 3, 1) := by decide +kernel
theorem dX11_most_59 : decode cX11_most 59 = .ok (.if_icmp .ne 24, 3) := by decide +kernel
theorem dX11_most_62 : decode cX11_most 62 = .ok (.aload_n 0, 1) := by decide +kernel
theorem dX11_most_63 : decode cX11_most 63 = .ok (.getfield 48, 3) := by decide +kernel
theorem dX11_most_66 : decode cX11_most 66 = .ok (.aload_n 0, 1) := by decide +kernel
theorem dX11_most_67 : decode cX11_most 67 = .ok (.getfield 28, 3) := by decide +kernel
theorem dX11_most_70 : decode cX11_most 70 = .ok (.iload 5, 2) := by decide +kernel
theorem dX11_most_72 : decode cX11_most 72 = .ok (.invokevirtual 223, 3) := by decide +kernel
theorem dX11_most_75 : decode cX11_most 75 = .ok (.iload_n 1, 1) := by decide +kernel
theorem dX11_most_76 : decode cX11_most 76 = .ok (.if_icmp .gt 7, 3) := by decide +kernel
theorem dX11_most_79 : decode cX11_most 79 = .ok (.iconst 1, 1) := by decide +kernel
theorem dX11_most_80 : decode cX11_most 80 = .ok (.goto 4, 3) := by decide +kernel
theorem dX11_most_83 : decode cX11_most 83 = .ok (.iconst 0, 1) := by decide +kernel
theorem dX11_most_84 : decode cX11_most 84 = .ok (.istore 6, 2) := by decide +kernel
theorem dX11_most_86 : decode cX11_most 86 = .ok (.iload 6, 2) := by decide +kernel
theorem dX11_most_88 : decode cX11_most 88 = .ok (.ifCond .eq 18, 3) := by decide +kernel
theorem dX11_most_91 : decode cX11_most 91 = .ok (.aload_n 0, 1) := by decide +kernel
theorem dX11_most_92 : decode cX11_most 92 = .ok (.iload 5, 2) := by decide +kernel
theorem dX11_most_94 : decode cX11_most 94 = .ok (.iload 4, 2) := by decide +kernel
theorem dX11_most_96 : decode cX11_most 96 = .ok (.invokevirtual 226, 3) := by decide +kernel
theorem dX11_most_99 : decode cX11_most 99 = .ok (.ifCond .eq 7, 3) := by decide +kernel
theorem dX11_most_102 : decode cX11_most 102 = .ok (.iload 5, 2) := by decide +kernel
theorem dX11_most_104 : decode cX11_most 104 = .ok (.istore 4, 2) := by decide +kernel
theorem dX11_most_106 : decode cX11_most 106 = .ok (.iinc 5 1, 3) := by decide +kernel
theorem dX11_most_109 : decode cX11_most 109 = .ok (.goto (-69), 3) := by decide +kernel
theorem dX11_most_112 : decode cX11_most 112 = .ok (.iload_n 2, 1) := by decide +kernel
theorem dX11_most_113 : decode cX11_most 113 = .ok (.ifCond .ne 11, 3) := by decide +kernel
theorem dX11_most_116 : decode cX11_most 116 = .ok (.iload 4, 2) := by decide +kernel
theorem dX11_most_118 : decode cX11_most 118 = .ok (.invokestatic 229, 3) := by decide +kernel
theorem dX11_most_121 : decode cX11_most 121 = .ok (.goto 26, 3) := by decide +kernel
theorem dX11_most_124 : decode cX11_most 124 = .ok (.iload_n 2, 1) := by decide +kernel
theorem dX11_most_125 : decode cX11_most 125 = .ok (.iconst 1, 1) := by decide +kernel
theorem dX11_most_126 : decode cX11_most 126 = .ok (.if_icmp .ne 19, 3) := by decide +kernel
theorem dX11_most_129 : decode cX11_most 129 = .ok (.aload_n 0, 1) := by decide +kernel
theorem dX11_most_130 : decode cX11_most 130 = .ok (.getfield 48, 3) := by decide +kernel
theorem dX11_most_133 : decode cX11_most 133 = .ok (.aload_n 0, 1) := by decide +kernel
theorem dX11_most_134 : decode cX11_most 134 = .ok (.getfield 28, 3) := by decide +kernel
theorem dX11_most_137 : decode cX11_most 137 = .ok (.iload 4, 2) := by decide +kernel
theorem dX11_most_139 : decode cX11_most 139 = .ok (.invokevirtual 223, 3) := by decide +kernel
theorem dX11_most_142 : decode cX11_most 142 = .ok (.goto 5, 3) := by decide +kernel
theorem dX11_most_145 : decode cX11_most 145 = .ok (.iload 4, 2) := by decide +kernel
theorem dX11_most_147 : decode cX11_most 147 = .ok (.ireturn, 1) := by decide +kernel
theorem dX11_ways_0 : decode cX11_ways 0 = .ok (.iload_n 1, 1) := by decide +kernel
theorem dX11_ways_1 : decode cX11_ways 1 = .ok (.ifCond .lt 10, 3) := by decide +kernel
theorem dX11_ways_4 : decode cX11_ways 4 = .ok (.iload_n 1, 1) := by decide +kernel
theorem dX11_ways_5 : decode cX11_ways 5 = .ok (.sipush 200, 3) := by decide +kernel
theorem dX11_ways_8 : decode cX11_ways 8 = .ok (.if_icmp .le 5, 3) := by decide +kernel
theorem dX11_ways_11 : decode cX11_ways 11 = .ok (.iconst (-1), 1) := by decide +kernel
theorem dX11_ways_12 : decode cX11_ways 12 = .ok (.ireturn, 1) := by decide +kernel
theorem dX11_ways_13 : decode cX11_ways 13 = .ok (.aload_n 0, 1) := by decide +kernel
theorem dX11_ways_14 : decode cX11_ways 14 = .ok (.getfield 65, 3) := by decide +kernel
theorem dX11_ways_17 : decode cX11_ways 17 = .ok (.aload_n 0, 1) := by decide +kernel
theorem dX11_ways_18 : decode cX11_ways 18 = .ok (.getfield 28, 3) := by decide +kernel
theorem dX11_ways_21 : decode cX11_ways 21 = .ok (.getfield 234, 3) := by decide +kernel
theorem dX11_ways_24 : decode cX11_ways 24 = .ok (.aload_n 0, 1) := by decide +kernel
theorem dX11_ways_25 : decode cX11_ways 25 = .ok (.getfield 48, 3) := by decide +kernel
theorem dX11_ways_28 : decode cX11_ways 28 = .ok (.getfield 132, 3) := by decide +kernel
theorem dX11_ways_31 : decode cX11_ways 31 = .ok (.invokevirtual 237, 3) := by decide +kernel
theorem dX11_ways_34 : decode cX11_ways 34 = .ok (.aload_n 0, 1) := by decide +kernel
theorem dX11_ways_35 : decode cX11_ways 35 = .ok (.getfield 65, 3) := by decide +kernel
theorem dX11_ways_38 : decode cX11_ways 38 = .ok (.iload_n 1, 1) := by decide +kernel
theorem dX11_ways_39 : decode cX11_ways 39 = .ok (.invokevirtual 241, 3) := by decide +kernel
theorem dX11_ways_42 : decode cX11_ways 42 = .ok (.ireturn, 1) := by decide +kernel
theorem dX11_pivot_0 : decode cX11_pivot 0 = .ok (.aload_n 0, 1) := by decide +kernel
theorem dX11_pivot_1 : decode cX11_pivot 1 = .ok (.getfield 28, 3) := by decide +kernel
theorem dX11_pivot_4 : decode cX11_pivot 4 = .ok (.iload_n 1, 1) := by decide +kernel
theorem dX11_pivot_5 : decode cX11_pivot 5 = .ok (.invokevirtual 129, 3) := by decide +kernel
theorem dX11_pivot_8 : decode cX11_pivot 8 = .ok (.ifCond .ne 5, 3) := by decide +kernel
theorem dX11_pivot_11 : decode cX11_pivot 11 = .ok (.iconst (-1), 1) := by decide +kernel
theorem dX11_pivot_12 : decode cX11_pivot 12 = .ok (.ireturn, 1) := by decide +kernel
theorem dX11_pivot_13 : decode cX11_pivot 13 = .ok (.aload_n 0, 1) := by decide +kernel
theorem dX11_pivot_14 : decode cX11_pivot 14 = .ok (.getfield 65, 3) := by decide +kernel
theorem dX11_pivot_17 : decode cX11_pivot 17 = .ok (.aload_n 0, 1) := by decide +kernel
theorem dX11_pivot_18 : decode cX11_pivot 18 = .ok (.getfield 28, 3) := by decide +kernel
theorem dX11_pivot_21 : decode cX11_pivot 21 = .ok (.getfield 234, 3) := by decide +kernel
theorem dX11_pivot_24 : decode cX11_pivot 24 = .ok (.aload_n 0, 1) := by decide +kernel
theorem dX11_pivot_25 : decode cX11_pivot 25 = .ok (.getfield 48, 3) := by decide +kernel
theorem dX11_pivot_28 : decode cX11_pivot 28 = .ok (.getfield 132, 3) := by decide +kernel
theorem dX11_pivot_31 : decode cX11_pivot 31 = .ok (.invokevirtual 237, 3) := by decide +kernel
theorem dX11_pivot_34 : decode cX11_pivot 34 = .ok (.aload_n 0, 1) := by decide +kernel
theorem dX11_pivot_35 : decode cX11_pivot 35 = .ok (.getfield 65, 3) := by decide +kernel
theorem dX11_pivot_38 : decode cX11_pivot 38 = .ok (.iload_n 1, 1) := by decide +kernel
theorem dX11_pivot_39 : decode cX11_pivot 39 = .ok (.invokevirtual 244, 3) := by decide +kernel
theorem dX11_pivot_42 : decode cX11_pivot 42 = .ok (.ireturn, 1) := by decide +kernel
theorem dX11_power_0 : decode cX11_power 0 = .ok (.aload_n 0, 1) := by decide +kernel
theorem dX11_power_1 : decode cX11_power 1 = .ok (.getfield 28, 3) := by decide +kernel
theorem dX11_power_4 : decode cX11_power 4 = .ok (.iload_n 1, 1) := by decide +kernel
theorem dX11_power_5 : decode cX11_power 5 = .ok (.invokevirtual 129, 3) := by decide +kernel
theorem dX11_power_8 : decode cX11_power 8 = .ok (.ifCond .ne 5, 3) := by decide +kernel
theorem dX11_power_11 : decode cX11_power 11 = .ok (.iconst (-1), 1) := by decide +kernel
theorem dX11_power_12 : decode cX11_power 12 = .ok (.ireturn, 1) := by decide +kernel
theorem dX11_power_13 : decode cX11_power 13 = .ok (.aload_n 0, 1) := by decide +kernel
theorem dX11_power_14 : decode cX11_power 14 = .ok (.getfield 65, 3) := by decide +kernel
theorem dX11_power_17 : decode cX11_power 17 = .ok (.aload_n 0, 1) := by decide +kernel
theorem dX11_power_18 : decode cX11_power 18 = .ok (.getfield 28, 3) := by decide +kernel
theorem dX11_power_21 : decode cX11_power 21 = .ok (.getfield 234, 3) := by decide +kernel
theorem dX11_power_24 : decode cX11_power 24 = .ok (.aload_n 0, 1) := by decide +kernel
theorem dX11_power_25 : decode cX11_power 25 = .ok (.getfield 48, 3) := by decide +kernel
theorem dX11_power_28 : decode cX11_power 28 = .ok (.getfield 132, 3) := by decide +kernel
theorem dX11_power_31 : decode cX11_power 31 = .ok (.invokevirtual 237, 3) := by decide +kernel
theorem dX11_power_34 : decode cX11_power 34 = .ok (.iconst 0, 1) := by decide +kernel
theorem dX11_power_35 : decode cX11_power 35 = .ok (.istore_n 2, 1) := by decide +kernel
theorem dX11_power_36 : decode cX11_power 36 = .ok (.iconst 0, 1) := by decide +kernel
theorem dX11_power_37 : decode cX11_power 37 = .ok (.istore_n 3, 1) := by decide +kernel
theorem dX11_power_38 : decode cX11_power 38 = .ok (.iload_n 3, 1) := by decide +kernel
theorem dX11_power_39 : decode cX11_power 39 = .ok (.aload_n 0, 1) := by decide +kernel
theorem dX11_power_40 : decode cX11_power 40 = .ok (.getfield 28, 3) := by decide +kernel
theorem dX11_power_43 : decode cX11_power 43 = .ok (.getfield 234, 3) := by decide +kernel
theorem dX11_power_46 : decode cX11_power 46 = .ok (.if_icmp .ge 20, 3) := by decide +kernel
theorem dX11_power_49 : decode cX11_power 49 = .ok (.iload_n 2, 1) := by decide +kernel
theorem dX11_power_50 : decode cX11_power 50 = .ok (.aload_n 0, 1) := by decide +kernel
theorem dX11_power_51 : decode cX11_power 51 = .ok (.getfield 65, 3) := by decide +kernel
theorem dX11_power_54 : decode cX11_power 54 = .ok (.iload_n 3, 1) := by decide +kernel
theorem dX11_power_55 : decode cX11_power 55 = .ok (.invokevirtual 244, 3) := by decide +kernel
theorem dX11_power_58 : decode cX11_power 58 = .ok (.iadd, 1) := by decide +kernel
theorem dX11_power_59 : decode cX11_power 59 = .ok (.istore_n 2, 1) := by decide +kernel
theorem dX11_power_60 : decode cX11_power 60 = .ok (.iinc 3 1, 3) := by decide +kernel
theorem dX11_power_63 : decode cX11_power 63 = .ok (.goto (-25), 3) := by decide +kernel
theorem dX11_power_66 : decode cX11_power 66 = .ok (.iload_n 2, 1) := by decide +kernel
theorem dX11_power_67 : decode cX11_power 67 = .ok (.ifCond .gt 7, 3) := by decide +kernel
theorem dX11_power_70 : decode cX11_power 70 = .ok (.iconst (-1), 1) := by decide +kernel
theorem dX11_power_71 : decode cX11_power 71 = .ok (.goto 16, 3) := by decide +kernel
theorem dX11_power_74 : decode cX11_power 74 = .ok (.ldc 247, 2) := by decide +kernel
theorem dX11_power_76 : decode cX11_power 76 = .ok (.aload_n 0, 1) := by decide +kernel
theorem dX11_power_77 : decode cX11_power 77 = .ok (.getfield 65, 3) := by decide +kernel
theorem dX11_power_80 : decode cX11_power 80 = .ok (.iload_n 1, 1) := by decide +kernel
theorem dX11_power_81 : decode cX11_power 81 = .ok (.invokevirtual 244, 3) := by decide +kernel
theorem dX11_power_84 : decode cX11_power 84 = .ok (.imul, 1) := by decide +kernel
theorem dX11_power_85 : decode cX11_power 85 = .ok (.iload_n 2, 1) := by decide +kernel
theorem dX11_power_86 : decode cX11_power 86 = .ok (.idiv, 1) := by decide +kernel
theorem dX11_power_87 : decode cX11_power 87 = .ok (.ireturn, 1) := by decide +kernel
theorem dX11_core_0 : decode cX11_core 0 = .ok (.aload_n 0, 1) := by decide +kernel
theorem dX11_core_1 : decode cX11_core 1 = .ok (.getfield 65, 3) := by decide +kernel
theorem dX11_core_4 : decode cX11_core 4 = .ok (.aload_n 0, 1) := by decide +kernel
theorem dX11_core_5 : decode cX11_core 5 = .ok (.getfield 28, 3) := by decide +kernel
theorem dX11_core_8 : decode cX11_core 8 = .ok (.getfield 234, 3) := by decide +kernel
theorem dX11_core_11 : decode cX11_core 11 = .ok (.aload_n 0, 1) := by decide +kernel
theorem dX11_core_12 : decode cX11_core 12 = .ok (.getfield 48, 3) := by decide +kernel
theorem dX11_core_15 : decode cX11_core 15 = .ok (.getfield 132, 3) := by decide +kernel
theorem dX11_core_18 : decode cX11_core 18 = .ok (.invokevirtual 237, 3) := by decide +kernel
theorem dX11_core_21 : decode cX11_core 21 = .ok (.aload_n 0, 1) := by decide +kernel
theorem dX11_core_22 : decode cX11_core 22 = .ok (.getfield 65, 3) := by decide +kernel
theorem dX11_core_25 : decode cX11_core 25 = .ok (.invokevirtual 248, 3) := by decide +kernel
theorem dX11_core_28 : decode cX11_core 28 = .ok (.ireturn, 1) := by decide +kernel
theorem dX11_lean_0 : decode cX11_lean 0 = .ok (.aload_n 0, 1) := by decide +kernel
theorem dX11_lean_1 : decode cX11_lean 1 = .ok (.getfield 65, 3) := by decide +kernel
theorem dX11_lean_4 : decode cX11_lean 4 = .ok (.aload_n 0, 1) := by decide +kernel
theorem dX11_lean_5 : decode cX11_lean 5 = .ok (.getfield 28, 3) := by decide +kernel
theorem dX11_lean_8 : decode cX11_lean 8 = .ok (.getfield 234, 3) := by decide +kernel
theorem dX11_lean_11 : decode cX11_lean 11 = .ok (.aload_n 0, 1) := by decide +kernel
theorem dX11_lean_12 : decode cX11_lean 12 = .ok (.getfield 48, 3) := by decide +kernel
theorem dX11_lean_15 : decode cX11_lean 15 = .ok (.getfield 132, 3) := by decide +kernel
theorem dX11_lean_18 : decode cX11_lean 18 = .ok (.invokevirtual 237, 3) := by decide +kernel
theorem dX11_lean_21 : decode cX11_lean 21 = .ok (.aload_n 0, 1) := by decide +kernel
theorem dX11_lean_22 : decode cX11_lean 22 = .ok (.getfield 65, 3) := by decide +kernel
theorem dX11_lean_25 : decode cX11_lean 25 = .ok (.invokevirtual 251, 3) := by decide +kernel
theorem dX11_lean_28 : decode cX11_lean 28 = .ok (.ireturn, 1) := by decide +kernel
theorem dX11_shift_0 : decode cX11_shift 0 = .ok (.aload_n 0, 1) := by decide +kernel
theorem dX11_shift_1 : decode cX11_shift 1 = .ok (.getfield 28, 3) := by decide +kernel
theorem dX11_shift_4 : decode cX11_shift 4 = .ok (.iload_n 1, 1) := by decide +kernel
theorem dX11_shift_5 : decode cX11_shift 5 = .ok (.invokevirtual 99, 3) := by decide +kernel
theorem dX11_shift_8 : decode cX11_shift 8 = .ok (.ifCond .eq 12, 3) := by decide +kernel
theorem dX11_shift_11 : decode cX11_shift 11 = .ok (.iload_n 2, 1) := by decide +kernel
theorem dX11_shift_12 : decode cX11_shift 12 = .ok (.ifCond .lt 8, 3) := by decide +kernel
theorem dX11_shift_15 : decode cX11_shift 15 = .ok (.iload_n 2, 1) := by decide +kernel
theorem dX11_shift_16 : decode cX11_shift 16 = .ok (.iconst 2, 1) := by decide +kernel
theorem dX11_shift_17 : decode cX11_shift 17 = .ok (.if_icmp .le 6, 3) := by decide +kernel
theorem dX11_shift_20 : decode cX11_shift 20 = .ok (.bipush (-2), 2) := by decide +kernel
theorem dX11_shift_22 : decode cX11_shift 22 = .ok (.ireturn, 1) := by decide +kernel
theorem dX11_shift_23 : decode cX11_shift 23 = .ok (.aload_n 0, 1) := by decide +kernel
theorem dX11_shift_24 : decode cX11_shift 24 = .ok (.getfield 48, 3) := by decide +kernel
theorem dX11_shift_27 : decode cX11_shift 27 = .ok (.aload_n 0, 1) := by decide +kernel
theorem dX11_shift_28 : decode cX11_shift 28 = .ok (.getfield 28, 3) := by decide +kernel
theorem dX11_shift_31 : decode cX11_shift 31 = .ok (.iload_n 1, 1) := by decide +kernel
theorem dX11_shift_32 : decode cX11_shift 32 = .ok (.invokevirtual 117, 3) := by decide +kernel
theorem dX11_shift_35 : decode cX11_shift 35 = .ok (.aload_n 0, 1) := by decide +kernel
theorem dX11_shift_36 : decode cX11_shift 36 = .ok (.getfield 48, 3) := by decide +kernel
theorem dX11_shift_39 : decode cX11_shift 39 = .ok (.invokevirtual 121, 3) := by decide +kernel
theorem dX11_shift_42 : decode cX11_shift 42 = .ok (.invokestatic 125, 3) := by decide +kernel
theorem dX11_shift_45 : decode cX11_shift 45 = .ok (.iconst 1, 1) := by decide +kernel
theorem dX11_shift_46 : decode cX11_shift 46 = .ok (.if_icmp .ne 13, 3) := by decide +kernel
theorem dX11_shift_49 : decode cX11_shift 49 = .ok (.iload_n 2, 1) := by decide +kernel
theorem dX11_shift_50 : decode cX11_shift 50 = .ok (.ifCond .ne 7, 3) := by decide +kernel
theorem dX11_shift_53 : decode cX11_shift 53 = .ok (.iconst 0, 1) := by decide +kernel
theorem dX11_shift_54 : decode cX11_shift 54 = .ok (.goto 4, 3) := by decide +kernel
theorem dX11_shift_57 : decode cX11_shift 57 = .ok (.iconst (-1), 1) := by decide +kernel
theorem dX11_shift_58 : decode cX11_shift 58 = .ok (.ireturn, 1) := by decide +kernel
theorem dX11_shift_59 : decode cX11_shift 59 = .ok (.iconst 1, 1) := by decide +kernel
theorem dX11_shift_60 : decode cX11_shift 60 = .ok (.istore_n 3, 1) := by decide +kernel
theorem dX11_shift_61 : decode cX11_shift 61 = .ok (.iload_n 3, 1) := by decide +kernel
theorem dX11_shift_62 : decode cX11_shift 62 = .ok (.bipush 20, 2) := by decide +kernel
theorem dX11_shift_64 : decode cX11_shift 64 = .ok (.if_icmp .gt 92, 3) := by decide +kernel
theorem dX11_shift_67 : decode cX11_shift 67 = .ok (.iconst 0, 1) := by decide +kernel
theorem dX11_shift_68 : decode cX11_shift 68 = .ok (.istore 4, 2) := by decide +kernel
theorem dX11_shift_70 : decode cX11_shift 70 = .ok (.iload 4, 2) := by decide +kernel
theorem dX11_shift_72 : decode cX11_shift 72 = .ok (.aload_n 0, 1) := by decide +kernel
theorem dX11_shift_73 : decode cX11_shift 73 = .ok (.getfield 28, 3) := by decide +kernel
theorem dX11_shift_76 : decode cX11_shift 76 = .ok (.getfield 234, 3) := by decide +kernel
theorem dX11_shift_79 : decode cX11_shift 79 = .ok (.if_icmp .ge 71, 3) := by decide +kernel
theorem dX11_shift_82 : decode cX11_shift 82 = .ok (.iconst 0, 1) := by decide +kernel
theorem dX11_shift_83 : decode cX11_shift 83 = .ok (.istore 5, 2) := by decide +kernel
theorem dX11_shift_85 : decode cX11_shift 85 = .ok (.iload 5, 2) := by decide +kernel
theorem dX11_shift_87 : decode cX11_shift 87 = .ok (.aload_n 0, 1) := by decide +kernel
theorem dX11_shift_88 : decode cX11_shift 88 = .ok (.getfield 28, 3) := by decide +kernel
theorem dX11_shift_91 : decode cX11_shift 91 = .ok (.getfield 234, 3) := by decide +kernel
theorem dX11_shift_94 : decode cX11_shift 94 = .ok (.if_icmp .ge 50, 3) := by decide +kernel
theorem dX11_shift_97 : decode cX11_shift 97 = .ok (.aload_n 0, 1) := by decide +kernel
theorem dX11_shift_98 : decode cX11_shift 98 = .ok (.getfield 48, 3) := by decide +kernel
theorem dX11_shift_101 : decode cX11_shift 101 = .ok (.aload_n 0, 1) := by decide +kernel
theorem dX11_shift_102 : decode cX11_shift 102 = .ok (.getfield 28, 3) := by decide +kernel
theorem dX11_shift_105 : decode cX11_shift 105 = .ok (.iload_n 1, 1) := by decide +kernel
theorem dX11_shift_106 : decode cX11_shift 106 = .ok (.iload 4, 2) := by decide +kernel
theorem dX11_shift_108 : decode cX11_shift 108 = .ok (.iload 5, 2) := by decide +kernel
theorem dX11_shift_110 : decode cX11_shift 110 = .ok (.iload_n 3, 1) := by decide +kernel
theorem dX11_shift_111 : decode cX11_shift 111 = .ok (.invokevirtual 254, 3) := by decide +kernel
theorem dX11_shift_114 : decode cX11_shift 114 = .ok (.ifCond .eq 24, 3) := by decide +kernel
theorem dX11_shift_117 : decode cX11_shift 117 = .ok (.iload_n 2, 1) := by decide +kernel
theorem dX11_shift_118 : decode cX11_shift 118 = .ok (.ifCond .ne 7, 3) := by decide +kernel
theorem dX11_shift_121 : decode cX11_shift 121 = .ok (.iload_n 3, 1) := by decide +kernel
theorem dX11_shift_122 : decode cX11_shift 122 = .ok (.goto 15, 3) := by decide +kernel
theorem dX11_shift_125 : decode cX11_shift 125 = .ok (.iload_n 2, 1) := by decide +kernel
theorem dX11_shift_126 : decode cX11_shift 126 = .ok (.iconst 1, 1) := by decide +kernel
theorem dX11_shift_127 : decode cX11_shift 127 = .ok (.if_icmp .ne 8, 3) := by decide +kernel
theorem dX11_shift_130 : decode cX11_shift 130 = .ok (.iload 4, 2) := by decide +kernel
theorem dX11_shift_132 : decode cX11_shift 132 = .ok (.goto 5, 3) := by decide +kernel
theorem dX11_shift_135 : decode cX11_shift 135 = .ok (.iload 5, 2) := by decide +kernel
theorem dX11_shift_137 : decode cX11_shift 137 = .ok (.ireturn, 1) := by decide +kernel
theorem dX11_shift_138 : decode cX11_shift 138 = .ok (.iinc 5 1, 3) := by decide +kernel
theorem dX11_shift_141 : decode cX11_shift 141 = .ok (.goto (-56), 3) := by decide +kernel
theorem dX11_shift_144 : decode cX11_shift 144 = .ok (.iinc 4 1, 3) := by decide +kernel
theorem dX11_shift_147 : decode cX11_shift 147 = .ok (.goto (-77), 3) := by decide +kernel
theorem dX11_shift_150 : decode cX11_shift 150 = .ok (.iinc 3 1, 3) := by decide +kernel
theorem dX11_shift_153 : decode cX11_shift 153 = .ok (.goto (-92), 3) := by decide +kernel
theorem dX11_shift_156 : decode cX11_shift 156 = .ok (.bipush (-2), 2) := by decide +kernel
theorem dX11_shift_158 : decode cX11_shift 158 = .ok (.ireturn, 1) := by decide +kernel
theorem dX11_rival_0 : decode cX11_rival 0 = .ok (.aload_n 0, 1) := by decide +kernel
theorem dX11_rival_1 : decode cX11_rival 1 = .ok (.getfield 28, 3) := by decide +kernel
theorem dX11_rival_4 : decode cX11_rival 4 = .ok (.iload_n 1, 1) := by decide +kernel
theorem dX11_rival_5 : decode cX11_rival 5 = .ok (.invokevirtual 129, 3) := by decide +kernel
theorem dX11_rival_8 : decode cX11_rival 8 = .ok (.ifCond .ne 5, 3) := by decide +kernel
theorem dX11_rival_11 : decode cX11_rival 11 = .ok (.iconst (-1), 1) := by decide +kernel
theorem dX11_rival_12 : decode cX11_rival 12 = .ok (.ireturn, 1) := by decide +kernel
theorem dX11_rival_13 : decode cX11_rival 13 = .ok (.iconst (-1), 1) := by decide +kernel
theorem dX11_rival_14 : decode cX11_rival 14 = .ok (.istore_n 2, 1) := by decide +kernel
theorem dX11_rival_15 : decode cX11_rival 15 = .ok (.iconst 0, 1) := by decide +kernel
theorem dX11_rival_16 : decode cX11_rival 16 = .ok (.istore_n 3, 1) := by decide +kernel
theorem dX11_rival_17 : decode cX11_rival 17 = .ok (.iconst 0, 1) := by decide +kernel
theorem dX11_rival_18 : decode cX11_rival 18 = .ok (.istore 4, 2) := by decide +kernel
theorem dX11_rival_20 : decode cX11_rival 20 = .ok (.iload 4, 2) := by decide +kernel
theorem dX11_rival_22 : decode cX11_rival 22 = .ok (.aload_n 0, 1) := by decide +kernel
theorem dX11_rival_23 : decode cX11_rival 23 = .ok (.getfield 28, 3) := by decide +kernel
theorem dX11_rival_26 : decode cX11_rival 26 = .ok (.getfield 234, 3) := by decide +kernel
theorem dX11_rival_29 : decode cX11_rival 29 = .ok (.if_icmp .ge 44, 3) := by decide +kernel
theorem dX11_rival_32 : decode cX11_rival 32 = .ok (.aload_n 0, 1) := by decide +kernel
theorem dX11_rival_33 : decode cX11_rival 33 = .ok (.getfield 28, 3) := by decide +kernel
theorem dX11_rival_36 : decode cX11_rival 36 = .ok (.iload_n 1, 1) := by decide +kernel
theorem dX11_rival_37 : decode cX11_rival 37 = .ok (.iload 4, 2) := by decide +kernel
theorem dX11_rival_39 : decode cX11_rival 39 = .ok (.invokevirtual 258, 3) := by decide +kernel
theorem dX11_rival_42 : decode cX11_rival 42 = .ok (.istore 5, 2) := by decide +kernel
theorem dX11_rival_44 : decode cX11_rival 44 = .ok (.iload 4, 2) := by decide +kernel
theorem dX11_rival_46 : decode cX11_rival 46 = .ok (.iload_n 1, 1) := by decide +kernel
theorem dX11_rival_47 : decode cX11_rival 47 = .ok (.if_icmp .eq 20, 3) := by decide +kernel
theorem dX11_rival_50 : decode cX11_rival 50 = .ok (.iload_n 2, 1) := by decide +kernel
theorem dX11_rival_51 : decode cX11_rival 51 = .ok (.iconst (-1), 1) := by decide +kernel
theorem dX11_rival_52 : decode cX11_rival 52 = .ok (.if_icmp .eq 9, 3) := by decide +kernel
theorem dX11_rival_55 : decode cX11_rival 55 = .ok (.iload 5, 2) := by decide +kernel
theorem dX11_rival_57 : decode cX11_rival 57 = .ok (.iload_n 3, 1) := by decide +kernel
theorem dX11_rival_58 : decode cX11_rival 58 = .ok (.if_icmp .ge 9, 3) := by decide +kernel
theorem dX11_rival_61 : decode cX11_rival 61 = .ok (.iload 4, 2) := by decide +kernel
theorem dX11_rival_63 : decode cX11_rival 63 = .ok (.istore_n 2, 1) := by decide +kernel
theorem dX11_rival_64 : decode cX11_rival 64 = .ok (.iload 5, 2) := by decide +kernel
theorem dX11_rival_66 : decode cX11_rival 66 = .ok (.istore_n 3, 1) := by decide +kernel
theorem dX11_rival_67 : decode cX11_rival 67 = .ok (.iinc 4 1, 3) := by decide +kernel
theorem dX11_rival_70 : decode cX11_rival 70 = .ok (.goto (-50), 3) := by decide +kernel
theorem dX11_rival_73 : decode cX11_rival 73 = .ok (.iload_n 2, 1) := by decide +kernel
theorem dX11_rival_74 : decode cX11_rival 74 = .ok (.ireturn, 1) := by decide +kernel
theorem dX11_friends_0 : decode cX11_friends 0 = .ok (.iconst 0, 1) := by decide +kernel
theorem dX11_friends_1 : decode cX11_friends 1 = .ok (.istore_n 1, 1) := by decide +kernel
theorem dX11_friends_2 : decode cX11_friends 2 = .ok (.iconst 0, 1) := by decide +kernel
theorem dX11_friends_3 : decode cX11_friends 3 = .ok (.istore_n 2, 1) := by decide +kernel
theorem dX11_friends_4 : decode cX11_friends 4 = .ok (.iload_n 2, 1) := by decide +kernel
theorem dX11_friends_5 : decode cX11_friends 5 = .ok (.aload_n 0, 1) := by decide +kernel
theorem dX11_friends_6 : decode cX11_friends 6 = .ok (.getfield 28, 3) := by decide +kernel
theorem dX11_friends_9 : decode cX11_friends 9 = .ok (.getfield 234, 3) := by decide +kernel
theorem dX11_friends_12 : decode cX11_friends 12 = .ok (.if_icmp .ge 54, 3) := by decide +kernel
theorem dX11_friends_15 : decode cX11_friends 15 = .ok (.iload_n 2, 1) := by decide +kernel
theorem dX11_friends_16 : decode cX11_friends 16 = .ok (.iconst 1, 1) := by decide +kernel
theorem dX11_friends_17 : decode cX11_friends 17 = .ok (.iadd, 1) := by decide +kernel
theorem dX11_friends_18 : decode cX11_friends 18 = .ok (.istore_n 3, 1) := by decide +kernel
theorem dX11_friends_19 : decode cX11_friends 19 = .ok (.iload_n 3, 1) := by decide +kernel
theorem dX11_friends_20 : decode cX11_friends 20 = .ok (.aload_n 0, 1) := by decide +kernel
theorem dX11_friends_21 : decode cX11_friends 21 = .ok (.getfield 28, 3) := by decide +kernel
theorem dX11_friends_24 : decode cX11_friends 24 = .ok (.getfield 234, 3) := by decide +kernel
theorem dX11_friends_27 : decode cX11_friends 27 = .ok (.if_icmp .ge 33, 3) := by decide +kernel
theorem dX11_friends_30 : decode cX11_friends 30 = .ok (.aload_n 0, 1) := by decide +kernel
theorem dX11_friends_31 : decode cX11_friends 31 = .ok (.getfield 28, 3) := by decide +kernel
theorem dX11_friends_34 : decode cX11_friends 34 = .ok (.getfield 135, 3) := by decide +kernel
theorem dX11_friends_37 : decode cX11_friends 37 = .ok (.iload_n 2, 1) := by decide +kernel
theorem dX11_friends_38 : decode cX11_friends 38 = .ok (.iaload, 1) := by decide +kernel
theorem dX11_friends_39 : decode cX11_friends 39 = .ok (.aload_n 0, 1) := by decide +kernel
theorem dX11_friends_40 : decode cX11_friends 40 = .ok (.getfield 28, 3) := by decide +kernel
theorem dX11_friends_43 : decode cX11_friends 43 = .ok (.getfield 135, 3) := by decide +kernel
theorem dX11_friends_46 : decode cX11_friends 46 = .ok (.iload_n 3, 1) := by decide +kernel
theorem dX11_friends_47 : decode cX11_friends 47 = .ok (.iaload, 1) := by decide +kernel
theorem dX11_friends_48 : decode cX11_friends 48 = .ok (.if_icmp .ne 6, 3) := by decide +kernel
theorem dX11_friends_51 : decode cX11_friends 51 = .ok (.iinc 1 1, 3) := by decide +kernel
theorem dX11_friends_54 : decode cX11_friends 54 = .ok (.iinc 3 1, 3) := by decide +kernel
theorem dX11_friends_57 : decode cX11_friends 57 = .ok (.goto (-38), 3) := by decide +kernel
theorem dX11_friends_60 : decode cX11_friends 60 = .ok (.iinc 2 1, 3) := by decide +kernel
theorem dX11_friends_63 : decode cX11_friends 63 = .ok (.goto (-59), 3) := by decide +kernel
theorem dX11_friends_66 : decode cX11_friends 66 = .ok (.iload_n 1, 1) := by decide +kernel
theorem dX11_friends_67 : decode cX11_friends 67 = .ok (.ireturn, 1) := by decide +kernel
theorem dX11_bloc_0 : decode cX11_bloc 0 = .ok (.aload_n 0, 1) := by decide +kernel
theorem dX11_bloc_1 : decode cX11_bloc 1 = .ok (.getfield 28, 3) := by decide +kernel
theorem dX11_bloc_4 : decode cX11_bloc 4 = .ok (.iload_n 1, 1) := by decide +kernel
theorem dX11_bloc_5 : decode cX11_bloc 5 = .ok (.invokevirtual 99, 3) := by decide +kernel
theorem dX11_bloc_8 : decode cX11_bloc 8 = .ok (.ifCond .ne 5, 3) := by decide +kernel
theorem dX11_bloc_11 : decode cX11_bloc 11 = .ok (.iconst (-1), 1) := by decide +kernel
theorem dX11_bloc_12 : decode cX11_bloc 12 = .ok (.ireturn, 1) := by decide +kernel
theorem dX11_bloc_13 : decode cX11_bloc 13 = .ok (.iconst 0, 1) := by decide +kernel
theorem dX11_bloc_14 : decode cX11_bloc 14 = .ok (.istore_n 2, 1) := by decide +kernel
theorem dX11_bloc_15 : decode cX11_bloc 15 = .ok (.iconst 0, 1) := by decide +kernel
theorem dX11_bloc_16 : decode cX11_bloc 16 = .ok (.istore_n 3, 1) := by decide +kernel
theorem dX11_bloc_17 : decode cX11_bloc 17 = .ok (.iload_n 3, 1) := by decide +kernel
theorem dX11_bloc_18 : decode cX11_bloc 18 = .ok (.aload_n 0, 1) := by decide +kernel
theorem dX11_bloc_19 : decode cX11_bloc 19 = .ok (.getfield 28, 3) := by decide +kernel
theorem dX11_bloc_22 : decode cX11_bloc 22 = .ok (.getfield 234, 3) := by decide +kernel
theorem dX11_bloc_25 : decode cX11_bloc 25 = .ok (.if_icmp .ge 27, 3) := by decide +kernel
theorem dX11_bloc_28 : decode cX11_bloc 28 = .ok (.aload_n 0, 1) := by decide +kernel
theorem dX11_bloc_29 : decode cX11_bloc 29 = .ok (.getfield 28, 3) := by decide +kernel
theorem dX11_bloc_32 : decode cX11_bloc 32 = .ok (.iload_n 3, 1) := by decide +kernel
theorem dX11_bloc_33 : decode cX11_bloc 33 = .ok (.iload_n 1, 1) := by decide +kernel
theorem dX11_bloc_34 : decode cX11_bloc 34 = .ok (.invokevirtual 261, 3) := by decide +kernel
theorem dX11_bloc_37 : decode cX11_bloc 37 = .ok (.ifCond .eq 9, 3) := by decide +kernel
theorem dX11_bloc_40 : decode cX11_bloc 40 = .ok (.iload_n 2, 1) := by decide +kernel
theorem dX11_bloc_41 : decode cX11_bloc 41 = .ok (.iconst 1, 1) := by decide +kernel
theorem dX11_bloc_42 : decode cX11_bloc 42 = .ok (.iload_n 3, 1) := by decide +kernel
theorem dX11_bloc_43 : decode cX11_bloc 43 = .ok (.ishl, 1) := by decide +kernel
theorem dX11_bloc_44 : decode cX11_bloc 44 = .ok (.ior, 1) := by decide +kernel
theorem dX11_bloc_45 : decode cX11_bloc 45 = .ok (.istore_n 2, 1) := by decide +kernel
theorem dX11_bloc_46 : decode cX11_bloc 46 = .ok (.iinc 3 1, 3) := by decide +kernel
theorem dX11_bloc_49 : decode cX11_bloc 49 = .ok (.goto (-32), 3) := by decide +kernel
theorem dX11_bloc_52 : decode cX11_bloc 52 = .ok (.iload_n 2, 1) := by decide +kernel
theorem dX11_bloc_53 : decode cX11_bloc 53 = .ok (.ireturn, 1) := by decide +kernel
theorem dX11_orphans_0 : decode cX11_orphans 0 = .ok (.iconst 0, 1) := by decide +kernel
theorem dX11_orphans_1 : decode cX11_orphans 1 = .ok (.istore_n 1, 1) := by decide +kernel
theorem dX11_orphans_2 : decode cX11_orphans 2 = .ok (.iconst 0, 1) := by decide +kernel
theorem dX11_orphans_3 : decode cX11_orphans 3 = .ok (.istore_n 2, 1) := by decide +kernel
theorem dX11_orphans_4 : decode cX11_orphans 4 = .ok (.iload_n 2, 1) := by decide +kernel
theorem dX11_orphans_5 : decode cX11_orphans 5 = .ok (.aload_n 0, 1) := by decide +kernel
theorem dX11_orphans_6 : decode cX11_orphans 6 = .ok (.getfield 28, 3) := by decide +kernel
theorem dX11_orphans_9 : decode cX11_orphans 9 = .ok (.getfield 217, 3) := by decide +kernel
theorem dX11_orphans_12 : decode cX11_orphans 12 = .ok (.if_icmp .ge 30, 3) := by decide +kernel
theorem dX11_orphans_15 : decode cX11_orphans 15 = .ok (.aload_n 0, 1) := by decide +kernel
theorem dX11_orphans_16 : decode cX11_orphans 16 = .ok (.getfield 48, 3) := by decide +kernel
theorem dX11_orphans_19 : decode cX11_orphans 19 = .ok (.aload_n 0, 1) := by decide +kernel
theorem dX11_orphans_20 : decode cX11_orphans 20 = .ok (.getfield 28, 3) := by decide +kernel
theorem dX11_orphans_23 : decode cX11_orphans 23 = .ok (.iload_n 2, 1) := by decide +kernel
theorem dX11_orphans_24 : decode cX11_orphans 24 = .ok (.invokevirtual 117, 3) := by decide +kernel
theorem dX11_orphans_27 : decode cX11_orphans 27 = .ok (.ifCond .ne 9, 3) := by decide +kernel
theorem dX11_orphans_30 : decode cX11_orphans 30 = .ok (.iload_n 1, 1) := by decide +kernel
theorem dX11_orphans_31 : decode cX11_orphans 31 = .ok (.iconst 1, 1) := by decide +kernel
theorem dX11_orphans_32 : decode cX11_orphans 32 = .ok (.iload_n 2, 1) := by decide +kernel
theorem dX11_orphans_33 : decode cX11_orphans 33 = .ok (.ishl, 1) := by decide +kernel
theorem dX11_orphans_34 : decode cX11_orphans 34 = .ok (.ior, 1) := by decide +kernel
theorem dX11_orphans_35 : decode cX11_orphans 35 = .ok (.istore_n 1, 1) := by decide +kernel
theorem dX11_orphans_36 : decode cX11_orphans 36 = .ok (.iinc 2 1, 3) := by decide +kernel
theorem dX11_orphans_39 : decode cX11_orphans 39 = .ok (.goto (-35), 3) := by decide +kernel
theorem dX11_orphans_42 : decode cX11_orphans 42 = .ok (.iload_n 1, 1) := by decide +kernel
theorem dX11_orphans_43 : decode cX11_orphans 43 = .ok (.ireturn, 1) := by decide +kernel
theorem dX11_say_0 : decode cX11_say 0 = .ok (.iload_n 1, 1) := by decide +kernel
theorem dX11_say_1 : decode cX11_say 1 = .ok (.ifCond .lt 9, 3) := by decide +kernel
theorem dX11_say_4 : decode cX11_say 4 = .ok (.iload_n 1, 1) := by decide +kernel
theorem dX11_say_5 : decode cX11_say 5 = .ok (.bipush 30, 2) := by decide +kernel
theorem dX11_say_7 : decode cX11_say 7 = .ok (.if_icmp .le 5, 3) := by decide +kernel
theorem dX11_say_10 : decode cX11_say 10 = .ok (.iconst 0, 1) := by decide +kernel
theorem dX11_say_11 : decode cX11_say 11 = .ok (.ireturn, 1) := by decide +kernel
theorem dX11_say_12 : decode cX11_say 12 = .ok (.aload_n 0, 1) := by decide +kernel
theorem dX11_say_13 : decode cX11_say 13 = .ok (.getfield 58, 3) := by decide +kernel
theorem dX11_say_16 : decode cX11_say 16 = .ok (.iload_n 1, 1) := by decide +kernel
theorem dX11_say_17 : decode cX11_say 17 = .ok (.iload_n 2, 1) := by decide +kernel
theorem dX11_say_18 : decode cX11_say 18 = .ok (.invokevirtual 264, 3) := by decide +kernel
theorem dX11_say_21 : decode cX11_say 21 = .ok (.ireturn, 1) := by decide +kernel
theorem dX11_wholes_0 : decode cX11_wholes 0 = .ok (.iload_n 1, 1) := by decide +kernel
theorem dX11_wholes_1 : decode cX11_wholes 1 = .ok (.ifCond .lt 8, 3) := by decide +kernel
theorem dX11_wholes_4 : decode cX11_wholes 4 = .ok (.iload_n 1, 1) := by decide +kernel
theorem dX11_wholes_5 : decode cX11_wholes 5 = .ok (.iconst 2, 1) := by decide +kernel
theorem dX11_wholes_6 : decode cX11_wholes 6 = .ok (.if_icmp .le 5, 3) := by decide +kernel
theorem dX11_wholes_9 : decode cX11_wholes 9 = .ok (.iconst (-1), 1) := by decide +kernel
theorem dX11_wholes_10 : decode cX11_wholes 10 = .ok (.ireturn, 1) := by decide +kernel
theorem dX11_wholes_11 : decode cX11_wholes 11 = .ok (.aload_n 0, 1) := by decide +kernel
theorem dX11_wholes_12 : decode cX11_wholes 12 = .ok (.getfield 58, 3) := by decide +kernel
theorem dX11_wholes_15 : decode cX11_wholes 15 = .ok (.aload_n 0, 1) := by decide +kernel
theorem dX11_wholes_16 : decode cX11_wholes 16 = .ok (.getfield 28, 3) := by decide +kernel
theorem dX11_wholes_19 : decode cX11_wholes 19 = .ok (.aload_n 0, 1) := by decide +kernel
theorem dX11_wholes_20 : decode cX11_wholes 20 = .ok (.getfield 48, 3) := by decide +kernel
theorem dX11_wholes_23 : decode cX11_wholes 23 = .ok (.getfield 203, 3) := by decide +kernel
theorem dX11_wholes_26 : decode cX11_wholes 26 = .ok (.invokevirtual 268, 3) := by decide +kernel
theorem dX11_wholes_29 : decode cX11_wholes 29 = .ok (.iconst 0, 1) := by decide +kernel
theorem dX11_wholes_30 : decode cX11_wholes 30 = .ok (.istore_n 2, 1) := by decide +kernel
theorem dX11_wholes_31 : decode cX11_wholes 31 = .ok (.iconst (-1), 1) := by decide +kernel
theorem dX11_wholes_32 : decode cX11_wholes 32 = .ok (.istore_n 3, 1) := by decide +kernel
theorem dX11_wholes_33 : decode cX11_wholes 33 = .ok (.iconst (-1), 1) := by decide +kernel
theorem dX11_wholes_34 : decode cX11_wholes 34 = .ok (.istore 4, 2) := by decide +kernel
theorem dX11_wholes_36 : decode cX11_wholes 36 = .ok (.iconst 2, 1) := by decide +kernel
theorem dX11_wholes_37 : decode cX11_wholes 37 = .ok (.istore 5, 2) := by decide +kernel
theorem dX11_wholes_39 : decode cX11_wholes 39 = .ok (.iload 5, 2) := by decide +kernel
theorem dX11_wholes_41 : decode cX11_wholes 41 = .ok (.bipush 60, 2) := by decide +kernel
theorem dX11_wholes_43 : decode cX11_wholes 43 = .ok (.if_icmp .gt 42, 3) := by decide +kernel
theorem dX11_wholes_46 : decode cX11_wholes 46 = .ok (.aload_n 0, 1) := by decide +kernel
theorem dX11_wholes_47 : decode cX11_wholes 47 = .ok (.getfield 58, 3) := by decide +kernel
theorem dX11_wholes_50 : decode cX11_wholes 50 = .ok (.iload 5, 2) := by decide +kernel
theorem dX11_wholes_52 : decode cX11_wholes 52 = .ok (.iconst 2, 1) := by decide +kernel
theorem dX11_wholes_53 : decode cX11_wholes 53 = .ok (.idiv, 1) := by decide +kernel
theorem dX11_wholes_54 : decode cX11_wholes 54 = .ok (.invokevirtual 272, 3) := by decide +kernel
theorem dX11_wholes_57 : decode cX11_wholes 57 = .ok (.ifCond .eq 22, 3) := by decide +kernel
theorem dX11_wholes_60 : decode cX11_wholes 60 = .ok (.iinc 2 1, 3) := by decide +kernel
theorem dX11_wholes_63 : decode cX11_wholes 63 = .ok (.iload_n 3, 1) := by decide +kernel
theorem dX11_wholes_64 : decode cX11_wholes 64 = .ok (.iconst (-1), 1) := by decide +kernel
theorem dX11_wholes_65 : decode cX11_wholes 65 = .ok (.if_icmp .ne 8, 3) := by decide +kernel
theorem dX11_wholes_68 : decode cX11_wholes 68 = .ok (.iload 5, 2) := by decide +kernel
theorem dX11_wholes_70 : decode cX11_wholes 70 = .ok (.goto 4, 3) := by decide +kernel
theorem dX11_wholes_73 : decode cX11_wholes 73 = .ok (.iload_n 3, 1) := by decide +kernel
theorem dX11_wholes_74 : decode cX11_wholes 74 = .ok (.istore_n 3, 1) := by decide +kernel
theorem dX11_wholes_75 : decode cX11_wholes 75 = .ok (.iload 5, 2) := by decide +kernel
theorem dX11_wholes_77 : decode cX11_wholes 77 = .ok (.istore 4, 2) := by decide +kernel
theorem dX11_wholes_79 : decode cX11_wholes 79 = .ok (.iinc 5 1, 3) := by decide +kernel
theorem dX11_wholes_82 : decode cX11_wholes 82 = .ok (.goto (-43), 3) := by decide +kernel
theorem dX11_wholes_85 : decode cX11_wholes 85 = .ok (.iload_n 1, 1) := by decide +kernel
theorem dX11_wholes_86 : decode cX11_wholes 86 = .ok (.ifCond .ne 7, 3) := by decide +kernel
theorem dX11_wholes_89 : decode cX11_wholes 89 = .ok (.iload_n 2, 1) := by decide +kernel
theorem dX11_wholes_90 : decode cX11_wholes 90 = .ok (.goto 14, 3) := by decide +kernel
theorem dX11_wholes_93 : decode cX11_wholes 93 = .ok (.iload_n 1, 1) := by decide +kernel
theorem dX11_wholes_94 : decode cX11_wholes 94 = .ok (.iconst 1, 1) := by decide +kernel
theorem dX11_wholes_95 : decode cX11_wholes 95 = .ok (.if_icmp .ne 7, 3) := by decide +kernel
theorem dX11_wholes_98 : decode cX11_wholes 98 = .ok (.iload_n 3, 1) := by decide +kernel
theorem dX11_wholes_99 : decode cX11_wholes 99 = .ok (.goto 5, 3) := by decide +kernel
theorem dX11_wholes_102 : decode cX11_wholes 102 = .ok (.iload 4, 2) := by decide +kernel
theorem dX11_wholes_104 : decode cX11_wholes 104 = .ok (.ireturn, 1) := by decide +kernel
theorem dX11_ask_0 : decode cX11_ask 0 = .ok (.aload_n 0, 1) := by decide +kernel
theorem dX11_ask_1 : decode cX11_ask 1 = .ok (.getfield 58, 3) := by decide +kernel
theorem dX11_ask_4 : decode cX11_ask 4 = .ok (.aload_n 0, 1) := by decide +kernel
theorem dX11_ask_5 : decode cX11_ask 5 = .ok (.getfield 28, 3) := by decide +kernel
theorem dX11_ask_8 : decode cX11_ask 8 = .ok (.aload_n 0, 1) := by decide +kernel
theorem dX11_ask_9 : decode cX11_ask 9 = .ok (.getfield 48, 3) := by decide +kernel
theorem dX11_ask_12 : decode cX11_ask 12 = .ok (.getfield 203, 3) := by decide +kernel
theorem dX11_ask_15 : decode cX11_ask 15 = .ok (.invokevirtual 268, 3) := by decide +kernel
theorem dX11_ask_18 : decode cX11_ask 18 = .ok (.aload_n 0, 1) := by decide +kernel
theorem dX11_ask_19 : decode cX11_ask 19 = .ok (.getfield 58, 3) := by decide +kernel
theorem dX11_ask_22 : decode cX11_ask 22 = .ok (.invokevirtual 275, 3) := by decide +kernel
theorem dX11_ask_25 : decode cX11_ask 25 = .ok (.ireturn, 1) := by decide +kernel
theorem dX11_chance_0 : decode cX11_chance 0 = .ok (.aload_n 0, 1) := by decide +kernel
theorem dX11_chance_1 : decode cX11_chance 1 = .ok (.getfield 28, 3) := by decide +kernel
theorem dX11_chance_4 : decode cX11_chance 4 = .ok (.iload_n 1, 1) := by decide +kernel
theorem dX11_chance_5 : decode cX11_chance 5 = .ok (.invokevirtual 99, 3) := by decide +kernel
theorem dX11_chance_8 : decode cX11_chance 8 = .ok (.ifCond .eq 18, 3) := by decide +kernel
theorem dX11_chance_11 : decode cX11_chance 11 = .ok (.iload_n 2, 1) := by decide +kernel
theorem dX11_chance_12 : decode cX11_chance 12 = .ok (.iconst 1, 1) := by decide +kernel
theorem dX11_chance_13 : decode cX11_chance 13 = .ok (.if_icmp .lt 13, 3) := by decide +kernel
theorem dX11_chance_16 : decode cX11_chance 16 = .ok (.iload_n 2, 1) := by decide +kernel
theorem dX11_chance_17 : decode cX11_chance 17 = .ok (.bipush 6, 2) := by decide +kernel
theorem dX11_chance_19 : decode cX11_chance 19 = .ok (.if_icmp .gt 7, 3) := by decide +kernel
theorem dX11_chance_22 : decode cX11_chance 22 = .ok (.iconst 1, 1) := by decide +kernel
theorem dX11_chance_23 : decode cX11_chance 23 = .ok (.goto 4, 3) := by decide +kernel
theorem dX11_chance_26 : decode cX11_chance 26 = .ok (.iconst 0, 1) := by decide +kernel
theorem dX11_chance_27 : decode cX11_chance 27 = .ok (.istore 4, 2) := by decide +kernel
theorem dX11_chance_29 : decode cX11_chance 29 = .ok (.iload 4, 2) := by decide +kernel
theorem dX11_chance_31 : decode cX11_chance 31 = .ok (.ifCond .eq 13, 3) := by decide +kernel
theorem dX11_chance_34 : decode cX11_chance 34 = .ok (.iload_n 3, 1) := by decide +kernel
theorem dX11_chance_35 : decode cX11_chance 35 = .ok (.ifCond .lt 9, 3) := by decide +kernel
theorem dX11_chance_38 : decode cX11_chance 38 = .ok (.iload_n 3, 1) := by decide +kernel
theorem dX11_chance_39 : decode cX11_chance 39 = .ok (.bipush 10, 2) := by decide +kernel
theorem dX11_chance_41 : decode cX11_chance 41 = .ok (.if_icmp .le 5, 3) := by decide +kernel
theorem dX11_chance_44 : decode cX11_chance 44 = .ok (.iconst (-1), 1) := by decide +kernel
theorem dX11_chance_45 : decode cX11_chance 45 = .ok (.ireturn, 1) := by decide +kernel
theorem dX11_chance_46 : decode cX11_chance 46 = .ok (.aload_n 0, 1) := by decide +kernel
theorem dX11_chance_47 : decode cX11_chance 47 = .ok (.iload_n 1, 1) := by decide +kernel
theorem dX11_chance_48 : decode cX11_chance 48 = .ok (.aload_n 0, 1) := by decide +kernel
theorem dX11_chance_49 : decode cX11_chance 49 = .ok (.getfield 48, 3) := by decide +kernel
theorem dX11_chance_52 : decode cX11_chance 52 = .ok (.getfield 110, 3) := by decide +kernel
theorem dX11_chance_55 : decode cX11_chance 55 = .ok (.iload_n 1, 1) := by decide +kernel
theorem dX11_chance_56 : decode cX11_chance 56 = .ok (.iaload, 1) := by decide +kernel
theorem dX11_chance_57 : decode cX11_chance 57 = .ok (.aload_n 0, 1) := by decide +kernel
theorem dX11_chance_58 : decode cX11_chance 58 = .ok (.getfield 48, 3) := by decide +kernel
theorem dX11_chance_61 : decode cX11_chance 61 = .ok (.getfield 203, 3) := by decide +kernel
theorem dX11_chance_64 : decode cX11_chance 64 = .ok (.iload_n 2, 1) := by decide +kernel
theorem dX11_chance_65 : decode cX11_chance 65 = .ok (.iload_n 3, 1) := by decide +kernel
theorem dX11_chance_66 : decode cX11_chance 66 = .ok (.invokevirtual 278, 3) := by decide +kernel
theorem dX11_chance_69 : decode cX11_chance 69 = .ok (.istore 5, 2) := by decide +kernel
theorem dX11_chance_71 : decode cX11_chance 71 = .ok (.iload_n 2, 1) := by decide +kernel
theorem dX11_chance_72 : decode cX11_chance 72 = .ok (.istore 6, 2) := by decide +kernel
theorem dX11_chance_74 : decode cX11_chance 74 = .ok (.iload 6, 2) := by decide +kernel
theorem dX11_chance_76 : decode cX11_chance 76 = .ok (.bipush 6, 2) := by decide +kernel
theorem dX11_chance_78 : decode cX11_chance 78 = .ok (.if_icmp .ge 16, 3) := by decide +kernel
theorem dX11_chance_81 : decode cX11_chance 81 = .ok (.iload 5, 2) := by decide +kernel
theorem dX11_chance_83 : decode cX11_chance 83 = .ok (.bipush 10, 2) := by decide +kernel
theorem dX11_chance_85 : decode cX11_chance 85 = .ok (.imul, 1) := by decide +kernel
theorem dX11_chance_86 : decode cX11_chance 86 = .ok (.istore 5, 2) := by decide +kernel
theorem dX11_chance_88 : decode cX11_chance 88 = .ok (.iinc 6 1, 3) := by decide +kernel
theorem dX11_chance_91 : decode cX11_chance 91 = .ok (.goto (-17), 3) := by decide +kernel
theorem dX11_chance_94 : decode cX11_chance 94 = .ok (.iload 5, 2) := by decide +kernel
theorem dX11_chance_96 : decode cX11_chance 96 = .ok (.ireturn, 1) := by decide +kernel
theorem dX11_rests_0 : decode cX11_rests 0 = .ok (.iload_n 1, 1) := by decide +kernel
theorem dX11_rests_1 : decode cX11_rests 1 = .ok (.invokestatic 281, 3) := by decide +kernel
theorem dX11_rests_4 : decode cX11_rests 4 = .ok (.ifCond .eq 17, 3) := by decide +kernel
theorem dX11_rests_7 : decode cX11_rests 7 = .ok (.iload_n 2, 1) := by decide +kernel
theorem dX11_rests_8 : decode cX11_rests 8 = .ok (.invokestatic 281, 3) := by decide +kernel
theorem dX11_rests_11 : decode cX11_rests 11 = .ok (.ifCond .eq 10, 3) := by decide +kernel
theorem dX11_rests_14 : decode cX11_rests 14 = .ok (.iload_n 3, 1) := by decide +kernel
theorem dX11_rests_15 : decode cX11_rests 15 = .ok (.invokestatic 281, 3) := by decide +kernel
theorem dX11_rests_18 : decode cX11_rests 18 = .ok (.ifCond .ne 14, 3) := by decide +kernel
theorem dX11_rests_21 : decode cX11_rests 21 = .ok (.new 284, 3) := by decide +kernel
theorem dX11_rests_24 : decode cX11_rests 24 = .ok (.dup, 1) := by decide +kernel
theorem dX11_rests_25 : decode cX11_rests 25 = .ok (.ldc_w 286, 3) := by decide +kernel
theorem dX11_rests_28 : decode cX11_rests 28 = .ok (.invokespecial 288, 3) := by decide +kernel
theorem dX11_rests_31 : decode cX11_rests 31 = .ok (.athrow, 1) := by decide +kernel
theorem dX11_rests_32 : decode cX11_rests 32 = .ok (.iconst 0, 1) := by decide +kernel
theorem dX11_rests_33 : decode cX11_rests 33 = .ok (.istore 5, 2) := by decide +kernel
theorem dX11_rests_35 : decode cX11_rests 35 = .ok (.iconst 0, 1) := by decide +kernel
theorem dX11_rests_36 : decode cX11_rests 36 = .ok (.istore 6, 2) := by decide +kernel
theorem dX11_rests_38 : decode cX11_rests 38 = .ok (.iload 6, 2) := by decide +kernel
theorem dX11_rests_40 : decode cX11_rests 40 = .ok (.iconst 4, 1) := by decide +kernel
theorem dX11_rests_41 : decode cX11_rests 41 = .ok (.if_icmp .ge 33, 3) := by decide +kernel
theorem dX11_rests_44 : decode cX11_rests 44 = .ok (.iload 6, 2) := by decide +kernel
theorem dX11_rests_46 : decode cX11_rests 46 = .ok (.iload_n 1, 1) := by decide +kernel
theorem dX11_rests_47 : decode cX11_rests 47 = .ok (.iload_n 2, 1) := by decide +kernel
theorem dX11_rests_48 : decode cX11_rests 48 = .ok (.iload_n 3, 1) := by decide +kernel
theorem dX11_rests_49 : decode cX11_rests 49 = .ok (.invokestatic 291, 3) := by decide +kernel
theorem dX11_rests_52 : decode cX11_rests 52 = .ok (.ifCond .eq 16, 3) := by decide +kernel
theorem dX11_rests_55 : decode cX11_rests 55 = .ok (.iload 5, 2) := by decide +kernel
theorem dX11_rests_57 : decode cX11_rests 57 = .ok (.iload 4, 2) := by decide +kernel
theorem dX11_rests_59 : decode cX11_rests 59 = .ok (.if_icmp .ne 6, 3) := by decide +kernel
theorem dX11_rests_62 : decode cX11_rests 62 = .ok (.iload 6, 2) := by decide +kernel
theorem dX11_rests_64 : decode cX11_rests 64 = .ok (.ireturn, 1) := by decide +kernel
theorem dX11_rests_65 : decode cX11_rests 65 = .ok (.iinc 5 1, 3) := by decide +kernel
theorem dX11_rests_68 : decode cX11_rests 68 = .ok (.iinc 6 1, 3) := by decide +kernel
theorem dX11_rests_71 : decode cX11_rests 71 = .ok (.goto (-33), 3) := by decide +kernel
theorem dX11_rests_74 : decode cX11_rests 74 = .ok (.iload 4, 2) := by decide +kernel
theorem dX11_rests_76 : decode cX11_rests 76 = .ok (.iconst (-1), 1) := by decide +kernel
theorem dX11_rests_77 : decode cX11_rests 77 = .ok (.if_icmp .eq 14, 3) := by decide +kernel
theorem dX11_rests_80 : decode cX11_rests 80 = .ok (.new 284, 3) := by decide +kernel
theorem dX11_rests_83 : decode cX11_rests 83 = .ok (.dup, 1) := by decide +kernel
theorem dX11_rests_84 : decode cX11_rests 84 = .ok (.ldc_w 295, 3) := by decide +kernel
theorem dX11_rests_87 : decode cX11_rests 87 = .ok (.invokespecial 288, 3) := by decide +kernel
theorem dX11_rests_90 : decode cX11_rests 90 = .ok (.athrow, 1) := by decide +kernel
theorem dX11_rests_91 : decode cX11_rests 91 = .ok (.iload 5, 2) := by decide +kernel
theorem dX11_rests_93 : decode cX11_rests 93 = .ok (.ireturn, 1) := by decide +kernel
theorem dX11_terms_0 : decode cX11_terms 0 = .ok (.iload_n 1, 1) := by decide +kernel
theorem dX11_terms_1 : decode cX11_terms 1 = .ok (.ifCond .lt 25, 3) := by decide +kernel
theorem dX11_terms_4 : decode cX11_terms 4 = .ok (.iload_n 1, 1) := by decide +kernel
theorem dX11_terms_5 : decode cX11_terms 5 = .ok (.sipush 9999, 3) := by decide +kernel
theorem dX11_terms_8 : decode cX11_terms 8 = .ok (.if_icmp .gt 18, 3) := by decide +kernel
theorem dX11_terms_11 : decode cX11_terms 11 = .ok (.iload_n 2, 1) := by decide +kernel
theorem dX11_terms_12 : decode cX11_terms 12 = .ok (.iconst 1, 1) := by decide +kernel
theorem dX11_terms_13 : decode cX11_terms 13 = .ok (.if_icmp .lt 13, 3) := by decide +kernel
theorem dX11_terms_16 : decode cX11_terms 16 = .ok (.iload_n 2, 1) := by decide +kernel
theorem dX11_terms_17 : decode cX11_terms 17 = .ok (.bipush 99, 2) := by decide +kernel
theorem dX11_terms_19 : decode cX11_terms 19 = .ok (.if_icmp .gt 7, 3) := by decide +kernel
theorem dX11_terms_22 : decode cX11_terms 22 = .ok (.iconst 1, 1) := by decide +kernel
theorem dX11_terms_23 : decode cX11_terms 23 = .ok (.goto 4, 3) := by decide +kernel
theorem dX11_terms_26 : decode cX11_terms 26 = .ok (.iconst 0, 1) := by decide +kernel
theorem dX11_terms_27 : decode cX11_terms 27 = .ok (.istore 4, 2) := by decide +kernel
theorem dX11_terms_29 : decode cX11_terms 29 = .ok (.iload 4, 2) := by decide +kernel
theorem dX11_terms_31 : decode cX11_terms 31 = .ok (.ifCond .eq 12, 3) := by decide +kernel
theorem dX11_terms_34 : decode cX11_terms 34 = .ok (.iload_n 3, 1) := by decide +kernel
theorem dX11_terms_35 : decode cX11_terms 35 = .ok (.ifCond .lt 8, 3) := by decide +kernel
theorem dX11_terms_38 : decode cX11_terms 38 = .ok (.iload_n 3, 1) := by decide +kernel
theorem dX11_terms_39 : decode cX11_terms 39 = .ok (.iconst 2, 1) := by decide +kernel
theorem dX11_terms_40 : decode cX11_terms 40 = .ok (.if_icmp .le 5, 3) := by decide +kernel
theorem dX11_terms_43 : decode cX11_terms 43 = .ok (.iconst (-1), 1) := by decide +kernel
theorem dX11_terms_44 : decode cX11_terms 44 = .ok (.ireturn, 1) := by decide +kernel
theorem dX11_terms_45 : decode cX11_terms 45 = .ok (.aload_n 0, 1) := by decide +kernel
theorem dX11_terms_46 : decode cX11_terms 46 = .ok (.getfield 52, 3) := by decide +kernel
theorem dX11_terms_49 : decode cX11_terms 49 = .ok (.aload_n 0, 1) := by decide +kernel
theorem dX11_terms_50 : decode cX11_terms 50 = .ok (.getfield 48, 3) := by decide +kernel
theorem dX11_terms_53 : decode cX11_terms 53 = .ok (.invokevirtual 182, 3) := by decide +kernel
theorem dX11_terms_56 : decode cX11_terms 56 = .ok (.iload_n 1, 1) := by decide +kernel
theorem dX11_terms_57 : decode cX11_terms 57 = .ok (.i2l, 1) := by decide +kernel
theorem dX11_terms_58 : decode cX11_terms 58 = .ok (.lstore 5, 2) := by decide +kernel
theorem dX11_terms_60 : decode cX11_terms 60 = .ok (.iconst 0, 1) := by decide +kernel
theorem dX11_terms_61 : decode cX11_terms 61 = .ok (.istore 7, 2) := by decide +kernel
theorem dX11_terms_63 : decode cX11_terms 63 = .ok (.iload 7, 2) := by decide +kernel
theorem dX11_terms_65 : decode cX11_terms 65 = .ok (.iload_n 2, 1) := by decide +kernel
theorem dX11_terms_66 : decode cX11_terms 66 = .ok (.if_icmp .ge 29, 3) := by decide +kernel
theorem dX11_terms_69 : decode cX11_terms 69 = .ok (.aload_n 0, 1) := by decide +kernel
theorem dX11_terms_70 : decode cX11_terms 70 = .ok (.lload 5, 2) := by decide +kernel
theorem dX11_terms_72 : decode cX11_terms 72 = .ok (.invokevirtual 297, 3) := by decide +kernel
theorem dX11_terms_75 : decode cX11_terms 75 = .ok (.lstore 5, 2) := by decide +kernel
theorem dX11_terms_77 : decode cX11_terms 77 = .ok (.aload_n 0, 1) := by decide +kernel
theorem dX11_terms_78 : decode cX11_terms 78 = .ok (.getfield 52, 3) := by decide +kernel
theorem dX11_terms_81 : decode cX11_terms 81 = .ok (.aload_n 0, 1) := by decide +kernel
theorem dX11_terms_82 : decode cX11_terms 82 = .ok (.getfield 28, 3) := by decide +kernel
theorem dX11_terms_85 : decode cX11_terms 85 = .ok (.invokevirtual 168, 3) := by decide +kernel
theorem dX11_terms_88 : decode cX11_terms 88 = .ok (.pop, 1) := by decide +kernel
theorem dX11_terms_89 : decode cX11_terms 89 = .ok (.iinc 7 1, 3) := by decide +kernel
theorem dX11_terms_92 : decode cX11_terms 92 = .ok (.goto (-29), 3) := by decide +kernel
theorem dX11_terms_95 : decode cX11_terms 95 = .ok (.iload_n 3, 1) := by decide +kernel
theorem dX11_terms_96 : decode cX11_terms 96 = .ok (.ifCond .ne 21, 3) := by decide +kernel
theorem dX11_terms_99 : decode cX11_terms 99 = .ok (.aload_n 0, 1) := by decide +kernel
theorem dX11_terms_100 : decode cX11_terms 100 = .ok (.getfield 52, 3) := by decide +kernel
theorem dX11_terms_103 : decode cX11_terms 103 = .ok (.getfield 193, 3) := by decide +kernel
theorem dX11_terms_106 : decode cX11_terms 106 = .ok (.aload_n 0, 1) := by decide +kernel
theorem dX11_terms_107 : decode cX11_terms 107 = .ok (.getfield 48, 3) := by decide +kernel
theorem dX11_terms_110 : decode cX11_terms 110 = .ok (.getfield 193, 3) := by decide +kernel
theorem dX11_terms_113 : decode cX11_terms 113 = .ok (.isub, 1) := by decide +kernel
theorem dX11_terms_114 : decode cX11_terms 114 = .ok (.goto 33, 3) := by decide +kernel
theorem dX11_terms_117 : decode cX11_terms 117 = .ok (.iload_n 3, 1) := by decide +kernel
theorem dX11_terms_118 : decode cX11_terms 118 = .ok (.iconst 1, 1) := by decide +kernel
theorem dX11_terms_119 : decode cX11_terms 119 = .ok (.if_icmp .ne 21, 3) := by decide +kernel
theorem dX11_terms_122 : decode cX11_terms 122 = .ok (.aload_n 0, 1) := by decide +kernel
theorem dX11_terms_123 : decode cX11_terms 123 = .ok (.getfield 52, 3) := by decide +kernel
theorem dX11_terms_126 : decode cX11_terms 126 = .ok (.getfield 301, 3) := by decide +kernel
theorem dX11_terms_129 : decode cX11_terms 129 = .ok (.aload_n 0, 1) := by decide +kernel
theorem dX11_terms_130 : decode cX11_terms 130 = .ok (.getfield 48, 3) := by decide +kernel
theorem dX11_terms_133 : decode cX11_terms 133 = .ok (.getfield 301, 3) := by decide +kernel
theorem dX11_terms_136 : decode cX11_terms 136 = .ok (.isub, 1) := by decide +kernel
theorem dX11_terms_137 : decode cX11_terms 137 = .ok (.goto 10, 3) := by decide +kernel
theorem dX11_terms_140 : decode cX11_terms 140 = .ok (.aload_n 0, 1) := by decide +kernel
theorem dX11_terms_141 : decode cX11_terms 141 = .ok (.getfield 52, 3) := by decide +kernel
theorem dX11_terms_144 : decode cX11_terms 144 = .ok (.invokevirtual 304, 3) := by decide +kernel
theorem dX11_terms_147 : decode cX11_terms 147 = .ok (.ireturn, 1) := by decide +kernel
theorem dX11_mark_0 : decode cX11_mark 0 = .ok (.iload_n 1, 1) := by decide +kernel
theorem dX11_mark_1 : decode cX11_mark 1 = .ok (.ifCond .lt 12, 3) := by decide +kernel
theorem dX11_mark_4 : decode cX11_mark 4 = .ok (.iload_n 1, 1) := by decide +kernel
theorem dX11_mark_5 : decode cX11_mark 5 = .ok (.aload_n 0, 1) := by decide +kernel
theorem dX11_mark_6 : decode cX11_mark 6 = .ok (.getfield 75, 3) := by decide +kernel
theorem dX11_mark_9 : decode cX11_mark 9 = .ok (.arraylength, 1) := by decide +kernel
theorem dX11_mark_10 : decode cX11_mark 10 = .ok (.if_icmp .lt 5, 3) := by decide +kernel
theorem dX11_mark_13 : decode cX11_mark 13 = .ok (.iconst 0, 1) := by decide +kernel
theorem dX11_mark_14 : decode cX11_mark 14 = .ok (.ireturn, 1) := by decide +kernel
theorem dX11_mark_15 : decode cX11_mark 15 = .ok (.aload_n 0, 1) := by decide +kernel
theorem dX11_mark_16 : decode cX11_mark 16 = .ok (.getfield 75, 3) := by decide +kernel
theorem dX11_mark_19 : decode cX11_mark 19 = .ok (.iload_n 1, 1) := by decide +kernel
theorem dX11_mark_20 : decode cX11_mark 20 = .ok (.aaload, 1) := by decide +kernel
theorem dX11_mark_21 : decode cX11_mark 21 = .ok (.astore_n 3, 1) := by decide +kernel
theorem dX11_mark_22 : decode cX11_mark 22 = .ok (.iload_n 2, 1) := by decide +kernel
theorem dX11_mark_23 : decode cX11_mark 23 = .ok (.ifCond .ne 21, 3) := by decide +kernel
theorem dX11_mark_26 : decode cX11_mark 26 = .ok (.aload_n 3, 1) := by decide +kernel
theorem dX11_mark_27 : decode cX11_mark 27 = .ok (.aload_n 0, 1) := by decide +kernel
theorem dX11_mark_28 : decode cX11_mark 28 = .ok (.getfield 48, 3) := by decide +kernel
theorem dX11_mark_31 : decode cX11_mark 31 = .ok (.aload_n 0, 1) := by decide +kernel
theorem dX11_mark_32 : decode cX11_mark 32 = .ok (.getfield 38, 3) := by decide +kernel
theorem dX11_mark_35 : decode cX11_mark 35 = .ok (.aload_n 0, 1) := by decide +kernel
theorem dX11_mark_36 : decode cX11_mark 36 = .ok (.getfield 58, 3) := by decide +kernel
theorem dX11_mark_39 : decode cX11_mark 39 = .ok (.invokevirtual 307, 3) := by decide +kernel
theorem dX11_mark_42 : decode cX11_mark 42 = .ok (.iconst 1, 1) := by decide +kernel
theorem dX11_mark_43 : decode cX11_mark 43 = .ok (.ireturn, 1) := by decide +kernel
theorem dX11_mark_44 : decode cX11_mark 44 = .ok (.aload_n 3, 1) := by decide +kernel
theorem dX11_mark_45 : decode cX11_mark 45 = .ok (.getfield 311, 3) := by decide +kernel
theorem dX11_mark_48 : decode cX11_mark 48 = .ok (.ifCond .ne 5, 3) := by decide +kernel
theorem dX11_mark_51 : decode cX11_mark 51 = .ok (.iconst 0, 1) := by decide +kernel
theorem dX11_mark_52 : decode cX11_mark 52 = .ok (.ireturn, 1) := by decide +kernel
theorem dX11_mark_53 : decode cX11_mark 53 = .ok (.aload_n 0, 1) := by decide +kernel
theorem dX11_mark_54 : decode cX11_mark 54 = .ok (.getfield 48, 3) := by decide +kernel
theorem dX11_mark_57 : decode cX11_mark 57 = .ok (.aload_n 3, 1) := by decide +kernel
theorem dX11_mark_58 : decode cX11_mark 58 = .ok (.getfield 315, 3) := by decide +kernel
theorem dX11_mark_61 : decode cX11_mark 61 = .ok (.invokevirtual 182, 3) := by decide +kernel
theorem dX11_mark_64 : decode cX11_mark 64 = .ok (.aload_n 0, 1) := by decide +kernel
theorem dX11_mark_65 : decode cX11_mark 65 = .ok (.getfield 38, 3) := by decide +kernel
theorem dX11_mark_68 : decode cX11_mark 68 = .ok (.aload_n 3, 1) := by decide +kernel
theorem dX11_mark_69 : decode cX11_mark 69 = .ok (.getfield 318, 3) := by decide +kernel
theorem dX11_mark_72 : decode cX11_mark 72 = .ok (.invokevirtual 319, 3) := by decide +kernel
theorem dX11_mark_75 : decode cX11_mark 75 = .ok (.aload_n 0, 1) := by decide +kernel
theorem dX11_mark_76 : decode cX11_mark 76 = .ok (.getfield 58, 3) := by decide +kernel
theorem dX11_mark_79 : decode cX11_mark 79 = .ok (.aload_n 3, 1) := by decide +kernel
theorem dX11_mark_80 : decode cX11_mark 80 = .ok (.getfield 322, 3) := by decide +kernel
theorem dX11_mark_83 : decode cX11_mark 83 = .ok (.invokevirtual 323, 3) := by decide +kernel
theorem dX11_mark_86 : decode cX11_mark 86 = .ok (.aload_n 0, 1) := by decide +kernel
theorem dX11_mark_87 : decode cX11_mark 87 = .ok (.iconst 0, 1) := by decide +kernel
theorem dX11_mark_88 : decode cX11_mark 88 = .ok (.putfield 171, 3) := by decide +kernel
theorem dX11_mark_91 : decode cX11_mark 91 = .ok (.iconst 1, 1) := by decide +kernel
theorem dX11_mark_92 : decode cX11_mark 92 = .ok (.ireturn, 1) := by decide +kernel
theorem dX11_count_0 : decode cX11_count 0 = .ok (.iload_n 1, 1) := by decide +kernel
theorem dX11_count_1 : decode cX11_count 1 = .ok (.tableswitch 172 0 12 #[67, 75, 83, 91, 99, 107, 115, 127, 135, 143, 151, 159, 164], 67) := by decide +kernel
theorem dX11_count_68 : decode cX11_count 68 = .ok (.aload_n 0, 1) := by decide +kernel
theorem dX11_count_69 : decode cX11_count 69 = .ok (.getfield 28, 3) := by decide +kernel
theorem dX11_count_72 : decode cX11_count 72 = .ok (.getfield 217, 3) := by decide +kernel
theorem dX11_count_75 : decode cX11_count 75 = .ok (.ireturn, 1) := by decide +kernel
theorem dX11_count_76 : decode cX11_count 76 = .ok (.aload_n 0, 1) := by decide +kernel
theorem dX11_count_77 : decode cX11_count 77 = .ok (.getfield 28, 3) := by decide +kernel
theorem dX11_count_80 : decode cX11_count 80 = .ok (.getfield 234, 3) := by decide +kernel
theorem dX11_count_83 : decode cX11_count 83 = .ok (.ireturn, 1) := by decide +kernel
theorem dX11_count_84 : decode cX11_count 84 = .ok (.aload_n 0, 1) := by decide +kernel
theorem dX11_count_85 : decode cX11_count 85 = .ok (.getfield 28, 3) := by decide +kernel
theorem dX11_count_88 : decode cX11_count 88 = .ok (.getfield 326, 3) := by decide +kernel
theorem dX11_count_91 : decode cX11_count 91 = .ok (.ireturn, 1) := by decide +kernel
theorem dX11_count_92 : decode cX11_count 92 = .ok (.aload_n 0, 1) := by decide +kernel
theorem dX11_count_93 : decode cX11_count 93 = .ok (.getfield 48, 3) := by decide +kernel
theorem dX11_count_96 : decode cX11_count 96 = .ok (.getfield 203, 3) := by decide +kernel
theorem dX11_count_99 : decode cX11_count 99 = .ok (.ireturn, 1) := by decide +kernel
theorem dX11_count_100 : decode cX11_count 100 = .ok (.aload_n 0, 1) := by decide +kernel
theorem dX11_count_101 : decode cX11_count 101 = .ok (.getfield 48, 3) := by decide +kernel
theorem dX11_count_104 : decode cX11_count 104 = .ok (.getfield 193, 3) := by decide +kernel
theorem dX11_count_107 : decode cX11_count 107 = .ok (.ireturn, 1) := by decide +kernel
theorem dX11_count_108 : decode cX11_count 108 = .ok (.aload_n 0, 1) := by decide +kernel
theorem dX11_count_109 : decode cX11_count 109 = .ok (.getfield 48, 3) := by decide +kernel
theorem dX11_count_112 : decode cX11_count 112 = .ok (.invokevirtual 304, 3) := by decide +kernel
theorem dX11_count_115 : decode cX11_count 115 = .ok (.ireturn, 1) := by decide +kernel
theorem dX11_count_116 : decode cX11_count 116 = .ok (.aload_n 0, 1) := by decide +kernel
theorem dX11_count_117 : decode cX11_count 117 = .ok (.getfield 48, 3) := by decide +kernel
theorem dX11_count_120 : decode cX11_count 120 = .ok (.aload_n 0, 1) := by decide +kernel
theorem dX11_count_121 : decode cX11_count 121 = .ok (.getfield 28, 3) := by decide +kernel
theorem dX11_count_124 : decode cX11_count 124 = .ok (.invokevirtual 220, 3) := by decide +kernel
theorem dX11_count_127 : decode cX11_count 127 = .ok (.ireturn, 1) := by decide +kernel
theorem dX11_count_128 : decode cX11_count 128 = .ok (.aload_n 0, 1) := by decide +kernel
theorem dX11_count_129 : decode cX11_count 129 = .ok (.getfield 48, 3) := by decide +kernel
theorem dX11_count_132 : decode cX11_count 132 = .ok (.invokevirtual 121, 3) := by decide +kernel
theorem dX11_count_135 : decode cX11_count 135 = .ok (.ireturn, 1) := by decide +kernel
theorem dX11_count_136 : decode cX11_count 136 = .ok (.aload_n 0, 1) := by decide +kernel
theorem dX11_count_137 : decode cX11_count 137 = .ok (.getfield 48, 3) := by decide +kernel
theorem dX11_count_140 : decode cX11_count 140 = .ok (.getfield 301, 3) := by decide +kernel
theorem dX11_count_143 : decode cX11_count 143 = .ok (.ireturn, 1) := by decide +kernel
theorem dX11_count_144 : decode cX11_count 144 = .ok (.aload_n 0, 1) := by decide +kernel
theorem dX11_count_145 : decode cX11_count 145 = .ok (.getfield 38, 3) := by decide +kernel
theorem dX11_count_148 : decode cX11_count 148 = .ok (.getfield 190, 3) := by decide +kernel
theorem dX11_count_151 : decode cX11_count 151 = .ok (.ireturn, 1) := by decide +kernel
theorem dX11_count_152 : decode cX11_count 152 = .ok (.aload_n 0, 1) := by decide +kernel
theorem dX11_count_153 : decode cX11_count 153 = .ok (.getfield 58, 3) := by decide +kernel
theorem dX11_count_156 : decode cX11_count 156 = .ok (.getfield 329, 3) := by decide +kernel
theorem dX11_count_159 : decode cX11_count 159 = .ok (.ireturn, 1) := by decide +kernel
theorem dX11_count_160 : decode cX11_count 160 = .ok (.aload_n 0, 1) := by decide +kernel
theorem dX11_count_161 : decode cX11_count 161 = .ok (.getfield 171, 3) := by decide +kernel
theorem dX11_count_164 : decode cX11_count 164 = .ok (.ireturn, 1) := by decide +kernel
theorem dX11_count_165 : decode cX11_count 165 = .ok (.aload_n 0, 1) := by decide +kernel
theorem dX11_count_166 : decode cX11_count 166 = .ok (.getfield 10, 3) := by decide +kernel
theorem dX11_count_169 : decode cX11_count 169 = .ok (.getfield 84, 3) := by decide +kernel
theorem dX11_count_172 : decode cX11_count 172 = .ok (.ireturn, 1) := by decide +kernel
theorem dX11_count_173 : decode cX11_count 173 = .ok (.iconst (-1), 1) := by decide +kernel
theorem dX11_count_174 : decode cX11_count 174 = .ok (.ireturn, 1) := by decide +kernel
theorem dX11_settle_0 : decode cX11_settle 0 = .ok (.aload_n 0, 1) := by decide +kernel
theorem dX11_settle_1 : decode cX11_settle 1 = .ok (.getfield 28, 3) := by decide +kernel
theorem dX11_settle_4 : decode cX11_settle 4 = .ok (.astore_n 1, 1) := by decide +kernel
theorem dX11_settle_5 : decode cX11_settle 5 = .ok (.aload_n 0, 1) := by decide +kernel
theorem dX11_settle_6 : decode cX11_settle 6 = .ok (.aload_n 0, 1) := by decide +kernel
theorem dX11_settle_7 : decode cX11_settle 7 = .ok (.getfield 32, 3) := by decide +kernel
theorem dX11_settle_10 : decode cX11_settle 10 = .ok (.putfield 28, 3) := by decide +kernel
theorem dX11_settle_13 : decode cX11_settle 13 = .ok (.aload_n 0, 1) := by decide +kernel
theorem dX11_settle_14 : decode cX11_settle 14 = .ok (.aload_n 1, 1) := by decide +kernel
theorem dX11_settle_15 : decode cX11_settle 15 = .ok (.putfield 32, 3) := by decide +kernel
theorem dX11_settle_18 : decode cX11_settle 18 = .ok (.aload_n 0, 1) := by decide +kernel
theorem dX11_settle_19 : decode cX11_settle 19 = .ok (.getfield 48, 3) := by decide +kernel
theorem dX11_settle_22 : decode cX11_settle 22 = .ok (.aload_n 0, 1) := by decide +kernel
theorem dX11_settle_23 : decode cX11_settle 23 = .ok (.getfield 28, 3) := by decide +kernel
theorem dX11_settle_26 : decode cX11_settle 26 = .ok (.invokevirtual 186, 3) := by decide +kernel
theorem dX11_settle_29 : decode cX11_settle 29 = .ok (.aload_n 0, 1) := by decide +kernel
theorem dX11_settle_30 : decode cX11_settle 30 = .ok (.getfield 38, 3) := by decide +kernel
theorem dX11_settle_33 : decode cX11_settle 33 = .ok (.iconst 0, 1) := by decide +kernel
theorem dX11_settle_34 : decode cX11_settle 34 = .ok (.putfield 190, 3) := by decide +kernel
theorem dX11_settle_37 : decode cX11_settle 37 = .ok (.aload_n 0, 1) := by decide +kernel
theorem dX11_settle_38 : decode cX11_settle 38 = .ok (.getfield 58, 3) := by decide +kernel
theorem dX11_settle_41 : decode cX11_settle 41 = .ok (.iconst 0, 1) := by decide +kernel
theorem dX11_settle_42 : decode cX11_settle 42 = .ok (.putfield 329, 3) := by decide +kernel
theorem dX11_settle_45 : decode cX11_settle 45 = .ok (.aload_n 0, 1) := by decide +kernel
theorem dX11_settle_46 : decode cX11_settle 46 = .ok (.iconst 0, 1) := by decide +kernel
theorem dX11_settle_47 : decode cX11_settle 47 = .ok (.putfield 171, 3) := by decide +kernel
theorem dX11_settle_50 : decode cX11_settle 50 = .ok (.iconst 0, 1) := by decide +kernel
theorem dX11_settle_51 : decode cX11_settle 51 = .ok (.istore_n 2, 1) := by decide +kernel
theorem dX11_settle_52 : decode cX11_settle 52 = .ok (.iload_n 2, 1) := by decide +kernel
theorem dX11_settle_53 : decode cX11_settle 53 = .ok (.aload_n 0, 1) := by decide +kernel
theorem dX11_settle_54 : decode cX11_settle 54 = .ok (.getfield 75, 3) := by decide +kernel
theorem dX11_settle_57 : decode cX11_settle 57 = .ok (.arraylength, 1) := by decide +kernel
theorem dX11_settle_58 : decode cX11_settle 58 = .ok (.if_icmp .ge 19, 3) := by decide +kernel
theorem dX11_settle_61 : decode cX11_settle 61 = .ok (.aload_n 0, 1) := by decide +kernel
theorem dX11_settle_62 : decode cX11_settle 62 = .ok (.getfield 75, 3) := by decide +kernel
theorem dX11_settle_65 : decode cX11_settle 65 = .ok (.iload_n 2, 1) := by decide +kernel
theorem dX11_settle_66 : decode cX11_settle 66 = .ok (.aaload, 1) := by decide +kernel
theorem dX11_settle_67 : decode cX11_settle 67 = .ok (.iconst 0, 1) := by decide +kernel
theorem dX11_settle_68 : decode cX11_settle 68 = .ok (.putfield 311, 3) := by decide +kernel
theorem dX11_settle_71 : decode cX11_settle 71 = .ok (.iinc 2 1, 3) := by decide +kernel
theorem dX11_settle_74 : decode cX11_settle 74 = .ok (.goto (-22), 3) := by decide +kernel
theorem dX11_settle_77 : decode cX11_settle 77 = .ok (.return_, 1) := by decide +kernel
theorem dX11_keepPast_0 : decode cX11_keepPast 0 = .ok (.aload_n 0, 1) := by decide +kernel
theorem dX11_keepPast_1 : decode cX11_keepPast 1 = .ok (.getfield 69, 3) := by decide +kernel
theorem dX11_keepPast_4 : decode cX11_keepPast 4 = .ok (.aload_n 0, 1) := by decide +kernel
theorem dX11_keepPast_5 : decode cX11_keepPast 5 = .ok (.getfield 174, 3) := by decide +kernel
theorem dX11_keepPast_8 : decode cX11_keepPast 8 = .ok (.aaload, 1) := by decide +kernel
theorem dX11_keepPast_9 : decode cX11_keepPast 9 = .ok (.aload_n 0, 1) := by decide +kernel
theorem dX11_keepPast_10 : decode cX11_keepPast 10 = .ok (.getfield 48, 3) := by decide +kernel
theorem dX11_keepPast_13 : decode cX11_keepPast 13 = .ok (.invokevirtual 182, 3) := by decide +kernel
theorem dX11_keepPast_16 : decode cX11_keepPast 16 = .ok (.aload_n 0, 1) := by decide +kernel
theorem dX11_keepPast_17 : decode cX11_keepPast 17 = .ok (.aload_n 0, 1) := by decide +kernel
theorem dX11_keepPast_18 : decode cX11_keepPast 18 = .ok (.getfield 174, 3) := by decide +kernel
theorem dX11_keepPast_21 : decode cX11_keepPast 21 = .ok (.iconst 1, 1) := by decide +kernel
theorem dX11_keepPast_22 : decode cX11_keepPast 22 = .ok (.iadd, 1) := by decide +kernel
theorem dX11_keepPast_23 : decode cX11_keepPast 23 = .ok (.bipush 16, 2) := by decide +kernel
theorem dX11_keepPast_25 : decode cX11_keepPast 25 = .ok (.invokestatic 177, 3) := by decide +kernel
theorem dX11_keepPast_28 : decode cX11_keepPast 28 = .ok (.putfield 174, 3) := by decide +kernel
theorem dX11_keepPast_31 : decode cX11_keepPast 31 = .ok (.aload_n 0, 1) := by decide +kernel
theorem dX11_keepPast_32 : decode cX11_keepPast 32 = .ok (.aload_n 0, 1) := by decide +kernel
theorem dX11_keepPast_33 : decode cX11_keepPast 33 = .ok (.getfield 171, 3) := by decide +kernel
theorem dX11_keepPast_36 : decode cX11_keepPast 36 = .ok (.iconst 1, 1) := by decide +kernel
theorem dX11_keepPast_37 : decode cX11_keepPast 37 = .ok (.iadd, 1) := by decide +kernel
theorem dX11_keepPast_38 : decode cX11_keepPast 38 = .ok (.bipush 16, 2) := by decide +kernel
theorem dX11_keepPast_40 : decode cX11_keepPast 40 = .ok (.invokestatic 332, 3) := by decide +kernel
theorem dX11_keepPast_43 : decode cX11_keepPast 43 = .ok (.putfield 171, 3) := by decide +kernel
theorem dX11_keepPast_46 : decode cX11_keepPast 46 = .ok (.return_, 1) := by decide +kernel
theorem dX11_weeksToHalf_0 : decode cX11_weeksToHalf 0 = .ok (.aload_n 0, 1) := by decide +kernel
theorem dX11_weeksToHalf_1 : decode cX11_weeksToHalf 1 = .ok (.getfield 28, 3) := by decide +kernel
theorem dX11_weeksToHalf_4 : decode cX11_weeksToHalf 4 = .ok (.iload_n 1, 1) := by decide +kernel
theorem dX11_weeksToHalf_5 : decode cX11_weeksToHalf 5 = .ok (.invokevirtual 113, 3) := by decide +kernel
theorem dX11_weeksToHalf_8 : decode cX11_weeksToHalf 8 = .ok (.istore_n 2, 1) := by decide +kernel
theorem dX11_weeksToHalf_9 : decode cX11_weeksToHalf 9 = .ok (.aload_n 0, 1) := by decide +kernel
theorem dX11_weeksToHalf_10 : decode cX11_weeksToHalf 10 = .ok (.getfield 48, 3) := by decide +kernel
theorem dX11_weeksToHalf_13 : decode cX11_weeksToHalf 13 = .ok (.aload_n 0, 1) := by decide +kernel
theorem dX11_weeksToHalf_14 : decode cX11_weeksToHalf 14 = .ok (.getfield 28, 3) := by decide +kernel
theorem dX11_weeksToHalf_17 : decode cX11_weeksToHalf 17 = .ok (.iload_n 1, 1) := by decide +kernel
theorem dX11_weeksToHalf_18 : decode cX11_weeksToHalf 18 = .ok (.invokevirtual 117, 3) := by decide +kernel
theorem dX11_weeksToHalf_21 : decode cX11_weeksToHalf 21 = .ok (.istore_n 3, 1) := by decide +kernel
theorem dX11_weeksToHalf_22 : decode cX11_weeksToHalf 22 = .ok (.aload_n 0, 1) := by decide +kernel
theorem dX11_weeksToHalf_23 : decode cX11_weeksToHalf 23 = .ok (.getfield 48, 3) := by decide +kernel
theorem dX11_weeksToHalf_26 : decode cX11_weeksToHalf 26 = .ok (.getfield 110, 3) := by decide +kernel
theorem dX11_weeksToHalf_29 : decode cX11_weeksToHalf 29 = .ok (.iload_n 1, 1) := by decide +kernel
theorem dX11_weeksToHalf_30 : decode cX11_weeksToHalf 30 = .ok (.iaload, 1) := by decide +kernel
theorem dX11_weeksToHalf_31 : decode cX11_weeksToHalf 31 = .ok (.istore 4, 2) := by decide +kernel
theorem dX11_weeksToHalf_33 : decode cX11_weeksToHalf 33 = .ok (.iconst 0, 1) := by decide +kernel
theorem dX11_weeksToHalf_34 : decode cX11_weeksToHalf 34 = .ok (.istore 5, 2) := by decide +kernel
theorem dX11_weeksToHalf_36 : decode cX11_weeksToHalf 36 = .ok (.iload 5, 2) := by decide +kernel
theorem dX11_weeksToHalf_38 : decode cX11_weeksToHalf 38 = .ok (.bipush 60, 2) := by decide +kernel
theorem dX11_weeksToHalf_40 : decode cX11_weeksToHalf 40 = .ok (.if_icmp .gt 53, 3) := by decide +kernel
theorem dX11_weeksToHalf_43 : decode cX11_weeksToHalf 43 = .ok (.iload 4, 2) := by decide +kernel
theorem dX11_weeksToHalf_45 : decode cX11_weeksToHalf 45 = .ok (.iload_n 2, 1) := by decide +kernel
theorem dX11_weeksToHalf_46 : decode cX11_weeksToHalf 46 = .ok (.if_icmp .lt 6, 3) := by decide +kernel
theorem dX11_weeksToHalf_49 : decode cX11_weeksToHalf 49 = .ok (.iload 5, 2) := by decide +kernel
theorem dX11_weeksToHalf_51 : decode cX11_weeksToHalf 51 = .ok (.ireturn, 1) := by decide +kernel
theorem dX11_weeksToHalf_52 : decode cX11_weeksToHalf 52 = .ok (.iload 4, 2) := by decide +kernel
theorem dX11_weeksToHalf_54 : decode cX11_weeksToHalf 54 = .ok (.aload_n 0, 1) := by decide +kernel
theorem dX11_weeksToHalf_55 : decode cX11_weeksToHalf 55 = .ok (.getfield 28, 3) := by decide +kernel
theorem dX11_weeksToHalf_58 : decode cX11_weeksToHalf 58 = .ok (.aload_n 0, 1) := by decide +kernel
theorem dX11_weeksToHalf_59 : decode cX11_weeksToHalf 59 = .ok (.getfield 28, 3) := by decide +kernel
theorem dX11_weeksToHalf_62 : decode cX11_weeksToHalf 62 = .ok (.getfield 103, 3) := by decide +kernel
theorem dX11_weeksToHalf_65 : decode cX11_weeksToHalf 65 = .ok (.iload_n 1, 1) := by decide +kernel
theorem dX11_weeksToHalf_66 : decode cX11_weeksToHalf 66 = .ok (.iaload, 1) := by decide +kernel
theorem dX11_weeksToHalf_67 : decode cX11_weeksToHalf 67 = .ok (.iload 4, 2) := by decide +kernel
theorem dX11_weeksToHalf_69 : decode cX11_weeksToHalf 69 = .ok (.iload_n 2, 1) := by decide +kernel
theorem dX11_weeksToHalf_70 : decode cX11_weeksToHalf 70 = .ok (.iload_n 3, 1) := by decide +kernel
theorem dX11_weeksToHalf_71 : decode cX11_weeksToHalf 71 = .ok (.aload_n 0, 1) := by decide +kernel
theorem dX11_weeksToHalf_72 : decode cX11_weeksToHalf 72 = .ok (.getfield 48, 3) := by decide +kernel
theorem dX11_weeksToHalf_75 : decode cX11_weeksToHalf 75 = .ok (.getfield 203, 3) := by decide +kernel
theorem dX11_weeksToHalf_78 : decode cX11_weeksToHalf 78 = .ok (.iload 5, 2) := by decide +kernel
theorem dX11_weeksToHalf_80 : decode cX11_weeksToHalf 80 = .ok (.iadd, 1) := by decide +kernel
theorem dX11_weeksToHalf_81 : decode cX11_weeksToHalf 81 = .ok (.invokevirtual 206, 3) := by decide +kernel
theorem dX11_weeksToHalf_84 : decode cX11_weeksToHalf 84 = .ok (.iadd, 1) := by decide +kernel
theorem dX11_weeksToHalf_85 : decode cX11_weeksToHalf 85 = .ok (.istore 4, 2) := by decide +kernel
theorem dX11_weeksToHalf_87 : decode cX11_weeksToHalf 87 = .ok (.iinc 5 1, 3) := by decide +kernel
theorem dX11_weeksToHalf_90 : decode cX11_weeksToHalf 90 = .ok (.goto (-54), 3) := by decide +kernel
theorem dX11_weeksToHalf_93 : decode cX11_weeksToHalf 93 = .ok (.iconst (-1), 1) := by decide +kernel
theorem dX11_weeksToHalf_94 : decode cX11_weeksToHalf 94 = .ok (.ireturn, 1) := by decide +kernel
theorem dX11_isBetter_0 : decode cX11_isBetter 0 = .ok (.iload_n 1, 1) := by decide +kernel
theorem dX11_isBetter_1 : decode cX11_isBetter 1 = .ok (.invokestatic 229, 3) := by decide +kernel
theorem dX11_isBetter_4 : decode cX11_isBetter 4 = .ok (.iload_n 2, 1) := by decide +kernel
theorem dX11_isBetter_5 : decode cX11_isBetter 5 = .ok (.invokestatic 229, 3) := by decide +kernel
theorem dX11_isBetter_8 : decode cX11_isBetter 8 = .ok (.isub, 1) := by decide +kernel
theorem dX11_isBetter_9 : decode cX11_isBetter 9 = .ok (.istore_n 3, 1) := by decide +kernel
theorem dX11_isBetter_10 : decode cX11_isBetter 10 = .ok (.iload_n 3, 1) := by decide +kernel
theorem dX11_isBetter_11 : decode cX11_isBetter 11 = .ok (.ifCond .gt 34, 3) := by decide +kernel
theorem dX11_isBetter_14 : decode cX11_isBetter 14 = .ok (.iload_n 3, 1) := by decide +kernel
theorem dX11_isBetter_15 : decode cX11_isBetter 15 = .ok (.ifCond .ne 34, 3) := by decide +kernel
theorem dX11_isBetter_18 : decode cX11_isBetter 18 = .ok (.aload_n 0, 1) := by decide +kernel
theorem dX11_isBetter_19 : decode cX11_isBetter 19 = .ok (.getfield 48, 3) := by decide +kernel
theorem dX11_isBetter_22 : decode cX11_isBetter 22 = .ok (.aload_n 0, 1) := by decide +kernel
theorem dX11_isBetter_23 : decode cX11_isBetter 23 = .ok (.getfield 28, 3) := by decide +kernel
theorem dX11_isBetter_26 : decode cX11_isBetter 26 = .ok (.iload_n 1, 1) := by decide +kernel
theorem dX11_isBetter_27 : decode cX11_isBetter 27 = .ok (.invokevirtual 223, 3) := by decide +kernel
theorem dX11_isBetter_30 : decode cX11_isBetter 30 = .ok (.aload_n 0, 1) := by decide +kernel
theorem dX11_isBetter_31 : decode cX11_isBetter 31 = .ok (.getfield 48, 3) := by decide +kernel
theorem dX11_isBetter_34 : decode cX11_isBetter 34 = .ok (.aload_n 0, 1) := by decide +kernel
theorem dX11_isBetter_35 : decode cX11_isBetter 35 = .ok (.getfield 28, 3) := by decide +kernel
theorem dX11_isBetter_38 : decode cX11_isBetter 38 = .ok (.iload_n 2, 1) := by decide +kernel
theorem dX11_isBetter_39 : decode cX11_isBetter 39 = .ok (.invokevirtual 223, 3) := by decide +kernel
theorem dX11_isBetter_42 : decode cX11_isBetter 42 = .ok (.if_icmp .ge 7, 3) := by decide +kernel
theorem dX11_isBetter_45 : decode cX11_isBetter 45 = .ok (.iconst 1, 1) := by decide +kernel
theorem dX11_isBetter_46 : decode cX11_isBetter 46 = .ok (.goto 4, 3) := by decide +kernel
theorem dX11_isBetter_49 : decode cX11_isBetter 49 = .ok (.iconst 0, 1) := by decide +kernel
theorem dX11_isBetter_50 : decode cX11_isBetter 50 = .ok (.ireturn, 1) := by decide +kernel
theorem dX11_finedWays_0 : decode cX11_finedWays 0 = .ok (.iload 4, 2) := by decide +kernel
theorem dX11_finedWays_2 : decode cX11_finedWays 2 = .ok (.ifCond .gt 5, 3) := by decide +kernel
theorem dX11_finedWays_5 : decode cX11_finedWays 5 = .ok (.iconst 0, 1) := by decide +kernel
theorem dX11_finedWays_6 : decode cX11_finedWays 6 = .ok (.ireturn, 1) := by decide +kernel
theorem dX11_finedWays_7 : decode cX11_finedWays 7 = .ok (.aload_n 0, 1) := by decide +kernel
theorem dX11_finedWays_8 : decode cX11_finedWays 8 = .ok (.getfield 28, 3) := by decide +kernel
theorem dX11_finedWays_11 : decode cX11_finedWays 11 = .ok (.iload_n 1, 1) := by decide +kernel
theorem dX11_finedWays_12 : decode cX11_finedWays 12 = .ok (.invokevirtual 113, 3) := by decide +kernel
theorem dX11_finedWays_15 : decode cX11_finedWays 15 = .ok (.istore 6, 2) := by decide +kernel
theorem dX11_finedWays_17 : decode cX11_finedWays 17 = .ok (.aload_n 0, 1) := by decide +kernel
theorem dX11_finedWays_18 : decode cX11_finedWays 18 = .ok (.iload_n 1, 1) := by decide +kernel
theorem dX11_finedWays_19 : decode cX11_finedWays 19 = .ok (.iload_n 2, 1) := by decide +kernel
theorem dX11_finedWays_20 : decode cX11_finedWays 20 = .ok (.iload_n 3, 1) := by decide +kernel
theorem dX11_finedWays_21 : decode cX11_finedWays 21 = .ok (.iconst 1, 1) := by decide +kernel
theorem dX11_finedWays_22 : decode cX11_finedWays 22 = .ok (.iadd, 1) := by decide +kernel
theorem dX11_finedWays_23 : decode cX11_finedWays 23 = .ok (.iload 4, 2) := by decide +kernel
theorem dX11_finedWays_25 : decode cX11_finedWays 25 = .ok (.iconst 1, 1) := by decide +kernel
theorem dX11_finedWays_26 : decode cX11_finedWays 26 = .ok (.isub, 1) := by decide +kernel
theorem dX11_finedWays_27 : decode cX11_finedWays 27 = .ok (.iload 5, 2) := by decide +kernel
theorem dX11_finedWays_29 : decode cX11_finedWays 29 = .ok (.invokevirtual 278, 3) := by decide +kernel
theorem dX11_finedWays_32 : decode cX11_finedWays 32 = .ok (.istore 7, 2) := by decide +kernel
theorem dX11_finedWays_34 : decode cX11_finedWays 34 = .ok (.iload_n 2, 1) := by decide +kernel
theorem dX11_finedWays_35 : decode cX11_finedWays 35 = .ok (.aload_n 0, 1) := by decide +kernel
theorem dX11_finedWays_36 : decode cX11_finedWays 36 = .ok (.getfield 28, 3) := by decide +kernel
theorem dX11_finedWays_39 : decode cX11_finedWays 39 = .ok (.aload_n 0, 1) := by decide +kernel
theorem dX11_finedWays_40 : decode cX11_finedWays 40 = .ok (.getfield 28, 3) := by decide +kernel
theorem dX11_finedWays_43 : decode cX11_finedWays 43 = .ok (.getfield 103, 3) := by decide +kernel
theorem dX11_finedWays_46 : decode cX11_finedWays 46 = .ok (.iload_n 1, 1) := by decide +kernel
theorem dX11_finedWays_47 : decode cX11_finedWays 47 = .ok (.iaload, 1) := by decide +kernel
theorem dX11_finedWays_48 : decode cX11_finedWays 48 = .ok (.iload_n 2, 1) := by decide +kernel
theorem dX11_finedWays_49 : decode cX11_finedWays 49 = .ok (.iload 6, 2) := by decide +kernel
theorem dX11_finedWays_51 : decode cX11_finedWays 51 = .ok (.aload_n 0, 1) := by decide +kernel
theorem dX11_finedWays_52 : decode cX11_finedWays 52 = .ok (.getfield 48, 3) := by decide +kernel
theorem dX11_finedWays_55 : decode cX11_finedWays 55 = .ok (.aload_n 0, 1) := by decide +kernel
theorem dX11_finedWays_56 : decode cX11_finedWays 56 = .ok (.getfield 28, 3) := by decide +kernel
theorem dX11_finedWays_59 : decode cX11_finedWays 59 = .ok (.iload_n 1, 1) := by decide +kernel
theorem dX11_finedWays_60 : decode cX11_finedWays 60 = .ok (.invokevirtual 117, 3) := by decide +kernel
theorem dX11_finedWays_63 : decode cX11_finedWays 63 = .ok (.iload_n 3, 1) := by decide +kernel
theorem dX11_finedWays_64 : decode cX11_finedWays 64 = .ok (.invokevirtual 206, 3) := by decide +kernel
theorem dX11_finedWays_67 : decode cX11_finedWays 67 = .ok (.iadd, 1) := by decide +kernel
theorem dX11_finedWays_68 : decode cX11_finedWays 68 = .ok (.istore 8, 2) := by decide +kernel
theorem dX11_finedWays_70 : decode cX11_finedWays 70 = .ok (.iconst 1, 1) := by decide +kernel
theorem dX11_finedWays_71 : decode cX11_finedWays 71 = .ok (.istore 9, 2) := by decide +kernel
theorem dX11_finedWays_73 : decode cX11_finedWays 73 = .ok (.iload 8, 2) := by decide +kernel
theorem dX11_finedWays_75 : decode cX11_finedWays 75 = .ok (.iload 6, 2) := by decide +kernel
theorem dX11_finedWays_77 : decode cX11_finedWays 77 = .ok (.if_icmp .le 29, 3) := by decide +kernel
theorem dX11_finedWays_80 : decode cX11_finedWays 80 = .ok (.iconst 1, 1) := by decide +kernel
theorem dX11_finedWays_81 : decode cX11_finedWays 81 = .ok (.istore 10, 2) := by decide +kernel
theorem dX11_finedWays_83 : decode cX11_finedWays 83 = .ok (.iload 10, 2) := by decide +kernel
theorem dX11_finedWays_85 : decode cX11_finedWays 85 = .ok (.iload 4, 2) := by decide +kernel
theorem dX11_finedWays_87 : decode cX11_finedWays 87 = .ok (.if_icmp .ge 16, 3) := by decide +kernel
theorem dX11_finedWays_90 : decode cX11_finedWays 90 = .ok (.iload 9, 2) := by decide +kernel
theorem dX11_finedWays_92 : decode cX11_finedWays 92 = .ok (.bipush 10, 2) := by decide +kernel
theorem dX11_finedWays_94 : decode cX11_finedWays 94 = .ok (.imul, 1) := by decide +kernel
theorem dX11_finedWays_95 : decode cX11_finedWays 95 = .ok (.istore 9, 2) := by decide +kernel
theorem dX11_finedWays_97 : decode cX11_finedWays 97 = .ok (.iinc 10 1, 3) := by decide +kernel
theorem dX11_finedWays_100 : decode cX11_finedWays 100 = .ok (.goto (-17), 3) := by decide +kernel
theorem dX11_finedWays_103 : decode cX11_finedWays 103 = .ok (.goto 21, 3) := by decide +kernel
theorem dX11_finedWays_106 : decode cX11_finedWays 106 = .ok (.aload_n 0, 1) := by decide +kernel
theorem dX11_finedWays_107 : decode cX11_finedWays 107 = .ok (.iload_n 1, 1) := by decide +kernel
theorem dX11_finedWays_108 : decode cX11_finedWays 108 = .ok (.iload 8, 2) := by decide +kernel
theorem dX11_finedWays_110 : decode cX11_finedWays 110 = .ok (.iload_n 3, 1) := by decide +kernel
theorem dX11_finedWays_111 : decode cX11_finedWays 111 = .ok (.iconst 1, 1) := by decide +kernel
theorem dX11_finedWays_112 : decode cX11_finedWays 112 = .ok (.iadd, 1) := by decide +kernel
theorem dX11_finedWays_113 : decode cX11_finedWays 113 = .ok (.iload 4, 2) := by decide +kernel
theorem dX11_finedWays_115 : decode cX11_finedWays 115 = .ok (.iconst 1, 1) := by decide +kernel
theorem dX11_finedWays_116 : decode cX11_finedWays 116 = .ok (.isub, 1) := by decide +kernel
theorem dX11_finedWays_117 : decode cX11_finedWays 117 = .ok (.iload 5, 2) := by decide +kernel
theorem dX11_finedWays_119 : decode cX11_finedWays 119 = .ok (.invokevirtual 278, 3) := by decide +kernel
theorem dX11_finedWays_122 : decode cX11_finedWays 122 = .ok (.istore 9, 2) := by decide +kernel
theorem dX11_finedWays_124 : decode cX11_finedWays 124 = .ok (.iload 5, 2) := by decide +kernel
theorem dX11_finedWays_126 : decode cX11_finedWays 126 = .ok (.iload 7, 2) := by decide +kernel
theorem dX11_finedWays_128 : decode cX11_finedWays 128 = .ok (.imul, 1) := by decide +kernel
theorem dX11_finedWays_129 : decode cX11_finedWays 129 = .ok (.bipush 10, 2) := by decide +kernel
theorem dX11_finedWays_131 : decode cX11_finedWays 131 = .ok (.iload 5, 2) := by decide +kernel
theorem dX11_finedWays_133 : decode cX11_finedWays 133 = .ok (.isub, 1) := by decide +kernel
theorem dX11_finedWays_134 : decode cX11_finedWays 134 = .ok (.iload 9, 2) := by decide +kernel
theorem dX11_finedWays_136 : decode cX11_finedWays 136 = .ok (.imul, 1) := by decide +kernel
theorem dX11_finedWays_137 : decode cX11_finedWays 137 = .ok (.iadd, 1) := by decide +kernel
theorem dX11_finedWays_138 : decode cX11_finedWays 138 = .ok (.ireturn, 1) := by decide +kernel
theorem dX11_drawDeed_0 : decode cX11_drawDeed 0 = .ok (.aload_n 0, 1) := by decide +kernel
theorem dX11_drawDeed_1 : decode cX11_drawDeed 1 = .ok (.getfield 28, 3) := by decide +kernel
theorem dX11_drawDeed_4 : decode cX11_drawDeed 4 = .ok (.getfield 217, 3) := by decide +kernel
theorem dX11_drawDeed_7 : decode cX11_drawDeed 7 = .ok (.ifCond .gt 5, 3) := by decide +kernel
theorem dX11_drawDeed_10 : decode cX11_drawDeed 10 = .ok (.lload_n 1, 1) := by decide +kernel
theorem dX11_drawDeed_11 : decode cX11_drawDeed 11 = .ok (.lreturn, 1) := by decide +kernel
theorem dX11_drawDeed_12 : decode cX11_drawDeed 12 = .ok (.lload_n 1, 1) := by decide +kernel
theorem dX11_drawDeed_13 : decode cX11_drawDeed 13 = .ok (.invokestatic 335, 3) := by decide +kernel
theorem dX11_drawDeed_16 : decode cX11_drawDeed 16 = .ok (.lstore_n 3, 1) := by decide +kernel
theorem dX11_drawDeed_17 : decode cX11_drawDeed 17 = .ok (.lload_n 3, 1) := by decide +kernel
theorem dX11_drawDeed_18 : decode cX11_drawDeed 18 = .ok (.aload_n 0, 1) := by decide +kernel
theorem dX11_drawDeed_19 : decode cX11_drawDeed 19 = .ok (.getfield 28, 3) := by decide +kernel
theorem dX11_drawDeed_22 : decode cX11_drawDeed 22 = .ok (.getfield 217, 3) := by decide +kernel
theorem dX11_drawDeed_25 : decode cX11_drawDeed 25 = .ok (.invokestatic 338, 3) := by decide +kernel
theorem dX11_drawDeed_28 : decode cX11_drawDeed 28 = .ok (.istore 5, 2) := by decide +kernel
theorem dX11_drawDeed_30 : decode cX11_drawDeed 30 = .ok (.lload_n 3, 1) := by decide +kernel
theorem dX11_drawDeed_31 : decode cX11_drawDeed 31 = .ok (.invokestatic 335, 3) := by decide +kernel
theorem dX11_drawDeed_34 : decode cX11_drawDeed 34 = .ok (.lstore_n 3, 1) := by decide +kernel
theorem dX11_drawDeed_35 : decode cX11_drawDeed 35 = .ok (.lload_n 3, 1) := by decide +kernel
theorem dX11_drawDeed_36 : decode cX11_drawDeed 36 = .ok (.iconst 5, 1) := by decide +kernel
theorem dX11_drawDeed_37 : decode cX11_drawDeed 37 = .ok (.invokestatic 338, 3) := by decide +kernel
theorem dX11_drawDeed_40 : decode cX11_drawDeed 40 = .ok (.istore 6, 2) := by decide +kernel
theorem dX11_drawDeed_42 : decode cX11_drawDeed 42 = .ok (.iload 6, 2) := by decide +kernel
theorem dX11_drawDeed_44 : decode cX11_drawDeed 44 = .ok (.iconst 2, 1) := by decide +kernel
theorem dX11_drawDeed_45 : decode cX11_drawDeed 45 = .ok (.if_icmp .le 5, 3) := by decide +kernel
theorem dX11_drawDeed_48 : decode cX11_drawDeed 48 = .ok (.lload_n 3, 1) := by decide +kernel
theorem dX11_drawDeed_49 : decode cX11_drawDeed 49 = .ok (.lreturn, 1) := by decide +kernel
theorem dX11_drawDeed_50 : decode cX11_drawDeed 50 = .ok (.lload_n 3, 1) := by decide +kernel
theorem dX11_drawDeed_51 : decode cX11_drawDeed 51 = .ok (.invokestatic 335, 3) := by decide +kernel
theorem dX11_drawDeed_54 : decode cX11_drawDeed 54 = .ok (.lstore_n 3, 1) := by decide +kernel
theorem dX11_drawDeed_55 : decode cX11_drawDeed 55 = .ok (.iload 6, 2) := by decide +kernel
theorem dX11_drawDeed_57 : decode cX11_drawDeed 57 = .ok (.ifCond .ne 23, 3) := by decide +kernel
theorem dX11_drawDeed_60 : decode cX11_drawDeed 60 = .ok (.aload_n 0, 1) := by decide +kernel
theorem dX11_drawDeed_61 : decode cX11_drawDeed 61 = .ok (.getfield 52, 3) := by decide +kernel
theorem dX11_drawDeed_64 : decode cX11_drawDeed 64 = .ok (.iload 5, 2) := by decide +kernel
theorem dX11_drawDeed_66 : decode cX11_drawDeed 66 = .ok (.lload_n 3, 1) := by decide +kernel
theorem dX11_drawDeed_67 : decode cX11_drawDeed 67 = .ok (.bipush 20, 2) := by decide +kernel
theorem dX11_drawDeed_69 : decode cX11_drawDeed 69 = .ok (.invokestatic 338, 3) := by decide +kernel
theorem dX11_drawDeed_72 : decode cX11_drawDeed 72 = .ok (.iconst 1, 1) := by decide +kernel
theorem dX11_drawDeed_73 : decode cX11_drawDeed 73 = .ok (.iadd, 1) := by decide +kernel
theorem dX11_drawDeed_74 : decode cX11_drawDeed 74 = .ok (.invokevirtual 148, 3) := by decide +kernel
theorem dX11_drawDeed_77 : decode cX11_drawDeed 77 = .ok (.goto 80, 3) := by decide +kernel
theorem dX11_drawDeed_80 : decode cX11_drawDeed 80 = .ok (.iload 6, 2) := by decide +kernel
theorem dX11_drawDeed_82 : decode cX11_drawDeed 82 = .ok (.iconst 1, 1) := by decide +kernel
theorem dX11_drawDeed_83 : decode cX11_drawDeed 83 = .ok (.if_icmp .ne 28, 3) := by decide +kernel
theorem dX11_drawDeed_86 : decode cX11_drawDeed 86 = .ok (.aload_n 0, 1) := by decide +kernel
theorem dX11_drawDeed_87 : decode cX11_drawDeed 87 = .ok (.getfield 52, 3) := by decide +kernel
theorem dX11_drawDeed_90 : decode cX11_drawDeed 90 = .ok (.aload_n 0, 1) := by decide +kernel
theorem dX11_drawDeed_91 : decode cX11_drawDeed 91 = .ok (.getfield 28, 3) := by decide +kernel
theorem dX11_drawDeed_94 : decode cX11_drawDeed 94 = .ok (.iload 5, 2) := by decide +kernel
theorem dX11_drawDeed_96 : decode cX11_drawDeed 96 = .ok (.lload_n 3, 1) := by decide +kernel
theorem dX11_drawDeed_97 : decode cX11_drawDeed 97 = .ok (.bipush 20, 2) := by decide +kernel
theorem dX11_drawDeed_99 : decode cX11_drawDeed 99 = .ok (.invokestatic 338, 3) := by decide +kernel
theorem dX11_drawDeed_102 : decode cX11_drawDeed 102 = .ok (.iconst 1, 1) := by decide +kernel
theorem dX11_drawDeed_103 : decode cX11_drawDeed 103 = .ok (.iadd, 1) := by decide +kernel
theorem dX11_drawDeed_104 : decode cX11_drawDeed 104 = .ok (.invokevirtual 144, 3) := by decide +kernel
theorem dX11_drawDeed_107 : decode cX11_drawDeed 107 = .ok (.pop, 1) := by decide +kernel
theorem dX11_drawDeed_108 : decode cX11_drawDeed 108 = .ok (.goto 49, 3) := by decide +kernel
theorem dX11_drawDeed_111 : decode cX11_drawDeed 111 = .ok (.lload_n 3, 1) := by decide +kernel
theorem dX11_drawDeed_112 : decode cX11_drawDeed 112 = .ok (.aload_n 0, 1) := by decide +kernel
theorem dX11_drawDeed_113 : decode cX11_drawDeed 113 = .ok (.getfield 28, 3) := by decide +kernel
theorem dX11_drawDeed_116 : decode cX11_drawDeed 116 = .ok (.getfield 217, 3) := by decide +kernel
theorem dX11_drawDeed_119 : decode cX11_drawDeed 119 = .ok (.invokestatic 338, 3) := by decide +kernel
theorem dX11_drawDeed_122 : decode cX11_drawDeed 122 = .ok (.istore 7, 2) := by decide +kernel
theorem dX11_drawDeed_124 : decode cX11_drawDeed 124 = .ok (.aload_n 0, 1) := by decide +kernel
theorem dX11_drawDeed_125 : decode cX11_drawDeed 125 = .ok (.getfield 52, 3) := by decide +kernel
theorem dX11_drawDeed_128 : decode cX11_drawDeed 128 = .ok (.aload_n 0, 1) := by decide +kernel
theorem dX11_drawDeed_129 : decode cX11_drawDeed 129 = .ok (.getfield 28, 3) := by decide +kernel
theorem dX11_drawDeed_132 : decode cX11_drawDeed 132 = .ok (.iload 5, 2) := by decide +kernel
theorem dX11_drawDeed_134 : decode cX11_drawDeed 134 = .ok (.iload 7, 2) := by decide +kernel
theorem dX11_drawDeed_136 : decode cX11_drawDeed 136 = .ok (.invokevirtual 152, 3) := by decide +kernel
theorem dX11_drawDeed_139 : decode cX11_drawDeed 139 = .ok (.ifCond .eq 18, 3) := by decide +kernel
theorem dX11_drawDeed_142 : decode cX11_drawDeed 142 = .ok (.aload_n 0, 1) := by decide +kernel
theorem dX11_drawDeed_143 : decode cX11_drawDeed 143 = .ok (.getfield 52, 3) := by decide +kernel
theorem dX11_drawDeed_146 : decode cX11_drawDeed 146 = .ok (.aload_n 0, 1) := by decide +kernel
theorem dX11_drawDeed_147 : decode cX11_drawDeed 147 = .ok (.getfield 28, 3) := by decide +kernel
theorem dX11_drawDeed_150 : decode cX11_drawDeed 150 = .ok (.iload 5, 2) := by decide +kernel
theorem dX11_drawDeed_152 : decode cX11_drawDeed 152 = .ok (.iload 7, 2) := by decide +kernel
theorem dX11_drawDeed_154 : decode cX11_drawDeed 154 = .ok (.invokevirtual 156, 3) := by decide +kernel
theorem dX11_drawDeed_157 : decode cX11_drawDeed 157 = .ok (.lload_n 3, 1) := by decide +kernel
theorem dX11_drawDeed_158 : decode cX11_drawDeed 158 = .ok (.lreturn, 1) := by decide +kernel
theorem dX11_nextDraw_0 : decode cX11_nextDraw 0 = .ok (.lload_n 0, 1) := by decide +kernel
theorem dX11_nextDraw_1 : decode cX11_nextDraw 1 = .ok (.ldc2_w 342, 3) := by decide +kernel
theorem dX11_nextDraw_4 : decode cX11_nextDraw 4 = .ok (.lmul, 1) := by decide +kernel
theorem dX11_nextDraw_5 : decode cX11_nextDraw 5 = .ok (.ldc2_w 344, 3) := by decide +kernel
theorem dX11_nextDraw_8 : decode cX11_nextDraw 8 = .ok (.ladd, 1) := by decide +kernel
theorem dX11_nextDraw_9 : decode cX11_nextDraw 9 = .ok (.ldc2_w 346, 3) := by decide +kernel
theorem dX11_nextDraw_12 : decode cX11_nextDraw 12 = .ok (.lrem, 1) := by decide +kernel
theorem dX11_nextDraw_13 : decode cX11_nextDraw 13 = .ok (.lreturn, 1) := by decide +kernel
theorem dX11_drawn_0 : decode cX11_drawn 0 = .ok (.iload_n 2, 1) := by decide +kernel
theorem dX11_drawn_1 : decode cX11_drawn 1 = .ok (.ifCond .gt 7, 3) := by decide +kernel
theorem dX11_drawn_4 : decode cX11_drawn 4 = .ok (.iconst 0, 1) := by decide +kernel
theorem dX11_drawn_5 : decode cX11_drawn 5 = .ok (.goto 12, 3) := by decide +kernel
theorem dX11_drawn_8 : decode cX11_drawn 8 = .ok (.lload_n 0, 1) := by decide +kernel
theorem dX11_drawn_9 : decode cX11_drawn 9 = .ok (.ldc2_w 348, 3) := by decide +kernel
theorem dX11_drawn_12 : decode cX11_drawn 12 = .ok (.ldiv, 1) := by decide +kernel
theorem dX11_drawn_13 : decode cX11_drawn 13 = .ok (.iload_n 2, 1) := by decide +kernel
theorem dX11_drawn_14 : decode cX11_drawn 14 = .ok (.i2l, 1) := by decide +kernel
theorem dX11_drawn_15 : decode cX11_drawn 15 = .ok (.lrem, 1) := by decide +kernel
theorem dX11_drawn_16 : decode cX11_drawn 16 = .ok (.l2i, 1) := by decide +kernel
theorem dX11_drawn_17 : decode cX11_drawn 17 = .ok (.ireturn, 1) := by decide +kernel
theorem dX11_isLot_0 : decode cX11_isLot 0 = .ok (.iload_n 0, 1) := by decide +kernel
theorem dX11_isLot_1 : decode cX11_isLot 1 = .ok (.iconst 1, 1) := by decide +kernel
theorem dX11_isLot_2 : decode cX11_isLot 2 = .ok (.if_icmp .lt 13, 3) := by decide +kernel
theorem dX11_isLot_5 : decode cX11_isLot 5 = .ok (.iload_n 0, 1) := by decide +kernel
theorem dX11_isLot_6 : decode cX11_isLot 6 = .ok (.bipush 20, 2) := by decide +kernel
theorem dX11_isLot_8 : decode cX11_isLot 8 = .ok (.if_icmp .gt 7, 3) := by decide +kernel
theorem dX11_isLot_11 : decode cX11_isLot 11 = .ok (.iconst 1, 1) := by decide +kernel
theorem dX11_isLot_12 : decode cX11_isLot 12 = .ok (.goto 4, 3) := by decide +kernel
theorem dX11_isLot_15 : decode cX11_isLot 15 = .ok (.iconst 0, 1) := by decide +kernel
theorem dX11_isLot_16 : decode cX11_isLot 16 = .ok (.ireturn, 1) := by decide +kernel
theorem dX11_isStake_0 : decode cX11_isStake 0 = .ok (.iload_n 0, 1) := by decide +kernel
theorem dX11_isStake_1 : decode cX11_isStake 1 = .ok (.ifCond .lt 13, 3) := by decide +kernel
theorem dX11_isStake_4 : decode cX11_isStake 4 = .ok (.iload_n 0, 1) := by decide +kernel
theorem dX11_isStake_5 : decode cX11_isStake 5 = .ok (.bipush 9, 2) := by decide +kernel
theorem dX11_isStake_7 : decode cX11_isStake 7 = .ok (.if_icmp .gt 7, 3) := by decide +kernel
theorem dX11_isStake_10 : decode cX11_isStake 10 = .ok (.iconst 1, 1) := by decide +kernel
theorem dX11_isStake_11 : decode cX11_isStake 11 = .ok (.goto 4, 3) := by decide +kernel
theorem dX11_isStake_14 : decode cX11_isStake 14 = .ok (.iconst 0, 1) := by decide +kernel
theorem dX11_isStake_15 : decode cX11_isStake 15 = .ok (.ireturn, 1) := by decide +kernel
theorem dX11_isAtRest_0 : decode cX11_isAtRest 0 = .ok (.iload_n 0, 1) := by decide +kernel
theorem dX11_isAtRest_1 : decode cX11_isAtRest 1 = .ok (.iconst 2, 1) := by decide +kernel
theorem dX11_isAtRest_2 : decode cX11_isAtRest 2 = .ok (.idiv, 1) := by decide +kernel
theorem dX11_isAtRest_3 : decode cX11_isAtRest 3 = .ok (.istore 4, 2) := by decide +kernel
theorem dX11_isAtRest_5 : decode cX11_isAtRest 5 = .ok (.iload_n 0, 1) := by decide +kernel
theorem dX11_isAtRest_6 : decode cX11_isAtRest 6 = .ok (.iconst 2, 1) := by decide +kernel
theorem dX11_isAtRest_7 : decode cX11_isAtRest 7 = .ok (.irem, 1) := by decide +kernel
theorem dX11_isAtRest_8 : decode cX11_isAtRest 8 = .ok (.istore 5, 2) := by decide +kernel
theorem dX11_isAtRest_10 : decode cX11_isAtRest 10 = .ok (.iload 4, 2) := by decide +kernel
theorem dX11_isAtRest_12 : decode cX11_isAtRest 12 = .ok (.iload 5, 2) := by decide +kernel
theorem dX11_isAtRest_14 : decode cX11_isAtRest 14 = .ok (.iload_n 1, 1) := by decide +kernel
theorem dX11_isAtRest_15 : decode cX11_isAtRest 15 = .ok (.iload_n 2, 1) := by decide +kernel
theorem dX11_isAtRest_16 : decode cX11_isAtRest 16 = .ok (.iload_n 3, 1) := by decide +kernel
theorem dX11_isAtRest_17 : decode cX11_isAtRest 17 = .ok (.invokestatic 350, 3) := by decide +kernel
theorem dX11_isAtRest_20 : decode cX11_isAtRest 20 = .ok (.iconst 1, 1) := by decide +kernel
theorem dX11_isAtRest_21 : decode cX11_isAtRest 21 = .ok (.iload 4, 2) := by decide +kernel
theorem dX11_isAtRest_23 : decode cX11_isAtRest 23 = .ok (.isub, 1) := by decide +kernel
theorem dX11_isAtRest_24 : decode cX11_isAtRest 24 = .ok (.iload 5, 2) := by decide +kernel
theorem dX11_isAtRest_26 : decode cX11_isAtRest 26 = .ok (.iload_n 1, 1) := by decide +kernel
theorem dX11_isAtRest_27 : decode cX11_isAtRest 27 = .ok (.iload_n 2, 1) := by decide +kernel
theorem dX11_isAtRest_28 : decode cX11_isAtRest 28 = .ok (.iload_n 3, 1) := by decide +kernel
theorem dX11_isAtRest_29 : decode cX11_isAtRest 29 = .ok (.invokestatic 350, 3) := by decide +kernel
theorem dX11_isAtRest_32 : decode cX11_isAtRest 32 = .ok (.if_icmp .lt 32, 3) := by decide +kernel
theorem dX11_isAtRest_35 : decode cX11_isAtRest 35 = .ok (.iload 5, 2) := by decide +kernel
theorem dX11_isAtRest_37 : decode cX11_isAtRest 37 = .ok (.iload 4, 2) := by decide +kernel
theorem dX11_isAtRest_39 : decode cX11_isAtRest 39 = .ok (.iload_n 1, 1) := by decide +kernel
theorem dX11_isAtRest_40 : decode cX11_isAtRest 40 = .ok (.iload_n 2, 1) := by decide +kernel
theorem dX11_isAtRest_41 : decode cX11_isAtRest 41 = .ok (.iload_n 3, 1) := by decide +kernel
theorem dX11_isAtRest_42 : decode cX11_isAtRest 42 = .ok (.invokestatic 350, 3) := by decide +kernel
theorem dX11_isAtRest_45 : decode cX11_isAtRest 45 = .ok (.iconst 1, 1) := by decide +kernel
theorem dX11_isAtRest_46 : decode cX11_isAtRest 46 = .ok (.iload 5, 2) := by decide +kernel
theorem dX11_isAtRest_48 : decode cX11_isAtRest 48 = .ok (.isub, 1) := by decide +kernel
theorem dX11_isAtRest_49 : decode cX11_isAtRest 49 = .ok (.iload 4, 2) := by decide +kernel
theorem dX11_isAtRest_51 : decode cX11_isAtRest 51 = .ok (.iload_n 1, 1) := by decide +kernel
theorem dX11_isAtRest_52 : decode cX11_isAtRest 52 = .ok (.iload_n 2, 1) := by decide +kernel
theorem dX11_isAtRest_53 : decode cX11_isAtRest 53 = .ok (.iload_n 3, 1) := by decide +kernel
theorem dX11_isAtRest_54 : decode cX11_isAtRest 54 = .ok (.invokestatic 350, 3) := by decide +kernel
theorem dX11_isAtRest_57 : decode cX11_isAtRest 57 = .ok (.if_icmp .lt 7, 3) := by decide +kernel
theorem dX11_isAtRest_60 : decode cX11_isAtRest 60 = .ok (.iconst 1, 1) := by decide +kernel
theorem dX11_isAtRest_61 : decode cX11_isAtRest 61 = .ok (.goto 4, 3) := by decide +kernel
theorem dX11_isAtRest_64 : decode cX11_isAtRest 64 = .ok (.iconst 0, 1) := by decide +kernel
theorem dX11_isAtRest_65 : decode cX11_isAtRest 65 = .ok (.ireturn, 1) := by decide +kernel
theorem dX11_gain_0 : decode cX11_gain 0 = .ok (.iload_n 0, 1) := by decide +kernel
theorem dX11_gain_1 : decode cX11_gain 1 = .ok (.iconst 1, 1) := by decide +kernel
theorem dX11_gain_2 : decode cX11_gain 2 = .ok (.if_icmp .ne 15, 3) := by decide +kernel
theorem dX11_gain_5 : decode cX11_gain 5 = .ok (.iload_n 1, 1) := by decide +kernel
theorem dX11_gain_6 : decode cX11_gain 6 = .ok (.iconst 1, 1) := by decide +kernel
theorem dX11_gain_7 : decode cX11_gain 7 = .ok (.if_icmp .ne 8, 3) := by decide +kernel
theorem dX11_gain_10 : decode cX11_gain 10 = .ok (.iload_n 2, 1) := by decide +kernel
theorem dX11_gain_11 : decode cX11_gain 11 = .ok (.ineg, 1) := by decide +kernel
theorem dX11_gain_12 : decode cX11_gain 12 = .ok (.goto 4, 3) := by decide +kernel
theorem dX11_gain_15 : decode cX11_gain 15 = .ok (.iload_n 3, 1) := by decide +kernel
theorem dX11_gain_16 : decode cX11_gain 16 = .ok (.ireturn, 1) := by decide +kernel
theorem dX11_gain_17 : decode cX11_gain 17 = .ok (.iload_n 1, 1) := by decide +kernel
theorem dX11_gain_18 : decode cX11_gain 18 = .ok (.iconst 1, 1) := by decide +kernel
theorem dX11_gain_19 : decode cX11_gain 19 = .ok (.if_icmp .ne 8, 3) := by decide +kernel
theorem dX11_gain_22 : decode cX11_gain 22 = .ok (.iload 4, 2) := by decide +kernel
theorem dX11_gain_24 : decode cX11_gain 24 = .ok (.goto 4, 3) := by decide +kernel
theorem dX11_gain_27 : decode cX11_gain 27 = .ok (.iconst 0, 1) := by decide +kernel
theorem dX11_gain_28 : decode cX11_gain 28 = .ok (.ireturn, 1) := by decide +kernel
theorem dX11_standing_0 : decode cX11_standing 0 = .ok (.iconst 2, 1) := by decide +kernel
theorem dX11_standing_1 : decode cX11_standing 1 = .ok (.iload_n 0, 1) := by decide +kernel
theorem dX11_standing_2 : decode cX11_standing 2 = .ok (.imul, 1) := by decide +kernel
theorem dX11_standing_3 : decode cX11_standing 3 = .ok (.iload_n 1, 1) := by decide +kernel
theorem dX11_standing_4 : decode cX11_standing 4 = .ok (.if_icmp .le 5, 3) := by decide +kernel
theorem dX11_standing_7 : decode cX11_standing 7 = .ok (.iconst 2, 1) := by decide +kernel
theorem dX11_standing_8 : decode cX11_standing 8 = .ok (.ireturn, 1) := by decide +kernel
theorem dX11_standing_9 : decode cX11_standing 9 = .ok (.iload_n 1, 1) := by decide +kernel
theorem dX11_standing_10 : decode cX11_standing 10 = .ok (.ifCond .le 14, 3) := by decide +kernel
theorem dX11_standing_13 : decode cX11_standing 13 = .ok (.iconst 2, 1) := by decide +kernel
theorem dX11_standing_14 : decode cX11_standing 14 = .ok (.iload_n 0, 1) := by decide +kernel
theorem dX11_standing_15 : decode cX11_standing 15 = .ok (.imul, 1) := by decide +kernel
theorem dX11_standing_16 : decode cX11_standing 16 = .ok (.iload_n 1, 1) := by decide +kernel
theorem dX11_standing_17 : decode cX11_standing 17 = .ok (.if_icmp .ne 7, 3) := by decide +kernel
theorem dX11_standing_20 : decode cX11_standing 20 = .ok (.iconst 1, 1) := by decide +kernel
theorem dX11_standing_21 : decode cX11_standing 21 = .ok (.goto 4, 3) := by decide +kernel
theorem dX11_standing_24 : decode cX11_standing 24 = .ok (.iconst 0, 1) := by decide +kernel
theorem dX11_standing_25 : decode cX11_standing 25 = .ok (.ireturn, 1) := by decide +kernel
theorem dX2_init_0 : decode cX2_init 0 = .ok (.aload_n 0, 1) := by decide +kernel
theorem dX2_init_1 : decode cX2_init 1 = .ok (.invokespecial 3, 3) := by decide +kernel
theorem dX2_init_4 : decode cX2_init 4 = .ok (.aload_n 0, 1) := by decide +kernel
theorem dX2_init_5 : decode cX2_init 5 = .ok (.aload_n 1, 1) := by decide +kernel
theorem dX2_init_6 : decode cX2_init 6 = .ok (.putfield 9, 3) := by decide +kernel
theorem dX2_init_9 : decode cX2_init 9 = .ok (.return_, 1) := by decide +kernel
theorem dX2_readLevel_0 : decode cX2_readLevel 0 = .ok (.iload_n 2, 1) := by decide +kernel
theorem dX2_readLevel_1 : decode cX2_readLevel 1 = .ok (.iconst 3, 1) := by decide +kernel
theorem dX2_readLevel_2 : decode cX2_readLevel 2 = .ok (.if_icmp .le 10, 3) := by decide +kernel
theorem dX2_readLevel_5 : decode cX2_readLevel 5 = .ok (.aload_n 0, 1) := by decide +kernel
theorem dX2_readLevel_6 : decode cX2_readLevel 6 = .ok (.aload_n 1, 1) := by decide +kernel
theorem dX2_readLevel_7 : decode cX2_readLevel 7 = .ok (.iload_n 3, 1) := by decide +kernel
theorem dX2_readLevel_8 : decode cX2_readLevel 8 = .ok (.invokevirtual 15, 3) := by decide +kernel
theorem dX2_readLevel_11 : decode cX2_readLevel 11 = .ok (.ireturn, 1) := by decide +kernel
theorem dX2_readLevel_12 : decode cX2_readLevel 12 = .ok (.aload_n 0, 1) := by decide +kernel
theorem dX2_readLevel_13 : decode cX2_readLevel 13 = .ok (.aload_n 1, 1) := by decide +kernel
theorem dX2_readLevel_14 : decode cX2_readLevel 14 = .ok (.iload_n 2, 1) := by decide +kernel
theorem dX2_readLevel_15 : decode cX2_readLevel 15 = .ok (.iconst 1, 1) := by decide +kernel
theorem dX2_readLevel_16 : decode cX2_readLevel 16 = .ok (.iadd, 1) := by decide +kernel
theorem dX2_readLevel_17 : decode cX2_readLevel 17 = .ok (.iload_n 3, 1) := by decide +kernel
theorem dX2_readLevel_18 : decode cX2_readLevel 18 = .ok (.invokevirtual 19, 3) := by decide +kernel
theorem dX2_readLevel_21 : decode cX2_readLevel 21 = .ok (.istore 4, 2) := by decide +kernel
theorem dX2_readLevel_23 : decode cX2_readLevel 23 = .ok (.aload_n 0, 1) := by decide +kernel
theorem dX2_readLevel_24 : decode cX2_readLevel 24 = .ok (.iload_n 2, 1) := by decide +kernel
theorem dX2_readLevel_25 : decode cX2_readLevel 25 = .ok (.invokevirtual 23, 3) := by decide +kernel
theorem dX2_readLevel_28 : decode cX2_readLevel 28 = .ok (.istore 5, 2) := by decide +kernel
theorem dX2_readLevel_30 : decode cX2_readLevel 30 = .ok (.iconst 0, 1) := by decide +kernel
theorem dX2_readLevel_31 : decode cX2_readLevel 31 = .ok (.istore 6, 2) := by decide +kernel
theorem dX2_readLevel_33 : decode cX2_readLevel 33 = .ok (.iload 6, 2) := by decide +kernel
theorem dX2_readLevel_35 : decode cX2_readLevel 35 = .ok (.sipush 1000, 3) := by decide +kernel
theorem dX2_readLevel_38 : decode cX2_readLevel 38 = .ok (.if_icmp .ge 59, 3) := by decide +kernel
theorem dX2_readLevel_41 : decode cX2_readLevel 41 = .ok (.iload 4, 2) := by decide +kernel
theorem dX2_readLevel_43 : decode cX2_readLevel 43 = .ok (.ifCond .eq 54, 3) := by decide +kernel
theorem dX2_readLevel_46 : decode cX2_readLevel 46 = .ok (.iload 5, 2) := by decide +kernel
theorem dX2_readLevel_48 : decode cX2_readLevel 48 = .ok (.ifCond .eq 49, 3) := by decide +kernel
theorem dX2_readLevel_51 : decode cX2_readLevel 51 = .ok (.aload_n 0, 1) := by decide +kernel
theorem dX2_readLevel_52 : decode cX2_readLevel 52 = .ok (.getfield 9, 3) := by decide +kernel
theorem dX2_readLevel_55 : decode cX2_readLevel 55 = .ok (.invokevirtual 27, 3) := by decide +kernel
theorem dX2_readLevel_58 : decode cX2_readLevel 58 = .ok (.aload_n 0, 1) := by decide +kernel
theorem dX2_readLevel_59 : decode cX2_readLevel 59 = .ok (.aload_n 1, 1) := by decide +kernel
theorem dX2_readLevel_60 : decode cX2_readLevel 60 = .ok (.iload_n 2, 1) := by decide +kernel
theorem dX2_readLevel_61 : decode cX2_readLevel 61 = .ok (.iconst 1, 1) := by decide +kernel
theorem dX2_readLevel_62 : decode cX2_readLevel 62 = .ok (.iadd, 1) := by decide +kernel
theorem dX2_readLevel_63 : decode cX2_readLevel 63 = .ok (.iload_n 3, 1) := by decide +kernel
theorem dX2_readLevel_64 : decode cX2_readLevel 64 = .ok (.invokevirtual 19, 3) := by decide +kernel
theorem dX2_readLevel_67 : decode cX2_readLevel 67 = .ok (.istore 4, 2) := by decide +kernel
theorem dX2_readLevel_69 : decode cX2_readLevel 69 = .ok (.aload_n 1, 1) := by decide +kernel
theorem dX2_readLevel_70 : decode cX2_readLevel 70 = .ok (.iload 5, 2) := by decide +kernel
theorem dX2_readLevel_72 : decode cX2_readLevel 72 = .ok (.invokevirtual 32, 3) := by decide +kernel
theorem dX2_readLevel_75 : decode cX2_readLevel 75 = .ok (.iload_n 2, 1) := by decide +kernel
theorem dX2_readLevel_76 : decode cX2_readLevel 76 = .ok (.iconst 1, 1) := by decide +kernel
theorem dX2_readLevel_77 : decode cX2_readLevel 77 = .ok (.if_icmp .ne 7, 3) := by decide +kernel
theorem dX2_readLevel_80 : decode cX2_readLevel 80 = .ok (.iconst 0, 1) := by decide +kernel
theorem dX2_readLevel_81 : decode cX2_readLevel 81 = .ok (.goto 8, 3) := by decide +kernel
theorem dX2_readLevel_84 : decode cX2_readLevel 84 = .ok (.aload_n 0, 1) := by decide +kernel
theorem dX2_readLevel_85 : decode cX2_readLevel 85 = .ok (.iload_n 2, 1) := by decide +kernel
theorem dX2_readLevel_86 : decode cX2_readLevel 86 = .ok (.invokevirtual 23, 3) := by decide +kernel
theorem dX2_readLevel_89 : decode cX2_readLevel 89 = .ok (.istore 5, 2) := by decide +kernel
theorem dX2_readLevel_91 : decode cX2_readLevel 91 = .ok (.iinc 6 1, 3) := by decide +kernel
theorem dX2_readLevel_94 : decode cX2_readLevel 94 = .ok (.goto (-61), 3) := by decide +kernel
theorem dX2_readLevel_97 : decode cX2_readLevel 97 = .ok (.iload 4, 2) := by decide +kernel
theorem dX2_readLevel_99 : decode cX2_readLevel 99 = .ok (.ireturn, 1) := by decide +kernel
theorem dX2_readPart_0 : decode cX2_readPart 0 = .ok (.aload_n 0, 1) := by decide +kernel
theorem dX2_readPart_1 : decode cX2_readPart 1 = .ok (.invokevirtual 38, 3) := by decide +kernel
theorem dX2_readPart_4 : decode cX2_readPart 4 = .ok (.istore_n 3, 1) := by decide +kernel
theorem dX2_readPart_5 : decode cX2_readPart 5 = .ok (.aload_n 0, 1) := by decide +kernel
theorem dX2_readPart_6 : decode cX2_readPart 6 = .ok (.getfield 9, 3) := by decide +kernel
theorem dX2_readPart_9 : decode cX2_readPart 9 = .ok (.getstatic 42, 3) := by decide +kernel
theorem dX2_readPart_12 : decode cX2_readPart 12 = .ok (.invokevirtual 48, 3) := by decide +kernel
theorem dX2_readPart_15 : decode cX2_readPart 15 = .ok (.istore 4, 2) := by decide +kernel
theorem dX2_readPart_17 : decode cX2_readPart 17 = .ok (.aload_n 0, 1) := by decide +kernel
theorem dX2_readPart_18 : decode cX2_readPart 18 = .ok (.getfield 9, 3) := by decide +kernel
theorem dX2_readPart_21 : decode cX2_readPart 21 = .ok (.bipush 40, 2) := by decide +kernel
theorem dX2_readPart_23 : decode cX2_readPart 23 = .ok (.invokevirtual 52, 3) := by decide +kernel
theorem dX2_readPart_26 : decode cX2_readPart 26 = .ok (.istore 5, 2) := by decide +kernel
theorem dX2_readPart_28 : decode cX2_readPart 28 = .ok (.iload_n 3, 1) := by decide +kernel
theorem dX2_readPart_29 : decode cX2_readPart 29 = .ok (.ifCond .ne 32, 3) := by decide +kernel
theorem dX2_readPart_32 : decode cX2_readPart 32 = .ok (.iload 4, 2) := by decide +kernel
theorem dX2_readPart_34 : decode cX2_readPart 34 = .ok (.ifCond .ne 27, 3) := by decide +kernel
theorem dX2_readPart_37 : decode cX2_readPart 37 = .ok (.iload 5, 2) := by decide +kernel
theorem dX2_readPart_39 : decode cX2_readPart 39 = .ok (.ifCond .ne 22, 3) := by decide +kernel
theorem dX2_readPart_42 : decode cX2_readPart 42 = .ok (.aload_n 0, 1) := by decide +kernel
theorem dX2_readPart_43 : decode cX2_readPart 43 = .ok (.getfield 9, 3) := by decide +kernel
theorem dX2_readPart_46 : decode cX2_readPart 46 = .ok (.invokevirtual 56, 3) := by decide +kernel
theorem dX2_readPart_49 : decode cX2_readPart 49 = .ok (.ifCond .ne 12, 3) := by decide +kernel
theorem dX2_readPart_52 : decode cX2_readPart 52 = .ok (.aload_n 0, 1) := by decide +kernel
theorem dX2_readPart_53 : decode cX2_readPart 53 = .ok (.getfield 9, 3) := by decide +kernel
theorem dX2_readPart_56 : decode cX2_readPart 56 = .ok (.iconst 1, 1) := by decide +kernel
theorem dX2_readPart_57 : decode cX2_readPart 57 = .ok (.invokevirtual 60, 3) := by decide +kernel
theorem dX2_readPart_60 : decode cX2_readPart 60 = .ok (.ireturn, 1) := by decide +kernel
theorem dX2_readPart_61 : decode cX2_readPart 61 = .ok (.iload_n 2, 1) := by decide +kernel
theorem dX2_readPart_62 : decode cX2_readPart 62 = .ok (.iconst 5, 1) := by decide +kernel
theorem dX2_readPart_63 : decode cX2_readPart 63 = .ok (.if_icmp .lt 12, 3) := by decide +kernel
theorem dX2_readPart_66 : decode cX2_readPart 66 = .ok (.aload_n 0, 1) := by decide +kernel
theorem dX2_readPart_67 : decode cX2_readPart 67 = .ok (.getfield 9, 3) := by decide +kernel
theorem dX2_readPart_70 : decode cX2_readPart 70 = .ok (.iconst 5, 1) := by decide +kernel
theorem dX2_readPart_71 : decode cX2_readPart 71 = .ok (.invokevirtual 60, 3) := by decide +kernel
theorem dX2_readPart_74 : decode cX2_readPart 74 = .ok (.ireturn, 1) := by decide +kernel
theorem dX2_readPart_75 : decode cX2_readPart 75 = .ok (.iload 4, 2) := by decide +kernel
theorem dX2_readPart_77 : decode cX2_readPart 77 = .ok (.ifCond .eq 29, 3) := by decide +kernel
theorem dX2_readPart_80 : decode cX2_readPart 80 = .ok (.aload_n 0, 1) := by decide +kernel
theorem dX2_readPart_81 : decode cX2_readPart 81 = .ok (.getfield 9, 3) := by decide +kernel
theorem dX2_readPart_84 : decode cX2_readPart 84 = .ok (.invokevirtual 27, 3) := by decide +kernel
theorem dX2_readPart_87 : decode cX2_readPart 87 = .ok (.aload_n 0, 1) := by decide +kernel
theorem dX2_readPart_88 : decode cX2_readPart 88 = .ok (.aload_n 1, 1) := by decide +kernel
theorem dX2_readPart_89 : decode cX2_readPart 89 = .ok (.iload_n 2, 1) := by decide +kernel
theorem dX2_readPart_90 : decode cX2_readPart 90 = .ok (.iconst 1, 1) := by decide +kernel
theorem dX2_readPart_91 : decode cX2_readPart 91 = .ok (.iadd, 1) := by decide +kernel
theorem dX2_readPart_92 : decode cX2_readPart 92 = .ok (.invokevirtual 15, 3) := by decide +kernel
theorem dX2_readPart_95 : decode cX2_readPart 95 = .ok (.istore 6, 2) := by decide +kernel
theorem dX2_readPart_97 : decode cX2_readPart 97 = .ok (.aload_n 1, 1) := by decide +kernel
theorem dX2_readPart_98 : decode cX2_readPart 98 = .ok (.bipush (-5), 2) := by decide +kernel
theorem dX2_readPart_100 : decode cX2_readPart 100 = .ok (.invokevirtual 32, 3) := by decide +kernel
theorem dX2_readPart_103 : decode cX2_readPart 103 = .ok (.iload 6, 2) := by decide +kernel
theorem dX2_readPart_105 : decode cX2_readPart 105 = .ok (.ireturn, 1) := by decide +kernel
theorem dX2_readPart_106 : decode cX2_readPart 106 = .ok (.iload 5, 2) := by decide +kernel
theorem dX2_readPart_108 : decode cX2_readPart 108 = .ok (.ifCond .eq 45, 3) := by decide +kernel
theorem dX2_readPart_111 : decode cX2_readPart 111 = .ok (.aload_n 0, 1) := by decide +kernel
theorem dX2_readPart_112 : decode cX2_readPart 112 = .ok (.getfield 9, 3) := by decide +kernel
theorem dX2_readPart_115 : decode cX2_readPart 115 = .ok (.invokevirtual 27, 3) := by decide +kernel
theorem dX2_readPart_118 : decode cX2_readPart 118 = .ok (.aload_n 0, 1) := by decide +kernel
theorem dX2_readPart_119 : decode cX2_readPart 119 = .ok (.aload_n 1, 1) := by decide +kernel
theorem dX2_readPart_120 : decode cX2_readPart 120 = .ok (.iconst 0, 1) := by decide +kernel
theorem dX2_readPart_121 : decode cX2_readPart 121 = .ok (.iload_n 2, 1) := by decide +kernel
theorem dX2_readPart_122 : decode cX2_readPart 122 = .ok (.iconst 1, 1) := by decide +kernel
theorem dX2_readPart_123 : decode cX2_readPart 123 = .ok (.iadd, 1) := by decide +kernel
theorem dX2_readPart_124 : decode cX2_readPart 124 = .ok (.invokevirtual 19, 3) := by decide +kernel
theorem dX2_readPart_127 : decode cX2_readPart 127 = .ok (.ifCond .ne 5, 3) := by decide +kernel
theorem dX2_readPart_130 : decode cX2_readPart 130 = .ok (.iconst 0, 1) := by decide +kernel
theorem dX2_readPart_131 : decode cX2_readPart 131 = .ok (.ireturn, 1) := by decide +kernel
theorem dX2_readPart_132 : decode cX2_readPart 132 = .ok (.aload_n 0, 1) := by decide +kernel
theorem dX2_readPart_133 : decode cX2_readPart 133 = .ok (.getfield 9, 3) := by decide +kernel
theorem dX2_readPart_136 : decode cX2_readPart 136 = .ok (.bipush 41, 2) := by decide +kernel
theorem dX2_readPart_138 : decode cX2_readPart 138 = .ok (.invokevirtual 52, 3) := by decide +kernel
theorem dX2_readPart_141 : decode cX2_readPart 141 = .ok (.ifCond .ne 31, 3) := by decide +kernel
theorem dX2_readPart_144 : decode cX2_readPart 144 = .ok (.aload_n 0, 1) := by decide +kernel
theorem dX2_readPart_145 : decode cX2_readPart 145 = .ok (.getfield 9, 3) := by decide +kernel
theorem dX2_readPart_148 : decode cX2_readPart 148 = .ok (.iconst 1, 1) := by decide +kernel
theorem dX2_readPart_149 : decode cX2_readPart 149 = .ok (.invokevirtual 60, 3) := by decide +kernel
theorem dX2_readPart_152 : decode cX2_readPart 152 = .ok (.ireturn, 1) := by decide +kernel
theorem dX2_readPart_153 : decode cX2_readPart 153 = .ok (.aload_n 1, 1) := by decide +kernel
theorem dX2_readPart_154 : decode cX2_readPart 154 = .ok (.iload_n 3, 1) := by decide +kernel
theorem dX2_readPart_155 : decode cX2_readPart 155 = .ok (.ifCond .ne 13, 3) := by decide +kernel
theorem dX2_readPart_158 : decode cX2_readPart 158 = .ok (.aload_n 0, 1) := by decide +kernel
theorem dX2_readPart_159 : decode cX2_readPart 159 = .ok (.getfield 9, 3) := by decide +kernel
theorem dX2_readPart_162 : decode cX2_readPart 162 = .ok (.getfield 64, 3) := by decide +kernel
theorem dX2_readPart_165 : decode cX2_readPart 165 = .ok (.goto 4, 3) := by decide +kernel
theorem dX2_readPart_168 : decode cX2_readPart 168 = .ok (.iload_n 3, 1) := by decide +kernel
theorem dX2_readPart_169 : decode cX2_readPart 169 = .ok (.invokevirtual 32, 3) := by decide +kernel
theorem dX2_readPart_172 : decode cX2_readPart 172 = .ok (.aload_n 0, 1) := by decide +kernel
theorem dX2_readPart_173 : decode cX2_readPart 173 = .ok (.getfield 9, 3) := by decide +kernel
theorem dX2_readPart_176 : decode cX2_readPart 176 = .ok (.invokevirtual 27, 3) := by decide +kernel
theorem dX2_readPart_179 : decode cX2_readPart 179 = .ok (.iconst 1, 1) := by decide +kernel
theorem dX2_readPart_180 : decode cX2_readPart 180 = .ok (.ireturn, 1) := by decide +kernel
theorem dX2_stepHere_0 : decode cX2_stepHere 0 = .ok (.iload_n 1, 1) := by decide +kernel
theorem dX2_stepHere_1 : decode cX2_stepHere 1 = .ok (.tableswitch 137 0 2 #[27, 65, 101], 27) := by decide +kernel
theorem dX2_stepHere_28 : decode cX2_stepHere 28 = .ok (.aload_n 0, 1) := by decide +kernel
theorem dX2_stepHere_29 : decode cX2_stepHere 29 = .ok (.getfield 9, 3) := by decide +kernel
theorem dX2_stepHere_32 : decode cX2_stepHere 32 = .ok (.getstatic 68, 3) := by decide +kernel
theorem dX2_stepHere_35 : decode cX2_stepHere 35 = .ok (.invokevirtual 48, 3) := by decide +kernel
theorem dX2_stepHere_38 : decode cX2_stepHere 38 = .ok (.ifCond .eq 8, 3) := by decide +kernel
theorem dX2_stepHere_41 : decode cX2_stepHere 41 = .ok (.bipush (-6), 2) := by decide +kernel
theorem dX2_stepHere_43 : decode cX2_stepHere 43 = .ok (.goto 22, 3) := by decide +kernel
theorem dX2_stepHere_46 : decode cX2_stepHere 46 = .ok (.aload_n 0, 1) := by decide +kernel
theorem dX2_stepHere_47 : decode cX2_stepHere 47 = .ok (.getfield 9, 3) := by decide +kernel
theorem dX2_stepHere_50 : decode cX2_stepHere 50 = .ok (.getstatic 71, 3) := by decide +kernel
theorem dX2_stepHere_53 : decode cX2_stepHere 53 = .ok (.invokevirtual 48, 3) := by decide +kernel
theorem dX2_stepHere_56 : decode cX2_stepHere 56 = .ok (.ifCond .eq 8, 3) := by decide +kernel
theorem dX2_stepHere_59 : decode cX2_stepHere 59 = .ok (.bipush (-7), 2) := by decide +kernel
theorem dX2_stepHere_61 : decode cX2_stepHere 61 = .ok (.goto 4, 3) := by decide +kernel
theorem dX2_stepHere_64 : decode cX2_stepHere 64 = .ok (.iconst 0, 1) := by decide +kernel
theorem dX2_stepHere_65 : decode cX2_stepHere 65 = .ok (.ireturn, 1) := by decide +kernel
theorem dX2_stepHere_66 : decode cX2_stepHere 66 = .ok (.aload_n 0, 1) := by decide +kernel
theorem dX2_stepHere_67 : decode cX2_stepHere 67 = .ok (.getfield 9, 3) := by decide +kernel
theorem dX2_stepHere_70 : decode cX2_stepHere 70 = .ok (.bipush 60, 2) := by decide +kernel
theorem dX2_stepHere_72 : decode cX2_stepHere 72 = .ok (.invokevirtual 52, 3) := by decide +kernel
theorem dX2_stepHere_75 : decode cX2_stepHere 75 = .ok (.ifCond .eq 8, 3) := by decide +kernel
theorem dX2_stepHere_78 : decode cX2_stepHere 78 = .ok (.bipush (-8), 2) := by decide +kernel
theorem dX2_stepHere_80 : decode cX2_stepHere 80 = .ok (.goto 21, 3) := by decide +kernel
theorem dX2_stepHere_83 : decode cX2_stepHere 83 = .ok (.aload_n 0, 1) := by decide +kernel
theorem dX2_stepHere_84 : decode cX2_stepHere 84 = .ok (.getfield 9, 3) := by decide +kernel
theorem dX2_stepHere_87 : decode cX2_stepHere 87 = .ok (.bipush 61, 2) := by decide +kernel
theorem dX2_stepHere_89 : decode cX2_stepHere 89 = .ok (.invokevirtual 52, 3) := by decide +kernel
theorem dX2_stepHere_92 : decode cX2_stepHere 92 = .ok (.ifCond .eq 8, 3) := by decide +kernel
theorem dX2_stepHere_95 : decode cX2_stepHere 95 = .ok (.bipush (-9), 2) := by decide +kernel
theorem dX2_stepHere_97 : decode cX2_stepHere 97 = .ok (.goto 4, 3) := by decide +kernel
theorem dX2_stepHere_100 : decode cX2_stepHere 100 = .ok (.iconst 0, 1) := by decide +kernel
theorem dX2_stepHere_101 : decode cX2_stepHere 101 = .ok (.ireturn, 1) := by decide +kernel
theorem dX2_stepHere_102 : decode cX2_stepHere 102 = .ok (.aload_n 0, 1) := by decide +kernel
theorem dX2_stepHere_103 : decode cX2_stepHere 103 = .ok (.getfield 9, 3) := by decide +kernel
theorem dX2_stepHere_106 : decode cX2_stepHere 106 = .ok (.bipush 43, 2) := by decide +kernel
theorem dX2_stepHere_108 : decode cX2_stepHere 108 = .ok (.invokevirtual 52, 3) := by decide +kernel
theorem dX2_stepHere_111 : decode cX2_stepHere 111 = .ok (.ifCond .eq 8, 3) := by decide +kernel
theorem dX2_stepHere_114 : decode cX2_stepHere 114 = .ok (.bipush (-10), 2) := by decide +kernel
theorem dX2_stepHere_116 : decode cX2_stepHere 116 = .ok (.goto 21, 3) := by decide +kernel
theorem dX2_stepHere_119 : decode cX2_stepHere 119 = .ok (.aload_n 0, 1) := by decide +kernel
theorem dX2_stepHere_120 : decode cX2_stepHere 120 = .ok (.getfield 9, 3) := by decide +kernel
theorem dX2_stepHere_123 : decode cX2_stepHere 123 = .ok (.bipush 45, 2) := by decide +kernel
theorem dX2_stepHere_125 : decode cX2_stepHere 125 = .ok (.invokevirtual 52, 3) := by decide +kernel
theorem dX2_stepHere_128 : decode cX2_stepHere 128 = .ok (.ifCond .eq 8, 3) := by decide +kernel
theorem dX2_stepHere_131 : decode cX2_stepHere 131 = .ok (.bipush (-11), 2) := by decide +kernel
theorem dX2_stepHere_133 : decode cX2_stepHere 133 = .ok (.goto 4, 3) := by decide +kernel
theorem dX2_stepHere_136 : decode cX2_stepHere 136 = .ok (.iconst 0, 1) := by decide +kernel
theorem dX2_stepHere_137 : decode cX2_stepHere 137 = .ok (.ireturn, 1) := by decide +kernel
theorem dX2_stepHere_138 : decode cX2_stepHere 138 = .ok (.aload_n 0, 1) := by decide +kernel
theorem dX2_stepHere_139 : decode cX2_stepHere 139 = .ok (.getfield 9, 3) := by decide +kernel
theorem dX2_stepHere_142 : decode cX2_stepHere 142 = .ok (.bipush 42, 2) := by decide +kernel
theorem dX2_stepHere_144 : decode cX2_stepHere 144 = .ok (.invokevirtual 52, 3) := by decide +kernel
theorem dX2_stepHere_147 : decode cX2_stepHere 147 = .ok (.ifCond .eq 8, 3) := by decide +kernel
theorem dX2_stepHere_150 : decode cX2_stepHere 150 = .ok (.bipush (-12), 2) := by decide +kernel
theorem dX2_stepHere_152 : decode cX2_stepHere 152 = .ok (.goto 4, 3) := by decide +kernel
theorem dX2_stepHere_155 : decode cX2_stepHere 155 = .ok (.iconst 0, 1) := by decide +kernel
theorem dX2_stepHere_156 : decode cX2_stepHere 156 = .ok (.ireturn, 1) := by decide +kernel
theorem dX2_factHere_0 : decode cX2_factHere 0 = .ok (.aload_n 0, 1) := by decide +kernel
theorem dX2_factHere_1 : decode cX2_factHere 1 = .ok (.getfield 9, 3) := by decide +kernel
theorem dX2_factHere_4 : decode cX2_factHere 4 = .ok (.getstatic 74, 3) := by decide +kernel
theorem dX2_factHere_7 : decode cX2_factHere 7 = .ok (.invokevirtual 48, 3) := by decide +kernel
theorem dX2_factHere_10 : decode cX2_factHere 10 = .ok (.ifCond .eq 7, 3) := by decide +kernel
theorem dX2_factHere_13 : decode cX2_factHere 13 = .ok (.iconst (-1), 1) := by decide +kernel
theorem dX2_factHere_14 : decode cX2_factHere 14 = .ok (.goto 58, 3) := by decide +kernel
theorem dX2_factHere_17 : decode cX2_factHere 17 = .ok (.aload_n 0, 1) := by decide +kernel
theorem dX2_factHere_18 : decode cX2_factHere 18 = .ok (.getfield 9, 3) := by decide +kernel
theorem dX2_factHere_21 : decode cX2_factHere 21 = .ok (.getstatic 77, 3) := by decide +kernel
theorem dX2_factHere_24 : decode cX2_factHere 24 = .ok (.invokevirtual 48, 3) := by decide +kernel
theorem dX2_factHere_27 : decode cX2_factHere 27 = .ok (.ifCond .eq 8, 3) := by decide +kernel
theorem dX2_factHere_30 : decode cX2_factHere 30 = .ok (.bipush (-2), 2) := by decide +kernel
theorem dX2_factHere_32 : decode cX2_factHere 32 = .ok (.goto 40, 3) := by decide +kernel
theorem dX2_factHere_35 : decode cX2_factHere 35 = .ok (.aload_n 0, 1) := by decide +kernel
theorem dX2_factHere_36 : decode cX2_factHere 36 = .ok (.getfield 9, 3) := by decide +kernel
theorem dX2_factHere_39 : decode cX2_factHere 39 = .ok (.getstatic 80, 3) := by decide +kernel
theorem dX2_factHere_42 : decode cX2_factHere 42 = .ok (.invokevirtual 48, 3) := by decide +kernel
theorem dX2_factHere_45 : decode cX2_factHere 45 = .ok (.ifCond .eq 8, 3) := by decide +kernel
theorem dX2_factHere_48 : decode cX2_factHere 48 = .ok (.bipush (-3), 2) := by decide +kernel
theorem dX2_factHere_50 : decode cX2_factHere 50 = .ok (.goto 22, 3) := by decide +kernel
theorem dX2_factHere_53 : decode cX2_factHere 53 = .ok (.aload_n 0, 1) := by decide +kernel
theorem dX2_factHere_54 : decode cX2_factHere 54 = .ok (.getfield 9, 3) := by decide +kernel
theorem dX2_factHere_57 : decode cX2_factHere 57 = .ok (.getstatic 83, 3) := by decide +kernel
theorem dX2_factHere_60 : decode cX2_factHere 60 = .ok (.invokevirtual 48, 3) := by decide +kernel
theorem dX2_factHere_63 : decode cX2_factHere 63 = .ok (.ifCond .eq 8, 3) := by decide +kernel
theorem dX2_factHere_66 : decode cX2_factHere 66 = .ok (.bipush (-4), 2) := by decide +kernel
theorem dX2_factHere_68 : decode cX2_factHere 68 = .ok (.goto 4, 3) := by decide +kernel
theorem dX2_factHere_71 : decode cX2_factHere 71 = .ok (.iconst 0, 1) := by decide +kernel
theorem dX2_factHere_72 : decode cX2_factHere 72 = .ok (.ireturn, 1) := by decide +kernel
theorem dX3_init_0 : decode cX3_init 0 = .ok (.aload_n 0, 1) := by decide +kernel
theorem dX3_init_1 : decode cX3_init 1 = .ok (.invokespecial 1, 3) := by decide +kernel
theorem dX3_init_4 : decode cX3_init 4 = .ok (.aload_n 0, 1) := by decide +kernel
theorem dX3_init_5 : decode cX3_init 5 = .ok (.new 7, 3) := by decide +kernel
theorem dX3_init_8 : decode cX3_init 8 = .ok (.dup, 1) := by decide +kernel
theorem dX3_init_9 : decode cX3_init 9 = .ok (.invokespecial 9, 3) := by decide +kernel
theorem dX3_init_12 : decode cX3_init 12 = .ok (.putfield 10, 3) := by decide +kernel
theorem dX3_init_15 : decode cX3_init 15 = .ok (.aload_n 0, 1) := by decide +kernel
theorem dX3_init_16 : decode cX3_init 16 = .ok (.new 16, 3) := by decide +kernel
theorem dX3_init_19 : decode cX3_init 19 = .ok (.dup, 1) := by decide +kernel
theorem dX3_init_20 : decode cX3_init 20 = .ok (.invokespecial 18, 3) := by decide +kernel
theorem dX3_init_23 : decode cX3_init 23 = .ok (.putfield 19, 3) := by decide +kernel
theorem dX3_init_26 : decode cX3_init 26 = .ok (.aload_n 0, 1) := by decide +kernel
theorem dX3_init_27 : decode cX3_init 27 = .ok (.new 23, 3) := by decide +kernel
theorem dX3_init_30 : decode cX3_init 30 = .ok (.dup, 1) := by decide +kernel
theorem dX3_init_31 : decode cX3_init 31 = .ok (.invokespecial 25, 3) := by decide +kernel
theorem dX3_init_34 : decode cX3_init 34 = .ok (.putfield 26, 3) := by decide +kernel
theorem dX3_init_37 : decode cX3_init 37 = .ok (.return_, 1) := by decide +kernel
theorem dX3_lay_0 : decode cX3_lay 0 = .ok (.aload_n 0, 1) := by decide +kernel
theorem dX3_lay_1 : decode cX3_lay 1 = .ok (.getfield 10, 3) := by decide +kernel
theorem dX3_lay_4 : decode cX3_lay 4 = .ok (.aload_n 1, 1) := by decide +kernel
theorem dX3_lay_5 : decode cX3_lay 5 = .ok (.invokevirtual 30, 3) := by decide +kernel
theorem dX3_lay_8 : decode cX3_lay 8 = .ok (.aload_n 0, 1) := by decide +kernel
theorem dX3_lay_9 : decode cX3_lay 9 = .ok (.getfield 19, 3) := by decide +kernel
theorem dX3_lay_12 : decode cX3_lay 12 = .ok (.aload_n 2, 1) := by decide +kernel
theorem dX3_lay_13 : decode cX3_lay 13 = .ok (.invokevirtual 34, 3) := by decide +kernel
theorem dX3_lay_16 : decode cX3_lay 16 = .ok (.aload_n 0, 1) := by decide +kernel
theorem dX3_lay_17 : decode cX3_lay 17 = .ok (.getfield 26, 3) := by decide +kernel
theorem dX3_lay_20 : decode cX3_lay 20 = .ok (.aload_n 3, 1) := by decide +kernel
theorem dX3_lay_21 : decode cX3_lay 21 = .ok (.invokevirtual 37, 3) := by decide +kernel
theorem dX3_lay_24 : decode cX3_lay 24 = .ok (.aload_n 0, 1) := by decide +kernel
theorem dX3_lay_25 : decode cX3_lay 25 = .ok (.iconst 1, 1) := by decide +kernel
theorem dX3_lay_26 : decode cX3_lay 26 = .ok (.putfield 40, 3) := by decide +kernel
theorem dX3_lay_29 : decode cX3_lay 29 = .ok (.return_, 1) := by decide +kernel
theorem dX4_init_0 : decode cX4_init 0 = .ok (.aload_n 0, 1) := by decide +kernel
theorem dX4_init_1 : decode cX4_init 1 = .ok (.invokespecial 3, 3) := by decide +kernel
theorem dX4_init_4 : decode cX4_init 4 = .ok (.aload_n 0, 1) := by decide +kernel
theorem dX4_init_5 : decode cX4_init 5 = .ok (.aload_n 1, 1) := by decide +kernel
theorem dX4_init_6 : decode cX4_init 6 = .ok (.putfield 9, 3) := by decide +kernel
theorem dX4_init_9 : decode cX4_init 9 = .ok (.aload_n 0, 1) := by decide +kernel
theorem dX4_init_10 : decode cX4_init 10 = .ok (.new 15, 3) := by decide +kernel
theorem dX4_init_13 : decode cX4_init 13 = .ok (.dup, 1) := by decide +kernel
theorem dX4_init_14 : decode cX4_init 14 = .ok (.aload_n 1, 1) := by decide +kernel
theorem dX4_init_15 : decode cX4_init 15 = .ok (.invokespecial 17, 3) := by decide +kernel
theorem dX4_init_18 : decode cX4_init 18 = .ok (.putfield 20, 3) := by decide +kernel
theorem dX4_init_21 : decode cX4_init 21 = .ok (.return_, 1) := by decide +kernel
theorem dX4_readRepublic_0 : decode cX4_readRepublic 0 = .ok (.aload_n 0, 1) := by decide +kernel
theorem dX4_readRepublic_1 : decode cX4_readRepublic 1 = .ok (.getfield 9, 3) := by decide +kernel
theorem dX4_readRepublic_4 : decode cX4_readRepublic 4 = .ok (.invokevirtual 24, 3) := by decide +kernel
theorem dX4_readRepublic_7 : decode cX4_readRepublic 7 = .ok (.aload_n 1, 1) := by decide +kernel
theorem dX4_readRepublic_8 : decode cX4_readRepublic 8 = .ok (.invokevirtual 29, 3) := by decide +kernel
theorem dX4_readRepublic_11 : decode cX4_readRepublic 11 = .ok (.iconst 1, 1) := by decide +kernel
theorem dX4_readRepublic_12 : decode cX4_readRepublic 12 = .ok (.istore_n 2, 1) := by decide +kernel
theorem dX4_readRepublic_13 : decode cX4_readRepublic 13 = .ok (.iconst 0, 1) := by decide +kernel
theorem dX4_readRepublic_14 : decode cX4_readRepublic 14 = .ok (.istore_n 3, 1) := by decide +kernel
theorem dX4_readRepublic_15 : decode cX4_readRepublic 15 = .ok (.iload_n 3, 1) := by decide +kernel
theorem dX4_readRepublic_16 : decode cX4_readRepublic 16 = .ok (.sipush 1000, 3) := by decide +kernel
theorem dX4_readRepublic_19 : decode cX4_readRepublic 19 = .ok (.if_icmp .ge 49, 3) := by decide +kernel
theorem dX4_readRepublic_22 : decode cX4_readRepublic 22 = .ok (.iload_n 2, 1) := by decide +kernel
theorem dX4_readRepublic_23 : decode cX4_readRepublic 23 = .ok (.ifCond .eq 45, 3) := by decide +kernel
theorem dX4_readRepublic_26 : decode cX4_readRepublic 26 = .ok (.aload_n 0, 1) := by decide +kernel
theorem dX4_readRepublic_27 : decode cX4_readRepublic 27 = .ok (.getfield 9, 3) := by decide +kernel
theorem dX4_readRepublic_30 : decode cX4_readRepublic 30 = .ok (.invokevirtual 34, 3) := by decide +kernel
theorem dX4_readRepublic_33 : decode cX4_readRepublic 33 = .ok (.ifCond .ne 35, 3) := by decide +kernel
theorem dX4_readRepublic_36 : decode cX4_readRepublic 36 = .ok (.aload_n 0, 1) := by decide +kernel
theorem dX4_readRepublic_37 : decode cX4_readRepublic 37 = .ok (.aload_n 1, 1) := by decide +kernel
theorem dX4_readRepublic_38 : decode cX4_readRepublic 38 = .ok (.invokevirtual 38, 3) := by decide +kernel
theorem dX4_readRepublic_41 : decode cX4_readRepublic 41 = .ok (.ifCond .eq 19, 3) := by decide +kernel
theorem dX4_readRepublic_44 : decode cX4_readRepublic 44 = .ok (.aload_n 0, 1) := by decide +kernel
theorem dX4_readRepublic_45 : decode cX4_readRepublic 45 = .ok (.getfield 9, 3) := by decide +kernel
theorem dX4_readRepublic_48 : decode cX4_readRepublic 48 = .ok (.bipush 59, 2) := by decide +kernel
theorem dX4_readRepublic_50 : decode cX4_readRepublic 50 = .ok (.invokevirtual 42, 3) := by decide +kernel
theorem dX4_readRepublic_53 : decode cX4_readRepublic 53 = .ok (.ifCond .eq 7, 3) := by decide +kernel
theorem dX4_readRepublic_56 : decode cX4_readRepublic 56 = .ok (.iconst 1, 1) := by decide +kernel
theorem dX4_readRepublic_57 : decode cX4_readRepublic 57 = .ok (.goto 4, 3) := by decide +kernel
theorem dX4_readRepublic_60 : decode cX4_readRepublic 60 = .ok (.iconst 0, 1) := by decide +kernel
theorem dX4_readRepublic_61 : decode cX4_readRepublic 61 = .ok (.istore_n 2, 1) := by decide +kernel
theorem dX4_readRepublic_62 : decode cX4_readRepublic 62 = .ok (.iinc 3 1, 3) := by decide +kernel
theorem dX4_readRepublic_65 : decode cX4_readRepublic 65 = .ok (.goto (-50), 3) := by decide +kernel
theorem dX4_readRepublic_68 : decode cX4_readRepublic 68 = .ok (.aload_n 0, 1) := by decide +kernel
theorem dX4_readRepublic_69 : decode cX4_readRepublic 69 = .ok (.getfield 9, 3) := by decide +kernel
theorem dX4_readRepublic_72 : decode cX4_readRepublic 72 = .ok (.invokevirtual 46, 3) := by decide +kernel
theorem dX4_readRepublic_75 : decode cX4_readRepublic 75 = .ok (.aload_n 0, 1) := by decide +kernel
theorem dX4_readRepublic_76 : decode cX4_readRepublic 76 = .ok (.getfield 9, 3) := by decide +kernel
theorem dX4_readRepublic_79 : decode cX4_readRepublic 79 = .ok (.getfield 47, 3) := by decide +kernel
theorem dX4_readRepublic_82 : decode cX4_readRepublic 82 = .ok (.ireturn, 1) := by decide +kernel
theorem dX4_readTerm_0 : decode cX4_readTerm 0 = .ok (.aload_n 0, 1) := by decide +kernel
theorem dX4_readTerm_1 : decode cX4_readTerm 1 = .ok (.getfield 9, 3) := by decide +kernel
theorem dX4_readTerm_4 : decode cX4_readTerm 4 = .ok (.invokevirtual 24, 3) := by decide +kernel
theorem dX4_readTerm_7 : decode cX4_readTerm 7 = .ok (.aload_n 2, 1) := by decide +kernel
theorem dX4_readTerm_8 : decode cX4_readTerm 8 = .ok (.iconst 0, 1) := by decide +kernel
theorem dX4_readTerm_9 : decode cX4_readTerm 9 = .ok (.putfield 51, 3) := by decide +kernel
theorem dX4_readTerm_12 : decode cX4_readTerm 12 = .ok (.iconst 1, 1) := by decide +kernel
theorem dX4_readTerm_13 : decode cX4_readTerm 13 = .ok (.istore_n 3, 1) := by decide +kernel
theorem dX4_readTerm_14 : decode cX4_readTerm 14 = .ok (.iconst 0, 1) := by decide +kernel
theorem dX4_readTerm_15 : decode cX4_readTerm 15 = .ok (.istore 4, 2) := by decide +kernel
theorem dX4_readTerm_17 : decode cX4_readTerm 17 = .ok (.iload 4, 2) := by decide +kernel
theorem dX4_readTerm_19 : decode cX4_readTerm 19 = .ok (.sipush 1000, 3) := by decide +kernel
theorem dX4_readTerm_22 : decode cX4_readTerm 22 = .ok (.if_icmp .ge 50, 3) := by decide +kernel
theorem dX4_readTerm_25 : decode cX4_readTerm 25 = .ok (.iload_n 3, 1) := by decide +kernel
theorem dX4_readTerm_26 : decode cX4_readTerm 26 = .ok (.ifCond .eq 46, 3) := by decide +kernel
theorem dX4_readTerm_29 : decode cX4_readTerm 29 = .ok (.aload_n 0, 1) := by decide +kernel
theorem dX4_readTerm_30 : decode cX4_readTerm 30 = .ok (.getfield 9, 3) := by decide +kernel
theorem dX4_readTerm_33 : decode cX4_readTerm 33 = .ok (.invokevirtual 34, 3) := by decide +kernel
theorem dX4_readTerm_36 : decode cX4_readTerm 36 = .ok (.ifCond .ne 36, 3) := by decide +kernel
theorem dX4_readTerm_39 : decode cX4_readTerm 39 = .ok (.aload_n 0, 1) := by decide +kernel
theorem dX4_readTerm_40 : decode cX4_readTerm 40 = .ok (.aload_n 1, 1) := by decide +kernel
theorem dX4_readTerm_41 : decode cX4_readTerm 41 = .ok (.aload_n 2, 1) := by decide +kernel
theorem dX4_readTerm_42 : decode cX4_readTerm 42 = .ok (.invokevirtual 56, 3) := by decide +kernel
theorem dX4_readTerm_45 : decode cX4_readTerm 45 = .ok (.ifCond .eq 19, 3) := by decide +kernel
theorem dX4_readTerm_48 : decode cX4_readTerm 48 = .ok (.aload_n 0, 1) := by decide +kernel
theorem dX4_readTerm_49 : decode cX4_readTerm 49 = .ok (.getfield 9, 3) := by decide +kernel
theorem dX4_readTerm_52 : decode cX4_readTerm 52 = .ok (.bipush 59, 2) := by decide +kernel
theorem dX4_readTerm_54 : decode cX4_readTerm 54 = .ok (.invokevirtual 42, 3) := by decide +kernel
theorem dX4_readTerm_57 : decode cX4_readTerm 57 = .ok (.ifCond .eq 7, 3) := by decide +kernel
theorem dX4_readTerm_60 : decode cX4_readTerm 60 = .ok (.iconst 1, 1) := by decide +kernel
theorem dX4_readTerm_61 : decode cX4_readTerm 61 = .ok (.goto 4, 3) := by decide +kernel
theorem dX4_readTerm_64 : decode cX4_readTerm 64 = .ok (.iconst 0, 1) := by decide +kernel
theorem dX4_readTerm_65 : decode cX4_readTerm 65 = .ok (.istore_n 3, 1) := by decide +kernel
theorem dX4_readTerm_66 : decode cX4_readTerm 66 = .ok (.iinc 4 1, 3) := by decide +kernel
theorem dX4_readTerm_69 : decode cX4_readTerm 69 = .ok (.goto (-52), 3) := by decide +kernel
theorem dX4_readTerm_72 : decode cX4_readTerm 72 = .ok (.aload_n 0, 1) := by decide +kernel
theorem dX4_readTerm_73 : decode cX4_readTerm 73 = .ok (.getfield 9, 3) := by decide +kernel
theorem dX4_readTerm_76 : decode cX4_readTerm 76 = .ok (.invokevirtual 46, 3) := by decide +kernel
theorem dX4_readTerm_79 : decode cX4_readTerm 79 = .ok (.aload_n 0, 1) := by decide +kernel
theorem dX4_readTerm_80 : decode cX4_readTerm 80 = .ok (.getfield 9, 3) := by decide +kernel
theorem dX4_readTerm_83 : decode cX4_readTerm 83 = .ok (.getfield 47, 3) := by decide +kernel
theorem dX4_readTerm_86 : decode cX4_readTerm 86 = .ok (.ireturn, 1) := by decide +kernel
theorem dX4_readTelling_0 : decode cX4_readTelling 0 = .ok (.aload_n 0, 1) := by decide +kernel
theorem dX4_readTelling_1 : decode cX4_readTelling 1 = .ok (.getfield 9, 3) := by decide +kernel
theorem dX4_readTelling_4 : decode cX4_readTelling 4 = .ok (.getstatic 60, 3) := by decide +kernel
theorem dX4_readTelling_7 : decode cX4_readTelling 7 = .ok (.invokevirtual 66, 3) := by decide +kernel
theorem dX4_readTelling_10 : decode cX4_readTelling 10 = .ok (.ifCond .eq 9, 3) := by decide +kernel
theorem dX4_readTelling_13 : decode cX4_readTelling 13 = .ok (.aload_n 0, 1) := by decide +kernel
theorem dX4_readTelling_14 : decode cX4_readTelling 14 = .ok (.aload_n 1, 1) := by decide +kernel
theorem dX4_readTelling_15 : decode cX4_readTelling 15 = .ok (.invokevirtual 70, 3) := by decide +kernel
theorem dX4_readTelling_18 : decode cX4_readTelling 18 = .ok (.ireturn, 1) := by decide +kernel
theorem dX4_readTelling_19 : decode cX4_readTelling 19 = .ok (.aload_n 0, 1) := by decide +kernel
theorem dX4_readTelling_20 : decode cX4_readTelling 20 = .ok (.getfield 9, 3) := by decide +kernel
theorem dX4_readTelling_23 : decode cX4_readTelling 23 = .ok (.getstatic 73, 3) := by decide +kernel
theorem dX4_readTelling_26 : decode cX4_readTelling 26 = .ok (.invokevirtual 66, 3) := by decide +kernel
theorem dX4_readTelling_29 : decode cX4_readTelling 29 = .ok (.ifCond .eq 9, 3) := by decide +kernel
theorem dX4_readTelling_32 : decode cX4_readTelling 32 = .ok (.aload_n 0, 1) := by decide +kernel
theorem dX4_readTelling_33 : decode cX4_readTelling 33 = .ok (.aload_n 1, 1) := by decide +kernel
theorem dX4_readTelling_34 : decode cX4_readTelling 34 = .ok (.invokevirtual 76, 3) := by decide +kernel
theorem dX4_readTelling_37 : decode cX4_readTelling 37 = .ok (.ireturn, 1) := by decide +kernel
theorem dX4_readTelling_38 : decode cX4_readTelling 38 = .ok (.aload_n 0, 1) := by decide +kernel
theorem dX4_readTelling_39 : decode cX4_readTelling 39 = .ok (.getfield 9, 3) := by decide +kernel
theorem dX4_readTelling_42 : decode cX4_readTelling 42 = .ok (.getstatic 79, 3) := by decide +kernel
theorem dX4_readTelling_45 : decode cX4_readTelling 45 = .ok (.invokevirtual 66, 3) := by decide +kernel
theorem dX4_readTelling_48 : decode cX4_readTelling 48 = .ok (.ifCond .eq 9, 3) := by decide +kernel
theorem dX4_readTelling_51 : decode cX4_readTelling 51 = .ok (.aload_n 0, 1) := by decide +kernel
theorem dX4_readTelling_52 : decode cX4_readTelling 52 = .ok (.aload_n 1, 1) := by decide +kernel
theorem dX4_readTelling_53 : decode cX4_readTelling 53 = .ok (.invokevirtual 82, 3) := by decide +kernel
theorem dX4_readTelling_56 : decode cX4_readTelling 56 = .ok (.ireturn, 1) := by decide +kernel
theorem dX4_readTelling_57 : decode cX4_readTelling 57 = .ok (.aload_n 0, 1) := by decide +kernel
theorem dX4_readTelling_58 : decode cX4_readTelling 58 = .ok (.getfield 9, 3) := by decide +kernel
theorem dX4_readTelling_61 : decode cX4_readTelling 61 = .ok (.getstatic 85, 3) := by decide +kernel
theorem dX4_readTelling_64 : decode cX4_readTelling 64 = .ok (.invokevirtual 66, 3) := by decide +kernel
theorem dX4_readTelling_67 : decode cX4_readTelling 67 = .ok (.ifCond .eq 9, 3) := by decide +kernel
theorem dX4_readTelling_70 : decode cX4_readTelling 70 = .ok (.aload_n 0, 1) := by decide +kernel
theorem dX4_readTelling_71 : decode cX4_readTelling 71 = .ok (.aload_n 1, 1) := by decide +kernel
theorem dX4_readTelling_72 : decode cX4_readTelling 72 = .ok (.invokevirtual 88, 3) := by decide +kernel
theorem dX4_readTelling_75 : decode cX4_readTelling 75 = .ok (.ireturn, 1) := by decide +kernel
theorem dX4_readTelling_76 : decode cX4_readTelling 76 = .ok (.aload_n 0, 1) := by decide +kernel
theorem dX4_readTelling_77 : decode cX4_readTelling 77 = .ok (.getfield 9, 3) := by decide +kernel
theorem dX4_readTelling_80 : decode cX4_readTelling 80 = .ok (.getstatic 91, 3) := by decide +kernel
theorem dX4_readTelling_83 : decode cX4_readTelling 83 = .ok (.invokevirtual 66, 3) := by decide +kernel
theorem dX4_readTelling_86 : decode cX4_readTelling 86 = .ok (.ifCond .eq 11, 3) := by decide +kernel
theorem dX4_readTelling_89 : decode cX4_readTelling 89 = .ok (.aload_n 0, 1) := by decide +kernel
theorem dX4_readTelling_90 : decode cX4_readTelling 90 = .ok (.aload_n 1, 1) := by decide +kernel
theorem dX4_readTelling_91 : decode cX4_readTelling 91 = .ok (.invokevirtual 94, 3) := by decide +kernel
theorem dX4_readTelling_94 : decode cX4_readTelling 94 = .ok (.goto 11, 3) := by decide +kernel
theorem dX4_readTelling_97 : decode cX4_readTelling 97 = .ok (.aload_n 0, 1) := by decide +kernel
theorem dX4_readTelling_98 : decode cX4_readTelling 98 = .ok (.getfield 9, 3) := by decide +kernel
theorem dX4_readTelling_101 : decode cX4_readTelling 101 = .ok (.iconst 1, 1) := by decide +kernel
theorem dX4_readTelling_102 : decode cX4_readTelling 102 = .ok (.invokevirtual 97, 3) := by decide +kernel
theorem dX4_readTelling_105 : decode cX4_readTelling 105 = .ok (.ireturn, 1) := by decide +kernel
theorem dX4_readWare_0 : decode cX4_readWare 0 = .ok (.aload_n 1, 1) := by decide +kernel
theorem dX4_readWare_1 : decode cX4_readWare 1 = .ok (.getfield 101, 3) := by decide +kernel
theorem dX4_readWare_4 : decode cX4_readWare 4 = .ok (.istore_n 2, 1) := by decide +kernel
theorem dX4_readWare_5 : decode cX4_readWare 5 = .ok (.iload_n 2, 1) := by decide +kernel
theorem dX4_readWare_6 : decode cX4_readWare 6 = .ok (.bipush 6, 2) := by decide +kernel
theorem dX4_readWare_8 : decode cX4_readWare 8 = .ok (.if_icmp .lt 12, 3) := by decide +kernel
theorem dX4_readWare_11 : decode cX4_readWare 11 = .ok (.aload_n 0, 1) := by decide +kernel
theorem dX4_readWare_12 : decode cX4_readWare 12 = .ok (.getfield 9, 3) := by decide +kernel
theorem dX4_readWare_15 : decode cX4_readWare 15 = .ok (.iconst 5, 1) := by decide +kernel
theorem dX4_readWare_16 : decode cX4_readWare 16 = .ok (.invokevirtual 97, 3) := by decide +kernel
theorem dX4_readWare_19 : decode cX4_readWare 19 = .ok (.ireturn, 1) := by decide +kernel
theorem dX4_readWare_20 : decode cX4_readWare 20 = .ok (.aload_n 0, 1) := by decide +kernel
theorem dX4_readWare_21 : decode cX4_readWare 21 = .ok (.getfield 9, 3) := by decide +kernel
theorem dX4_readWare_24 : decode cX4_readWare 24 = .ok (.invokevirtual 104, 3) := by decide +kernel
theorem dX4_readWare_27 : decode cX4_readWare 27 = .ok (.aload_n 0, 1) := by decide +kernel
theorem dX4_readWare_28 : decode cX4_readWare 28 = .ok (.getfield 9, 3) := by decide +kernel
theorem dX4_readWare_31 : decode cX4_readWare 31 = .ok (.getfield 107, 3) := by decide +kernel
theorem dX4_readWare_34 : decode cX4_readWare 34 = .ok (.lstore_n 3, 1) := by decide +kernel
theorem dX4_readWare_35 : decode cX4_readWare 35 = .ok (.aload_n 0, 1) := by decide +kernel
theorem dX4_readWare_36 : decode cX4_readWare 36 = .ok (.aload_n 1, 1) := by decide +kernel
theorem dX4_readWare_37 : decode cX4_readWare 37 = .ok (.invokevirtual 111, 3) := by decide +kernel
theorem dX4_readWare_40 : decode cX4_readWare 40 = .ok (.ifCond .eq 25, 3) := by decide +kernel
theorem dX4_readWare_43 : decode cX4_readWare 43 = .ok (.aload_n 0, 1) := by decide +kernel
theorem dX4_readWare_44 : decode cX4_readWare 44 = .ok (.aload_n 1, 1) := by decide +kernel
theorem dX4_readWare_45 : decode cX4_readWare 45 = .ok (.iload_n 2, 1) := by decide +kernel
theorem dX4_readWare_46 : decode cX4_readWare 46 = .ok (.invokevirtual 114, 3) := by decide +kernel
theorem dX4_readWare_49 : decode cX4_readWare 49 = .ok (.ifCond .eq 16, 3) := by decide +kernel
theorem dX4_readWare_52 : decode cX4_readWare 52 = .ok (.aload_n 0, 1) := by decide +kernel
theorem dX4_readWare_53 : decode cX4_readWare 53 = .ok (.getfield 9, 3) := by decide +kernel
theorem dX4_readWare_56 : decode cX4_readWare 56 = .ok (.getstatic 118, 3) := by decide +kernel
theorem dX4_readWare_59 : decode cX4_readWare 59 = .ok (.invokevirtual 121, 3) := by decide +kernel
theorem dX4_readWare_62 : decode cX4_readWare 62 = .ok (.ifCond .ne 5, 3) := by decide +kernel
theorem dX4_readWare_65 : decode cX4_readWare 65 = .ok (.iconst 0, 1) := by decide +kernel
theorem dX4_readWare_66 : decode cX4_readWare 66 = .ok (.ireturn, 1) := by decide +kernel
theorem dX4_readWare_67 : decode cX4_readWare 67 = .ok (.aload_n 0, 1) := by decide +kernel
theorem dX4_readWare_68 : decode cX4_readWare 68 = .ok (.getfield 9, 3) := by decide +kernel
theorem dX4_readWare_71 : decode cX4_readWare 71 = .ok (.iconst 2, 1) := by decide +kernel
theorem dX4_readWare_72 : decode cX4_readWare 72 = .ok (.bipush 60, 2) := by decide +kernel
theorem dX4_readWare_74 : decode cX4_readWare 74 = .ok (.invokevirtual 124, 3) := by decide +kernel
theorem dX4_readWare_77 : decode cX4_readWare 77 = .ok (.istore 5, 2) := by decide +kernel
theorem dX4_readWare_79 : decode cX4_readWare 79 = .ok (.iload 5, 2) := by decide +kernel
theorem dX4_readWare_81 : decode cX4_readWare 81 = .ok (.iconst (-1), 1) := by decide +kernel
theorem dX4_readWare_82 : decode cX4_readWare 82 = .ok (.if_icmp .eq 16, 3) := by decide +kernel
theorem dX4_readWare_85 : decode cX4_readWare 85 = .ok (.aload_n 0, 1) := by decide +kernel
theorem dX4_readWare_86 : decode cX4_readWare 86 = .ok (.getfield 9, 3) := by decide +kernel
theorem dX4_readWare_89 : decode cX4_readWare 89 = .ok (.getstatic 128, 3) := by decide +kernel
theorem dX4_readWare_92 : decode cX4_readWare 92 = .ok (.invokevirtual 121, 3) := by decide +kernel
theorem dX4_readWare_95 : decode cX4_readWare 95 = .ok (.ifCond .ne 5, 3) := by decide +kernel
theorem dX4_readWare_98 : decode cX4_readWare 98 = .ok (.iconst 0, 1) := by decide +kernel
theorem dX4_readWare_99 : decode cX4_readWare 99 = .ok (.ireturn, 1) := by decide +kernel
theorem dX4_readWare_100 : decode cX4_readWare 100 = .ok (.aload_n 0, 1) := by decide +kernel
theorem dX4_readWare_101 : decode cX4_readWare 101 = .ok (.getfield 9, 3) := by decide +kernel
theorem dX4_readWare_104 : decode cX4_readWare 104 = .ok (.iconst 0, 1) := by decide +kernel
theorem dX4_readWare_105 : decode cX4_readWare 105 = .ok (.bipush 30, 2) := by decide +kernel
theorem dX4_readWare_107 : decode cX4_readWare 107 = .ok (.invokevirtual 124, 3) := by decide +kernel
theorem dX4_readWare_110 : decode cX4_readWare 110 = .ok (.istore 6, 2) := by decide +kernel
theorem dX4_readWare_112 : decode cX4_readWare 112 = .ok (.iload 6, 2) := by decide +kernel
theorem dX4_readWare_114 : decode cX4_readWare 114 = .ok (.iconst (-1), 1) := by decide +kernel
theorem dX4_readWare_115 : decode cX4_readWare 115 = .ok (.if_icmp .ne 5, 3) := by decide +kernel
theorem dX4_readWare_118 : decode cX4_readWare 118 = .ok (.iconst 0, 1) := by decide +kernel
theorem dX4_readWare_119 : decode cX4_readWare 119 = .ok (.ireturn, 1) := by decide +kernel
theorem dX4_readWare_120 : decode cX4_readWare 120 = .ok (.aload_n 1, 1) := by decide +kernel
theorem dX4_readWare_121 : decode cX4_readWare 121 = .ok (.getfield 131, 3) := by decide +kernel
theorem dX4_readWare_124 : decode cX4_readWare 124 = .ok (.iload_n 2, 1) := by decide +kernel
theorem dX4_readWare_125 : decode cX4_readWare 125 = .ok (.lload_n 3, 1) := by decide +kernel
theorem dX4_readWare_126 : decode cX4_readWare 126 = .ok (.lastore, 1) := by decide +kernel
theorem dX4_readWare_127 : decode cX4_readWare 127 = .ok (.aload_n 1, 1) := by decide +kernel
theorem dX4_readWare_128 : decode cX4_readWare 128 = .ok (.getfield 135, 3) := by decide +kernel
theorem dX4_readWare_131 : decode cX4_readWare 131 = .ok (.iload_n 2, 1) := by decide +kernel
theorem dX4_readWare_132 : decode cX4_readWare 132 = .ok (.iload 5, 2) := by decide +kernel
theorem dX4_readWare_134 : decode cX4_readWare 134 = .ok (.iastore, 1) := by decide +kernel
theorem dX4_readWare_135 : decode cX4_readWare 135 = .ok (.aload_n 1, 1) := by decide +kernel
theorem dX4_readWare_136 : decode cX4_readWare 136 = .ok (.getfield 139, 3) := by decide +kernel
theorem dX4_readWare_139 : decode cX4_readWare 139 = .ok (.iload_n 2, 1) := by decide +kernel
theorem dX4_readWare_140 : decode cX4_readWare 140 = .ok (.iload 6, 2) := by decide +kernel
theorem dX4_readWare_142 : decode cX4_readWare 142 = .ok (.iload 5, 2) := by decide +kernel
theorem dX4_readWare_144 : decode cX4_readWare 144 = .ok (.iconst 2, 1) := by decide +kernel
theorem dX4_readWare_145 : decode cX4_readWare 145 = .ok (.idiv, 1) := by decide +kernel
theorem dX4_readWare_146 : decode cX4_readWare 146 = .ok (.invokestatic 142, 3) := by decide +kernel
theorem dX4_readWare_149 : decode cX4_readWare 149 = .ok (.iastore, 1) := by decide +kernel
theorem dX4_readWare_150 : decode cX4_readWare 150 = .ok (.aload_n 1, 1) := by decide +kernel
theorem dX4_readWare_151 : decode cX4_readWare 151 = .ok (.iload_n 2, 1) := by decide +kernel
theorem dX4_readWare_152 : decode cX4_readWare 152 = .ok (.iconst 1, 1) := by decide +kernel
theorem dX4_readWare_153 : decode cX4_readWare 153 = .ok (.iadd, 1) := by decide +kernel
theorem dX4_readWare_154 : decode cX4_readWare 154 = .ok (.putfield 101, 3) := by decide +kernel
theorem dX4_readWare_157 : decode cX4_readWare 157 = .ok (.iconst 1, 1) := by decide +kernel
theorem dX4_readWare_158 : decode cX4_readWare 158 = .ok (.ireturn, 1) := by decide +kernel
theorem dX4_takeKind_0 : decode cX4_takeKind 0 = .ok (.aload_n 0, 1) := by decide +kernel
theorem dX4_takeKind_1 : decode cX4_takeKind 1 = .ok (.getfield 9, 3) := by decide +kernel
theorem dX4_takeKind_4 : decode cX4_takeKind 4 = .ok (.getstatic 147, 3) := by decide +kernel
theorem dX4_takeKind_7 : decode cX4_takeKind 7 = .ok (.invokevirtual 66, 3) := by decide +kernel
theorem dX4_takeKind_10 : decode cX4_takeKind 10 = .ok (.ifCond .eq 7, 3) := by decide +kernel
theorem dX4_takeKind_13 : decode cX4_takeKind 13 = .ok (.iconst 0, 1) := by decide +kernel
theorem dX4_takeKind_14 : decode cX4_takeKind 14 = .ok (.goto 55, 3) := by decide +kernel
theorem dX4_takeKind_17 : decode cX4_takeKind 17 = .ok (.aload_n 0, 1) := by decide +kernel
theorem dX4_takeKind_18 : decode cX4_takeKind 18 = .ok (.getfield 9, 3) := by decide +kernel
theorem dX4_takeKind_21 : decode cX4_takeKind 21 = .ok (.getstatic 150, 3) := by decide +kernel
theorem dX4_takeKind_24 : decode cX4_takeKind 24 = .ok (.invokevirtual 66, 3) := by decide +kernel
theorem dX4_takeKind_27 : decode cX4_takeKind 27 = .ok (.ifCond .eq 7, 3) := by decide +kernel
theorem dX4_takeKind_30 : decode cX4_takeKind 30 = .ok (.iconst 1, 1) := by decide +kernel
theorem dX4_takeKind_31 : decode cX4_takeKind 31 = .ok (.goto 38, 3) := by decide +kernel
theorem dX4_takeKind_34 : decode cX4_takeKind 34 = .ok (.aload_n 0, 1) := by decide +kernel
theorem dX4_takeKind_35 : decode cX4_takeKind 35 = .ok (.getfield 9, 3) := by decide +kernel
theorem dX4_takeKind_38 : decode cX4_takeKind 38 = .ok (.getstatic 153, 3) := by decide +kernel
theorem dX4_takeKind_41 : decode cX4_takeKind 41 = .ok (.invokevirtual 66, 3) := by decide +kernel
theorem dX4_takeKind_44 : decode cX4_takeKind 44 = .ok (.ifCond .eq 7, 3) := by decide +kernel
theorem dX4_takeKind_47 : decode cX4_takeKind 47 = .ok (.iconst 2, 1) := by decide +kernel
theorem dX4_takeKind_48 : decode cX4_takeKind 48 = .ok (.goto 21, 3) := by decide +kernel
theorem dX4_takeKind_51 : decode cX4_takeKind 51 = .ok (.aload_n 0, 1) := by decide +kernel
theorem dX4_takeKind_52 : decode cX4_takeKind 52 = .ok (.getfield 9, 3) := by decide +kernel
theorem dX4_takeKind_55 : decode cX4_takeKind 55 = .ok (.getstatic 156, 3) := by decide +kernel
theorem dX4_takeKind_58 : decode cX4_takeKind 58 = .ok (.invokevirtual 66, 3) := by decide +kernel
theorem dX4_takeKind_61 : decode cX4_takeKind 61 = .ok (.ifCond .eq 7, 3) := by decide +kernel
theorem dX4_takeKind_64 : decode cX4_takeKind 64 = .ok (.iconst 3, 1) := by decide +kernel
theorem dX4_takeKind_65 : decode cX4_takeKind 65 = .ok (.goto 4, 3) := by decide +kernel
theorem dX4_takeKind_68 : decode cX4_takeKind 68 = .ok (.iconst (-1), 1) := by decide +kernel
theorem dX4_takeKind_69 : decode cX4_takeKind 69 = .ok (.istore_n 3, 1) := by decide +kernel
theorem dX4_takeKind_70 : decode cX4_takeKind 70 = .ok (.iload_n 3, 1) := by decide +kernel
theorem dX4_takeKind_71 : decode cX4_takeKind 71 = .ok (.iconst (-1), 1) := by decide +kernel
theorem dX4_takeKind_72 : decode cX4_takeKind 72 = .ok (.if_icmp .ne 12, 3) := by decide +kernel
theorem dX4_takeKind_75 : decode cX4_takeKind 75 = .ok (.aload_n 0, 1) := by decide +kernel
theorem dX4_takeKind_76 : decode cX4_takeKind 76 = .ok (.getfield 9, 3) := by decide +kernel
theorem dX4_takeKind_79 : decode cX4_takeKind 79 = .ok (.iconst 1, 1) := by decide +kernel
theorem dX4_takeKind_80 : decode cX4_takeKind 80 = .ok (.invokevirtual 97, 3) := by decide +kernel
theorem dX4_takeKind_83 : decode cX4_takeKind 83 = .ok (.ireturn, 1) := by decide +kernel
theorem dX4_takeKind_84 : decode cX4_takeKind 84 = .ok (.aload_n 1, 1) := by decide +kernel
theorem dX4_takeKind_85 : decode cX4_takeKind 85 = .ok (.getfield 159, 3) := by decide +kernel
theorem dX4_takeKind_88 : decode cX4_takeKind 88 = .ok (.iload_n 2, 1) := by decide +kernel
theorem dX4_takeKind_89 : decode cX4_takeKind 89 = .ok (.iload_n 3, 1) := by decide +kernel
theorem dX4_takeKind_90 : decode cX4_takeKind 90 = .ok (.iastore, 1) := by decide +kernel
theorem dX4_takeKind_91 : decode cX4_takeKind 91 = .ok (.aload_n 0, 1) := by decide +kernel
theorem dX4_takeKind_92 : decode cX4_takeKind 92 = .ok (.getfield 9, 3) := by decide +kernel
theorem dX4_takeKind_95 : decode cX4_takeKind 95 = .ok (.invokevirtual 104, 3) := by decide +kernel
theorem dX4_takeKind_98 : decode cX4_takeKind 98 = .ok (.iconst 1, 1) := by decide +kernel
theorem dX4_takeKind_99 : decode cX4_takeKind 99 = .ok (.ireturn, 1) := by decide +kernel
theorem dX4_readParty_0 : decode cX4_readParty 0 = .ok (.aload_n 1, 1) := by decide +kernel
theorem dX4_readParty_1 : decode cX4_readParty 1 = .ok (.getfield 162, 3) := by decide +kernel
theorem dX4_readParty_4 : decode cX4_readParty 4 = .ok (.istore_n 2, 1) := by decide +kernel
theorem dX4_readParty_5 : decode cX4_readParty 5 = .ok (.iload_n 2, 1) := by decide +kernel
theorem dX4_readParty_6 : decode cX4_readParty 6 = .ok (.iconst 5, 1) := by decide +kernel
theorem dX4_readParty_7 : decode cX4_readParty 7 = .ok (.if_icmp .lt 12, 3) := by decide +kernel
theorem dX4_readParty_10 : decode cX4_readParty 10 = .ok (.aload_n 0, 1) := by decide +kernel
theorem dX4_readParty_11 : decode cX4_readParty 11 = .ok (.getfield 9, 3) := by decide +kernel
theorem dX4_readParty_14 : decode cX4_readParty 14 = .ok (.iconst 5, 1) := by decide +kernel
theorem dX4_readParty_15 : decode cX4_readParty 15 = .ok (.invokevirtual 97, 3) := by decide +kernel
theorem dX4_readParty_18 : decode cX4_readParty 18 = .ok (.ireturn, 1) := by decide +kernel
theorem dX4_readParty_19 : decode cX4_readParty 19 = .ok (.aload_n 0, 1) := by decide +kernel
theorem dX4_readParty_20 : decode cX4_readParty 20 = .ok (.getfield 9, 3) := by decide +kernel
theorem dX4_readParty_23 : decode cX4_readParty 23 = .ok (.invokevirtual 104, 3) := by decide +kernel
theorem dX4_readParty_26 : decode cX4_readParty 26 = .ok (.aload_n 0, 1) := by decide +kernel
theorem dX4_readParty_27 : decode cX4_readParty 27 = .ok (.getfield 9, 3) := by decide +kernel
theorem dX4_readParty_30 : decode cX4_readParty 30 = .ok (.getfield 107, 3) := by decide +kernel
theorem dX4_readParty_33 : decode cX4_readParty 33 = .ok (.lstore_n 3, 1) := by decide +kernel
theorem dX4_readParty_34 : decode cX4_readParty 34 = .ok (.aload_n 0, 1) := by decide +kernel
theorem dX4_readParty_35 : decode cX4_readParty 35 = .ok (.aload_n 1, 1) := by decide +kernel
theorem dX4_readParty_36 : decode cX4_readParty 36 = .ok (.invokevirtual 111, 3) := by decide +kernel
theorem dX4_readParty_39 : decode cX4_readParty 39 = .ok (.ifCond .eq 16, 3) := by decide +kernel
theorem dX4_readParty_42 : decode cX4_readParty 42 = .ok (.aload_n 0, 1) := by decide +kernel
theorem dX4_readParty_43 : decode cX4_readParty 43 = .ok (.getfield 9, 3) := by decide +kernel
theorem dX4_readParty_46 : decode cX4_readParty 46 = .ok (.getstatic 165, 3) := by decide +kernel
theorem dX4_readParty_49 : decode cX4_readParty 49 = .ok (.invokevirtual 121, 3) := by decide +kernel
theorem dX4_readParty_52 : decode cX4_readParty 52 = .ok (.ifCond .ne 5, 3) := by decide +kernel
theorem dX4_readParty_55 : decode cX4_readParty 55 = .ok (.iconst 0, 1) := by decide +kernel
theorem dX4_readParty_56 : decode cX4_readParty 56 = .ok (.ireturn, 1) := by decide +kernel
theorem dX4_readParty_57 : decode cX4_readParty 57 = .ok (.aload_n 0, 1) := by decide +kernel
theorem dX4_readParty_58 : decode cX4_readParty 58 = .ok (.getfield 9, 3) := by decide +kernel
theorem dX4_readParty_61 : decode cX4_readParty 61 = .ok (.iconst 0, 1) := by decide +kernel
theorem dX4_readParty_62 : decode cX4_readParty 62 = .ok (.bipush 40, 2) := by decide +kernel
theorem dX4_readParty_64 : decode cX4_readParty 64 = .ok (.invokevirtual 124, 3) := by decide +kernel
theorem dX4_readParty_67 : decode cX4_readParty 67 = .ok (.istore 5, 2) := by decide +kernel
theorem dX4_readParty_69 : decode cX4_readParty 69 = .ok (.iload 5, 2) := by decide +kernel
theorem dX4_readParty_71 : decode cX4_readParty 71 = .ok (.iconst (-1), 1) := by decide +kernel
theorem dX4_readParty_72 : decode cX4_readParty 72 = .ok (.if_icmp .ne 5, 3) := by decide +kernel
theorem dX4_readParty_75 : decode cX4_readParty 75 = .ok (.iconst 0, 1) := by decide +kernel
theorem dX4_readParty_76 : decode cX4_readParty 76 = .ok (.ireturn, 1) := by decide +kernel
theorem dX4_readParty_77 : decode cX4_readParty 77 = .ok (.aload_n 1, 1) := by decide +kernel
theorem dX4_readParty_78 : decode cX4_readParty 78 = .ok (.getfield 168, 3) := by decide +kernel
theorem dX4_readParty_81 : decode cX4_readParty 81 = .ok (.iload_n 2, 1) := by decide +kernel
theorem dX4_readParty_82 : decode cX4_readParty 82 = .ok (.lload_n 3, 1) := by decide +kernel
theorem dX4_readParty_83 : decode cX4_readParty 83 = .ok (.lastore, 1) := by decide +kernel
theorem dX4_readParty_84 : decode cX4_readParty 84 = .ok (.aload_n 1, 1) := by decide +kernel
theorem dX4_readParty_85 : decode cX4_readParty 85 = .ok (.getfield 171, 3) := by decide +kernel
theorem dX4_readParty_88 : decode cX4_readParty 88 = .ok (.iload_n 2, 1) := by decide +kernel
theorem dX4_readParty_89 : decode cX4_readParty 89 = .ok (.iload 5, 2) := by decide +kernel
theorem dX4_readParty_91 : decode cX4_readParty 91 = .ok (.iastore, 1) := by decide +kernel
theorem dX4_readParty_92 : decode cX4_readParty 92 = .ok (.aload_n 1, 1) := by decide +kernel
theorem dX4_readParty_93 : decode cX4_readParty 93 = .ok (.getfield 174, 3) := by decide +kernel
theorem dX4_readParty_96 : decode cX4_readParty 96 = .ok (.iload_n 2, 1) := by decide +kernel
theorem dX4_readParty_97 : decode cX4_readParty 97 = .ok (.iconst 0, 1) := by decide +kernel
theorem dX4_readParty_98 : decode cX4_readParty 98 = .ok (.iastore, 1) := by decide +kernel
theorem dX4_readParty_99 : decode cX4_readParty 99 = .ok (.aload_n 1, 1) := by decide +kernel
theorem dX4_readParty_100 : decode cX4_readParty 100 = .ok (.iload_n 2, 1) := by decide +kernel
theorem dX4_readParty_101 : decode cX4_readParty 101 = .ok (.iconst 1, 1) := by decide +kernel
theorem dX4_readParty_102 : decode cX4_readParty 102 = .ok (.iadd, 1) := by decide +kernel
theorem dX4_readParty_103 : decode cX4_readParty 103 = .ok (.putfield 162, 3) := by decide +kernel
theorem dX4_readParty_106 : decode cX4_readParty 106 = .ok (.iconst 1, 1) := by decide +kernel
theorem dX4_readParty_107 : decode cX4_readParty 107 = .ok (.ireturn, 1) := by decide +kernel
theorem dX4_readCause_0 : decode cX4_readCause 0 = .ok (.aload_n 0, 1) := by decide +kernel
theorem dX4_readCause_1 : decode cX4_readCause 1 = .ok (.getfield 9, 3) := by decide +kernel
theorem dX4_readCause_4 : decode cX4_readCause 4 = .ok (.invokevirtual 104, 3) := by decide +kernel
theorem dX4_readCause_7 : decode cX4_readCause 7 = .ok (.aload_n 0, 1) := by decide +kernel
theorem dX4_readCause_8 : decode cX4_readCause 8 = .ok (.aload_n 0, 1) := by decide +kernel
theorem dX4_readCause_9 : decode cX4_readCause 9 = .ok (.aload_n 1, 1) := by decide +kernel
theorem dX4_readCause_10 : decode cX4_readCause 10 = .ok (.invokevirtual 177, 3) := by decide +kernel
theorem dX4_readCause_13 : decode cX4_readCause 13 = .ok (.iconst (-1), 1) := by decide +kernel
theorem dX4_readCause_14 : decode cX4_readCause 14 = .ok (.invokevirtual 181, 3) := by decide +kernel
theorem dX4_readCause_17 : decode cX4_readCause 17 = .ok (.istore_n 2, 1) := by decide +kernel
theorem dX4_readCause_18 : decode cX4_readCause 18 = .ok (.iload_n 2, 1) := by decide +kernel
theorem dX4_readCause_19 : decode cX4_readCause 19 = .ok (.iconst (-1), 1) := by decide +kernel
theorem dX4_readCause_20 : decode cX4_readCause 20 = .ok (.if_icmp .ne 5, 3) := by decide +kernel
theorem dX4_readCause_23 : decode cX4_readCause 23 = .ok (.iconst 0, 1) := by decide +kernel
theorem dX4_readCause_24 : decode cX4_readCause 24 = .ok (.ireturn, 1) := by decide +kernel
theorem dX4_readCause_25 : decode cX4_readCause 25 = .ok (.aload_n 0, 1) := by decide +kernel
theorem dX4_readCause_26 : decode cX4_readCause 26 = .ok (.aload_n 1, 1) := by decide +kernel
theorem dX4_readCause_27 : decode cX4_readCause 27 = .ok (.invokevirtual 184, 3) := by decide +kernel
theorem dX4_readCause_30 : decode cX4_readCause 30 = .ok (.istore_n 3, 1) := by decide +kernel
theorem dX4_readCause_31 : decode cX4_readCause 31 = .ok (.iload_n 3, 1) := by decide +kernel
theorem dX4_readCause_32 : decode cX4_readCause 32 = .ok (.iconst (-1), 1) := by decide +kernel
theorem dX4_readCause_33 : decode cX4_readCause 33 = .ok (.if_icmp .eq 16, 3) := by decide +kernel
theorem dX4_readCause_36 : decode cX4_readCause 36 = .ok (.aload_n 1, 1) := by decide +kernel
theorem dX4_readCause_37 : decode cX4_readCause 37 = .ok (.iload_n 2, 1) := by decide +kernel
theorem dX4_readCause_38 : decode cX4_readCause 38 = .ok (.iload_n 3, 1) := by decide +kernel
theorem dX4_readCause_39 : decode cX4_readCause 39 = .ok (.invokevirtual 187, 3) := by decide +kernel
theorem dX4_readCause_42 : decode cX4_readCause 42 = .ok (.ifCond .eq 7, 3) := by decide +kernel
theorem dX4_readCause_45 : decode cX4_readCause 45 = .ok (.iload_n 3, 1) := by decide +kernel
theorem dX4_readCause_46 : decode cX4_readCause 46 = .ok (.goto 4, 3) := by decide +kernel
theorem dX4_readCause_49 : decode cX4_readCause 49 = .ok (.iconst (-1), 1) := by decide +kernel
theorem dX4_readCause_50 : decode cX4_readCause 50 = .ok (.istore 4, 2) := by decide +kernel
theorem dX4_readCause_52 : decode cX4_readCause 52 = .ok (.aload_n 0, 1) := by decide +kernel
theorem dX4_readCause_53 : decode cX4_readCause 53 = .ok (.iload_n 3, 1) := by decide +kernel
theorem dX4_readCause_54 : decode cX4_readCause 54 = .ok (.iload 4, 2) := by decide +kernel
theorem dX4_readCause_56 : decode cX4_readCause 56 = .ok (.invokevirtual 181, 3) := by decide +kernel
theorem dX4_readCause_59 : decode cX4_readCause 59 = .ok (.iconst (-1), 1) := by decide +kernel
theorem dX4_readCause_60 : decode cX4_readCause 60 = .ok (.if_icmp .ne 5, 3) := by decide +kernel
theorem dX4_readCause_63 : decode cX4_readCause 63 = .ok (.iconst 0, 1) := by decide +kernel
theorem dX4_readCause_64 : decode cX4_readCause 64 = .ok (.ireturn, 1) := by decide +kernel
theorem dX4_readCause_65 : decode cX4_readCause 65 = .ok (.aload_n 1, 1) := by decide +kernel
theorem dX4_readCause_66 : decode cX4_readCause 66 = .ok (.getfield 174, 3) := by decide +kernel
theorem dX4_readCause_69 : decode cX4_readCause 69 = .ok (.iload_n 2, 1) := by decide +kernel
theorem dX4_readCause_70 : decode cX4_readCause 70 = .ok (.dup2, 1) := by decide +kernel
theorem dX4_readCause_71 : decode cX4_readCause 71 = .ok (.iaload, 1) := by decide +kernel
theorem dX4_readCause_72 : decode cX4_readCause 72 = .ok (.iconst 1, 1) := by decide +kernel
theorem dX4_readCause_73 : decode cX4_readCause 73 = .ok (.iload_n 3, 1) := by decide +kernel
theorem dX4_readCause_74 : decode cX4_readCause 74 = .ok (.ishl, 1) := by decide +kernel
theorem dX4_readCause_75 : decode cX4_readCause 75 = .ok (.ior, 1) := by decide +kernel
theorem dX4_readCause_76 : decode cX4_readCause 76 = .ok (.iastore, 1) := by decide +kernel
theorem dX4_readCause_77 : decode cX4_readCause 77 = .ok (.iconst 1, 1) := by decide +kernel
theorem dX4_readCause_78 : decode cX4_readCause 78 = .ok (.ireturn, 1) := by decide +kernel
theorem dX4_readFine_0 : decode cX4_readFine 0 = .ok (.aload_n 1, 1) := by decide +kernel
theorem dX4_readFine_1 : decode cX4_readFine 1 = .ok (.getfield 191, 3) := by decide +kernel
theorem dX4_readFine_4 : decode cX4_readFine 4 = .ok (.ifCond .eq 12, 3) := by decide +kernel
theorem dX4_readFine_7 : decode cX4_readFine 7 = .ok (.aload_n 0, 1) := by decide +kernel
theorem dX4_readFine_8 : decode cX4_readFine 8 = .ok (.getfield 9, 3) := by decide +kernel
theorem dX4_readFine_11 : decode cX4_readFine 11 = .ok (.iconst 3, 1) := by decide +kernel
theorem dX4_readFine_12 : decode cX4_readFine 12 = .ok (.invokevirtual 97, 3) := by decide +kernel
theorem dX4_readFine_15 : decode cX4_readFine 15 = .ok (.ireturn, 1) := by decide +kernel
theorem dX4_readFine_16 : decode cX4_readFine 16 = .ok (.aload_n 0, 1) := by decide +kernel
theorem dX4_readFine_17 : decode cX4_readFine 17 = .ok (.getfield 9, 3) := by decide +kernel
theorem dX4_readFine_20 : decode cX4_readFine 20 = .ok (.invokevirtual 104, 3) := by decide +kernel
theorem dX4_readFine_23 : decode cX4_readFine 23 = .ok (.aload_n 0, 1) := by decide +kernel
theorem dX4_readFine_24 : decode cX4_readFine 24 = .ok (.getfield 9, 3) := by decide +kernel
theorem dX4_readFine_27 : decode cX4_readFine 27 = .ok (.iconst 1, 1) := by decide +kernel
theorem dX4_readFine_28 : decode cX4_readFine 28 = .ok (.bipush 9, 2) := by decide +kernel
theorem dX4_readFine_30 : decode cX4_readFine 30 = .ok (.invokevirtual 124, 3) := by decide +kernel
theorem dX4_readFine_33 : decode cX4_readFine 33 = .ok (.istore_n 2, 1) := by decide +kernel
theorem dX4_readFine_34 : decode cX4_readFine 34 = .ok (.iload_n 2, 1) := by decide +kernel
theorem dX4_readFine_35 : decode cX4_readFine 35 = .ok (.iconst (-1), 1) := by decide +kernel
theorem dX4_readFine_36 : decode cX4_readFine 36 = .ok (.if_icmp .ne 5, 3) := by decide +kernel
theorem dX4_readFine_39 : decode cX4_readFine 39 = .ok (.iconst 0, 1) := by decide +kernel
theorem dX4_readFine_40 : decode cX4_readFine 40 = .ok (.ireturn, 1) := by decide +kernel
theorem dX4_readFine_41 : decode cX4_readFine 41 = .ok (.aload_n 1, 1) := by decide +kernel
theorem dX4_readFine_42 : decode cX4_readFine 42 = .ok (.iload_n 2, 1) := by decide +kernel
theorem dX4_readFine_43 : decode cX4_readFine 43 = .ok (.putfield 195, 3) := by decide +kernel
theorem dX4_readFine_46 : decode cX4_readFine 46 = .ok (.aload_n 1, 1) := by decide +kernel
theorem dX4_readFine_47 : decode cX4_readFine 47 = .ok (.iconst 1, 1) := by decide +kernel
theorem dX4_readFine_48 : decode cX4_readFine 48 = .ok (.putfield 191, 3) := by decide +kernel
theorem dX4_readFine_51 : decode cX4_readFine 51 = .ok (.iconst 1, 1) := by decide +kernel
theorem dX4_readFine_52 : decode cX4_readFine 52 = .ok (.ireturn, 1) := by decide +kernel
theorem dX4_readWorks_0 : decode cX4_readWorks 0 = .ok (.aload_n 1, 1) := by decide +kernel
theorem dX4_readWorks_1 : decode cX4_readWorks 1 = .ok (.getfield 198, 3) := by decide +kernel
theorem dX4_readWorks_4 : decode cX4_readWorks 4 = .ok (.ifCond .eq 12, 3) := by decide +kernel
theorem dX4_readWorks_7 : decode cX4_readWorks 7 = .ok (.aload_n 0, 1) := by decide +kernel
theorem dX4_readWorks_8 : decode cX4_readWorks 8 = .ok (.getfield 9, 3) := by decide +kernel
theorem dX4_readWorks_11 : decode cX4_readWorks 11 = .ok (.iconst 3, 1) := by decide +kernel
theorem dX4_readWorks_12 : decode cX4_readWorks 12 = .ok (.invokevirtual 97, 3) := by decide +kernel
theorem dX4_readWorks_15 : decode cX4_readWorks 15 = .ok (.ireturn, 1) := by decide +kernel
theorem dX4_readWorks_16 : decode cX4_readWorks 16 = .ok (.aload_n 1, 1) := by decide +kernel
theorem dX4_readWorks_17 : decode cX4_readWorks 17 = .ok (.iconst 1, 1) := by decide +kernel
theorem dX4_readWorks_18 : decode cX4_readWorks 18 = .ok (.putfield 198, 3) := by decide +kernel
theorem dX4_readWorks_21 : decode cX4_readWorks 21 = .ok (.aload_n 0, 1) := by decide +kernel
theorem dX4_readWorks_22 : decode cX4_readWorks 22 = .ok (.getfield 9, 3) := by decide +kernel
theorem dX4_readWorks_25 : decode cX4_readWorks 25 = .ok (.invokevirtual 104, 3) := by decide +kernel
theorem dX4_readWorks_28 : decode cX4_readWorks 28 = .ok (.aload_n 0, 1) := by decide +kernel
theorem dX4_readWorks_29 : decode cX4_readWorks 29 = .ok (.getfield 20, 3) := by decide +kernel
theorem dX4_readWorks_32 : decode cX4_readWorks 32 = .ok (.aload_n 1, 1) := by decide +kernel
theorem dX4_readWorks_33 : decode cX4_readWorks 33 = .ok (.getfield 201, 3) := by decide +kernel
theorem dX4_readWorks_36 : decode cX4_readWorks 36 = .ok (.iconst 0, 1) := by decide +kernel
theorem dX4_readWorks_37 : decode cX4_readWorks 37 = .ok (.iconst 0, 1) := by decide +kernel
theorem dX4_readWorks_38 : decode cX4_readWorks 38 = .ok (.invokevirtual 205, 3) := by decide +kernel
theorem dX4_readWorks_41 : decode cX4_readWorks 41 = .ok (.ireturn, 1) := by decide +kernel
theorem dX4_readLine_0 : decode cX4_readLine 0 = .ok (.aload_n 0, 1) := by decide +kernel
theorem dX4_readLine_1 : decode cX4_readLine 1 = .ok (.invokevirtual 209, 3) := by decide +kernel
theorem dX4_readLine_4 : decode cX4_readLine 4 = .ok (.istore_n 3, 1) := by decide +kernel
theorem dX4_readLine_5 : decode cX4_readLine 5 = .ok (.iload_n 3, 1) := by decide +kernel
theorem dX4_readLine_6 : decode cX4_readLine 6 = .ok (.iconst (-1), 1) := by decide +kernel
theorem dX4_readLine_7 : decode cX4_readLine 7 = .ok (.if_icmp .ne 12, 3) := by decide +kernel
theorem dX4_readLine_10 : decode cX4_readLine 10 = .ok (.aload_n 0, 1) := by decide +kernel
theorem dX4_readLine_11 : decode cX4_readLine 11 = .ok (.getfield 9, 3) := by decide +kernel
theorem dX4_readLine_14 : decode cX4_readLine 14 = .ok (.iconst 1, 1) := by decide +kernel
theorem dX4_readLine_15 : decode cX4_readLine 15 = .ok (.invokevirtual 97, 3) := by decide +kernel
theorem dX4_readLine_18 : decode cX4_readLine 18 = .ok (.ireturn, 1) := by decide +kernel
theorem dX4_readLine_19 : decode cX4_readLine 19 = .ok (.aload_n 2, 1) := by decide +kernel
theorem dX4_readLine_20 : decode cX4_readLine 20 = .ok (.getfield 51, 3) := by decide +kernel
theorem dX4_readLine_23 : decode cX4_readLine 23 = .ok (.bipush 40, 2) := by decide +kernel
theorem dX4_readLine_25 : decode cX4_readLine 25 = .ok (.if_icmp .lt 12, 3) := by decide +kernel
theorem dX4_readLine_28 : decode cX4_readLine 28 = .ok (.aload_n 0, 1) := by decide +kernel
theorem dX4_readLine_29 : decode cX4_readLine 29 = .ok (.getfield 9, 3) := by decide +kernel
theorem dX4_readLine_32 : decode cX4_readLine 32 = .ok (.iconst 5, 1) := by decide +kernel
theorem dX4_readLine_33 : decode cX4_readLine 33 = .ok (.invokevirtual 97, 3) := by decide +kernel
theorem dX4_readLine_36 : decode cX4_readLine 36 = .ok (.ireturn, 1) := by decide +kernel
theorem dX4_readLine_37 : decode cX4_readLine 37 = .ok (.aload_n 0, 1) := by decide +kernel
theorem dX4_readLine_38 : decode cX4_readLine 38 = .ok (.getfield 9, 3) := by decide +kernel
theorem dX4_readLine_41 : decode cX4_readLine 41 = .ok (.invokevirtual 104, 3) := by decide +kernel
theorem dX4_readLine_44 : decode cX4_readLine 44 = .ok (.iload_n 3, 1) := by decide +kernel
theorem dX4_readLine_45 : decode cX4_readLine 45 = .ok (.iconst 4, 1) := by decide +kernel
theorem dX4_readLine_46 : decode cX4_readLine 46 = .ok (.if_icmp .ne 13, 3) := by decide +kernel
theorem dX4_readLine_49 : decode cX4_readLine 49 = .ok (.aload_n 2, 1) := by decide +kernel
theorem dX4_readLine_50 : decode cX4_readLine 50 = .ok (.iload_n 3, 1) := by decide +kernel
theorem dX4_readLine_51 : decode cX4_readLine 51 = .ok (.iconst 0, 1) := by decide +kernel
theorem dX4_readLine_52 : decode cX4_readLine 52 = .ok (.iconst 0, 1) := by decide +kernel
theorem dX4_readLine_53 : decode cX4_readLine 53 = .ok (.iconst 0, 1) := by decide +kernel
theorem dX4_readLine_54 : decode cX4_readLine 54 = .ok (.invokevirtual 213, 3) := by decide +kernel
theorem dX4_readLine_57 : decode cX4_readLine 57 = .ok (.iconst 1, 1) := by decide +kernel
theorem dX4_readLine_58 : decode cX4_readLine 58 = .ok (.ireturn, 1) := by decide +kernel
theorem dX4_readLine_59 : decode cX4_readLine 59 = .ok (.iload_n 3, 1) := by decide +kernel
theorem dX4_readLine_60 : decode cX4_readLine 60 = .ok (.iconst 3, 1) := by decide +kernel
theorem dX4_readLine_61 : decode cX4_readLine 61 = .ok (.if_icmp .ne 7, 3) := by decide +kernel
theorem dX4_readLine_64 : decode cX4_readLine 64 = .ok (.iconst 1, 1) := by decide +kernel
theorem dX4_readLine_65 : decode cX4_readLine 65 = .ok (.goto 4, 3) := by decide +kernel
theorem dX4_readLine_68 : decode cX4_readLine 68 = .ok (.iconst 0, 1) := by decide +kernel
theorem dX4_readLine_69 : decode cX4_readLine 69 = .ok (.istore 4, 2) := by decide +kernel
theorem dX4_readLine_71 : decode cX4_readLine 71 = .ok (.aload_n 0, 1) := by decide +kernel
theorem dX4_readLine_72 : decode cX4_readLine 72 = .ok (.iload 4, 2) := by decide +kernel
theorem dX4_readLine_74 : decode cX4_readLine 74 = .ok (.ifCond .eq 11, 3) := by decide +kernel
theorem dX4_readLine_77 : decode cX4_readLine 77 = .ok (.aload_n 0, 1) := by decide +kernel
theorem dX4_readLine_78 : decode cX4_readLine 78 = .ok (.aload_n 1, 1) := by decide +kernel
theorem dX4_readLine_79 : decode cX4_readLine 79 = .ok (.invokevirtual 177, 3) := by decide +kernel
theorem dX4_readLine_82 : decode cX4_readLine 82 = .ok (.goto 8, 3) := by decide +kernel
theorem dX4_readLine_85 : decode cX4_readLine 85 = .ok (.aload_n 0, 1) := by decide +kernel
theorem dX4_readLine_86 : decode cX4_readLine 86 = .ok (.aload_n 1, 1) := by decide +kernel
theorem dX4_readLine_87 : decode cX4_readLine 87 = .ok (.invokevirtual 184, 3) := by decide +kernel
theorem dX4_readLine_90 : decode cX4_readLine 90 = .ok (.iconst (-1), 1) := by decide +kernel
theorem dX4_readLine_91 : decode cX4_readLine 91 = .ok (.invokevirtual 181, 3) := by decide +kernel
theorem dX4_readLine_94 : decode cX4_readLine 94 = .ok (.istore 5, 2) := by decide +kernel
theorem dX4_readLine_96 : decode cX4_readLine 96 = .ok (.iconst 0, 1) := by decide +kernel
theorem dX4_readLine_97 : decode cX4_readLine 97 = .ok (.istore 6, 2) := by decide +kernel
theorem dX4_readLine_99 : decode cX4_readLine 99 = .ok (.iload 5, 2) := by decide +kernel
theorem dX4_readLine_101 : decode cX4_readLine 101 = .ok (.iconst (-1), 1) := by decide +kernel
theorem dX4_readLine_102 : decode cX4_readLine 102 = .ok (.if_icmp .eq 39, 3) := by decide +kernel
theorem dX4_readLine_105 : decode cX4_readLine 105 = .ok (.iload 4, 2) := by decide +kernel
theorem dX4_readLine_107 : decode cX4_readLine 107 = .ok (.ifCond .ne 8, 3) := by decide +kernel
theorem dX4_readLine_110 : decode cX4_readLine 110 = .ok (.iload_n 3, 1) := by decide +kernel
theorem dX4_readLine_111 : decode cX4_readLine 111 = .ok (.iconst 2, 1) := by decide +kernel
theorem dX4_readLine_112 : decode cX4_readLine 112 = .ok (.if_icmp .ne 29, 3) := by decide +kernel
theorem dX4_readLine_115 : decode cX4_readLine 115 = .ok (.aload_n 0, 1) := by decide +kernel
theorem dX4_readLine_116 : decode cX4_readLine 116 = .ok (.iload 4, 2) := by decide +kernel
theorem dX4_readLine_118 : decode cX4_readLine 118 = .ok (.ifCond .eq 11, 3) := by decide +kernel
theorem dX4_readLine_121 : decode cX4_readLine 121 = .ok (.aload_n 0, 1) := by decide +kernel
theorem dX4_readLine_122 : decode cX4_readLine 122 = .ok (.aload_n 1, 1) := by decide +kernel
theorem dX4_readLine_123 : decode cX4_readLine 123 = .ok (.invokevirtual 177, 3) := by decide +kernel
theorem dX4_readLine_126 : decode cX4_readLine 126 = .ok (.goto 8, 3) := by decide +kernel
theorem dX4_readLine_129 : decode cX4_readLine 129 = .ok (.aload_n 0, 1) := by decide +kernel
theorem dX4_readLine_130 : decode cX4_readLine 130 = .ok (.aload_n 1, 1) := by decide +kernel
theorem dX4_readLine_131 : decode cX4_readLine 131 = .ok (.invokevirtual 184, 3) := by decide +kernel
theorem dX4_readLine_134 : decode cX4_readLine 134 = .ok (.iload 5, 2) := by decide +kernel
theorem dX4_readLine_136 : decode cX4_readLine 136 = .ok (.invokevirtual 181, 3) := by decide +kernel
theorem dX4_readLine_139 : decode cX4_readLine 139 = .ok (.istore 6, 2) := by decide +kernel
theorem dX4_readLine_141 : decode cX4_readLine 141 = .ok (.iload 5, 2) := by decide +kernel
theorem dX4_readLine_143 : decode cX4_readLine 143 = .ok (.iconst (-1), 1) := by decide +kernel
theorem dX4_readLine_144 : decode cX4_readLine 144 = .ok (.if_icmp .eq 9, 3) := by decide +kernel
theorem dX4_readLine_147 : decode cX4_readLine 147 = .ok (.iload 6, 2) := by decide +kernel
theorem dX4_readLine_149 : decode cX4_readLine 149 = .ok (.iconst (-1), 1) := by decide +kernel
theorem dX4_readLine_150 : decode cX4_readLine 150 = .ok (.if_icmp .ne 5, 3) := by decide +kernel
theorem dX4_readLine_153 : decode cX4_readLine 153 = .ok (.iconst 0, 1) := by decide +kernel
theorem dX4_readLine_154 : decode cX4_readLine 154 = .ok (.ireturn, 1) := by decide +kernel
theorem dX4_readLine_155 : decode cX4_readLine 155 = .ok (.iload_n 3, 1) := by decide +kernel
theorem dX4_readLine_156 : decode cX4_readLine 156 = .ok (.iconst 2, 1) := by decide +kernel
theorem dX4_readLine_157 : decode cX4_readLine 157 = .ok (.if_icmp .ne 7, 3) := by decide +kernel
theorem dX4_readLine_160 : decode cX4_readLine 160 = .ok (.iconst 0, 1) := by decide +kernel
theorem dX4_readLine_161 : decode cX4_readLine 161 = .ok (.goto 13, 3) := by decide +kernel
theorem dX4_readLine_164 : decode cX4_readLine 164 = .ok (.aload_n 0, 1) := by decide +kernel
theorem dX4_readLine_165 : decode cX4_readLine 165 = .ok (.getfield 9, 3) := by decide +kernel
theorem dX4_readLine_168 : decode cX4_readLine 168 = .ok (.iconst 1, 1) := by decide +kernel
theorem dX4_readLine_169 : decode cX4_readLine 169 = .ok (.bipush 20, 2) := by decide +kernel
theorem dX4_readLine_171 : decode cX4_readLine 171 = .ok (.invokevirtual 124, 3) := by decide +kernel
theorem dX4_readLine_174 : decode cX4_readLine 174 = .ok (.istore 7, 2) := by decide +kernel
theorem dX4_readLine_176 : decode cX4_readLine 176 = .ok (.aload_n 2, 1) := by decide +kernel
theorem dX4_readLine_177 : decode cX4_readLine 177 = .ok (.iload_n 3, 1) := by decide +kernel
theorem dX4_readLine_178 : decode cX4_readLine 178 = .ok (.iload 5, 2) := by decide +kernel
theorem dX4_readLine_180 : decode cX4_readLine 180 = .ok (.iload 6, 2) := by decide +kernel
theorem dX4_readLine_182 : decode cX4_readLine 182 = .ok (.iload 7, 2) := by decide +kernel
theorem dX4_readLine_184 : decode cX4_readLine 184 = .ok (.invokevirtual 213, 3) := by decide +kernel
theorem dX4_readLine_187 : decode cX4_readLine 187 = .ok (.iload 7, 2) := by decide +kernel
theorem dX4_readLine_189 : decode cX4_readLine 189 = .ok (.iconst (-1), 1) := by decide +kernel
theorem dX4_readLine_190 : decode cX4_readLine 190 = .ok (.if_icmp .eq 7, 3) := by decide +kernel
theorem dX4_readLine_193 : decode cX4_readLine 193 = .ok (.iconst 1, 1) := by decide +kernel
theorem dX4_readLine_194 : decode cX4_readLine 194 = .ok (.goto 4, 3) := by decide +kernel
theorem dX4_readLine_197 : decode cX4_readLine 197 = .ok (.iconst 0, 1) := by decide +kernel
theorem dX4_readLine_198 : decode cX4_readLine 198 = .ok (.ireturn, 1) := by decide +kernel
theorem dX4_deedHere_0 : decode cX4_deedHere 0 = .ok (.aload_n 0, 1) := by decide +kernel
theorem dX4_deedHere_1 : decode cX4_deedHere 1 = .ok (.getfield 9, 3) := by decide +kernel
theorem dX4_deedHere_4 : decode cX4_deedHere 4 = .ok (.getstatic 217, 3) := by decide +kernel
theorem dX4_deedHere_7 : decode cX4_deedHere 7 = .ok (.invokevirtual 66, 3) := by decide +kernel
theorem dX4_deedHere_10 : decode cX4_deedHere 10 = .ok (.ifCond .eq 7, 3) := by decide +kernel
theorem dX4_deedHere_13 : decode cX4_deedHere 13 = .ok (.iconst 0, 1) := by decide +kernel
theorem dX4_deedHere_14 : decode cX4_deedHere 14 = .ok (.goto 72, 3) := by decide +kernel
theorem dX4_deedHere_17 : decode cX4_deedHere 17 = .ok (.aload_n 0, 1) := by decide +kernel
theorem dX4_deedHere_18 : decode cX4_deedHere 18 = .ok (.getfield 9, 3) := by decide +kernel
theorem dX4_deedHere_21 : decode cX4_deedHere 21 = .ok (.getstatic 220, 3) := by decide +kernel
theorem dX4_deedHere_24 : decode cX4_deedHere 24 = .ok (.invokevirtual 66, 3) := by decide +kernel
theorem dX4_deedHere_27 : decode cX4_deedHere 27 = .ok (.ifCond .eq 7, 3) := by decide +kernel
theorem dX4_deedHere_30 : decode cX4_deedHere 30 = .ok (.iconst 1, 1) := by decide +kernel
theorem dX4_deedHere_31 : decode cX4_deedHere 31 = .ok (.goto 55, 3) := by decide +kernel
theorem dX4_deedHere_34 : decode cX4_deedHere 34 = .ok (.aload_n 0, 1) := by decide +kernel
theorem dX4_deedHere_35 : decode cX4_deedHere 35 = .ok (.getfield 9, 3) := by decide +kernel
theorem dX4_deedHere_38 : decode cX4_deedHere 38 = .ok (.getstatic 223, 3) := by decide +kernel
theorem dX4_deedHere_41 : decode cX4_deedHere 41 = .ok (.invokevirtual 66, 3) := by decide +kernel
theorem dX4_deedHere_44 : decode cX4_deedHere 44 = .ok (.ifCond .eq 7, 3) := by decide +kernel
theorem dX4_deedHere_47 : decode cX4_deedHere 47 = .ok (.iconst 2, 1) := by decide +kernel
theorem dX4_deedHere_48 : decode cX4_deedHere 48 = .ok (.goto 38, 3) := by decide +kernel
theorem dX4_deedHere_51 : decode cX4_deedHere 51 = .ok (.aload_n 0, 1) := by decide +kernel
theorem dX4_deedHere_52 : decode cX4_deedHere 52 = .ok (.getfield 9, 3) := by decide +kernel
theorem dX4_deedHere_55 : decode cX4_deedHere 55 = .ok (.getstatic 226, 3) := by decide +kernel
theorem dX4_deedHere_58 : decode cX4_deedHere 58 = .ok (.invokevirtual 66, 3) := by decide +kernel
theorem dX4_deedHere_61 : decode cX4_deedHere 61 = .ok (.ifCond .eq 7, 3) := by decide +kernel
theorem dX4_deedHere_64 : decode cX4_deedHere 64 = .ok (.iconst 3, 1) := by decide +kernel
theorem dX4_deedHere_65 : decode cX4_deedHere 65 = .ok (.goto 21, 3) := by decide +kernel
theorem dX4_deedHere_68 : decode cX4_deedHere 68 = .ok (.aload_n 0, 1) := by decide +kernel
theorem dX4_deedHere_69 : decode cX4_deedHere 69 = .ok (.getfield 9, 3) := by decide +kernel
theorem dX4_deedHere_72 : decode cX4_deedHere 72 = .ok (.getstatic 229, 3) := by decide +kernel
theorem dX4_deedHere_75 : decode cX4_deedHere 75 = .ok (.invokevirtual 66, 3) := by decide +kernel
theorem dX4_deedHere_78 : decode cX4_deedHere 78 = .ok (.ifCond .eq 7, 3) := by decide +kernel
theorem dX4_deedHere_81 : decode cX4_deedHere 81 = .ok (.iconst 4, 1) := by decide +kernel
theorem dX4_deedHere_82 : decode cX4_deedHere 82 = .ok (.goto 4, 3) := by decide +kernel
theorem dX4_deedHere_85 : decode cX4_deedHere 85 = .ok (.iconst (-1), 1) := by decide +kernel
theorem dX4_deedHere_86 : decode cX4_deedHere 86 = .ok (.ireturn, 1) := by decide +kernel
theorem dX4_takeNewName_0 : decode cX4_takeNewName 0 = .ok (.aload_n 0, 1) := by decide +kernel
theorem dX4_takeNewName_1 : decode cX4_takeNewName 1 = .ok (.getfield 9, 3) := by decide +kernel
theorem dX4_takeNewName_4 : decode cX4_takeNewName 4 = .ok (.invokevirtual 232, 3) := by decide +kernel
theorem dX4_takeNewName_7 : decode cX4_takeNewName 7 = .ok (.ifCond .ne 12, 3) := by decide +kernel
theorem dX4_takeNewName_10 : decode cX4_takeNewName 10 = .ok (.aload_n 0, 1) := by decide +kernel
theorem dX4_takeNewName_11 : decode cX4_takeNewName 11 = .ok (.getfield 9, 3) := by decide +kernel
theorem dX4_takeNewName_14 : decode cX4_takeNewName 14 = .ok (.iconst 1, 1) := by decide +kernel
theorem dX4_takeNewName_15 : decode cX4_takeNewName 15 = .ok (.invokevirtual 97, 3) := by decide +kernel
theorem dX4_takeNewName_18 : decode cX4_takeNewName 18 = .ok (.ireturn, 1) := by decide +kernel
theorem dX4_takeNewName_19 : decode cX4_takeNewName 19 = .ok (.aload_n 1, 1) := by decide +kernel
theorem dX4_takeNewName_20 : decode cX4_takeNewName 20 = .ok (.aload_n 0, 1) := by decide +kernel
theorem dX4_takeNewName_21 : decode cX4_takeNewName 21 = .ok (.getfield 9, 3) := by decide +kernel
theorem dX4_takeNewName_24 : decode cX4_takeNewName 24 = .ok (.getfield 107, 3) := by decide +kernel
theorem dX4_takeNewName_27 : decode cX4_takeNewName 27 = .ok (.invokevirtual 235, 3) := by decide +kernel
theorem dX4_takeNewName_30 : decode cX4_takeNewName 30 = .ok (.iconst (-1), 1) := by decide +kernel
theorem dX4_takeNewName_31 : decode cX4_takeNewName 31 = .ok (.if_icmp .ne 18, 3) := by decide +kernel
theorem dX4_takeNewName_34 : decode cX4_takeNewName 34 = .ok (.aload_n 1, 1) := by decide +kernel
theorem dX4_takeNewName_35 : decode cX4_takeNewName 35 = .ok (.aload_n 0, 1) := by decide +kernel
theorem dX4_takeNewName_36 : decode cX4_takeNewName 36 = .ok (.getfield 9, 3) := by decide +kernel
theorem dX4_takeNewName_39 : decode cX4_takeNewName 39 = .ok (.getfield 107, 3) := by decide +kernel
theorem dX4_takeNewName_42 : decode cX4_takeNewName 42 = .ok (.invokevirtual 239, 3) := by decide +kernel
theorem dX4_takeNewName_45 : decode cX4_takeNewName 45 = .ok (.iconst (-1), 1) := by decide +kernel
theorem dX4_takeNewName_46 : decode cX4_takeNewName 46 = .ok (.if_icmp .eq 12, 3) := by decide +kernel
theorem dX4_takeNewName_49 : decode cX4_takeNewName 49 = .ok (.aload_n 0, 1) := by decide +kernel
theorem dX4_takeNewName_50 : decode cX4_takeNewName 50 = .ok (.getfield 9, 3) := by decide +kernel
theorem dX4_takeNewName_53 : decode cX4_takeNewName 53 = .ok (.iconst 3, 1) := by decide +kernel
theorem dX4_takeNewName_54 : decode cX4_takeNewName 54 = .ok (.invokevirtual 97, 3) := by decide +kernel
theorem dX4_takeNewName_57 : decode cX4_takeNewName 57 = .ok (.ireturn, 1) := by decide +kernel
theorem dX4_takeNewName_58 : decode cX4_takeNewName 58 = .ok (.aload_n 0, 1) := by decide +kernel
theorem dX4_takeNewName_59 : decode cX4_takeNewName 59 = .ok (.getfield 9, 3) := by decide +kernel
theorem dX4_takeNewName_62 : decode cX4_takeNewName 62 = .ok (.invokevirtual 104, 3) := by decide +kernel
theorem dX4_takeNewName_65 : decode cX4_takeNewName 65 = .ok (.iconst 1, 1) := by decide +kernel
theorem dX4_takeNewName_66 : decode cX4_takeNewName 66 = .ok (.ireturn, 1) := by decide +kernel
theorem dX4_wareHere_0 : decode cX4_wareHere 0 = .ok (.aload_n 0, 1) := by decide +kernel
theorem dX4_wareHere_1 : decode cX4_wareHere 1 = .ok (.getfield 9, 3) := by decide +kernel
theorem dX4_wareHere_4 : decode cX4_wareHere 4 = .ok (.invokevirtual 232, 3) := by decide +kernel
theorem dX4_wareHere_7 : decode cX4_wareHere 7 = .ok (.ifCond .eq 17, 3) := by decide +kernel
theorem dX4_wareHere_10 : decode cX4_wareHere 10 = .ok (.aload_n 1, 1) := by decide +kernel
theorem dX4_wareHere_11 : decode cX4_wareHere 11 = .ok (.aload_n 0, 1) := by decide +kernel
theorem dX4_wareHere_12 : decode cX4_wareHere 12 = .ok (.getfield 9, 3) := by decide +kernel
theorem dX4_wareHere_15 : decode cX4_wareHere 15 = .ok (.getfield 107, 3) := by decide +kernel
theorem dX4_wareHere_18 : decode cX4_wareHere 18 = .ok (.invokevirtual 235, 3) := by decide +kernel
theorem dX4_wareHere_21 : decode cX4_wareHere 21 = .ok (.goto 4, 3) := by decide +kernel
theorem dX4_wareHere_24 : decode cX4_wareHere 24 = .ok (.iconst (-1), 1) := by decide +kernel
theorem dX4_wareHere_25 : decode cX4_wareHere 25 = .ok (.ireturn, 1) := by decide +kernel
theorem dX4_partyHere_0 : decode cX4_partyHere 0 = .ok (.aload_n 0, 1) := by decide +kernel
theorem dX4_partyHere_1 : decode cX4_partyHere 1 = .ok (.getfield 9, 3) := by decide +kernel
theorem dX4_partyHere_4 : decode cX4_partyHere 4 = .ok (.invokevirtual 232, 3) := by decide +kernel
theorem dX4_partyHere_7 : decode cX4_partyHere 7 = .ok (.ifCond .eq 17, 3) := by decide +kernel
theorem dX4_partyHere_10 : decode cX4_partyHere 10 = .ok (.aload_n 1, 1) := by decide +kernel
theorem dX4_partyHere_11 : decode cX4_partyHere 11 = .ok (.aload_n 0, 1) := by decide +kernel
theorem dX4_partyHere_12 : decode cX4_partyHere 12 = .ok (.getfield 9, 3) := by decide +kernel
theorem dX4_partyHere_15 : decode cX4_partyHere 15 = .ok (.getfield 107, 3) := by decide +kernel
theorem dX4_partyHere_18 : decode cX4_partyHere 18 = .ok (.invokevirtual 239, 3) := by decide +kernel
theorem dX4_partyHere_21 : decode cX4_partyHere 21 = .ok (.goto 4, 3) := by decide +kernel
theorem dX4_partyHere_24 : decode cX4_partyHere 24 = .ok (.iconst (-1), 1) := by decide +kernel
theorem dX4_partyHere_25 : decode cX4_partyHere 25 = .ok (.ireturn, 1) := by decide +kernel
theorem dX4_takeNamed_0 : decode cX4_takeNamed 0 = .ok (.aload_n 0, 1) := by decide +kernel
theorem dX4_takeNamed_1 : decode cX4_takeNamed 1 = .ok (.getfield 9, 3) := by decide +kernel
theorem dX4_takeNamed_4 : decode cX4_takeNamed 4 = .ok (.invokevirtual 232, 3) := by decide +kernel
theorem dX4_takeNamed_7 : decode cX4_takeNamed 7 = .ok (.ifCond .ne 14, 3) := by decide +kernel
theorem dX4_takeNamed_10 : decode cX4_takeNamed 10 = .ok (.aload_n 0, 1) := by decide +kernel
theorem dX4_takeNamed_11 : decode cX4_takeNamed 11 = .ok (.getfield 9, 3) := by decide +kernel
theorem dX4_takeNamed_14 : decode cX4_takeNamed 14 = .ok (.iconst 1, 1) := by decide +kernel
theorem dX4_takeNamed_15 : decode cX4_takeNamed 15 = .ok (.invokevirtual 97, 3) := by decide +kernel
theorem dX4_takeNamed_18 : decode cX4_takeNamed 18 = .ok (.pop, 1) := by decide +kernel
theorem dX4_takeNamed_19 : decode cX4_takeNamed 19 = .ok (.iconst (-1), 1) := by decide +kernel
theorem dX4_takeNamed_20 : decode cX4_takeNamed 20 = .ok (.ireturn, 1) := by decide +kernel
theorem dX4_takeNamed_21 : decode cX4_takeNamed 21 = .ok (.iload_n 1, 1) := by decide +kernel
theorem dX4_takeNamed_22 : decode cX4_takeNamed 22 = .ok (.iconst (-1), 1) := by decide +kernel
theorem dX4_takeNamed_23 : decode cX4_takeNamed 23 = .ok (.if_icmp .ne 14, 3) := by decide +kernel
theorem dX4_takeNamed_26 : decode cX4_takeNamed 26 = .ok (.aload_n 0, 1) := by decide +kernel
theorem dX4_takeNamed_27 : decode cX4_takeNamed 27 = .ok (.getfield 9, 3) := by decide +kernel
theorem dX4_takeNamed_30 : decode cX4_takeNamed 30 = .ok (.iconst 2, 1) := by decide +kernel
theorem dX4_takeNamed_31 : decode cX4_takeNamed 31 = .ok (.invokevirtual 97, 3) := by decide +kernel
theorem dX4_takeNamed_34 : decode cX4_takeNamed 34 = .ok (.pop, 1) := by decide +kernel
theorem dX4_takeNamed_35 : decode cX4_takeNamed 35 = .ok (.iconst (-1), 1) := by decide +kernel
theorem dX4_takeNamed_36 : decode cX4_takeNamed 36 = .ok (.ireturn, 1) := by decide +kernel
theorem dX4_takeNamed_37 : decode cX4_takeNamed 37 = .ok (.iload_n 1, 1) := by decide +kernel
theorem dX4_takeNamed_38 : decode cX4_takeNamed 38 = .ok (.iload_n 2, 1) := by decide +kernel
theorem dX4_takeNamed_39 : decode cX4_takeNamed 39 = .ok (.if_icmp .ne 14, 3) := by decide +kernel
theorem dX4_takeNamed_42 : decode cX4_takeNamed 42 = .ok (.aload_n 0, 1) := by decide +kernel
theorem dX4_takeNamed_43 : decode cX4_takeNamed 43 = .ok (.getfield 9, 3) := by decide +kernel
theorem dX4_takeNamed_46 : decode cX4_takeNamed 46 = .ok (.iconst 3, 1) := by decide +kernel
theorem dX4_takeNamed_47 : decode cX4_takeNamed 47 = .ok (.invokevirtual 97, 3) := by decide +kernel
theorem dX4_takeNamed_50 : decode cX4_takeNamed 50 = .ok (.pop, 1) := by decide +kernel
theorem dX4_takeNamed_51 : decode cX4_takeNamed 51 = .ok (.iconst (-1), 1) := by decide +kernel
theorem dX4_takeNamed_52 : decode cX4_takeNamed 52 = .ok (.ireturn, 1) := by decide +kernel
theorem dX4_takeNamed_53 : decode cX4_takeNamed 53 = .ok (.aload_n 0, 1) := by decide +kernel
theorem dX4_takeNamed_54 : decode cX4_takeNamed 54 = .ok (.getfield 9, 3) := by decide +kernel
theorem dX4_takeNamed_57 : decode cX4_takeNamed 57 = .ok (.invokevirtual 104, 3) := by decide +kernel
theorem dX4_takeNamed_60 : decode cX4_takeNamed 60 = .ok (.iload_n 1, 1) := by decide +kernel
theorem dX4_takeNamed_61 : decode cX4_takeNamed 61 = .ok (.ireturn, 1) := by decide +kernel
theorem dX5_init_0 : decode cX5_init 0 = .ok (.aload_n 0, 1) := by decide +kernel
theorem dX5_init_1 : decode cX5_init 1 = .ok (.invokespecial 3, 3) := by decide +kernel
theorem dX5_init_4 : decode cX5_init 4 = .ok (.aload_n 0, 1) := by decide +kernel
theorem dX5_init_5 : decode cX5_init 5 = .ok (.bipush 6, 2) := by decide +kernel
theorem dX5_init_7 : decode cX5_init 7 = .ok (.newarray .long, 2) := by decide +kernel
theorem dX5_init_9 : decode cX5_init 9 = .ok (.putfield 9, 3) := by decide +kernel
theorem dX5_init_12 : decode cX5_init 12 = .ok (.aload_n 0, 1) := by decide +kernel
theorem dX5_init_13 : decode cX5_init 13 = .ok (.bipush 6, 2) := by decide +kernel
theorem dX5_init_15 : decode cX5_init 15 = .ok (.newarray .int, 2) := by decide +kernel
theorem dX5_init_17 : decode cX5_init 17 = .ok (.putfield 15, 3) := by decide +kernel
theorem dX5_init_20 : decode cX5_init 20 = .ok (.aload_n 0, 1) := by decide +kernel
theorem dX5_init_21 : decode cX5_init 21 = .ok (.bipush 6, 2) := by decide +kernel
theorem dX5_init_23 : decode cX5_init 23 = .ok (.newarray .int, 2) := by decide +kernel
theorem dX5_init_25 : decode cX5_init 25 = .ok (.putfield 19, 3) := by decide +kernel
theorem dX5_init_28 : decode cX5_init 28 = .ok (.aload_n 0, 1) := by decide +kernel
theorem dX5_init_29 : decode cX5_init 29 = .ok (.bipush 6, 2) := by decide +kernel
theorem dX5_init_31 : decode cX5_init 31 = .ok (.newarray .int, 2) := by decide +kernel
theorem dX5_init_33 : decode cX5_init 33 = .ok (.putfield 22, 3) := by decide +kernel
theorem dX5_init_36 : decode cX5_init 36 = .ok (.aload_n 0, 1) := by decide +kernel
theorem dX5_init_37 : decode cX5_init 37 = .ok (.iconst 5, 1) := by decide +kernel
theorem dX5_init_38 : decode cX5_init 38 = .ok (.newarray .long, 2) := by decide +kernel
theorem dX5_init_40 : decode cX5_init 40 = .ok (.putfield 25, 3) := by decide +kernel
theorem dX5_init_43 : decode cX5_init 43 = .ok (.aload_n 0, 1) := by decide +kernel
theorem dX5_init_44 : decode cX5_init 44 = .ok (.iconst 5, 1) := by decide +kernel
theorem dX5_init_45 : decode cX5_init 45 = .ok (.newarray .int, 2) := by decide +kernel
theorem dX5_init_47 : decode cX5_init 47 = .ok (.putfield 28, 3) := by decide +kernel
theorem dX5_init_50 : decode cX5_init 50 = .ok (.aload_n 0, 1) := by decide +kernel
theorem dX5_init_51 : decode cX5_init 51 = .ok (.iconst 5, 1) := by decide +kernel
theorem dX5_init_52 : decode cX5_init 52 = .ok (.newarray .int, 2) := by decide +kernel
theorem dX5_init_54 : decode cX5_init 54 = .ok (.putfield 31, 3) := by decide +kernel
theorem dX5_init_57 : decode cX5_init 57 = .ok (.aload_n 0, 1) := by decide +kernel
theorem dX5_init_58 : decode cX5_init 58 = .ok (.iconst 2, 1) := by decide +kernel
theorem dX5_init_59 : decode cX5_init 59 = .ok (.putfield 34, 3) := by decide +kernel
theorem dX5_init_62 : decode cX5_init 62 = .ok (.aload_n 0, 1) := by decide +kernel
theorem dX5_init_63 : decode cX5_init 63 = .ok (.new 38, 3) := by decide +kernel
theorem dX5_init_66 : decode cX5_init 66 = .ok (.dup, 1) := by decide +kernel
theorem dX5_init_67 : decode cX5_init 67 = .ok (.invokespecial 40, 3) := by decide +kernel
theorem dX5_init_70 : decode cX5_init 70 = .ok (.putfield 41, 3) := by decide +kernel
theorem dX5_init_73 : decode cX5_init 73 = .ok (.return_, 1) := by decide +kernel
theorem dX5_clear_0 : decode cX5_clear 0 = .ok (.aload_n 0, 1) := by decide +kernel
theorem dX5_clear_1 : decode cX5_clear 1 = .ok (.iconst 0, 1) := by decide +kernel
theorem dX5_clear_2 : decode cX5_clear 2 = .ok (.putfield 45, 3) := by decide +kernel
theorem dX5_clear_5 : decode cX5_clear 5 = .ok (.aload_n 0, 1) := by decide +kernel
theorem dX5_clear_6 : decode cX5_clear 6 = .ok (.iconst 0, 1) := by decide +kernel
theorem dX5_clear_7 : decode cX5_clear 7 = .ok (.putfield 48, 3) := by decide +kernel
theorem dX5_clear_10 : decode cX5_clear 10 = .ok (.aload_n 0, 1) := by decide +kernel
theorem dX5_clear_11 : decode cX5_clear 11 = .ok (.iconst 2, 1) := by decide +kernel
theorem dX5_clear_12 : decode cX5_clear 12 = .ok (.putfield 34, 3) := by decide +kernel
theorem dX5_clear_15 : decode cX5_clear 15 = .ok (.aload_n 0, 1) := by decide +kernel
theorem dX5_clear_16 : decode cX5_clear 16 = .ok (.iconst 0, 1) := by decide +kernel
theorem dX5_clear_17 : decode cX5_clear 17 = .ok (.putfield 51, 3) := by decide +kernel
theorem dX5_clear_20 : decode cX5_clear 20 = .ok (.aload_n 0, 1) := by decide +kernel
theorem dX5_clear_21 : decode cX5_clear 21 = .ok (.iconst 0, 1) := by decide +kernel
theorem dX5_clear_22 : decode cX5_clear 22 = .ok (.putfield 55, 3) := by decide +kernel
theorem dX5_clear_25 : decode cX5_clear 25 = .ok (.aload_n 0, 1) := by decide +kernel
theorem dX5_clear_26 : decode cX5_clear 26 = .ok (.getfield 41, 3) := by decide +kernel
theorem dX5_clear_29 : decode cX5_clear 29 = .ok (.iconst 0, 1) := by decide +kernel
theorem dX5_clear_30 : decode cX5_clear 30 = .ok (.putfield 58, 3) := by decide +kernel
theorem dX5_clear_33 : decode cX5_clear 33 = .ok (.return_, 1) := by decide +kernel
theorem dX5_hasWare_0 : decode cX5_hasWare 0 = .ok (.iload_n 1, 1) := by decide +kernel
theorem dX5_hasWare_1 : decode cX5_hasWare 1 = .ok (.ifCond .lt 15, 3) := by decide +kernel
theorem dX5_hasWare_4 : decode cX5_hasWare 4 = .ok (.iload_n 1, 1) := by decide +kernel
theorem dX5_hasWare_5 : decode cX5_hasWare 5 = .ok (.aload_n 0, 1) := by decide +kernel
theorem dX5_hasWare_6 : decode cX5_hasWare 6 = .ok (.getfield 45, 3) := by decide +kernel
theorem dX5_hasWare_9 : decode cX5_hasWare 9 = .ok (.if_icmp .ge 7, 3) := by decide +kernel
theorem dX5_hasWare_12 : decode cX5_hasWare 12 = .ok (.iconst 1, 1) := by decide +kernel
theorem dX5_hasWare_13 : decode cX5_hasWare 13 = .ok (.goto 4, 3) := by decide +kernel
theorem dX5_hasWare_16 : decode cX5_hasWare 16 = .ok (.iconst 0, 1) := by decide +kernel
theorem dX5_hasWare_17 : decode cX5_hasWare 17 = .ok (.ireturn, 1) := by decide +kernel
theorem dX5_hasParty_0 : decode cX5_hasParty 0 = .ok (.iload_n 1, 1) := by decide +kernel
theorem dX5_hasParty_1 : decode cX5_hasParty 1 = .ok (.ifCond .lt 15, 3) := by decide +kernel
theorem dX5_hasParty_4 : decode cX5_hasParty 4 = .ok (.iload_n 1, 1) := by decide +kernel
theorem dX5_hasParty_5 : decode cX5_hasParty 5 = .ok (.aload_n 0, 1) := by decide +kernel
theorem dX5_hasParty_6 : decode cX5_hasParty 6 = .ok (.getfield 48, 3) := by decide +kernel
theorem dX5_hasParty_9 : decode cX5_hasParty 9 = .ok (.if_icmp .ge 7, 3) := by decide +kernel
theorem dX5_hasParty_12 : decode cX5_hasParty 12 = .ok (.iconst 1, 1) := by decide +kernel
theorem dX5_hasParty_13 : decode cX5_hasParty 13 = .ok (.goto 4, 3) := by decide +kernel
theorem dX5_hasParty_16 : decode cX5_hasParty 16 = .ok (.iconst 0, 1) := by decide +kernel
theorem dX5_hasParty_17 : decode cX5_hasParty 17 = .ok (.ireturn, 1) := by decide +kernel
theorem dX5_wareNamed_0 : decode cX5_wareNamed 0 = .ok (.iconst 0, 1) := by decide +kernel
theorem dX5_wareNamed_1 : decode cX5_wareNamed 1 = .ok (.istore_n 3, 1) := by decide +kernel
theorem dX5_wareNamed_2 : decode cX5_wareNamed 2 = .ok (.iload_n 3, 1) := by decide +kernel
theorem dX5_wareNamed_3 : decode cX5_wareNamed 3 = .ok (.aload_n 0, 1) := by decide +kernel
theorem dX5_wareNamed_4 : decode cX5_wareNamed 4 = .ok (.getfield 45, 3) := by decide +kernel
theorem dX5_wareNamed_7 : decode cX5_wareNamed 7 = .ok (.if_icmp .ge 22, 3) := by decide +kernel
theorem dX5_wareNamed_10 : decode cX5_wareNamed 10 = .ok (.aload_n 0, 1) := by decide +kernel
theorem dX5_wareNamed_11 : decode cX5_wareNamed 11 = .ok (.getfield 9, 3) := by decide +kernel
theorem dX5_wareNamed_14 : decode cX5_wareNamed 14 = .ok (.iload_n 3, 1) := by decide +kernel
theorem dX5_wareNamed_15 : decode cX5_wareNamed 15 = .ok (.laload, 1) := by decide +kernel
theorem dX5_wareNamed_16 : decode cX5_wareNamed 16 = .ok (.lload_n 1, 1) := by decide +kernel
theorem dX5_wareNamed_17 : decode cX5_wareNamed 17 = .ok (.lcmp, 1) := by decide +kernel
theorem dX5_wareNamed_18 : decode cX5_wareNamed 18 = .ok (.ifCond .ne 5, 3) := by decide +kernel
theorem dX5_wareNamed_21 : decode cX5_wareNamed 21 = .ok (.iload_n 3, 1) := by decide +kernel
theorem dX5_wareNamed_22 : decode cX5_wareNamed 22 = .ok (.ireturn, 1) := by decide +kernel
theorem dX5_wareNamed_23 : decode cX5_wareNamed 23 = .ok (.iinc 3 1, 3) := by decide +kernel
theorem dX5_wareNamed_26 : decode cX5_wareNamed 26 = .ok (.goto (-24), 3) := by decide +kernel
theorem dX5_wareNamed_29 : decode cX5_wareNamed 29 = .ok (.iconst (-1), 1) := by decide +kernel
theorem dX5_wareNamed_30 : decode cX5_wareNamed 30 = .ok (.ireturn, 1) := by decide +kernel
theorem dX5_partyNamed_0 : decode cX5_partyNamed 0 = .ok (.iconst 0, 1) := by decide +kernel
theorem dX5_partyNamed_1 : decode cX5_partyNamed 1 = .ok (.istore_n 3, 1) := by decide +kernel
theorem dX5_partyNamed_2 : decode cX5_partyNamed 2 = .ok (.iload_n 3, 1) := by decide +kernel
theorem dX5_partyNamed_3 : decode cX5_partyNamed 3 = .ok (.aload_n 0, 1) := by decide +kernel
theorem dX5_partyNamed_4 : decode cX5_partyNamed 4 = .ok (.getfield 48, 3) := by decide +kernel
theorem dX5_partyNamed_7 : decode cX5_partyNamed 7 = .ok (.if_icmp .ge 22, 3) := by decide +kernel
theorem dX5_partyNamed_10 : decode cX5_partyNamed 10 = .ok (.aload_n 0, 1) := by decide +kernel
theorem dX5_partyNamed_11 : decode cX5_partyNamed 11 = .ok (.getfield 25, 3) := by decide +kernel
theorem dX5_partyNamed_14 : decode cX5_partyNamed 14 = .ok (.iload_n 3, 1) := by decide +kernel
theorem dX5_partyNamed_15 : decode cX5_partyNamed 15 = .ok (.laload, 1) := by decide +kernel
theorem dX5_partyNamed_16 : decode cX5_partyNamed 16 = .ok (.lload_n 1, 1) := by decide +kernel
theorem dX5_partyNamed_17 : decode cX5_partyNamed 17 = .ok (.lcmp, 1) := by decide +kernel
theorem dX5_partyNamed_18 : decode cX5_partyNamed 18 = .ok (.ifCond .ne 5, 3) := by decide +kernel
theorem dX5_partyNamed_21 : decode cX5_partyNamed 21 = .ok (.iload_n 3, 1) := by decide +kernel
theorem dX5_partyNamed_22 : decode cX5_partyNamed 22 = .ok (.ireturn, 1) := by decide +kernel
theorem dX5_partyNamed_23 : decode cX5_partyNamed 23 = .ok (.iinc 3 1, 3) := by decide +kernel
theorem dX5_partyNamed_26 : decode cX5_partyNamed 26 = .ok (.goto (-24), 3) := by decide +kernel
theorem dX5_partyNamed_29 : decode cX5_partyNamed 29 = .ok (.iconst (-1), 1) := by decide +kernel
theorem dX5_partyNamed_30 : decode cX5_partyNamed 30 = .ok (.ireturn, 1) := by decide +kernel
theorem dX5_halfOf_0 : decode cX5_halfOf 0 = .ok (.aload_n 0, 1) := by decide +kernel
theorem dX5_halfOf_1 : decode cX5_halfOf 1 = .ok (.getfield 19, 3) := by decide +kernel
theorem dX5_halfOf_4 : decode cX5_halfOf 4 = .ok (.iload_n 1, 1) := by decide +kernel
theorem dX5_halfOf_5 : decode cX5_halfOf 5 = .ok (.iaload, 1) := by decide +kernel
theorem dX5_halfOf_6 : decode cX5_halfOf 6 = .ok (.iconst 2, 1) := by decide +kernel
theorem dX5_halfOf_7 : decode cX5_halfOf 7 = .ok (.idiv, 1) := by decide +kernel
theorem dX5_halfOf_8 : decode cX5_halfOf 8 = .ok (.ireturn, 1) := by decide +kernel
theorem dX5_isFor_0 : decode cX5_isFor 0 = .ok (.aload_n 0, 1) := by decide +kernel
theorem dX5_isFor_1 : decode cX5_isFor 1 = .ok (.getfield 31, 3) := by decide +kernel
theorem dX5_isFor_4 : decode cX5_isFor 4 = .ok (.iload_n 1, 1) := by decide +kernel
theorem dX5_isFor_5 : decode cX5_isFor 5 = .ok (.iaload, 1) := by decide +kernel
theorem dX5_isFor_6 : decode cX5_isFor 6 = .ok (.iload_n 2, 1) := by decide +kernel
theorem dX5_isFor_7 : decode cX5_isFor 7 = .ok (.ishr, 1) := by decide +kernel
theorem dX5_isFor_8 : decode cX5_isFor 8 = .ok (.iconst 1, 1) := by decide +kernel
theorem dX5_isFor_9 : decode cX5_isFor 9 = .ok (.iand, 1) := by decide +kernel
theorem dX5_isFor_10 : decode cX5_isFor 10 = .ok (.iconst 1, 1) := by decide +kernel
theorem dX5_isFor_11 : decode cX5_isFor 11 = .ok (.if_icmp .ne 7, 3) := by decide +kernel
theorem dX5_isFor_14 : decode cX5_isFor 14 = .ok (.iconst 1, 1) := by decide +kernel
theorem dX5_isFor_15 : decode cX5_isFor 15 = .ok (.goto 4, 3) := by decide +kernel
theorem dX5_isFor_18 : decode cX5_isFor 18 = .ok (.iconst 0, 1) := by decide +kernel
theorem dX5_isFor_19 : decode cX5_isFor 19 = .ok (.ireturn, 1) := by decide +kernel
theorem dX5_couldPair_0 : decode cX5_couldPair 0 = .ok (.aload_n 0, 1) := by decide +kernel
theorem dX5_couldPair_1 : decode cX5_couldPair 1 = .ok (.iload_n 1, 1) := by decide +kernel
theorem dX5_couldPair_2 : decode cX5_couldPair 2 = .ok (.invokevirtual 61, 3) := by decide +kernel
theorem dX5_couldPair_5 : decode cX5_couldPair 5 = .ok (.ifCond .eq 35, 3) := by decide +kernel
theorem dX5_couldPair_8 : decode cX5_couldPair 8 = .ok (.aload_n 0, 1) := by decide +kernel
theorem dX5_couldPair_9 : decode cX5_couldPair 9 = .ok (.iload_n 2, 1) := by decide +kernel
theorem dX5_couldPair_10 : decode cX5_couldPair 10 = .ok (.invokevirtual 61, 3) := by decide +kernel
theorem dX5_couldPair_13 : decode cX5_couldPair 13 = .ok (.ifCond .eq 27, 3) := by decide +kernel
theorem dX5_couldPair_16 : decode cX5_couldPair 16 = .ok (.iload_n 1, 1) := by decide +kernel
theorem dX5_couldPair_17 : decode cX5_couldPair 17 = .ok (.iload_n 2, 1) := by decide +kernel
theorem dX5_couldPair_18 : decode cX5_couldPair 18 = .ok (.if_icmp .eq 22, 3) := by decide +kernel
theorem dX5_couldPair_21 : decode cX5_couldPair 21 = .ok (.aload_n 0, 1) := by decide +kernel
theorem dX5_couldPair_22 : decode cX5_couldPair 22 = .ok (.getfield 19, 3) := by decide +kernel
theorem dX5_couldPair_25 : decode cX5_couldPair 25 = .ok (.iload_n 1, 1) := by decide +kernel
theorem dX5_couldPair_26 : decode cX5_couldPair 26 = .ok (.iaload, 1) := by decide +kernel
theorem dX5_couldPair_27 : decode cX5_couldPair 27 = .ok (.aload_n 0, 1) := by decide +kernel
theorem dX5_couldPair_28 : decode cX5_couldPair 28 = .ok (.getfield 19, 3) := by decide +kernel
theorem dX5_couldPair_31 : decode cX5_couldPair 31 = .ok (.iload_n 2, 1) := by decide +kernel
theorem dX5_couldPair_32 : decode cX5_couldPair 32 = .ok (.iaload, 1) := by decide +kernel
theorem dX5_couldPair_33 : decode cX5_couldPair 33 = .ok (.if_icmp .ne 7, 3) := by decide +kernel
theorem dX5_couldPair_36 : decode cX5_couldPair 36 = .ok (.iconst 1, 1) := by decide +kernel
theorem dX5_couldPair_37 : decode cX5_couldPair 37 = .ok (.goto 4, 3) := by decide +kernel
theorem dX5_couldPair_40 : decode cX5_couldPair 40 = .ok (.iconst 0, 1) := by decide +kernel
theorem dX5_couldPair_41 : decode cX5_couldPair 41 = .ok (.ireturn, 1) := by decide +kernel
theorem dX5_agreement_0 : decode cX5_agreement 0 = .ok (.aload_n 0, 1) := by decide +kernel
theorem dX5_agreement_1 : decode cX5_agreement 1 = .ok (.getfield 45, 3) := by decide +kernel
theorem dX5_agreement_4 : decode cX5_agreement 4 = .ok (.aload_n 0, 1) := by decide +kernel
theorem dX5_agreement_5 : decode cX5_agreement 5 = .ok (.getfield 31, 3) := by decide +kernel
theorem dX5_agreement_8 : decode cX5_agreement 8 = .ok (.iload_n 1, 1) := by decide +kernel
theorem dX5_agreement_9 : decode cX5_agreement 9 = .ok (.iaload, 1) := by decide +kernel
theorem dX5_agreement_10 : decode cX5_agreement 10 = .ok (.aload_n 0, 1) := by decide +kernel
theorem dX5_agreement_11 : decode cX5_agreement 11 = .ok (.getfield 31, 3) := by decide +kernel
theorem dX5_agreement_14 : decode cX5_agreement 14 = .ok (.iload_n 2, 1) := by decide +kernel
theorem dX5_agreement_15 : decode cX5_agreement 15 = .ok (.iaload, 1) := by decide +kernel
theorem dX5_agreement_16 : decode cX5_agreement 16 = .ok (.ixor, 1) := by decide +kernel
theorem dX5_agreement_17 : decode cX5_agreement 17 = .ok (.invokestatic 65, 3) := by decide +kernel
theorem dX5_agreement_20 : decode cX5_agreement 20 = .ok (.isub, 1) := by decide +kernel
theorem dX5_agreement_21 : decode cX5_agreement 21 = .ok (.ireturn, 1) := by decide +kernel
theorem dX5_weekWork_0 : decode cX5_weekWork 0 = .ok (.iload_n 1, 1) := by decide +kernel
theorem dX5_weekWork_1 : decode cX5_weekWork 1 = .ok (.iconst 3, 1) := by decide +kernel
theorem dX5_weekWork_2 : decode cX5_weekWork 2 = .ok (.if_icmp .ne 12, 3) := by decide +kernel
theorem dX5_weekWork_5 : decode cX5_weekWork 5 = .ok (.iload 5, 2) := by decide +kernel
theorem dX5_weekWork_7 : decode cX5_weekWork 7 = .ok (.iconst 2, 1) := by decide +kernel
theorem dX5_weekWork_8 : decode cX5_weekWork 8 = .ok (.irem, 1) := by decide +kernel
theorem dX5_weekWork_9 : decode cX5_weekWork 9 = .ok (.ifCond .eq 5, 3) := by decide +kernel
theorem dX5_weekWork_12 : decode cX5_weekWork 12 = .ok (.iconst 0, 1) := by decide +kernel
theorem dX5_weekWork_13 : decode cX5_weekWork 13 = .ok (.ireturn, 1) := by decide +kernel
theorem dX5_weekWork_14 : decode cX5_weekWork 14 = .ok (.iconst 0, 1) := by decide +kernel
theorem dX5_weekWork_15 : decode cX5_weekWork 15 = .ok (.bipush 9, 2) := by decide +kernel
theorem dX5_weekWork_17 : decode cX5_weekWork 17 = .ok (.aload_n 0, 1) := by decide +kernel
theorem dX5_weekWork_18 : decode cX5_weekWork 18 = .ok (.getfield 41, 3) := by decide +kernel
theorem dX5_weekWork_21 : decode cX5_weekWork 21 = .ok (.iload_n 2, 1) := by decide +kernel
theorem dX5_weekWork_22 : decode cX5_weekWork 22 = .ok (.iload_n 3, 1) := by decide +kernel
theorem dX5_weekWork_23 : decode cX5_weekWork 23 = .ok (.iload 4, 2) := by decide +kernel
theorem dX5_weekWork_25 : decode cX5_weekWork 25 = .ok (.iload 5, 2) := by decide +kernel
theorem dX5_weekWork_27 : decode cX5_weekWork 27 = .ok (.invokevirtual 71, 3) := by decide +kernel
theorem dX5_weekWork_30 : decode cX5_weekWork 30 = .ok (.invokestatic 75, 3) := by decide +kernel
theorem dX5_weekWork_33 : decode cX5_weekWork 33 = .ok (.invokestatic 81, 3) := by decide +kernel
theorem dX5_weekWork_36 : decode cX5_weekWork 36 = .ok (.istore 6, 2) := by decide +kernel
theorem dX5_weekWork_38 : decode cX5_weekWork 38 = .ok (.iload_n 1, 1) := by decide +kernel
theorem dX5_weekWork_39 : decode cX5_weekWork 39 = .ok (.iconst 1, 1) := by decide +kernel
theorem dX5_weekWork_40 : decode cX5_weekWork 40 = .ok (.if_icmp .ne 8, 3) := by decide +kernel
theorem dX5_weekWork_43 : decode cX5_weekWork 43 = .ok (.iconst 2, 1) := by decide +kernel
theorem dX5_weekWork_44 : decode cX5_weekWork 44 = .ok (.iload 6, 2) := by decide +kernel
theorem dX5_weekWork_46 : decode cX5_weekWork 46 = .ok (.imul, 1) := by decide +kernel
theorem dX5_weekWork_47 : decode cX5_weekWork 47 = .ok (.ireturn, 1) := by decide +kernel
theorem dX5_weekWork_48 : decode cX5_weekWork 48 = .ok (.iload_n 1, 1) := by decide +kernel
theorem dX5_weekWork_49 : decode cX5_weekWork 49 = .ok (.iconst 2, 1) := by decide +kernel
theorem dX5_weekWork_50 : decode cX5_weekWork 50 = .ok (.if_icmp .ne 18, 3) := by decide +kernel
theorem dX5_weekWork_53 : decode cX5_weekWork 53 = .ok (.iload 6, 2) := by decide +kernel
theorem dX5_weekWork_55 : decode cX5_weekWork 55 = .ok (.iload_n 3, 1) := by decide +kernel
theorem dX5_weekWork_56 : decode cX5_weekWork 56 = .ok (.iload_n 2, 1) := by decide +kernel
theorem dX5_weekWork_57 : decode cX5_weekWork 57 = .ok (.isub, 1) := by decide +kernel
theorem dX5_weekWork_58 : decode cX5_weekWork 58 = .ok (.iconst 1, 1) := by decide +kernel
theorem dX5_weekWork_59 : decode cX5_weekWork 59 = .ok (.iadd, 1) := by decide +kernel
theorem dX5_weekWork_60 : decode cX5_weekWork 60 = .ok (.iconst 2, 1) := by decide +kernel
theorem dX5_weekWork_61 : decode cX5_weekWork 61 = .ok (.idiv, 1) := by decide +kernel
theorem dX5_weekWork_62 : decode cX5_weekWork 62 = .ok (.invokestatic 75, 3) := by decide +kernel
theorem dX5_weekWork_65 : decode cX5_weekWork 65 = .ok (.goto 5, 3) := by decide +kernel
theorem dX5_weekWork_68 : decode cX5_weekWork 68 = .ok (.iload 6, 2) := by decide +kernel
theorem dX5_weekWork_70 : decode cX5_weekWork 70 = .ok (.ireturn, 1) := by decide +kernel
theorem dX6_init_0 : decode cX6_init 0 = .ok (.aload_n 0, 1) := by decide +kernel
theorem dX6_init_1 : decode cX6_init 1 = .ok (.invokespecial 3, 3) := by decide +kernel
theorem dX6_init_4 : decode cX6_init 4 = .ok (.aload_n 0, 1) := by decide +kernel
theorem dX6_init_5 : decode cX6_init 5 = .ok (.bipush 8, 2) := by decide +kernel
theorem dX6_init_7 : decode cX6_init 7 = .ok (.newarray .int, 2) := by decide +kernel
theorem dX6_init_9 : decode cX6_init 9 = .ok (.putfield 9, 3) := by decide +kernel
theorem dX6_init_12 : decode cX6_init 12 = .ok (.aload_n 0, 1) := by decide +kernel
theorem dX6_init_13 : decode cX6_init 13 = .ok (.bipush 8, 2) := by decide +kernel
theorem dX6_init_15 : decode cX6_init 15 = .ok (.newarray .boolean, 2) := by decide +kernel
theorem dX6_init_17 : decode cX6_init 17 = .ok (.putfield 15, 3) := by decide +kernel
theorem dX6_init_20 : decode cX6_init 20 = .ok (.aload_n 0, 1) := by decide +kernel
theorem dX6_init_21 : decode cX6_init 21 = .ok (.bipush 31, 2) := by decide +kernel
theorem dX6_init_23 : decode cX6_init 23 = .ok (.newarray .int, 2) := by decide +kernel
theorem dX6_init_25 : decode cX6_init 25 = .ok (.putfield 19, 3) := by decide +kernel
theorem dX6_init_28 : decode cX6_init 28 = .ok (.return_, 1) := by decide +kernel
theorem dX6_put_0 : decode cX6_put 0 = .ok (.aload_n 0, 1) := by decide +kernel
theorem dX6_put_1 : decode cX6_put 1 = .ok (.getfield 22, 3) := by decide +kernel
theorem dX6_put_4 : decode cX6_put 4 = .ok (.ifCond .lt 12, 3) := by decide +kernel
theorem dX6_put_7 : decode cX6_put 7 = .ok (.aload_n 0, 1) := by decide +kernel
theorem dX6_put_8 : decode cX6_put 8 = .ok (.getfield 22, 3) := by decide +kernel
theorem dX6_put_11 : decode cX6_put 11 = .ok (.bipush 8, 2) := by decide +kernel
theorem dX6_put_13 : decode cX6_put 13 = .ok (.if_icmp .lt 5, 3) := by decide +kernel
theorem dX6_put_16 : decode cX6_put 16 = .ok (.iconst 0, 1) := by decide +kernel
theorem dX6_put_17 : decode cX6_put 17 = .ok (.ireturn, 1) := by decide +kernel
theorem dX6_put_18 : decode cX6_put 18 = .ok (.aload_n 0, 1) := by decide +kernel
theorem dX6_put_19 : decode cX6_put 19 = .ok (.getfield 9, 3) := by decide +kernel
theorem dX6_put_22 : decode cX6_put 22 = .ok (.aload_n 0, 1) := by decide +kernel
theorem dX6_put_23 : decode cX6_put 23 = .ok (.getfield 22, 3) := by decide +kernel
theorem dX6_put_26 : decode cX6_put 26 = .ok (.iload_n 1, 1) := by decide +kernel
theorem dX6_put_27 : decode cX6_put 27 = .ok (.iastore, 1) := by decide +kernel
theorem dX6_put_28 : decode cX6_put 28 = .ok (.aload_n 0, 1) := by decide +kernel
theorem dX6_put_29 : decode cX6_put 29 = .ok (.getfield 15, 3) := by decide +kernel
theorem dX6_put_32 : decode cX6_put 32 = .ok (.aload_n 0, 1) := by decide +kernel
theorem dX6_put_33 : decode cX6_put 33 = .ok (.getfield 22, 3) := by decide +kernel
theorem dX6_put_36 : decode cX6_put 36 = .ok (.iload_n 2, 1) := by decide +kernel
theorem dX6_put_37 : decode cX6_put 37 = .ok (.bastore, 1) := by decide +kernel
theorem dX6_put_38 : decode cX6_put 38 = .ok (.aload_n 0, 1) := by decide +kernel
theorem dX6_put_39 : decode cX6_put 39 = .ok (.dup, 1) := by decide +kernel
theorem dX6_put_40 : decode cX6_put 40 = .ok (.getfield 22, 3) := by decide +kernel
theorem dX6_put_43 : decode cX6_put 43 = .ok (.iconst 1, 1) := by decide +kernel
theorem dX6_put_44 : decode cX6_put 44 = .ok (.iadd, 1) := by decide +kernel
theorem dX6_put_45 : decode cX6_put 45 = .ok (.putfield 22, 3) := by decide +kernel
theorem dX6_put_48 : decode cX6_put 48 = .ok (.iconst 1, 1) := by decide +kernel
theorem dX6_put_49 : decode cX6_put 49 = .ok (.ireturn, 1) := by decide +kernel
theorem dX6_copyOf_0 : decode cX6_copyOf 0 = .ok (.aload_n 0, 1) := by decide +kernel
theorem dX6_copyOf_1 : decode cX6_copyOf 1 = .ok (.iconst 0, 1) := by decide +kernel
theorem dX6_copyOf_2 : decode cX6_copyOf 2 = .ok (.putfield 22, 3) := by decide +kernel
theorem dX6_copyOf_5 : decode cX6_copyOf 5 = .ok (.iconst 0, 1) := by decide +kernel
theorem dX6_copyOf_6 : decode cX6_copyOf 6 = .ok (.istore_n 2, 1) := by decide +kernel
theorem dX6_copyOf_7 : decode cX6_copyOf 7 = .ok (.iload_n 2, 1) := by decide +kernel
theorem dX6_copyOf_8 : decode cX6_copyOf 8 = .ok (.aload_n 1, 1) := by decide +kernel
theorem dX6_copyOf_9 : decode cX6_copyOf 9 = .ok (.getfield 22, 3) := by decide +kernel
theorem dX6_copyOf_12 : decode cX6_copyOf 12 = .ok (.if_icmp .ge 26, 3) := by decide +kernel
theorem dX6_copyOf_15 : decode cX6_copyOf 15 = .ok (.aload_n 0, 1) := by decide +kernel
theorem dX6_copyOf_16 : decode cX6_copyOf 16 = .ok (.aload_n 1, 1) := by decide +kernel
theorem dX6_copyOf_17 : decode cX6_copyOf 17 = .ok (.getfield 9, 3) := by decide +kernel
theorem dX6_copyOf_20 : decode cX6_copyOf 20 = .ok (.iload_n 2, 1) := by decide +kernel
theorem dX6_copyOf_21 : decode cX6_copyOf 21 = .ok (.iaload, 1) := by decide +kernel
theorem dX6_copyOf_22 : decode cX6_copyOf 22 = .ok (.aload_n 1, 1) := by decide +kernel
theorem dX6_copyOf_23 : decode cX6_copyOf 23 = .ok (.getfield 15, 3) := by decide +kernel
theorem dX6_copyOf_26 : decode cX6_copyOf 26 = .ok (.iload_n 2, 1) := by decide +kernel
theorem dX6_copyOf_27 : decode cX6_copyOf 27 = .ok (.baload, 1) := by decide +kernel
theorem dX6_copyOf_28 : decode cX6_copyOf 28 = .ok (.invokevirtual 26, 3) := by decide +kernel
theorem dX6_copyOf_31 : decode cX6_copyOf 31 = .ok (.pop, 1) := by decide +kernel
theorem dX6_copyOf_32 : decode cX6_copyOf 32 = .ok (.iinc 2 1, 3) := by decide +kernel
theorem dX6_copyOf_35 : decode cX6_copyOf 35 = .ok (.goto (-28), 3) := by decide +kernel
theorem dX6_copyOf_38 : decode cX6_copyOf 38 = .ok (.return_, 1) := by decide +kernel
theorem dX6_lookAhead_0 : decode cX6_lookAhead 0 = .ok (.iconst 1, 1) := by decide +kernel
theorem dX6_lookAhead_1 : decode cX6_lookAhead 1 = .ok (.istore_n 3, 1) := by decide +kernel
theorem dX6_lookAhead_2 : decode cX6_lookAhead 2 = .ok (.iload_n 3, 1) := by decide +kernel
theorem dX6_lookAhead_3 : decode cX6_lookAhead 3 = .ok (.bipush 30, 2) := by decide +kernel
theorem dX6_lookAhead_5 : decode cX6_lookAhead 5 = .ok (.if_icmp .gt 21, 3) := by decide +kernel
theorem dX6_lookAhead_8 : decode cX6_lookAhead 8 = .ok (.aload_n 0, 1) := by decide +kernel
theorem dX6_lookAhead_9 : decode cX6_lookAhead 9 = .ok (.getfield 19, 3) := by decide +kernel
theorem dX6_lookAhead_12 : decode cX6_lookAhead 12 = .ok (.iload_n 3, 1) := by decide +kernel
theorem dX6_lookAhead_13 : decode cX6_lookAhead 13 = .ok (.aload_n 1, 1) := by decide +kernel
theorem dX6_lookAhead_14 : decode cX6_lookAhead 14 = .ok (.iload_n 3, 1) := by decide +kernel
theorem dX6_lookAhead_15 : decode cX6_lookAhead 15 = .ok (.iload_n 2, 1) := by decide +kernel
theorem dX6_lookAhead_16 : decode cX6_lookAhead 16 = .ok (.invokestatic 30, 3) := by decide +kernel
theorem dX6_lookAhead_19 : decode cX6_lookAhead 19 = .ok (.iastore, 1) := by decide +kernel
theorem dX6_lookAhead_20 : decode cX6_lookAhead 20 = .ok (.iinc 3 1, 3) := by decide +kernel
theorem dX6_lookAhead_23 : decode cX6_lookAhead 23 = .ok (.goto (-21), 3) := by decide +kernel
theorem dX6_lookAhead_26 : decode cX6_lookAhead 26 = .ok (.return_, 1) := by decide +kernel
theorem dX6_weeksTo_0 : decode cX6_weeksTo 0 = .ok (.iconst 0, 1) := by decide +kernel
theorem dX6_weeksTo_1 : decode cX6_weeksTo 1 = .ok (.istore_n 3, 1) := by decide +kernel
theorem dX6_weeksTo_2 : decode cX6_weeksTo 2 = .ok (.iconst 0, 1) := by decide +kernel
theorem dX6_weeksTo_3 : decode cX6_weeksTo 3 = .ok (.istore 4, 2) := by decide +kernel
theorem dX6_weeksTo_5 : decode cX6_weeksTo 5 = .ok (.iload 4, 2) := by decide +kernel
theorem dX6_weeksTo_7 : decode cX6_weeksTo 7 = .ok (.bipush 30, 2) := by decide +kernel
theorem dX6_weeksTo_9 : decode cX6_weeksTo 9 = .ok (.if_icmp .gt 32, 3) := by decide +kernel
theorem dX6_weeksTo_12 : decode cX6_weeksTo 12 = .ok (.iload_n 3, 1) := by decide +kernel
theorem dX6_weeksTo_13 : decode cX6_weeksTo 13 = .ok (.iload_n 1, 1) := by decide +kernel
theorem dX6_weeksTo_14 : decode cX6_weeksTo 14 = .ok (.if_icmp .lt 6, 3) := by decide +kernel
theorem dX6_weeksTo_17 : decode cX6_weeksTo 17 = .ok (.iload 4, 2) := by decide +kernel
theorem dX6_weeksTo_19 : decode cX6_weeksTo 19 = .ok (.ireturn, 1) := by decide +kernel
theorem dX6_weeksTo_20 : decode cX6_weeksTo 20 = .ok (.iload_n 3, 1) := by decide +kernel
theorem dX6_weeksTo_21 : decode cX6_weeksTo 21 = .ok (.aload_n 0, 1) := by decide +kernel
theorem dX6_weeksTo_22 : decode cX6_weeksTo 22 = .ok (.iconst 0, 1) := by decide +kernel
theorem dX6_weeksTo_23 : decode cX6_weeksTo 23 = .ok (.iload_n 3, 1) := by decide +kernel
theorem dX6_weeksTo_24 : decode cX6_weeksTo 24 = .ok (.iload_n 1, 1) := by decide +kernel
theorem dX6_weeksTo_25 : decode cX6_weeksTo 25 = .ok (.iconst 0, 1) := by decide +kernel
theorem dX6_weeksTo_26 : decode cX6_weeksTo 26 = .ok (.iload_n 2, 1) := by decide +kernel
theorem dX6_weeksTo_27 : decode cX6_weeksTo 27 = .ok (.iload 4, 2) := by decide +kernel
theorem dX6_weeksTo_29 : decode cX6_weeksTo 29 = .ok (.iadd, 1) := by decide +kernel
theorem dX6_weeksTo_30 : decode cX6_weeksTo 30 = .ok (.invokevirtual 34, 3) := by decide +kernel
theorem dX6_weeksTo_33 : decode cX6_weeksTo 33 = .ok (.iadd, 1) := by decide +kernel
theorem dX6_weeksTo_34 : decode cX6_weeksTo 34 = .ok (.istore_n 3, 1) := by decide +kernel
theorem dX6_weeksTo_35 : decode cX6_weeksTo 35 = .ok (.iinc 4 1, 3) := by decide +kernel
theorem dX6_weeksTo_38 : decode cX6_weeksTo 38 = .ok (.goto (-33), 3) := by decide +kernel
theorem dX6_weeksTo_41 : decode cX6_weeksTo 41 = .ok (.bipush 31, 2) := by decide +kernel
theorem dX6_weeksTo_43 : decode cX6_weeksTo 43 = .ok (.ireturn, 1) := by decide +kernel
theorem dX6_allows_0 : decode cX6_allows 0 = .ok (.iload_n 1, 1) := by decide +kernel
theorem dX6_allows_1 : decode cX6_allows 1 = .ok (.iconst 1, 1) := by decide +kernel
theorem dX6_allows_2 : decode cX6_allows 2 = .ok (.if_icmp .lt 9, 3) := by decide +kernel
theorem dX6_allows_5 : decode cX6_allows 5 = .ok (.iload_n 1, 1) := by decide +kernel
theorem dX6_allows_6 : decode cX6_allows 6 = .ok (.bipush 30, 2) := by decide +kernel
theorem dX6_allows_8 : decode cX6_allows 8 = .ok (.if_icmp .le 5, 3) := by decide +kernel
theorem dX6_allows_11 : decode cX6_allows 11 = .ok (.iconst 0, 1) := by decide +kernel
theorem dX6_allows_12 : decode cX6_allows 12 = .ok (.ireturn, 1) := by decide +kernel
theorem dX6_allows_13 : decode cX6_allows 13 = .ok (.iconst 0, 1) := by decide +kernel
theorem dX6_allows_14 : decode cX6_allows 14 = .ok (.istore_n 2, 1) := by decide +kernel
theorem dX6_allows_15 : decode cX6_allows 15 = .ok (.iload_n 2, 1) := by decide +kernel
theorem dX6_allows_16 : decode cX6_allows 16 = .ok (.aload_n 0, 1) := by decide +kernel
theorem dX6_allows_17 : decode cX6_allows 17 = .ok (.getfield 22, 3) := by decide +kernel
theorem dX6_allows_20 : decode cX6_allows 20 = .ok (.if_icmp .ge 40, 3) := by decide +kernel
theorem dX6_allows_23 : decode cX6_allows 23 = .ok (.aload_n 0, 1) := by decide +kernel
theorem dX6_allows_24 : decode cX6_allows 24 = .ok (.getfield 19, 3) := by decide +kernel
theorem dX6_allows_27 : decode cX6_allows 27 = .ok (.iload_n 1, 1) := by decide +kernel
theorem dX6_allows_28 : decode cX6_allows 28 = .ok (.iaload, 1) := by decide +kernel
theorem dX6_allows_29 : decode cX6_allows 29 = .ok (.aload_n 0, 1) := by decide +kernel
theorem dX6_allows_30 : decode cX6_allows 30 = .ok (.getfield 9, 3) := by decide +kernel
theorem dX6_allows_33 : decode cX6_allows 33 = .ok (.iload_n 2, 1) := by decide +kernel
theorem dX6_allows_34 : decode cX6_allows 34 = .ok (.iaload, 1) := by decide +kernel
theorem dX6_allows_35 : decode cX6_allows 35 = .ok (.if_icmp .gt 7, 3) := by decide +kernel
theorem dX6_allows_38 : decode cX6_allows 38 = .ok (.iconst 1, 1) := by decide +kernel
theorem dX6_allows_39 : decode cX6_allows 39 = .ok (.goto 4, 3) := by decide +kernel
theorem dX6_allows_42 : decode cX6_allows 42 = .ok (.iconst 0, 1) := by decide +kernel
theorem dX6_allows_43 : decode cX6_allows 43 = .ok (.aload_n 0, 1) := by decide +kernel
theorem dX6_allows_44 : decode cX6_allows 44 = .ok (.getfield 15, 3) := by decide +kernel
theorem dX6_allows_47 : decode cX6_allows 47 = .ok (.iload_n 2, 1) := by decide +kernel
theorem dX6_allows_48 : decode cX6_allows 48 = .ok (.baload, 1) := by decide +kernel
theorem dX6_allows_49 : decode cX6_allows 49 = .ok (.if_icmp .eq 5, 3) := by decide +kernel
theorem dX6_allows_52 : decode cX6_allows 52 = .ok (.iconst 0, 1) := by decide +kernel
theorem dX6_allows_53 : decode cX6_allows 53 = .ok (.ireturn, 1) := by decide +kernel
theorem dX6_allows_54 : decode cX6_allows 54 = .ok (.iinc 2 1, 3) := by decide +kernel
theorem dX6_allows_57 : decode cX6_allows 57 = .ok (.goto (-42), 3) := by decide +kernel
theorem dX6_allows_60 : decode cX6_allows 60 = .ok (.iconst 1, 1) := by decide +kernel
theorem dX6_allows_61 : decode cX6_allows 61 = .ok (.ireturn, 1) := by decide +kernel
theorem dX6_bestQuestion_0 : decode cX6_bestQuestion 0 = .ok (.aload_n 0, 1) := by decide +kernel
theorem dX6_bestQuestion_1 : decode cX6_bestQuestion 1 = .ok (.bipush 31, 2) := by decide +kernel
theorem dX6_bestQuestion_3 : decode cX6_bestQuestion 3 = .ok (.invokevirtual 40, 3) := by decide +kernel
theorem dX6_bestQuestion_6 : decode cX6_bestQuestion 6 = .ok (.istore_n 1, 1) := by decide +kernel
theorem dX6_bestQuestion_7 : decode cX6_bestQuestion 7 = .ok (.iconst (-1), 1) := by decide +kernel
theorem dX6_bestQuestion_8 : decode cX6_bestQuestion 8 = .ok (.istore_n 2, 1) := by decide +kernel
theorem dX6_bestQuestion_9 : decode cX6_bestQuestion 9 = .ok (.iload_n 1, 1) := by decide +kernel
theorem dX6_bestQuestion_10 : decode cX6_bestQuestion 10 = .ok (.istore_n 3, 1) := by decide +kernel
theorem dX6_bestQuestion_11 : decode cX6_bestQuestion 11 = .ok (.iconst 0, 1) := by decide +kernel
theorem dX6_bestQuestion_12 : decode cX6_bestQuestion 12 = .ok (.istore 4, 2) := by decide +kernel
theorem dX6_bestQuestion_14 : decode cX6_bestQuestion 14 = .ok (.iload 4, 2) := by decide +kernel
theorem dX6_bestQuestion_16 : decode cX6_bestQuestion 16 = .ok (.bipush 30, 2) := by decide +kernel
theorem dX6_bestQuestion_18 : decode cX6_bestQuestion 18 = .ok (.if_icmp .gt 40, 3) := by decide +kernel
theorem dX6_bestQuestion_21 : decode cX6_bestQuestion 21 = .ok (.aload_n 0, 1) := by decide +kernel
theorem dX6_bestQuestion_22 : decode cX6_bestQuestion 22 = .ok (.iload 4, 2) := by decide +kernel
theorem dX6_bestQuestion_24 : decode cX6_bestQuestion 24 = .ok (.invokevirtual 40, 3) := by decide +kernel
theorem dX6_bestQuestion_27 : decode cX6_bestQuestion 27 = .ok (.istore 5, 2) := by decide +kernel
theorem dX6_bestQuestion_29 : decode cX6_bestQuestion 29 = .ok (.iload 5, 2) := by decide +kernel
theorem dX6_bestQuestion_31 : decode cX6_bestQuestion 31 = .ok (.iload_n 1, 1) := by decide +kernel
theorem dX6_bestQuestion_32 : decode cX6_bestQuestion 32 = .ok (.iload 5, 2) := by decide +kernel
theorem dX6_bestQuestion_34 : decode cX6_bestQuestion 34 = .ok (.isub, 1) := by decide +kernel
theorem dX6_bestQuestion_35 : decode cX6_bestQuestion 35 = .ok (.invokestatic 44, 3) := by decide +kernel
theorem dX6_bestQuestion_38 : decode cX6_bestQuestion 38 = .ok (.istore 6, 2) := by decide +kernel
theorem dX6_bestQuestion_40 : decode cX6_bestQuestion 40 = .ok (.iload 6, 2) := by decide +kernel
theorem dX6_bestQuestion_42 : decode cX6_bestQuestion 42 = .ok (.iload_n 3, 1) := by decide +kernel
theorem dX6_bestQuestion_43 : decode cX6_bestQuestion 43 = .ok (.if_icmp .ge 9, 3) := by decide +kernel
theorem dX6_bestQuestion_46 : decode cX6_bestQuestion 46 = .ok (.iload 4, 2) := by decide +kernel
theorem dX6_bestQuestion_48 : decode cX6_bestQuestion 48 = .ok (.istore_n 2, 1) := by decide +kernel
theorem dX6_bestQuestion_49 : decode cX6_bestQuestion 49 = .ok (.iload 6, 2) := by decide +kernel
theorem dX6_bestQuestion_51 : decode cX6_bestQuestion 51 = .ok (.istore_n 3, 1) := by decide +kernel
theorem dX6_bestQuestion_52 : decode cX6_bestQuestion 52 = .ok (.iinc 4 1, 3) := by decide +kernel
theorem dX6_bestQuestion_55 : decode cX6_bestQuestion 55 = .ok (.goto (-41), 3) := by decide +kernel
theorem dX6_bestQuestion_58 : decode cX6_bestQuestion 58 = .ok (.iload_n 2, 1) := by decide +kernel
theorem dX6_bestQuestion_59 : decode cX6_bestQuestion 59 = .ok (.ireturn, 1) := by decide +kernel
theorem dX6_allowedBy_0 : decode cX6_allowedBy 0 = .ok (.iconst 0, 1) := by decide +kernel
theorem dX6_allowedBy_1 : decode cX6_allowedBy 1 = .ok (.istore_n 2, 1) := by decide +kernel
theorem dX6_allowedBy_2 : decode cX6_allowedBy 2 = .ok (.iconst 2, 1) := by decide +kernel
theorem dX6_allowedBy_3 : decode cX6_allowedBy 3 = .ok (.istore_n 3, 1) := by decide +kernel
theorem dX6_allowedBy_4 : decode cX6_allowedBy 4 = .ok (.iload_n 3, 1) := by decide +kernel
theorem dX6_allowedBy_5 : decode cX6_allowedBy 5 = .ok (.bipush 60, 2) := by decide +kernel
theorem dX6_allowedBy_7 : decode cX6_allowedBy 7 = .ok (.if_icmp .gt 34, 3) := by decide +kernel
theorem dX6_allowedBy_10 : decode cX6_allowedBy 10 = .ok (.aload_n 0, 1) := by decide +kernel
theorem dX6_allowedBy_11 : decode cX6_allowedBy 11 = .ok (.getfield 19, 3) := by decide +kernel
theorem dX6_allowedBy_14 : decode cX6_allowedBy 14 = .ok (.iload_n 3, 1) := by decide +kernel
theorem dX6_allowedBy_15 : decode cX6_allowedBy 15 = .ok (.iconst 2, 1) := by decide +kernel
theorem dX6_allowedBy_16 : decode cX6_allowedBy 16 = .ok (.idiv, 1) := by decide +kernel
theorem dX6_allowedBy_17 : decode cX6_allowedBy 17 = .ok (.iaload, 1) := by decide +kernel
theorem dX6_allowedBy_18 : decode cX6_allowedBy 18 = .ok (.iload_n 1, 1) := by decide +kernel
theorem dX6_allowedBy_19 : decode cX6_allowedBy 19 = .ok (.if_icmp .gt 16, 3) := by decide +kernel
theorem dX6_allowedBy_22 : decode cX6_allowedBy 22 = .ok (.aload_n 0, 1) := by decide +kernel
theorem dX6_allowedBy_23 : decode cX6_allowedBy 23 = .ok (.iload_n 3, 1) := by decide +kernel
theorem dX6_allowedBy_24 : decode cX6_allowedBy 24 = .ok (.iconst 2, 1) := by decide +kernel
theorem dX6_allowedBy_25 : decode cX6_allowedBy 25 = .ok (.idiv, 1) := by decide +kernel
theorem dX6_allowedBy_26 : decode cX6_allowedBy 26 = .ok (.invokevirtual 50, 3) := by decide +kernel
theorem dX6_allowedBy_29 : decode cX6_allowedBy 29 = .ok (.ifCond .eq 6, 3) := by decide +kernel
theorem dX6_allowedBy_32 : decode cX6_allowedBy 32 = .ok (.iinc 2 1, 3) := by decide +kernel
theorem dX6_allowedBy_35 : decode cX6_allowedBy 35 = .ok (.iinc 3 1, 3) := by decide +kernel
theorem dX6_allowedBy_38 : decode cX6_allowedBy 38 = .ok (.goto (-34), 3) := by decide +kernel
theorem dX6_allowedBy_41 : decode cX6_allowedBy 41 = .ok (.iload_n 2, 1) := by decide +kernel
theorem dX6_allowedBy_42 : decode cX6_allowedBy 42 = .ok (.ireturn, 1) := by decide +kernel
theorem dX7_init_0 : decode cX7_init 0 = .ok (.aload_n 0, 1) := by decide +kernel
theorem dX7_init_1 : decode cX7_init 1 = .ok (.invokespecial 3, 3) := by decide +kernel
theorem dX7_init_4 : decode cX7_init 4 = .ok (.aload_n 0, 1) := by decide +kernel
theorem dX7_init_5 : decode cX7_init 5 = .ok (.bipush 6, 2) := by decide +kernel
theorem dX7_init_7 : decode cX7_init 7 = .ok (.newarray .int, 2) := by decide +kernel
theorem dX7_init_9 : decode cX7_init 9 = .ok (.putfield 9, 3) := by decide +kernel
theorem dX7_init_12 : decode cX7_init 12 = .ok (.aload_n 0, 1) := by decide +kernel
theorem dX7_init_13 : decode cX7_init 13 = .ok (.iconst 5, 1) := by decide +kernel
theorem dX7_init_14 : decode cX7_init 14 = .ok (.newarray .int, 2) := by decide +kernel
theorem dX7_init_16 : decode cX7_init 16 = .ok (.putfield 15, 3) := by decide +kernel
theorem dX7_init_19 : decode cX7_init 19 = .ok (.return_, 1) := by decide +kernel
theorem dX7_begin_0 : decode cX7_begin 0 = .ok (.iconst 0, 1) := by decide +kernel
theorem dX7_begin_1 : decode cX7_begin 1 = .ok (.istore_n 2, 1) := by decide +kernel
theorem dX7_begin_2 : decode cX7_begin 2 = .ok (.iload_n 2, 1) := by decide +kernel
theorem dX7_begin_3 : decode cX7_begin 3 = .ok (.bipush 6, 2) := by decide +kernel
theorem dX7_begin_5 : decode cX7_begin 5 = .ok (.if_icmp .ge 33, 3) := by decide +kernel
theorem dX7_begin_8 : decode cX7_begin 8 = .ok (.aload_n 0, 1) := by decide +kernel
theorem dX7_begin_9 : decode cX7_begin 9 = .ok (.getfield 9, 3) := by decide +kernel
theorem dX7_begin_12 : decode cX7_begin 12 = .ok (.iload_n 2, 1) := by decide +kernel
theorem dX7_begin_13 : decode cX7_begin 13 = .ok (.aload_n 1, 1) := by decide +kernel
theorem dX7_begin_14 : decode cX7_begin 14 = .ok (.iload_n 2, 1) := by decide +kernel
theorem dX7_begin_15 : decode cX7_begin 15 = .ok (.invokevirtual 18, 3) := by decide +kernel
theorem dX7_begin_18 : decode cX7_begin 18 = .ok (.ifCond .eq 12, 3) := by decide +kernel
theorem dX7_begin_21 : decode cX7_begin 21 = .ok (.aload_n 1, 1) := by decide +kernel
theorem dX7_begin_22 : decode cX7_begin 22 = .ok (.getfield 24, 3) := by decide +kernel
theorem dX7_begin_25 : decode cX7_begin 25 = .ok (.iload_n 2, 1) := by decide +kernel
theorem dX7_begin_26 : decode cX7_begin 26 = .ok (.iaload, 1) := by decide +kernel
theorem dX7_begin_27 : decode cX7_begin 27 = .ok (.goto 4, 3) := by decide +kernel
theorem dX7_begin_30 : decode cX7_begin 30 = .ok (.iconst 0, 1) := by decide +kernel
theorem dX7_begin_31 : decode cX7_begin 31 = .ok (.iastore, 1) := by decide +kernel
theorem dX7_begin_32 : decode cX7_begin 32 = .ok (.iinc 2 1, 3) := by decide +kernel
theorem dX7_begin_35 : decode cX7_begin 35 = .ok (.goto (-33), 3) := by decide +kernel
theorem dX7_begin_38 : decode cX7_begin 38 = .ok (.iconst 0, 1) := by decide +kernel
theorem dX7_begin_39 : decode cX7_begin 39 = .ok (.istore_n 2, 1) := by decide +kernel
theorem dX7_begin_40 : decode cX7_begin 40 = .ok (.iload_n 2, 1) := by decide +kernel
theorem dX7_begin_41 : decode cX7_begin 41 = .ok (.iconst 5, 1) := by decide +kernel
theorem dX7_begin_42 : decode cX7_begin 42 = .ok (.if_icmp .ge 33, 3) := by decide +kernel
theorem dX7_begin_45 : decode cX7_begin 45 = .ok (.aload_n 0, 1) := by decide +kernel
theorem dX7_begin_46 : decode cX7_begin 46 = .ok (.getfield 15, 3) := by decide +kernel
theorem dX7_begin_49 : decode cX7_begin 49 = .ok (.iload_n 2, 1) := by decide +kernel
theorem dX7_begin_50 : decode cX7_begin 50 = .ok (.aload_n 1, 1) := by decide +kernel
theorem dX7_begin_51 : decode cX7_begin 51 = .ok (.iload_n 2, 1) := by decide +kernel
theorem dX7_begin_52 : decode cX7_begin 52 = .ok (.invokevirtual 27, 3) := by decide +kernel
theorem dX7_begin_55 : decode cX7_begin 55 = .ok (.ifCond .eq 12, 3) := by decide +kernel
theorem dX7_begin_58 : decode cX7_begin 58 = .ok (.aload_n 1, 1) := by decide +kernel
theorem dX7_begin_59 : decode cX7_begin 59 = .ok (.getfield 30, 3) := by decide +kernel
theorem dX7_begin_62 : decode cX7_begin 62 = .ok (.iload_n 2, 1) := by decide +kernel
theorem dX7_begin_63 : decode cX7_begin 63 = .ok (.iaload, 1) := by decide +kernel
theorem dX7_begin_64 : decode cX7_begin 64 = .ok (.goto 4, 3) := by decide +kernel
theorem dX7_begin_67 : decode cX7_begin 67 = .ok (.iconst 0, 1) := by decide +kernel
theorem dX7_begin_68 : decode cX7_begin 68 = .ok (.iastore, 1) := by decide +kernel
theorem dX7_begin_69 : decode cX7_begin 69 = .ok (.iinc 2 1, 3) := by decide +kernel
theorem dX7_begin_72 : decode cX7_begin 72 = .ok (.goto (-32), 3) := by decide +kernel
theorem dX7_begin_75 : decode cX7_begin 75 = .ok (.aload_n 0, 1) := by decide +kernel
theorem dX7_begin_76 : decode cX7_begin 76 = .ok (.iconst 0, 1) := by decide +kernel
theorem dX7_begin_77 : decode cX7_begin 77 = .ok (.putfield 33, 3) := by decide +kernel
theorem dX7_begin_80 : decode cX7_begin 80 = .ok (.aload_n 0, 1) := by decide +kernel
theorem dX7_begin_81 : decode cX7_begin 81 = .ok (.iconst 0, 1) := by decide +kernel
theorem dX7_begin_82 : decode cX7_begin 82 = .ok (.putfield 37, 3) := by decide +kernel
theorem dX7_begin_85 : decode cX7_begin 85 = .ok (.aload_n 0, 1) := by decide +kernel
theorem dX7_begin_86 : decode cX7_begin 86 = .ok (.iconst 0, 1) := by decide +kernel
theorem dX7_begin_87 : decode cX7_begin 87 = .ok (.putfield 40, 3) := by decide +kernel
theorem dX7_begin_90 : decode cX7_begin 90 = .ok (.return_, 1) := by decide +kernel
theorem dX7_copyOf_0 : decode cX7_copyOf 0 = .ok (.iconst 0, 1) := by decide +kernel
theorem dX7_copyOf_1 : decode cX7_copyOf 1 = .ok (.istore_n 2, 1) := by decide +kernel
theorem dX7_copyOf_2 : decode cX7_copyOf 2 = .ok (.iload_n 2, 1) := by decide +kernel
theorem dX7_copyOf_3 : decode cX7_copyOf 3 = .ok (.bipush 6, 2) := by decide +kernel
theorem dX7_copyOf_5 : decode cX7_copyOf 5 = .ok (.if_icmp .ge 21, 3) := by decide +kernel
theorem dX7_copyOf_8 : decode cX7_copyOf 8 = .ok (.aload_n 0, 1) := by decide +kernel
theorem dX7_copyOf_9 : decode cX7_copyOf 9 = .ok (.getfield 9, 3) := by decide +kernel
theorem dX7_copyOf_12 : decode cX7_copyOf 12 = .ok (.iload_n 2, 1) := by decide +kernel
theorem dX7_copyOf_13 : decode cX7_copyOf 13 = .ok (.aload_n 1, 1) := by decide +kernel
theorem dX7_copyOf_14 : decode cX7_copyOf 14 = .ok (.getfield 9, 3) := by decide +kernel
theorem dX7_copyOf_17 : decode cX7_copyOf 17 = .ok (.iload_n 2, 1) := by decide +kernel
theorem dX7_copyOf_18 : decode cX7_copyOf 18 = .ok (.iaload, 1) := by decide +kernel
theorem dX7_copyOf_19 : decode cX7_copyOf 19 = .ok (.iastore, 1) := by decide +kernel
theorem dX7_copyOf_20 : decode cX7_copyOf 20 = .ok (.iinc 2 1, 3) := by decide +kernel
theorem dX7_copyOf_23 : decode cX7_copyOf 23 = .ok (.goto (-21), 3) := by decide +kernel
theorem dX7_copyOf_26 : decode cX7_copyOf 26 = .ok (.iconst 0, 1) := by decide +kernel
theorem dX7_copyOf_27 : decode cX7_copyOf 27 = .ok (.istore_n 2, 1) := by decide +kernel
theorem dX7_copyOf_28 : decode cX7_copyOf 28 = .ok (.iload_n 2, 1) := by decide +kernel
theorem dX7_copyOf_29 : decode cX7_copyOf 29 = .ok (.iconst 5, 1) := by decide +kernel
theorem dX7_copyOf_30 : decode cX7_copyOf 30 = .ok (.if_icmp .ge 21, 3) := by decide +kernel
theorem dX7_copyOf_33 : decode cX7_copyOf 33 = .ok (.aload_n 0, 1) := by decide +kernel
theorem dX7_copyOf_34 : decode cX7_copyOf 34 = .ok (.getfield 15, 3) := by decide +kernel
theorem dX7_copyOf_37 : decode cX7_copyOf 37 = .ok (.iload_n 2, 1) := by decide +kernel
theorem dX7_copyOf_38 : decode cX7_copyOf 38 = .ok (.aload_n 1, 1) := by decide +kernel
theorem dX7_copyOf_39 : decode cX7_copyOf 39 = .ok (.getfield 15, 3) := by decide +kernel
theorem dX7_copyOf_42 : decode cX7_copyOf 42 = .ok (.iload_n 2, 1) := by decide +kernel
theorem dX7_copyOf_43 : decode cX7_copyOf 43 = .ok (.iaload, 1) := by decide +kernel
theorem dX7_copyOf_44 : decode cX7_copyOf 44 = .ok (.iastore, 1) := by decide +kernel
theorem dX7_copyOf_45 : decode cX7_copyOf 45 = .ok (.iinc 2 1, 3) := by decide +kernel
theorem dX7_copyOf_48 : decode cX7_copyOf 48 = .ok (.goto (-20), 3) := by decide +kernel
theorem dX7_copyOf_51 : decode cX7_copyOf 51 = .ok (.aload_n 0, 1) := by decide +kernel
theorem dX7_copyOf_52 : decode cX7_copyOf 52 = .ok (.aload_n 1, 1) := by decide +kernel
theorem dX7_copyOf_53 : decode cX7_copyOf 53 = .ok (.getfield 33, 3) := by decide +kernel
theorem dX7_copyOf_56 : decode cX7_copyOf 56 = .ok (.putfield 33, 3) := by decide +kernel
theorem dX7_copyOf_59 : decode cX7_copyOf 59 = .ok (.aload_n 0, 1) := by decide +kernel
theorem dX7_copyOf_60 : decode cX7_copyOf 60 = .ok (.aload_n 1, 1) := by decide +kernel
theorem dX7_copyOf_61 : decode cX7_copyOf 61 = .ok (.getfield 37, 3) := by decide +kernel
theorem dX7_copyOf_64 : decode cX7_copyOf 64 = .ok (.putfield 37, 3) := by decide +kernel
theorem dX7_copyOf_67 : decode cX7_copyOf 67 = .ok (.aload_n 0, 1) := by decide +kernel
theorem dX7_copyOf_68 : decode cX7_copyOf 68 = .ok (.aload_n 1, 1) := by decide +kernel
theorem dX7_copyOf_69 : decode cX7_copyOf 69 = .ok (.getfield 40, 3) := by decide +kernel
theorem dX7_copyOf_72 : decode cX7_copyOf 72 = .ok (.putfield 40, 3) := by decide +kernel
theorem dX7_copyOf_75 : decode cX7_copyOf 75 = .ok (.return_, 1) := by decide +kernel
theorem dX7_workOn_0 : decode cX7_workOn 0 = .ok (.aload_n 1, 1) := by decide +kernel
theorem dX7_workOn_1 : decode cX7_workOn 1 = .ok (.iload_n 2, 1) := by decide +kernel
theorem dX7_workOn_2 : decode cX7_workOn 2 = .ok (.invokevirtual 18, 3) := by decide +kernel
theorem dX7_workOn_5 : decode cX7_workOn 5 = .ok (.ifCond .ne 5, 3) := by decide +kernel
theorem dX7_workOn_8 : decode cX7_workOn 8 = .ok (.iconst 0, 1) := by decide +kernel
theorem dX7_workOn_9 : decode cX7_workOn 9 = .ok (.ireturn, 1) := by decide +kernel
theorem dX7_workOn_10 : decode cX7_workOn 10 = .ok (.aload_n 1, 1) := by decide +kernel
theorem dX7_workOn_11 : decode cX7_workOn 11 = .ok (.iload_n 2, 1) := by decide +kernel
theorem dX7_workOn_12 : decode cX7_workOn 12 = .ok (.invokevirtual 43, 3) := by decide +kernel
theorem dX7_workOn_15 : decode cX7_workOn 15 = .ok (.istore 4, 2) := by decide +kernel
theorem dX7_workOn_17 : decode cX7_workOn 17 = .ok (.aload_n 0, 1) := by decide +kernel
theorem dX7_workOn_18 : decode cX7_workOn 18 = .ok (.getfield 9, 3) := by decide +kernel
theorem dX7_workOn_21 : decode cX7_workOn 21 = .ok (.iload_n 2, 1) := by decide +kernel
theorem dX7_workOn_22 : decode cX7_workOn 22 = .ok (.iaload, 1) := by decide +kernel
theorem dX7_workOn_23 : decode cX7_workOn 23 = .ok (.iload_n 3, 1) := by decide +kernel
theorem dX7_workOn_24 : decode cX7_workOn 24 = .ok (.iadd, 1) := by decide +kernel
theorem dX7_workOn_25 : decode cX7_workOn 25 = .ok (.istore 5, 2) := by decide +kernel
theorem dX7_workOn_27 : decode cX7_workOn 27 = .ok (.aload_n 0, 1) := by decide +kernel
theorem dX7_workOn_28 : decode cX7_workOn 28 = .ok (.getfield 9, 3) := by decide +kernel
theorem dX7_workOn_31 : decode cX7_workOn 31 = .ok (.iload_n 2, 1) := by decide +kernel
theorem dX7_workOn_32 : decode cX7_workOn 32 = .ok (.iload 5, 2) := by decide +kernel
theorem dX7_workOn_34 : decode cX7_workOn 34 = .ok (.iload 4, 2) := by decide +kernel
theorem dX7_workOn_36 : decode cX7_workOn 36 = .ok (.invokestatic 47, 3) := by decide +kernel
theorem dX7_workOn_39 : decode cX7_workOn 39 = .ok (.iastore, 1) := by decide +kernel
theorem dX7_workOn_40 : decode cX7_workOn 40 = .ok (.iconst 0, 1) := by decide +kernel
theorem dX7_workOn_41 : decode cX7_workOn 41 = .ok (.iload 5, 2) := by decide +kernel
theorem dX7_workOn_43 : decode cX7_workOn 43 = .ok (.iload 4, 2) := by decide +kernel
theorem dX7_workOn_45 : decode cX7_workOn 45 = .ok (.isub, 1) := by decide +kernel
theorem dX7_workOn_46 : decode cX7_workOn 46 = .ok (.invokestatic 53, 3) := by decide +kernel
theorem dX7_workOn_49 : decode cX7_workOn 49 = .ok (.aload_n 1, 1) := by decide +kernel
theorem dX7_workOn_50 : decode cX7_workOn 50 = .ok (.getfield 56, 3) := by decide +kernel
theorem dX7_workOn_53 : decode cX7_workOn 53 = .ok (.imul, 1) := by decide +kernel
theorem dX7_workOn_54 : decode cX7_workOn 54 = .ok (.istore 6, 2) := by decide +kernel
theorem dX7_workOn_56 : decode cX7_workOn 56 = .ok (.aload_n 0, 1) := by decide +kernel
theorem dX7_workOn_57 : decode cX7_workOn 57 = .ok (.dup, 1) := by decide +kernel
theorem dX7_workOn_58 : decode cX7_workOn 58 = .ok (.getfield 37, 3) := by decide +kernel
theorem dX7_workOn_61 : decode cX7_workOn 61 = .ok (.iload 6, 2) := by decide +kernel
theorem dX7_workOn_63 : decode cX7_workOn 63 = .ok (.iadd, 1) := by decide +kernel
theorem dX7_workOn_64 : decode cX7_workOn 64 = .ok (.putfield 37, 3) := by decide +kernel
theorem dX7_workOn_67 : decode cX7_workOn 67 = .ok (.iload 6, 2) := by decide +kernel
theorem dX7_workOn_69 : decode cX7_workOn 69 = .ok (.ireturn, 1) := by decide +kernel
theorem dX7_takeOff_0 : decode cX7_takeOff 0 = .ok (.iload_n 1, 1) := by decide +kernel
theorem dX7_takeOff_1 : decode cX7_takeOff 1 = .ok (.ifCond .lt 30, 3) := by decide +kernel
theorem dX7_takeOff_4 : decode cX7_takeOff 4 = .ok (.iload_n 1, 1) := by decide +kernel
theorem dX7_takeOff_5 : decode cX7_takeOff 5 = .ok (.aload_n 0, 1) := by decide +kernel
theorem dX7_takeOff_6 : decode cX7_takeOff 6 = .ok (.getfield 9, 3) := by decide +kernel
theorem dX7_takeOff_9 : decode cX7_takeOff 9 = .ok (.arraylength, 1) := by decide +kernel
theorem dX7_takeOff_10 : decode cX7_takeOff 10 = .ok (.if_icmp .ge 21, 3) := by decide +kernel
theorem dX7_takeOff_13 : decode cX7_takeOff 13 = .ok (.aload_n 0, 1) := by decide +kernel
theorem dX7_takeOff_14 : decode cX7_takeOff 14 = .ok (.getfield 9, 3) := by decide +kernel
theorem dX7_takeOff_17 : decode cX7_takeOff 17 = .ok (.iload_n 1, 1) := by decide +kernel
theorem dX7_takeOff_18 : decode cX7_takeOff 18 = .ok (.iconst 0, 1) := by decide +kernel
theorem dX7_takeOff_19 : decode cX7_takeOff 19 = .ok (.aload_n 0, 1) := by decide +kernel
theorem dX7_takeOff_20 : decode cX7_takeOff 20 = .ok (.getfield 9, 3) := by decide +kernel
theorem dX7_takeOff_23 : decode cX7_takeOff 23 = .ok (.iload_n 1, 1) := by decide +kernel
theorem dX7_takeOff_24 : decode cX7_takeOff 24 = .ok (.iaload, 1) := by decide +kernel
theorem dX7_takeOff_25 : decode cX7_takeOff 25 = .ok (.iload_n 2, 1) := by decide +kernel
theorem dX7_takeOff_26 : decode cX7_takeOff 26 = .ok (.isub, 1) := by decide +kernel
theorem dX7_takeOff_27 : decode cX7_takeOff 27 = .ok (.invokestatic 53, 3) := by decide +kernel
theorem dX7_takeOff_30 : decode cX7_takeOff 30 = .ok (.iastore, 1) := by decide +kernel
theorem dX7_takeOff_31 : decode cX7_takeOff 31 = .ok (.return_, 1) := by decide +kernel
theorem dX7_isHalf_0 : decode cX7_isHalf 0 = .ok (.aload_n 0, 1) := by decide +kernel
theorem dX7_isHalf_1 : decode cX7_isHalf 1 = .ok (.getfield 9, 3) := by decide +kernel
theorem dX7_isHalf_4 : decode cX7_isHalf 4 = .ok (.iload_n 2, 1) := by decide +kernel
theorem dX7_isHalf_5 : decode cX7_isHalf 5 = .ok (.iaload, 1) := by decide +kernel
theorem dX7_isHalf_6 : decode cX7_isHalf 6 = .ok (.aload_n 1, 1) := by decide +kernel
theorem dX7_isHalf_7 : decode cX7_isHalf 7 = .ok (.iload_n 2, 1) := by decide +kernel
theorem dX7_isHalf_8 : decode cX7_isHalf 8 = .ok (.invokevirtual 43, 3) := by decide +kernel
theorem dX7_isHalf_11 : decode cX7_isHalf 11 = .ok (.if_icmp .lt 7, 3) := by decide +kernel
theorem dX7_isHalf_14 : decode cX7_isHalf 14 = .ok (.iconst 1, 1) := by decide +kernel
theorem dX7_isHalf_15 : decode cX7_isHalf 15 = .ok (.goto 4, 3) := by decide +kernel
theorem dX7_isHalf_18 : decode cX7_isHalf 18 = .ok (.iconst 0, 1) := by decide +kernel
theorem dX7_isHalf_19 : decode cX7_isHalf 19 = .ok (.ireturn, 1) := by decide +kernel
theorem dX7_canJoin_0 : decode cX7_canJoin 0 = .ok (.aload_n 1, 1) := by decide +kernel
theorem dX7_canJoin_1 : decode cX7_canJoin 1 = .ok (.iload_n 2, 1) := by decide +kernel
theorem dX7_canJoin_2 : decode cX7_canJoin 2 = .ok (.iload_n 3, 1) := by decide +kernel
theorem dX7_canJoin_3 : decode cX7_canJoin 3 = .ok (.invokevirtual 59, 3) := by decide +kernel
theorem dX7_canJoin_6 : decode cX7_canJoin 6 = .ok (.ifCond .eq 25, 3) := by decide +kernel
theorem dX7_canJoin_9 : decode cX7_canJoin 9 = .ok (.aload_n 0, 1) := by decide +kernel
theorem dX7_canJoin_10 : decode cX7_canJoin 10 = .ok (.aload_n 1, 1) := by decide +kernel
theorem dX7_canJoin_11 : decode cX7_canJoin 11 = .ok (.iload_n 2, 1) := by decide +kernel
theorem dX7_canJoin_12 : decode cX7_canJoin 12 = .ok (.invokevirtual 63, 3) := by decide +kernel
theorem dX7_canJoin_15 : decode cX7_canJoin 15 = .ok (.ifCond .eq 16, 3) := by decide +kernel
theorem dX7_canJoin_18 : decode cX7_canJoin 18 = .ok (.aload_n 0, 1) := by decide +kernel
theorem dX7_canJoin_19 : decode cX7_canJoin 19 = .ok (.aload_n 1, 1) := by decide +kernel
theorem dX7_canJoin_20 : decode cX7_canJoin 20 = .ok (.iload_n 3, 1) := by decide +kernel
theorem dX7_canJoin_21 : decode cX7_canJoin 21 = .ok (.invokevirtual 63, 3) := by decide +kernel
theorem dX7_canJoin_24 : decode cX7_canJoin 24 = .ok (.ifCond .eq 7, 3) := by decide +kernel
theorem dX7_canJoin_27 : decode cX7_canJoin 27 = .ok (.iconst 1, 1) := by decide +kernel
theorem dX7_canJoin_28 : decode cX7_canJoin 28 = .ok (.goto 4, 3) := by decide +kernel
theorem dX7_canJoin_31 : decode cX7_canJoin 31 = .ok (.iconst 0, 1) := by decide +kernel
theorem dX7_canJoin_32 : decode cX7_canJoin 32 = .ok (.ireturn, 1) := by decide +kernel
theorem dX7_arrest_0 : decode cX7_arrest 0 = .ok (.aload_n 0, 1) := by decide +kernel
theorem dX7_arrest_1 : decode cX7_arrest 1 = .ok (.getfield 9, 3) := by decide +kernel
theorem dX7_arrest_4 : decode cX7_arrest 4 = .ok (.iload_n 2, 1) := by decide +kernel
theorem dX7_arrest_5 : decode cX7_arrest 5 = .ok (.iconst 0, 1) := by decide +kernel
theorem dX7_arrest_6 : decode cX7_arrest 6 = .ok (.iastore, 1) := by decide +kernel
theorem dX7_arrest_7 : decode cX7_arrest 7 = .ok (.aload_n 0, 1) := by decide +kernel
theorem dX7_arrest_8 : decode cX7_arrest 8 = .ok (.getfield 9, 3) := by decide +kernel
theorem dX7_arrest_11 : decode cX7_arrest 11 = .ok (.iload_n 3, 1) := by decide +kernel
theorem dX7_arrest_12 : decode cX7_arrest 12 = .ok (.iconst 0, 1) := by decide +kernel
theorem dX7_arrest_13 : decode cX7_arrest 13 = .ok (.iastore, 1) := by decide +kernel
theorem dX7_arrest_14 : decode cX7_arrest 14 = .ok (.aload_n 0, 1) := by decide +kernel
theorem dX7_arrest_15 : decode cX7_arrest 15 = .ok (.dup, 1) := by decide +kernel
theorem dX7_arrest_16 : decode cX7_arrest 16 = .ok (.getfield 37, 3) := by decide +kernel
theorem dX7_arrest_19 : decode cX7_arrest 19 = .ok (.bipush 10, 2) := by decide +kernel
theorem dX7_arrest_21 : decode cX7_arrest 21 = .ok (.aload_n 1, 1) := by decide +kernel
theorem dX7_arrest_22 : decode cX7_arrest 22 = .ok (.getfield 56, 3) := by decide +kernel
theorem dX7_arrest_25 : decode cX7_arrest 25 = .ok (.imul, 1) := by decide +kernel
theorem dX7_arrest_26 : decode cX7_arrest 26 = .ok (.iadd, 1) := by decide +kernel
theorem dX7_arrest_27 : decode cX7_arrest 27 = .ok (.putfield 37, 3) := by decide +kernel
theorem dX7_arrest_30 : decode cX7_arrest 30 = .ok (.aload_n 0, 1) := by decide +kernel
theorem dX7_arrest_31 : decode cX7_arrest 31 = .ok (.dup, 1) := by decide +kernel
theorem dX7_arrest_32 : decode cX7_arrest 32 = .ok (.getfield 40, 3) := by decide +kernel
theorem dX7_arrest_35 : decode cX7_arrest 35 = .ok (.iconst 1, 1) := by decide +kernel
theorem dX7_arrest_36 : decode cX7_arrest 36 = .ok (.iadd, 1) := by decide +kernel
theorem dX7_arrest_37 : decode cX7_arrest 37 = .ok (.putfield 40, 3) := by decide +kernel
theorem dX7_arrest_40 : decode cX7_arrest 40 = .ok (.return_, 1) := by decide +kernel
theorem dX7_canLend_0 : decode cX7_canLend 0 = .ok (.aload_n 1, 1) := by decide +kernel
theorem dX7_canLend_1 : decode cX7_canLend 1 = .ok (.iload_n 2, 1) := by decide +kernel
theorem dX7_canLend_2 : decode cX7_canLend 2 = .ok (.invokevirtual 27, 3) := by decide +kernel
theorem dX7_canLend_5 : decode cX7_canLend 5 = .ok (.ifCond .eq 45, 3) := by decide +kernel
theorem dX7_canLend_8 : decode cX7_canLend 8 = .ok (.aload_n 1, 1) := by decide +kernel
theorem dX7_canLend_9 : decode cX7_canLend 9 = .ok (.iload_n 3, 1) := by decide +kernel
theorem dX7_canLend_10 : decode cX7_canLend 10 = .ok (.invokevirtual 27, 3) := by decide +kernel
theorem dX7_canLend_13 : decode cX7_canLend 13 = .ok (.ifCond .eq 37, 3) := by decide +kernel
theorem dX7_canLend_16 : decode cX7_canLend 16 = .ok (.iload_n 2, 1) := by decide +kernel
theorem dX7_canLend_17 : decode cX7_canLend 17 = .ok (.iload_n 3, 1) := by decide +kernel
theorem dX7_canLend_18 : decode cX7_canLend 18 = .ok (.if_icmp .eq 32, 3) := by decide +kernel
theorem dX7_canLend_21 : decode cX7_canLend 21 = .ok (.aload_n 0, 1) := by decide +kernel
theorem dX7_canLend_22 : decode cX7_canLend 22 = .ok (.getfield 15, 3) := by decide +kernel
theorem dX7_canLend_25 : decode cX7_canLend 25 = .ok (.iload_n 2, 1) := by decide +kernel
theorem dX7_canLend_26 : decode cX7_canLend 26 = .ok (.iaload, 1) := by decide +kernel
theorem dX7_canLend_27 : decode cX7_canLend 27 = .ok (.iload 4, 2) := by decide +kernel
theorem dX7_canLend_29 : decode cX7_canLend 29 = .ok (.if_icmp .lt 21, 3) := by decide +kernel
theorem dX7_canLend_32 : decode cX7_canLend 32 = .ok (.aload_n 0, 1) := by decide +kernel
theorem dX7_canLend_33 : decode cX7_canLend 33 = .ok (.getfield 15, 3) := by decide +kernel
theorem dX7_canLend_36 : decode cX7_canLend 36 = .ok (.iload_n 3, 1) := by decide +kernel
theorem dX7_canLend_37 : decode cX7_canLend 37 = .ok (.iaload, 1) := by decide +kernel
theorem dX7_canLend_38 : decode cX7_canLend 38 = .ok (.iload 4, 2) := by decide +kernel
theorem dX7_canLend_40 : decode cX7_canLend 40 = .ok (.iadd, 1) := by decide +kernel
theorem dX7_canLend_41 : decode cX7_canLend 41 = .ok (.bipush 99, 2) := by decide +kernel
theorem dX7_canLend_43 : decode cX7_canLend 43 = .ok (.if_icmp .gt 7, 3) := by decide +kernel
theorem dX7_canLend_46 : decode cX7_canLend 46 = .ok (.iconst 1, 1) := by decide +kernel
theorem dX7_canLend_47 : decode cX7_canLend 47 = .ok (.goto 4, 3) := by decide +kernel
theorem dX7_canLend_50 : decode cX7_canLend 50 = .ok (.iconst 0, 1) := by decide +kernel
theorem dX7_canLend_51 : decode cX7_canLend 51 = .ok (.ireturn, 1) := by decide +kernel
theorem dX7_moveSeats_0 : decode cX7_moveSeats 0 = .ok (.aload_n 0, 1) := by decide +kernel
theorem dX7_moveSeats_1 : decode cX7_moveSeats 1 = .ok (.getfield 15, 3) := by decide +kernel
theorem dX7_moveSeats_4 : decode cX7_moveSeats 4 = .ok (.iload_n 1, 1) := by decide +kernel
theorem dX7_moveSeats_5 : decode cX7_moveSeats 5 = .ok (.dup2, 1) := by decide +kernel
theorem dX7_moveSeats_6 : decode cX7_moveSeats 6 = .ok (.iaload, 1) := by decide +kernel
theorem dX7_moveSeats_7 : decode cX7_moveSeats 7 = .ok (.iload_n 3, 1) := by decide +kernel
theorem dX7_moveSeats_8 : decode cX7_moveSeats 8 = .ok (.isub, 1) := by decide +kernel
theorem dX7_moveSeats_9 : decode cX7_moveSeats 9 = .ok (.iastore, 1) := by decide +kernel
theorem dX7_moveSeats_10 : decode cX7_moveSeats 10 = .ok (.aload_n 0, 1) := by decide +kernel
theorem dX7_moveSeats_11 : decode cX7_moveSeats 11 = .ok (.getfield 15, 3) := by decide +kernel
theorem dX7_moveSeats_14 : decode cX7_moveSeats 14 = .ok (.iload_n 2, 1) := by decide +kernel
theorem dX7_moveSeats_15 : decode cX7_moveSeats 15 = .ok (.dup2, 1) := by decide +kernel
theorem dX7_moveSeats_16 : decode cX7_moveSeats 16 = .ok (.iaload, 1) := by decide +kernel
theorem dX7_moveSeats_17 : decode cX7_moveSeats 17 = .ok (.iload_n 3, 1) := by decide +kernel
theorem dX7_moveSeats_18 : decode cX7_moveSeats 18 = .ok (.iadd, 1) := by decide +kernel
theorem dX7_moveSeats_19 : decode cX7_moveSeats 19 = .ok (.iastore, 1) := by decide +kernel
theorem dX7_moveSeats_20 : decode cX7_moveSeats 20 = .ok (.return_, 1) := by decide +kernel
theorem dX7_passWeek_0 : decode cX7_passWeek 0 = .ok (.iconst 0, 1) := by decide +kernel
theorem dX7_passWeek_1 : decode cX7_passWeek 1 = .ok (.istore_n 2, 1) := by decide +kernel
theorem dX7_passWeek_2 : decode cX7_passWeek 2 = .ok (.iconst 0, 1) := by decide +kernel
theorem dX7_passWeek_3 : decode cX7_passWeek 3 = .ok (.istore_n 3, 1) := by decide +kernel
theorem dX7_passWeek_4 : decode cX7_passWeek 4 = .ok (.iload_n 3, 1) := by decide +kernel
theorem dX7_passWeek_5 : decode cX7_passWeek 5 = .ok (.aload_n 1, 1) := by decide +kernel
theorem dX7_passWeek_6 : decode cX7_passWeek 6 = .ok (.getfield 67, 3) := by decide +kernel
theorem dX7_passWeek_9 : decode cX7_passWeek 9 = .ok (.if_icmp .ge 57, 3) := by decide +kernel
theorem dX7_passWeek_12 : decode cX7_passWeek 12 = .ok (.aload_n 0, 1) := by decide +kernel
theorem dX7_passWeek_13 : decode cX7_passWeek 13 = .ok (.aload_n 1, 1) := by decide +kernel
theorem dX7_passWeek_14 : decode cX7_passWeek 14 = .ok (.iload_n 3, 1) := by decide +kernel
theorem dX7_passWeek_15 : decode cX7_passWeek 15 = .ok (.invokevirtual 70, 3) := by decide +kernel
theorem dX7_passWeek_18 : decode cX7_passWeek 18 = .ok (.istore 4, 2) := by decide +kernel
theorem dX7_passWeek_20 : decode cX7_passWeek 20 = .ok (.aload_n 1, 1) := by decide +kernel
theorem dX7_passWeek_21 : decode cX7_passWeek 21 = .ok (.aload_n 1, 1) := by decide +kernel
theorem dX7_passWeek_22 : decode cX7_passWeek 22 = .ok (.getfield 74, 3) := by decide +kernel
theorem dX7_passWeek_25 : decode cX7_passWeek 25 = .ok (.iload_n 3, 1) := by decide +kernel
theorem dX7_passWeek_26 : decode cX7_passWeek 26 = .ok (.iaload, 1) := by decide +kernel
theorem dX7_passWeek_27 : decode cX7_passWeek 27 = .ok (.aload_n 0, 1) := by decide +kernel
theorem dX7_passWeek_28 : decode cX7_passWeek 28 = .ok (.getfield 9, 3) := by decide +kernel
theorem dX7_passWeek_31 : decode cX7_passWeek 31 = .ok (.iload_n 3, 1) := by decide +kernel
theorem dX7_passWeek_32 : decode cX7_passWeek 32 = .ok (.iaload, 1) := by decide +kernel
theorem dX7_passWeek_33 : decode cX7_passWeek 33 = .ok (.aload_n 1, 1) := by decide +kernel
theorem dX7_passWeek_34 : decode cX7_passWeek 34 = .ok (.iload_n 3, 1) := by decide +kernel
theorem dX7_passWeek_35 : decode cX7_passWeek 35 = .ok (.invokevirtual 43, 3) := by decide +kernel
theorem dX7_passWeek_38 : decode cX7_passWeek 38 = .ok (.iload 4, 2) := by decide +kernel
theorem dX7_passWeek_40 : decode cX7_passWeek 40 = .ok (.aload_n 0, 1) := by decide +kernel
theorem dX7_passWeek_41 : decode cX7_passWeek 41 = .ok (.getfield 33, 3) := by decide +kernel
theorem dX7_passWeek_44 : decode cX7_passWeek 44 = .ok (.invokevirtual 77, 3) := by decide +kernel
theorem dX7_passWeek_47 : decode cX7_passWeek 47 = .ok (.istore 5, 2) := by decide +kernel
theorem dX7_passWeek_49 : decode cX7_passWeek 49 = .ok (.iload_n 2, 1) := by decide +kernel
theorem dX7_passWeek_50 : decode cX7_passWeek 50 = .ok (.aload_n 0, 1) := by decide +kernel
theorem dX7_passWeek_51 : decode cX7_passWeek 51 = .ok (.aload_n 1, 1) := by decide +kernel
theorem dX7_passWeek_52 : decode cX7_passWeek 52 = .ok (.iload_n 3, 1) := by decide +kernel
theorem dX7_passWeek_53 : decode cX7_passWeek 53 = .ok (.iload 5, 2) := by decide +kernel
theorem dX7_passWeek_55 : decode cX7_passWeek 55 = .ok (.invokevirtual 81, 3) := by decide +kernel
theorem dX7_passWeek_58 : decode cX7_passWeek 58 = .ok (.iadd, 1) := by decide +kernel
theorem dX7_passWeek_59 : decode cX7_passWeek 59 = .ok (.istore_n 2, 1) := by decide +kernel
theorem dX7_passWeek_60 : decode cX7_passWeek 60 = .ok (.iinc 3 1, 3) := by decide +kernel
theorem dX7_passWeek_63 : decode cX7_passWeek 63 = .ok (.goto (-59), 3) := by decide +kernel
theorem dX7_passWeek_66 : decode cX7_passWeek 66 = .ok (.aload_n 0, 1) := by decide +kernel
theorem dX7_passWeek_67 : decode cX7_passWeek 67 = .ok (.dup, 1) := by decide +kernel
theorem dX7_passWeek_68 : decode cX7_passWeek 68 = .ok (.getfield 33, 3) := by decide +kernel
theorem dX7_passWeek_71 : decode cX7_passWeek 71 = .ok (.iconst 1, 1) := by decide +kernel
theorem dX7_passWeek_72 : decode cX7_passWeek 72 = .ok (.iadd, 1) := by decide +kernel
theorem dX7_passWeek_73 : decode cX7_passWeek 73 = .ok (.putfield 33, 3) := by decide +kernel
theorem dX7_passWeek_76 : decode cX7_passWeek 76 = .ok (.iload_n 2, 1) := by decide +kernel
theorem dX7_passWeek_77 : decode cX7_passWeek 77 = .ok (.ireturn, 1) := by decide +kernel
theorem dX7_follow_0 : decode cX7_follow 0 = .ok (.aload_n 2, 1) := by decide +kernel
theorem dX7_follow_1 : decode cX7_follow 1 = .ok (.getfield 85, 3) := by decide +kernel
theorem dX7_follow_4 : decode cX7_follow 4 = .ok (.iload_n 3, 1) := by decide +kernel
theorem dX7_follow_5 : decode cX7_follow 5 = .ok (.iaload, 1) := by decide +kernel
theorem dX7_follow_6 : decode cX7_follow 6 = .ok (.istore 4, 2) := by decide +kernel
theorem dX7_follow_8 : decode cX7_follow 8 = .ok (.aload_n 2, 1) := by decide +kernel
theorem dX7_follow_9 : decode cX7_follow 9 = .ok (.getfield 90, 3) := by decide +kernel
theorem dX7_follow_12 : decode cX7_follow 12 = .ok (.iload_n 3, 1) := by decide +kernel
theorem dX7_follow_13 : decode cX7_follow 13 = .ok (.iaload, 1) := by decide +kernel
theorem dX7_follow_14 : decode cX7_follow 14 = .ok (.istore 5, 2) := by decide +kernel
theorem dX7_follow_16 : decode cX7_follow 16 = .ok (.aload_n 2, 1) := by decide +kernel
theorem dX7_follow_17 : decode cX7_follow 17 = .ok (.getfield 93, 3) := by decide +kernel
theorem dX7_follow_20 : decode cX7_follow 20 = .ok (.iload_n 3, 1) := by decide +kernel
theorem dX7_follow_21 : decode cX7_follow 21 = .ok (.iaload, 1) := by decide +kernel
theorem dX7_follow_22 : decode cX7_follow 22 = .ok (.istore 6, 2) := by decide +kernel
theorem dX7_follow_24 : decode cX7_follow 24 = .ok (.aload_n 2, 1) := by decide +kernel
theorem dX7_follow_25 : decode cX7_follow 25 = .ok (.getfield 96, 3) := by decide +kernel
theorem dX7_follow_28 : decode cX7_follow 28 = .ok (.iload_n 3, 1) := by decide +kernel
theorem dX7_follow_29 : decode cX7_follow 29 = .ok (.iaload, 1) := by decide +kernel
theorem dX7_follow_30 : decode cX7_follow 30 = .ok (.tableswitch 105 0 3 #[30, 42, 52, 77], 30) := by decide +kernel
theorem dX7_follow_60 : decode cX7_follow 60 = .ok (.aload_n 0, 1) := by decide +kernel
theorem dX7_follow_61 : decode cX7_follow 61 = .ok (.aload_n 1, 1) := by decide +kernel
theorem dX7_follow_62 : decode cX7_follow 62 = .ok (.iload 4, 2) := by decide +kernel
theorem dX7_follow_64 : decode cX7_follow 64 = .ok (.iload 6, 2) := by decide +kernel
theorem dX7_follow_66 : decode cX7_follow 66 = .ok (.invokevirtual 81, 3) := by decide +kernel
theorem dX7_follow_69 : decode cX7_follow 69 = .ok (.pop, 1) := by decide +kernel
theorem dX7_follow_70 : decode cX7_follow 70 = .ok (.iconst 1, 1) := by decide +kernel
theorem dX7_follow_71 : decode cX7_follow 71 = .ok (.ireturn, 1) := by decide +kernel
theorem dX7_follow_72 : decode cX7_follow 72 = .ok (.aload_n 0, 1) := by decide +kernel
theorem dX7_follow_73 : decode cX7_follow 73 = .ok (.iload 4, 2) := by decide +kernel
theorem dX7_follow_75 : decode cX7_follow 75 = .ok (.iload 6, 2) := by decide +kernel
theorem dX7_follow_77 : decode cX7_follow 77 = .ok (.invokevirtual 99, 3) := by decide +kernel
theorem dX7_follow_80 : decode cX7_follow 80 = .ok (.iconst 1, 1) := by decide +kernel
theorem dX7_follow_81 : decode cX7_follow 81 = .ok (.ireturn, 1) := by decide +kernel
theorem dX7_follow_82 : decode cX7_follow 82 = .ok (.aload_n 0, 1) := by decide +kernel
theorem dX7_follow_83 : decode cX7_follow 83 = .ok (.aload_n 1, 1) := by decide +kernel
theorem dX7_follow_84 : decode cX7_follow 84 = .ok (.iload 4, 2) := by decide +kernel
theorem dX7_follow_86 : decode cX7_follow 86 = .ok (.iload 5, 2) := by decide +kernel
theorem dX7_follow_88 : decode cX7_follow 88 = .ok (.invokevirtual 103, 3) := by decide +kernel
theorem dX7_follow_91 : decode cX7_follow 91 = .ok (.ifCond .ne 5, 3) := by decide +kernel
theorem dX7_follow_94 : decode cX7_follow 94 = .ok (.iconst 0, 1) := by decide +kernel
theorem dX7_follow_95 : decode cX7_follow 95 = .ok (.ireturn, 1) := by decide +kernel
theorem dX7_follow_96 : decode cX7_follow 96 = .ok (.aload_n 0, 1) := by decide +kernel
theorem dX7_follow_97 : decode cX7_follow 97 = .ok (.aload_n 1, 1) := by decide +kernel
theorem dX7_follow_98 : decode cX7_follow 98 = .ok (.iload 4, 2) := by decide +kernel
theorem dX7_follow_100 : decode cX7_follow 100 = .ok (.iload 5, 2) := by decide +kernel
theorem dX7_follow_102 : decode cX7_follow 102 = .ok (.invokevirtual 107, 3) := by decide +kernel
theorem dX7_follow_105 : decode cX7_follow 105 = .ok (.iconst 1, 1) := by decide +kernel
theorem dX7_follow_106 : decode cX7_follow 106 = .ok (.ireturn, 1) := by decide +kernel
theorem dX7_follow_107 : decode cX7_follow 107 = .ok (.aload_n 0, 1) := by decide +kernel
theorem dX7_follow_108 : decode cX7_follow 108 = .ok (.aload_n 1, 1) := by decide +kernel
theorem dX7_follow_109 : decode cX7_follow 109 = .ok (.iload 4, 2) := by decide +kernel
theorem dX7_follow_111 : decode cX7_follow 111 = .ok (.iload 5, 2) := by decide +kernel
theorem dX7_follow_113 : decode cX7_follow 113 = .ok (.iload 6, 2) := by decide +kernel
theorem dX7_follow_115 : decode cX7_follow 115 = .ok (.invokevirtual 111, 3) := by decide +kernel
theorem dX7_follow_118 : decode cX7_follow 118 = .ok (.ifCond .ne 5, 3) := by decide +kernel
theorem dX7_follow_121 : decode cX7_follow 121 = .ok (.iconst 0, 1) := by decide +kernel
theorem dX7_follow_122 : decode cX7_follow 122 = .ok (.ireturn, 1) := by decide +kernel
theorem dX7_follow_123 : decode cX7_follow 123 = .ok (.aload_n 0, 1) := by decide +kernel
theorem dX7_follow_124 : decode cX7_follow 124 = .ok (.iload 4, 2) := by decide +kernel
theorem dX7_follow_126 : decode cX7_follow 126 = .ok (.iload 5, 2) := by decide +kernel
theorem dX7_follow_128 : decode cX7_follow 128 = .ok (.iload 6, 2) := by decide +kernel
theorem dX7_follow_130 : decode cX7_follow 130 = .ok (.invokevirtual 115, 3) := by decide +kernel
theorem dX7_follow_133 : decode cX7_follow 133 = .ok (.iconst 1, 1) := by decide +kernel
theorem dX7_follow_134 : decode cX7_follow 134 = .ok (.ireturn, 1) := by decide +kernel
theorem dX7_follow_135 : decode cX7_follow 135 = .ok (.aload_n 0, 1) := by decide +kernel
theorem dX7_follow_136 : decode cX7_follow 136 = .ok (.aload_n 1, 1) := by decide +kernel
theorem dX7_follow_137 : decode cX7_follow 137 = .ok (.invokevirtual 119, 3) := by decide +kernel
theorem dX7_follow_140 : decode cX7_follow 140 = .ok (.pop, 1) := by decide +kernel
theorem dX7_follow_141 : decode cX7_follow 141 = .ok (.iconst 1, 1) := by decide +kernel
theorem dX7_follow_142 : decode cX7_follow 142 = .ok (.ireturn, 1) := by decide +kernel
theorem dX7_votesFor_0 : decode cX7_votesFor 0 = .ok (.iconst 0, 1) := by decide +kernel
theorem dX7_votesFor_1 : decode cX7_votesFor 1 = .ok (.istore_n 3, 1) := by decide +kernel
theorem dX7_votesFor_2 : decode cX7_votesFor 2 = .ok (.iconst 0, 1) := by decide +kernel
theorem dX7_votesFor_3 : decode cX7_votesFor 3 = .ok (.istore 4, 2) := by decide +kernel
theorem dX7_votesFor_5 : decode cX7_votesFor 5 = .ok (.iload 4, 2) := by decide +kernel
theorem dX7_votesFor_7 : decode cX7_votesFor 7 = .ok (.aload_n 1, 1) := by decide +kernel
theorem dX7_votesFor_8 : decode cX7_votesFor 8 = .ok (.getfield 123, 3) := by decide +kernel
theorem dX7_votesFor_11 : decode cX7_votesFor 11 = .ok (.if_icmp .ge 29, 3) := by decide +kernel
theorem dX7_votesFor_14 : decode cX7_votesFor 14 = .ok (.aload_n 1, 1) := by decide +kernel
theorem dX7_votesFor_15 : decode cX7_votesFor 15 = .ok (.iload 4, 2) := by decide +kernel
theorem dX7_votesFor_17 : decode cX7_votesFor 17 = .ok (.iload_n 2, 1) := by decide +kernel
theorem dX7_votesFor_18 : decode cX7_votesFor 18 = .ok (.invokevirtual 126, 3) := by decide +kernel
theorem dX7_votesFor_21 : decode cX7_votesFor 21 = .ok (.ifCond .eq 13, 3) := by decide +kernel
theorem dX7_votesFor_24 : decode cX7_votesFor 24 = .ok (.iload_n 3, 1) := by decide +kernel
theorem dX7_votesFor_25 : decode cX7_votesFor 25 = .ok (.aload_n 0, 1) := by decide +kernel
theorem dX7_votesFor_26 : decode cX7_votesFor 26 = .ok (.getfield 15, 3) := by decide +kernel
theorem dX7_votesFor_29 : decode cX7_votesFor 29 = .ok (.iload 4, 2) := by decide +kernel
theorem dX7_votesFor_31 : decode cX7_votesFor 31 = .ok (.iaload, 1) := by decide +kernel
theorem dX7_votesFor_32 : decode cX7_votesFor 32 = .ok (.iadd, 1) := by decide +kernel
theorem dX7_votesFor_33 : decode cX7_votesFor 33 = .ok (.istore_n 3, 1) := by decide +kernel
theorem dX7_votesFor_34 : decode cX7_votesFor 34 = .ok (.iinc 4 1, 3) := by decide +kernel
theorem dX7_votesFor_37 : decode cX7_votesFor 37 = .ok (.goto (-32), 3) := by decide +kernel
theorem dX7_votesFor_40 : decode cX7_votesFor 40 = .ok (.iload_n 3, 1) := by decide +kernel
theorem dX7_votesFor_41 : decode cX7_votesFor 41 = .ok (.ireturn, 1) := by decide +kernel
theorem dX7_allSeats_0 : decode cX7_allSeats 0 = .ok (.iconst 0, 1) := by decide +kernel
theorem dX7_allSeats_1 : decode cX7_allSeats 1 = .ok (.istore_n 1, 1) := by decide +kernel
theorem dX7_allSeats_2 : decode cX7_allSeats 2 = .ok (.iconst 0, 1) := by decide +kernel
theorem dX7_allSeats_3 : decode cX7_allSeats 3 = .ok (.istore_n 2, 1) := by decide +kernel
theorem dX7_allSeats_4 : decode cX7_allSeats 4 = .ok (.iload_n 2, 1) := by decide +kernel
theorem dX7_allSeats_5 : decode cX7_allSeats 5 = .ok (.aload_n 0, 1) := by decide +kernel
theorem dX7_allSeats_6 : decode cX7_allSeats 6 = .ok (.getfield 15, 3) := by decide +kernel
theorem dX7_allSeats_9 : decode cX7_allSeats 9 = .ok (.arraylength, 1) := by decide +kernel
theorem dX7_allSeats_10 : decode cX7_allSeats 10 = .ok (.if_icmp .ge 18, 3) := by decide +kernel
theorem dX7_allSeats_13 : decode cX7_allSeats 13 = .ok (.iload_n 1, 1) := by decide +kernel
theorem dX7_allSeats_14 : decode cX7_allSeats 14 = .ok (.aload_n 0, 1) := by decide +kernel
theorem dX7_allSeats_15 : decode cX7_allSeats 15 = .ok (.getfield 15, 3) := by decide +kernel
theorem dX7_allSeats_18 : decode cX7_allSeats 18 = .ok (.iload_n 2, 1) := by decide +kernel
theorem dX7_allSeats_19 : decode cX7_allSeats 19 = .ok (.iaload, 1) := by decide +kernel
theorem dX7_allSeats_20 : decode cX7_allSeats 20 = .ok (.iadd, 1) := by decide +kernel
theorem dX7_allSeats_21 : decode cX7_allSeats 21 = .ok (.istore_n 1, 1) := by decide +kernel
theorem dX7_allSeats_22 : decode cX7_allSeats 22 = .ok (.iinc 2 1, 3) := by decide +kernel
theorem dX7_allSeats_25 : decode cX7_allSeats 25 = .ok (.goto (-21), 3) := by decide +kernel
theorem dX7_allSeats_28 : decode cX7_allSeats 28 = .ok (.iload_n 1, 1) := by decide +kernel
theorem dX7_allSeats_29 : decode cX7_allSeats 29 = .ok (.ireturn, 1) := by decide +kernel
theorem dX7_allDone_0 : decode cX7_allDone 0 = .ok (.iconst 0, 1) := by decide +kernel
theorem dX7_allDone_1 : decode cX7_allDone 1 = .ok (.istore_n 1, 1) := by decide +kernel
theorem dX7_allDone_2 : decode cX7_allDone 2 = .ok (.iconst 0, 1) := by decide +kernel
theorem dX7_allDone_3 : decode cX7_allDone 3 = .ok (.istore_n 2, 1) := by decide +kernel
theorem dX7_allDone_4 : decode cX7_allDone 4 = .ok (.iload_n 2, 1) := by decide +kernel
theorem dX7_allDone_5 : decode cX7_allDone 5 = .ok (.aload_n 0, 1) := by decide +kernel
theorem dX7_allDone_6 : decode cX7_allDone 6 = .ok (.getfield 9, 3) := by decide +kernel
theorem dX7_allDone_9 : decode cX7_allDone 9 = .ok (.arraylength, 1) := by decide +kernel
theorem dX7_allDone_10 : decode cX7_allDone 10 = .ok (.if_icmp .ge 18, 3) := by decide +kernel
theorem dX7_allDone_13 : decode cX7_allDone 13 = .ok (.iload_n 1, 1) := by decide +kernel
theorem dX7_allDone_14 : decode cX7_allDone 14 = .ok (.aload_n 0, 1) := by decide +kernel
theorem dX7_allDone_15 : decode cX7_allDone 15 = .ok (.getfield 9, 3) := by decide +kernel
theorem dX7_allDone_18 : decode cX7_allDone 18 = .ok (.iload_n 2, 1) := by decide +kernel
theorem dX7_allDone_19 : decode cX7_allDone 19 = .ok (.iaload, 1) := by decide +kernel
theorem dX7_allDone_20 : decode cX7_allDone 20 = .ok (.iadd, 1) := by decide +kernel
theorem dX7_allDone_21 : decode cX7_allDone 21 = .ok (.istore_n 1, 1) := by decide +kernel
theorem dX7_allDone_22 : decode cX7_allDone 22 = .ok (.iinc 2 1, 3) := by decide +kernel
theorem dX7_allDone_25 : decode cX7_allDone 25 = .ok (.goto (-21), 3) := by decide +kernel
theorem dX7_allDone_28 : decode cX7_allDone 28 = .ok (.iload_n 1, 1) := by decide +kernel
theorem dX7_allDone_29 : decode cX7_allDone 29 = .ok (.ireturn, 1) := by decide +kernel
theorem dX7_halfDone_0 : decode cX7_halfDone 0 = .ok (.iconst 0, 1) := by decide +kernel
theorem dX7_halfDone_1 : decode cX7_halfDone 1 = .ok (.istore_n 2, 1) := by decide +kernel
theorem dX7_halfDone_2 : decode cX7_halfDone 2 = .ok (.iconst 0, 1) := by decide +kernel
theorem dX7_halfDone_3 : decode cX7_halfDone 3 = .ok (.istore_n 3, 1) := by decide +kernel
theorem dX7_halfDone_4 : decode cX7_halfDone 4 = .ok (.iload_n 3, 1) := by decide +kernel
theorem dX7_halfDone_5 : decode cX7_halfDone 5 = .ok (.aload_n 1, 1) := by decide +kernel
theorem dX7_halfDone_6 : decode cX7_halfDone 6 = .ok (.getfield 67, 3) := by decide +kernel
theorem dX7_halfDone_9 : decode cX7_halfDone 9 = .ok (.if_icmp .ge 24, 3) := by decide +kernel
theorem dX7_halfDone_12 : decode cX7_halfDone 12 = .ok (.aload_n 0, 1) := by decide +kernel
theorem dX7_halfDone_13 : decode cX7_halfDone 13 = .ok (.aload_n 1, 1) := by decide +kernel
theorem dX7_halfDone_14 : decode cX7_halfDone 14 = .ok (.iload_n 3, 1) := by decide +kernel
theorem dX7_halfDone_15 : decode cX7_halfDone 15 = .ok (.invokevirtual 63, 3) := by decide +kernel
theorem dX7_halfDone_18 : decode cX7_halfDone 18 = .ok (.ifCond .eq 9, 3) := by decide +kernel
theorem dX7_halfDone_21 : decode cX7_halfDone 21 = .ok (.iload_n 2, 1) := by decide +kernel
theorem dX7_halfDone_22 : decode cX7_halfDone 22 = .ok (.iconst 1, 1) := by decide +kernel
theorem dX7_halfDone_23 : decode cX7_halfDone 23 = .ok (.iload_n 3, 1) := by decide +kernel
theorem dX7_halfDone_24 : decode cX7_halfDone 24 = .ok (.ishl, 1) := by decide +kernel
theorem dX7_halfDone_25 : decode cX7_halfDone 25 = .ok (.ior, 1) := by decide +kernel
theorem dX7_halfDone_26 : decode cX7_halfDone 26 = .ok (.istore_n 2, 1) := by decide +kernel
theorem dX7_halfDone_27 : decode cX7_halfDone 27 = .ok (.iinc 3 1, 3) := by decide +kernel
theorem dX7_halfDone_30 : decode cX7_halfDone 30 = .ok (.goto (-26), 3) := by decide +kernel
theorem dX7_halfDone_33 : decode cX7_halfDone 33 = .ok (.iload_n 2, 1) := by decide +kernel
theorem dX7_halfDone_34 : decode cX7_halfDone 34 = .ok (.ireturn, 1) := by decide +kernel
theorem dX7_lackOf_0 : decode cX7_lackOf 0 = .ok (.iconst 0, 1) := by decide +kernel
theorem dX7_lackOf_1 : decode cX7_lackOf 1 = .ok (.istore_n 3, 1) := by decide +kernel
theorem dX7_lackOf_2 : decode cX7_lackOf 2 = .ok (.iconst 0, 1) := by decide +kernel
theorem dX7_lackOf_3 : decode cX7_lackOf 3 = .ok (.istore 4, 2) := by decide +kernel
theorem dX7_lackOf_5 : decode cX7_lackOf 5 = .ok (.iload 4, 2) := by decide +kernel
theorem dX7_lackOf_7 : decode cX7_lackOf 7 = .ok (.aload_n 1, 1) := by decide +kernel
theorem dX7_lackOf_8 : decode cX7_lackOf 8 = .ok (.getfield 67, 3) := by decide +kernel
theorem dX7_lackOf_11 : decode cX7_lackOf 11 = .ok (.if_icmp .ge 36, 3) := by decide +kernel
theorem dX7_lackOf_14 : decode cX7_lackOf 14 = .ok (.iload_n 2, 1) := by decide +kernel
theorem dX7_lackOf_15 : decode cX7_lackOf 15 = .ok (.iload 4, 2) := by decide +kernel
theorem dX7_lackOf_17 : decode cX7_lackOf 17 = .ok (.ishr, 1) := by decide +kernel
theorem dX7_lackOf_18 : decode cX7_lackOf 18 = .ok (.iconst 1, 1) := by decide +kernel
theorem dX7_lackOf_19 : decode cX7_lackOf 19 = .ok (.iand, 1) := by decide +kernel
theorem dX7_lackOf_20 : decode cX7_lackOf 20 = .ok (.iconst 1, 1) := by decide +kernel
theorem dX7_lackOf_21 : decode cX7_lackOf 21 = .ok (.if_icmp .ne 20, 3) := by decide +kernel
theorem dX7_lackOf_24 : decode cX7_lackOf 24 = .ok (.iload_n 3, 1) := by decide +kernel
theorem dX7_lackOf_25 : decode cX7_lackOf 25 = .ok (.aload_n 1, 1) := by decide +kernel
theorem dX7_lackOf_26 : decode cX7_lackOf 26 = .ok (.iload 4, 2) := by decide +kernel
theorem dX7_lackOf_28 : decode cX7_lackOf 28 = .ok (.invokevirtual 43, 3) := by decide +kernel
theorem dX7_lackOf_31 : decode cX7_lackOf 31 = .ok (.aload_n 0, 1) := by decide +kernel
theorem dX7_lackOf_32 : decode cX7_lackOf 32 = .ok (.getfield 9, 3) := by decide +kernel
theorem dX7_lackOf_35 : decode cX7_lackOf 35 = .ok (.iload 4, 2) := by decide +kernel
theorem dX7_lackOf_37 : decode cX7_lackOf 37 = .ok (.iaload, 1) := by decide +kernel
theorem dX7_lackOf_38 : decode cX7_lackOf 38 = .ok (.isub, 1) := by decide +kernel
theorem dX7_lackOf_39 : decode cX7_lackOf 39 = .ok (.iadd, 1) := by decide +kernel
theorem dX7_lackOf_40 : decode cX7_lackOf 40 = .ok (.istore_n 3, 1) := by decide +kernel
theorem dX7_lackOf_41 : decode cX7_lackOf 41 = .ok (.iinc 4 1, 3) := by decide +kernel
theorem dX7_lackOf_44 : decode cX7_lackOf 44 = .ok (.goto (-39), 3) := by decide +kernel
theorem dX7_lackOf_47 : decode cX7_lackOf 47 = .ok (.iload_n 3, 1) := by decide +kernel
theorem dX7_lackOf_48 : decode cX7_lackOf 48 = .ok (.ireturn, 1) := by decide +kernel
theorem dX7_wouldHalve_0 : decode cX7_wouldHalve 0 = .ok (.aload_n 0, 1) := by decide +kernel
theorem dX7_wouldHalve_1 : decode cX7_wouldHalve 1 = .ok (.aload_n 1, 1) := by decide +kernel
theorem dX7_wouldHalve_2 : decode cX7_wouldHalve 2 = .ok (.iload_n 3, 1) := by decide +kernel
theorem dX7_wouldHalve_3 : decode cX7_wouldHalve 3 = .ok (.iload 4, 2) := by decide +kernel
theorem dX7_wouldHalve_5 : decode cX7_wouldHalve 5 = .ok (.iload 5, 2) := by decide +kernel
theorem dX7_wouldHalve_7 : decode cX7_wouldHalve 7 = .ok (.invokevirtual 111, 3) := by decide +kernel
theorem dX7_wouldHalve_10 : decode cX7_wouldHalve 10 = .ok (.ifCond .ne 5, 3) := by decide +kernel
theorem dX7_wouldHalve_13 : decode cX7_wouldHalve 13 = .ok (.iconst 0, 1) := by decide +kernel
theorem dX7_wouldHalve_14 : decode cX7_wouldHalve 14 = .ok (.ireturn, 1) := by decide +kernel
theorem dX7_wouldHalve_15 : decode cX7_wouldHalve 15 = .ok (.aload_n 0, 1) := by decide +kernel
theorem dX7_wouldHalve_16 : decode cX7_wouldHalve 16 = .ok (.aload_n 1, 1) := by decide +kernel
theorem dX7_wouldHalve_17 : decode cX7_wouldHalve 17 = .ok (.iload_n 2, 1) := by decide +kernel
theorem dX7_wouldHalve_18 : decode cX7_wouldHalve 18 = .ok (.invokevirtual 70, 3) := by decide +kernel
theorem dX7_wouldHalve_21 : decode cX7_wouldHalve 21 = .ok (.istore 6, 2) := by decide +kernel
theorem dX7_wouldHalve_23 : decode cX7_wouldHalve 23 = .ok (.aload_n 1, 1) := by decide +kernel
theorem dX7_wouldHalve_24 : decode cX7_wouldHalve 24 = .ok (.iload_n 3, 1) := by decide +kernel
theorem dX7_wouldHalve_25 : decode cX7_wouldHalve 25 = .ok (.iload_n 2, 1) := by decide +kernel
theorem dX7_wouldHalve_26 : decode cX7_wouldHalve 26 = .ok (.invokevirtual 126, 3) := by decide +kernel
theorem dX7_wouldHalve_29 : decode cX7_wouldHalve 29 = .ok (.ifCond .eq 10, 3) := by decide +kernel
theorem dX7_wouldHalve_32 : decode cX7_wouldHalve 32 = .ok (.iload 6, 2) := by decide +kernel
theorem dX7_wouldHalve_34 : decode cX7_wouldHalve 34 = .ok (.iload 5, 2) := by decide +kernel
theorem dX7_wouldHalve_36 : decode cX7_wouldHalve 36 = .ok (.isub, 1) := by decide +kernel
theorem dX7_wouldHalve_37 : decode cX7_wouldHalve 37 = .ok (.istore 6, 2) := by decide +kernel
theorem dX7_wouldHalve_39 : decode cX7_wouldHalve 39 = .ok (.aload_n 1, 1) := by decide +kernel
theorem dX7_wouldHalve_40 : decode cX7_wouldHalve 40 = .ok (.iload 4, 2) := by decide +kernel
theorem dX7_wouldHalve_42 : decode cX7_wouldHalve 42 = .ok (.iload_n 2, 1) := by decide +kernel
theorem dX7_wouldHalve_43 : decode cX7_wouldHalve 43 = .ok (.invokevirtual 126, 3) := by decide +kernel
theorem dX7_wouldHalve_46 : decode cX7_wouldHalve 46 = .ok (.ifCond .eq 10, 3) := by decide +kernel
theorem dX7_wouldHalve_49 : decode cX7_wouldHalve 49 = .ok (.iload 6, 2) := by decide +kernel
theorem dX7_wouldHalve_51 : decode cX7_wouldHalve 51 = .ok (.iload 5, 2) := by decide +kernel
theorem dX7_wouldHalve_53 : decode cX7_wouldHalve 53 = .ok (.iadd, 1) := by decide +kernel
theorem dX7_wouldHalve_54 : decode cX7_wouldHalve 54 = .ok (.istore 6, 2) := by decide +kernel
theorem dX7_wouldHalve_56 : decode cX7_wouldHalve 56 = .ok (.iload 6, 2) := by decide +kernel
theorem dX7_wouldHalve_58 : decode cX7_wouldHalve 58 = .ok (.aload_n 0, 1) := by decide +kernel
theorem dX7_wouldHalve_59 : decode cX7_wouldHalve 59 = .ok (.invokevirtual 129, 3) := by decide +kernel
theorem dX7_wouldHalve_62 : decode cX7_wouldHalve 62 = .ok (.invokestatic 133, 3) := by decide +kernel
theorem dX7_wouldHalve_65 : decode cX7_wouldHalve 65 = .ok (.iconst 1, 1) := by decide +kernel
theorem dX7_wouldHalve_66 : decode cX7_wouldHalve 66 = .ok (.if_icmp .ne 7, 3) := by decide +kernel
theorem dX7_wouldHalve_69 : decode cX7_wouldHalve 69 = .ok (.iconst 1, 1) := by decide +kernel
theorem dX7_wouldHalve_70 : decode cX7_wouldHalve 70 = .ok (.goto 4, 3) := by decide +kernel
theorem dX7_wouldHalve_73 : decode cX7_wouldHalve 73 = .ok (.iconst 0, 1) := by decide +kernel
theorem dX7_wouldHalve_74 : decode cX7_wouldHalve 74 = .ok (.ireturn, 1) := by decide +kernel
theorem dX8_init_0 : decode cX8_init 0 = .ok (.aload_n 0, 1) := by decide +kernel
theorem dX8_init_1 : decode cX8_init 1 = .ok (.invokespecial 3, 3) := by decide +kernel
theorem dX8_init_4 : decode cX8_init 4 = .ok (.aload_n 0, 1) := by decide +kernel
theorem dX8_init_5 : decode cX8_init 5 = .ok (.bipush 40, 2) := by decide +kernel
theorem dX8_init_7 : decode cX8_init 7 = .ok (.newarray .int, 2) := by decide +kernel
theorem dX8_init_9 : decode cX8_init 9 = .ok (.putfield 9, 3) := by decide +kernel
theorem dX8_init_12 : decode cX8_init 12 = .ok (.aload_n 0, 1) := by decide +kernel
theorem dX8_init_13 : decode cX8_init 13 = .ok (.bipush 40, 2) := by decide +kernel
theorem dX8_init_15 : decode cX8_init 15 = .ok (.newarray .int, 2) := by decide +kernel
theorem dX8_init_17 : decode cX8_init 17 = .ok (.putfield 15, 3) := by decide +kernel
theorem dX8_init_20 : decode cX8_init 20 = .ok (.aload_n 0, 1) := by decide +kernel
theorem dX8_init_21 : decode cX8_init 21 = .ok (.bipush 40, 2) := by decide +kernel
theorem dX8_init_23 : decode cX8_init 23 = .ok (.newarray .int, 2) := by decide +kernel
theorem dX8_init_25 : decode cX8_init 25 = .ok (.putfield 18, 3) := by decide +kernel
theorem dX8_init_28 : decode cX8_init 28 = .ok (.aload_n 0, 1) := by decide +kernel
theorem dX8_init_29 : decode cX8_init 29 = .ok (.bipush 40, 2) := by decide +kernel
theorem dX8_init_31 : decode cX8_init 31 = .ok (.newarray .int, 2) := by decide +kernel
theorem dX8_init_33 : decode cX8_init 33 = .ok (.putfield 21, 3) := by decide +kernel
theorem dX8_init_36 : decode cX8_init 36 = .ok (.return_, 1) := by decide +kernel
theorem dX8_put_0 : decode cX8_put 0 = .ok (.aload_n 0, 1) := by decide +kernel
theorem dX8_put_1 : decode cX8_put 1 = .ok (.getfield 24, 3) := by decide +kernel
theorem dX8_put_4 : decode cX8_put 4 = .ok (.ifCond .lt 63, 3) := by decide +kernel
theorem dX8_put_7 : decode cX8_put 7 = .ok (.aload_n 0, 1) := by decide +kernel
theorem dX8_put_8 : decode cX8_put 8 = .ok (.getfield 24, 3) := by decide +kernel
theorem dX8_put_11 : decode cX8_put 11 = .ok (.bipush 40, 2) := by decide +kernel
theorem dX8_put_13 : decode cX8_put 13 = .ok (.if_icmp .ge 54, 3) := by decide +kernel
theorem dX8_put_16 : decode cX8_put 16 = .ok (.aload_n 0, 1) := by decide +kernel
theorem dX8_put_17 : decode cX8_put 17 = .ok (.getfield 9, 3) := by decide +kernel
theorem dX8_put_20 : decode cX8_put 20 = .ok (.aload_n 0, 1) := by decide +kernel
theorem dX8_put_21 : decode cX8_put 21 = .ok (.getfield 24, 3) := by decide +kernel
theorem dX8_put_24 : decode cX8_put 24 = .ok (.iload_n 1, 1) := by decide +kernel
theorem dX8_put_25 : decode cX8_put 25 = .ok (.iastore, 1) := by decide +kernel
theorem dX8_put_26 : decode cX8_put 26 = .ok (.aload_n 0, 1) := by decide +kernel
theorem dX8_put_27 : decode cX8_put 27 = .ok (.getfield 15, 3) := by decide +kernel
theorem dX8_put_30 : decode cX8_put 30 = .ok (.aload_n 0, 1) := by decide +kernel
theorem dX8_put_31 : decode cX8_put 31 = .ok (.getfield 24, 3) := by decide +kernel
theorem dX8_put_34 : decode cX8_put 34 = .ok (.iload_n 2, 1) := by decide +kernel
theorem dX8_put_35 : decode cX8_put 35 = .ok (.iastore, 1) := by decide +kernel
theorem dX8_put_36 : decode cX8_put 36 = .ok (.aload_n 0, 1) := by decide +kernel
theorem dX8_put_37 : decode cX8_put 37 = .ok (.getfield 18, 3) := by decide +kernel
theorem dX8_put_40 : decode cX8_put 40 = .ok (.aload_n 0, 1) := by decide +kernel
theorem dX8_put_41 : decode cX8_put 41 = .ok (.getfield 24, 3) := by decide +kernel
theorem dX8_put_44 : decode cX8_put 44 = .ok (.iload_n 3, 1) := by decide +kernel
theorem dX8_put_45 : decode cX8_put 45 = .ok (.iastore, 1) := by decide +kernel
theorem dX8_put_46 : decode cX8_put 46 = .ok (.aload_n 0, 1) := by decide +kernel
theorem dX8_put_47 : decode cX8_put 47 = .ok (.getfield 21, 3) := by decide +kernel
theorem dX8_put_50 : decode cX8_put 50 = .ok (.aload_n 0, 1) := by decide +kernel
theorem dX8_put_51 : decode cX8_put 51 = .ok (.getfield 24, 3) := by decide +kernel
theorem dX8_put_54 : decode cX8_put 54 = .ok (.iload 4, 2) := by decide +kernel
theorem dX8_put_56 : decode cX8_put 56 = .ok (.iastore, 1) := by decide +kernel
theorem dX8_put_57 : decode cX8_put 57 = .ok (.aload_n 0, 1) := by decide +kernel
theorem dX8_put_58 : decode cX8_put 58 = .ok (.dup, 1) := by decide +kernel
theorem dX8_put_59 : decode cX8_put 59 = .ok (.getfield 24, 3) := by decide +kernel
theorem dX8_put_62 : decode cX8_put 62 = .ok (.iconst 1, 1) := by decide +kernel
theorem dX8_put_63 : decode cX8_put 63 = .ok (.iadd, 1) := by decide +kernel
theorem dX8_put_64 : decode cX8_put 64 = .ok (.putfield 24, 3) := by decide +kernel
theorem dX8_put_67 : decode cX8_put 67 = .ok (.return_, 1) := by decide +kernel
theorem dX8_copyOf_0 : decode cX8_copyOf 0 = .ok (.aload_n 0, 1) := by decide +kernel
theorem dX8_copyOf_1 : decode cX8_copyOf 1 = .ok (.iconst 0, 1) := by decide +kernel
theorem dX8_copyOf_2 : decode cX8_copyOf 2 = .ok (.putfield 24, 3) := by decide +kernel
theorem dX8_copyOf_5 : decode cX8_copyOf 5 = .ok (.iconst 0, 1) := by decide +kernel
theorem dX8_copyOf_6 : decode cX8_copyOf 6 = .ok (.istore_n 2, 1) := by decide +kernel
theorem dX8_copyOf_7 : decode cX8_copyOf 7 = .ok (.iload_n 2, 1) := by decide +kernel
theorem dX8_copyOf_8 : decode cX8_copyOf 8 = .ok (.aload_n 1, 1) := by decide +kernel
theorem dX8_copyOf_9 : decode cX8_copyOf 9 = .ok (.getfield 24, 3) := by decide +kernel
theorem dX8_copyOf_12 : decode cX8_copyOf 12 = .ok (.if_icmp .ge 37, 3) := by decide +kernel
theorem dX8_copyOf_15 : decode cX8_copyOf 15 = .ok (.aload_n 0, 1) := by decide +kernel
theorem dX8_copyOf_16 : decode cX8_copyOf 16 = .ok (.aload_n 1, 1) := by decide +kernel
theorem dX8_copyOf_17 : decode cX8_copyOf 17 = .ok (.getfield 9, 3) := by decide +kernel
theorem dX8_copyOf_20 : decode cX8_copyOf 20 = .ok (.iload_n 2, 1) := by decide +kernel
theorem dX8_copyOf_21 : decode cX8_copyOf 21 = .ok (.iaload, 1) := by decide +kernel
theorem dX8_copyOf_22 : decode cX8_copyOf 22 = .ok (.aload_n 1, 1) := by decide +kernel
theorem dX8_copyOf_23 : decode cX8_copyOf 23 = .ok (.getfield 15, 3) := by decide +kernel
theorem dX8_copyOf_26 : decode cX8_copyOf 26 = .ok (.iload_n 2, 1) := by decide +kernel
theorem dX8_copyOf_27 : decode cX8_copyOf 27 = .ok (.iaload, 1) := by decide +kernel
theorem dX8_copyOf_28 : decode cX8_copyOf 28 = .ok (.aload_n 1, 1) := by decide +kernel
theorem dX8_copyOf_29 : decode cX8_copyOf 29 = .ok (.getfield 18, 3) := by decide +kernel
theorem dX8_copyOf_32 : decode cX8_copyOf 32 = .ok (.iload_n 2, 1) := by decide +kernel
theorem dX8_copyOf_33 : decode cX8_copyOf 33 = .ok (.iaload, 1) := by decide +kernel
theorem dX8_copyOf_34 : decode cX8_copyOf 34 = .ok (.aload_n 1, 1) := by decide +kernel
theorem dX8_copyOf_35 : decode cX8_copyOf 35 = .ok (.getfield 21, 3) := by decide +kernel
theorem dX8_copyOf_38 : decode cX8_copyOf 38 = .ok (.iload_n 2, 1) := by decide +kernel
theorem dX8_copyOf_39 : decode cX8_copyOf 39 = .ok (.iaload, 1) := by decide +kernel
theorem dX8_copyOf_40 : decode cX8_copyOf 40 = .ok (.invokevirtual 28, 3) := by decide +kernel
theorem dX8_copyOf_43 : decode cX8_copyOf 43 = .ok (.iinc 2 1, 3) := by decide +kernel
theorem dX8_copyOf_46 : decode cX8_copyOf 46 = .ok (.goto (-39), 3) := by decide +kernel
theorem dX8_copyOf_49 : decode cX8_copyOf 49 = .ok (.return_, 1) := by decide +kernel
theorem dX9_init_0 : decode cX9_init 0 = .ok (.aload_n 0, 1) := by decide +kernel
theorem dX9_init_1 : decode cX9_init 1 = .ok (.invokespecial 3, 3) := by decide +kernel
theorem dX9_init_4 : decode cX9_init 4 = .ok (.aload_n 0, 1) := by decide +kernel
theorem dX9_init_5 : decode cX9_init 5 = .ok (.sipush 1000, 3) := by decide +kernel
theorem dX9_init_8 : decode cX9_init 8 = .ok (.newarray .char, 2) := by decide +kernel
theorem dX9_init_10 : decode cX9_init 10 = .ok (.putfield 9, 3) := by decide +kernel
theorem dX9_init_13 : decode cX9_init 13 = .ok (.return_, 1) := by decide +kernel
theorem dX9_putBytes_0 : decode cX9_putBytes 0 = .ok (.bipush 56, 2) := by decide +kernel
theorem dX9_putBytes_2 : decode cX9_putBytes 2 = .ok (.istore_n 3, 1) := by decide +kernel
theorem dX9_putBytes_3 : decode cX9_putBytes 3 = .ok (.iload_n 3, 1) := by decide +kernel
theorem dX9_putBytes_4 : decode cX9_putBytes 4 = .ok (.ifCond .lt 22, 3) := by decide +kernel
theorem dX9_putBytes_7 : decode cX9_putBytes 7 = .ok (.aload_n 0, 1) := by decide +kernel
theorem dX9_putBytes_8 : decode cX9_putBytes 8 = .ok (.lload_n 1, 1) := by decide +kernel
theorem dX9_putBytes_9 : decode cX9_putBytes 9 = .ok (.iload_n 3, 1) := by decide +kernel
theorem dX9_putBytes_10 : decode cX9_putBytes 10 = .ok (.lushr, 1) := by decide +kernel
theorem dX9_putBytes_11 : decode cX9_putBytes 11 = .ok (.ldc2_w 15, 3) := by decide +kernel
theorem dX9_putBytes_14 : decode cX9_putBytes 14 = .ok (.land, 1) := by decide +kernel
theorem dX9_putBytes_15 : decode cX9_putBytes 15 = .ok (.l2i, 1) := by decide +kernel
theorem dX9_putBytes_16 : decode cX9_putBytes 16 = .ok (.i2c, 1) := by decide +kernel
theorem dX9_putBytes_17 : decode cX9_putBytes 17 = .ok (.invokevirtual 17, 3) := by decide +kernel
theorem dX9_putBytes_20 : decode cX9_putBytes 20 = .ok (.iinc 3 (-8), 3) := by decide +kernel
theorem dX9_putBytes_23 : decode cX9_putBytes 23 = .ok (.goto (-20), 3) := by decide +kernel
theorem dX9_putBytes_26 : decode cX9_putBytes 26 = .ok (.return_, 1) := by decide +kernel
theorem dX9_putSign_0 : decode cX9_putSign 0 = .ok (.iload_n 1, 1) := by decide +kernel
theorem dX9_putSign_1 : decode cX9_putSign 1 = .ok (.bipush 10, 2) := by decide +kernel
theorem dX9_putSign_3 : decode cX9_putSign 3 = .ok (.if_icmp .eq 15, 3) := by decide +kernel
theorem dX9_putSign_6 : decode cX9_putSign 6 = .ok (.iload_n 1, 1) := by decide +kernel
theorem dX9_putSign_7 : decode cX9_putSign 7 = .ok (.bipush 32, 2) := by decide +kernel
theorem dX9_putSign_9 : decode cX9_putSign 9 = .ok (.if_icmp .lt 13, 3) := by decide +kernel
theorem dX9_putSign_12 : decode cX9_putSign 12 = .ok (.iload_n 1, 1) := by decide +kernel
theorem dX9_putSign_13 : decode cX9_putSign 13 = .ok (.bipush 126, 2) := by decide +kernel
theorem dX9_putSign_15 : decode cX9_putSign 15 = .ok (.if_icmp .gt 7, 3) := by decide +kernel
theorem dX9_putSign_18 : decode cX9_putSign 18 = .ok (.iconst 1, 1) := by decide +kernel
theorem dX9_putSign_19 : decode cX9_putSign 19 = .ok (.goto 4, 3) := by decide +kernel
theorem dX9_putSign_22 : decode cX9_putSign 22 = .ok (.iconst 0, 1) := by decide +kernel
theorem dX9_putSign_23 : decode cX9_putSign 23 = .ok (.istore_n 2, 1) := by decide +kernel
theorem dX9_putSign_24 : decode cX9_putSign 24 = .ok (.iload_n 2, 1) := by decide +kernel
theorem dX9_putSign_25 : decode cX9_putSign 25 = .ok (.ifCond .eq 42, 3) := by decide +kernel
theorem dX9_putSign_28 : decode cX9_putSign 28 = .ok (.aload_n 0, 1) := by decide +kernel
theorem dX9_putSign_29 : decode cX9_putSign 29 = .ok (.getfield 21, 3) := by decide +kernel
theorem dX9_putSign_32 : decode cX9_putSign 32 = .ok (.ifCond .lt 35, 3) := by decide +kernel
theorem dX9_putSign_35 : decode cX9_putSign 35 = .ok (.aload_n 0, 1) := by decide +kernel
theorem dX9_putSign_36 : decode cX9_putSign 36 = .ok (.getfield 21, 3) := by decide +kernel
theorem dX9_putSign_39 : decode cX9_putSign 39 = .ok (.aload_n 0, 1) := by decide +kernel
theorem dX9_putSign_40 : decode cX9_putSign 40 = .ok (.getfield 9, 3) := by decide +kernel
theorem dX9_putSign_43 : decode cX9_putSign 43 = .ok (.arraylength, 1) := by decide +kernel
theorem dX9_putSign_44 : decode cX9_putSign 44 = .ok (.if_icmp .ge 23, 3) := by decide +kernel
theorem dX9_putSign_47 : decode cX9_putSign 47 = .ok (.aload_n 0, 1) := by decide +kernel
theorem dX9_putSign_48 : decode cX9_putSign 48 = .ok (.getfield 9, 3) := by decide +kernel
theorem dX9_putSign_51 : decode cX9_putSign 51 = .ok (.aload_n 0, 1) := by decide +kernel
theorem dX9_putSign_52 : decode cX9_putSign 52 = .ok (.getfield 21, 3) := by decide +kernel
theorem dX9_putSign_55 : decode cX9_putSign 55 = .ok (.iload_n 1, 1) := by decide +kernel
theorem dX9_putSign_56 : decode cX9_putSign 56 = .ok (.castore, 1) := by decide +kernel
theorem dX9_putSign_57 : decode cX9_putSign 57 = .ok (.aload_n 0, 1) := by decide +kernel
theorem dX9_putSign_58 : decode cX9_putSign 58 = .ok (.dup, 1) := by decide +kernel
theorem dX9_putSign_59 : decode cX9_putSign 59 = .ok (.getfield 21, 3) := by decide +kernel
theorem dX9_putSign_62 : decode cX9_putSign 62 = .ok (.iconst 1, 1) := by decide +kernel
theorem dX9_putSign_63 : decode cX9_putSign 63 = .ok (.iadd, 1) := by decide +kernel
theorem dX9_putSign_64 : decode cX9_putSign 64 = .ok (.putfield 21, 3) := by decide +kernel
theorem dX9_putSign_67 : decode cX9_putSign 67 = .ok (.return_, 1) := by decide +kernel
theorem dX9_begin_0 : decode cX9_begin 0 = .ok (.aload_n 0, 1) := by decide +kernel
theorem dX9_begin_1 : decode cX9_begin 1 = .ok (.iconst 0, 1) := by decide +kernel
theorem dX9_begin_2 : decode cX9_begin 2 = .ok (.putfield 25, 3) := by decide +kernel
theorem dX9_begin_5 : decode cX9_begin 5 = .ok (.aload_n 0, 1) := by decide +kernel
theorem dX9_begin_6 : decode cX9_begin 6 = .ok (.iconst 0, 1) := by decide +kernel
theorem dX9_begin_7 : decode cX9_begin 7 = .ok (.putfield 28, 3) := by decide +kernel
theorem dX9_begin_10 : decode cX9_begin 10 = .ok (.aload_n 0, 1) := by decide +kernel
theorem dX9_begin_11 : decode cX9_begin 11 = .ok (.invokevirtual 31, 3) := by decide +kernel
theorem dX9_begin_14 : decode cX9_begin 14 = .ok (.return_, 1) := by decide +kernel
theorem dX9_clear_0 : decode cX9_clear 0 = .ok (.aload_n 0, 1) := by decide +kernel
theorem dX9_clear_1 : decode cX9_clear 1 = .ok (.iconst 0, 1) := by decide +kernel
theorem dX9_clear_2 : decode cX9_clear 2 = .ok (.putfield 21, 3) := by decide +kernel
theorem dX9_clear_5 : decode cX9_clear 5 = .ok (.return_, 1) := by decide +kernel
theorem dX9_advance_0 : decode cX9_advance 0 = .ok (.aload_n 0, 1) := by decide +kernel
theorem dX9_advance_1 : decode cX9_advance 1 = .ok (.aload_n 0, 1) := by decide +kernel
theorem dX9_advance_2 : decode cX9_advance 2 = .ok (.getfield 28, 3) := by decide +kernel
theorem dX9_advance_5 : decode cX9_advance 5 = .ok (.putfield 34, 3) := by decide +kernel
theorem dX9_advance_8 : decode cX9_advance 8 = .ok (.aload_n 0, 1) := by decide +kernel
theorem dX9_advance_9 : decode cX9_advance 9 = .ok (.getfield 34, 3) := by decide +kernel
theorem dX9_advance_12 : decode cX9_advance 12 = .ok (.aload_n 0, 1) := by decide +kernel
theorem dX9_advance_13 : decode cX9_advance 13 = .ok (.getfield 21, 3) := by decide +kernel
theorem dX9_advance_16 : decode cX9_advance 16 = .ok (.if_icmp .ge 31, 3) := by decide +kernel
theorem dX9_advance_19 : decode cX9_advance 19 = .ok (.aload_n 0, 1) := by decide +kernel
theorem dX9_advance_20 : decode cX9_advance 20 = .ok (.getfield 9, 3) := by decide +kernel
theorem dX9_advance_23 : decode cX9_advance 23 = .ok (.aload_n 0, 1) := by decide +kernel
theorem dX9_advance_24 : decode cX9_advance 24 = .ok (.getfield 34, 3) := by decide +kernel
theorem dX9_advance_27 : decode cX9_advance 27 = .ok (.caload, 1) := by decide +kernel
theorem dX9_advance_28 : decode cX9_advance 28 = .ok (.invokestatic 37, 3) := by decide +kernel
theorem dX9_advance_31 : decode cX9_advance 31 = .ok (.ifCond .eq 16, 3) := by decide +kernel
theorem dX9_advance_34 : decode cX9_advance 34 = .ok (.aload_n 0, 1) := by decide +kernel
theorem dX9_advance_35 : decode cX9_advance 35 = .ok (.dup, 1) := by decide +kernel
theorem dX9_advance_36 : decode cX9_advance 36 = .ok (.getfield 34, 3) := by decide +kernel
theorem dX9_advance_39 : decode cX9_advance 39 = .ok (.iconst 1, 1) := by decide +kernel
theorem dX9_advance_40 : decode cX9_advance 40 = .ok (.iadd, 1) := by decide +kernel
theorem dX9_advance_41 : decode cX9_advance 41 = .ok (.putfield 34, 3) := by decide +kernel
theorem dX9_advance_44 : decode cX9_advance 44 = .ok (.goto (-36), 3) := by decide +kernel
theorem dX9_advance_47 : decode cX9_advance 47 = .ok (.aload_n 0, 1) := by decide +kernel
theorem dX9_advance_48 : decode cX9_advance 48 = .ok (.aload_n 0, 1) := by decide +kernel
theorem dX9_advance_49 : decode cX9_advance 49 = .ok (.getfield 34, 3) := by decide +kernel
theorem dX9_advance_52 : decode cX9_advance 52 = .ok (.iconst 1, 1) := by decide +kernel
theorem dX9_advance_53 : decode cX9_advance 53 = .ok (.iadd, 1) := by decide +kernel
theorem dX9_advance_54 : decode cX9_advance 54 = .ok (.putfield 28, 3) := by decide +kernel
theorem dX9_advance_57 : decode cX9_advance 57 = .ok (.aload_n 0, 1) := by decide +kernel
theorem dX9_advance_58 : decode cX9_advance 58 = .ok (.getfield 34, 3) := by decide +kernel
theorem dX9_advance_61 : decode cX9_advance 61 = .ok (.aload_n 0, 1) := by decide +kernel
theorem dX9_advance_62 : decode cX9_advance 62 = .ok (.getfield 21, 3) := by decide +kernel
theorem dX9_advance_65 : decode cX9_advance 65 = .ok (.if_icmp .lt 19, 3) := by decide +kernel
theorem dX9_advance_68 : decode cX9_advance 68 = .ok (.aload_n 0, 1) := by decide +kernel
theorem dX9_advance_69 : decode cX9_advance 69 = .ok (.aload_n 0, 1) := by decide +kernel
theorem dX9_advance_70 : decode cX9_advance 70 = .ok (.getfield 34, 3) := by decide +kernel
theorem dX9_advance_73 : decode cX9_advance 73 = .ok (.putfield 28, 3) := by decide +kernel
theorem dX9_advance_76 : decode cX9_advance 76 = .ok (.aload_n 0, 1) := by decide +kernel
theorem dX9_advance_77 : decode cX9_advance 77 = .ok (.iconst 1, 1) := by decide +kernel
theorem dX9_advance_78 : decode cX9_advance 78 = .ok (.putfield 41, 3) := by decide +kernel
theorem dX9_advance_81 : decode cX9_advance 81 = .ok (.goto 51, 3) := by decide +kernel
theorem dX9_advance_84 : decode cX9_advance 84 = .ok (.aload_n 0, 1) := by decide +kernel
theorem dX9_advance_85 : decode cX9_advance 85 = .ok (.getfield 9, 3) := by decide +kernel
theorem dX9_advance_88 : decode cX9_advance 88 = .ok (.aload_n 0, 1) := by decide +kernel
theorem dX9_advance_89 : decode cX9_advance 89 = .ok (.getfield 34, 3) := by decide +kernel
theorem dX9_advance_92 : decode cX9_advance 92 = .ok (.caload, 1) := by decide +kernel
theorem dX9_advance_93 : decode cX9_advance 93 = .ok (.invokestatic 44, 3) := by decide +kernel
theorem dX9_advance_96 : decode cX9_advance 96 = .ok (.ifCond .eq 10, 3) := by decide +kernel
theorem dX9_advance_99 : decode cX9_advance 99 = .ok (.aload_n 0, 1) := by decide +kernel
theorem dX9_advance_100 : decode cX9_advance 100 = .ok (.invokevirtual 47, 3) := by decide +kernel
theorem dX9_advance_103 : decode cX9_advance 103 = .ok (.goto 29, 3) := by decide +kernel
theorem dX9_advance_106 : decode cX9_advance 106 = .ok (.aload_n 0, 1) := by decide +kernel
theorem dX9_advance_107 : decode cX9_advance 107 = .ok (.getfield 9, 3) := by decide +kernel
theorem dX9_advance_110 : decode cX9_advance 110 = .ok (.aload_n 0, 1) := by decide +kernel
theorem dX9_advance_111 : decode cX9_advance 111 = .ok (.getfield 34, 3) := by decide +kernel
theorem dX9_advance_114 : decode cX9_advance 114 = .ok (.caload, 1) := by decide +kernel
theorem dX9_advance_115 : decode cX9_advance 115 = .ok (.invokestatic 50, 3) := by decide +kernel
theorem dX9_advance_118 : decode cX9_advance 118 = .ok (.ifCond .eq 10, 3) := by decide +kernel
theorem dX9_advance_121 : decode cX9_advance 121 = .ok (.aload_n 0, 1) := by decide +kernel
theorem dX9_advance_122 : decode cX9_advance 122 = .ok (.invokevirtual 53, 3) := by decide +kernel
theorem dX9_advance_125 : decode cX9_advance 125 = .ok (.goto 7, 3) := by decide +kernel
theorem dX9_advance_128 : decode cX9_advance 128 = .ok (.aload_n 0, 1) := by decide +kernel
theorem dX9_advance_129 : decode cX9_advance 129 = .ok (.invokevirtual 56, 3) := by decide +kernel
theorem dX9_advance_132 : decode cX9_advance 132 = .ok (.return_, 1) := by decide +kernel
theorem dX9_readWord_0 : decode cX9_readWord 0 = .ok (.aload_n 0, 1) := by decide +kernel
theorem dX9_readWord_1 : decode cX9_readWord 1 = .ok (.lconst 0, 1) := by decide +kernel
theorem dX9_readWord_2 : decode cX9_readWord 2 = .ok (.putfield 59, 3) := by decide +kernel
theorem dX9_readWord_5 : decode cX9_readWord 5 = .ok (.aload_n 0, 1) := by decide +kernel
theorem dX9_readWord_6 : decode cX9_readWord 6 = .ok (.aload_n 0, 1) := by decide +kernel
theorem dX9_readWord_7 : decode cX9_readWord 7 = .ok (.getfield 34, 3) := by decide +kernel
theorem dX9_readWord_10 : decode cX9_readWord 10 = .ok (.putfield 28, 3) := by decide +kernel
theorem dX9_readWord_13 : decode cX9_readWord 13 = .ok (.aload_n 0, 1) := by decide +kernel
theorem dX9_readWord_14 : decode cX9_readWord 14 = .ok (.getfield 28, 3) := by decide +kernel
theorem dX9_readWord_17 : decode cX9_readWord 17 = .ok (.aload_n 0, 1) := by decide +kernel
theorem dX9_readWord_18 : decode cX9_readWord 18 = .ok (.getfield 21, 3) := by decide +kernel
theorem dX9_readWord_21 : decode cX9_readWord 21 = .ok (.if_icmp .ge 51, 3) := by decide +kernel
theorem dX9_readWord_24 : decode cX9_readWord 24 = .ok (.aload_n 0, 1) := by decide +kernel
theorem dX9_readWord_25 : decode cX9_readWord 25 = .ok (.getfield 9, 3) := by decide +kernel
theorem dX9_readWord_28 : decode cX9_readWord 28 = .ok (.aload_n 0, 1) := by decide +kernel
theorem dX9_readWord_29 : decode cX9_readWord 29 = .ok (.getfield 28, 3) := by decide +kernel
theorem dX9_readWord_32 : decode cX9_readWord 32 = .ok (.caload, 1) := by decide +kernel
theorem dX9_readWord_33 : decode cX9_readWord 33 = .ok (.invokestatic 44, 3) := by decide +kernel
theorem dX9_readWord_36 : decode cX9_readWord 36 = .ok (.ifCond .eq 36, 3) := by decide +kernel
theorem dX9_readWord_39 : decode cX9_readWord 39 = .ok (.aload_n 0, 1) := by decide +kernel
theorem dX9_readWord_40 : decode cX9_readWord 40 = .ok (.aload_n 0, 1) := by decide +kernel
theorem dX9_readWord_41 : decode cX9_readWord 41 = .ok (.getfield 59, 3) := by decide +kernel
theorem dX9_readWord_44 : decode cX9_readWord 44 = .ok (.aload_n 0, 1) := by decide +kernel
theorem dX9_readWord_45 : decode cX9_readWord 45 = .ok (.getfield 9, 3) := by decide +kernel
theorem dX9_readWord_48 : decode cX9_readWord 48 = .ok (.aload_n 0, 1) := by decide +kernel
theorem dX9_readWord_49 : decode cX9_readWord 49 = .ok (.getfield 28, 3) := by decide +kernel
theorem dX9_readWord_52 : decode cX9_readWord 52 = .ok (.caload, 1) := by decide +kernel
theorem dX9_readWord_53 : decode cX9_readWord 53 = .ok (.invokestatic 63, 3) := by decide +kernel
theorem dX9_readWord_56 : decode cX9_readWord 56 = .ok (.putfield 59, 3) := by decide +kernel
theorem dX9_readWord_59 : decode cX9_readWord 59 = .ok (.aload_n 0, 1) := by decide +kernel
theorem dX9_readWord_60 : decode cX9_readWord 60 = .ok (.dup, 1) := by decide +kernel
theorem dX9_readWord_61 : decode cX9_readWord 61 = .ok (.getfield 28, 3) := by decide +kernel
theorem dX9_readWord_64 : decode cX9_readWord 64 = .ok (.iconst 1, 1) := by decide +kernel
theorem dX9_readWord_65 : decode cX9_readWord 65 = .ok (.iadd, 1) := by decide +kernel
theorem dX9_readWord_66 : decode cX9_readWord 66 = .ok (.putfield 28, 3) := by decide +kernel
theorem dX9_readWord_69 : decode cX9_readWord 69 = .ok (.goto (-56), 3) := by decide +kernel
theorem dX9_readWord_72 : decode cX9_readWord 72 = .ok (.aload_n 0, 1) := by decide +kernel
theorem dX9_readWord_73 : decode cX9_readWord 73 = .ok (.aload_n 0, 1) := by decide +kernel
theorem dX9_readWord_74 : decode cX9_readWord 74 = .ok (.getfield 28, 3) := by decide +kernel
theorem dX9_readWord_77 : decode cX9_readWord 77 = .ok (.aload_n 0, 1) := by decide +kernel
theorem dX9_readWord_78 : decode cX9_readWord 78 = .ok (.getfield 34, 3) := by decide +kernel
theorem dX9_readWord_81 : decode cX9_readWord 81 = .ok (.isub, 1) := by decide +kernel
theorem dX9_readWord_82 : decode cX9_readWord 82 = .ok (.bipush 8, 2) := by decide +kernel
theorem dX9_readWord_84 : decode cX9_readWord 84 = .ok (.if_icmp .gt 7, 3) := by decide +kernel
theorem dX9_readWord_87 : decode cX9_readWord 87 = .ok (.iconst 3, 1) := by decide +kernel
theorem dX9_readWord_88 : decode cX9_readWord 88 = .ok (.goto 4, 3) := by decide +kernel
theorem dX9_readWord_91 : decode cX9_readWord 91 = .ok (.iconst 0, 1) := by decide +kernel
theorem dX9_readWord_92 : decode cX9_readWord 92 = .ok (.putfield 41, 3) := by decide +kernel
theorem dX9_readWord_95 : decode cX9_readWord 95 = .ok (.return_, 1) := by decide +kernel
theorem dX9_readNumber_0 : decode cX9_readNumber 0 = .ok (.aload_n 0, 1) := by decide +kernel
theorem dX9_readNumber_1 : decode cX9_readNumber 1 = .ok (.iconst 0, 1) := by decide +kernel
theorem dX9_readNumber_2 : decode cX9_readNumber 2 = .ok (.putfield 69, 3) := by decide +kernel
theorem dX9_readNumber_5 : decode cX9_readNumber 5 = .ok (.aload_n 0, 1) := by decide +kernel
theorem dX9_readNumber_6 : decode cX9_readNumber 6 = .ok (.aload_n 0, 1) := by decide +kernel
theorem dX9_readNumber_7 : decode cX9_readNumber 7 = .ok (.getfield 34, 3) := by decide +kernel
theorem dX9_readNumber_10 : decode cX9_readNumber 10 = .ok (.putfield 28, 3) := by decide +kernel
theorem dX9_readNumber_13 : decode cX9_readNumber 13 = .ok (.aload_n 0, 1) := by decide +kernel
theorem dX9_readNumber_14 : decode cX9_readNumber 14 = .ok (.getfield 28, 3) := by decide +kernel
theorem dX9_readNumber_17 : decode cX9_readNumber 17 = .ok (.aload_n 0, 1) := by decide +kernel
theorem dX9_readNumber_18 : decode cX9_readNumber 18 = .ok (.getfield 21, 3) := by decide +kernel
theorem dX9_readNumber_21 : decode cX9_readNumber 21 = .ok (.if_icmp .ge 55, 3) := by decide +kernel
theorem dX9_readNumber_24 : decode cX9_readNumber 24 = .ok (.aload_n 0, 1) := by decide +kernel
theorem dX9_readNumber_25 : decode cX9_readNumber 25 = .ok (.getfield 9, 3) := by decide +kernel
theorem dX9_readNumber_28 : decode cX9_readNumber 28 = .ok (.aload_n 0, 1) := by decide +kernel
theorem dX9_readNumber_29 : decode cX9_readNumber 29 = .ok (.getfield 28, 3) := by decide +kernel
theorem dX9_readNumber_32 : decode cX9_readNumber 32 = .ok (.caload, 1) := by decide +kernel
theorem dX9_readNumber_33 : decode cX9_readNumber 33 = .ok (.invokestatic 50, 3) := by decide +kernel
theorem dX9_readNumber_36 : decode cX9_readNumber 36 = .ok (.ifCond .eq 40, 3) := by decide +kernel
theorem dX9_readNumber_39 : decode cX9_readNumber 39 = .ok (.aload_n 0, 1) := by decide +kernel
theorem dX9_readNumber_40 : decode cX9_readNumber 40 = .ok (.aload_n 0, 1) := by decide +kernel
theorem dX9_readNumber_41 : decode cX9_readNumber 41 = .ok (.getfield 69, 3) := by decide +kernel
theorem dX9_readNumber_44 : decode cX9_readNumber 44 = .ok (.bipush 10, 2) := by decide +kernel
theorem dX9_readNumber_46 : decode cX9_readNumber 46 = .ok (.imul, 1) := by decide +kernel
theorem dX9_readNumber_47 : decode cX9_readNumber 47 = .ok (.aload_n 0, 1) := by decide +kernel
theorem dX9_readNumber_48 : decode cX9_readNumber 48 = .ok (.getfield 9, 3) := by decide +kernel
theorem dX9_readNumber_51 : decode cX9_readNumber 51 = .ok (.aload_n 0, 1) := by decide +kernel
theorem dX9_readNumber_52 : decode cX9_readNumber 52 = .ok (.getfield 28, 3) := by decide +kernel
theorem dX9_readNumber_55 : decode cX9_readNumber 55 = .ok (.caload, 1) := by decide +kernel
theorem dX9_readNumber_56 : decode cX9_readNumber 56 = .ok (.bipush 48, 2) := by decide +kernel
theorem dX9_readNumber_58 : decode cX9_readNumber 58 = .ok (.isub, 1) := by decide +kernel
theorem dX9_readNumber_59 : decode cX9_readNumber 59 = .ok (.iadd, 1) := by decide +kernel
theorem dX9_readNumber_60 : decode cX9_readNumber 60 = .ok (.putfield 69, 3) := by decide +kernel
theorem dX9_readNumber_63 : decode cX9_readNumber 63 = .ok (.aload_n 0, 1) := by decide +kernel
theorem dX9_readNumber_64 : decode cX9_readNumber 64 = .ok (.dup, 1) := by decide +kernel
theorem dX9_readNumber_65 : decode cX9_readNumber 65 = .ok (.getfield 28, 3) := by decide +kernel
theorem dX9_readNumber_68 : decode cX9_readNumber 68 = .ok (.iconst 1, 1) := by decide +kernel
theorem dX9_readNumber_69 : decode cX9_readNumber 69 = .ok (.iadd, 1) := by decide +kernel
theorem dX9_readNumber_70 : decode cX9_readNumber 70 = .ok (.putfield 28, 3) := by decide +kernel
theorem dX9_readNumber_73 : decode cX9_readNumber 73 = .ok (.goto (-60), 3) := by decide +kernel
theorem dX9_readNumber_76 : decode cX9_readNumber 76 = .ok (.aload_n 0, 1) := by decide +kernel
theorem dX9_readNumber_77 : decode cX9_readNumber 77 = .ok (.aload_n 0, 1) := by decide +kernel
theorem dX9_readNumber_78 : decode cX9_readNumber 78 = .ok (.getfield 28, 3) := by decide +kernel
theorem dX9_readNumber_81 : decode cX9_readNumber 81 = .ok (.aload_n 0, 1) := by decide +kernel
theorem dX9_readNumber_82 : decode cX9_readNumber 82 = .ok (.getfield 34, 3) := by decide +kernel
theorem dX9_readNumber_85 : decode cX9_readNumber 85 = .ok (.isub, 1) := by decide +kernel
theorem dX9_readNumber_86 : decode cX9_readNumber 86 = .ok (.iconst 4, 1) := by decide +kernel
theorem dX9_readNumber_87 : decode cX9_readNumber 87 = .ok (.if_icmp .gt 7, 3) := by decide +kernel
theorem dX9_readNumber_90 : decode cX9_readNumber 90 = .ok (.iconst 2, 1) := by decide +kernel
theorem dX9_readNumber_91 : decode cX9_readNumber 91 = .ok (.goto 4, 3) := by decide +kernel
theorem dX9_readNumber_94 : decode cX9_readNumber 94 = .ok (.iconst 0, 1) := by decide +kernel
theorem dX9_readNumber_95 : decode cX9_readNumber 95 = .ok (.putfield 41, 3) := by decide +kernel
theorem dX9_readNumber_98 : decode cX9_readNumber 98 = .ok (.return_, 1) := by decide +kernel
theorem dX9_readSign_0 : decode cX9_readSign 0 = .ok (.aload_n 0, 1) := by decide +kernel
theorem dX9_readSign_1 : decode cX9_readSign 1 = .ok (.aload_n 0, 1) := by decide +kernel
theorem dX9_readSign_2 : decode cX9_readSign 2 = .ok (.getfield 9, 3) := by decide +kernel
theorem dX9_readSign_5 : decode cX9_readSign 5 = .ok (.aload_n 0, 1) := by decide +kernel
theorem dX9_readSign_6 : decode cX9_readSign 6 = .ok (.getfield 34, 3) := by decide +kernel
theorem dX9_readSign_9 : decode cX9_readSign 9 = .ok (.caload, 1) := by decide +kernel
theorem dX9_readSign_10 : decode cX9_readSign 10 = .ok (.putfield 72, 3) := by decide +kernel
theorem dX9_readSign_13 : decode cX9_readSign 13 = .ok (.aload_n 0, 1) := by decide +kernel
theorem dX9_readSign_14 : decode cX9_readSign 14 = .ok (.ldc 76, 2) := by decide +kernel
theorem dX9_readSign_16 : decode cX9_readSign 16 = .ok (.aload_n 0, 1) := by decide +kernel
theorem dX9_readSign_17 : decode cX9_readSign 17 = .ok (.getfield 72, 3) := by decide +kernel
theorem dX9_readSign_20 : decode cX9_readSign 20 = .ok (.invokevirtual 78, 3) := by decide +kernel
theorem dX9_readSign_23 : decode cX9_readSign 23 = .ok (.ifCond .lt 7, 3) := by decide +kernel
theorem dX9_readSign_26 : decode cX9_readSign 26 = .ok (.iconst 4, 1) := by decide +kernel
theorem dX9_readSign_27 : decode cX9_readSign 27 = .ok (.goto 4, 3) := by decide +kernel
theorem dX9_readSign_30 : decode cX9_readSign 30 = .ok (.iconst 0, 1) := by decide +kernel
theorem dX9_readSign_31 : decode cX9_readSign 31 = .ok (.putfield 41, 3) := by decide +kernel
theorem dX9_readSign_34 : decode cX9_readSign 34 = .ok (.return_, 1) := by decide +kernel
theorem dX9_wrong_0 : decode cX9_wrong 0 = .ok (.aload_n 0, 1) := by decide +kernel
theorem dX9_wrong_1 : decode cX9_wrong 1 = .ok (.getfield 25, 3) := by decide +kernel
theorem dX9_wrong_4 : decode cX9_wrong 4 = .ok (.ifCond .ne 16, 3) := by decide +kernel
theorem dX9_wrong_7 : decode cX9_wrong 7 = .ok (.aload_n 0, 1) := by decide +kernel
theorem dX9_wrong_8 : decode cX9_wrong 8 = .ok (.iload_n 1, 1) := by decide +kernel
theorem dX9_wrong_9 : decode cX9_wrong 9 = .ok (.bipush 16, 2) := by decide +kernel
theorem dX9_wrong_11 : decode cX9_wrong 11 = .ok (.aload_n 0, 1) := by decide +kernel
theorem dX9_wrong_12 : decode cX9_wrong 12 = .ok (.getfield 34, 3) := by decide +kernel
theorem dX9_wrong_15 : decode cX9_wrong 15 = .ok (.imul, 1) := by decide +kernel
theorem dX9_wrong_16 : decode cX9_wrong 16 = .ok (.iadd, 1) := by decide +kernel
theorem dX9_wrong_17 : decode cX9_wrong 17 = .ok (.putfield 25, 3) := by decide +kernel
theorem dX9_wrong_20 : decode cX9_wrong 20 = .ok (.iconst 0, 1) := by decide +kernel
theorem dX9_wrong_21 : decode cX9_wrong 21 = .ok (.ireturn, 1) := by decide +kernel
theorem dX9_atEnd_0 : decode cX9_atEnd 0 = .ok (.aload_n 0, 1) := by decide +kernel
theorem dX9_atEnd_1 : decode cX9_atEnd 1 = .ok (.getfield 41, 3) := by decide +kernel
theorem dX9_atEnd_4 : decode cX9_atEnd 4 = .ok (.iconst 1, 1) := by decide +kernel
theorem dX9_atEnd_5 : decode cX9_atEnd 5 = .ok (.if_icmp .ne 7, 3) := by decide +kernel
theorem dX9_atEnd_8 : decode cX9_atEnd 8 = .ok (.iconst 1, 1) := by decide +kernel
theorem dX9_atEnd_9 : decode cX9_atEnd 9 = .ok (.goto 4, 3) := by decide +kernel
theorem dX9_atEnd_12 : decode cX9_atEnd 12 = .ok (.iconst 0, 1) := by decide +kernel
theorem dX9_atEnd_13 : decode cX9_atEnd 13 = .ok (.ireturn, 1) := by decide +kernel
theorem dX9_isNumber_0 : decode cX9_isNumber 0 = .ok (.aload_n 0, 1) := by decide +kernel
theorem dX9_isNumber_1 : decode cX9_isNumber 1 = .ok (.getfield 41, 3) := by decide +kernel
theorem dX9_isNumber_4 : decode cX9_isNumber 4 = .ok (.iconst 2, 1) := by decide +kernel
theorem dX9_isNumber_5 : decode cX9_isNumber 5 = .ok (.if_icmp .ne 7, 3) := by decide +kernel
theorem dX9_isNumber_8 : decode cX9_isNumber 8 = .ok (.iconst 1, 1) := by decide +kernel
theorem dX9_isNumber_9 : decode cX9_isNumber 9 = .ok (.goto 4, 3) := by decide +kernel
theorem dX9_isNumber_12 : decode cX9_isNumber 12 = .ok (.iconst 0, 1) := by decide +kernel
theorem dX9_isNumber_13 : decode cX9_isNumber 13 = .ok (.ireturn, 1) := by decide +kernel
theorem dX9_isName_0 : decode cX9_isName 0 = .ok (.aload_n 0, 1) := by decide +kernel
theorem dX9_isName_1 : decode cX9_isName 1 = .ok (.getfield 41, 3) := by decide +kernel
theorem dX9_isName_4 : decode cX9_isName 4 = .ok (.iconst 3, 1) := by decide +kernel
theorem dX9_isName_5 : decode cX9_isName 5 = .ok (.if_icmp .ne 17, 3) := by decide +kernel
theorem dX9_isName_8 : decode cX9_isName 8 = .ok (.aload_n 0, 1) := by decide +kernel
theorem dX9_isName_9 : decode cX9_isName 9 = .ok (.getfield 59, 3) := by decide +kernel
theorem dX9_isName_12 : decode cX9_isName 12 = .ok (.invokestatic 84, 3) := by decide +kernel
theorem dX9_isName_15 : decode cX9_isName 15 = .ok (.ifCond .ne 7, 3) := by decide +kernel
theorem dX9_isName_18 : decode cX9_isName 18 = .ok (.iconst 1, 1) := by decide +kernel
theorem dX9_isName_19 : decode cX9_isName 19 = .ok (.goto 4, 3) := by decide +kernel
theorem dX9_isName_22 : decode cX9_isName 22 = .ok (.iconst 0, 1) := by decide +kernel
theorem dX9_isName_23 : decode cX9_isName 23 = .ok (.ireturn, 1) := by decide +kernel
theorem dX9_isWord_0 : decode cX9_isWord 0 = .ok (.aload_n 0, 1) := by decide +kernel
theorem dX9_isWord_1 : decode cX9_isWord 1 = .ok (.getfield 41, 3) := by decide +kernel
theorem dX9_isWord_4 : decode cX9_isWord 4 = .ok (.iconst 3, 1) := by decide +kernel
theorem dX9_isWord_5 : decode cX9_isWord 5 = .ok (.if_icmp .ne 19, 3) := by decide +kernel
theorem dX9_isWord_8 : decode cX9_isWord 8 = .ok (.aload_n 0, 1) := by decide +kernel
theorem dX9_isWord_9 : decode cX9_isWord 9 = .ok (.getfield 59, 3) := by decide +kernel
theorem dX9_isWord_12 : decode cX9_isWord 12 = .ok (.aload_n 1, 1) := by decide +kernel
theorem dX9_isWord_13 : decode cX9_isWord 13 = .ok (.getfield 88, 3) := by decide +kernel
theorem dX9_isWord_16 : decode cX9_isWord 16 = .ok (.lcmp, 1) := by decide +kernel
theorem dX9_isWord_17 : decode cX9_isWord 17 = .ok (.ifCond .ne 7, 3) := by decide +kernel
theorem dX9_isWord_20 : decode cX9_isWord 20 = .ok (.iconst 1, 1) := by decide +kernel
theorem dX9_isWord_21 : decode cX9_isWord 21 = .ok (.goto 4, 3) := by decide +kernel
theorem dX9_isWord_24 : decode cX9_isWord 24 = .ok (.iconst 0, 1) := by decide +kernel
theorem dX9_isWord_25 : decode cX9_isWord 25 = .ok (.ireturn, 1) := by decide +kernel
theorem dX9_isSign_0 : decode cX9_isSign 0 = .ok (.aload_n 0, 1) := by decide +kernel
theorem dX9_isSign_1 : decode cX9_isSign 1 = .ok (.getfield 41, 3) := by decide +kernel
theorem dX9_isSign_4 : decode cX9_isSign 4 = .ok (.iconst 4, 1) := by decide +kernel
theorem dX9_isSign_5 : decode cX9_isSign 5 = .ok (.if_icmp .ne 15, 3) := by decide +kernel
theorem dX9_isSign_8 : decode cX9_isSign 8 = .ok (.aload_n 0, 1) := by decide +kernel
theorem dX9_isSign_9 : decode cX9_isSign 9 = .ok (.getfield 72, 3) := by decide +kernel
theorem dX9_isSign_12 : decode cX9_isSign 12 = .ok (.iload_n 1, 1) := by decide +kernel
theorem dX9_isSign_13 : decode cX9_isSign 13 = .ok (.if_icmp .ne 7, 3) := by decide +kernel
theorem dX9_isSign_16 : decode cX9_isSign 16 = .ok (.iconst 1, 1) := by decide +kernel
theorem dX9_isSign_17 : decode cX9_isSign 17 = .ok (.goto 4, 3) := by decide +kernel
theorem dX9_isSign_20 : decode cX9_isSign 20 = .ok (.iconst 0, 1) := by decide +kernel
theorem dX9_isSign_21 : decode cX9_isSign 21 = .ok (.ireturn, 1) := by decide +kernel
theorem dX9_takeWord_0 : decode cX9_takeWord 0 = .ok (.aload_n 0, 1) := by decide +kernel
theorem dX9_takeWord_1 : decode cX9_takeWord 1 = .ok (.aload_n 1, 1) := by decide +kernel
theorem dX9_takeWord_2 : decode cX9_takeWord 2 = .ok (.invokevirtual 89, 3) := by decide +kernel
theorem dX9_takeWord_5 : decode cX9_takeWord 5 = .ok (.ifCond .ne 9, 3) := by decide +kernel
theorem dX9_takeWord_8 : decode cX9_takeWord 8 = .ok (.aload_n 0, 1) := by decide +kernel
theorem dX9_takeWord_9 : decode cX9_takeWord 9 = .ok (.iconst 1, 1) := by decide +kernel
theorem dX9_takeWord_10 : decode cX9_takeWord 10 = .ok (.invokevirtual 93, 3) := by decide +kernel
theorem dX9_takeWord_13 : decode cX9_takeWord 13 = .ok (.ireturn, 1) := by decide +kernel
theorem dX9_takeWord_14 : decode cX9_takeWord 14 = .ok (.aload_n 0, 1) := by decide +kernel
theorem dX9_takeWord_15 : decode cX9_takeWord 15 = .ok (.invokevirtual 31, 3) := by decide +kernel
theorem dX9_takeWord_18 : decode cX9_takeWord 18 = .ok (.iconst 1, 1) := by decide +kernel
theorem dX9_takeWord_19 : decode cX9_takeWord 19 = .ok (.ireturn, 1) := by decide +kernel
theorem dX9_takeSign_0 : decode cX9_takeSign 0 = .ok (.aload_n 0, 1) := by decide +kernel
theorem dX9_takeSign_1 : decode cX9_takeSign 1 = .ok (.iload_n 1, 1) := by decide +kernel
theorem dX9_takeSign_2 : decode cX9_takeSign 2 = .ok (.invokevirtual 97, 3) := by decide +kernel
theorem dX9_takeSign_5 : decode cX9_takeSign 5 = .ok (.ifCond .ne 9, 3) := by decide +kernel
theorem dX9_takeSign_8 : decode cX9_takeSign 8 = .ok (.aload_n 0, 1) := by decide +kernel
theorem dX9_takeSign_9 : decode cX9_takeSign 9 = .ok (.iconst 1, 1) := by decide +kernel
theorem dX9_takeSign_10 : decode cX9_takeSign 10 = .ok (.invokevirtual 93, 3) := by decide +kernel
theorem dX9_takeSign_13 : decode cX9_takeSign 13 = .ok (.ireturn, 1) := by decide +kernel
theorem dX9_takeSign_14 : decode cX9_takeSign 14 = .ok (.aload_n 0, 1) := by decide +kernel
theorem dX9_takeSign_15 : decode cX9_takeSign 15 = .ok (.invokevirtual 31, 3) := by decide +kernel
theorem dX9_takeSign_18 : decode cX9_takeSign 18 = .ok (.iconst 1, 1) := by decide +kernel
theorem dX9_takeSign_19 : decode cX9_takeSign 19 = .ok (.ireturn, 1) := by decide +kernel
theorem dX9_takeNumber_0 : decode cX9_takeNumber 0 = .ok (.aload_n 0, 1) := by decide +kernel
theorem dX9_takeNumber_1 : decode cX9_takeNumber 1 = .ok (.invokevirtual 100, 3) := by decide +kernel
theorem dX9_takeNumber_4 : decode cX9_takeNumber 4 = .ok (.ifCond .ne 11, 3) := by decide +kernel
theorem dX9_takeNumber_7 : decode cX9_takeNumber 7 = .ok (.aload_n 0, 1) := by decide +kernel
theorem dX9_takeNumber_8 : decode cX9_takeNumber 8 = .ok (.iconst 1, 1) := by decide +kernel
theorem dX9_takeNumber_9 : decode cX9_takeNumber 9 = .ok (.invokevirtual 93, 3) := by decide +kernel
theorem dX9_takeNumber_12 : decode cX9_takeNumber 12 = .ok (.pop, 1) := by decide +kernel
theorem dX9_takeNumber_13 : decode cX9_takeNumber 13 = .ok (.iconst (-1), 1) := by decide +kernel
theorem dX9_takeNumber_14 : decode cX9_takeNumber 14 = .ok (.ireturn, 1) := by decide +kernel
theorem dX9_takeNumber_15 : decode cX9_takeNumber 15 = .ok (.aload_n 0, 1) := by decide +kernel
theorem dX9_takeNumber_16 : decode cX9_takeNumber 16 = .ok (.getfield 69, 3) := by decide +kernel
theorem dX9_takeNumber_19 : decode cX9_takeNumber 19 = .ok (.iload_n 1, 1) := by decide +kernel
theorem dX9_takeNumber_20 : decode cX9_takeNumber 20 = .ok (.if_icmp .lt 11, 3) := by decide +kernel
theorem dX9_takeNumber_23 : decode cX9_takeNumber 23 = .ok (.aload_n 0, 1) := by decide +kernel
theorem dX9_takeNumber_24 : decode cX9_takeNumber 24 = .ok (.getfield 69, 3) := by decide +kernel
theorem dX9_takeNumber_27 : decode cX9_takeNumber 27 = .ok (.iload_n 2, 1) := by decide +kernel
theorem dX9_takeNumber_28 : decode cX9_takeNumber 28 = .ok (.if_icmp .le 11, 3) := by decide +kernel
theorem dX9_takeNumber_31 : decode cX9_takeNumber 31 = .ok (.aload_n 0, 1) := by decide +kernel
theorem dX9_takeNumber_32 : decode cX9_takeNumber 32 = .ok (.iconst 4, 1) := by decide +kernel
theorem dX9_takeNumber_33 : decode cX9_takeNumber 33 = .ok (.invokevirtual 93, 3) := by decide +kernel
theorem dX9_takeNumber_36 : decode cX9_takeNumber 36 = .ok (.pop, 1) := by decide +kernel
theorem dX9_takeNumber_37 : decode cX9_takeNumber 37 = .ok (.iconst (-1), 1) := by decide +kernel
theorem dX9_takeNumber_38 : decode cX9_takeNumber 38 = .ok (.ireturn, 1) := by decide +kernel
theorem dX9_takeNumber_39 : decode cX9_takeNumber 39 = .ok (.aload_n 0, 1) := by decide +kernel
theorem dX9_takeNumber_40 : decode cX9_takeNumber 40 = .ok (.getfield 69, 3) := by decide +kernel
theorem dX9_takeNumber_43 : decode cX9_takeNumber 43 = .ok (.istore_n 3, 1) := by decide +kernel
theorem dX9_takeNumber_44 : decode cX9_takeNumber 44 = .ok (.aload_n 0, 1) := by decide +kernel
theorem dX9_takeNumber_45 : decode cX9_takeNumber 45 = .ok (.invokevirtual 31, 3) := by decide +kernel
theorem dX9_takeNumber_48 : decode cX9_takeNumber 48 = .ok (.iload_n 3, 1) := by decide +kernel
theorem dX9_takeNumber_49 : decode cX9_takeNumber 49 = .ok (.ireturn, 1) := by decide +kernel
theorem dX9_isBlank_0 : decode cX9_isBlank 0 = .ok (.iload_n 0, 1) := by decide +kernel
theorem dX9_isBlank_1 : decode cX9_isBlank 1 = .ok (.bipush 10, 2) := by decide +kernel
theorem dX9_isBlank_3 : decode cX9_isBlank 3 = .ok (.if_icmp .eq 9, 3) := by decide +kernel
theorem dX9_isBlank_6 : decode cX9_isBlank 6 = .ok (.iload_n 0, 1) := by decide +kernel
theorem dX9_isBlank_7 : decode cX9_isBlank 7 = .ok (.bipush 32, 2) := by decide +kernel
theorem dX9_isBlank_9 : decode cX9_isBlank 9 = .ok (.if_icmp .ne 7, 3) := by decide +kernel
theorem dX9_isBlank_12 : decode cX9_isBlank 12 = .ok (.iconst 1, 1) := by decide +kernel
theorem dX9_isBlank_13 : decode cX9_isBlank 13 = .ok (.goto 4, 3) := by decide +kernel
theorem dX9_isBlank_16 : decode cX9_isBlank 16 = .ok (.iconst 0, 1) := by decide +kernel
theorem dX9_isBlank_17 : decode cX9_isBlank 17 = .ok (.ireturn, 1) := by decide +kernel
theorem dX9_isLetter_0 : decode cX9_isLetter 0 = .ok (.iload_n 0, 1) := by decide +kernel
theorem dX9_isLetter_1 : decode cX9_isLetter 1 = .ok (.bipush 97, 2) := by decide +kernel
theorem dX9_isLetter_3 : decode cX9_isLetter 3 = .ok (.if_icmp .lt 13, 3) := by decide +kernel
theorem dX9_isLetter_6 : decode cX9_isLetter 6 = .ok (.iload_n 0, 1) := by decide +kernel
theorem dX9_isLetter_7 : decode cX9_isLetter 7 = .ok (.bipush 122, 2) := by decide +kernel
theorem dX9_isLetter_9 : decode cX9_isLetter 9 = .ok (.if_icmp .gt 7, 3) := by decide +kernel
theorem dX9_isLetter_12 : decode cX9_isLetter 12 = .ok (.iconst 1, 1) := by decide +kernel
theorem dX9_isLetter_13 : decode cX9_isLetter 13 = .ok (.goto 4, 3) := by decide +kernel
theorem dX9_isLetter_16 : decode cX9_isLetter 16 = .ok (.iconst 0, 1) := by decide +kernel
theorem dX9_isLetter_17 : decode cX9_isLetter 17 = .ok (.ireturn, 1) := by decide +kernel
theorem dX9_isDigit_0 : decode cX9_isDigit 0 = .ok (.iload_n 0, 1) := by decide +kernel
theorem dX9_isDigit_1 : decode cX9_isDigit 1 = .ok (.bipush 48, 2) := by decide +kernel
theorem dX9_isDigit_3 : decode cX9_isDigit 3 = .ok (.if_icmp .lt 13, 3) := by decide +kernel
theorem dX9_isDigit_6 : decode cX9_isDigit 6 = .ok (.iload_n 0, 1) := by decide +kernel
theorem dX9_isDigit_7 : decode cX9_isDigit 7 = .ok (.bipush 57, 2) := by decide +kernel
theorem dX9_isDigit_9 : decode cX9_isDigit 9 = .ok (.if_icmp .gt 7, 3) := by decide +kernel
theorem dX9_isDigit_12 : decode cX9_isDigit 12 = .ok (.iconst 1, 1) := by decide +kernel
theorem dX9_isDigit_13 : decode cX9_isDigit 13 = .ok (.goto 4, 3) := by decide +kernel
theorem dX9_isDigit_16 : decode cX9_isDigit 16 = .ok (.iconst 0, 1) := by decide +kernel
theorem dX9_isDigit_17 : decode cX9_isDigit 17 = .ok (.ireturn, 1) := by decide +kernel
