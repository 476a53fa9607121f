theorem dX7_likeliest_19 : decode cX7_likeliest 19 = .ok (.istore 4, 2) := by decide +kernel
theorem dX7_likeliest_21 : decode cX7_likeliest 21 = .ok (.iload 4, 2) := by decide +kernel
theorem dX7_likeliest_23 : decode cX7_likeliest 23 = .ok (.aload_n 0, 1) := by decide +kernel
theorem dX7_likeliest_24 : decode cX7_likeliest 24 = .ok (.getfield 7, 3) := by decide +kernel
theorem dX7_likeliest_27 : decode cX7_likeliest 27 = .ok (.iconst 0, 1) := by decide +kernel
theorem dX7_likeliest_28 : decode cX7_likeliest 28 = .ok (.iaload, 1) := by decide +kernel
theorem dX7_likeliest_29 : decode cX7_likeliest 29 = .ok (.if_icmp .ge 49, 3) := by decide +kernel
theorem dX7_likeliest_32 : decode cX7_likeliest 32 = .ok (.aload_n 0, 1) := by decide +kernel
theorem dX7_likeliest_33 : decode cX7_likeliest 33 = .ok (.iload 4, 2) := by decide +kernel
theorem dX7_likeliest_35 : decode cX7_likeliest 35 = .ok (.iload_n 1, 1) := by decide +kernel
theorem dX7_likeliest_36 : decode cX7_likeliest 36 = .ok (.iconst 0, 1) := by decide +kernel
theorem dX7_likeliest_37 : decode cX7_likeliest 37 = .ok (.invokevirtual 214, 3) := by decide +kernel
theorem dX7_likeliest_40 : decode cX7_likeliest 40 = .ok (.aload_n 0, 1) := by decide +kernel
theorem dX7_likeliest_41 : decode cX7_likeliest 41 = .ok (.getfield 199, 3) := by decide +kernel
theorem dX7_likeliest_44 : decode cX7_likeliest 44 = .ok (.iload_n 3, 1) := by decide +kernel
theorem dX7_likeliest_45 : decode cX7_likeliest 45 = .ok (.if_icmp .le 8, 3) := by decide +kernel
theorem dX7_likeliest_48 : decode cX7_likeliest 48 = .ok (.iload 4, 2) := by decide +kernel
theorem dX7_likeliest_50 : decode cX7_likeliest 50 = .ok (.goto 4, 3) := by decide +kernel
theorem dX7_likeliest_53 : decode cX7_likeliest 53 = .ok (.iload_n 2, 1) := by decide +kernel
theorem dX7_likeliest_54 : decode cX7_likeliest 54 = .ok (.istore_n 2, 1) := by decide +kernel
theorem dX7_likeliest_55 : decode cX7_likeliest 55 = .ok (.aload_n 0, 1) := by decide +kernel
theorem dX7_likeliest_56 : decode cX7_likeliest 56 = .ok (.getfield 199, 3) := by decide +kernel
theorem dX7_likeliest_59 : decode cX7_likeliest 59 = .ok (.iload_n 3, 1) := by decide +kernel
theorem dX7_likeliest_60 : decode cX7_likeliest 60 = .ok (.if_icmp .le 10, 3) := by decide +kernel
theorem dX7_likeliest_63 : decode cX7_likeliest 63 = .ok (.aload_n 0, 1) := by decide +kernel
theorem dX7_likeliest_64 : decode cX7_likeliest 64 = .ok (.getfield 199, 3) := by decide +kernel
theorem dX7_likeliest_67 : decode cX7_likeliest 67 = .ok (.goto 4, 3) := by decide +kernel
theorem dX7_likeliest_70 : decode cX7_likeliest 70 = .ok (.iload_n 3, 1) := by decide +kernel
theorem dX7_likeliest_71 : decode cX7_likeliest 71 = .ok (.istore_n 3, 1) := by decide +kernel
theorem dX7_likeliest_72 : decode cX7_likeliest 72 = .ok (.iinc 4 1, 3) := by decide +kernel
theorem dX7_likeliest_75 : decode cX7_likeliest 75 = .ok (.goto (-54), 3) := by decide +kernel
theorem dX7_likeliest_78 : decode cX7_likeliest 78 = .ok (.iload_n 2, 1) := by decide +kernel
theorem dX7_likeliest_79 : decode cX7_likeliest 79 = .ok (.ifCond .ge 12, 3) := by decide +kernel
theorem dX7_likeliest_82 : decode cX7_likeliest 82 = .ok (.aload_n 0, 1) := by decide +kernel
theorem dX7_likeliest_83 : decode cX7_likeliest 83 = .ok (.ldc 195, 2) := by decide +kernel
theorem dX7_likeliest_85 : decode cX7_likeliest 85 = .ok (.invokevirtual 68, 3) := by decide +kernel
theorem dX7_likeliest_88 : decode cX7_likeliest 88 = .ok (.goto 4, 3) := by decide +kernel
theorem dX7_likeliest_91 : decode cX7_likeliest 91 = .ok (.iload_n 2, 1) := by decide +kernel
theorem dX7_likeliest_92 : decode cX7_likeliest 92 = .ok (.ireturn, 1) := by decide +kernel
theorem dX7_near_0 : decode cX7_near 0 = .ok (.aload_n 0, 1) := by decide +kernel
theorem dX7_near_1 : decode cX7_near 1 = .ok (.iload_n 1, 1) := by decide +kernel
theorem dX7_near_2 : decode cX7_near 2 = .ok (.invokevirtual 76, 3) := by decide +kernel
theorem dX7_near_5 : decode cX7_near 5 = .ok (.ifCond .eq 17, 3) := by decide +kernel
theorem dX7_near_8 : decode cX7_near 8 = .ok (.iload_n 2, 1) := by decide +kernel
theorem dX7_near_9 : decode cX7_near 9 = .ok (.invokestatic 60, 3) := by decide +kernel
theorem dX7_near_12 : decode cX7_near 12 = .ok (.ifCond .eq 10, 3) := by decide +kernel
theorem dX7_near_15 : decode cX7_near 15 = .ok (.iload_n 3, 1) := by decide +kernel
theorem dX7_near_16 : decode cX7_near 16 = .ok (.invokestatic 60, 3) := by decide +kernel
theorem dX7_near_19 : decode cX7_near 19 = .ok (.ifCond .ne 10, 3) := by decide +kernel
theorem dX7_near_22 : decode cX7_near 22 = .ok (.aload_n 0, 1) := by decide +kernel
theorem dX7_near_23 : decode cX7_near 23 = .ok (.ldc 40, 2) := by decide +kernel
theorem dX7_near_25 : decode cX7_near 25 = .ok (.invokevirtual 68, 3) := by decide +kernel
theorem dX7_near_28 : decode cX7_near 28 = .ok (.ireturn, 1) := by decide +kernel
theorem dX7_near_29 : decode cX7_near 29 = .ok (.aload_n 0, 1) := by decide +kernel
theorem dX7_near_30 : decode cX7_near 30 = .ok (.iload_n 1, 1) := by decide +kernel
theorem dX7_near_31 : decode cX7_near 31 = .ok (.iload_n 3, 1) := by decide +kernel
theorem dX7_near_32 : decode cX7_near 32 = .ok (.iload_n 2, 1) := by decide +kernel
theorem dX7_near_33 : decode cX7_near 33 = .ok (.invokevirtual 214, 3) := by decide +kernel
theorem dX7_near_36 : decode cX7_near 36 = .ok (.aload_n 0, 1) := by decide +kernel
theorem dX7_near_37 : decode cX7_near 37 = .ok (.getfield 199, 3) := by decide +kernel
theorem dX7_near_40 : decode cX7_near 40 = .ok (.ifCond .ne 12, 3) := by decide +kernel
theorem dX7_near_43 : decode cX7_near 43 = .ok (.aload_n 0, 1) := by decide +kernel
theorem dX7_near_44 : decode cX7_near 44 = .ok (.ldc 195, 2) := by decide +kernel
theorem dX7_near_46 : decode cX7_near 46 = .ok (.invokevirtual 68, 3) := by decide +kernel
theorem dX7_near_49 : decode cX7_near 49 = .ok (.goto 7, 3) := by decide +kernel
theorem dX7_near_52 : decode cX7_near 52 = .ok (.aload_n 0, 1) := by decide +kernel
theorem dX7_near_53 : decode cX7_near 53 = .ok (.getfield 211, 3) := by decide +kernel
theorem dX7_near_56 : decode cX7_near 56 = .ok (.ireturn, 1) := by decide +kernel
theorem dX7_honest_0 : decode cX7_honest 0 = .ok (.aload_n 0, 1) := by decide +kernel
theorem dX7_honest_1 : decode cX7_honest 1 = .ok (.iload_n 1, 1) := by decide +kernel
theorem dX7_honest_2 : decode cX7_honest 2 = .ok (.invokevirtual 76, 3) := by decide +kernel
theorem dX7_honest_5 : decode cX7_honest 5 = .ok (.ifCond .ne 10, 3) := by decide +kernel
theorem dX7_honest_8 : decode cX7_honest 8 = .ok (.aload_n 0, 1) := by decide +kernel
theorem dX7_honest_9 : decode cX7_honest 9 = .ok (.ldc 40, 2) := by decide +kernel
theorem dX7_honest_11 : decode cX7_honest 11 = .ok (.invokevirtual 68, 3) := by decide +kernel
theorem dX7_honest_14 : decode cX7_honest 14 = .ok (.ireturn, 1) := by decide +kernel
theorem dX7_honest_15 : decode cX7_honest 15 = .ok (.iconst 0, 1) := by decide +kernel
theorem dX7_honest_16 : decode cX7_honest 16 = .ok (.istore_n 2, 1) := by decide +kernel
theorem dX7_honest_17 : decode cX7_honest 17 = .ok (.iconst 0, 1) := by decide +kernel
theorem dX7_honest_18 : decode cX7_honest 18 = .ok (.istore_n 3, 1) := by decide +kernel
theorem dX7_honest_19 : decode cX7_honest 19 = .ok (.iload_n 3, 1) := by decide +kernel
theorem dX7_honest_20 : decode cX7_honest 20 = .ok (.sipush 4096, 3) := by decide +kernel
theorem dX7_honest_23 : decode cX7_honest 23 = .ok (.if_icmp .ge 27, 3) := by decide +kernel
theorem dX7_honest_26 : decode cX7_honest 26 = .ok (.iload_n 2, 1) := by decide +kernel
theorem dX7_honest_27 : decode cX7_honest 27 = .ok (.aload_n 0, 1) := by decide +kernel
theorem dX7_honest_28 : decode cX7_honest 28 = .ok (.iload_n 1, 1) := by decide +kernel
theorem dX7_honest_29 : decode cX7_honest 29 = .ok (.iload_n 3, 1) := by decide +kernel
theorem dX7_honest_30 : decode cX7_honest 30 = .ok (.invokevirtual 126, 3) := by decide +kernel
theorem dX7_honest_33 : decode cX7_honest 33 = .ok (.iload_n 3, 1) := by decide +kernel
theorem dX7_honest_34 : decode cX7_honest 34 = .ok (.if_icmp .ne 7, 3) := by decide +kernel
theorem dX7_honest_37 : decode cX7_honest 37 = .ok (.iconst 1, 1) := by decide +kernel
theorem dX7_honest_38 : decode cX7_honest 38 = .ok (.goto 4, 3) := by decide +kernel
theorem dX7_honest_41 : decode cX7_honest 41 = .ok (.iconst 0, 1) := by decide +kernel
theorem dX7_honest_42 : decode cX7_honest 42 = .ok (.iadd, 1) := by decide +kernel
theorem dX7_honest_43 : decode cX7_honest 43 = .ok (.istore_n 2, 1) := by decide +kernel
theorem dX7_honest_44 : decode cX7_honest 44 = .ok (.iinc 3 1, 3) := by decide +kernel
theorem dX7_honest_47 : decode cX7_honest 47 = .ok (.goto (-28), 3) := by decide +kernel
theorem dX7_honest_50 : decode cX7_honest 50 = .ok (.iload_n 2, 1) := by decide +kernel
theorem dX7_honest_51 : decode cX7_honest 51 = .ok (.ireturn, 1) := by decide +kernel
theorem dX7_roundOf_0 : decode cX7_roundOf 0 = .ok (.iload_n 1, 1) := by decide +kernel
theorem dX7_roundOf_1 : decode cX7_roundOf 1 = .ok (.istore_n 2, 1) := by decide +kernel
theorem dX7_roundOf_2 : decode cX7_roundOf 2 = .ok (.iconst 0, 1) := by decide +kernel
theorem dX7_roundOf_3 : decode cX7_roundOf 3 = .ok (.istore_n 3, 1) := by decide +kernel
theorem dX7_roundOf_4 : decode cX7_roundOf 4 = .ok (.iload_n 3, 1) := by decide +kernel
theorem dX7_roundOf_5 : decode cX7_roundOf 5 = .ok (.aload_n 0, 1) := by decide +kernel
theorem dX7_roundOf_6 : decode cX7_roundOf 6 = .ok (.getfield 7, 3) := by decide +kernel
theorem dX7_roundOf_9 : decode cX7_roundOf 9 = .ok (.iconst 0, 1) := by decide +kernel
theorem dX7_roundOf_10 : decode cX7_roundOf 10 = .ok (.iaload, 1) := by decide +kernel
theorem dX7_roundOf_11 : decode cX7_roundOf 11 = .ok (.if_icmp .ge 16, 3) := by decide +kernel
theorem dX7_roundOf_14 : decode cX7_roundOf 14 = .ok (.aload_n 0, 1) := by decide +kernel
theorem dX7_roundOf_15 : decode cX7_roundOf 15 = .ok (.iload_n 3, 1) := by decide +kernel
theorem dX7_roundOf_16 : decode cX7_roundOf 16 = .ok (.iload_n 2, 1) := by decide +kernel
theorem dX7_roundOf_17 : decode cX7_roundOf 17 = .ok (.invokevirtual 126, 3) := by decide +kernel
theorem dX7_roundOf_20 : decode cX7_roundOf 20 = .ok (.istore_n 2, 1) := by decide +kernel
theorem dX7_roundOf_21 : decode cX7_roundOf 21 = .ok (.iinc 3 1, 3) := by decide +kernel
theorem dX7_roundOf_24 : decode cX7_roundOf 24 = .ok (.goto (-20), 3) := by decide +kernel
theorem dX7_roundOf_27 : decode cX7_roundOf 27 = .ok (.iload_n 2, 1) := by decide +kernel
theorem dX7_roundOf_28 : decode cX7_roundOf 28 = .ok (.ireturn, 1) := by decide +kernel
theorem dX7_round_0 : decode cX7_round 0 = .ok (.iload_n 1, 1) := by decide +kernel
theorem dX7_round_1 : decode cX7_round 1 = .ok (.invokestatic 60, 3) := by decide +kernel
theorem dX7_round_4 : decode cX7_round 4 = .ok (.ifCond .eq 15, 3) := by decide +kernel
theorem dX7_round_7 : decode cX7_round 7 = .ok (.iload_n 2, 1) := by decide +kernel
theorem dX7_round_8 : decode cX7_round 8 = .ok (.i2l, 1) := by decide +kernel
theorem dX7_round_9 : decode cX7_round 9 = .ok (.lconst 0, 1) := by decide +kernel
theorem dX7_round_10 : decode cX7_round 10 = .ok (.ldc2_w 220, 3) := by decide +kernel
theorem dX7_round_13 : decode cX7_round 13 = .ok (.invokestatic 43, 3) := by decide +kernel
theorem dX7_round_16 : decode cX7_round 16 = .ok (.ifCond .ne 10, 3) := by decide +kernel
theorem dX7_round_19 : decode cX7_round 19 = .ok (.aload_n 0, 1) := by decide +kernel
theorem dX7_round_20 : decode cX7_round 20 = .ok (.ldc 40, 2) := by decide +kernel
theorem dX7_round_22 : decode cX7_round 22 = .ok (.invokevirtual 68, 3) := by decide +kernel
theorem dX7_round_25 : decode cX7_round 25 = .ok (.ireturn, 1) := by decide +kernel
theorem dX7_round_26 : decode cX7_round 26 = .ok (.iload_n 1, 1) := by decide +kernel
theorem dX7_round_27 : decode cX7_round 27 = .ok (.istore_n 3, 1) := by decide +kernel
theorem dX7_round_28 : decode cX7_round 28 = .ok (.iconst 0, 1) := by decide +kernel
theorem dX7_round_29 : decode cX7_round 29 = .ok (.istore 4, 2) := by decide +kernel
theorem dX7_round_31 : decode cX7_round 31 = .ok (.iload 4, 2) := by decide +kernel
theorem dX7_round_33 : decode cX7_round 33 = .ok (.iload_n 2, 1) := by decide +kernel
theorem dX7_round_34 : decode cX7_round 34 = .ok (.if_icmp .ge 15, 3) := by decide +kernel
theorem dX7_round_37 : decode cX7_round 37 = .ok (.aload_n 0, 1) := by decide +kernel
theorem dX7_round_38 : decode cX7_round 38 = .ok (.iload_n 3, 1) := by decide +kernel
theorem dX7_round_39 : decode cX7_round 39 = .ok (.invokevirtual 222, 3) := by decide +kernel
theorem dX7_round_42 : decode cX7_round 42 = .ok (.istore_n 3, 1) := by decide +kernel
theorem dX7_round_43 : decode cX7_round 43 = .ok (.iinc 4 1, 3) := by decide +kernel
theorem dX7_round_46 : decode cX7_round 46 = .ok (.goto (-15), 3) := by decide +kernel
theorem dX7_round_49 : decode cX7_round 49 = .ok (.iload_n 3, 1) := by decide +kernel
theorem dX7_round_50 : decode cX7_round 50 = .ok (.ireturn, 1) := by decide +kernel
theorem dX7_settles_0 : decode cX7_settles 0 = .ok (.iload_n 1, 1) := by decide +kernel
theorem dX7_settles_1 : decode cX7_settles 1 = .ok (.invokestatic 60, 3) := by decide +kernel
theorem dX7_settles_4 : decode cX7_settles 4 = .ok (.ifCond .ne 10, 3) := by decide +kernel
theorem dX7_settles_7 : decode cX7_settles 7 = .ok (.aload_n 0, 1) := by decide +kernel
theorem dX7_settles_8 : decode cX7_settles 8 = .ok (.ldc 40, 2) := by decide +kernel
theorem dX7_settles_10 : decode cX7_settles 10 = .ok (.invokevirtual 68, 3) := by decide +kernel
theorem dX7_settles_13 : decode cX7_settles 13 = .ok (.ireturn, 1) := by decide +kernel
theorem dX7_settles_14 : decode cX7_settles 14 = .ok (.aload_n 0, 1) := by decide +kernel
theorem dX7_settles_15 : decode cX7_settles 15 = .ok (.getfield 22, 3) := by decide +kernel
theorem dX7_settles_18 : decode cX7_settles 18 = .ok (.iconst 0, 1) := by decide +kernel
theorem dX7_settles_19 : decode cX7_settles 19 = .ok (.iload_n 1, 1) := by decide +kernel
theorem dX7_settles_20 : decode cX7_settles 20 = .ok (.iastore, 1) := by decide +kernel
theorem dX7_settles_21 : decode cX7_settles 21 = .ok (.iconst 1, 1) := by decide +kernel
theorem dX7_settles_22 : decode cX7_settles 22 = .ok (.istore_n 2, 1) := by decide +kernel
theorem dX7_settles_23 : decode cX7_settles 23 = .ok (.iload_n 2, 1) := by decide +kernel
theorem dX7_settles_24 : decode cX7_settles 24 = .ok (.bipush 101, 2) := by decide +kernel
theorem dX7_settles_26 : decode cX7_settles 26 = .ok (.if_icmp .ge 57, 3) := by decide +kernel
theorem dX7_settles_29 : decode cX7_settles 29 = .ok (.aload_n 0, 1) := by decide +kernel
theorem dX7_settles_30 : decode cX7_settles 30 = .ok (.getfield 22, 3) := by decide +kernel
theorem dX7_settles_33 : decode cX7_settles 33 = .ok (.iload_n 2, 1) := by decide +kernel
theorem dX7_settles_34 : decode cX7_settles 34 = .ok (.aload_n 0, 1) := by decide +kernel
theorem dX7_settles_35 : decode cX7_settles 35 = .ok (.aload_n 0, 1) := by decide +kernel
theorem dX7_settles_36 : decode cX7_settles 36 = .ok (.getfield 22, 3) := by decide +kernel
theorem dX7_settles_39 : decode cX7_settles 39 = .ok (.iload_n 2, 1) := by decide +kernel
theorem dX7_settles_40 : decode cX7_settles 40 = .ok (.iconst 1, 1) := by decide +kernel
theorem dX7_settles_41 : decode cX7_settles 41 = .ok (.isub, 1) := by decide +kernel
theorem dX7_settles_42 : decode cX7_settles 42 = .ok (.iaload, 1) := by decide +kernel
theorem dX7_settles_43 : decode cX7_settles 43 = .ok (.invokevirtual 222, 3) := by decide +kernel
theorem dX7_settles_46 : decode cX7_settles 46 = .ok (.iastore, 1) := by decide +kernel
theorem dX7_settles_47 : decode cX7_settles 47 = .ok (.iconst 0, 1) := by decide +kernel
theorem dX7_settles_48 : decode cX7_settles 48 = .ok (.istore_n 3, 1) := by decide +kernel
theorem dX7_settles_49 : decode cX7_settles 49 = .ok (.iload_n 3, 1) := by decide +kernel
theorem dX7_settles_50 : decode cX7_settles 50 = .ok (.iload_n 2, 1) := by decide +kernel
theorem dX7_settles_51 : decode cX7_settles 51 = .ok (.if_icmp .ge 26, 3) := by decide +kernel
theorem dX7_settles_54 : decode cX7_settles 54 = .ok (.aload_n 0, 1) := by decide +kernel
theorem dX7_settles_55 : decode cX7_settles 55 = .ok (.getfield 22, 3) := by decide +kernel
theorem dX7_settles_58 : decode cX7_settles 58 = .ok (.iload_n 3, 1) := by decide +kernel
theorem dX7_settles_59 : decode cX7_settles 59 = .ok (.iaload, 1) := by decide +kernel
theorem dX7_settles_60 : decode cX7_settles 60 = .ok (.aload_n 0, 1) := by decide +kernel
theorem dX7_settles_61 : decode cX7_settles 61 = .ok (.getfield 22, 3) := by decide +kernel
theorem dX7_settles_64 : decode cX7_settles 64 = .ok (.iload_n 2, 1) := by decide +kernel
theorem dX7_settles_65 : decode cX7_settles 65 = .ok (.iaload, 1) := by decide +kernel
theorem dX7_settles_66 : decode cX7_settles 66 = .ok (.if_icmp .ne 5, 3) := by decide +kernel
theorem dX7_settles_69 : decode cX7_settles 69 = .ok (.iload_n 2, 1) := by decide +kernel
theorem dX7_settles_70 : decode cX7_settles 70 = .ok (.ireturn, 1) := by decide +kernel
theorem dX7_settles_71 : decode cX7_settles 71 = .ok (.iinc 3 1, 3) := by decide +kernel
theorem dX7_settles_74 : decode cX7_settles 74 = .ok (.goto (-25), 3) := by decide +kernel
theorem dX7_settles_77 : decode cX7_settles 77 = .ok (.iinc 2 1, 3) := by decide +kernel
theorem dX7_settles_80 : decode cX7_settles 80 = .ok (.goto (-57), 3) := by decide +kernel
theorem dX7_settles_83 : decode cX7_settles 83 = .ok (.aload_n 0, 1) := by decide +kernel
theorem dX7_settles_84 : decode cX7_settles 84 = .ok (.ldc 195, 2) := by decide +kernel
theorem dX7_settles_86 : decode cX7_settles 86 = .ok (.invokevirtual 68, 3) := by decide +kernel
theorem dX7_settles_89 : decode cX7_settles 89 = .ok (.ireturn, 1) := by decide +kernel
theorem dX7_court_0 : decode cX7_court 0 = .ok (.aload_n 0, 1) := by decide +kernel
theorem dX7_court_1 : decode cX7_court 1 = .ok (.iload_n 1, 1) := by decide +kernel
theorem dX7_court_2 : decode cX7_court 2 = .ok (.invokevirtual 76, 3) := by decide +kernel
theorem dX7_court_5 : decode cX7_court 5 = .ok (.ifCond .eq 18, 3) := by decide +kernel
theorem dX7_court_8 : decode cX7_court 8 = .ok (.aload_n 0, 1) := by decide +kernel
theorem dX7_court_9 : decode cX7_court 9 = .ok (.iload_n 2, 1) := by decide +kernel
theorem dX7_court_10 : decode cX7_court 10 = .ok (.invokevirtual 76, 3) := by decide +kernel
theorem dX7_court_13 : decode cX7_court 13 = .ok (.ifCond .eq 10, 3) := by decide +kernel
theorem dX7_court_16 : decode cX7_court 16 = .ok (.iload_n 3, 1) := by decide +kernel
theorem dX7_court_17 : decode cX7_court 17 = .ok (.invokestatic 60, 3) := by decide +kernel
theorem dX7_court_20 : decode cX7_court 20 = .ok (.ifCond .ne 10, 3) := by decide +kernel
theorem dX7_court_23 : decode cX7_court 23 = .ok (.aload_n 0, 1) := by decide +kernel
theorem dX7_court_24 : decode cX7_court 24 = .ok (.ldc 40, 2) := by decide +kernel
theorem dX7_court_26 : decode cX7_court 26 = .ok (.invokevirtual 68, 3) := by decide +kernel
theorem dX7_court_29 : decode cX7_court 29 = .ok (.ireturn, 1) := by decide +kernel
theorem dX7_court_30 : decode cX7_court 30 = .ok (.aload_n 0, 1) := by decide +kernel
theorem dX7_court_31 : decode cX7_court 31 = .ok (.iload_n 2, 1) := by decide +kernel
theorem dX7_court_32 : decode cX7_court 32 = .ok (.aload_n 0, 1) := by decide +kernel
theorem dX7_court_33 : decode cX7_court 33 = .ok (.iload_n 1, 1) := by decide +kernel
theorem dX7_court_34 : decode cX7_court 34 = .ok (.iload_n 3, 1) := by decide +kernel
theorem dX7_court_35 : decode cX7_court 35 = .ok (.invokevirtual 126, 3) := by decide +kernel
theorem dX7_court_38 : decode cX7_court 38 = .ok (.invokevirtual 126, 3) := by decide +kernel
theorem dX7_court_41 : decode cX7_court 41 = .ok (.istore 4, 2) := by decide +kernel
theorem dX7_court_43 : decode cX7_court 43 = .ok (.iload_n 3, 1) := by decide +kernel
theorem dX7_court_44 : decode cX7_court 44 = .ok (.iload 4, 2) := by decide +kernel
theorem dX7_court_46 : decode cX7_court 46 = .ok (.iconst (-1), 1) := by decide +kernel
theorem dX7_court_47 : decode cX7_court 47 = .ok (.ixor, 1) := by decide +kernel
theorem dX7_court_48 : decode cX7_court 48 = .ok (.iand, 1) := by decide +kernel
theorem dX7_court_49 : decode cX7_court 49 = .ok (.invokestatic 162, 3) := by decide +kernel
theorem dX7_court_52 : decode cX7_court 52 = .ok (.bipush 100, 2) := by decide +kernel
theorem dX7_court_54 : decode cX7_court 54 = .ok (.iload 4, 2) := by decide +kernel
theorem dX7_court_56 : decode cX7_court 56 = .ok (.iload_n 3, 1) := by decide +kernel
theorem dX7_court_57 : decode cX7_court 57 = .ok (.iconst (-1), 1) := by decide +kernel
theorem dX7_court_58 : decode cX7_court 58 = .ok (.ixor, 1) := by decide +kernel
theorem dX7_court_59 : decode cX7_court 59 = .ok (.iand, 1) := by decide +kernel
theorem dX7_court_60 : decode cX7_court 60 = .ok (.invokestatic 162, 3) := by decide +kernel
theorem dX7_court_63 : decode cX7_court 63 = .ok (.imul, 1) := by decide +kernel
theorem dX7_court_64 : decode cX7_court 64 = .ok (.iadd, 1) := by decide +kernel
theorem dX7_court_65 : decode cX7_court 65 = .ok (.ireturn, 1) := by decide +kernel
theorem dX7_witness_0 : decode cX7_witness 0 = .ok (.aload_n 0, 1) := by decide +kernel
theorem dX7_witness_1 : decode cX7_witness 1 = .ok (.iload_n 1, 1) := by decide +kernel
theorem dX7_witness_2 : decode cX7_witness 2 = .ok (.invokevirtual 76, 3) := by decide +kernel
theorem dX7_witness_5 : decode cX7_witness 5 = .ok (.ifCond .ne 10, 3) := by decide +kernel
theorem dX7_witness_8 : decode cX7_witness 8 = .ok (.aload_n 0, 1) := by decide +kernel
theorem dX7_witness_9 : decode cX7_witness 9 = .ok (.ldc 40, 2) := by decide +kernel
theorem dX7_witness_11 : decode cX7_witness 11 = .ok (.invokevirtual 68, 3) := by decide +kernel
theorem dX7_witness_14 : decode cX7_witness 14 = .ok (.ireturn, 1) := by decide +kernel
theorem dX7_witness_15 : decode cX7_witness 15 = .ok (.iconst 0, 1) := by decide +kernel
theorem dX7_witness_16 : decode cX7_witness 16 = .ok (.istore_n 2, 1) := by decide +kernel
theorem dX7_witness_17 : decode cX7_witness 17 = .ok (.sipush 9999, 3) := by decide +kernel
theorem dX7_witness_20 : decode cX7_witness 20 = .ok (.istore_n 3, 1) := by decide +kernel
theorem dX7_witness_21 : decode cX7_witness 21 = .ok (.iconst 0, 1) := by decide +kernel
theorem dX7_witness_22 : decode cX7_witness 22 = .ok (.istore 4, 2) := by decide +kernel
theorem dX7_witness_24 : decode cX7_witness 24 = .ok (.iload 4, 2) := by decide +kernel
theorem dX7_witness_26 : decode cX7_witness 26 = .ok (.aload_n 0, 1) := by decide +kernel
theorem dX7_witness_27 : decode cX7_witness 27 = .ok (.getfield 7, 3) := by decide +kernel
theorem dX7_witness_30 : decode cX7_witness 30 = .ok (.iconst 0, 1) := by decide +kernel
theorem dX7_witness_31 : decode cX7_witness 31 = .ok (.iaload, 1) := by decide +kernel
theorem dX7_witness_32 : decode cX7_witness 32 = .ok (.if_icmp .ge 83, 3) := by decide +kernel
theorem dX7_witness_35 : decode cX7_witness 35 = .ok (.iconst 0, 1) := by decide +kernel
theorem dX7_witness_36 : decode cX7_witness 36 = .ok (.istore 5, 2) := by decide +kernel
theorem dX7_witness_38 : decode cX7_witness 38 = .ok (.iconst 0, 1) := by decide +kernel
theorem dX7_witness_39 : decode cX7_witness 39 = .ok (.istore 6, 2) := by decide +kernel
theorem dX7_witness_41 : decode cX7_witness 41 = .ok (.iload 6, 2) := by decide +kernel
theorem dX7_witness_43 : decode cX7_witness 43 = .ok (.sipush 4096, 3) := by decide +kernel
theorem dX7_witness_46 : decode cX7_witness 46 = .ok (.if_icmp .ge 37, 3) := by decide +kernel
theorem dX7_witness_49 : decode cX7_witness 49 = .ok (.iload 5, 2) := by decide +kernel
theorem dX7_witness_51 : decode cX7_witness 51 = .ok (.aload_n 0, 1) := by decide +kernel
theorem dX7_witness_52 : decode cX7_witness 52 = .ok (.iload 4, 2) := by decide +kernel
theorem dX7_witness_54 : decode cX7_witness 54 = .ok (.aload_n 0, 1) := by decide +kernel
theorem dX7_witness_55 : decode cX7_witness 55 = .ok (.iload_n 1, 1) := by decide +kernel
theorem dX7_witness_56 : decode cX7_witness 56 = .ok (.iload 6, 2) := by decide +kernel
theorem dX7_witness_58 : decode cX7_witness 58 = .ok (.invokevirtual 126, 3) := by decide +kernel
theorem dX7_witness_61 : decode cX7_witness 61 = .ok (.invokevirtual 126, 3) := by decide +kernel
theorem dX7_witness_64 : decode cX7_witness 64 = .ok (.iload 6, 2) := by decide +kernel
theorem dX7_witness_66 : decode cX7_witness 66 = .ok (.if_icmp .ne 7, 3) := by decide +kernel
theorem dX7_witness_69 : decode cX7_witness 69 = .ok (.iconst 0, 1) := by decide +kernel
theorem dX7_witness_70 : decode cX7_witness 70 = .ok (.goto 4, 3) := by decide +kernel
theorem dX7_witness_73 : decode cX7_witness 73 = .ok (.iconst 1, 1) := by decide +kernel
theorem dX7_witness_74 : decode cX7_witness 74 = .ok (.iadd, 1) := by decide +kernel
theorem dX7_witness_75 : decode cX7_witness 75 = .ok (.istore 5, 2) := by decide +kernel
theorem dX7_witness_77 : decode cX7_witness 77 = .ok (.iinc 6 1, 3) := by decide +kernel
theorem dX7_witness_80 : decode cX7_witness 80 = .ok (.goto (-39), 3) := by decide +kernel
theorem dX7_witness_83 : decode cX7_witness 83 = .ok (.iload 5, 2) := by decide +kernel
theorem dX7_witness_85 : decode cX7_witness 85 = .ok (.iload_n 3, 1) := by decide +kernel
theorem dX7_witness_86 : decode cX7_witness 86 = .ok (.if_icmp .ge 8, 3) := by decide +kernel
theorem dX7_witness_89 : decode cX7_witness 89 = .ok (.iload 4, 2) := by decide +kernel
theorem dX7_witness_91 : decode cX7_witness 91 = .ok (.goto 4, 3) := by decide +kernel
theorem dX7_witness_94 : decode cX7_witness 94 = .ok (.iload_n 2, 1) := by decide +kernel
theorem dX7_witness_95 : decode cX7_witness 95 = .ok (.istore_n 2, 1) := by decide +kernel
theorem dX7_witness_96 : decode cX7_witness 96 = .ok (.iload 5, 2) := by decide +kernel
theorem dX7_witness_98 : decode cX7_witness 98 = .ok (.iload_n 3, 1) := by decide +kernel
theorem dX7_witness_99 : decode cX7_witness 99 = .ok (.if_icmp .ge 8, 3) := by decide +kernel
theorem dX7_witness_102 : decode cX7_witness 102 = .ok (.iload 5, 2) := by decide +kernel
theorem dX7_witness_104 : decode cX7_witness 104 = .ok (.goto 4, 3) := by decide +kernel
theorem dX7_witness_107 : decode cX7_witness 107 = .ok (.iload_n 3, 1) := by decide +kernel
theorem dX7_witness_108 : decode cX7_witness 108 = .ok (.istore_n 3, 1) := by decide +kernel
theorem dX7_witness_109 : decode cX7_witness 109 = .ok (.iinc 4 1, 3) := by decide +kernel
theorem dX7_witness_112 : decode cX7_witness 112 = .ok (.goto (-88), 3) := by decide +kernel
theorem dX7_witness_115 : decode cX7_witness 115 = .ok (.iload_n 2, 1) := by decide +kernel
theorem dX7_witness_116 : decode cX7_witness 116 = .ok (.ireturn, 1) := by decide +kernel
theorem dX7_price_0 : decode cX7_price 0 = .ok (.aload_n 0, 1) := by decide +kernel
theorem dX7_price_1 : decode cX7_price 1 = .ok (.iload_n 1, 1) := by decide +kernel
theorem dX7_price_2 : decode cX7_price 2 = .ok (.invokevirtual 76, 3) := by decide +kernel
theorem dX7_price_5 : decode cX7_price 5 = .ok (.ifCond .eq 15, 3) := by decide +kernel
theorem dX7_price_8 : decode cX7_price 8 = .ok (.iload_n 2, 1) := by decide +kernel
theorem dX7_price_9 : decode cX7_price 9 = .ok (.i2l, 1) := by decide +kernel
theorem dX7_price_10 : decode cX7_price 10 = .ok (.lconst 1, 1) := by decide +kernel
theorem dX7_price_11 : decode cX7_price 11 = .ok (.ldc2_w 220, 3) := by decide +kernel
theorem dX7_price_14 : decode cX7_price 14 = .ok (.invokestatic 43, 3) := by decide +kernel
theorem dX7_price_17 : decode cX7_price 17 = .ok (.ifCond .ne 10, 3) := by decide +kernel
theorem dX7_price_20 : decode cX7_price 20 = .ok (.aload_n 0, 1) := by decide +kernel
theorem dX7_price_21 : decode cX7_price 21 = .ok (.ldc 40, 2) := by decide +kernel
theorem dX7_price_23 : decode cX7_price 23 = .ok (.invokevirtual 68, 3) := by decide +kernel
theorem dX7_price_26 : decode cX7_price 26 = .ok (.ireturn, 1) := by decide +kernel
theorem dX7_price_27 : decode cX7_price 27 = .ok (.aload_n 0, 1) := by decide +kernel
theorem dX7_price_28 : decode cX7_price 28 = .ok (.iload_n 2, 1) := by decide +kernel
theorem dX7_price_29 : decode cX7_price 29 = .ok (.invokevirtual 156, 3) := by decide +kernel
theorem dX7_price_32 : decode cX7_price 32 = .ok (.ifCond .eq 10, 3) := by decide +kernel
theorem dX7_price_35 : decode cX7_price 35 = .ok (.aload_n 0, 1) := by decide +kernel
theorem dX7_price_36 : decode cX7_price 36 = .ok (.ldc 150, 2) := by decide +kernel
theorem dX7_price_38 : decode cX7_price 38 = .ok (.invokevirtual 68, 3) := by decide +kernel
theorem dX7_price_41 : decode cX7_price 41 = .ok (.ireturn, 1) := by decide +kernel
theorem dX7_price_42 : decode cX7_price 42 = .ok (.aload_n 0, 1) := by decide +kernel
theorem dX7_price_43 : decode cX7_price 43 = .ok (.invokevirtual 183, 3) := by decide +kernel
theorem dX7_price_46 : decode cX7_price 46 = .ok (.iconst 0, 1) := by decide +kernel
theorem dX7_price_47 : decode cX7_price 47 = .ok (.istore_n 3, 1) := by decide +kernel
theorem dX7_price_48 : decode cX7_price 48 = .ok (.iconst (-1), 1) := by decide +kernel
theorem dX7_price_49 : decode cX7_price 49 = .ok (.istore 4, 2) := by decide +kernel
theorem dX7_price_51 : decode cX7_price 51 = .ok (.iconst 0, 1) := by decide +kernel
theorem dX7_price_52 : decode cX7_price 52 = .ok (.istore 5, 2) := by decide +kernel
theorem dX7_price_54 : decode cX7_price 54 = .ok (.iload 5, 2) := by decide +kernel
theorem dX7_price_56 : decode cX7_price 56 = .ok (.bipush 100, 2) := by decide +kernel
theorem dX7_price_58 : decode cX7_price 58 = .ok (.if_icmp .ge 70, 3) := by decide +kernel
theorem dX7_price_61 : decode cX7_price 61 = .ok (.aload_n 0, 1) := by decide +kernel
theorem dX7_price_62 : decode cX7_price 62 = .ok (.getfield 7, 3) := by decide +kernel
theorem dX7_price_65 : decode cX7_price 65 = .ok (.iload_n 1, 1) := by decide +kernel
theorem dX7_price_66 : decode cX7_price 66 = .ok (.iconst 4, 1) := by decide +kernel
theorem dX7_price_67 : decode cX7_price 67 = .ok (.invokestatic 50, 3) := by decide +kernel
theorem dX7_price_70 : decode cX7_price 70 = .ok (.iload 5, 2) := by decide +kernel
theorem dX7_price_72 : decode cX7_price 72 = .ok (.iastore, 1) := by decide +kernel
theorem dX7_price_73 : decode cX7_price 73 = .ok (.aload_n 0, 1) := by decide +kernel
theorem dX7_price_74 : decode cX7_price 74 = .ok (.iload_n 2, 1) := by decide +kernel
theorem dX7_price_75 : decode cX7_price 75 = .ok (.invokevirtual 159, 3) := by decide +kernel
theorem dX7_price_78 : decode cX7_price 78 = .ok (.istore 6, 2) := by decide +kernel
theorem dX7_price_80 : decode cX7_price 80 = .ok (.aload_n 0, 1) := by decide +kernel
theorem dX7_price_81 : decode cX7_price 81 = .ok (.iload_n 1, 1) := by decide +kernel
theorem dX7_price_82 : decode cX7_price 82 = .ok (.iconst 5, 1) := by decide +kernel
theorem dX7_price_83 : decode cX7_price 83 = .ok (.invokevirtual 81, 3) := by decide +kernel
theorem dX7_price_86 : decode cX7_price 86 = .ok (.istore 7, 2) := by decide +kernel
theorem dX7_price_88 : decode cX7_price 88 = .ok (.aload_n 0, 1) := by decide +kernel
theorem dX7_price_89 : decode cX7_price 89 = .ok (.invokevirtual 192, 3) := by decide +kernel
theorem dX7_price_92 : decode cX7_price 92 = .ok (.iload 7, 2) := by decide +kernel
theorem dX7_price_94 : decode cX7_price 94 = .ok (.iload 4, 2) := by decide +kernel
theorem dX7_price_96 : decode cX7_price 96 = .ok (.if_icmp .le 8, 3) := by decide +kernel
theorem dX7_price_99 : decode cX7_price 99 = .ok (.iload 5, 2) := by decide +kernel
theorem dX7_price_101 : decode cX7_price 101 = .ok (.goto 4, 3) := by decide +kernel
theorem dX7_price_104 : decode cX7_price 104 = .ok (.iload_n 3, 1) := by decide +kernel
theorem dX7_price_105 : decode cX7_price 105 = .ok (.istore_n 3, 1) := by decide +kernel
theorem dX7_price_106 : decode cX7_price 106 = .ok (.iload 7, 2) := by decide +kernel
theorem dX7_price_108 : decode cX7_price 108 = .ok (.iload 4, 2) := by decide +kernel
theorem dX7_price_110 : decode cX7_price 110 = .ok (.if_icmp .le 8, 3) := by decide +kernel
theorem dX7_price_113 : decode cX7_price 113 = .ok (.iload 7, 2) := by decide +kernel
theorem dX7_price_115 : decode cX7_price 115 = .ok (.goto 5, 3) := by decide +kernel
theorem dX7_price_118 : decode cX7_price 118 = .ok (.iload 4, 2) := by decide +kernel
theorem dX7_price_120 : decode cX7_price 120 = .ok (.istore 4, 2) := by decide +kernel
theorem dX7_price_122 : decode cX7_price 122 = .ok (.iinc 5 1, 3) := by decide +kernel
theorem dX7_price_125 : decode cX7_price 125 = .ok (.goto (-71), 3) := by decide +kernel
theorem dX7_price_128 : decode cX7_price 128 = .ok (.iload_n 3, 1) := by decide +kernel
theorem dX7_price_129 : decode cX7_price 129 = .ok (.ireturn, 1) := by decide +kernel
theorem dX7_school_0 : decode cX7_school 0 = .ok (.iload_n 1, 1) := by decide +kernel
theorem dX7_school_1 : decode cX7_school 1 = .ok (.i2l, 1) := by decide +kernel
theorem dX7_school_2 : decode cX7_school 2 = .ok (.ldc2_w 218, 3) := by decide +kernel
theorem dX7_school_5 : decode cX7_school 5 = .ok (.ldc2_w 225, 3) := by decide +kernel
theorem dX7_school_8 : decode cX7_school 8 = .ok (.invokestatic 43, 3) := by decide +kernel
theorem dX7_school_11 : decode cX7_school 11 = .ok (.ifCond .ne 10, 3) := by decide +kernel
theorem dX7_school_14 : decode cX7_school 14 = .ok (.aload_n 0, 1) := by decide +kernel
theorem dX7_school_15 : decode cX7_school 15 = .ok (.ldc 40, 2) := by decide +kernel
theorem dX7_school_17 : decode cX7_school 17 = .ok (.invokevirtual 68, 3) := by decide +kernel
theorem dX7_school_20 : decode cX7_school 20 = .ok (.ireturn, 1) := by decide +kernel
theorem dX7_school_21 : decode cX7_school 21 = .ok (.aload_n 0, 1) := by decide +kernel
theorem dX7_school_22 : decode cX7_school 22 = .ok (.iconst 1, 1) := by decide +kernel
theorem dX7_school_23 : decode cX7_school 23 = .ok (.invokevirtual 156, 3) := by decide +kernel
theorem dX7_school_26 : decode cX7_school 26 = .ok (.ifCond .eq 10, 3) := by decide +kernel
theorem dX7_school_29 : decode cX7_school 29 = .ok (.aload_n 0, 1) := by decide +kernel
theorem dX7_school_30 : decode cX7_school 30 = .ok (.ldc 150, 2) := by decide +kernel
theorem dX7_school_32 : decode cX7_school 32 = .ok (.invokevirtual 68, 3) := by decide +kernel
theorem dX7_school_35 : decode cX7_school 35 = .ok (.ireturn, 1) := by decide +kernel
theorem dX7_school_36 : decode cX7_school 36 = .ok (.aload_n 0, 1) := by decide +kernel
theorem dX7_school_37 : decode cX7_school 37 = .ok (.invokevirtual 183, 3) := by decide +kernel
theorem dX7_school_40 : decode cX7_school 40 = .ok (.aload_n 0, 1) := by decide +kernel
theorem dX7_school_41 : decode cX7_school 41 = .ok (.iconst 0, 1) := by decide +kernel
theorem dX7_school_42 : decode cX7_school 42 = .ok (.putfield 142, 3) := by decide +kernel
theorem dX7_school_45 : decode cX7_school 45 = .ok (.aload_n 0, 1) := by decide +kernel
theorem dX7_school_46 : decode cX7_school 46 = .ok (.invokevirtual 151, 3) := by decide +kernel
theorem dX7_school_49 : decode cX7_school 49 = .ok (.aload_n 0, 1) := by decide +kernel
theorem dX7_school_50 : decode cX7_school 50 = .ok (.getfield 142, 3) := by decide +kernel
theorem dX7_school_53 : decode cX7_school 53 = .ok (.istore_n 2, 1) := by decide +kernel
theorem dX7_school_54 : decode cX7_school 54 = .ok (.aload_n 0, 1) := by decide +kernel
theorem dX7_school_55 : decode cX7_school 55 = .ok (.invokevirtual 192, 3) := by decide +kernel
theorem dX7_school_58 : decode cX7_school 58 = .ok (.iconst 0, 1) := by decide +kernel
theorem dX7_school_59 : decode cX7_school 59 = .ok (.istore_n 3, 1) := by decide +kernel
theorem dX7_school_60 : decode cX7_school 60 = .ok (.iload_n 3, 1) := by decide +kernel
theorem dX7_school_61 : decode cX7_school 61 = .ok (.aload_n 0, 1) := by decide +kernel
theorem dX7_school_62 : decode cX7_school 62 = .ok (.getfield 7, 3) := by decide +kernel
theorem dX7_school_65 : decode cX7_school 65 = .ok (.iconst 1, 1) := by decide +kernel
theorem dX7_school_66 : decode cX7_school 66 = .ok (.iaload, 1) := by decide +kernel
theorem dX7_school_67 : decode cX7_school 67 = .ok (.if_icmp .ge 21, 3) := by decide +kernel
theorem dX7_school_70 : decode cX7_school 70 = .ok (.aload_n 0, 1) := by decide +kernel
theorem dX7_school_71 : decode cX7_school 71 = .ok (.getfield 7, 3) := by decide +kernel
theorem dX7_school_74 : decode cX7_school 74 = .ok (.iload_n 3, 1) := by decide +kernel
theorem dX7_school_75 : decode cX7_school 75 = .ok (.iconst 4, 1) := by decide +kernel
theorem dX7_school_76 : decode cX7_school 76 = .ok (.invokestatic 84, 3) := by decide +kernel
theorem dX7_school_79 : decode cX7_school 79 = .ok (.iconst 1, 1) := by decide +kernel
theorem dX7_school_80 : decode cX7_school 80 = .ok (.iastore, 1) := by decide +kernel
theorem dX7_school_81 : decode cX7_school 81 = .ok (.iload_n 3, 1) := by decide +kernel
theorem dX7_school_82 : decode cX7_school 82 = .ok (.iload_n 1, 1) := by decide +kernel
theorem dX7_school_83 : decode cX7_school 83 = .ok (.iadd, 1) := by decide +kernel
theorem dX7_school_84 : decode cX7_school 84 = .ok (.istore_n 3, 1) := by decide +kernel
theorem dX7_school_85 : decode cX7_school 85 = .ok (.goto (-25), 3) := by decide +kernel
theorem dX7_school_88 : decode cX7_school 88 = .ok (.aload_n 0, 1) := by decide +kernel
theorem dX7_school_89 : decode cX7_school 89 = .ok (.iconst 0, 1) := by decide +kernel
theorem dX7_school_90 : decode cX7_school 90 = .ok (.putfield 142, 3) := by decide +kernel
theorem dX7_school_93 : decode cX7_school 93 = .ok (.aload_n 0, 1) := by decide +kernel
theorem dX7_school_94 : decode cX7_school 94 = .ok (.invokevirtual 151, 3) := by decide +kernel
theorem dX7_school_97 : decode cX7_school 97 = .ok (.aload_n 0, 1) := by decide +kernel
theorem dX7_school_98 : decode cX7_school 98 = .ok (.invokevirtual 192, 3) := by decide +kernel
theorem dX7_school_101 : decode cX7_school 101 = .ok (.iload_n 2, 1) := by decide +kernel
theorem dX7_school_102 : decode cX7_school 102 = .ok (.aload_n 0, 1) := by decide +kernel
theorem dX7_school_103 : decode cX7_school 103 = .ok (.getfield 142, 3) := by decide +kernel
theorem dX7_school_106 : decode cX7_school 106 = .ok (.isub, 1) := by decide +kernel
theorem dX7_school_107 : decode cX7_school 107 = .ok (.ireturn, 1) := by decide +kernel
theorem dX7_gossip_0 : decode cX7_gossip 0 = .ok (.iload_n 1, 1) := by decide +kernel
theorem dX7_gossip_1 : decode cX7_gossip 1 = .ok (.i2l, 1) := by decide +kernel
theorem dX7_gossip_2 : decode cX7_gossip 2 = .ok (.lconst 1, 1) := by decide +kernel
theorem dX7_gossip_3 : decode cX7_gossip 3 = .ok (.ldc2_w 227, 3) := by decide +kernel
theorem dX7_gossip_6 : decode cX7_gossip 6 = .ok (.invokestatic 43, 3) := by decide +kernel
theorem dX7_gossip_9 : decode cX7_gossip 9 = .ok (.ifCond .ne 10, 3) := by decide +kernel
theorem dX7_gossip_12 : decode cX7_gossip 12 = .ok (.aload_n 0, 1) := by decide +kernel
theorem dX7_gossip_13 : decode cX7_gossip 13 = .ok (.ldc 40, 2) := by decide +kernel
theorem dX7_gossip_15 : decode cX7_gossip 15 = .ok (.invokevirtual 68, 3) := by decide +kernel
theorem dX7_gossip_18 : decode cX7_gossip 18 = .ok (.ireturn, 1) := by decide +kernel
theorem dX7_gossip_19 : decode cX7_gossip 19 = .ok (.aload_n 0, 1) := by decide +kernel
theorem dX7_gossip_20 : decode cX7_gossip 20 = .ok (.getfield 7, 3) := by decide +kernel
theorem dX7_gossip_23 : decode cX7_gossip 23 = .ok (.iconst 1, 1) := by decide +kernel
theorem dX7_gossip_24 : decode cX7_gossip 24 = .ok (.iaload, 1) := by decide +kernel
theorem dX7_gossip_25 : decode cX7_gossip 25 = .ok (.ifCond .ne 10, 3) := by decide +kernel
theorem dX7_gossip_28 : decode cX7_gossip 28 = .ok (.aload_n 0, 1) := by decide +kernel
theorem dX7_gossip_29 : decode cX7_gossip 29 = .ok (.ldc 150, 2) := by decide +kernel
theorem dX7_gossip_31 : decode cX7_gossip 31 = .ok (.invokevirtual 68, 3) := by decide +kernel
theorem dX7_gossip_34 : decode cX7_gossip 34 = .ok (.ireturn, 1) := by decide +kernel
theorem dX7_gossip_35 : decode cX7_gossip 35 = .ok (.iconst 0, 1) := by decide +kernel
theorem dX7_gossip_36 : decode cX7_gossip 36 = .ok (.istore_n 2, 1) := by decide +kernel
theorem dX7_gossip_37 : decode cX7_gossip 37 = .ok (.iload_n 2, 1) := by decide +kernel
theorem dX7_gossip_38 : decode cX7_gossip 38 = .ok (.iload_n 1, 1) := by decide +kernel
theorem dX7_gossip_39 : decode cX7_gossip 39 = .ok (.if_icmp .ge 43, 3) := by decide +kernel
theorem dX7_gossip_42 : decode cX7_gossip 42 = .ok (.aload_n 0, 1) := by decide +kernel
theorem dX7_gossip_43 : decode cX7_gossip 43 = .ok (.invokevirtual 229, 3) := by decide +kernel
theorem dX7_gossip_46 : decode cX7_gossip 46 = .ok (.aload_n 0, 1) := by decide +kernel
theorem dX7_gossip_47 : decode cX7_gossip 47 = .ok (.getfield 7, 3) := by decide +kernel
theorem dX7_gossip_50 : decode cX7_gossip 50 = .ok (.iconst 1, 1) := by decide +kernel
theorem dX7_gossip_51 : decode cX7_gossip 51 = .ok (.iaload, 1) := by decide +kernel
theorem dX7_gossip_52 : decode cX7_gossip 52 = .ok (.irem, 1) := by decide +kernel
theorem dX7_gossip_53 : decode cX7_gossip 53 = .ok (.istore_n 3, 1) := by decide +kernel
theorem dX7_gossip_54 : decode cX7_gossip 54 = .ok (.aload_n 0, 1) := by decide +kernel
theorem dX7_gossip_55 : decode cX7_gossip 55 = .ok (.getfield 7, 3) := by decide +kernel
theorem dX7_gossip_58 : decode cX7_gossip 58 = .ok (.iload_n 3, 1) := by decide +kernel
theorem dX7_gossip_59 : decode cX7_gossip 59 = .ok (.iconst 1, 1) := by decide +kernel
theorem dX7_gossip_60 : decode cX7_gossip 60 = .ok (.invokestatic 84, 3) := by decide +kernel
theorem dX7_gossip_63 : decode cX7_gossip 63 = .ok (.dup2, 1) := by decide +kernel
theorem dX7_gossip_64 : decode cX7_gossip 64 = .ok (.iaload, 1) := by decide +kernel
theorem dX7_gossip_65 : decode cX7_gossip 65 = .ok (.iconst 1, 1) := by decide +kernel
theorem dX7_gossip_66 : decode cX7_gossip 66 = .ok (.aload_n 0, 1) := by decide +kernel
theorem dX7_gossip_67 : decode cX7_gossip 67 = .ok (.invokevirtual 229, 3) := by decide +kernel
theorem dX7_gossip_70 : decode cX7_gossip 70 = .ok (.bipush 12, 2) := by decide +kernel
theorem dX7_gossip_72 : decode cX7_gossip 72 = .ok (.irem, 1) := by decide +kernel
theorem dX7_gossip_73 : decode cX7_gossip 73 = .ok (.ishl, 1) := by decide +kernel
theorem dX7_gossip_74 : decode cX7_gossip 74 = .ok (.ior, 1) := by decide +kernel
theorem dX7_gossip_75 : decode cX7_gossip 75 = .ok (.iastore, 1) := by decide +kernel
theorem dX7_gossip_76 : decode cX7_gossip 76 = .ok (.iinc 2 1, 3) := by decide +kernel
theorem dX7_gossip_79 : decode cX7_gossip 79 = .ok (.goto (-42), 3) := by decide +kernel
theorem dX7_gossip_82 : decode cX7_gossip 82 = .ok (.aload_n 0, 1) := by decide +kernel
theorem dX7_gossip_83 : decode cX7_gossip 83 = .ok (.iconst 1, 1) := by decide +kernel
theorem dX7_gossip_84 : decode cX7_gossip 84 = .ok (.invokevirtual 93, 3) := by decide +kernel
theorem dX7_gossip_87 : decode cX7_gossip 87 = .ok (.ireturn, 1) := by decide +kernel
theorem dX7_seed_0 : decode cX7_seed 0 = .ok (.aload_n 0, 1) := by decide +kernel
theorem dX7_seed_1 : decode cX7_seed 1 = .ok (.getfield 7, 3) := by decide +kernel
theorem dX7_seed_4 : decode cX7_seed 4 = .ok (.iconst 2, 1) := by decide +kernel
theorem dX7_seed_5 : decode cX7_seed 5 = .ok (.iaload, 1) := by decide +kernel
theorem dX7_seed_6 : decode cX7_seed 6 = .ok (.istore_n 2, 1) := by decide +kernel
theorem dX7_seed_7 : decode cX7_seed 7 = .ok (.aload_n 0, 1) := by decide +kernel
theorem dX7_seed_8 : decode cX7_seed 8 = .ok (.getfield 7, 3) := by decide +kernel
theorem dX7_seed_11 : decode cX7_seed 11 = .ok (.iconst 2, 1) := by decide +kernel
theorem dX7_seed_12 : decode cX7_seed 12 = .ok (.iload_n 1, 1) := by decide +kernel
theorem dX7_seed_13 : decode cX7_seed 13 = .ok (.iastore, 1) := by decide +kernel
theorem dX7_seed_14 : decode cX7_seed 14 = .ok (.iload_n 2, 1) := by decide +kernel
theorem dX7_seed_15 : decode cX7_seed 15 = .ok (.ireturn, 1) := by decide +kernel
theorem dX7_feed_0 : decode cX7_feed 0 = .ok (.iload_n 2, 1) := by decide +kernel
theorem dX7_feed_1 : decode cX7_feed 1 = .ok (.i2l, 1) := by decide +kernel
theorem dX7_feed_2 : decode cX7_feed 2 = .ok (.lconst 1, 1) := by decide +kernel
theorem dX7_feed_3 : decode cX7_feed 3 = .ok (.ldc2_w 232, 3) := by decide +kernel
theorem dX7_feed_6 : decode cX7_feed 6 = .ok (.invokestatic 43, 3) := by decide +kernel
theorem dX7_feed_9 : decode cX7_feed 9 = .ok (.ifCond .ne 10, 3) := by decide +kernel
theorem dX7_feed_12 : decode cX7_feed 12 = .ok (.aload_n 0, 1) := by decide +kernel
theorem dX7_feed_13 : decode cX7_feed 13 = .ok (.ldc 40, 2) := by decide +kernel
theorem dX7_feed_15 : decode cX7_feed 15 = .ok (.invokevirtual 68, 3) := by decide +kernel
theorem dX7_feed_18 : decode cX7_feed 18 = .ok (.ireturn, 1) := by decide +kernel
theorem dX7_feed_19 : decode cX7_feed 19 = .ok (.aload_n 0, 1) := by decide +kernel
theorem dX7_feed_20 : decode cX7_feed 20 = .ok (.getfield 234, 3) := by decide +kernel
theorem dX7_feed_23 : decode cX7_feed 23 = .ok (.iload_n 2, 1) := by decide +kernel
theorem dX7_feed_24 : decode cX7_feed 24 = .ok (.iadd, 1) := by decide +kernel
theorem dX7_feed_25 : decode cX7_feed 25 = .ok (.bipush 120, 2) := by decide +kernel
theorem dX7_feed_27 : decode cX7_feed 27 = .ok (.if_icmp .le 10, 3) := by decide +kernel
theorem dX7_feed_30 : decode cX7_feed 30 = .ok (.aload_n 0, 1) := by decide +kernel
theorem dX7_feed_31 : decode cX7_feed 31 = .ok (.ldc 72, 2) := by decide +kernel
theorem dX7_feed_33 : decode cX7_feed 33 = .ok (.invokevirtual 68, 3) := by decide +kernel
theorem dX7_feed_36 : decode cX7_feed 36 = .ok (.ireturn, 1) := by decide +kernel
theorem dX7_feed_37 : decode cX7_feed 37 = .ok (.iload_n 2, 1) := by decide +kernel
theorem dX7_feed_38 : decode cX7_feed 38 = .ok (.iconst 1, 1) := by decide +kernel
theorem dX7_feed_39 : decode cX7_feed 39 = .ok (.isub, 1) := by decide +kernel
theorem dX7_feed_40 : decode cX7_feed 40 = .ok (.istore_n 3, 1) := by decide +kernel
theorem dX7_feed_41 : decode cX7_feed 41 = .ok (.iload_n 3, 1) := by decide +kernel
theorem dX7_feed_42 : decode cX7_feed 42 = .ok (.ifCond .lt 38, 3) := by decide +kernel
theorem dX7_feed_45 : decode cX7_feed 45 = .ok (.aload_n 0, 1) := by decide +kernel
theorem dX7_feed_46 : decode cX7_feed 46 = .ok (.getfield 25, 3) := by decide +kernel
theorem dX7_feed_49 : decode cX7_feed 49 = .ok (.aload_n 0, 1) := by decide +kernel
theorem dX7_feed_50 : decode cX7_feed 50 = .ok (.getfield 234, 3) := by decide +kernel
theorem dX7_feed_53 : decode cX7_feed 53 = .ok (.iload_n 1, 1) := by decide +kernel
theorem dX7_feed_54 : decode cX7_feed 54 = .ok (.bipush 8, 2) := by decide +kernel
theorem dX7_feed_56 : decode cX7_feed 56 = .ok (.iload_n 3, 1) := by decide +kernel
theorem dX7_feed_57 : decode cX7_feed 57 = .ok (.imul, 1) := by decide +kernel
theorem dX7_feed_58 : decode cX7_feed 58 = .ok (.ishr, 1) := by decide +kernel
theorem dX7_feed_59 : decode cX7_feed 59 = .ok (.sipush 255, 3) := by decide +kernel
theorem dX7_feed_62 : decode cX7_feed 62 = .ok (.iand, 1) := by decide +kernel
theorem dX7_feed_63 : decode cX7_feed 63 = .ok (.iastore, 1) := by decide +kernel
theorem dX7_feed_64 : decode cX7_feed 64 = .ok (.aload_n 0, 1) := by decide +kernel
theorem dX7_feed_65 : decode cX7_feed 65 = .ok (.dup, 1) := by decide +kernel
theorem dX7_feed_66 : decode cX7_feed 66 = .ok (.getfield 234, 3) := by decide +kernel
theorem dX7_feed_69 : decode cX7_feed 69 = .ok (.iconst 1, 1) := by decide +kernel
theorem dX7_feed_70 : decode cX7_feed 70 = .ok (.iadd, 1) := by decide +kernel
theorem dX7_feed_71 : decode cX7_feed 71 = .ok (.putfield 234, 3) := by decide +kernel
theorem dX7_feed_74 : decode cX7_feed 74 = .ok (.iinc 3 (-1), 3) := by decide +kernel
theorem dX7_feed_77 : decode cX7_feed 77 = .ok (.goto (-36), 3) := by decide +kernel
theorem dX7_feed_80 : decode cX7_feed 80 = .ok (.aload_n 0, 1) := by decide +kernel
theorem dX7_feed_81 : decode cX7_feed 81 = .ok (.getfield 234, 3) := by decide +kernel
theorem dX7_feed_84 : decode cX7_feed 84 = .ok (.ireturn, 1) := by decide +kernel
theorem dX7_wipe_0 : decode cX7_wipe 0 = .ok (.aload_n 0, 1) := by decide +kernel
theorem dX7_wipe_1 : decode cX7_wipe 1 = .ok (.getfield 234, 3) := by decide +kernel
theorem dX7_wipe_4 : decode cX7_wipe 4 = .ok (.istore_n 1, 1) := by decide +kernel
theorem dX7_wipe_5 : decode cX7_wipe 5 = .ok (.aload_n 0, 1) := by decide +kernel
theorem dX7_wipe_6 : decode cX7_wipe 6 = .ok (.iconst 0, 1) := by decide +kernel
theorem dX7_wipe_7 : decode cX7_wipe 7 = .ok (.putfield 234, 3) := by decide +kernel
theorem dX7_wipe_10 : decode cX7_wipe 10 = .ok (.iload_n 1, 1) := by decide +kernel
theorem dX7_wipe_11 : decode cX7_wipe 11 = .ok (.ireturn, 1) := by decide +kernel
theorem dX7_byteAt_0 : decode cX7_byteAt 0 = .ok (.iload_n 1, 1) := by decide +kernel
theorem dX7_byteAt_1 : decode cX7_byteAt 1 = .ok (.aload_n 0, 1) := by decide +kernel
theorem dX7_byteAt_2 : decode cX7_byteAt 2 = .ok (.getfield 234, 3) := by decide +kernel
theorem dX7_byteAt_5 : decode cX7_byteAt 5 = .ok (.if_icmp .ge 12, 3) := by decide +kernel
theorem dX7_byteAt_8 : decode cX7_byteAt 8 = .ok (.aload_n 0, 1) := by decide +kernel
theorem dX7_byteAt_9 : decode cX7_byteAt 9 = .ok (.getfield 25, 3) := by decide +kernel
theorem dX7_byteAt_12 : decode cX7_byteAt 12 = .ok (.iload_n 1, 1) := by decide +kernel
theorem dX7_byteAt_13 : decode cX7_byteAt 13 = .ok (.iaload, 1) := by decide +kernel
theorem dX7_byteAt_14 : decode cX7_byteAt 14 = .ok (.goto 4, 3) := by decide +kernel
theorem dX7_byteAt_17 : decode cX7_byteAt 17 = .ok (.iconst (-1), 1) := by decide +kernel
theorem dX7_byteAt_18 : decode cX7_byteAt 18 = .ok (.ireturn, 1) := by decide +kernel
theorem dX7_isLetter_0 : decode cX7_isLetter 0 = .ok (.iload_n 0, 1) := by decide +kernel
theorem dX7_isLetter_1 : decode cX7_isLetter 1 = .ok (.i2l, 1) := by decide +kernel
theorem dX7_isLetter_2 : decode cX7_isLetter 2 = .ok (.ldc2_w 237, 3) := by decide +kernel
theorem dX7_isLetter_5 : decode cX7_isLetter 5 = .ok (.ldc2_w 239, 3) := by decide +kernel
theorem dX7_isLetter_8 : decode cX7_isLetter 8 = .ok (.invokestatic 43, 3) := by decide +kernel
theorem dX7_isLetter_11 : decode cX7_isLetter 11 = .ok (.ireturn, 1) := by decide +kernel
theorem dX7_isDigit_0 : decode cX7_isDigit 0 = .ok (.iload_n 0, 1) := by decide +kernel
theorem dX7_isDigit_1 : decode cX7_isDigit 1 = .ok (.i2l, 1) := by decide +kernel
theorem dX7_isDigit_2 : decode cX7_isDigit 2 = .ok (.ldc2_w 241, 3) := by decide +kernel
theorem dX7_isDigit_5 : decode cX7_isDigit 5 = .ok (.ldc2_w 243, 3) := by decide +kernel
theorem dX7_isDigit_8 : decode cX7_isDigit 8 = .ok (.invokestatic 43, 3) := by decide +kernel
theorem dX7_isDigit_11 : decode cX7_isDigit 11 = .ok (.ireturn, 1) := by decide +kernel
theorem dX7_token_0 : decode cX7_token 0 = .ok (.aload_n 0, 1) := by decide +kernel
theorem dX7_token_1 : decode cX7_token 1 = .ok (.aload_n 0, 1) := by decide +kernel
theorem dX7_token_2 : decode cX7_token 2 = .ok (.getfield 245, 3) := by decide +kernel
theorem dX7_token_5 : decode cX7_token 5 = .ok (.putfield 248, 3) := by decide +kernel
theorem dX7_token_8 : decode cX7_token 8 = .ok (.aload_n 0, 1) := by decide +kernel
theorem dX7_token_9 : decode cX7_token 9 = .ok (.aload_n 0, 1) := by decide +kernel
theorem dX7_token_10 : decode cX7_token 10 = .ok (.getfield 248, 3) := by decide +kernel
theorem dX7_token_13 : decode cX7_token 13 = .ok (.invokevirtual 251, 3) := by decide +kernel
theorem dX7_token_16 : decode cX7_token 16 = .ok (.bipush 32, 2) := by decide +kernel
theorem dX7_token_18 : decode cX7_token 18 = .ok (.if_icmp .ne 16, 3) := by decide +kernel
theorem dX7_token_21 : decode cX7_token 21 = .ok (.aload_n 0, 1) := by decide +kernel
theorem dX7_token_22 : decode cX7_token 22 = .ok (.dup, 1) := by decide +kernel
theorem dX7_token_23 : decode cX7_token 23 = .ok (.getfield 248, 3) := by decide +kernel
theorem dX7_token_26 : decode cX7_token 26 = .ok (.iconst 1, 1) := by decide +kernel
theorem dX7_token_27 : decode cX7_token 27 = .ok (.iadd, 1) := by decide +kernel
theorem dX7_token_28 : decode cX7_token 28 = .ok (.putfield 248, 3) := by decide +kernel
theorem dX7_token_31 : decode cX7_token 31 = .ok (.goto (-23), 3) := by decide +kernel
theorem dX7_token_34 : decode cX7_token 34 = .ok (.aload_n 0, 1) := by decide +kernel
theorem dX7_token_35 : decode cX7_token 35 = .ok (.aload_n 0, 1) := by decide +kernel
theorem dX7_token_36 : decode cX7_token 36 = .ok (.getfield 248, 3) := by decide +kernel
theorem dX7_token_39 : decode cX7_token 39 = .ok (.invokevirtual 251, 3) := by decide +kernel
theorem dX7_token_42 : decode cX7_token 42 = .ok (.invokestatic 254, 3) := by decide +kernel
theorem dX7_token_45 : decode cX7_token 45 = .ok (.istore_n 1, 1) := by decide +kernel
theorem dX7_token_46 : decode cX7_token 46 = .ok (.aload_n 0, 1) := by decide +kernel
theorem dX7_token_47 : decode cX7_token 47 = .ok (.aload_n 0, 1) := by decide +kernel
theorem dX7_token_48 : decode cX7_token 48 = .ok (.getfield 248, 3) := by decide +kernel
theorem dX7_token_51 : decode cX7_token 51 = .ok (.invokevirtual 251, 3) := by decide +kernel
theorem dX7_token_54 : decode cX7_token 54 = .ok (.invokestatic 257, 3) := by decide +kernel
theorem dX7_token_57 : decode cX7_token 57 = .ok (.istore_n 2, 1) := by decide +kernel
theorem dX7_token_58 : decode cX7_token 58 = .ok (.aload_n 0, 1) := by decide +kernel
theorem dX7_token_59 : decode cX7_token 59 = .ok (.aload_n 0, 1) := by decide +kernel
theorem dX7_token_60 : decode cX7_token 60 = .ok (.getfield 248, 3) := by decide +kernel
theorem dX7_token_63 : decode cX7_token 63 = .ok (.aload_n 0, 1) := by decide +kernel
theorem dX7_token_64 : decode cX7_token 64 = .ok (.getfield 234, 3) := by decide +kernel
theorem dX7_token_67 : decode cX7_token 67 = .ok (.if_icmp .ge 12, 3) := by decide +kernel
theorem dX7_token_70 : decode cX7_token 70 = .ok (.aload_n 0, 1) := by decide +kernel
theorem dX7_token_71 : decode cX7_token 71 = .ok (.getfield 248, 3) := by decide +kernel
theorem dX7_token_74 : decode cX7_token 74 = .ok (.iconst 1, 1) := by decide +kernel
theorem dX7_token_75 : decode cX7_token 75 = .ok (.iadd, 1) := by decide +kernel
theorem dX7_token_76 : decode cX7_token 76 = .ok (.goto 7, 3) := by decide +kernel
theorem dX7_token_79 : decode cX7_token 79 = .ok (.aload_n 0, 1) := by decide +kernel
theorem dX7_token_80 : decode cX7_token 80 = .ok (.getfield 248, 3) := by decide +kernel
theorem dX7_token_83 : decode cX7_token 83 = .ok (.putfield 245, 3) := by decide +kernel
theorem dX7_token_86 : decode cX7_token 86 = .ok (.iload_n 1, 1) := by decide +kernel
theorem dX7_token_87 : decode cX7_token 87 = .ok (.ifCond .eq 17, 3) := by decide +kernel
theorem dX7_token_90 : decode cX7_token 90 = .ok (.aload_n 0, 1) := by decide +kernel
theorem dX7_token_91 : decode cX7_token 91 = .ok (.aload_n 0, 1) := by decide +kernel
theorem dX7_token_92 : decode cX7_token 92 = .ok (.getfield 245, 3) := by decide +kernel
theorem dX7_token_95 : decode cX7_token 95 = .ok (.invokevirtual 251, 3) := by decide +kernel
theorem dX7_token_98 : decode cX7_token 98 = .ok (.invokestatic 254, 3) := by decide +kernel
theorem dX7_token_101 : decode cX7_token 101 = .ok (.ifCond .ne 21, 3) := by decide +kernel
theorem dX7_token_104 : decode cX7_token 104 = .ok (.iload_n 2, 1) := by decide +kernel
theorem dX7_token_105 : decode cX7_token 105 = .ok (.ifCond .eq 30, 3) := by decide +kernel
theorem dX7_token_108 : decode cX7_token 108 = .ok (.aload_n 0, 1) := by decide +kernel
theorem dX7_token_109 : decode cX7_token 109 = .ok (.aload_n 0, 1) := by decide +kernel
theorem dX7_token_110 : decode cX7_token 110 = .ok (.getfield 245, 3) := by decide +kernel
theorem dX7_token_113 : decode cX7_token 113 = .ok (.invokevirtual 251, 3) := by decide +kernel
theorem dX7_token_116 : decode cX7_token 116 = .ok (.invokestatic 257, 3) := by decide +kernel
theorem dX7_token_119 : decode cX7_token 119 = .ok (.ifCond .eq 16, 3) := by decide +kernel
theorem dX7_token_122 : decode cX7_token 122 = .ok (.aload_n 0, 1) := by decide +kernel
theorem dX7_token_123 : decode cX7_token 123 = .ok (.dup, 1) := by decide +kernel
theorem dX7_token_124 : decode cX7_token 124 = .ok (.getfield 245, 3) := by decide +kernel
theorem dX7_token_127 : decode cX7_token 127 = .ok (.iconst 1, 1) := by decide +kernel
theorem dX7_token_128 : decode cX7_token 128 = .ok (.iadd, 1) := by decide +kernel
theorem dX7_token_129 : decode cX7_token 129 = .ok (.putfield 245, 3) := by decide +kernel
theorem dX7_token_132 : decode cX7_token 132 = .ok (.goto (-46), 3) := by decide +kernel
theorem dX7_token_135 : decode cX7_token 135 = .ok (.return_, 1) := by decide +kernel
theorem dX7_needs_0 : decode cX7_needs 0 = .ok (.aload_n 0, 1) := by decide +kernel
theorem dX7_needs_1 : decode cX7_needs 1 = .ok (.aload_n 0, 1) := by decide +kernel
theorem dX7_needs_2 : decode cX7_needs 2 = .ok (.getfield 260, 3) := by decide +kernel
theorem dX7_needs_5 : decode cX7_needs 5 = .ok (.ifCond .ne 7, 3) := by decide +kernel
theorem dX7_needs_8 : decode cX7_needs 8 = .ok (.iload_n 1, 1) := by decide +kernel
theorem dX7_needs_9 : decode cX7_needs 9 = .ok (.ifCond .ne 7, 3) := by decide +kernel
theorem dX7_needs_12 : decode cX7_needs 12 = .ok (.iconst 1, 1) := by decide +kernel
theorem dX7_needs_13 : decode cX7_needs 13 = .ok (.goto 4, 3) := by decide +kernel
theorem dX7_needs_16 : decode cX7_needs 16 = .ok (.iconst 0, 1) := by decide +kernel
theorem dX7_needs_17 : decode cX7_needs 17 = .ok (.putfield 260, 3) := by decide +kernel
theorem dX7_needs_20 : decode cX7_needs 20 = .ok (.aload_n 0, 1) := by decide +kernel
theorem dX7_needs_21 : decode cX7_needs 21 = .ok (.getfield 260, 3) := by decide +kernel
theorem dX7_needs_24 : decode cX7_needs 24 = .ok (.ifCond .ne 7, 3) := by decide +kernel
theorem dX7_needs_27 : decode cX7_needs 27 = .ok (.aload_n 0, 1) := by decide +kernel
theorem dX7_needs_28 : decode cX7_needs 28 = .ok (.invokevirtual 264, 3) := by decide +kernel
theorem dX7_needs_31 : decode cX7_needs 31 = .ok (.return_, 1) := by decide +kernel
theorem dX7_word_0 : decode cX7_word 0 = .ok (.lconst 0, 1) := by decide +kernel
theorem dX7_word_1 : decode cX7_word 1 = .ok (.lstore_n 1, 1) := by decide +kernel
theorem dX7_word_2 : decode cX7_word 2 = .ok (.aload_n 0, 1) := by decide +kernel
theorem dX7_word_3 : decode cX7_word 3 = .ok (.getfield 248, 3) := by decide +kernel
theorem dX7_word_6 : decode cX7_word 6 = .ok (.istore_n 3, 1) := by decide +kernel
theorem dX7_word_7 : decode cX7_word 7 = .ok (.iload_n 3, 1) := by decide +kernel
theorem dX7_word_8 : decode cX7_word 8 = .ok (.aload_n 0, 1) := by decide +kernel
theorem dX7_word_9 : decode cX7_word 9 = .ok (.getfield 245, 3) := by decide +kernel
theorem dX7_word_12 : decode cX7_word 12 = .ok (.if_icmp .ge 38, 3) := by decide +kernel
theorem dX7_word_15 : decode cX7_word 15 = .ok (.lload_n 1, 1) := by decide +kernel
theorem dX7_word_16 : decode cX7_word 16 = .ok (.ldc2_w 267, 3) := by decide +kernel
theorem dX7_word_19 : decode cX7_word 19 = .ok (.lcmp, 1) := by decide +kernel
theorem dX7_word_20 : decode cX7_word 20 = .ok (.ifCond .le 7, 3) := by decide +kernel
theorem dX7_word_23 : decode cX7_word 23 = .ok (.lload_n 1, 1) := by decide +kernel
theorem dX7_word_24 : decode cX7_word 24 = .ok (.goto 19, 3) := by decide +kernel
theorem dX7_word_27 : decode cX7_word 27 = .ok (.ldc2_w 269, 3) := by decide +kernel
theorem dX7_word_30 : decode cX7_word 30 = .ok (.lload_n 1, 1) := by decide +kernel
theorem dX7_word_31 : decode cX7_word 31 = .ok (.lmul, 1) := by decide +kernel
theorem dX7_word_32 : decode cX7_word 32 = .ok (.aload_n 0, 1) := by decide +kernel
theorem dX7_word_33 : decode cX7_word 33 = .ok (.getfield 25, 3) := by decide +kernel
theorem dX7_word_36 : decode cX7_word 36 = .ok (.iload_n 3, 1) := by decide +kernel
theorem dX7_word_37 : decode cX7_word 37 = .ok (.iaload, 1) := by decide +kernel
theorem dX7_word_38 : decode cX7_word 38 = .ok (.bipush 96, 2) := by decide +kernel
theorem dX7_word_40 : decode cX7_word 40 = .ok (.isub, 1) := by decide +kernel
theorem dX7_word_41 : decode cX7_word 41 = .ok (.i2l, 1) := by decide +kernel
theorem dX7_word_42 : decode cX7_word 42 = .ok (.ladd, 1) := by decide +kernel
theorem dX7_word_43 : decode cX7_word 43 = .ok (.lstore_n 1, 1) := by decide +kernel
theorem dX7_word_44 : decode cX7_word 44 = .ok (.iinc 3 1, 3) := by decide +kernel
theorem dX7_word_47 : decode cX7_word 47 = .ok (.goto (-40), 3) := by decide +kernel
theorem dX7_word_50 : decode cX7_word 50 = .ok (.aload_n 0, 1) := by decide +kernel
theorem dX7_word_51 : decode cX7_word 51 = .ok (.getfield 260, 3) := by decide +kernel
theorem dX7_word_54 : decode cX7_word 54 = .ok (.ifCond .ne 17, 3) := by decide +kernel
theorem dX7_word_57 : decode cX7_word 57 = .ok (.aload_n 0, 1) := by decide +kernel
theorem dX7_word_58 : decode cX7_word 58 = .ok (.aload_n 0, 1) := by decide +kernel
theorem dX7_word_59 : decode cX7_word 59 = .ok (.getfield 248, 3) := by decide +kernel
theorem dX7_word_62 : decode cX7_word 62 = .ok (.invokevirtual 251, 3) := by decide +kernel
theorem dX7_word_65 : decode cX7_word 65 = .ok (.invokestatic 254, 3) := by decide +kernel
theorem dX7_word_68 : decode cX7_word 68 = .ok (.ifCond .ne 7, 3) := by decide +kernel
theorem dX7_word_71 : decode cX7_word 71 = .ok (.lconst 0, 1) := by decide +kernel
theorem dX7_word_72 : decode cX7_word 72 = .ok (.goto 4, 3) := by decide +kernel
theorem dX7_word_75 : decode cX7_word 75 = .ok (.lload_n 1, 1) := by decide +kernel
theorem dX7_word_76 : decode cX7_word 76 = .ok (.lreturn, 1) := by decide +kernel
theorem dX7_number_0 : decode cX7_number 0 = .ok (.aload_n 0, 1) := by decide +kernel
theorem dX7_number_1 : decode cX7_number 1 = .ok (.getfield 260, 3) := by decide +kernel
theorem dX7_number_4 : decode cX7_number 4 = .ok (.ifCond .eq 4, 3) := by decide +kernel
theorem dX7_number_7 : decode cX7_number 7 = .ok (.return_, 1) := by decide +kernel
theorem dX7_number_8 : decode cX7_number 8 = .ok (.aload_n 0, 1) := by decide +kernel
theorem dX7_number_9 : decode cX7_number 9 = .ok (.aload_n 0, 1) := by decide +kernel
theorem dX7_number_10 : decode cX7_number 10 = .ok (.getfield 248, 3) := by decide +kernel
theorem dX7_number_13 : decode cX7_number 13 = .ok (.invokevirtual 251, 3) := by decide +kernel
theorem dX7_number_16 : decode cX7_number 16 = .ok (.invokestatic 257, 3) := by decide +kernel
theorem dX7_number_19 : decode cX7_number 19 = .ok (.istore_n 3, 1) := by decide +kernel
theorem dX7_number_20 : decode cX7_number 20 = .ok (.iconst 0, 1) := by decide +kernel
theorem dX7_number_21 : decode cX7_number 21 = .ok (.istore 4, 2) := by decide +kernel
theorem dX7_number_23 : decode cX7_number 23 = .ok (.aload_n 0, 1) := by decide +kernel
theorem dX7_number_24 : decode cX7_number 24 = .ok (.getfield 248, 3) := by decide +kernel
theorem dX7_number_27 : decode cX7_number 27 = .ok (.istore 5, 2) := by decide +kernel
theorem dX7_number_29 : decode cX7_number 29 = .ok (.iload 5, 2) := by decide +kernel
theorem dX7_number_31 : decode cX7_number 31 = .ok (.aload_n 0, 1) := by decide +kernel
theorem dX7_number_32 : decode cX7_number 32 = .ok (.getfield 245, 3) := by decide +kernel
theorem dX7_number_35 : decode cX7_number 35 = .ok (.if_icmp .ge 44, 3) := by decide +kernel
theorem dX7_number_38 : decode cX7_number 38 = .ok (.iload_n 3, 1) := by decide +kernel
theorem dX7_number_39 : decode cX7_number 39 = .ok (.ifCond .eq 40, 3) := by decide +kernel
theorem dX7_number_42 : decode cX7_number 42 = .ok (.iload 4, 2) := by decide +kernel
theorem dX7_number_44 : decode cX7_number 44 = .ok (.ldc_w 271, 3) := by decide +kernel
theorem dX7_number_47 : decode cX7_number 47 = .ok (.if_icmp .le 8, 3) := by decide +kernel
theorem dX7_number_50 : decode cX7_number 50 = .ok (.iload 4, 2) := by decide +kernel
theorem dX7_number_52 : decode cX7_number 52 = .ok (.goto 19, 3) := by decide +kernel
theorem dX7_number_55 : decode cX7_number 55 = .ok (.bipush 10, 2) := by decide +kernel
theorem dX7_number_57 : decode cX7_number 57 = .ok (.iload 4, 2) := by decide +kernel
theorem dX7_number_59 : decode cX7_number 59 = .ok (.imul, 1) := by decide +kernel
theorem dX7_number_60 : decode cX7_number 60 = .ok (.aload_n 0, 1) := by decide +kernel
theorem dX7_number_61 : decode cX7_number 61 = .ok (.getfield 25, 3) := by decide +kernel
theorem dX7_number_64 : decode cX7_number 64 = .ok (.iload 5, 2) := by decide +kernel
theorem dX7_number_66 : decode cX7_number 66 = .ok (.iaload, 1) := by decide +kernel
theorem dX7_number_67 : decode cX7_number 67 = .ok (.iadd, 1) := by decide +kernel
theorem dX7_number_68 : decode cX7_number 68 = .ok (.bipush 48, 2) := by decide +kernel
theorem dX7_number_70 : decode cX7_number 70 = .ok (.isub, 1) := by decide +kernel
theorem dX7_number_71 : decode cX7_number 71 = .ok (.istore 4, 2) := by decide +kernel
theorem dX7_number_73 : decode cX7_number 73 = .ok (.iinc 5 1, 3) := by decide +kernel
theorem dX7_number_76 : decode cX7_number 76 = .ok (.goto (-47), 3) := by decide +kernel
theorem dX7_number_79 : decode cX7_number 79 = .ok (.aload_n 0, 1) := by decide +kernel
theorem dX7_number_80 : decode cX7_number 80 = .ok (.iload 4, 2) := by decide +kernel
theorem dX7_number_82 : decode cX7_number 82 = .ok (.putfield 272, 3) := by decide +kernel
theorem dX7_number_85 : decode cX7_number 85 = .ok (.aload_n 0, 1) := by decide +kernel
theorem dX7_number_86 : decode cX7_number 86 = .ok (.iload_n 3, 1) := by decide +kernel
theorem dX7_number_87 : decode cX7_number 87 = .ok (.ifCond .eq 20, 3) := by decide +kernel
theorem dX7_number_90 : decode cX7_number 90 = .ok (.iload 4, 2) := by decide +kernel
theorem dX7_number_92 : decode cX7_number 92 = .ok (.i2l, 1) := by decide +kernel
theorem dX7_number_93 : decode cX7_number 93 = .ok (.iload_n 1, 1) := by decide +kernel
theorem dX7_number_94 : decode cX7_number 94 = .ok (.i2l, 1) := by decide +kernel
theorem dX7_number_95 : decode cX7_number 95 = .ok (.iload_n 2, 1) := by decide +kernel
theorem dX7_number_96 : decode cX7_number 96 = .ok (.i2l, 1) := by decide +kernel
theorem dX7_number_97 : decode cX7_number 97 = .ok (.invokestatic 43, 3) := by decide +kernel
theorem dX7_number_100 : decode cX7_number 100 = .ok (.ifCond .eq 7, 3) := by decide +kernel
theorem dX7_number_103 : decode cX7_number 103 = .ok (.iconst 1, 1) := by decide +kernel
theorem dX7_number_104 : decode cX7_number 104 = .ok (.goto 4, 3) := by decide +kernel
theorem dX7_number_107 : decode cX7_number 107 = .ok (.iconst 0, 1) := by decide +kernel
theorem dX7_number_108 : decode cX7_number 108 = .ok (.invokevirtual 275, 3) := by decide +kernel
theorem dX7_number_111 : decode cX7_number 111 = .ok (.return_, 1) := by decide +kernel
theorem dX7_kindHere_0 : decode cX7_kindHere 0 = .ok (.aload_n 0, 1) := by decide +kernel
theorem dX7_kindHere_1 : decode cX7_kindHere 1 = .ok (.invokevirtual 279, 3) := by decide +kernel
theorem dX7_kindHere_4 : decode cX7_kindHere 4 = .ok (.lstore_n 1, 1) := by decide +kernel
theorem dX7_kindHere_5 : decode cX7_kindHere 5 = .ok (.lload_n 1, 1) := by decide +kernel
theorem dX7_kindHere_6 : decode cX7_kindHere 6 = .ok (.ldc2_w 283, 3) := by decide +kernel
theorem dX7_kindHere_9 : decode cX7_kindHere 9 = .ok (.lcmp, 1) := by decide +kernel
theorem dX7_kindHere_10 : decode cX7_kindHere 10 = .ok (.ifCond .ne 7, 3) := by decide +kernel
theorem dX7_kindHere_13 : decode cX7_kindHere 13 = .ok (.iconst 0, 1) := by decide +kernel
theorem dX7_kindHere_14 : decode cX7_kindHere 14 = .ok (.goto 77, 3) := by decide +kernel
theorem dX7_kindHere_17 : decode cX7_kindHere 17 = .ok (.lload_n 1, 1) := by decide +kernel
theorem dX7_kindHere_18 : decode cX7_kindHere 18 = .ok (.ldc2_w 285, 3) := by decide +kernel
theorem dX7_kindHere_21 : decode cX7_kindHere 21 = .ok (.lcmp, 1) := by decide +kernel
theorem dX7_kindHere_22 : decode cX7_kindHere 22 = .ok (.ifCond .ne 7, 3) := by decide +kernel
theorem dX7_kindHere_25 : decode cX7_kindHere 25 = .ok (.iconst 1, 1) := by decide +kernel
theorem dX7_kindHere_26 : decode cX7_kindHere 26 = .ok (.goto 65, 3) := by decide +kernel
theorem dX7_kindHere_29 : decode cX7_kindHere 29 = .ok (.lload_n 1, 1) := by decide +kernel
theorem dX7_kindHere_30 : decode cX7_kindHere 30 = .ok (.ldc2_w 287, 3) := by decide +kernel
theorem dX7_kindHere_33 : decode cX7_kindHere 33 = .ok (.lcmp, 1) := by decide +kernel
theorem dX7_kindHere_34 : decode cX7_kindHere 34 = .ok (.ifCond .ne 7, 3) := by decide +kernel
theorem dX7_kindHere_37 : decode cX7_kindHere 37 = .ok (.iconst 2, 1) := by decide +kernel
theorem dX7_kindHere_38 : decode cX7_kindHere 38 = .ok (.goto 53, 3) := by decide +kernel
theorem dX7_kindHere_41 : decode cX7_kindHere 41 = .ok (.lload_n 1, 1) := by decide +kernel
theorem dX7_kindHere_42 : decode cX7_kindHere 42 = .ok (.ldc2_w 289, 3) := by decide +kernel
theorem dX7_kindHere_45 : decode cX7_kindHere 45 = .ok (.lcmp, 1) := by decide +kernel
theorem dX7_kindHere_46 : decode cX7_kindHere 46 = .ok (.ifCond .ne 7, 3) := by decide +kernel
theorem dX7_kindHere_49 : decode cX7_kindHere 49 = .ok (.iconst 3, 1) := by decide +kernel
theorem dX7_kindHere_50 : decode cX7_kindHere 50 = .ok (.goto 41, 3) := by decide +kernel
theorem dX7_kindHere_53 : decode cX7_kindHere 53 = .ok (.lload_n 1, 1) := by decide +kernel
theorem dX7_kindHere_54 : decode cX7_kindHere 54 = .ok (.ldc2_w 291, 3) := by decide +kernel
theorem dX7_kindHere_57 : decode cX7_kindHere 57 = .ok (.lcmp, 1) := by decide +kernel
theorem dX7_kindHere_58 : decode cX7_kindHere 58 = .ok (.ifCond .ne 7, 3) := by decide +kernel
theorem dX7_kindHere_61 : decode cX7_kindHere 61 = .ok (.iconst 4, 1) := by decide +kernel
theorem dX7_kindHere_62 : decode cX7_kindHere 62 = .ok (.goto 29, 3) := by decide +kernel
theorem dX7_kindHere_65 : decode cX7_kindHere 65 = .ok (.lload_n 1, 1) := by decide +kernel
theorem dX7_kindHere_66 : decode cX7_kindHere 66 = .ok (.ldc2_w 293, 3) := by decide +kernel
theorem dX7_kindHere_69 : decode cX7_kindHere 69 = .ok (.lcmp, 1) := by decide +kernel
theorem dX7_kindHere_70 : decode cX7_kindHere 70 = .ok (.ifCond .ne 7, 3) := by decide +kernel
theorem dX7_kindHere_73 : decode cX7_kindHere 73 = .ok (.iconst 5, 1) := by decide +kernel
theorem dX7_kindHere_74 : decode cX7_kindHere 74 = .ok (.goto 17, 3) := by decide +kernel
theorem dX7_kindHere_77 : decode cX7_kindHere 77 = .ok (.lload_n 1, 1) := by decide +kernel
theorem dX7_kindHere_78 : decode cX7_kindHere 78 = .ok (.ldc2_w 295, 3) := by decide +kernel
theorem dX7_kindHere_81 : decode cX7_kindHere 81 = .ok (.lcmp, 1) := by decide +kernel
theorem dX7_kindHere_82 : decode cX7_kindHere 82 = .ok (.ifCond .ne 8, 3) := by decide +kernel
theorem dX7_kindHere_85 : decode cX7_kindHere 85 = .ok (.bipush 6, 2) := by decide +kernel
theorem dX7_kindHere_87 : decode cX7_kindHere 87 = .ok (.goto 4, 3) := by decide +kernel
theorem dX7_kindHere_90 : decode cX7_kindHere 90 = .ok (.iconst (-1), 1) := by decide +kernel
theorem dX7_kindHere_91 : decode cX7_kindHere 91 = .ok (.ireturn, 1) := by decide +kernel
theorem dX7_perhaps_0 : decode cX7_perhaps 0 = .ok (.iload_n 1, 1) := by decide +kernel
theorem dX7_perhaps_1 : decode cX7_perhaps 1 = .ok (.ifCond .ne 5, 3) := by decide +kernel
theorem dX7_perhaps_4 : decode cX7_perhaps 4 = .ok (.iload_n 3, 1) := by decide +kernel
theorem dX7_perhaps_5 : decode cX7_perhaps 5 = .ok (.ireturn, 1) := by decide +kernel
theorem dX7_perhaps_6 : decode cX7_perhaps 6 = .ok (.aload_n 0, 1) := by decide +kernel
theorem dX7_perhaps_7 : decode cX7_perhaps 7 = .ok (.iconst 1, 1) := by decide +kernel
theorem dX7_perhaps_8 : decode cX7_perhaps 8 = .ok (.invokevirtual 275, 3) := by decide +kernel
theorem dX7_perhaps_11 : decode cX7_perhaps 11 = .ok (.aload_n 0, 1) := by decide +kernel
theorem dX7_perhaps_12 : decode cX7_perhaps 12 = .ok (.iconst 0, 1) := by decide +kernel
theorem dX7_perhaps_13 : decode cX7_perhaps 13 = .ok (.iload_n 2, 1) := by decide +kernel
theorem dX7_perhaps_14 : decode cX7_perhaps 14 = .ok (.invokevirtual 297, 3) := by decide +kernel
theorem dX7_perhaps_17 : decode cX7_perhaps 17 = .ok (.aload_n 0, 1) := by decide +kernel
theorem dX7_perhaps_18 : decode cX7_perhaps 18 = .ok (.getfield 272, 3) := by decide +kernel
theorem dX7_perhaps_21 : decode cX7_perhaps 21 = .ok (.ireturn, 1) := by decide +kernel
theorem dX7_marks_0 : decode cX7_marks 0 = .ok (.iconst 0, 1) := by decide +kernel
theorem dX7_marks_1 : decode cX7_marks 1 = .ok (.istore_n 2, 1) := by decide +kernel
theorem dX7_marks_2 : decode cX7_marks 2 = .ok (.iload_n 1, 1) := by decide +kernel
theorem dX7_marks_3 : decode cX7_marks 3 = .ok (.istore_n 3, 1) := by decide +kernel
theorem dX7_marks_4 : decode cX7_marks 4 = .ok (.iload_n 1, 1) := by decide +kernel
theorem dX7_marks_5 : decode cX7_marks 5 = .ok (.ifCond .eq 8, 3) := by decide +kernel
theorem dX7_marks_8 : decode cX7_marks 8 = .ok (.aload_n 0, 1) := by decide +kernel
theorem dX7_marks_9 : decode cX7_marks 9 = .ok (.iconst 1, 1) := by decide +kernel
theorem dX7_marks_10 : decode cX7_marks 10 = .ok (.invokevirtual 275, 3) := by decide +kernel
theorem dX7_marks_13 : decode cX7_marks 13 = .ok (.iload_n 3, 1) := by decide +kernel
theorem dX7_marks_14 : decode cX7_marks 14 = .ok (.ifCond .eq 52, 3) := by decide +kernel
theorem dX7_marks_17 : decode cX7_marks 17 = .ok (.aload_n 0, 1) := by decide +kernel
theorem dX7_marks_18 : decode cX7_marks 18 = .ok (.getfield 260, 3) := by decide +kernel
theorem dX7_marks_21 : decode cX7_marks 21 = .ok (.ifCond .ne 45, 3) := by decide +kernel
theorem dX7_marks_24 : decode cX7_marks 24 = .ok (.aload_n 0, 1) := by decide +kernel
theorem dX7_marks_25 : decode cX7_marks 25 = .ok (.iconst 0, 1) := by decide +kernel
theorem dX7_marks_26 : decode cX7_marks 26 = .ok (.bipush 11, 2) := by decide +kernel
theorem dX7_marks_28 : decode cX7_marks 28 = .ok (.invokevirtual 297, 3) := by decide +kernel
theorem dX7_marks_31 : decode cX7_marks 31 = .ok (.iload_n 2, 1) := by decide +kernel
theorem dX7_marks_32 : decode cX7_marks 32 = .ok (.aload_n 0, 1) := by decide +kernel
theorem dX7_marks_33 : decode cX7_marks 33 = .ok (.getfield 260, 3) := by decide +kernel
theorem dX7_marks_36 : decode cX7_marks 36 = .ok (.ifCond .eq 7, 3) := by decide +kernel
theorem dX7_marks_39 : decode cX7_marks 39 = .ok (.iconst 0, 1) := by decide +kernel
theorem dX7_marks_40 : decode cX7_marks 40 = .ok (.goto 9, 3) := by decide +kernel
theorem dX7_marks_43 : decode cX7_marks 43 = .ok (.iconst 1, 1) := by decide +kernel
theorem dX7_marks_44 : decode cX7_marks 44 = .ok (.aload_n 0, 1) := by decide +kernel
theorem dX7_marks_45 : decode cX7_marks 45 = .ok (.getfield 272, 3) := by decide +kernel
theorem dX7_marks_48 : decode cX7_marks 48 = .ok (.ishl, 1) := by decide +kernel
theorem dX7_marks_49 : decode cX7_marks 49 = .ok (.ior, 1) := by decide +kernel
theorem dX7_marks_50 : decode cX7_marks 50 = .ok (.istore_n 2, 1) := by decide +kernel
theorem dX7_marks_51 : decode cX7_marks 51 = .ok (.aload_n 0, 1) := by decide +kernel
theorem dX7_marks_52 : decode cX7_marks 52 = .ok (.aload_n 0, 1) := by decide +kernel
theorem dX7_marks_53 : decode cX7_marks 53 = .ok (.getfield 248, 3) := by decide +kernel
theorem dX7_marks_56 : decode cX7_marks 56 = .ok (.invokevirtual 251, 3) := by decide +kernel
theorem dX7_marks_59 : decode cX7_marks 59 = .ok (.invokestatic 257, 3) := by decide +kernel
theorem dX7_marks_62 : decode cX7_marks 62 = .ok (.istore_n 3, 1) := by decide +kernel
theorem dX7_marks_63 : decode cX7_marks 63 = .ok (.goto (-50), 3) := by decide +kernel
theorem dX7_marks_66 : decode cX7_marks 66 = .ok (.iload_n 2, 1) := by decide +kernel
theorem dX7_marks_67 : decode cX7_marks 67 = .ok (.ireturn, 1) := by decide +kernel
theorem dX7_writerItem_0 : decode cX7_writerItem 0 = .ok (.aload_n 0, 1) := by decide +kernel
theorem dX7_writerItem_1 : decode cX7_writerItem 1 = .ok (.aload_n 0, 1) := by decide +kernel
theorem dX7_writerItem_2 : decode cX7_writerItem 2 = .ok (.getfield 7, 3) := by decide +kernel
theorem dX7_writerItem_5 : decode cX7_writerItem 5 = .ok (.iconst 0, 1) := by decide +kernel
theorem dX7_writerItem_6 : decode cX7_writerItem 6 = .ok (.iaload, 1) := by decide +kernel
theorem dX7_writerItem_7 : decode cX7_writerItem 7 = .ok (.bipush 6, 2) := by decide +kernel
theorem dX7_writerItem_9 : decode cX7_writerItem 9 = .ok (.if_icmp .ge 7, 3) := by decide +kernel
theorem dX7_writerItem_12 : decode cX7_writerItem 12 = .ok (.iconst 1, 1) := by decide +kernel
theorem dX7_writerItem_13 : decode cX7_writerItem 13 = .ok (.goto 4, 3) := by decide +kernel
theorem dX7_writerItem_16 : decode cX7_writerItem 16 = .ok (.iconst 0, 1) := by decide +kernel
theorem dX7_writerItem_17 : decode cX7_writerItem 17 = .ok (.invokevirtual 275, 3) := by decide +kernel
theorem dX7_writerItem_20 : decode cX7_writerItem 20 = .ok (.aload_n 0, 1) := by decide +kernel
theorem dX7_writerItem_21 : decode cX7_writerItem 21 = .ok (.aload_n 0, 1) := by decide +kernel
theorem dX7_writerItem_22 : decode cX7_writerItem 22 = .ok (.invokevirtual 279, 3) := by decide +kernel
theorem dX7_writerItem_25 : decode cX7_writerItem 25 = .ok (.ldc2_w 300, 3) := by decide +kernel
theorem dX7_writerItem_28 : decode cX7_writerItem 28 = .ok (.lcmp, 1) := by decide +kernel
theorem dX7_writerItem_29 : decode cX7_writerItem 29 = .ok (.ifCond .ne 7, 3) := by decide +kernel
theorem dX7_writerItem_32 : decode cX7_writerItem 32 = .ok (.iconst 1, 1) := by decide +kernel
theorem dX7_writerItem_33 : decode cX7_writerItem 33 = .ok (.goto 4, 3) := by decide +kernel
theorem dX7_writerItem_36 : decode cX7_writerItem 36 = .ok (.iconst 0, 1) := by decide +kernel
theorem dX7_writerItem_37 : decode cX7_writerItem 37 = .ok (.invokevirtual 302, 3) := by decide +kernel
theorem dX7_writerItem_40 : decode cX7_writerItem 40 = .ok (.istore_n 2, 1) := by decide +kernel
theorem dX7_writerItem_41 : decode cX7_writerItem 41 = .ok (.aload_n 0, 1) := by decide +kernel
theorem dX7_writerItem_42 : decode cX7_writerItem 42 = .ok (.aload_n 0, 1) := by decide +kernel
theorem dX7_writerItem_43 : decode cX7_writerItem 43 = .ok (.invokevirtual 279, 3) := by decide +kernel
theorem dX7_writerItem_46 : decode cX7_writerItem 46 = .ok (.ldc2_w 306, 3) := by decide +kernel
theorem dX7_writerItem_49 : decode cX7_writerItem 49 = .ok (.lcmp, 1) := by decide +kernel
theorem dX7_writerItem_50 : decode cX7_writerItem 50 = .ok (.ifCond .ne 7, 3) := by decide +kernel
theorem dX7_writerItem_53 : decode cX7_writerItem 53 = .ok (.iconst 1, 1) := by decide +kernel
theorem dX7_writerItem_54 : decode cX7_writerItem 54 = .ok (.goto 4, 3) := by decide +kernel
theorem dX7_writerItem_57 : decode cX7_writerItem 57 = .ok (.iconst 0, 1) := by decide +kernel
theorem dX7_writerItem_58 : decode cX7_writerItem 58 = .ok (.invokevirtual 302, 3) := by decide +kernel
theorem dX7_writerItem_61 : decode cX7_writerItem 61 = .ok (.istore_n 3, 1) := by decide +kernel
theorem dX7_writerItem_62 : decode cX7_writerItem 62 = .ok (.aload_n 0, 1) := by decide +kernel
theorem dX7_writerItem_63 : decode cX7_writerItem 63 = .ok (.aload_n 0, 1) := by decide +kernel
theorem dX7_writerItem_64 : decode cX7_writerItem 64 = .ok (.invokevirtual 279, 3) := by decide +kernel
theorem dX7_writerItem_67 : decode cX7_writerItem 67 = .ok (.ldc2_w 308, 3) := by decide +kernel
theorem dX7_writerItem_70 : decode cX7_writerItem 70 = .ok (.lcmp, 1) := by decide +kernel
theorem dX7_writerItem_71 : decode cX7_writerItem 71 = .ok (.ifCond .ne 7, 3) := by decide +kernel
theorem dX7_writerItem_74 : decode cX7_writerItem 74 = .ok (.iconst 1, 1) := by decide +kernel
theorem dX7_writerItem_75 : decode cX7_writerItem 75 = .ok (.goto 4, 3) := by decide +kernel
theorem dX7_writerItem_78 : decode cX7_writerItem 78 = .ok (.iconst 0, 1) := by decide +kernel
theorem dX7_writerItem_79 : decode cX7_writerItem 79 = .ok (.invokevirtual 302, 3) := by decide +kernel
theorem dX7_writerItem_82 : decode cX7_writerItem 82 = .ok (.istore 4, 2) := by decide +kernel
theorem dX7_writerItem_84 : decode cX7_writerItem 84 = .ok (.aload_n 0, 1) := by decide +kernel
theorem dX7_writerItem_85 : decode cX7_writerItem 85 = .ok (.aload_n 0, 1) := by decide +kernel
theorem dX7_writerItem_86 : decode cX7_writerItem 86 = .ok (.invokevirtual 279, 3) := by decide +kernel
theorem dX7_writerItem_89 : decode cX7_writerItem 89 = .ok (.ldc2_w 310, 3) := by decide +kernel
theorem dX7_writerItem_92 : decode cX7_writerItem 92 = .ok (.lcmp, 1) := by decide +kernel
theorem dX7_writerItem_93 : decode cX7_writerItem 93 = .ok (.ifCond .ne 7, 3) := by decide +kernel
theorem dX7_writerItem_96 : decode cX7_writerItem 96 = .ok (.iconst 1, 1) := by decide +kernel
theorem dX7_writerItem_97 : decode cX7_writerItem 97 = .ok (.goto 4, 3) := by decide +kernel
theorem dX7_writerItem_100 : decode cX7_writerItem 100 = .ok (.iconst 0, 1) := by decide +kernel
theorem dX7_writerItem_101 : decode cX7_writerItem 101 = .ok (.bipush 99, 2) := by decide +kernel
theorem dX7_writerItem_103 : decode cX7_writerItem 103 = .ok (.iconst 4, 1) := by decide +kernel
theorem dX7_writerItem_104 : decode cX7_writerItem 104 = .ok (.invokevirtual 312, 3) := by decide +kernel
theorem dX7_writerItem_107 : decode cX7_writerItem 107 = .ok (.istore 5, 2) := by decide +kernel
theorem dX7_writerItem_109 : decode cX7_writerItem 109 = .ok (.aload_n 0, 1) := by decide +kernel
theorem dX7_writerItem_110 : decode cX7_writerItem 110 = .ok (.getfield 260, 3) := by decide +kernel
theorem dX7_writerItem_113 : decode cX7_writerItem 113 = .ok (.ifCond .ne 60, 3) := by decide +kernel
theorem dX7_writerItem_116 : decode cX7_writerItem 116 = .ok (.aload_n 0, 1) := by decide +kernel
theorem dX7_writerItem_117 : decode cX7_writerItem 117 = .ok (.iload_n 1, 1) := by decide +kernel
theorem dX7_writerItem_118 : decode cX7_writerItem 118 = .ok (.invokevirtual 73, 3) := by decide +kernel
theorem dX7_writerItem_121 : decode cX7_writerItem 121 = .ok (.istore 6, 2) := by decide +kernel
theorem dX7_writerItem_123 : decode cX7_writerItem 123 = .ok (.aload_n 0, 1) := by decide +kernel
theorem dX7_writerItem_124 : decode cX7_writerItem 124 = .ok (.getfield 7, 3) := by decide +kernel
theorem dX7_writerItem_127 : decode cX7_writerItem 127 = .ok (.iload 6, 2) := by decide +kernel
theorem dX7_writerItem_129 : decode cX7_writerItem 129 = .ok (.iconst 1, 1) := by decide +kernel
theorem dX7_writerItem_130 : decode cX7_writerItem 130 = .ok (.invokestatic 50, 3) := by decide +kernel
theorem dX7_writerItem_133 : decode cX7_writerItem 133 = .ok (.iload_n 2, 1) := by decide +kernel
theorem dX7_writerItem_134 : decode cX7_writerItem 134 = .ok (.iastore, 1) := by decide +kernel
theorem dX7_writerItem_135 : decode cX7_writerItem 135 = .ok (.aload_n 0, 1) := by decide +kernel
theorem dX7_writerItem_136 : decode cX7_writerItem 136 = .ok (.getfield 7, 3) := by decide +kernel
theorem dX7_writerItem_139 : decode cX7_writerItem 139 = .ok (.iload 6, 2) := by decide +kernel
theorem dX7_writerItem_141 : decode cX7_writerItem 141 = .ok (.iconst 2, 1) := by decide +kernel
theorem dX7_writerItem_142 : decode cX7_writerItem 142 = .ok (.invokestatic 50, 3) := by decide +kernel
theorem dX7_writerItem_145 : decode cX7_writerItem 145 = .ok (.iload_n 3, 1) := by decide +kernel
theorem dX7_writerItem_146 : decode cX7_writerItem 146 = .ok (.iastore, 1) := by decide +kernel
theorem dX7_writerItem_147 : decode cX7_writerItem 147 = .ok (.aload_n 0, 1) := by decide +kernel
theorem dX7_writerItem_148 : decode cX7_writerItem 148 = .ok (.getfield 7, 3) := by decide +kernel
theorem dX7_writerItem_151 : decode cX7_writerItem 151 = .ok (.iload 6, 2) := by decide +kernel
theorem dX7_writerItem_153 : decode cX7_writerItem 153 = .ok (.iconst 3, 1) := by decide +kernel
theorem dX7_writerItem_154 : decode cX7_writerItem 154 = .ok (.invokestatic 50, 3) := by decide +kernel
theorem dX7_writerItem_157 : decode cX7_writerItem 157 = .ok (.iload 4, 2) := by decide +kernel
theorem dX7_writerItem_159 : decode cX7_writerItem 159 = .ok (.iastore, 1) := by decide +kernel
theorem dX7_writerItem_160 : decode cX7_writerItem 160 = .ok (.aload_n 0, 1) := by decide +kernel
theorem dX7_writerItem_161 : decode cX7_writerItem 161 = .ok (.getfield 7, 3) := by decide +kernel
theorem dX7_writerItem_164 : decode cX7_writerItem 164 = .ok (.iload 6, 2) := by decide +kernel
theorem dX7_writerItem_166 : decode cX7_writerItem 166 = .ok (.iconst 4, 1) := by decide +kernel
theorem dX7_writerItem_167 : decode cX7_writerItem 167 = .ok (.invokestatic 50, 3) := by decide +kernel
theorem dX7_writerItem_170 : decode cX7_writerItem 170 = .ok (.iload 5, 2) := by decide +kernel
theorem dX7_writerItem_172 : decode cX7_writerItem 172 = .ok (.iastore, 1) := by decide +kernel
theorem dX7_writerItem_173 : decode cX7_writerItem 173 = .ok (.return_, 1) := by decide +kernel
theorem dX7_personItem_0 : decode cX7_personItem 0 = .ok (.aload_n 0, 1) := by decide +kernel
theorem dX7_personItem_1 : decode cX7_personItem 1 = .ok (.aload_n 0, 1) := by decide +kernel
theorem dX7_personItem_2 : decode cX7_personItem 2 = .ok (.getfield 7, 3) := by decide +kernel
theorem dX7_personItem_5 : decode cX7_personItem 5 = .ok (.iconst 1, 1) := by decide +kernel
theorem dX7_personItem_6 : decode cX7_personItem 6 = .ok (.iaload, 1) := by decide +kernel
theorem dX7_personItem_7 : decode cX7_personItem 7 = .ok (.bipush 8, 2) := by decide +kernel
theorem dX7_personItem_9 : decode cX7_personItem 9 = .ok (.if_icmp .ge 7, 3) := by decide +kernel
theorem dX7_personItem_12 : decode cX7_personItem 12 = .ok (.iconst 1, 1) := by decide +kernel
theorem dX7_personItem_13 : decode cX7_personItem 13 = .ok (.goto 4, 3) := by decide +kernel
theorem dX7_personItem_16 : decode cX7_personItem 16 = .ok (.iconst 0, 1) := by decide +kernel
theorem dX7_personItem_17 : decode cX7_personItem 17 = .ok (.invokevirtual 275, 3) := by decide +kernel
theorem dX7_personItem_20 : decode cX7_personItem 20 = .ok (.aload_n 0, 1) := by decide +kernel
theorem dX7_personItem_21 : decode cX7_personItem 21 = .ok (.aload_n 0, 1) := by decide +kernel
theorem dX7_personItem_22 : decode cX7_personItem 22 = .ok (.invokevirtual 279, 3) := by decide +kernel
theorem dX7_personItem_25 : decode cX7_personItem 25 = .ok (.ldc2_w 316, 3) := by decide +kernel
theorem dX7_personItem_28 : decode cX7_personItem 28 = .ok (.lcmp, 1) := by decide +kernel
theorem dX7_personItem_29 : decode cX7_personItem 29 = .ok (.ifCond .ne 7, 3) := by decide +kernel
theorem dX7_personItem_32 : decode cX7_personItem 32 = .ok (.iconst 1, 1) := by decide +kernel
theorem dX7_personItem_33 : decode cX7_personItem 33 = .ok (.goto 4, 3) := by decide +kernel
theorem dX7_personItem_36 : decode cX7_personItem 36 = .ok (.iconst 0, 1) := by decide +kernel
theorem dX7_personItem_37 : decode cX7_personItem 37 = .ok (.invokevirtual 275, 3) := by decide +kernel
theorem dX7_personItem_40 : decode cX7_personItem 40 = .ok (.aload_n 0, 1) := by decide +kernel
theorem dX7_personItem_41 : decode cX7_personItem 41 = .ok (.iconst 0, 1) := by decide +kernel
theorem dX7_personItem_42 : decode cX7_personItem 42 = .ok (.aload_n 0, 1) := by decide +kernel
theorem dX7_personItem_43 : decode cX7_personItem 43 = .ok (.getfield 7, 3) := by decide +kernel
theorem dX7_personItem_46 : decode cX7_personItem 46 = .ok (.iconst 0, 1) := by decide +kernel
theorem dX7_personItem_47 : decode cX7_personItem 47 = .ok (.iaload, 1) := by decide +kernel
theorem dX7_personItem_48 : decode cX7_personItem 48 = .ok (.iconst 1, 1) := by decide +kernel
theorem dX7_personItem_49 : decode cX7_personItem 49 = .ok (.isub, 1) := by decide +kernel
theorem dX7_personItem_50 : decode cX7_personItem 50 = .ok (.invokevirtual 297, 3) := by decide +kernel
theorem dX7_personItem_53 : decode cX7_personItem 53 = .ok (.aload_n 0, 1) := by decide +kernel
theorem dX7_personItem_54 : decode cX7_personItem 54 = .ok (.getfield 272, 3) := by decide +kernel
theorem dX7_personItem_57 : decode cX7_personItem 57 = .ok (.istore_n 1, 1) := by decide +kernel
theorem dX7_personItem_58 : decode cX7_personItem 58 = .ok (.aload_n 0, 1) := by decide +kernel
theorem dX7_personItem_59 : decode cX7_personItem 59 = .ok (.aload_n 0, 1) := by decide +kernel
theorem dX7_personItem_60 : decode cX7_personItem 60 = .ok (.invokevirtual 279, 3) := by decide +kernel
theorem dX7_personItem_63 : decode cX7_personItem 63 = .ok (.ldc2_w 318, 3) := by decide +kernel
theorem dX7_personItem_66 : decode cX7_personItem 66 = .ok (.lcmp, 1) := by decide +kernel
theorem dX7_personItem_67 : decode cX7_personItem 67 = .ok (.ifCond .ne 7, 3) := by decide +kernel
theorem dX7_personItem_70 : decode cX7_personItem 70 = .ok (.iconst 1, 1) := by decide +kernel
theorem dX7_personItem_71 : decode cX7_personItem 71 = .ok (.goto 4, 3) := by decide +kernel
theorem dX7_personItem_74 : decode cX7_personItem 74 = .ok (.iconst 0, 1) := by decide +kernel
theorem dX7_personItem_75 : decode cX7_personItem 75 = .ok (.invokevirtual 302, 3) := by decide +kernel
theorem dX7_personItem_78 : decode cX7_personItem 78 = .ok (.istore_n 2, 1) := by decide +kernel
theorem dX7_personItem_79 : decode cX7_personItem 79 = .ok (.aload_n 0, 1) := by decide +kernel
theorem dX7_personItem_80 : decode cX7_personItem 80 = .ok (.aload_n 0, 1) := by decide +kernel
theorem dX7_personItem_81 : decode cX7_personItem 81 = .ok (.invokevirtual 279, 3) := by decide +kernel
theorem dX7_personItem_84 : decode cX7_personItem 84 = .ok (.ldc2_w 320, 3) := by decide +kernel
theorem dX7_personItem_87 : decode cX7_personItem 87 = .ok (.lcmp, 1) := by decide +kernel
theorem dX7_personItem_88 : decode cX7_personItem 88 = .ok (.ifCond .ne 7, 3) := by decide +kernel
theorem dX7_personItem_91 : decode cX7_personItem 91 = .ok (.iconst 1, 1) := by decide +kernel
theorem dX7_personItem_92 : decode cX7_personItem 92 = .ok (.goto 4, 3) := by decide +kernel
theorem dX7_personItem_95 : decode cX7_personItem 95 = .ok (.iconst 0, 1) := by decide +kernel
theorem dX7_personItem_96 : decode cX7_personItem 96 = .ok (.ldc_w 271, 3) := by decide +kernel
theorem dX7_personItem_99 : decode cX7_personItem 99 = .ok (.bipush 100, 2) := by decide +kernel
theorem dX7_personItem_101 : decode cX7_personItem 101 = .ok (.invokevirtual 312, 3) := by decide +kernel
theorem dX7_personItem_104 : decode cX7_personItem 104 = .ok (.istore_n 3, 1) := by decide +kernel
theorem dX7_personItem_105 : decode cX7_personItem 105 = .ok (.aload_n 0, 1) := by decide +kernel
theorem dX7_personItem_106 : decode cX7_personItem 106 = .ok (.getfield 260, 3) := by decide +kernel
theorem dX7_personItem_109 : decode cX7_personItem 109 = .ok (.ifCond .ne 34, 3) := by decide +kernel
theorem dX7_personItem_112 : decode cX7_personItem 112 = .ok (.aload_n 0, 1) := by decide +kernel
theorem dX7_personItem_113 : decode cX7_personItem 113 = .ok (.iload_n 1, 1) := by decide +kernel
theorem dX7_personItem_114 : decode cX7_personItem 114 = .ok (.invokevirtual 87, 3) := by decide +kernel
theorem dX7_personItem_117 : decode cX7_personItem 117 = .ok (.istore 4, 2) := by decide +kernel
theorem dX7_personItem_119 : decode cX7_personItem 119 = .ok (.aload_n 0, 1) := by decide +kernel
theorem dX7_personItem_120 : decode cX7_personItem 120 = .ok (.getfield 7, 3) := by decide +kernel
theorem dX7_personItem_123 : decode cX7_personItem 123 = .ok (.iload 4, 2) := by decide +kernel
theorem dX7_personItem_125 : decode cX7_personItem 125 = .ok (.iconst 0, 1) := by decide +kernel
theorem dX7_personItem_126 : decode cX7_personItem 126 = .ok (.invokestatic 84, 3) := by decide +kernel
theorem dX7_personItem_129 : decode cX7_personItem 129 = .ok (.iload_n 2, 1) := by decide +kernel
theorem dX7_personItem_130 : decode cX7_personItem 130 = .ok (.iastore, 1) := by decide +kernel
theorem dX7_personItem_131 : decode cX7_personItem 131 = .ok (.aload_n 0, 1) := by decide +kernel
theorem dX7_personItem_132 : decode cX7_personItem 132 = .ok (.getfield 7, 3) := by decide +kernel
theorem dX7_personItem_135 : decode cX7_personItem 135 = .ok (.iload 4, 2) := by decide +kernel
theorem dX7_personItem_137 : decode cX7_personItem 137 = .ok (.iconst 3, 1) := by decide +kernel
theorem dX7_personItem_138 : decode cX7_personItem 138 = .ok (.invokestatic 84, 3) := by decide +kernel
theorem dX7_personItem_141 : decode cX7_personItem 141 = .ok (.iload_n 3, 1) := by decide +kernel
theorem dX7_personItem_142 : decode cX7_personItem 142 = .ok (.iastore, 1) := by decide +kernel
theorem dX7_personItem_143 : decode cX7_personItem 143 = .ok (.return_, 1) := by decide +kernel
theorem dX7_tieItem_0 : decode cX7_tieItem 0 = .ok (.aload_n 0, 1) := by decide +kernel
theorem dX7_tieItem_1 : decode cX7_tieItem 1 = .ok (.aload_n 0, 1) := by decide +kernel
theorem dX7_tieItem_2 : decode cX7_tieItem 2 = .ok (.invokevirtual 279, 3) := by decide +kernel
theorem dX7_tieItem_5 : decode cX7_tieItem 5 = .ok (.ldc2_w 322, 3) := by decide +kernel
theorem dX7_tieItem_8 : decode cX7_tieItem 8 = .ok (.lcmp, 1) := by decide +kernel
theorem dX7_tieItem_9 : decode cX7_tieItem 9 = .ok (.ifCond .ne 7, 3) := by decide +kernel
theorem dX7_tieItem_12 : decode cX7_tieItem 12 = .ok (.iconst 1, 1) := by decide +kernel
theorem dX7_tieItem_13 : decode cX7_tieItem 13 = .ok (.goto 4, 3) := by decide +kernel
theorem dX7_tieItem_16 : decode cX7_tieItem 16 = .ok (.iconst 0, 1) := by decide +kernel
theorem dX7_tieItem_17 : decode cX7_tieItem 17 = .ok (.invokevirtual 275, 3) := by decide +kernel
theorem dX7_tieItem_20 : decode cX7_tieItem 20 = .ok (.aload_n 0, 1) := by decide +kernel
theorem dX7_tieItem_21 : decode cX7_tieItem 21 = .ok (.iconst 0, 1) := by decide +kernel
theorem dX7_tieItem_22 : decode cX7_tieItem 22 = .ok (.aload_n 0, 1) := by decide +kernel
theorem dX7_tieItem_23 : decode cX7_tieItem 23 = .ok (.getfield 7, 3) := by decide +kernel
theorem dX7_tieItem_26 : decode cX7_tieItem 26 = .ok (.iconst 1, 1) := by decide +kernel
theorem dX7_tieItem_27 : decode cX7_tieItem 27 = .ok (.iaload, 1) := by decide +kernel
theorem dX7_tieItem_28 : decode cX7_tieItem 28 = .ok (.iconst 1, 1) := by decide +kernel
theorem dX7_tieItem_29 : decode cX7_tieItem 29 = .ok (.isub, 1) := by decide +kernel
theorem dX7_tieItem_30 : decode cX7_tieItem 30 = .ok (.invokevirtual 297, 3) := by decide +kernel
theorem dX7_tieItem_33 : decode cX7_tieItem 33 = .ok (.aload_n 0, 1) := by decide +kernel
theorem dX7_tieItem_34 : decode cX7_tieItem 34 = .ok (.getfield 272, 3) := by decide +kernel
theorem dX7_tieItem_37 : decode cX7_tieItem 37 = .ok (.istore_n 1, 1) := by decide +kernel
theorem dX7_tieItem_38 : decode cX7_tieItem 38 = .ok (.aload_n 0, 1) := by decide +kernel
theorem dX7_tieItem_39 : decode cX7_tieItem 39 = .ok (.getfield 260, 3) := by decide +kernel
theorem dX7_tieItem_42 : decode cX7_tieItem 42 = .ok (.ifCond .ne 15, 3) := by decide +kernel
theorem dX7_tieItem_45 : decode cX7_tieItem 45 = .ok (.aload_n 0, 1) := by decide +kernel
theorem dX7_tieItem_46 : decode cX7_tieItem 46 = .ok (.iload_n 1, 1) := by decide +kernel
theorem dX7_tieItem_47 : decode cX7_tieItem 47 = .ok (.invokevirtual 324, 3) := by decide +kernel
theorem dX7_tieItem_50 : decode cX7_tieItem 50 = .ok (.ifCond .eq 7, 3) := by decide +kernel
theorem dX7_tieItem_53 : decode cX7_tieItem 53 = .ok (.iconst 1, 1) := by decide +kernel
theorem dX7_tieItem_54 : decode cX7_tieItem 54 = .ok (.goto 4, 3) := by decide +kernel
theorem dX7_tieItem_57 : decode cX7_tieItem 57 = .ok (.iconst 0, 1) := by decide +kernel
theorem dX7_tieItem_58 : decode cX7_tieItem 58 = .ok (.istore_n 2, 1) := by decide +kernel
theorem dX7_tieItem_59 : decode cX7_tieItem 59 = .ok (.iload_n 2, 1) := by decide +kernel
theorem dX7_tieItem_60 : decode cX7_tieItem 60 = .ok (.ifCond .ne 16, 3) := by decide +kernel
theorem dX7_tieItem_63 : decode cX7_tieItem 63 = .ok (.aload_n 0, 1) := by decide +kernel
theorem dX7_tieItem_64 : decode cX7_tieItem 64 = .ok (.iconst 0, 1) := by decide +kernel
theorem dX7_tieItem_65 : decode cX7_tieItem 65 = .ok (.aload_n 0, 1) := by decide +kernel
theorem dX7_tieItem_66 : decode cX7_tieItem 66 = .ok (.getfield 7, 3) := by decide +kernel
theorem dX7_tieItem_69 : decode cX7_tieItem 69 = .ok (.iconst 1, 1) := by decide +kernel
theorem dX7_tieItem_70 : decode cX7_tieItem 70 = .ok (.iaload, 1) := by decide +kernel
theorem dX7_tieItem_71 : decode cX7_tieItem 71 = .ok (.iconst 1, 1) := by decide +kernel
theorem dX7_tieItem_72 : decode cX7_tieItem 72 = .ok (.isub, 1) := by decide +kernel
theorem dX7_tieItem_73 : decode cX7_tieItem 73 = .ok (.invokevirtual 297, 3) := by decide +kernel
theorem dX7_tieItem_76 : decode cX7_tieItem 76 = .ok (.aload_n 0, 1) := by decide +kernel
theorem dX7_tieItem_77 : decode cX7_tieItem 77 = .ok (.aload_n 0, 1) := by decide +kernel
theorem dX7_tieItem_78 : decode cX7_tieItem 78 = .ok (.getfield 260, 3) := by decide +kernel
theorem dX7_tieItem_81 : decode cX7_tieItem 81 = .ok (.ifCond .ne 7, 3) := by decide +kernel
theorem dX7_tieItem_84 : decode cX7_tieItem 84 = .ok (.iload_n 2, 1) := by decide +kernel
theorem dX7_tieItem_85 : decode cX7_tieItem 85 = .ok (.ifCond .eq 7, 3) := by decide +kernel
theorem dX7_tieItem_88 : decode cX7_tieItem 88 = .ok (.iconst 1, 1) := by decide +kernel
theorem dX7_tieItem_89 : decode cX7_tieItem 89 = .ok (.goto 4, 3) := by decide +kernel
theorem dX7_tieItem_92 : decode cX7_tieItem 92 = .ok (.iconst 0, 1) := by decide +kernel
theorem dX7_tieItem_93 : decode cX7_tieItem 93 = .ok (.putfield 260, 3) := by decide +kernel
theorem dX7_tieItem_96 : decode cX7_tieItem 96 = .ok (.aload_n 0, 1) := by decide +kernel
theorem dX7_tieItem_97 : decode cX7_tieItem 97 = .ok (.getfield 260, 3) := by decide +kernel
theorem dX7_tieItem_100 : decode cX7_tieItem 100 = .ok (.ifCond .ne 13, 3) := by decide +kernel
theorem dX7_tieItem_103 : decode cX7_tieItem 103 = .ok (.aload_n 0, 1) := by decide +kernel
theorem dX7_tieItem_104 : decode cX7_tieItem 104 = .ok (.iload_n 1, 1) := by decide +kernel
theorem dX7_tieItem_105 : decode cX7_tieItem 105 = .ok (.aload_n 0, 1) := by decide +kernel
theorem dX7_tieItem_106 : decode cX7_tieItem 106 = .ok (.getfield 272, 3) := by decide +kernel
theorem dX7_tieItem_109 : decode cX7_tieItem 109 = .ok (.iconst 1, 1) := by decide +kernel
theorem dX7_tieItem_110 : decode cX7_tieItem 110 = .ok (.invokevirtual 113, 3) := by decide +kernel
theorem dX7_tieItem_113 : decode cX7_tieItem 113 = .ok (.return_, 1) := by decide +kernel
theorem dX7_isNumber_0 : decode cX7_isNumber 0 = .ok (.iconst 0, 1) := by decide +kernel
theorem dX7_isNumber_1 : decode cX7_isNumber 1 = .ok (.istore_n 2, 1) := by decide +kernel
theorem dX7_isNumber_2 : decode cX7_isNumber 2 = .ok (.aload_n 0, 1) := by decide +kernel
theorem dX7_isNumber_3 : decode cX7_isNumber 3 = .ok (.getfield 248, 3) := by decide +kernel
theorem dX7_isNumber_6 : decode cX7_isNumber 6 = .ok (.istore_n 3, 1) := by decide +kernel
theorem dX7_isNumber_7 : decode cX7_isNumber 7 = .ok (.iload_n 3, 1) := by decide +kernel
theorem dX7_isNumber_8 : decode cX7_isNumber 8 = .ok (.aload_n 0, 1) := by decide +kernel
theorem dX7_isNumber_9 : decode cX7_isNumber 9 = .ok (.getfield 245, 3) := by decide +kernel
theorem dX7_isNumber_12 : decode cX7_isNumber 12 = .ok (.if_icmp .ge 49, 3) := by decide +kernel
theorem dX7_isNumber_15 : decode cX7_isNumber 15 = .ok (.aload_n 0, 1) := by decide +kernel
theorem dX7_isNumber_16 : decode cX7_isNumber 16 = .ok (.aload_n 0, 1) := by decide +kernel
theorem dX7_isNumber_17 : decode cX7_isNumber 17 = .ok (.getfield 248, 3) := by decide +kernel
theorem dX7_isNumber_20 : decode cX7_isNumber 20 = .ok (.invokevirtual 251, 3) := by decide +kernel
theorem dX7_isNumber_23 : decode cX7_isNumber 23 = .ok (.invokestatic 257, 3) := by decide +kernel
theorem dX7_isNumber_26 : decode cX7_isNumber 26 = .ok (.ifCond .eq 35, 3) := by decide +kernel
theorem dX7_isNumber_29 : decode cX7_isNumber 29 = .ok (.iload_n 2, 1) := by decide +kernel
theorem dX7_isNumber_30 : decode cX7_isNumber 30 = .ok (.ldc_w 271, 3) := by decide +kernel
theorem dX7_isNumber_33 : decode cX7_isNumber 33 = .ok (.if_icmp .le 7, 3) := by decide +kernel
theorem dX7_isNumber_36 : decode cX7_isNumber 36 = .ok (.iload_n 2, 1) := by decide +kernel
theorem dX7_isNumber_37 : decode cX7_isNumber 37 = .ok (.goto 17, 3) := by decide +kernel
theorem dX7_isNumber_40 : decode cX7_isNumber 40 = .ok (.bipush 10, 2) := by decide +kernel
theorem dX7_isNumber_42 : decode cX7_isNumber 42 = .ok (.iload_n 2, 1) := by decide +kernel
theorem dX7_isNumber_43 : decode cX7_isNumber 43 = .ok (.imul, 1) := by decide +kernel
theorem dX7_isNumber_44 : decode cX7_isNumber 44 = .ok (.aload_n 0, 1) := by decide +kernel
theorem dX7_isNumber_45 : decode cX7_isNumber 45 = .ok (.getfield 25, 3) := by decide +kernel
theorem dX7_isNumber_48 : decode cX7_isNumber 48 = .ok (.iload_n 3, 1) := by decide +kernel
theorem dX7_isNumber_49 : decode cX7_isNumber 49 = .ok (.iaload, 1) := by decide +kernel
theorem dX7_isNumber_50 : decode cX7_isNumber 50 = .ok (.iadd, 1) := by decide +kernel
theorem dX7_isNumber_51 : decode cX7_isNumber 51 = .ok (.bipush 48, 2) := by decide +kernel
theorem dX7_isNumber_53 : decode cX7_isNumber 53 = .ok (.isub, 1) := by decide +kernel
theorem dX7_isNumber_54 : decode cX7_isNumber 54 = .ok (.istore_n 2, 1) := by decide +kernel
theorem dX7_isNumber_55 : decode cX7_isNumber 55 = .ok (.iinc 3 1, 3) := by decide +kernel
theorem dX7_isNumber_58 : decode cX7_isNumber 58 = .ok (.goto (-51), 3) := by decide +kernel
theorem dX7_isNumber_61 : decode cX7_isNumber 61 = .ok (.aload_n 0, 1) := by decide +kernel
theorem dX7_isNumber_62 : decode cX7_isNumber 62 = .ok (.aload_n 0, 1) := by decide +kernel
theorem dX7_isNumber_63 : decode cX7_isNumber 63 = .ok (.getfield 248, 3) := by decide +kernel
theorem dX7_isNumber_66 : decode cX7_isNumber 66 = .ok (.invokevirtual 251, 3) := by decide +kernel
theorem dX7_isNumber_69 : decode cX7_isNumber 69 = .ok (.invokestatic 257, 3) := by decide +kernel
theorem dX7_isNumber_72 : decode cX7_isNumber 72 = .ok (.ifCond .eq 12, 3) := by decide +kernel
theorem dX7_isNumber_75 : decode cX7_isNumber 75 = .ok (.iload_n 2, 1) := by decide +kernel
theorem dX7_isNumber_76 : decode cX7_isNumber 76 = .ok (.iload_n 1, 1) := by decide +kernel
theorem dX7_isNumber_77 : decode cX7_isNumber 77 = .ok (.if_icmp .ne 7, 3) := by decide +kernel
theorem dX7_isNumber_80 : decode cX7_isNumber 80 = .ok (.iconst 1, 1) := by decide +kernel
theorem dX7_isNumber_81 : decode cX7_isNumber 81 = .ok (.goto 4, 3) := by decide +kernel
theorem dX7_isNumber_84 : decode cX7_isNumber 84 = .ok (.iconst 0, 1) := by decide +kernel
theorem dX7_isNumber_85 : decode cX7_isNumber 85 = .ok (.ireturn, 1) := by decide +kernel
theorem dX7_item_0 : decode cX7_item 0 = .ok (.aload_n 0, 1) := by decide +kernel
theorem dX7_item_1 : decode cX7_item 1 = .ok (.invokevirtual 327, 3) := by decide +kernel
theorem dX7_item_4 : decode cX7_item 4 = .ok (.istore_n 1, 1) := by decide +kernel
theorem dX7_item_5 : decode cX7_item 5 = .ok (.iload_n 1, 1) := by decide +kernel
theorem dX7_item_6 : decode cX7_item 6 = .ok (.ifCond .lt 11, 3) := by decide +kernel
theorem dX7_item_9 : decode cX7_item 9 = .ok (.aload_n 0, 1) := by decide +kernel
theorem dX7_item_10 : decode cX7_item 10 = .ok (.iload_n 1, 1) := by decide +kernel
theorem dX7_item_11 : decode cX7_item 11 = .ok (.invokevirtual 330, 3) := by decide +kernel
theorem dX7_item_14 : decode cX7_item 14 = .ok (.goto 25, 3) := by decide +kernel
theorem dX7_item_17 : decode cX7_item 17 = .ok (.aload_n 0, 1) := by decide +kernel
theorem dX7_item_18 : decode cX7_item 18 = .ok (.invokevirtual 279, 3) := by decide +kernel
theorem dX7_item_21 : decode cX7_item 21 = .ok (.ldc2_w 333, 3) := by decide +kernel
theorem dX7_item_24 : decode cX7_item 24 = .ok (.lcmp, 1) := by decide +kernel
theorem dX7_item_25 : decode cX7_item 25 = .ok (.ifCond .ne 10, 3) := by decide +kernel
theorem dX7_item_28 : decode cX7_item 28 = .ok (.aload_n 0, 1) := by decide +kernel
theorem dX7_item_29 : decode cX7_item 29 = .ok (.invokevirtual 335, 3) := by decide +kernel
theorem dX7_item_32 : decode cX7_item 32 = .ok (.goto 7, 3) := by decide +kernel
theorem dX7_item_35 : decode cX7_item 35 = .ok (.aload_n 0, 1) := by decide +kernel
theorem dX7_item_36 : decode cX7_item 36 = .ok (.invokevirtual 338, 3) := by decide +kernel
theorem dX7_item_39 : decode cX7_item 39 = .ok (.return_, 1) := by decide +kernel
theorem dX7_text_0 : decode cX7_text 0 = .ok (.aload_n 0, 1) := by decide +kernel
theorem dX7_text_1 : decode cX7_text 1 = .ok (.invokevirtual 183, 3) := by decide +kernel
theorem dX7_text_4 : decode cX7_text 4 = .ok (.aload_n 0, 1) := by decide +kernel
theorem dX7_text_5 : decode cX7_text 5 = .ok (.iconst 0, 1) := by decide +kernel
theorem dX7_text_6 : decode cX7_text 6 = .ok (.putfield 245, 3) := by decide +kernel
theorem dX7_text_9 : decode cX7_text 9 = .ok (.aload_n 0, 1) := by decide +kernel
theorem dX7_text_10 : decode cX7_text 10 = .ok (.iconst 0, 1) := by decide +kernel
theorem dX7_text_11 : decode cX7_text 11 = .ok (.putfield 260, 3) := by decide +kernel
theorem dX7_text_14 : decode cX7_text 14 = .ok (.aload_n 0, 1) := by decide +kernel
theorem dX7_text_15 : decode cX7_text 15 = .ok (.invokevirtual 264, 3) := by decide +kernel
theorem dX7_text_18 : decode cX7_text 18 = .ok (.iconst 1, 1) := by decide +kernel
theorem dX7_text_19 : decode cX7_text 19 = .ok (.istore_n 1, 1) := by decide +kernel
theorem dX7_text_20 : decode cX7_text 20 = .ok (.aload_n 0, 1) := by decide +kernel
theorem dX7_text_21 : decode cX7_text 21 = .ok (.invokevirtual 341, 3) := by decide +kernel
theorem dX7_text_24 : decode cX7_text 24 = .ok (.aload_n 0, 1) := by decide +kernel
theorem dX7_text_25 : decode cX7_text 25 = .ok (.getfield 260, 3) := by decide +kernel
theorem dX7_text_28 : decode cX7_text 28 = .ok (.ifCond .ne 46, 3) := by decide +kernel
theorem dX7_text_31 : decode cX7_text 31 = .ok (.aload_n 0, 1) := by decide +kernel
theorem dX7_text_32 : decode cX7_text 32 = .ok (.getfield 248, 3) := by decide +kernel
theorem dX7_text_35 : decode cX7_text 35 = .ok (.aload_n 0, 1) := by decide +kernel
theorem dX7_text_36 : decode cX7_text 36 = .ok (.getfield 234, 3) := by decide +kernel
theorem dX7_text_39 : decode cX7_text 39 = .ok (.if_icmp .ge 35, 3) := by decide +kernel
theorem dX7_text_42 : decode cX7_text 42 = .ok (.aload_n 0, 1) := by decide +kernel
theorem dX7_text_43 : decode cX7_text 43 = .ok (.aload_n 0, 1) := by decide +kernel
theorem dX7_text_44 : decode cX7_text 44 = .ok (.aload_n 0, 1) := by decide +kernel
theorem dX7_text_45 : decode cX7_text 45 = .ok (.getfield 248, 3) := by decide +kernel
theorem dX7_text_48 : decode cX7_text 48 = .ok (.invokevirtual 251, 3) := by decide +kernel
theorem dX7_text_51 : decode cX7_text 51 = .ok (.bipush 59, 2) := by decide +kernel
theorem dX7_text_53 : decode cX7_text 53 = .ok (.if_icmp .ne 7, 3) := by decide +kernel
theorem dX7_text_56 : decode cX7_text 56 = .ok (.iconst 1, 1) := by decide +kernel
theorem dX7_text_57 : decode cX7_text 57 = .ok (.goto 4, 3) := by decide +kernel
theorem dX7_text_60 : decode cX7_text 60 = .ok (.iconst 0, 1) := by decide +kernel
theorem dX7_text_61 : decode cX7_text 61 = .ok (.invokevirtual 275, 3) := by decide +kernel
theorem dX7_text_64 : decode cX7_text 64 = .ok (.aload_n 0, 1) := by decide +kernel
theorem dX7_text_65 : decode cX7_text 65 = .ok (.invokevirtual 341, 3) := by decide +kernel
theorem dX7_text_68 : decode cX7_text 68 = .ok (.iinc 1 1, 3) := by decide +kernel
theorem dX7_text_71 : decode cX7_text 71 = .ok (.goto (-47), 3) := by decide +kernel
theorem dX7_text_74 : decode cX7_text 74 = .ok (.aload_n 0, 1) := by decide +kernel
theorem dX7_text_75 : decode cX7_text 75 = .ok (.iconst 0, 1) := by decide +kernel
theorem dX7_text_76 : decode cX7_text 76 = .ok (.putfield 234, 3) := by decide +kernel
theorem dX7_text_79 : decode cX7_text 79 = .ok (.aload_n 0, 1) := by decide +kernel
theorem dX7_text_80 : decode cX7_text 80 = .ok (.getfield 260, 3) := by decide +kernel
theorem dX7_text_83 : decode cX7_text 83 = .ok (.ifCond .eq 14, 3) := by decide +kernel
theorem dX7_text_86 : decode cX7_text 86 = .ok (.aload_n 0, 1) := by decide +kernel
theorem dX7_text_87 : decode cX7_text 87 = .ok (.invokevirtual 192, 3) := by decide +kernel
theorem dX7_text_90 : decode cX7_text 90 = .ok (.iconst (-1), 1) := by decide +kernel
theorem dX7_text_91 : decode cX7_text 91 = .ok (.aload_n 0, 1) := by decide +kernel
theorem dX7_text_92 : decode cX7_text 92 = .ok (.getfield 248, 3) := by decide +kernel
theorem dX7_text_95 : decode cX7_text 95 = .ok (.isub, 1) := by decide +kernel
theorem dX7_text_96 : decode cX7_text 96 = .ok (.ireturn, 1) := by decide +kernel
theorem dX7_text_97 : decode cX7_text 97 = .ok (.iload_n 1, 1) := by decide +kernel
theorem dX7_text_98 : decode cX7_text 98 = .ok (.ireturn, 1) := by decide +kernel
theorem dX7_hold_0 : decode cX7_hold 0 = .ok (.iload_n 1, 1) := by decide +kernel
theorem dX7_hold_1 : decode cX7_hold 1 = .ok (.i2l, 1) := by decide +kernel
theorem dX7_hold_2 : decode cX7_hold 2 = .ok (.lconst 0, 1) := by decide +kernel
theorem dX7_hold_3 : decode cX7_hold 3 = .ok (.ldc2_w 344, 3) := by decide +kernel
theorem dX7_hold_6 : decode cX7_hold 6 = .ok (.invokestatic 43, 3) := by decide +kernel
theorem dX7_hold_9 : decode cX7_hold 9 = .ok (.ifCond .eq 16, 3) := by decide +kernel
theorem dX7_hold_12 : decode cX7_hold 12 = .ok (.iload_n 2, 1) := by decide +kernel
theorem dX7_hold_13 : decode cX7_hold 13 = .ok (.iconst (-1), 1) := by decide +kernel
theorem dX7_hold_14 : decode cX7_hold 14 = .ok (.if_icmp .eq 18, 3) := by decide +kernel
theorem dX7_hold_17 : decode cX7_hold 17 = .ok (.aload_n 0, 1) := by decide +kernel
theorem dX7_hold_18 : decode cX7_hold 18 = .ok (.iload_n 2, 1) := by decide +kernel
theorem dX7_hold_19 : decode cX7_hold 19 = .ok (.invokevirtual 76, 3) := by decide +kernel
theorem dX7_hold_22 : decode cX7_hold 22 = .ok (.ifCond .ne 10, 3) := by decide +kernel
theorem dX7_hold_25 : decode cX7_hold 25 = .ok (.aload_n 0, 1) := by decide +kernel
theorem dX7_hold_26 : decode cX7_hold 26 = .ok (.ldc 40, 2) := by decide +kernel
theorem dX7_hold_28 : decode cX7_hold 28 = .ok (.invokevirtual 68, 3) := by decide +kernel
theorem dX7_hold_31 : decode cX7_hold 31 = .ok (.ireturn, 1) := by decide +kernel
theorem dX7_hold_32 : decode cX7_hold 32 = .ok (.aload_n 0, 1) := by decide +kernel
theorem dX7_hold_33 : decode cX7_hold 33 = .ok (.getfield 7, 3) := by decide +kernel
theorem dX7_hold_36 : decode cX7_hold 36 = .ok (.bipush 89, 2) := by decide +kernel
theorem dX7_hold_38 : decode cX7_hold 38 = .ok (.iload_n 1, 1) := by decide +kernel
theorem dX7_hold_39 : decode cX7_hold 39 = .ok (.iadd, 1) := by decide +kernel
theorem dX7_hold_40 : decode cX7_hold 40 = .ok (.iload_n 2, 1) := by decide +kernel
theorem dX7_hold_41 : decode cX7_hold 41 = .ok (.iastore, 1) := by decide +kernel
theorem dX7_hold_42 : decode cX7_hold 42 = .ok (.iconst 1, 1) := by decide +kernel
theorem dX7_hold_43 : decode cX7_hold 43 = .ok (.ireturn, 1) := by decide +kernel
theorem dX7_as_0 : decode cX7_as 0 = .ok (.iload_n 1, 1) := by decide +kernel
theorem dX7_as_1 : decode cX7_as 1 = .ok (.i2l, 1) := by decide +kernel
theorem dX7_as_2 : decode cX7_as 2 = .ok (.lconst 0, 1) := by decide +kernel
theorem dX7_as_3 : decode cX7_as 3 = .ok (.ldc2_w 344, 3) := by decide +kernel
theorem dX7_as_6 : decode cX7_as 6 = .ok (.invokestatic 43, 3) := by decide +kernel
theorem dX7_as_9 : decode cX7_as 9 = .ok (.ifCond .eq 15, 3) := by decide +kernel
theorem dX7_as_12 : decode cX7_as 12 = .ok (.iload_n 2, 1) := by decide +kernel
theorem dX7_as_13 : decode cX7_as 13 = .ok (.i2l, 1) := by decide +kernel
theorem dX7_as_14 : decode cX7_as 14 = .ok (.lconst 0, 1) := by decide +kernel
theorem dX7_as_15 : decode cX7_as 15 = .ok (.ldc2_w 54, 3) := by decide +kernel
theorem dX7_as_18 : decode cX7_as 18 = .ok (.invokestatic 43, 3) := by decide +kernel
theorem dX7_as_21 : decode cX7_as 21 = .ok (.ifCond .ne 10, 3) := by decide +kernel
theorem dX7_as_24 : decode cX7_as 24 = .ok (.aload_n 0, 1) := by decide +kernel
theorem dX7_as_25 : decode cX7_as 25 = .ok (.ldc 40, 2) := by decide +kernel
theorem dX7_as_27 : decode cX7_as 27 = .ok (.invokevirtual 68, 3) := by decide +kernel
theorem dX7_as_30 : decode cX7_as 30 = .ok (.ireturn, 1) := by decide +kernel
theorem dX7_as_31 : decode cX7_as 31 = .ok (.aload_n 0, 1) := by decide +kernel
theorem dX7_as_32 : decode cX7_as 32 = .ok (.getfield 7, 3) := by decide +kernel
theorem dX7_as_35 : decode cX7_as 35 = .ok (.bipush 89, 2) := by decide +kernel
theorem dX7_as_37 : decode cX7_as 37 = .ok (.iload_n 1, 1) := by decide +kernel
theorem dX7_as_38 : decode cX7_as 38 = .ok (.iadd, 1) := by decide +kernel
theorem dX7_as_39 : decode cX7_as 39 = .ok (.iaload, 1) := by decide +kernel
theorem dX7_as_40 : decode cX7_as 40 = .ok (.istore_n 3, 1) := by decide +kernel
theorem dX7_as_41 : decode cX7_as 41 = .ok (.iload_n 3, 1) := by decide +kernel
theorem dX7_as_42 : decode cX7_as 42 = .ok (.ifCond .ge 11, 3) := by decide +kernel
theorem dX7_as_45 : decode cX7_as 45 = .ok (.aload_n 0, 1) := by decide +kernel
theorem dX7_as_46 : decode cX7_as 46 = .ok (.ldc_w 346, 3) := by decide +kernel
theorem dX7_as_49 : decode cX7_as 49 = .ok (.invokevirtual 68, 3) := by decide +kernel
theorem dX7_as_52 : decode cX7_as 52 = .ok (.ireturn, 1) := by decide +kernel
theorem dX7_as_53 : decode cX7_as 53 = .ok (.aload_n 0, 1) := by decide +kernel
theorem dX7_as_54 : decode cX7_as 54 = .ok (.iload_n 3, 1) := by decide +kernel
theorem dX7_as_55 : decode cX7_as 55 = .ok (.iconst 0, 1) := by decide +kernel
theorem dX7_as_56 : decode cX7_as 56 = .ok (.invokevirtual 81, 3) := by decide +kernel
theorem dX7_as_59 : decode cX7_as 59 = .ok (.istore 4, 2) := by decide +kernel
theorem dX7_as_61 : decode cX7_as 61 = .ok (.iload_n 2, 1) := by decide +kernel
theorem dX7_as_62 : decode cX7_as 62 = .ok (.ifCond .eq 38, 3) := by decide +kernel
theorem dX7_as_65 : decode cX7_as 65 = .ok (.iload 4, 2) := by decide +kernel
theorem dX7_as_67 : decode cX7_as 67 = .ok (.iload_n 2, 1) := by decide +kernel
theorem dX7_as_68 : decode cX7_as 68 = .ok (.if_icmp .eq 32, 3) := by decide +kernel
theorem dX7_as_71 : decode cX7_as 71 = .ok (.iload_n 2, 1) := by decide +kernel
theorem dX7_as_72 : decode cX7_as 72 = .ok (.iconst 1, 1) := by decide +kernel
theorem dX7_as_73 : decode cX7_as 73 = .ok (.if_icmp .ne 9, 3) := by decide +kernel
theorem dX7_as_76 : decode cX7_as 76 = .ok (.iload 4, 2) := by decide +kernel
theorem dX7_as_78 : decode cX7_as 78 = .ok (.iconst 3, 1) := by decide +kernel
theorem dX7_as_79 : decode cX7_as 79 = .ok (.if_icmp .eq 21, 3) := by decide +kernel
theorem dX7_as_82 : decode cX7_as 82 = .ok (.iload_n 2, 1) := by decide +kernel
theorem dX7_as_83 : decode cX7_as 83 = .ok (.iconst 2, 1) := by decide +kernel
theorem dX7_as_84 : decode cX7_as 84 = .ok (.if_icmp .ne 20, 3) := by decide +kernel
theorem dX7_as_87 : decode cX7_as 87 = .ok (.iload 4, 2) := by decide +kernel
theorem dX7_as_89 : decode cX7_as 89 = .ok (.iconst 4, 1) := by decide +kernel
theorem dX7_as_90 : decode cX7_as 90 = .ok (.if_icmp .eq 10, 3) := by decide +kernel
theorem dX7_as_93 : decode cX7_as 93 = .ok (.iload 4, 2) := by decide +kernel
theorem dX7_as_95 : decode cX7_as 95 = .ok (.bipush 6, 2) := by decide +kernel
theorem dX7_as_97 : decode cX7_as 97 = .ok (.if_icmp .ne 7, 3) := by decide +kernel
theorem dX7_as_100 : decode cX7_as 100 = .ok (.iconst 1, 1) := by decide +kernel
theorem dX7_as_101 : decode cX7_as 101 = .ok (.goto 4, 3) := by decide +kernel
theorem dX7_as_104 : decode cX7_as 104 = .ok (.iconst 0, 1) := by decide +kernel
theorem dX7_as_105 : decode cX7_as 105 = .ok (.istore 5, 2) := by decide +kernel
theorem dX7_as_107 : decode cX7_as 107 = .ok (.iload 5, 2) := by decide +kernel
theorem dX7_as_109 : decode cX7_as 109 = .ok (.ifCond .eq 7, 3) := by decide +kernel
theorem dX7_as_112 : decode cX7_as 112 = .ok (.iload_n 3, 1) := by decide +kernel
theorem dX7_as_113 : decode cX7_as 113 = .ok (.goto 10, 3) := by decide +kernel
theorem dX7_as_116 : decode cX7_as 116 = .ok (.aload_n 0, 1) := by decide +kernel
theorem dX7_as_117 : decode cX7_as 117 = .ok (.ldc_w 347, 3) := by decide +kernel
theorem dX7_as_120 : decode cX7_as 120 = .ok (.invokevirtual 68, 3) := by decide +kernel
theorem dX7_as_123 : decode cX7_as 123 = .ok (.ireturn, 1) := by decide +kernel
theorem dX7_isOne_0 : decode cX7_isOne 0 = .ok (.iload_n 0, 1) := by decide +kernel
theorem dX7_isOne_1 : decode cX7_isOne 1 = .ok (.i2l, 1) := by decide +kernel
theorem dX7_isOne_2 : decode cX7_isOne 2 = .ok (.lconst 0, 1) := by decide +kernel
theorem dX7_isOne_3 : decode cX7_isOne 3 = .ok (.ldc2_w 58, 3) := by decide +kernel
theorem dX7_isOne_6 : decode cX7_isOne 6 = .ok (.invokestatic 43, 3) := by decide +kernel
theorem dX7_isOne_9 : decode cX7_isOne 9 = .ok (.ireturn, 1) := by decide +kernel
theorem dX7_sheet_0 : decode cX7_sheet 0 = .ok (.iload_n 1, 1) := by decide +kernel
theorem dX7_sheet_1 : decode cX7_sheet 1 = .ok (.invokestatic 348, 3) := by decide +kernel
theorem dX7_sheet_4 : decode cX7_sheet 4 = .ok (.ifCond .eq 25, 3) := by decide +kernel
theorem dX7_sheet_7 : decode cX7_sheet 7 = .ok (.iload_n 2, 1) := by decide +kernel
theorem dX7_sheet_8 : decode cX7_sheet 8 = .ok (.ifCond .eq 28, 3) := by decide +kernel
theorem dX7_sheet_11 : decode cX7_sheet 11 = .ok (.iload_n 2, 1) := by decide +kernel
theorem dX7_sheet_12 : decode cX7_sheet 12 = .ok (.bipush 8, 2) := by decide +kernel
theorem dX7_sheet_14 : decode cX7_sheet 14 = .ok (.if_icmp .eq 22, 3) := by decide +kernel
theorem dX7_sheet_17 : decode cX7_sheet 17 = .ok (.iload_n 2, 1) := by decide +kernel
theorem dX7_sheet_18 : decode cX7_sheet 18 = .ok (.bipush 16, 2) := by decide +kernel
theorem dX7_sheet_20 : decode cX7_sheet 20 = .ok (.if_icmp .eq 16, 3) := by decide +kernel
theorem dX7_sheet_23 : decode cX7_sheet 23 = .ok (.iload_n 2, 1) := by decide +kernel
theorem dX7_sheet_24 : decode cX7_sheet 24 = .ok (.bipush 32, 2) := by decide +kernel
theorem dX7_sheet_26 : decode cX7_sheet 26 = .ok (.if_icmp .eq 10, 3) := by decide +kernel
theorem dX7_sheet_29 : decode cX7_sheet 29 = .ok (.aload_n 0, 1) := by decide +kernel
theorem dX7_sheet_30 : decode cX7_sheet 30 = .ok (.ldc 40, 2) := by decide +kernel
theorem dX7_sheet_32 : decode cX7_sheet 32 = .ok (.invokevirtual 68, 3) := by decide +kernel
theorem dX7_sheet_35 : decode cX7_sheet 35 = .ok (.ireturn, 1) := by decide +kernel
theorem dX7_sheet_36 : decode cX7_sheet 36 = .ok (.iload_n 3, 1) := by decide +kernel
theorem dX7_sheet_37 : decode cX7_sheet 37 = .ok (.ifCond .ge 11, 3) := by decide +kernel
theorem dX7_sheet_40 : decode cX7_sheet 40 = .ok (.aload_n 0, 1) := by decide +kernel
theorem dX7_sheet_41 : decode cX7_sheet 41 = .ok (.ldc_w 351, 3) := by decide +kernel
theorem dX7_sheet_44 : decode cX7_sheet 44 = .ok (.invokevirtual 68, 3) := by decide +kernel
theorem dX7_sheet_47 : decode cX7_sheet 47 = .ok (.ireturn, 1) := by decide +kernel
theorem dX7_sheet_48 : decode cX7_sheet 48 = .ok (.iload_n 3, 1) := by decide +kernel
theorem dX7_sheet_49 : decode cX7_sheet 49 = .ok (.bipush 40, 2) := by decide +kernel
theorem dX7_sheet_51 : decode cX7_sheet 51 = .ok (.if_icmp .le 10, 3) := by decide +kernel
theorem dX7_sheet_54 : decode cX7_sheet 54 = .ok (.aload_n 0, 1) := by decide +kernel
theorem dX7_sheet_55 : decode cX7_sheet 55 = .ok (.ldc 40, 2) := by decide +kernel
theorem dX7_sheet_57 : decode cX7_sheet 57 = .ok (.invokevirtual 68, 3) := by decide +kernel
theorem dX7_sheet_60 : decode cX7_sheet 60 = .ok (.ireturn, 1) := by decide +kernel
theorem dX7_sheet_61 : decode cX7_sheet 61 = .ok (.aload_n 0, 1) := by decide +kernel
theorem dX7_sheet_62 : decode cX7_sheet 62 = .ok (.getfield 28, 3) := by decide +kernel
theorem dX7_sheet_65 : decode cX7_sheet 65 = .ok (.iload_n 1, 1) := by decide +kernel
theorem dX7_sheet_66 : decode cX7_sheet 66 = .ok (.iload_n 2, 1) := by decide +kernel
theorem dX7_sheet_67 : decode cX7_sheet 67 = .ok (.iastore, 1) := by decide +kernel
theorem dX7_sheet_68 : decode cX7_sheet 68 = .ok (.aload_n 0, 1) := by decide +kernel
theorem dX7_sheet_69 : decode cX7_sheet 69 = .ok (.getfield 31, 3) := by decide +kernel
theorem dX7_sheet_72 : decode cX7_sheet 72 = .ok (.iload_n 1, 1) := by decide +kernel
theorem dX7_sheet_73 : decode cX7_sheet 73 = .ok (.iload_n 2, 1) := by decide +kernel
theorem dX7_sheet_74 : decode cX7_sheet 74 = .ok (.ifCond .ne 7, 3) := by decide +kernel
theorem dX7_sheet_77 : decode cX7_sheet 77 = .ok (.iconst 0, 1) := by decide +kernel
theorem dX7_sheet_78 : decode cX7_sheet 78 = .ok (.goto 4, 3) := by decide +kernel
theorem dX7_sheet_81 : decode cX7_sheet 81 = .ok (.iload_n 3, 1) := by decide +kernel
theorem dX7_sheet_82 : decode cX7_sheet 82 = .ok (.iastore, 1) := by decide +kernel
theorem dX7_sheet_83 : decode cX7_sheet 83 = .ok (.iconst 0, 1) := by decide +kernel
theorem dX7_sheet_84 : decode cX7_sheet 84 = .ok (.istore 4, 2) := by decide +kernel
theorem dX7_sheet_86 : decode cX7_sheet 86 = .ok (.iload 4, 2) := by decide +kernel
theorem dX7_sheet_88 : decode cX7_sheet 88 = .ok (.bipush 40, 2) := by decide +kernel
theorem dX7_sheet_90 : decode cX7_sheet 90 = .ok (.if_icmp .ge 22, 3) := by decide +kernel
theorem dX7_sheet_93 : decode cX7_sheet 93 = .ok (.aload_n 0, 1) := by decide +kernel
theorem dX7_sheet_94 : decode cX7_sheet 94 = .ok (.getfield 34, 3) := by decide +kernel
theorem dX7_sheet_97 : decode cX7_sheet 97 = .ok (.bipush 40, 2) := by decide +kernel
theorem dX7_sheet_99 : decode cX7_sheet 99 = .ok (.iload_n 1, 1) := by decide +kernel
theorem dX7_sheet_100 : decode cX7_sheet 100 = .ok (.imul, 1) := by decide +kernel
theorem dX7_sheet_101 : decode cX7_sheet 101 = .ok (.iload 4, 2) := by decide +kernel
theorem dX7_sheet_103 : decode cX7_sheet 103 = .ok (.iadd, 1) := by decide +kernel
theorem dX7_sheet_104 : decode cX7_sheet 104 = .ok (.iconst 0, 1) := by decide +kernel
theorem dX7_sheet_105 : decode cX7_sheet 105 = .ok (.iastore, 1) := by decide +kernel
theorem dX7_sheet_106 : decode cX7_sheet 106 = .ok (.iinc 4 1, 3) := by decide +kernel
theorem dX7_sheet_109 : decode cX7_sheet 109 = .ok (.goto (-23), 3) := by decide +kernel
theorem dX7_sheet_112 : decode cX7_sheet 112 = .ok (.aload_n 0, 1) := by decide +kernel
theorem dX7_sheet_113 : decode cX7_sheet 113 = .ok (.getfield 31, 3) := by decide +kernel
theorem dX7_sheet_116 : decode cX7_sheet 116 = .ok (.iload_n 1, 1) := by decide +kernel
theorem dX7_sheet_117 : decode cX7_sheet 117 = .ok (.iaload, 1) := by decide +kernel
theorem dX7_sheet_118 : decode cX7_sheet 118 = .ok (.ireturn, 1) := by decide +kernel
theorem dX7_narrowed_0 : decode cX7_narrowed 0 = .ok (.iload_n 0, 1) := by decide +kernel
theorem dX7_narrowed_1 : decode cX7_narrowed 1 = .ok (.bipush 8, 2) := by decide +kernel
theorem dX7_narrowed_3 : decode cX7_narrowed 3 = .ok (.if_icmp .ne 8, 3) := by decide +kernel
theorem dX7_narrowed_6 : decode cX7_narrowed 6 = .ok (.iload_n 1, 1) := by decide +kernel
theorem dX7_narrowed_7 : decode cX7_narrowed 7 = .ok (.i2b, 1) := by decide +kernel
theorem dX7_narrowed_8 : decode cX7_narrowed 8 = .ok (.goto 15, 3) := by decide +kernel
theorem dX7_narrowed_11 : decode cX7_narrowed 11 = .ok (.iload_n 0, 1) := by decide +kernel
theorem dX7_narrowed_12 : decode cX7_narrowed 12 = .ok (.bipush 16, 2) := by decide +kernel
theorem dX7_narrowed_14 : decode cX7_narrowed 14 = .ok (.if_icmp .ne 8, 3) := by decide +kernel
theorem dX7_narrowed_17 : decode cX7_narrowed 17 = .ok (.iload_n 1, 1) := by decide +kernel
theorem dX7_narrowed_18 : decode cX7_narrowed 18 = .ok (.i2s, 1) := by decide +kernel
theorem dX7_narrowed_19 : decode cX7_narrowed 19 = .ok (.goto 4, 3) := by decide +kernel
theorem dX7_narrowed_22 : decode cX7_narrowed 22 = .ok (.iload_n 1, 1) := by decide +kernel
theorem dX7_narrowed_23 : decode cX7_narrowed 23 = .ok (.ireturn, 1) := by decide +kernel
theorem dX7_wrong_0 : decode cX7_wrong 0 = .ok (.iload_n 1, 1) := by decide +kernel
theorem dX7_wrong_1 : decode cX7_wrong 1 = .ok (.invokestatic 348, 3) := by decide +kernel
theorem dX7_wrong_4 : decode cX7_wrong 4 = .ok (.ifCond .ne 8, 3) := by decide +kernel
theorem dX7_wrong_7 : decode cX7_wrong 7 = .ok (.ldc 40, 2) := by decide +kernel
theorem dX7_wrong_9 : decode cX7_wrong 9 = .ok (.goto 19, 3) := by decide +kernel
theorem dX7_wrong_12 : decode cX7_wrong 12 = .ok (.aload_n 0, 1) := by decide +kernel
theorem dX7_wrong_13 : decode cX7_wrong 13 = .ok (.getfield 28, 3) := by decide +kernel
theorem dX7_wrong_16 : decode cX7_wrong 16 = .ok (.iload_n 1, 1) := by decide +kernel
theorem dX7_wrong_17 : decode cX7_wrong 17 = .ok (.iaload, 1) := by decide +kernel
theorem dX7_wrong_18 : decode cX7_wrong 18 = .ok (.ifCond .ne 9, 3) := by decide +kernel
theorem dX7_wrong_21 : decode cX7_wrong 21 = .ok (.ldc_w 346, 3) := by decide +kernel
theorem dX7_wrong_24 : decode cX7_wrong 24 = .ok (.goto 4, 3) := by decide +kernel
theorem dX7_wrong_27 : decode cX7_wrong 27 = .ok (.iconst 0, 1) := by decide +kernel
theorem dX7_wrong_28 : decode cX7_wrong 28 = .ok (.ireturn, 1) := by decide +kernel
theorem dX7_write_0 : decode cX7_write 0 = .ok (.aload_n 0, 1) := by decide +kernel
theorem dX7_write_1 : decode cX7_write 1 = .ok (.iload_n 1, 1) := by decide +kernel
theorem dX7_write_2 : decode cX7_write 2 = .ok (.invokevirtual 352, 3) := by decide +kernel
theorem dX7_write_5 : decode cX7_write 5 = .ok (.istore 4, 2) := by decide +kernel
theorem dX7_write_7 : decode cX7_write 7 = .ok (.iload 4, 2) := by decide +kernel
theorem dX7_write_9 : decode cX7_write 9 = .ok (.ifCond .eq 10, 3) := by decide +kernel
theorem dX7_write_12 : decode cX7_write 12 = .ok (.aload_n 0, 1) := by decide +kernel
theorem dX7_write_13 : decode cX7_write 13 = .ok (.iload 4, 2) := by decide +kernel
theorem dX7_write_15 : decode cX7_write 15 = .ok (.invokevirtual 68, 3) := by decide +kernel
theorem dX7_write_18 : decode cX7_write 18 = .ok (.ireturn, 1) := by decide +kernel
theorem dX7_write_19 : decode cX7_write 19 = .ok (.iload_n 2, 1) := by decide +kernel
theorem dX7_write_20 : decode cX7_write 20 = .ok (.i2l, 1) := by decide +kernel
theorem dX7_write_21 : decode cX7_write 21 = .ok (.lconst 0, 1) := by decide +kernel
theorem dX7_write_22 : decode cX7_write 22 = .ok (.aload_n 0, 1) := by decide +kernel
theorem dX7_write_23 : decode cX7_write 23 = .ok (.getfield 31, 3) := by decide +kernel
theorem dX7_write_26 : decode cX7_write 26 = .ok (.iload_n 1, 1) := by decide +kernel
theorem dX7_write_27 : decode cX7_write 27 = .ok (.iaload, 1) := by decide +kernel
theorem dX7_write_28 : decode cX7_write 28 = .ok (.iconst 1, 1) := by decide +kernel
theorem dX7_write_29 : decode cX7_write 29 = .ok (.isub, 1) := by decide +kernel
theorem dX7_write_30 : decode cX7_write 30 = .ok (.i2l, 1) := by decide +kernel
theorem dX7_write_31 : decode cX7_write 31 = .ok (.invokestatic 43, 3) := by decide +kernel
theorem dX7_write_34 : decode cX7_write 34 = .ok (.ifCond .ne 10, 3) := by decide +kernel
theorem dX7_write_37 : decode cX7_write 37 = .ok (.aload_n 0, 1) := by decide +kernel
theorem dX7_write_38 : decode cX7_write 38 = .ok (.ldc 40, 2) := by decide +kernel
theorem dX7_write_40 : decode cX7_write 40 = .ok (.invokevirtual 68, 3) := by decide +kernel
theorem dX7_write_43 : decode cX7_write 43 = .ok (.ireturn, 1) := by decide +kernel
theorem dX7_write_44 : decode cX7_write 44 = .ok (.aload_n 0, 1) := by decide +kernel
theorem dX7_write_45 : decode cX7_write 45 = .ok (.getfield 34, 3) := by decide +kernel
theorem dX7_write_48 : decode cX7_write 48 = .ok (.bipush 40, 2) := by decide +kernel
theorem dX7_write_50 : decode cX7_write 50 = .ok (.iload_n 1, 1) := by decide +kernel
theorem dX7_write_51 : decode cX7_write 51 = .ok (.imul, 1) := by decide +kernel
theorem dX7_write_52 : decode cX7_write 52 = .ok (.iload_n 2, 1) := by decide +kernel
theorem dX7_write_53 : decode cX7_write 53 = .ok (.iadd, 1) := by decide +kernel
theorem dX7_write_54 : decode cX7_write 54 = .ok (.aload_n 0, 1) := by decide +kernel
theorem dX7_write_55 : decode cX7_write 55 = .ok (.getfield 28, 3) := by decide +kernel
theorem dX7_write_58 : decode cX7_write 58 = .ok (.iload_n 1, 1) := by decide +kernel
theorem dX7_write_59 : decode cX7_write 59 = .ok (.iaload, 1) := by decide +kernel
theorem dX7_write_60 : decode cX7_write 60 = .ok (.iload_n 3, 1) := by decide +kernel
theorem dX7_write_61 : decode cX7_write 61 = .ok (.invokestatic 355, 3) := by decide +kernel
theorem dX7_write_64 : decode cX7_write 64 = .ok (.iastore, 1) := by decide +kernel
theorem dX7_write_65 : decode cX7_write 65 = .ok (.iconst 1, 1) := by decide +kernel
theorem dX7_write_66 : decode cX7_write 66 = .ok (.ireturn, 1) := by decide +kernel
theorem dX7_copy_0 : decode cX7_copy 0 = .ok (.iload_n 1, 1) := by decide +kernel
theorem dX7_copy_1 : decode cX7_copy 1 = .ok (.invokestatic 348, 3) := by decide +kernel
theorem dX7_copy_4 : decode cX7_copy 4 = .ok (.ifCond .eq 10, 3) := by decide +kernel
theorem dX7_copy_7 : decode cX7_copy 7 = .ok (.iload_n 3, 1) := by decide +kernel
theorem dX7_copy_8 : decode cX7_copy 8 = .ok (.invokestatic 348, 3) := by decide +kernel
theorem dX7_copy_11 : decode cX7_copy 11 = .ok (.ifCond .ne 10, 3) := by decide +kernel
theorem dX7_copy_14 : decode cX7_copy 14 = .ok (.aload_n 0, 1) := by decide +kernel
theorem dX7_copy_15 : decode cX7_copy 15 = .ok (.ldc 40, 2) := by decide +kernel
theorem dX7_copy_17 : decode cX7_copy 17 = .ok (.invokevirtual 68, 3) := by decide +kernel
theorem dX7_copy_20 : decode cX7_copy 20 = .ok (.ireturn, 1) := by decide +kernel
theorem dX7_copy_21 : decode cX7_copy 21 = .ok (.aload_n 0, 1) := by decide +kernel
theorem dX7_copy_22 : decode cX7_copy 22 = .ok (.getfield 28, 3) := by decide +kernel
theorem dX7_copy_25 : decode cX7_copy 25 = .ok (.iload_n 1, 1) := by decide +kernel
theorem dX7_copy_26 : decode cX7_copy 26 = .ok (.iaload, 1) := by decide +kernel
theorem dX7_copy_27 : decode cX7_copy 27 = .ok (.ifCond .eq 12, 3) := by decide +kernel
theorem dX7_copy_30 : decode cX7_copy 30 = .ok (.aload_n 0, 1) := by decide +kernel
theorem dX7_copy_31 : decode cX7_copy 31 = .ok (.getfield 28, 3) := by decide +kernel
theorem dX7_copy_34 : decode cX7_copy 34 = .ok (.iload_n 3, 1) := by decide +kernel
theorem dX7_copy_35 : decode cX7_copy 35 = .ok (.iaload, 1) := by decide +kernel
theorem dX7_copy_36 : decode cX7_copy 36 = .ok (.ifCond .ne 11, 3) := by decide +kernel
theorem dX7_copy_39 : decode cX7_copy 39 = .ok (.aload_n 0, 1) := by decide +kernel
theorem dX7_copy_40 : decode cX7_copy 40 = .ok (.ldc_w 346, 3) := by decide +kernel
theorem dX7_copy_43 : decode cX7_copy 43 = .ok (.invokevirtual 68, 3) := by decide +kernel
theorem dX7_copy_46 : decode cX7_copy 46 = .ok (.ireturn, 1) := by decide +kernel
theorem dX7_copy_47 : decode cX7_copy 47 = .ok (.aload_n 0, 1) := by decide +kernel
theorem dX7_copy_48 : decode cX7_copy 48 = .ok (.getfield 28, 3) := by decide +kernel
theorem dX7_copy_51 : decode cX7_copy 51 = .ok (.iload_n 1, 1) := by decide +kernel
theorem dX7_copy_52 : decode cX7_copy 52 = .ok (.iaload, 1) := by decide +kernel
theorem dX7_copy_53 : decode cX7_copy 53 = .ok (.aload_n 0, 1) := by decide +kernel
theorem dX7_copy_54 : decode cX7_copy 54 = .ok (.getfield 28, 3) := by decide +kernel
theorem dX7_copy_57 : decode cX7_copy 57 = .ok (.iload_n 3, 1) := by decide +kernel
theorem dX7_copy_58 : decode cX7_copy 58 = .ok (.iaload, 1) := by decide +kernel
theorem dX7_copy_59 : decode cX7_copy 59 = .ok (.if_icmp .eq 11, 3) := by decide +kernel
theorem dX7_copy_62 : decode cX7_copy 62 = .ok (.aload_n 0, 1) := by decide +kernel
theorem dX7_copy_63 : decode cX7_copy 63 = .ok (.ldc_w 347, 3) := by decide +kernel
theorem dX7_copy_66 : decode cX7_copy 66 = .ok (.invokevirtual 68, 3) := by decide +kernel
theorem dX7_copy_69 : decode cX7_copy 69 = .ok (.ireturn, 1) := by decide +kernel
theorem dX7_copy_70 : decode cX7_copy 70 = .ok (.iload_n 2, 1) := by decide +kernel
theorem dX7_copy_71 : decode cX7_copy 71 = .ok (.ifCond .lt 40, 3) := by decide +kernel
theorem dX7_copy_74 : decode cX7_copy 74 = .ok (.iload 4, 2) := by decide +kernel
theorem dX7_copy_76 : decode cX7_copy 76 = .ok (.ifCond .lt 35, 3) := by decide +kernel
theorem dX7_copy_79 : decode cX7_copy 79 = .ok (.iload 5, 2) := by decide +kernel
theorem dX7_copy_81 : decode cX7_copy 81 = .ok (.ifCond .lt 30, 3) := by decide +kernel
theorem dX7_copy_84 : decode cX7_copy 84 = .ok (.iload 5, 2) := by decide +kernel
theorem dX7_copy_86 : decode cX7_copy 86 = .ok (.aload_n 0, 1) := by decide +kernel
theorem dX7_copy_87 : decode cX7_copy 87 = .ok (.getfield 31, 3) := by decide +kernel
theorem dX7_copy_90 : decode cX7_copy 90 = .ok (.iload_n 1, 1) := by decide +kernel
theorem dX7_copy_91 : decode cX7_copy 91 = .ok (.iaload, 1) := by decide +kernel
theorem dX7_copy_92 : decode cX7_copy 92 = .ok (.iload_n 2, 1) := by decide +kernel
theorem dX7_copy_93 : decode cX7_copy 93 = .ok (.isub, 1) := by decide +kernel
theorem dX7_copy_94 : decode cX7_copy 94 = .ok (.if_icmp .gt 17, 3) := by decide +kernel
theorem dX7_copy_97 : decode cX7_copy 97 = .ok (.iload 5, 2) := by decide +kernel
theorem dX7_copy_99 : decode cX7_copy 99 = .ok (.aload_n 0, 1) := by decide +kernel
theorem dX7_copy_100 : decode cX7_copy 100 = .ok (.getfield 31, 3) := by decide +kernel
theorem dX7_copy_103 : decode cX7_copy 103 = .ok (.iload_n 3, 1) := by decide +kernel
theorem dX7_copy_104 : decode cX7_copy 104 = .ok (.iaload, 1) := by decide +kernel
theorem dX7_copy_105 : decode cX7_copy 105 = .ok (.iload 4, 2) := by decide +kernel
theorem dX7_copy_107 : decode cX7_copy 107 = .ok (.isub, 1) := by decide +kernel
theorem dX7_copy_108 : decode cX7_copy 108 = .ok (.if_icmp .le 10, 3) := by decide +kernel
theorem dX7_copy_111 : decode cX7_copy 111 = .ok (.aload_n 0, 1) := by decide +kernel
theorem dX7_copy_112 : decode cX7_copy 112 = .ok (.ldc 40, 2) := by decide +kernel
theorem dX7_copy_114 : decode cX7_copy 114 = .ok (.invokevirtual 68, 3) := by decide +kernel
theorem dX7_copy_117 : decode cX7_copy 117 = .ok (.ireturn, 1) := by decide +kernel
theorem dX7_copy_118 : decode cX7_copy 118 = .ok (.iconst 0, 1) := by decide +kernel
theorem dX7_copy_119 : decode cX7_copy 119 = .ok (.istore 6, 2) := by decide +kernel
theorem dX7_copy_121 : decode cX7_copy 121 = .ok (.iload 6, 2) := by decide +kernel
theorem dX7_copy_123 : decode cX7_copy 123 = .ok (.iload 5, 2) := by decide +kernel
theorem dX7_copy_125 : decode cX7_copy 125 = .ok (.if_icmp .ge 30, 3) := by decide +kernel
theorem dX7_copy_128 : decode cX7_copy 128 = .ok (.aload_n 0, 1) := by decide +kernel
theorem dX7_copy_129 : decode cX7_copy 129 = .ok (.getfield 37, 3) := by decide +kernel
theorem dX7_copy_132 : decode cX7_copy 132 = .ok (.iload 6, 2) := by decide +kernel
theorem dX7_copy_134 : decode cX7_copy 134 = .ok (.aload_n 0, 1) := by decide +kernel
theorem dX7_copy_135 : decode cX7_copy 135 = .ok (.getfield 34, 3) := by decide +kernel
theorem dX7_copy_138 : decode cX7_copy 138 = .ok (.bipush 40, 2) := by decide +kernel
theorem dX7_copy_140 : decode cX7_copy 140 = .ok (.iload_n 1, 1) := by decide +kernel
theorem dX7_copy_141 : decode cX7_copy 141 = .ok (.imul, 1) := by decide +kernel
theorem dX7_copy_142 : decode cX7_copy 142 = .ok (.iload_n 2, 1) := by decide +kernel
theorem dX7_copy_143 : decode cX7_copy 143 = .ok (.iadd, 1) := by decide +kernel
theorem dX7_copy_144 : decode cX7_copy 144 = .ok (.iload 6, 2) := by decide +kernel
theorem dX7_copy_146 : decode cX7_copy 146 = .ok (.iadd, 1) := by decide +kernel
theorem dX7_copy_147 : decode cX7_copy 147 = .ok (.iaload, 1) := by decide +kernel
theorem dX7_copy_148 : decode cX7_copy 148 = .ok (.iastore, 1) := by decide +kernel
theorem dX7_copy_149 : decode cX7_copy 149 = .ok (.iinc 6 1, 3) := by decide +kernel
theorem dX7_copy_152 : decode cX7_copy 152 = .ok (.goto (-31), 3) := by decide +kernel
theorem dX7_copy_155 : decode cX7_copy 155 = .ok (.iconst 0, 1) := by decide +kernel
theorem dX7_copy_156 : decode cX7_copy 156 = .ok (.istore 6, 2) := by decide +kernel
theorem dX7_copy_158 : decode cX7_copy 158 = .ok (.iload 6, 2) := by decide +kernel
theorem dX7_copy_160 : decode cX7_copy 160 = .ok (.iload 5, 2) := by decide +kernel
theorem dX7_copy_162 : decode cX7_copy 162 = .ok (.if_icmp .ge 31, 3) := by decide +kernel
theorem dX7_copy_165 : decode cX7_copy 165 = .ok (.aload_n 0, 1) := by decide +kernel
theorem dX7_copy_166 : decode cX7_copy 166 = .ok (.getfield 34, 3) := by decide +kernel
theorem dX7_copy_169 : decode cX7_copy 169 = .ok (.bipush 40, 2) := by decide +kernel
theorem dX7_copy_171 : decode cX7_copy 171 = .ok (.iload_n 3, 1) := by decide +kernel
theorem dX7_copy_172 : decode cX7_copy 172 = .ok (.imul, 1) := by decide +kernel
theorem dX7_copy_173 : decode cX7_copy 173 = .ok (.iload 4, 2) := by decide +kernel
theorem dX7_copy_175 : decode cX7_copy 175 = .ok (.iadd, 1) := by decide +kernel
theorem dX7_copy_176 : decode cX7_copy 176 = .ok (.iload 6, 2) := by decide +kernel
theorem dX7_copy_178 : decode cX7_copy 178 = .ok (.iadd, 1) := by decide +kernel
theorem dX7_copy_179 : decode cX7_copy 179 = .ok (.aload_n 0, 1) := by decide +kernel
theorem dX7_copy_180 : decode cX7_copy 180 = .ok (.getfield 37, 3) := by decide +kernel
theorem dX7_copy_183 : decode cX7_copy 183 = .ok (.iload 6, 2) := by decide +kernel
theorem dX7_copy_185 : decode cX7_copy 185 = .ok (.iaload, 1) := by decide +kernel
theorem dX7_copy_186 : decode cX7_copy 186 = .ok (.iastore, 1) := by decide +kernel
theorem dX7_copy_187 : decode cX7_copy 187 = .ok (.iinc 6 1, 3) := by decide +kernel
theorem dX7_copy_190 : decode cX7_copy 190 = .ok (.goto (-32), 3) := by decide +kernel
theorem dX7_copy_193 : decode cX7_copy 193 = .ok (.iload 5, 2) := by decide +kernel
theorem dX7_copy_195 : decode cX7_copy 195 = .ok (.ireturn, 1) := by decide +kernel
theorem dX7_load_0 : decode cX7_load 0 = .ok (.aload_n 0, 1) := by decide +kernel
theorem dX7_load_1 : decode cX7_load 1 = .ok (.iload_n 1, 1) := by decide +kernel
theorem dX7_load_2 : decode cX7_load 2 = .ok (.invokevirtual 352, 3) := by decide +kernel
theorem dX7_load_5 : decode cX7_load 5 = .ok (.istore_n 2, 1) := by decide +kernel
theorem dX7_load_6 : decode cX7_load 6 = .ok (.iload_n 2, 1) := by decide +kernel
theorem dX7_load_7 : decode cX7_load 7 = .ok (.ifCond .eq 9, 3) := by decide +kernel
theorem dX7_load_10 : decode cX7_load 10 = .ok (.aload_n 0, 1) := by decide +kernel
theorem dX7_load_11 : decode cX7_load 11 = .ok (.iload_n 2, 1) := by decide +kernel
theorem dX7_load_12 : decode cX7_load 12 = .ok (.invokevirtual 68, 3) := by decide +kernel
theorem dX7_load_15 : decode cX7_load 15 = .ok (.ireturn, 1) := by decide +kernel
theorem dX7_load_16 : decode cX7_load 16 = .ok (.iconst 0, 1) := by decide +kernel
theorem dX7_load_17 : decode cX7_load 17 = .ok (.istore_n 3, 1) := by decide +kernel
theorem dX7_load_18 : decode cX7_load 18 = .ok (.iload_n 3, 1) := by decide +kernel
theorem dX7_load_19 : decode cX7_load 19 = .ok (.aload_n 0, 1) := by decide +kernel
theorem dX7_load_20 : decode cX7_load 20 = .ok (.getfield 31, 3) := by decide +kernel
theorem dX7_load_23 : decode cX7_load 23 = .ok (.iload_n 1, 1) := by decide +kernel
theorem dX7_load_24 : decode cX7_load 24 = .ok (.iaload, 1) := by decide +kernel
theorem dX7_load_25 : decode cX7_load 25 = .ok (.if_icmp .ge 57, 3) := by decide +kernel
theorem dX7_load_28 : decode cX7_load 28 = .ok (.iload_n 3, 1) := by decide +kernel
theorem dX7_load_29 : decode cX7_load 29 = .ok (.aload_n 0, 1) := by decide +kernel
theorem dX7_load_30 : decode cX7_load 30 = .ok (.getfield 7, 3) := by decide +kernel
theorem dX7_load_33 : decode cX7_load 33 = .ok (.iconst 1, 1) := by decide +kernel
theorem dX7_load_34 : decode cX7_load 34 = .ok (.iaload, 1) := by decide +kernel
theorem dX7_load_35 : decode cX7_load 35 = .ok (.if_icmp .ge 47, 3) := by decide +kernel
theorem dX7_load_38 : decode cX7_load 38 = .ok (.aload_n 0, 1) := by decide +kernel
theorem dX7_load_39 : decode cX7_load 39 = .ok (.getfield 34, 3) := by decide +kernel
theorem dX7_load_42 : decode cX7_load 42 = .ok (.bipush 40, 2) := by decide +kernel
theorem dX7_load_44 : decode cX7_load 44 = .ok (.iload_n 1, 1) := by decide +kernel
theorem dX7_load_45 : decode cX7_load 45 = .ok (.imul, 1) := by decide +kernel
theorem dX7_load_46 : decode cX7_load 46 = .ok (.iload_n 3, 1) := by decide +kernel
theorem dX7_load_47 : decode cX7_load 47 = .ok (.iadd, 1) := by decide +kernel
theorem dX7_load_48 : decode cX7_load 48 = .ok (.iaload, 1) := by decide +kernel
theorem dX7_load_49 : decode cX7_load 49 = .ok (.invokestatic 60, 3) := by decide +kernel
theorem dX7_load_52 : decode cX7_load 52 = .ok (.ifCond .eq 30, 3) := by decide +kernel
theorem dX7_load_55 : decode cX7_load 55 = .ok (.aload_n 0, 1) := by decide +kernel
theorem dX7_load_56 : decode cX7_load 56 = .ok (.getfield 7, 3) := by decide +kernel
theorem dX7_load_59 : decode cX7_load 59 = .ok (.iload_n 3, 1) := by decide +kernel
theorem dX7_load_60 : decode cX7_load 60 = .ok (.iconst 0, 1) := by decide +kernel
theorem dX7_load_61 : decode cX7_load 61 = .ok (.invokestatic 84, 3) := by decide +kernel
theorem dX7_load_64 : decode cX7_load 64 = .ok (.aload_n 0, 1) := by decide +kernel
theorem dX7_load_65 : decode cX7_load 65 = .ok (.getfield 34, 3) := by decide +kernel
theorem dX7_load_68 : decode cX7_load 68 = .ok (.bipush 40, 2) := by decide +kernel
theorem dX7_load_70 : decode cX7_load 70 = .ok (.iload_n 1, 1) := by decide +kernel
theorem dX7_load_71 : decode cX7_load 71 = .ok (.imul, 1) := by decide +kernel
theorem dX7_load_72 : decode cX7_load 72 = .ok (.iload_n 3, 1) := by decide +kernel
theorem dX7_load_73 : decode cX7_load 73 = .ok (.iadd, 1) := by decide +kernel
theorem dX7_load_74 : decode cX7_load 74 = .ok (.iaload, 1) := by decide +kernel
theorem dX7_load_75 : decode cX7_load 75 = .ok (.iastore, 1) := by decide +kernel
theorem dX7_load_76 : decode cX7_load 76 = .ok (.iinc 3 1, 3) := by decide +kernel
theorem dX7_load_79 : decode cX7_load 79 = .ok (.goto (-61), 3) := by decide +kernel
theorem dX7_load_82 : decode cX7_load 82 = .ok (.iload_n 3, 1) := by decide +kernel
theorem dX7_load_83 : decode cX7_load 83 = .ok (.ireturn, 1) := by decide +kernel
theorem dX7_judge_0 : decode cX7_judge 0 = .ok (.aload_n 0, 1) := by decide +kernel
theorem dX7_judge_1 : decode cX7_judge 1 = .ok (.iload_n 1, 1) := by decide +kernel
theorem dX7_judge_2 : decode cX7_judge 2 = .ok (.invokevirtual 352, 3) := by decide +kernel
theorem dX7_judge_5 : decode cX7_judge 5 = .ok (.istore_n 3, 1) := by decide +kernel
theorem dX7_judge_6 : decode cX7_judge 6 = .ok (.iload_n 3, 1) := by decide +kernel
theorem dX7_judge_7 : decode cX7_judge 7 = .ok (.ifCond .eq 9, 3) := by decide +kernel
theorem dX7_judge_10 : decode cX7_judge 10 = .ok (.aload_n 0, 1) := by decide +kernel
theorem dX7_judge_11 : decode cX7_judge 11 = .ok (.iload_n 3, 1) := by decide +kernel
theorem dX7_judge_12 : decode cX7_judge 12 = .ok (.invokevirtual 68, 3) := by decide +kernel
theorem dX7_judge_15 : decode cX7_judge 15 = .ok (.ireturn, 1) := by decide +kernel
theorem dX7_judge_16 : decode cX7_judge 16 = .ok (.aload_n 0, 1) := by decide +kernel
theorem dX7_judge_17 : decode cX7_judge 17 = .ok (.iload_n 2, 1) := by decide +kernel
theorem dX7_judge_18 : decode cX7_judge 18 = .ok (.invokevirtual 76, 3) := by decide +kernel
theorem dX7_judge_21 : decode cX7_judge 21 = .ok (.ifCond .ne 10, 3) := by decide +kernel
theorem dX7_judge_24 : decode cX7_judge 24 = .ok (.aload_n 0, 1) := by decide +kernel
theorem dX7_judge_25 : decode cX7_judge 25 = .ok (.ldc 40, 2) := by decide +kernel
theorem dX7_judge_27 : decode cX7_judge 27 = .ok (.invokevirtual 68, 3) := by decide +kernel
theorem dX7_judge_30 : decode cX7_judge 30 = .ok (.ireturn, 1) := by decide +kernel
theorem dX7_judge_31 : decode cX7_judge 31 = .ok (.iconst 0, 1) := by decide +kernel
theorem dX7_judge_32 : decode cX7_judge 32 = .ok (.istore 4, 2) := by decide +kernel
theorem dX7_judge_34 : decode cX7_judge 34 = .ok (.iconst 1, 1) := by decide +kernel
theorem dX7_judge_35 : decode cX7_judge 35 = .ok (.istore 5, 2) := by decide +kernel
theorem dX7_judge_37 : decode cX7_judge 37 = .ok (.iload 5, 2) := by decide +kernel
theorem dX7_judge_39 : decode cX7_judge 39 = .ok (.ifCond .eq 64, 3) := by decide +kernel
theorem dX7_judge_42 : decode cX7_judge 42 = .ok (.iload 4, 2) := by decide +kernel
theorem dX7_judge_44 : decode cX7_judge 44 = .ok (.aload_n 0, 1) := by decide +kernel
theorem dX7_judge_45 : decode cX7_judge 45 = .ok (.getfield 31, 3) := by decide +kernel
theorem dX7_judge_48 : decode cX7_judge 48 = .ok (.iload_n 1, 1) := by decide +kernel
theorem dX7_judge_49 : decode cX7_judge 49 = .ok (.iaload, 1) := by decide +kernel
theorem dX7_judge_50 : decode cX7_judge 50 = .ok (.if_icmp .ge 53, 3) := by decide +kernel
theorem dX7_judge_53 : decode cX7_judge 53 = .ok (.aload_n 0, 1) := by decide +kernel
theorem dX7_judge_54 : decode cX7_judge 54 = .ok (.iload_n 2, 1) := by decide +kernel
theorem dX7_judge_55 : decode cX7_judge 55 = .ok (.aload_n 0, 1) := by decide +kernel
theorem dX7_judge_56 : decode cX7_judge 56 = .ok (.getfield 34, 3) := by decide +kernel
theorem dX7_judge_59 : decode cX7_judge 59 = .ok (.bipush 40, 2) := by decide +kernel
theorem dX7_judge_61 : decode cX7_judge 61 = .ok (.iload_n 1, 1) := by decide +kernel
theorem dX7_judge_62 : decode cX7_judge 62 = .ok (.imul, 1) := by decide +kernel
theorem dX7_judge_63 : decode cX7_judge 63 = .ok (.iload 4, 2) := by decide +kernel
theorem dX7_judge_65 : decode cX7_judge 65 = .ok (.iadd, 1) := by decide +kernel
theorem dX7_judge_66 : decode cX7_judge 66 = .ok (.iaload, 1) := by decide +kernel
theorem dX7_judge_67 : decode cX7_judge 67 = .ok (.iconst 0, 1) := by decide +kernel
theorem dX7_judge_68 : decode cX7_judge 68 = .ok (.invokevirtual 214, 3) := by decide +kernel
theorem dX7_judge_71 : decode cX7_judge 71 = .ok (.aload_n 0, 1) := by decide +kernel
theorem dX7_judge_72 : decode cX7_judge 72 = .ok (.getfield 199, 3) := by decide +kernel
theorem dX7_judge_75 : decode cX7_judge 75 = .ok (.ifCond .le 7, 3) := by decide +kernel
theorem dX7_judge_78 : decode cX7_judge 78 = .ok (.iconst 1, 1) := by decide +kernel
theorem dX7_judge_79 : decode cX7_judge 79 = .ok (.goto 4, 3) := by decide +kernel
theorem dX7_judge_82 : decode cX7_judge 82 = .ok (.iconst 0, 1) := by decide +kernel
theorem dX7_judge_83 : decode cX7_judge 83 = .ok (.istore 5, 2) := by decide +kernel
theorem dX7_judge_85 : decode cX7_judge 85 = .ok (.iload 4, 2) := by decide +kernel
theorem dX7_judge_87 : decode cX7_judge 87 = .ok (.iload 5, 2) := by decide +kernel
theorem dX7_judge_89 : decode cX7_judge 89 = .ok (.ifCond .eq 7, 3) := by decide +kernel
theorem dX7_judge_92 : decode cX7_judge 92 = .ok (.iconst 1, 1) := by decide +kernel
theorem dX7_judge_93 : decode cX7_judge 93 = .ok (.goto 4, 3) := by decide +kernel
theorem dX7_judge_96 : decode cX7_judge 96 = .ok (.iconst 0, 1) := by decide +kernel
theorem dX7_judge_97 : decode cX7_judge 97 = .ok (.iadd, 1) := by decide +kernel
theorem dX7_judge_98 : decode cX7_judge 98 = .ok (.istore 4, 2) := by decide +kernel
theorem dX7_judge_100 : decode cX7_judge 100 = .ok (.goto (-63), 3) := by decide +kernel
theorem dX7_judge_103 : decode cX7_judge 103 = .ok (.iload 5, 2) := by decide +kernel
theorem dX7_judge_105 : decode cX7_judge 105 = .ok (.ifCond .eq 7, 3) := by decide +kernel
theorem dX7_judge_108 : decode cX7_judge 108 = .ok (.iconst 0, 1) := by decide +kernel
theorem dX7_judge_109 : decode cX7_judge 109 = .ok (.goto 7, 3) := by decide +kernel
theorem dX7_judge_112 : decode cX7_judge 112 = .ok (.iconst 1, 1) := by decide +kernel
theorem dX7_judge_113 : decode cX7_judge 113 = .ok (.iload 4, 2) := by decide +kernel
theorem dX7_judge_115 : decode cX7_judge 115 = .ok (.iadd, 1) := by decide +kernel
theorem dX7_judge_116 : decode cX7_judge 116 = .ok (.ireturn, 1) := by decide +kernel
theorem dX7_image_0 : decode cX7_image 0 = .ok (.iconst 0, 1) := by decide +kernel
theorem dX7_image_1 : decode cX7_image 1 = .ok (.istore_n 1, 1) := by decide +kernel
theorem dX7_image_2 : decode cX7_image 2 = .ok (.iload_n 1, 1) := by decide +kernel
theorem dX7_image_3 : decode cX7_image 3 = .ok (.bipush 99, 2) := by decide +kernel
theorem dX7_image_5 : decode cX7_image 5 = .ok (.if_icmp .ge 21, 3) := by decide +kernel
theorem dX7_image_8 : decode cX7_image 8 = .ok (.aload_n 0, 1) := by decide +kernel
theorem dX7_image_9 : decode cX7_image 9 = .ok (.getfield 13, 3) := by decide +kernel
theorem dX7_image_12 : decode cX7_image 12 = .ok (.iload_n 1, 1) := by decide +kernel
theorem dX7_image_13 : decode cX7_image 13 = .ok (.aload_n 0, 1) := by decide +kernel
theorem dX7_image_14 : decode cX7_image 14 = .ok (.getfield 7, 3) := by decide +kernel
theorem dX7_image_17 : decode cX7_image 17 = .ok (.iload_n 1, 1) := by decide +kernel
theorem dX7_image_18 : decode cX7_image 18 = .ok (.iaload, 1) := by decide +kernel
theorem dX7_image_19 : decode cX7_image 19 = .ok (.iastore, 1) := by decide +kernel
theorem dX7_image_20 : decode cX7_image 20 = .ok (.iinc 1 1, 3) := by decide +kernel
theorem dX7_image_23 : decode cX7_image 23 = .ok (.goto (-21), 3) := by decide +kernel
theorem dX7_image_26 : decode cX7_image 26 = .ok (.aload_n 0, 1) := by decide +kernel
theorem dX7_image_27 : decode cX7_image 27 = .ok (.iconst 1, 1) := by decide +kernel
theorem dX7_image_28 : decode cX7_image 28 = .ok (.putfield 358, 3) := by decide +kernel
theorem dX7_image_31 : decode cX7_image 31 = .ok (.iconst 1, 1) := by decide +kernel
theorem dX7_image_32 : decode cX7_image 32 = .ok (.ireturn, 1) := by decide +kernel
theorem dX7_undo_0 : decode cX7_undo 0 = .ok (.aload_n 0, 1) := by decide +kernel
theorem dX7_undo_1 : decode cX7_undo 1 = .ok (.getfield 358, 3) := by decide +kernel
theorem dX7_undo_4 : decode cX7_undo 4 = .ok (.ifCond .ne 10, 3) := by decide +kernel
theorem dX7_undo_7 : decode cX7_undo 7 = .ok (.aload_n 0, 1) := by decide +kernel
theorem dX7_undo_8 : decode cX7_undo 8 = .ok (.ldc 195, 2) := by decide +kernel
theorem dX7_undo_10 : decode cX7_undo 10 = .ok (.invokevirtual 68, 3) := by decide +kernel
theorem dX7_undo_13 : decode cX7_undo 13 = .ok (.ireturn, 1) := by decide +kernel
theorem dX7_undo_14 : decode cX7_undo 14 = .ok (.iconst 0, 1) := by decide +kernel
theorem dX7_undo_15 : decode cX7_undo 15 = .ok (.istore_n 1, 1) := by decide +kernel
theorem dX7_undo_16 : decode cX7_undo 16 = .ok (.iload_n 1, 1) := by decide +kernel
theorem dX7_undo_17 : decode cX7_undo 17 = .ok (.bipush 99, 2) := by decide +kernel
theorem dX7_undo_19 : decode cX7_undo 19 = .ok (.if_icmp .ge 21, 3) := by decide +kernel
theorem dX7_undo_22 : decode cX7_undo 22 = .ok (.aload_n 0, 1) := by decide +kernel
theorem dX7_undo_23 : decode cX7_undo 23 = .ok (.getfield 7, 3) := by decide +kernel
theorem dX7_undo_26 : decode cX7_undo 26 = .ok (.iload_n 1, 1) := by decide +kernel
theorem dX7_undo_27 : decode cX7_undo 27 = .ok (.aload_n 0, 1) := by decide +kernel
theorem dX7_undo_28 : decode cX7_undo 28 = .ok (.getfield 13, 3) := by decide +kernel
theorem dX7_undo_31 : decode cX7_undo 31 = .ok (.iload_n 1, 1) := by decide +kernel
theorem dX7_undo_32 : decode cX7_undo 32 = .ok (.iaload, 1) := by decide +kernel
theorem dX7_undo_33 : decode cX7_undo 33 = .ok (.iastore, 1) := by decide +kernel
theorem dX7_undo_34 : decode cX7_undo 34 = .ok (.iinc 1 1, 3) := by decide +kernel
theorem dX7_undo_37 : decode cX7_undo 37 = .ok (.goto (-21), 3) := by decide +kernel
theorem dX7_undo_40 : decode cX7_undo 40 = .ok (.aload_n 0, 1) := by decide +kernel
theorem dX7_undo_41 : decode cX7_undo 41 = .ok (.getfield 7, 3) := by decide +kernel
theorem dX7_undo_44 : decode cX7_undo 44 = .ok (.iconst 3, 1) := by decide +kernel
theorem dX7_undo_45 : decode cX7_undo 45 = .ok (.iaload, 1) := by decide +kernel
theorem dX7_undo_46 : decode cX7_undo 46 = .ok (.ireturn, 1) := by decide +kernel
theorem dX7_tear_0 : decode cX7_tear 0 = .ok (.aload_n 0, 1) := by decide +kernel
theorem dX7_tear_1 : decode cX7_tear 1 = .ok (.getfield 358, 3) := by decide +kernel
theorem dX7_tear_4 : decode cX7_tear 4 = .ok (.ifCond .eq 7, 3) := by decide +kernel
theorem dX7_tear_7 : decode cX7_tear 7 = .ok (.iconst 1, 1) := by decide +kernel
theorem dX7_tear_8 : decode cX7_tear 8 = .ok (.goto 4, 3) := by decide +kernel
theorem dX7_tear_11 : decode cX7_tear 11 = .ok (.iconst 0, 1) := by decide +kernel
theorem dX7_tear_12 : decode cX7_tear 12 = .ok (.istore_n 1, 1) := by decide +kernel
theorem dX7_tear_13 : decode cX7_tear 13 = .ok (.aload_n 0, 1) := by decide +kernel
theorem dX7_tear_14 : decode cX7_tear 14 = .ok (.iconst 0, 1) := by decide +kernel
theorem dX7_tear_15 : decode cX7_tear 15 = .ok (.putfield 358, 3) := by decide +kernel
theorem dX7_tear_18 : decode cX7_tear 18 = .ok (.iload_n 1, 1) := by decide +kernel
theorem dX7_tear_19 : decode cX7_tear 19 = .ok (.ireturn, 1) := by decide +kernel
theorem dX7_held_0 : decode cX7_held 0 = .ok (.iconst 0, 1) := by decide +kernel
theorem dX7_held_1 : decode cX7_held 1 = .ok (.istore_n 1, 1) := by decide +kernel
theorem dX7_held_2 : decode cX7_held 2 = .ok (.iconst 0, 1) := by decide +kernel
theorem dX7_held_3 : decode cX7_held 3 = .ok (.istore_n 2, 1) := by decide +kernel
theorem dX7_held_4 : decode cX7_held 4 = .ok (.iload_n 2, 1) := by decide +kernel
theorem dX7_held_5 : decode cX7_held 5 = .ok (.bipush 10, 2) := by decide +kernel
theorem dX7_held_7 : decode cX7_held 7 = .ok (.if_icmp .ge 29, 3) := by decide +kernel
theorem dX7_held_10 : decode cX7_held 10 = .ok (.iload_n 1, 1) := by decide +kernel
theorem dX7_held_11 : decode cX7_held 11 = .ok (.aload_n 0, 1) := by decide +kernel
theorem dX7_held_12 : decode cX7_held 12 = .ok (.getfield 7, 3) := by decide +kernel
theorem dX7_held_15 : decode cX7_held 15 = .ok (.bipush 89, 2) := by decide +kernel
theorem dX7_held_17 : decode cX7_held 17 = .ok (.iload_n 2, 1) := by decide +kernel
theorem dX7_held_18 : decode cX7_held 18 = .ok (.iadd, 1) := by decide +kernel
theorem dX7_held_19 : decode cX7_held 19 = .ok (.iaload, 1) := by decide +kernel
theorem dX7_held_20 : decode cX7_held 20 = .ok (.ifCond .ge 7, 3) := by decide +kernel
theorem dX7_held_23 : decode cX7_held 23 = .ok (.iconst 0, 1) := by decide +kernel
theorem dX7_held_24 : decode cX7_held 24 = .ok (.goto 4, 3) := by decide +kernel
theorem dX7_held_27 : decode cX7_held 27 = .ok (.iconst 1, 1) := by decide +kernel
theorem dX7_held_28 : decode cX7_held 28 = .ok (.iadd, 1) := by decide +kernel
theorem dX7_held_29 : decode cX7_held 29 = .ok (.istore_n 1, 1) := by decide +kernel
theorem dX7_held_30 : decode cX7_held 30 = .ok (.iinc 2 1, 3) := by decide +kernel
theorem dX7_held_33 : decode cX7_held 33 = .ok (.goto (-29), 3) := by decide +kernel
theorem dX7_held_36 : decode cX7_held 36 = .ok (.iload_n 1, 1) := by decide +kernel
theorem dX7_held_37 : decode cX7_held 37 = .ok (.ireturn, 1) := by decide +kernel
theorem dX7_counted_0 : decode cX7_counted 0 = .ok (.iconst 0, 1) := by decide +kernel
theorem dX7_counted_1 : decode cX7_counted 1 = .ok (.istore_n 2, 1) := by decide +kernel
theorem dX7_counted_2 : decode cX7_counted 2 = .ok (.iconst 0, 1) := by decide +kernel
theorem dX7_counted_3 : decode cX7_counted 3 = .ok (.istore_n 3, 1) := by decide +kernel
theorem dX7_counted_4 : decode cX7_counted 4 = .ok (.iload_n 3, 1) := by decide +kernel
theorem dX7_counted_5 : decode cX7_counted 5 = .ok (.aload_n 0, 1) := by decide +kernel
theorem dX7_counted_6 : decode cX7_counted 6 = .ok (.getfield 7, 3) := by decide +kernel
theorem dX7_counted_9 : decode cX7_counted 9 = .ok (.iconst 1, 1) := by decide +kernel
theorem dX7_counted_10 : decode cX7_counted 10 = .ok (.iaload, 1) := by decide +kernel
theorem dX7_counted_11 : decode cX7_counted 11 = .ok (.if_icmp .ge 33, 3) := by decide +kernel
theorem dX7_counted_14 : decode cX7_counted 14 = .ok (.iload_n 2, 1) := by decide +kernel
theorem dX7_counted_15 : decode cX7_counted 15 = .ok (.iload_n 1, 1) := by decide +kernel
theorem dX7_counted_16 : decode cX7_counted 16 = .ok (.ifCond .eq 12, 3) := by decide +kernel
theorem dX7_counted_19 : decode cX7_counted 19 = .ok (.aload_n 0, 1) := by decide +kernel
theorem dX7_counted_20 : decode cX7_counted 20 = .ok (.iload_n 3, 1) := by decide +kernel
theorem dX7_counted_21 : decode cX7_counted 21 = .ok (.iconst 4, 1) := by decide +kernel
theorem dX7_counted_22 : decode cX7_counted 22 = .ok (.invokevirtual 90, 3) := by decide +kernel
theorem dX7_counted_25 : decode cX7_counted 25 = .ok (.goto 11, 3) := by decide +kernel
theorem dX7_counted_28 : decode cX7_counted 28 = .ok (.aload_n 0, 1) := by decide +kernel
theorem dX7_counted_29 : decode cX7_counted 29 = .ok (.iload_n 3, 1) := by decide +kernel
theorem dX7_counted_30 : decode cX7_counted 30 = .ok (.invokevirtual 99, 3) := by decide +kernel
theorem dX7_counted_33 : decode cX7_counted 33 = .ok (.invokestatic 162, 3) := by decide +kernel
theorem dX7_counted_36 : decode cX7_counted 36 = .ok (.iadd, 1) := by decide +kernel
theorem dX7_counted_37 : decode cX7_counted 37 = .ok (.istore_n 2, 1) := by decide +kernel
theorem dX7_counted_38 : decode cX7_counted 38 = .ok (.iinc 3 1, 3) := by decide +kernel
theorem dX7_counted_41 : decode cX7_counted 41 = .ok (.goto (-37), 3) := by decide +kernel
theorem dX7_counted_44 : decode cX7_counted 44 = .ok (.iload_n 2, 1) := by decide +kernel
theorem dX7_counted_45 : decode cX7_counted 45 = .ok (.ireturn, 1) := by decide +kernel
theorem dX7_purses_0 : decode cX7_purses 0 = .ok (.iconst 0, 1) := by decide +kernel
theorem dX7_purses_1 : decode cX7_purses 1 = .ok (.istore_n 1, 1) := by decide +kernel
theorem dX7_purses_2 : decode cX7_purses 2 = .ok (.iconst 0, 1) := by decide +kernel
theorem dX7_purses_3 : decode cX7_purses 3 = .ok (.istore_n 2, 1) := by decide +kernel
theorem dX7_purses_4 : decode cX7_purses 4 = .ok (.iload_n 2, 1) := by decide +kernel
theorem dX7_purses_5 : decode cX7_purses 5 = .ok (.aload_n 0, 1) := by decide +kernel
theorem dX7_purses_6 : decode cX7_purses 6 = .ok (.getfield 7, 3) := by decide +kernel
theorem dX7_purses_9 : decode cX7_purses 9 = .ok (.iconst 0, 1) := by decide +kernel
theorem dX7_purses_10 : decode cX7_purses 10 = .ok (.iaload, 1) := by decide +kernel
theorem dX7_purses_11 : decode cX7_purses 11 = .ok (.if_icmp .ge 18, 3) := by decide +kernel
theorem dX7_purses_14 : decode cX7_purses 14 = .ok (.iload_n 1, 1) := by decide +kernel
theorem dX7_purses_15 : decode cX7_purses 15 = .ok (.aload_n 0, 1) := by decide +kernel
theorem dX7_purses_16 : decode cX7_purses 16 = .ok (.iload_n 2, 1) := by decide +kernel
theorem dX7_purses_17 : decode cX7_purses 17 = .ok (.iconst 5, 1) := by decide +kernel
theorem dX7_purses_18 : decode cX7_purses 18 = .ok (.invokevirtual 81, 3) := by decide +kernel
theorem dX7_purses_21 : decode cX7_purses 21 = .ok (.iadd, 1) := by decide +kernel
theorem dX7_purses_22 : decode cX7_purses 22 = .ok (.istore_n 1, 1) := by decide +kernel
theorem dX7_purses_23 : decode cX7_purses 23 = .ok (.iinc 2 1, 3) := by decide +kernel
theorem dX7_purses_26 : decode cX7_purses 26 = .ok (.goto (-22), 3) := by decide +kernel
theorem dX7_purses_29 : decode cX7_purses 29 = .ok (.iload_n 1, 1) := by decide +kernel
theorem dX7_purses_30 : decode cX7_purses 30 = .ok (.ireturn, 1) := by decide +kernel
theorem dX7_count_0 : decode cX7_count 0 = .ok (.iload_n 1, 1) := by decide +kernel
theorem dX7_count_1 : decode cX7_count 1 = .ok (.tableswitch 95 0 7 #[47, 54, 61, 67, 72, 78, 83, 90], 47) := by decide +kernel
theorem dX7_count_48 : decode cX7_count 48 = .ok (.aload_n 0, 1) := by decide +kernel
theorem dX7_count_49 : decode cX7_count 49 = .ok (.getfield 7, 3) := by decide +kernel
theorem dX7_count_52 : decode cX7_count 52 = .ok (.iconst 0, 1) := by decide +kernel
theorem dX7_count_53 : decode cX7_count 53 = .ok (.iaload, 1) := by decide +kernel
theorem dX7_count_54 : decode cX7_count 54 = .ok (.ireturn, 1) := by decide +kernel
theorem dX7_count_55 : decode cX7_count 55 = .ok (.aload_n 0, 1) := by decide +kernel
theorem dX7_count_56 : decode cX7_count 56 = .ok (.getfield 7, 3) := by decide +kernel
theorem dX7_count_59 : decode cX7_count 59 = .ok (.iconst 1, 1) := by decide +kernel
theorem dX7_count_60 : decode cX7_count 60 = .ok (.iaload, 1) := by decide +kernel
theorem dX7_count_61 : decode cX7_count 61 = .ok (.ireturn, 1) := by decide +kernel
theorem dX7_count_62 : decode cX7_count 62 = .ok (.aload_n 0, 1) := by decide +kernel
theorem dX7_count_63 : decode cX7_count 63 = .ok (.iconst 1, 1) := by decide +kernel
theorem dX7_count_64 : decode cX7_count 64 = .ok (.invokevirtual 361, 3) := by decide +kernel
theorem dX7_count_67 : decode cX7_count 67 = .ok (.ireturn, 1) := by decide +kernel
theorem dX7_count_68 : decode cX7_count 68 = .ok (.aload_n 0, 1) := by decide +kernel
theorem dX7_count_69 : decode cX7_count 69 = .ok (.invokevirtual 364, 3) := by decide +kernel
theorem dX7_count_72 : decode cX7_count 72 = .ok (.ireturn, 1) := by decide +kernel
theorem dX7_count_73 : decode cX7_count 73 = .ok (.aload_n 0, 1) := by decide +kernel
theorem dX7_count_74 : decode cX7_count 74 = .ok (.iconst 0, 1) := by decide +kernel
theorem dX7_count_75 : decode cX7_count 75 = .ok (.invokevirtual 361, 3) := by decide +kernel
theorem dX7_count_78 : decode cX7_count 78 = .ok (.ireturn, 1) := by decide +kernel
theorem dX7_count_79 : decode cX7_count 79 = .ok (.aload_n 0, 1) := by decide +kernel
theorem dX7_count_80 : decode cX7_count 80 = .ok (.getfield 234, 3) := by decide +kernel
theorem dX7_count_83 : decode cX7_count 83 = .ok (.ireturn, 1) := by decide +kernel
theorem dX7_count_84 : decode cX7_count 84 = .ok (.aload_n 0, 1) := by decide +kernel
theorem dX7_count_85 : decode cX7_count 85 = .ok (.getfield 7, 3) := by decide +kernel
theorem dX7_count_88 : decode cX7_count 88 = .ok (.iconst 2, 1) := by decide +kernel
theorem dX7_count_89 : decode cX7_count 89 = .ok (.iaload, 1) := by decide +kernel
theorem dX7_count_90 : decode cX7_count 90 = .ok (.ireturn, 1) := by decide +kernel
theorem dX7_count_91 : decode cX7_count 91 = .ok (.aload_n 0, 1) := by decide +kernel
theorem dX7_count_92 : decode cX7_count 92 = .ok (.invokevirtual 367, 3) := by decide +kernel
theorem dX7_count_95 : decode cX7_count 95 = .ok (.ireturn, 1) := by decide +kernel
theorem dX7_count_96 : decode cX7_count 96 = .ok (.aload_n 0, 1) := by decide +kernel
theorem dX7_count_97 : decode cX7_count 97 = .ok (.ldc 40, 2) := by decide +kernel
theorem dX7_count_99 : decode cX7_count 99 = .ok (.invokevirtual 68, 3) := by decide +kernel
theorem dX7_count_102 : decode cX7_count 102 = .ok (.ireturn, 1) := by decide +kernel
theorem dX7_status_0 : decode cX7_status 0 = .ok (.iload_n 1, 1) := by decide +kernel
theorem dX7_status_1 : decode cX7_status 1 = .ok (.i2l, 1) := by decide +kernel
theorem dX7_status_2 : decode cX7_status 2 = .ok (.ldc2_w 370, 3) := by decide +kernel
theorem dX7_status_5 : decode cX7_status 5 = .ok (.ldc2_w 54, 3) := by decide +kernel
theorem dX7_status_8 : decode cX7_status 8 = .ok (.invokestatic 43, 3) := by decide +kernel
theorem dX7_status_11 : decode cX7_status 11 = .ok (.ifCond .ne 10, 3) := by decide +kernel
theorem dX7_status_14 : decode cX7_status 14 = .ok (.aload_n 0, 1) := by decide +kernel
theorem dX7_status_15 : decode cX7_status 15 = .ok (.ldc 40, 2) := by decide +kernel
theorem dX7_status_17 : decode cX7_status 17 = .ok (.invokevirtual 68, 3) := by decide +kernel
theorem dX7_status_20 : decode cX7_status 20 = .ok (.ireturn, 1) := by decide +kernel
theorem dX7_status_21 : decode cX7_status 21 = .ok (.iconst 0, 1) := by decide +kernel
theorem dX7_status_22 : decode cX7_status 22 = .ok (.istore_n 2, 1) := by decide +kernel
theorem dX7_status_23 : decode cX7_status 23 = .ok (.iconst 0, 1) := by decide +kernel
theorem dX7_status_24 : decode cX7_status 24 = .ok (.istore_n 3, 1) := by decide +kernel
theorem dX7_status_25 : decode cX7_status 25 = .ok (.iload_n 3, 1) := by decide +kernel
theorem dX7_status_26 : decode cX7_status 26 = .ok (.bipush 7, 2) := by decide +kernel
theorem dX7_status_28 : decode cX7_status 28 = .ok (.if_icmp .ge 31, 3) := by decide +kernel
theorem dX7_status_31 : decode cX7_status 31 = .ok (.iload_n 2, 1) := by decide +kernel
theorem dX7_status_32 : decode cX7_status 32 = .ok (.iload_n 1, 1) := by decide +kernel
theorem dX7_status_33 : decode cX7_status 33 = .ok (.ifCond .lt 8, 3) := by decide +kernel
theorem dX7_status_36 : decode cX7_status 36 = .ok (.iload_n 3, 1) := by decide +kernel
theorem dX7_status_37 : decode cX7_status 37 = .ok (.iload_n 1, 1) := by decide +kernel
theorem dX7_status_38 : decode cX7_status 38 = .ok (.if_icmp .ne 12, 3) := by decide +kernel
theorem dX7_status_41 : decode cX7_status 41 = .ok (.aload_n 0, 1) := by decide +kernel
theorem dX7_status_42 : decode cX7_status 42 = .ok (.getfield 19, 3) := by decide +kernel
theorem dX7_status_45 : decode cX7_status 45 = .ok (.iload_n 3, 1) := by decide +kernel
theorem dX7_status_46 : decode cX7_status 46 = .ok (.iaload, 1) := by decide +kernel
theorem dX7_status_47 : decode cX7_status 47 = .ok (.goto 4, 3) := by decide +kernel
theorem dX7_status_50 : decode cX7_status 50 = .ok (.iconst 0, 1) := by decide +kernel
theorem dX7_status_51 : decode cX7_status 51 = .ok (.iadd, 1) := by decide +kernel
theorem dX7_status_52 : decode cX7_status 52 = .ok (.istore_n 2, 1) := by decide +kernel
theorem dX7_status_53 : decode cX7_status 53 = .ok (.iinc 3 1, 3) := by decide +kernel
theorem dX7_status_56 : decode cX7_status 56 = .ok (.goto (-31), 3) := by decide +kernel
theorem dX7_status_59 : decode cX7_status 59 = .ok (.iload_n 2, 1) := by decide +kernel
theorem dX7_status_60 : decode cX7_status 60 = .ok (.ireturn, 1) := by decide +kernel
