theorem dX7_init_0 : decode cX7_init 0 = .ok (.aload_n 0, 1) := by decide +kernel
theorem dX7_init_1 : decode cX7_init 1 = .ok (.invokespecial 1, 3) := by decide +kernel
theorem dX7_init_4 : decode cX7_init 4 = .ok (.aload_n 0, 1) := by decide +kernel
theorem dX7_init_5 : decode cX7_init 5 = .ok (.bipush 99, 2) := by decide +kernel
theorem dX7_init_7 : decode cX7_init 7 = .ok (.newarray .int, 2) := by decide +kernel
theorem dX7_init_9 : decode cX7_init 9 = .ok (.putfield 7, 3) := by decide +kernel
theorem dX7_init_12 : decode cX7_init 12 = .ok (.aload_n 0, 1) := by decide +kernel
theorem dX7_init_13 : decode cX7_init 13 = .ok (.bipush 99, 2) := by decide +kernel
theorem dX7_init_15 : decode cX7_init 15 = .ok (.newarray .int, 2) := by decide +kernel
theorem dX7_init_17 : decode cX7_init 17 = .ok (.putfield 13, 3) := by decide +kernel
theorem dX7_init_20 : decode cX7_init 20 = .ok (.aload_n 0, 1) := by decide +kernel
theorem dX7_init_21 : decode cX7_init 21 = .ok (.bipush 99, 2) := by decide +kernel
theorem dX7_init_23 : decode cX7_init 23 = .ok (.newarray .int, 2) := by decide +kernel
theorem dX7_init_25 : decode cX7_init 25 = .ok (.putfield 16, 3) := by decide +kernel
theorem dX7_init_28 : decode cX7_init 28 = .ok (.aload_n 0, 1) := by decide +kernel
theorem dX7_init_29 : decode cX7_init 29 = .ok (.bipush 7, 2) := by decide +kernel
theorem dX7_init_31 : decode cX7_init 31 = .ok (.newarray .int, 2) := by decide +kernel
theorem dX7_init_33 : decode cX7_init 33 = .ok (.putfield 19, 3) := by decide +kernel
theorem dX7_init_36 : decode cX7_init 36 = .ok (.aload_n 0, 1) := by decide +kernel
theorem dX7_init_37 : decode cX7_init 37 = .ok (.bipush 102, 2) := by decide +kernel
theorem dX7_init_39 : decode cX7_init 39 = .ok (.newarray .int, 2) := by decide +kernel
theorem dX7_init_41 : decode cX7_init 41 = .ok (.putfield 22, 3) := by decide +kernel
theorem dX7_init_44 : decode cX7_init 44 = .ok (.aload_n 0, 1) := by decide +kernel
theorem dX7_init_45 : decode cX7_init 45 = .ok (.bipush 120, 2) := by decide +kernel
theorem dX7_init_47 : decode cX7_init 47 = .ok (.newarray .int, 2) := by decide +kernel
theorem dX7_init_49 : decode cX7_init 49 = .ok (.putfield 25, 3) := by decide +kernel
theorem dX7_init_52 : decode cX7_init 52 = .ok (.aload_n 0, 1) := by decide +kernel
theorem dX7_init_53 : decode cX7_init 53 = .ok (.iconst 4, 1) := by decide +kernel
theorem dX7_init_54 : decode cX7_init 54 = .ok (.newarray .int, 2) := by decide +kernel
theorem dX7_init_56 : decode cX7_init 56 = .ok (.putfield 28, 3) := by decide +kernel
theorem dX7_init_59 : decode cX7_init 59 = .ok (.aload_n 0, 1) := by decide +kernel
theorem dX7_init_60 : decode cX7_init 60 = .ok (.iconst 4, 1) := by decide +kernel
theorem dX7_init_61 : decode cX7_init 61 = .ok (.newarray .int, 2) := by decide +kernel
theorem dX7_init_63 : decode cX7_init 63 = .ok (.putfield 31, 3) := by decide +kernel
theorem dX7_init_66 : decode cX7_init 66 = .ok (.aload_n 0, 1) := by decide +kernel
theorem dX7_init_67 : decode cX7_init 67 = .ok (.sipush 160, 3) := by decide +kernel
theorem dX7_init_70 : decode cX7_init 70 = .ok (.newarray .int, 2) := by decide +kernel
theorem dX7_init_72 : decode cX7_init 72 = .ok (.putfield 34, 3) := by decide +kernel
theorem dX7_init_75 : decode cX7_init 75 = .ok (.aload_n 0, 1) := by decide +kernel
theorem dX7_init_76 : decode cX7_init 76 = .ok (.bipush 40, 2) := by decide +kernel
theorem dX7_init_78 : decode cX7_init 78 = .ok (.newarray .int, 2) := by decide +kernel
theorem dX7_init_80 : decode cX7_init 80 = .ok (.putfield 37, 3) := by decide +kernel
theorem dX7_init_83 : decode cX7_init 83 = .ok (.aload_n 0, 1) := by decide +kernel
theorem dX7_init_84 : decode cX7_init 84 = .ok (.getfield 7, 3) := by decide +kernel
theorem dX7_init_87 : decode cX7_init 87 = .ok (.iconst 2, 1) := by decide +kernel
theorem dX7_init_88 : decode cX7_init 88 = .ok (.iconst 1, 1) := by decide +kernel
theorem dX7_init_89 : decode cX7_init 89 = .ok (.iastore, 1) := by decide +kernel
theorem dX7_init_90 : decode cX7_init 90 = .ok (.iconst 0, 1) := by decide +kernel
theorem dX7_init_91 : decode cX7_init 91 = .ok (.istore_n 1, 1) := by decide +kernel
theorem dX7_init_92 : decode cX7_init 92 = .ok (.iload_n 1, 1) := by decide +kernel
theorem dX7_init_93 : decode cX7_init 93 = .ok (.bipush 10, 2) := by decide +kernel
theorem dX7_init_95 : decode cX7_init 95 = .ok (.if_icmp .ge 19, 3) := by decide +kernel
theorem dX7_init_98 : decode cX7_init 98 = .ok (.aload_n 0, 1) := by decide +kernel
theorem dX7_init_99 : decode cX7_init 99 = .ok (.getfield 7, 3) := by decide +kernel
theorem dX7_init_102 : decode cX7_init 102 = .ok (.bipush 89, 2) := by decide +kernel
theorem dX7_init_104 : decode cX7_init 104 = .ok (.iload_n 1, 1) := by decide +kernel
theorem dX7_init_105 : decode cX7_init 105 = .ok (.iadd, 1) := by decide +kernel
theorem dX7_init_106 : decode cX7_init 106 = .ok (.iconst (-1), 1) := by decide +kernel
theorem dX7_init_107 : decode cX7_init 107 = .ok (.iastore, 1) := by decide +kernel
theorem dX7_init_108 : decode cX7_init 108 = .ok (.iinc 1 1, 3) := by decide +kernel
theorem dX7_init_111 : decode cX7_init 111 = .ok (.goto (-19), 3) := by decide +kernel
theorem dX7_init_114 : decode cX7_init 114 = .ok (.return_, 1) := by decide +kernel
theorem dX7_in_0 : decode cX7_in 0 = .ok (.lload_n 0, 1) := by decide +kernel
theorem dX7_in_1 : decode cX7_in 1 = .ok (.lload_n 2, 1) := by decide +kernel
theorem dX7_in_2 : decode cX7_in 2 = .ok (.lcmp, 1) := by decide +kernel
theorem dX7_in_3 : decode cX7_in 3 = .ok (.ifCond .lt 14, 3) := by decide +kernel
theorem dX7_in_6 : decode cX7_in 6 = .ok (.lload_n 0, 1) := by decide +kernel
theorem dX7_in_7 : decode cX7_in 7 = .ok (.lload 4, 2) := by decide +kernel
theorem dX7_in_9 : decode cX7_in 9 = .ok (.lcmp, 1) := by decide +kernel
theorem dX7_in_10 : decode cX7_in 10 = .ok (.ifCond .gt 7, 3) := by decide +kernel
theorem dX7_in_13 : decode cX7_in 13 = .ok (.iconst 1, 1) := by decide +kernel
theorem dX7_in_14 : decode cX7_in 14 = .ok (.goto 4, 3) := by decide +kernel
theorem dX7_in_17 : decode cX7_in 17 = .ok (.iconst 0, 1) := by decide +kernel
theorem dX7_in_18 : decode cX7_in 18 = .ok (.ireturn, 1) := by decide +kernel
theorem dX7_finds_0 : decode cX7_finds 0 = .ok (.aload_n 0, 1) := by decide +kernel
theorem dX7_finds_1 : decode cX7_finds 1 = .ok (.getfield 19, 3) := by decide +kernel
theorem dX7_finds_4 : decode cX7_finds 4 = .ok (.ldc 40, 2) := by decide +kernel
theorem dX7_finds_6 : decode cX7_finds 6 = .ok (.iload_n 1, 1) := by decide +kernel
theorem dX7_finds_7 : decode cX7_finds 7 = .ok (.isub, 1) := by decide +kernel
theorem dX7_finds_8 : decode cX7_finds 8 = .ok (.dup2, 1) := by decide +kernel
theorem dX7_finds_9 : decode cX7_finds 9 = .ok (.iaload, 1) := by decide +kernel
theorem dX7_finds_10 : decode cX7_finds 10 = .ok (.iconst 1, 1) := by decide +kernel
theorem dX7_finds_11 : decode cX7_finds 11 = .ok (.iadd, 1) := by decide +kernel
theorem dX7_finds_12 : decode cX7_finds 12 = .ok (.iastore, 1) := by decide +kernel
theorem dX7_finds_13 : decode cX7_finds 13 = .ok (.iload_n 1, 1) := by decide +kernel
theorem dX7_finds_14 : decode cX7_finds 14 = .ok (.ireturn, 1) := by decide +kernel
theorem dX7_isSaying_0 : decode cX7_isSaying 0 = .ok (.iload_n 0, 1) := by decide +kernel
theorem dX7_isSaying_1 : decode cX7_isSaying 1 = .ok (.i2l, 1) := by decide +kernel
theorem dX7_isSaying_2 : decode cX7_isSaying 2 = .ok (.lconst 0, 1) := by decide +kernel
theorem dX7_isSaying_3 : decode cX7_isSaying 3 = .ok (.ldc2_w 41, 3) := by decide +kernel
theorem dX7_isSaying_6 : decode cX7_isSaying 6 = .ok (.invokestatic 43, 3) := by decide +kernel
theorem dX7_isSaying_9 : decode cX7_isSaying 9 = .ok (.ireturn, 1) := by decide +kernel
theorem dX7_isMark_0 : decode cX7_isMark 0 = .ok (.iload_n 0, 1) := by decide +kernel
theorem dX7_isMark_1 : decode cX7_isMark 1 = .ok (.i2l, 1) := by decide +kernel
theorem dX7_isMark_2 : decode cX7_isMark 2 = .ok (.lconst 0, 1) := by decide +kernel
theorem dX7_isMark_3 : decode cX7_isMark 3 = .ok (.ldc2_w 47, 3) := by decide +kernel
theorem dX7_isMark_6 : decode cX7_isMark 6 = .ok (.invokestatic 43, 3) := by decide +kernel
theorem dX7_isMark_9 : decode cX7_isMark 9 = .ok (.ireturn, 1) := by decide +kernel
theorem dX7_isWriter_0 : decode cX7_isWriter 0 = .ok (.iload_n 1, 1) := by decide +kernel
theorem dX7_isWriter_1 : decode cX7_isWriter 1 = .ok (.i2l, 1) := by decide +kernel
theorem dX7_isWriter_2 : decode cX7_isWriter 2 = .ok (.lconst 0, 1) := by decide +kernel
theorem dX7_isWriter_3 : decode cX7_isWriter 3 = .ok (.aload_n 0, 1) := by decide +kernel
theorem dX7_isWriter_4 : decode cX7_isWriter 4 = .ok (.getfield 7, 3) := by decide +kernel
theorem dX7_isWriter_7 : decode cX7_isWriter 7 = .ok (.iconst 0, 1) := by decide +kernel
theorem dX7_isWriter_8 : decode cX7_isWriter 8 = .ok (.iaload, 1) := by decide +kernel
theorem dX7_isWriter_9 : decode cX7_isWriter 9 = .ok (.iconst 1, 1) := by decide +kernel
theorem dX7_isWriter_10 : decode cX7_isWriter 10 = .ok (.isub, 1) := by decide +kernel
theorem dX7_isWriter_11 : decode cX7_isWriter 11 = .ok (.i2l, 1) := by decide +kernel
theorem dX7_isWriter_12 : decode cX7_isWriter 12 = .ok (.invokestatic 43, 3) := by decide +kernel
theorem dX7_isWriter_15 : decode cX7_isWriter 15 = .ok (.ireturn, 1) := by decide +kernel
theorem dX7_isPerson_0 : decode cX7_isPerson 0 = .ok (.iload_n 1, 1) := by decide +kernel
theorem dX7_isPerson_1 : decode cX7_isPerson 1 = .ok (.i2l, 1) := by decide +kernel
theorem dX7_isPerson_2 : decode cX7_isPerson 2 = .ok (.lconst 0, 1) := by decide +kernel
theorem dX7_isPerson_3 : decode cX7_isPerson 3 = .ok (.aload_n 0, 1) := by decide +kernel
theorem dX7_isPerson_4 : decode cX7_isPerson 4 = .ok (.getfield 7, 3) := by decide +kernel
theorem dX7_isPerson_7 : decode cX7_isPerson 7 = .ok (.iconst 1, 1) := by decide +kernel
theorem dX7_isPerson_8 : decode cX7_isPerson 8 = .ok (.iaload, 1) := by decide +kernel
theorem dX7_isPerson_9 : decode cX7_isPerson 9 = .ok (.iconst 1, 1) := by decide +kernel
theorem dX7_isPerson_10 : decode cX7_isPerson 10 = .ok (.isub, 1) := by decide +kernel
theorem dX7_isPerson_11 : decode cX7_isPerson 11 = .ok (.i2l, 1) := by decide +kernel
theorem dX7_isPerson_12 : decode cX7_isPerson 12 = .ok (.invokestatic 43, 3) := by decide +kernel
theorem dX7_isPerson_15 : decode cX7_isPerson 15 = .ok (.ireturn, 1) := by decide +kernel
theorem dX7_has_0 : decode cX7_has 0 = .ok (.iload_n 0, 1) := by decide +kernel
theorem dX7_has_1 : decode cX7_has 1 = .ok (.iload_n 1, 1) := by decide +kernel
theorem dX7_has_2 : decode cX7_has 2 = .ok (.ishr, 1) := by decide +kernel
theorem dX7_has_3 : decode cX7_has 3 = .ok (.iconst 1, 1) := by decide +kernel
theorem dX7_has_4 : decode cX7_has 4 = .ok (.iand, 1) := by decide +kernel
theorem dX7_has_5 : decode cX7_has 5 = .ok (.iconst 1, 1) := by decide +kernel
theorem dX7_has_6 : decode cX7_has 6 = .ok (.if_icmp .ne 7, 3) := by decide +kernel
theorem dX7_has_9 : decode cX7_has 9 = .ok (.iconst 1, 1) := by decide +kernel
theorem dX7_has_10 : decode cX7_has 10 = .ok (.goto 4, 3) := by decide +kernel
theorem dX7_has_13 : decode cX7_has 13 = .ok (.iconst 0, 1) := by decide +kernel
theorem dX7_has_14 : decode cX7_has 14 = .ok (.ireturn, 1) := by decide +kernel
theorem dX7_ones_0 : decode cX7_ones 0 = .ok (.iconst 0, 1) := by decide +kernel
theorem dX7_ones_1 : decode cX7_ones 1 = .ok (.istore_n 1, 1) := by decide +kernel
theorem dX7_ones_2 : decode cX7_ones 2 = .ok (.iload_n 0, 1) := by decide +kernel
theorem dX7_ones_3 : decode cX7_ones 3 = .ok (.istore_n 2, 1) := by decide +kernel
theorem dX7_ones_4 : decode cX7_ones 4 = .ok (.iload_n 2, 1) := by decide +kernel
theorem dX7_ones_5 : decode cX7_ones 5 = .ok (.ifCond .eq 15, 3) := by decide +kernel
theorem dX7_ones_8 : decode cX7_ones 8 = .ok (.iinc 1 1, 3) := by decide +kernel
theorem dX7_ones_11 : decode cX7_ones 11 = .ok (.iload_n 2, 1) := by decide +kernel
theorem dX7_ones_12 : decode cX7_ones 12 = .ok (.iload_n 2, 1) := by decide +kernel
theorem dX7_ones_13 : decode cX7_ones 13 = .ok (.iconst 1, 1) := by decide +kernel
theorem dX7_ones_14 : decode cX7_ones 14 = .ok (.isub, 1) := by decide +kernel
theorem dX7_ones_15 : decode cX7_ones 15 = .ok (.iand, 1) := by decide +kernel
theorem dX7_ones_16 : decode cX7_ones 16 = .ok (.istore_n 2, 1) := by decide +kernel
theorem dX7_ones_17 : decode cX7_ones 17 = .ok (.goto (-13), 3) := by decide +kernel
theorem dX7_ones_20 : decode cX7_ones 20 = .ok (.iload_n 1, 1) := by decide +kernel
theorem dX7_ones_21 : decode cX7_ones 21 = .ok (.ireturn, 1) := by decide +kernel
theorem dX7_draw_0 : decode cX7_draw 0 = .ok (.aload_n 0, 1) := by decide +kernel
theorem dX7_draw_1 : decode cX7_draw 1 = .ok (.getfield 7, 3) := by decide +kernel
theorem dX7_draw_4 : decode cX7_draw 4 = .ok (.iconst 2, 1) := by decide +kernel
theorem dX7_draw_5 : decode cX7_draw 5 = .ok (.aload_n 0, 1) := by decide +kernel
theorem dX7_draw_6 : decode cX7_draw 6 = .ok (.getfield 7, 3) := by decide +kernel
theorem dX7_draw_9 : decode cX7_draw 9 = .ok (.iconst 2, 1) := by decide +kernel
theorem dX7_draw_10 : decode cX7_draw 10 = .ok (.iaload, 1) := by decide +kernel
theorem dX7_draw_11 : decode cX7_draw 11 = .ok (.ldc 49, 2) := by decide +kernel
theorem dX7_draw_13 : decode cX7_draw 13 = .ok (.imul, 1) := by decide +kernel
theorem dX7_draw_14 : decode cX7_draw 14 = .ok (.sipush 12345, 3) := by decide +kernel
theorem dX7_draw_17 : decode cX7_draw 17 = .ok (.iadd, 1) := by decide +kernel
theorem dX7_draw_18 : decode cX7_draw 18 = .ok (.iastore, 1) := by decide +kernel
theorem dX7_draw_19 : decode cX7_draw 19 = .ok (.aload_n 0, 1) := by decide +kernel
theorem dX7_draw_20 : decode cX7_draw 20 = .ok (.getfield 7, 3) := by decide +kernel
theorem dX7_draw_23 : decode cX7_draw 23 = .ok (.iconst 2, 1) := by decide +kernel
theorem dX7_draw_24 : decode cX7_draw 24 = .ok (.iaload, 1) := by decide +kernel
theorem dX7_draw_25 : decode cX7_draw 25 = .ok (.bipush 8, 2) := by decide +kernel
theorem dX7_draw_27 : decode cX7_draw 27 = .ok (.iushr, 1) := by decide +kernel
theorem dX7_draw_28 : decode cX7_draw 28 = .ok (.ireturn, 1) := by decide +kernel
theorem dX7_saves_0 : decode cX7_saves 0 = .ok (.iconst 0, 1) := by decide +kernel
theorem dX7_saves_1 : decode cX7_saves 1 = .ok (.istore_n 1, 1) := by decide +kernel
theorem dX7_saves_2 : decode cX7_saves 2 = .ok (.iload_n 1, 1) := by decide +kernel
theorem dX7_saves_3 : decode cX7_saves 3 = .ok (.bipush 99, 2) := by decide +kernel
theorem dX7_saves_5 : decode cX7_saves 5 = .ok (.if_icmp .ge 21, 3) := by decide +kernel
theorem dX7_saves_8 : decode cX7_saves 8 = .ok (.aload_n 0, 1) := by decide +kernel
theorem dX7_saves_9 : decode cX7_saves 9 = .ok (.getfield 16, 3) := by decide +kernel
theorem dX7_saves_12 : decode cX7_saves 12 = .ok (.iload_n 1, 1) := by decide +kernel
theorem dX7_saves_13 : decode cX7_saves 13 = .ok (.aload_n 0, 1) := by decide +kernel
theorem dX7_saves_14 : decode cX7_saves 14 = .ok (.getfield 7, 3) := by decide +kernel
theorem dX7_saves_17 : decode cX7_saves 17 = .ok (.iload_n 1, 1) := by decide +kernel
theorem dX7_saves_18 : decode cX7_saves 18 = .ok (.iaload, 1) := by decide +kernel
theorem dX7_saves_19 : decode cX7_saves 19 = .ok (.iastore, 1) := by decide +kernel
theorem dX7_saves_20 : decode cX7_saves 20 = .ok (.iinc 1 1, 3) := by decide +kernel
theorem dX7_saves_23 : decode cX7_saves 23 = .ok (.goto (-21), 3) := by decide +kernel
theorem dX7_saves_26 : decode cX7_saves 26 = .ok (.return_, 1) := by decide +kernel
theorem dX7_putsBack_0 : decode cX7_putsBack 0 = .ok (.iconst 0, 1) := by decide +kernel
theorem dX7_putsBack_1 : decode cX7_putsBack 1 = .ok (.istore_n 1, 1) := by decide +kernel
theorem dX7_putsBack_2 : decode cX7_putsBack 2 = .ok (.iload_n 1, 1) := by decide +kernel
theorem dX7_putsBack_3 : decode cX7_putsBack 3 = .ok (.bipush 99, 2) := by decide +kernel
theorem dX7_putsBack_5 : decode cX7_putsBack 5 = .ok (.if_icmp .ge 21, 3) := by decide +kernel
theorem dX7_putsBack_8 : decode cX7_putsBack 8 = .ok (.aload_n 0, 1) := by decide +kernel
theorem dX7_putsBack_9 : decode cX7_putsBack 9 = .ok (.getfield 7, 3) := by decide +kernel
theorem dX7_putsBack_12 : decode cX7_putsBack 12 = .ok (.iload_n 1, 1) := by decide +kernel
theorem dX7_putsBack_13 : decode cX7_putsBack 13 = .ok (.aload_n 0, 1) := by decide +kernel
theorem dX7_putsBack_14 : decode cX7_putsBack 14 = .ok (.getfield 16, 3) := by decide +kernel
theorem dX7_putsBack_17 : decode cX7_putsBack 17 = .ok (.iload_n 1, 1) := by decide +kernel
theorem dX7_putsBack_18 : decode cX7_putsBack 18 = .ok (.iaload, 1) := by decide +kernel
theorem dX7_putsBack_19 : decode cX7_putsBack 19 = .ok (.iastore, 1) := by decide +kernel
theorem dX7_putsBack_20 : decode cX7_putsBack 20 = .ok (.iinc 1 1, 3) := by decide +kernel
theorem dX7_putsBack_23 : decode cX7_putsBack 23 = .ok (.goto (-21), 3) := by decide +kernel
theorem dX7_putsBack_26 : decode cX7_putsBack 26 = .ok (.return_, 1) := by decide +kernel
theorem dX7_at_0 : decode cX7_at 0 = .ok (.iconst 5, 1) := by decide +kernel
theorem dX7_at_1 : decode cX7_at 1 = .ok (.bipush 6, 2) := by decide +kernel
theorem dX7_at_3 : decode cX7_at 3 = .ok (.iload_n 0, 1) := by decide +kernel
theorem dX7_at_4 : decode cX7_at 4 = .ok (.imul, 1) := by decide +kernel
theorem dX7_at_5 : decode cX7_at 5 = .ok (.iadd, 1) := by decide +kernel
theorem dX7_at_6 : decode cX7_at 6 = .ok (.iload_n 1, 1) := by decide +kernel
theorem dX7_at_7 : decode cX7_at 7 = .ok (.iadd, 1) := by decide +kernel
theorem dX7_at_8 : decode cX7_at 8 = .ok (.ireturn, 1) := by decide +kernel
theorem dX7_its_0 : decode cX7_its 0 = .ok (.aload_n 0, 1) := by decide +kernel
theorem dX7_its_1 : decode cX7_its 1 = .ok (.getfield 7, 3) := by decide +kernel
theorem dX7_its_4 : decode cX7_its 4 = .ok (.iload_n 1, 1) := by decide +kernel
theorem dX7_its_5 : decode cX7_its 5 = .ok (.iload_n 2, 1) := by decide +kernel
theorem dX7_its_6 : decode cX7_its 6 = .ok (.invokestatic 50, 3) := by decide +kernel
theorem dX7_its_9 : decode cX7_its 9 = .ok (.iaload, 1) := by decide +kernel
theorem dX7_its_10 : decode cX7_its 10 = .ok (.ireturn, 1) := by decide +kernel
theorem dX7_isLaw_0 : decode cX7_isLaw 0 = .ok (.iload_n 0, 1) := by decide +kernel
theorem dX7_isLaw_1 : decode cX7_isLaw 1 = .ok (.lookupswitch 47 #[(0, 27), (4, 37)], 27) := by decide +kernel
theorem dX7_isLaw_28 : decode cX7_isLaw 28 = .ok (.iload_n 1, 1) := by decide +kernel
theorem dX7_isLaw_29 : decode cX7_isLaw 29 = .ok (.i2l, 1) := by decide +kernel
theorem dX7_isLaw_30 : decode cX7_isLaw 30 = .ok (.lconst 0, 1) := by decide +kernel
theorem dX7_isLaw_31 : decode cX7_isLaw 31 = .ok (.ldc2_w 54, 3) := by decide +kernel
theorem dX7_isLaw_34 : decode cX7_isLaw 34 = .ok (.invokestatic 43, 3) := by decide +kernel
theorem dX7_isLaw_37 : decode cX7_isLaw 37 = .ok (.ireturn, 1) := by decide +kernel
theorem dX7_isLaw_38 : decode cX7_isLaw 38 = .ok (.iload_n 1, 1) := by decide +kernel
theorem dX7_isLaw_39 : decode cX7_isLaw 39 = .ok (.i2l, 1) := by decide +kernel
theorem dX7_isLaw_40 : decode cX7_isLaw 40 = .ok (.lconst 0, 1) := by decide +kernel
theorem dX7_isLaw_41 : decode cX7_isLaw 41 = .ok (.ldc2_w 56, 3) := by decide +kernel
theorem dX7_isLaw_44 : decode cX7_isLaw 44 = .ok (.invokestatic 43, 3) := by decide +kernel
theorem dX7_isLaw_47 : decode cX7_isLaw 47 = .ok (.ireturn, 1) := by decide +kernel
theorem dX7_isLaw_48 : decode cX7_isLaw 48 = .ok (.iload_n 0, 1) := by decide +kernel
theorem dX7_isLaw_49 : decode cX7_isLaw 49 = .ok (.i2l, 1) := by decide +kernel
theorem dX7_isLaw_50 : decode cX7_isLaw 50 = .ok (.lconst 1, 1) := by decide +kernel
theorem dX7_isLaw_51 : decode cX7_isLaw 51 = .ok (.ldc2_w 58, 3) := by decide +kernel
theorem dX7_isLaw_54 : decode cX7_isLaw 54 = .ok (.invokestatic 43, 3) := by decide +kernel
theorem dX7_isLaw_57 : decode cX7_isLaw 57 = .ok (.ifCond .eq 14, 3) := by decide +kernel
theorem dX7_isLaw_60 : decode cX7_isLaw 60 = .ok (.iload_n 1, 1) := by decide +kernel
theorem dX7_isLaw_61 : decode cX7_isLaw 61 = .ok (.invokestatic 60, 3) := by decide +kernel
theorem dX7_isLaw_64 : decode cX7_isLaw 64 = .ok (.ifCond .eq 7, 3) := by decide +kernel
theorem dX7_isLaw_67 : decode cX7_isLaw 67 = .ok (.iconst 1, 1) := by decide +kernel
theorem dX7_isLaw_68 : decode cX7_isLaw 68 = .ok (.goto 4, 3) := by decide +kernel
theorem dX7_isLaw_71 : decode cX7_isLaw 71 = .ok (.iconst 0, 1) := by decide +kernel
theorem dX7_isLaw_72 : decode cX7_isLaw 72 = .ok (.ireturn, 1) := by decide +kernel
theorem dX7_newWriter_0 : decode cX7_newWriter 0 = .ok (.aload_n 0, 1) := by decide +kernel
theorem dX7_newWriter_1 : decode cX7_newWriter 1 = .ok (.getfield 7, 3) := by decide +kernel
theorem dX7_newWriter_4 : decode cX7_newWriter 4 = .ok (.iconst 0, 1) := by decide +kernel
theorem dX7_newWriter_5 : decode cX7_newWriter 5 = .ok (.iaload, 1) := by decide +kernel
theorem dX7_newWriter_6 : decode cX7_newWriter 6 = .ok (.istore_n 2, 1) := by decide +kernel
theorem dX7_newWriter_7 : decode cX7_newWriter 7 = .ok (.iconst 0, 1) := by decide +kernel
theorem dX7_newWriter_8 : decode cX7_newWriter 8 = .ok (.istore_n 3, 1) := by decide +kernel
theorem dX7_newWriter_9 : decode cX7_newWriter 9 = .ok (.iload_n 3, 1) := by decide +kernel
theorem dX7_newWriter_10 : decode cX7_newWriter 10 = .ok (.bipush 6, 2) := by decide +kernel
theorem dX7_newWriter_12 : decode cX7_newWriter 12 = .ok (.if_icmp .ge 20, 3) := by decide +kernel
theorem dX7_newWriter_15 : decode cX7_newWriter 15 = .ok (.aload_n 0, 1) := by decide +kernel
theorem dX7_newWriter_16 : decode cX7_newWriter 16 = .ok (.getfield 7, 3) := by decide +kernel
theorem dX7_newWriter_19 : decode cX7_newWriter 19 = .ok (.iload_n 2, 1) := by decide +kernel
theorem dX7_newWriter_20 : decode cX7_newWriter 20 = .ok (.iload_n 3, 1) := by decide +kernel
theorem dX7_newWriter_21 : decode cX7_newWriter 21 = .ok (.invokestatic 50, 3) := by decide +kernel
theorem dX7_newWriter_24 : decode cX7_newWriter 24 = .ok (.iconst 0, 1) := by decide +kernel
theorem dX7_newWriter_25 : decode cX7_newWriter 25 = .ok (.iastore, 1) := by decide +kernel
theorem dX7_newWriter_26 : decode cX7_newWriter 26 = .ok (.iinc 3 1, 3) := by decide +kernel
theorem dX7_newWriter_29 : decode cX7_newWriter 29 = .ok (.goto (-20), 3) := by decide +kernel
theorem dX7_newWriter_32 : decode cX7_newWriter 32 = .ok (.aload_n 0, 1) := by decide +kernel
theorem dX7_newWriter_33 : decode cX7_newWriter 33 = .ok (.getfield 7, 3) := by decide +kernel
theorem dX7_newWriter_36 : decode cX7_newWriter 36 = .ok (.iload_n 2, 1) := by decide +kernel
theorem dX7_newWriter_37 : decode cX7_newWriter 37 = .ok (.iconst 0, 1) := by decide +kernel
theorem dX7_newWriter_38 : decode cX7_newWriter 38 = .ok (.invokestatic 50, 3) := by decide +kernel
theorem dX7_newWriter_41 : decode cX7_newWriter 41 = .ok (.iload_n 1, 1) := by decide +kernel
theorem dX7_newWriter_42 : decode cX7_newWriter 42 = .ok (.iastore, 1) := by decide +kernel
theorem dX7_newWriter_43 : decode cX7_newWriter 43 = .ok (.aload_n 0, 1) := by decide +kernel
theorem dX7_newWriter_44 : decode cX7_newWriter 44 = .ok (.getfield 7, 3) := by decide +kernel
theorem dX7_newWriter_47 : decode cX7_newWriter 47 = .ok (.iload_n 2, 1) := by decide +kernel
theorem dX7_newWriter_48 : decode cX7_newWriter 48 = .ok (.iconst 4, 1) := by decide +kernel
theorem dX7_newWriter_49 : decode cX7_newWriter 49 = .ok (.invokestatic 50, 3) := by decide +kernel
theorem dX7_newWriter_52 : decode cX7_newWriter 52 = .ok (.iconst 4, 1) := by decide +kernel
theorem dX7_newWriter_53 : decode cX7_newWriter 53 = .ok (.iastore, 1) := by decide +kernel
theorem dX7_newWriter_54 : decode cX7_newWriter 54 = .ok (.aload_n 0, 1) := by decide +kernel
theorem dX7_newWriter_55 : decode cX7_newWriter 55 = .ok (.getfield 7, 3) := by decide +kernel
theorem dX7_newWriter_58 : decode cX7_newWriter 58 = .ok (.iconst 0, 1) := by decide +kernel
theorem dX7_newWriter_59 : decode cX7_newWriter 59 = .ok (.dup2, 1) := by decide +kernel
theorem dX7_newWriter_60 : decode cX7_newWriter 60 = .ok (.iaload, 1) := by decide +kernel
theorem dX7_newWriter_61 : decode cX7_newWriter 61 = .ok (.iconst 1, 1) := by decide +kernel
theorem dX7_newWriter_62 : decode cX7_newWriter 62 = .ok (.iadd, 1) := by decide +kernel
theorem dX7_newWriter_63 : decode cX7_newWriter 63 = .ok (.iastore, 1) := by decide +kernel
theorem dX7_newWriter_64 : decode cX7_newWriter 64 = .ok (.iload_n 2, 1) := by decide +kernel
theorem dX7_newWriter_65 : decode cX7_newWriter 65 = .ok (.ireturn, 1) := by decide +kernel
theorem dX7_writer_0 : decode cX7_writer 0 = .ok (.iconst 0, 1) := by decide +kernel
theorem dX7_writer_1 : decode cX7_writer 1 = .ok (.iload_n 1, 1) := by decide +kernel
theorem dX7_writer_2 : decode cX7_writer 2 = .ok (.invokestatic 64, 3) := by decide +kernel
theorem dX7_writer_5 : decode cX7_writer 5 = .ok (.ifCond .ne 10, 3) := by decide +kernel
theorem dX7_writer_8 : decode cX7_writer 8 = .ok (.aload_n 0, 1) := by decide +kernel
theorem dX7_writer_9 : decode cX7_writer 9 = .ok (.ldc 40, 2) := by decide +kernel
theorem dX7_writer_11 : decode cX7_writer 11 = .ok (.invokevirtual 68, 3) := by decide +kernel
theorem dX7_writer_14 : decode cX7_writer 14 = .ok (.ireturn, 1) := by decide +kernel
theorem dX7_writer_15 : decode cX7_writer 15 = .ok (.aload_n 0, 1) := by decide +kernel
theorem dX7_writer_16 : decode cX7_writer 16 = .ok (.getfield 7, 3) := by decide +kernel
theorem dX7_writer_19 : decode cX7_writer 19 = .ok (.iconst 0, 1) := by decide +kernel
theorem dX7_writer_20 : decode cX7_writer 20 = .ok (.iaload, 1) := by decide +kernel
theorem dX7_writer_21 : decode cX7_writer 21 = .ok (.bipush 6, 2) := by decide +kernel
theorem dX7_writer_23 : decode cX7_writer 23 = .ok (.if_icmp .ne 12, 3) := by decide +kernel
theorem dX7_writer_26 : decode cX7_writer 26 = .ok (.aload_n 0, 1) := by decide +kernel
theorem dX7_writer_27 : decode cX7_writer 27 = .ok (.ldc 72, 2) := by decide +kernel
theorem dX7_writer_29 : decode cX7_writer 29 = .ok (.invokevirtual 68, 3) := by decide +kernel
theorem dX7_writer_32 : decode cX7_writer 32 = .ok (.goto 8, 3) := by decide +kernel
theorem dX7_writer_35 : decode cX7_writer 35 = .ok (.aload_n 0, 1) := by decide +kernel
theorem dX7_writer_36 : decode cX7_writer 36 = .ok (.iload_n 1, 1) := by decide +kernel
theorem dX7_writer_37 : decode cX7_writer 37 = .ok (.invokevirtual 73, 3) := by decide +kernel
theorem dX7_writer_40 : decode cX7_writer 40 = .ok (.ireturn, 1) := by decide +kernel
theorem dX7_writerOf_0 : decode cX7_writerOf 0 = .ok (.aload_n 0, 1) := by decide +kernel
theorem dX7_writerOf_1 : decode cX7_writerOf 1 = .ok (.iload_n 1, 1) := by decide +kernel
theorem dX7_writerOf_2 : decode cX7_writerOf 2 = .ok (.invokevirtual 76, 3) := by decide +kernel
theorem dX7_writerOf_5 : decode cX7_writerOf 5 = .ok (.ifCond .eq 24, 3) := by decide +kernel
theorem dX7_writerOf_8 : decode cX7_writerOf 8 = .ok (.iload_n 2, 1) := by decide +kernel
theorem dX7_writerOf_9 : decode cX7_writerOf 9 = .ok (.i2l, 1) := by decide +kernel
theorem dX7_writerOf_10 : decode cX7_writerOf 10 = .ok (.lconst 0, 1) := by decide +kernel
theorem dX7_writerOf_11 : decode cX7_writerOf 11 = .ok (.ldc2_w 79, 3) := by decide +kernel
theorem dX7_writerOf_14 : decode cX7_writerOf 14 = .ok (.invokestatic 43, 3) := by decide +kernel
theorem dX7_writerOf_17 : decode cX7_writerOf 17 = .ok (.ifCond .eq 12, 3) := by decide +kernel
theorem dX7_writerOf_20 : decode cX7_writerOf 20 = .ok (.aload_n 0, 1) := by decide +kernel
theorem dX7_writerOf_21 : decode cX7_writerOf 21 = .ok (.iload_n 1, 1) := by decide +kernel
theorem dX7_writerOf_22 : decode cX7_writerOf 22 = .ok (.iload_n 2, 1) := by decide +kernel
theorem dX7_writerOf_23 : decode cX7_writerOf 23 = .ok (.invokevirtual 81, 3) := by decide +kernel
theorem dX7_writerOf_26 : decode cX7_writerOf 26 = .ok (.goto 9, 3) := by decide +kernel
theorem dX7_writerOf_29 : decode cX7_writerOf 29 = .ok (.aload_n 0, 1) := by decide +kernel
theorem dX7_writerOf_30 : decode cX7_writerOf 30 = .ok (.ldc 40, 2) := by decide +kernel
theorem dX7_writerOf_32 : decode cX7_writerOf 32 = .ok (.invokevirtual 68, 3) := by decide +kernel
theorem dX7_writerOf_35 : decode cX7_writerOf 35 = .ok (.ireturn, 1) := by decide +kernel
theorem dX7_law_0 : decode cX7_law 0 = .ok (.aload_n 0, 1) := by decide +kernel
theorem dX7_law_1 : decode cX7_law 1 = .ok (.iload_n 1, 1) := by decide +kernel
theorem dX7_law_2 : decode cX7_law 2 = .ok (.invokevirtual 76, 3) := by decide +kernel
theorem dX7_law_5 : decode cX7_law 5 = .ok (.ifCond .eq 11, 3) := by decide +kernel
theorem dX7_law_8 : decode cX7_law 8 = .ok (.iload_n 2, 1) := by decide +kernel
theorem dX7_law_9 : decode cX7_law 9 = .ok (.iload_n 3, 1) := by decide +kernel
theorem dX7_law_10 : decode cX7_law 10 = .ok (.invokestatic 64, 3) := by decide +kernel
theorem dX7_law_13 : decode cX7_law 13 = .ok (.ifCond .ne 10, 3) := by decide +kernel
theorem dX7_law_16 : decode cX7_law 16 = .ok (.aload_n 0, 1) := by decide +kernel
theorem dX7_law_17 : decode cX7_law 17 = .ok (.ldc 40, 2) := by decide +kernel
theorem dX7_law_19 : decode cX7_law 19 = .ok (.invokevirtual 68, 3) := by decide +kernel
theorem dX7_law_22 : decode cX7_law 22 = .ok (.ireturn, 1) := by decide +kernel
theorem dX7_law_23 : decode cX7_law 23 = .ok (.aload_n 0, 1) := by decide +kernel
theorem dX7_law_24 : decode cX7_law 24 = .ok (.iload_n 1, 1) := by decide +kernel
theorem dX7_law_25 : decode cX7_law 25 = .ok (.iload_n 2, 1) := by decide +kernel
theorem dX7_law_26 : decode cX7_law 26 = .ok (.invokevirtual 81, 3) := by decide +kernel
theorem dX7_law_29 : decode cX7_law 29 = .ok (.istore 4, 2) := by decide +kernel
theorem dX7_law_31 : decode cX7_law 31 = .ok (.aload_n 0, 1) := by decide +kernel
theorem dX7_law_32 : decode cX7_law 32 = .ok (.getfield 7, 3) := by decide +kernel
theorem dX7_law_35 : decode cX7_law 35 = .ok (.iload_n 1, 1) := by decide +kernel
theorem dX7_law_36 : decode cX7_law 36 = .ok (.iload_n 2, 1) := by decide +kernel
theorem dX7_law_37 : decode cX7_law 37 = .ok (.invokestatic 50, 3) := by decide +kernel
theorem dX7_law_40 : decode cX7_law 40 = .ok (.iload_n 3, 1) := by decide +kernel
theorem dX7_law_41 : decode cX7_law 41 = .ok (.iastore, 1) := by decide +kernel
theorem dX7_law_42 : decode cX7_law 42 = .ok (.iload 4, 2) := by decide +kernel
theorem dX7_law_44 : decode cX7_law 44 = .ok (.ireturn, 1) := by decide +kernel
theorem dX7_where_0 : decode cX7_where 0 = .ok (.bipush 41, 2) := by decide +kernel
theorem dX7_where_2 : decode cX7_where 2 = .ok (.iconst 5, 1) := by decide +kernel
theorem dX7_where_3 : decode cX7_where 3 = .ok (.iload_n 0, 1) := by decide +kernel
theorem dX7_where_4 : decode cX7_where 4 = .ok (.imul, 1) := by decide +kernel
theorem dX7_where_5 : decode cX7_where 5 = .ok (.iadd, 1) := by decide +kernel
theorem dX7_where_6 : decode cX7_where 6 = .ok (.iload_n 1, 1) := by decide +kernel
theorem dX7_where_7 : decode cX7_where 7 = .ok (.iadd, 1) := by decide +kernel
theorem dX7_where_8 : decode cX7_where 8 = .ok (.ireturn, 1) := by decide +kernel
theorem dX7_told_0 : decode cX7_told 0 = .ok (.aload_n 0, 1) := by decide +kernel
theorem dX7_told_1 : decode cX7_told 1 = .ok (.getfield 7, 3) := by decide +kernel
theorem dX7_told_4 : decode cX7_told 4 = .ok (.iload_n 1, 1) := by decide +kernel
theorem dX7_told_5 : decode cX7_told 5 = .ok (.iload_n 2, 1) := by decide +kernel
theorem dX7_told_6 : decode cX7_told 6 = .ok (.invokestatic 84, 3) := by decide +kernel
theorem dX7_told_9 : decode cX7_told 9 = .ok (.iaload, 1) := by decide +kernel
theorem dX7_told_10 : decode cX7_told 10 = .ok (.ireturn, 1) := by decide +kernel
theorem dX7_newPerson_0 : decode cX7_newPerson 0 = .ok (.aload_n 0, 1) := by decide +kernel
theorem dX7_newPerson_1 : decode cX7_newPerson 1 = .ok (.getfield 7, 3) := by decide +kernel
theorem dX7_newPerson_4 : decode cX7_newPerson 4 = .ok (.iconst 1, 1) := by decide +kernel
theorem dX7_newPerson_5 : decode cX7_newPerson 5 = .ok (.iaload, 1) := by decide +kernel
theorem dX7_newPerson_6 : decode cX7_newPerson 6 = .ok (.istore_n 2, 1) := by decide +kernel
theorem dX7_newPerson_7 : decode cX7_newPerson 7 = .ok (.aload_n 0, 1) := by decide +kernel
theorem dX7_newPerson_8 : decode cX7_newPerson 8 = .ok (.getfield 7, 3) := by decide +kernel
theorem dX7_newPerson_11 : decode cX7_newPerson 11 = .ok (.iload_n 2, 1) := by decide +kernel
theorem dX7_newPerson_12 : decode cX7_newPerson 12 = .ok (.iconst 0, 1) := by decide +kernel
theorem dX7_newPerson_13 : decode cX7_newPerson 13 = .ok (.invokestatic 84, 3) := by decide +kernel
theorem dX7_newPerson_16 : decode cX7_newPerson 16 = .ok (.iconst 0, 1) := by decide +kernel
theorem dX7_newPerson_17 : decode cX7_newPerson 17 = .ok (.iastore, 1) := by decide +kernel
theorem dX7_newPerson_18 : decode cX7_newPerson 18 = .ok (.aload_n 0, 1) := by decide +kernel
theorem dX7_newPerson_19 : decode cX7_newPerson 19 = .ok (.getfield 7, 3) := by decide +kernel
theorem dX7_newPerson_22 : decode cX7_newPerson 22 = .ok (.iload_n 2, 1) := by decide +kernel
theorem dX7_newPerson_23 : decode cX7_newPerson 23 = .ok (.iconst 1, 1) := by decide +kernel
theorem dX7_newPerson_24 : decode cX7_newPerson 24 = .ok (.invokestatic 84, 3) := by decide +kernel
theorem dX7_newPerson_27 : decode cX7_newPerson 27 = .ok (.iconst 0, 1) := by decide +kernel
theorem dX7_newPerson_28 : decode cX7_newPerson 28 = .ok (.iastore, 1) := by decide +kernel
theorem dX7_newPerson_29 : decode cX7_newPerson 29 = .ok (.aload_n 0, 1) := by decide +kernel
theorem dX7_newPerson_30 : decode cX7_newPerson 30 = .ok (.getfield 7, 3) := by decide +kernel
theorem dX7_newPerson_33 : decode cX7_newPerson 33 = .ok (.iload_n 2, 1) := by decide +kernel
theorem dX7_newPerson_34 : decode cX7_newPerson 34 = .ok (.iconst 2, 1) := by decide +kernel
theorem dX7_newPerson_35 : decode cX7_newPerson 35 = .ok (.invokestatic 84, 3) := by decide +kernel
theorem dX7_newPerson_38 : decode cX7_newPerson 38 = .ok (.iload_n 1, 1) := by decide +kernel
theorem dX7_newPerson_39 : decode cX7_newPerson 39 = .ok (.iastore, 1) := by decide +kernel
theorem dX7_newPerson_40 : decode cX7_newPerson 40 = .ok (.aload_n 0, 1) := by decide +kernel
theorem dX7_newPerson_41 : decode cX7_newPerson 41 = .ok (.getfield 7, 3) := by decide +kernel
theorem dX7_newPerson_44 : decode cX7_newPerson 44 = .ok (.iload_n 2, 1) := by decide +kernel
theorem dX7_newPerson_45 : decode cX7_newPerson 45 = .ok (.iconst 3, 1) := by decide +kernel
theorem dX7_newPerson_46 : decode cX7_newPerson 46 = .ok (.invokestatic 84, 3) := by decide +kernel
theorem dX7_newPerson_49 : decode cX7_newPerson 49 = .ok (.bipush 100, 2) := by decide +kernel
theorem dX7_newPerson_51 : decode cX7_newPerson 51 = .ok (.iastore, 1) := by decide +kernel
theorem dX7_newPerson_52 : decode cX7_newPerson 52 = .ok (.aload_n 0, 1) := by decide +kernel
theorem dX7_newPerson_53 : decode cX7_newPerson 53 = .ok (.getfield 7, 3) := by decide +kernel
theorem dX7_newPerson_56 : decode cX7_newPerson 56 = .ok (.iload_n 2, 1) := by decide +kernel
theorem dX7_newPerson_57 : decode cX7_newPerson 57 = .ok (.iconst 4, 1) := by decide +kernel
theorem dX7_newPerson_58 : decode cX7_newPerson 58 = .ok (.invokestatic 84, 3) := by decide +kernel
theorem dX7_newPerson_61 : decode cX7_newPerson 61 = .ok (.iconst 0, 1) := by decide +kernel
theorem dX7_newPerson_62 : decode cX7_newPerson 62 = .ok (.iastore, 1) := by decide +kernel
theorem dX7_newPerson_63 : decode cX7_newPerson 63 = .ok (.aload_n 0, 1) := by decide +kernel
theorem dX7_newPerson_64 : decode cX7_newPerson 64 = .ok (.getfield 7, 3) := by decide +kernel
theorem dX7_newPerson_67 : decode cX7_newPerson 67 = .ok (.bipush 81, 2) := by decide +kernel
theorem dX7_newPerson_69 : decode cX7_newPerson 69 = .ok (.iload_n 2, 1) := by decide +kernel
theorem dX7_newPerson_70 : decode cX7_newPerson 70 = .ok (.iadd, 1) := by decide +kernel
theorem dX7_newPerson_71 : decode cX7_newPerson 71 = .ok (.iconst 0, 1) := by decide +kernel
theorem dX7_newPerson_72 : decode cX7_newPerson 72 = .ok (.iastore, 1) := by decide +kernel
theorem dX7_newPerson_73 : decode cX7_newPerson 73 = .ok (.aload_n 0, 1) := by decide +kernel
theorem dX7_newPerson_74 : decode cX7_newPerson 74 = .ok (.getfield 7, 3) := by decide +kernel
theorem dX7_newPerson_77 : decode cX7_newPerson 77 = .ok (.iconst 1, 1) := by decide +kernel
theorem dX7_newPerson_78 : decode cX7_newPerson 78 = .ok (.dup2, 1) := by decide +kernel
theorem dX7_newPerson_79 : decode cX7_newPerson 79 = .ok (.iaload, 1) := by decide +kernel
theorem dX7_newPerson_80 : decode cX7_newPerson 80 = .ok (.iconst 1, 1) := by decide +kernel
theorem dX7_newPerson_81 : decode cX7_newPerson 81 = .ok (.iadd, 1) := by decide +kernel
theorem dX7_newPerson_82 : decode cX7_newPerson 82 = .ok (.iastore, 1) := by decide +kernel
theorem dX7_newPerson_83 : decode cX7_newPerson 83 = .ok (.iload_n 2, 1) := by decide +kernel
theorem dX7_newPerson_84 : decode cX7_newPerson 84 = .ok (.ireturn, 1) := by decide +kernel
theorem dX7_person_0 : decode cX7_person 0 = .ok (.aload_n 0, 1) := by decide +kernel
theorem dX7_person_1 : decode cX7_person 1 = .ok (.iload_n 1, 1) := by decide +kernel
theorem dX7_person_2 : decode cX7_person 2 = .ok (.invokevirtual 76, 3) := by decide +kernel
theorem dX7_person_5 : decode cX7_person 5 = .ok (.ifCond .ne 10, 3) := by decide +kernel
theorem dX7_person_8 : decode cX7_person 8 = .ok (.aload_n 0, 1) := by decide +kernel
theorem dX7_person_9 : decode cX7_person 9 = .ok (.ldc 40, 2) := by decide +kernel
theorem dX7_person_11 : decode cX7_person 11 = .ok (.invokevirtual 68, 3) := by decide +kernel
theorem dX7_person_14 : decode cX7_person 14 = .ok (.ireturn, 1) := by decide +kernel
theorem dX7_person_15 : decode cX7_person 15 = .ok (.aload_n 0, 1) := by decide +kernel
theorem dX7_person_16 : decode cX7_person 16 = .ok (.getfield 7, 3) := by decide +kernel
theorem dX7_person_19 : decode cX7_person 19 = .ok (.iconst 1, 1) := by decide +kernel
theorem dX7_person_20 : decode cX7_person 20 = .ok (.iaload, 1) := by decide +kernel
theorem dX7_person_21 : decode cX7_person 21 = .ok (.bipush 8, 2) := by decide +kernel
theorem dX7_person_23 : decode cX7_person 23 = .ok (.if_icmp .ne 12, 3) := by decide +kernel
theorem dX7_person_26 : decode cX7_person 26 = .ok (.aload_n 0, 1) := by decide +kernel
theorem dX7_person_27 : decode cX7_person 27 = .ok (.ldc 72, 2) := by decide +kernel
theorem dX7_person_29 : decode cX7_person 29 = .ok (.invokevirtual 68, 3) := by decide +kernel
theorem dX7_person_32 : decode cX7_person 32 = .ok (.goto 8, 3) := by decide +kernel
theorem dX7_person_35 : decode cX7_person 35 = .ok (.aload_n 0, 1) := by decide +kernel
theorem dX7_person_36 : decode cX7_person 36 = .ok (.iload_n 1, 1) := by decide +kernel
theorem dX7_person_37 : decode cX7_person 37 = .ok (.invokevirtual 87, 3) := by decide +kernel
theorem dX7_person_40 : decode cX7_person 40 = .ok (.ireturn, 1) := by decide +kernel
theorem dX7_anybody_0 : decode cX7_anybody 0 = .ok (.iconst 0, 1) := by decide +kernel
theorem dX7_anybody_1 : decode cX7_anybody 1 = .ok (.istore_n 2, 1) := by decide +kernel
theorem dX7_anybody_2 : decode cX7_anybody 2 = .ok (.iconst 0, 1) := by decide +kernel
theorem dX7_anybody_3 : decode cX7_anybody 3 = .ok (.istore_n 3, 1) := by decide +kernel
theorem dX7_anybody_4 : decode cX7_anybody 4 = .ok (.iload_n 3, 1) := by decide +kernel
theorem dX7_anybody_5 : decode cX7_anybody 5 = .ok (.aload_n 0, 1) := by decide +kernel
theorem dX7_anybody_6 : decode cX7_anybody 6 = .ok (.getfield 7, 3) := by decide +kernel
theorem dX7_anybody_9 : decode cX7_anybody 9 = .ok (.iconst 1, 1) := by decide +kernel
theorem dX7_anybody_10 : decode cX7_anybody 10 = .ok (.iaload, 1) := by decide +kernel
theorem dX7_anybody_11 : decode cX7_anybody 11 = .ok (.if_icmp .ge 18, 3) := by decide +kernel
theorem dX7_anybody_14 : decode cX7_anybody 14 = .ok (.iload_n 2, 1) := by decide +kernel
theorem dX7_anybody_15 : decode cX7_anybody 15 = .ok (.aload_n 0, 1) := by decide +kernel
theorem dX7_anybody_16 : decode cX7_anybody 16 = .ok (.iload_n 3, 1) := by decide +kernel
theorem dX7_anybody_17 : decode cX7_anybody 17 = .ok (.iload_n 1, 1) := by decide +kernel
theorem dX7_anybody_18 : decode cX7_anybody 18 = .ok (.invokevirtual 90, 3) := by decide +kernel
theorem dX7_anybody_21 : decode cX7_anybody 21 = .ok (.ior, 1) := by decide +kernel
theorem dX7_anybody_22 : decode cX7_anybody 22 = .ok (.istore_n 2, 1) := by decide +kernel
theorem dX7_anybody_23 : decode cX7_anybody 23 = .ok (.iinc 3 1, 3) := by decide +kernel
theorem dX7_anybody_26 : decode cX7_anybody 26 = .ok (.goto (-22), 3) := by decide +kernel
theorem dX7_anybody_29 : decode cX7_anybody 29 = .ok (.iload_n 2, 1) := by decide +kernel
theorem dX7_anybody_30 : decode cX7_anybody 30 = .ok (.ireturn, 1) := by decide +kernel
theorem dX7_lies_0 : decode cX7_lies 0 = .ok (.aload_n 0, 1) := by decide +kernel
theorem dX7_lies_1 : decode cX7_lies 1 = .ok (.iload_n 1, 1) := by decide +kernel
theorem dX7_lies_2 : decode cX7_lies 2 = .ok (.iconst 1, 1) := by decide +kernel
theorem dX7_lies_3 : decode cX7_lies 3 = .ok (.invokevirtual 90, 3) := by decide +kernel
theorem dX7_lies_6 : decode cX7_lies 6 = .ok (.aload_n 0, 1) := by decide +kernel
theorem dX7_lies_7 : decode cX7_lies 7 = .ok (.iconst 0, 1) := by decide +kernel
theorem dX7_lies_8 : decode cX7_lies 8 = .ok (.invokevirtual 93, 3) := by decide +kernel
theorem dX7_lies_11 : decode cX7_lies 11 = .ok (.iconst (-1), 1) := by decide +kernel
theorem dX7_lies_12 : decode cX7_lies 12 = .ok (.ixor, 1) := by decide +kernel
theorem dX7_lies_13 : decode cX7_lies 13 = .ok (.iand, 1) := by decide +kernel
theorem dX7_lies_14 : decode cX7_lies 14 = .ok (.ireturn, 1) := by decide +kernel
theorem dX7_of_0 : decode cX7_of 0 = .ok (.aload_n 0, 1) := by decide +kernel
theorem dX7_of_1 : decode cX7_of 1 = .ok (.iload_n 1, 1) := by decide +kernel
theorem dX7_of_2 : decode cX7_of 2 = .ok (.invokevirtual 96, 3) := by decide +kernel
theorem dX7_of_5 : decode cX7_of 5 = .ok (.ifCond .eq 15, 3) := by decide +kernel
theorem dX7_of_8 : decode cX7_of 8 = .ok (.iload_n 2, 1) := by decide +kernel
theorem dX7_of_9 : decode cX7_of 9 = .ok (.i2l, 1) := by decide +kernel
theorem dX7_of_10 : decode cX7_of 10 = .ok (.lconst 0, 1) := by decide +kernel
theorem dX7_of_11 : decode cX7_of 11 = .ok (.ldc2_w 79, 3) := by decide +kernel
theorem dX7_of_14 : decode cX7_of 14 = .ok (.invokestatic 43, 3) := by decide +kernel
theorem dX7_of_17 : decode cX7_of 17 = .ok (.ifCond .ne 10, 3) := by decide +kernel
theorem dX7_of_20 : decode cX7_of 20 = .ok (.aload_n 0, 1) := by decide +kernel
theorem dX7_of_21 : decode cX7_of 21 = .ok (.ldc 40, 2) := by decide +kernel
theorem dX7_of_23 : decode cX7_of 23 = .ok (.invokevirtual 68, 3) := by decide +kernel
theorem dX7_of_26 : decode cX7_of 26 = .ok (.ireturn, 1) := by decide +kernel
theorem dX7_of_27 : decode cX7_of 27 = .ok (.iload_n 2, 1) := by decide +kernel
theorem dX7_of_28 : decode cX7_of 28 = .ok (.iconst 5, 1) := by decide +kernel
theorem dX7_of_29 : decode cX7_of 29 = .ok (.if_icmp .ge 12, 3) := by decide +kernel
theorem dX7_of_32 : decode cX7_of 32 = .ok (.aload_n 0, 1) := by decide +kernel
theorem dX7_of_33 : decode cX7_of 33 = .ok (.iload_n 1, 1) := by decide +kernel
theorem dX7_of_34 : decode cX7_of 34 = .ok (.iload_n 2, 1) := by decide +kernel
theorem dX7_of_35 : decode cX7_of 35 = .ok (.invokevirtual 90, 3) := by decide +kernel
theorem dX7_of_38 : decode cX7_of 38 = .ok (.goto 8, 3) := by decide +kernel
theorem dX7_of_41 : decode cX7_of 41 = .ok (.aload_n 0, 1) := by decide +kernel
theorem dX7_of_42 : decode cX7_of 42 = .ok (.iload_n 1, 1) := by decide +kernel
theorem dX7_of_43 : decode cX7_of 43 = .ok (.invokevirtual 99, 3) := by decide +kernel
theorem dX7_of_46 : decode cX7_of 46 = .ok (.ireturn, 1) := by decide +kernel
theorem dX7_isPart_0 : decode cX7_isPart 0 = .ok (.iload_n 1, 1) := by decide +kernel
theorem dX7_isPart_1 : decode cX7_isPart 1 = .ok (.tableswitch 52 0 3 #[31, 31, 36, 42], 31) := by decide +kernel
theorem dX7_isPart_32 : decode cX7_isPart 32 = .ok (.iload_n 2, 1) := by decide +kernel
theorem dX7_isPart_33 : decode cX7_isPart 33 = .ok (.invokestatic 60, 3) := by decide +kernel
theorem dX7_isPart_36 : decode cX7_isPart 36 = .ok (.ireturn, 1) := by decide +kernel
theorem dX7_isPart_37 : decode cX7_isPart 37 = .ok (.aload_n 0, 1) := by decide +kernel
theorem dX7_isPart_38 : decode cX7_isPart 38 = .ok (.iload_n 2, 1) := by decide +kernel
theorem dX7_isPart_39 : decode cX7_isPart 39 = .ok (.invokevirtual 76, 3) := by decide +kernel
theorem dX7_isPart_42 : decode cX7_isPart 42 = .ok (.ireturn, 1) := by decide +kernel
theorem dX7_isPart_43 : decode cX7_isPart 43 = .ok (.iload_n 2, 1) := by decide +kernel
theorem dX7_isPart_44 : decode cX7_isPart 44 = .ok (.i2l, 1) := by decide +kernel
theorem dX7_isPart_45 : decode cX7_isPart 45 = .ok (.lconst 0, 1) := by decide +kernel
theorem dX7_isPart_46 : decode cX7_isPart 46 = .ok (.ldc2_w 102, 3) := by decide +kernel
theorem dX7_isPart_49 : decode cX7_isPart 49 = .ok (.invokestatic 43, 3) := by decide +kernel
theorem dX7_isPart_52 : decode cX7_isPart 52 = .ok (.ireturn, 1) := by decide +kernel
theorem dX7_isPart_53 : decode cX7_isPart 53 = .ok (.iload_n 1, 1) := by decide +kernel
theorem dX7_isPart_54 : decode cX7_isPart 54 = .ok (.iconst 4, 1) := by decide +kernel
theorem dX7_isPart_55 : decode cX7_isPart 55 = .ok (.if_icmp .ne 17, 3) := by decide +kernel
theorem dX7_isPart_58 : decode cX7_isPart 58 = .ok (.iload_n 2, 1) := by decide +kernel
theorem dX7_isPart_59 : decode cX7_isPart 59 = .ok (.i2l, 1) := by decide +kernel
theorem dX7_isPart_60 : decode cX7_isPart 60 = .ok (.lconst 0, 1) := by decide +kernel
theorem dX7_isPart_61 : decode cX7_isPart 61 = .ok (.lconst 1, 1) := by decide +kernel
theorem dX7_isPart_62 : decode cX7_isPart 62 = .ok (.invokestatic 43, 3) := by decide +kernel
theorem dX7_isPart_65 : decode cX7_isPart 65 = .ok (.ifCond .eq 7, 3) := by decide +kernel
theorem dX7_isPart_68 : decode cX7_isPart 68 = .ok (.iconst 1, 1) := by decide +kernel
theorem dX7_isPart_69 : decode cX7_isPart 69 = .ok (.goto 4, 3) := by decide +kernel
theorem dX7_isPart_72 : decode cX7_isPart 72 = .ok (.iconst 0, 1) := by decide +kernel
theorem dX7_isPart_73 : decode cX7_isPart 73 = .ok (.ireturn, 1) := by decide +kernel
theorem dX7_change_0 : decode cX7_change 0 = .ok (.aload_n 0, 1) := by decide +kernel
theorem dX7_change_1 : decode cX7_change 1 = .ok (.iload_n 1, 1) := by decide +kernel
theorem dX7_change_2 : decode cX7_change 2 = .ok (.invokevirtual 96, 3) := by decide +kernel
theorem dX7_change_5 : decode cX7_change 5 = .ok (.ifCond .eq 12, 3) := by decide +kernel
theorem dX7_change_8 : decode cX7_change 8 = .ok (.aload_n 0, 1) := by decide +kernel
theorem dX7_change_9 : decode cX7_change 9 = .ok (.iload_n 2, 1) := by decide +kernel
theorem dX7_change_10 : decode cX7_change 10 = .ok (.iload_n 3, 1) := by decide +kernel
theorem dX7_change_11 : decode cX7_change 11 = .ok (.invokevirtual 104, 3) := by decide +kernel
theorem dX7_change_14 : decode cX7_change 14 = .ok (.ifCond .ne 10, 3) := by decide +kernel
theorem dX7_change_17 : decode cX7_change 17 = .ok (.aload_n 0, 1) := by decide +kernel
theorem dX7_change_18 : decode cX7_change 18 = .ok (.ldc 40, 2) := by decide +kernel
theorem dX7_change_20 : decode cX7_change 20 = .ok (.invokevirtual 68, 3) := by decide +kernel
theorem dX7_change_23 : decode cX7_change 23 = .ok (.ireturn, 1) := by decide +kernel
theorem dX7_change_24 : decode cX7_change 24 = .ok (.aload_n 0, 1) := by decide +kernel
theorem dX7_change_25 : decode cX7_change 25 = .ok (.iload_n 1, 1) := by decide +kernel
theorem dX7_change_26 : decode cX7_change 26 = .ok (.iload_n 2, 1) := by decide +kernel
theorem dX7_change_27 : decode cX7_change 27 = .ok (.invokevirtual 90, 3) := by decide +kernel
theorem dX7_change_30 : decode cX7_change 30 = .ok (.istore 4, 2) := by decide +kernel
theorem dX7_change_32 : decode cX7_change 32 = .ok (.aload_n 0, 1) := by decide +kernel
theorem dX7_change_33 : decode cX7_change 33 = .ok (.getfield 7, 3) := by decide +kernel
theorem dX7_change_36 : decode cX7_change 36 = .ok (.iload_n 1, 1) := by decide +kernel
theorem dX7_change_37 : decode cX7_change 37 = .ok (.iload_n 2, 1) := by decide +kernel
theorem dX7_change_38 : decode cX7_change 38 = .ok (.invokestatic 84, 3) := by decide +kernel
theorem dX7_change_41 : decode cX7_change 41 = .ok (.iload_n 3, 1) := by decide +kernel
theorem dX7_change_42 : decode cX7_change 42 = .ok (.iastore, 1) := by decide +kernel
theorem dX7_change_43 : decode cX7_change 43 = .ok (.iload 4, 2) := by decide +kernel
theorem dX7_change_45 : decode cX7_change 45 = .ok (.ireturn, 1) := by decide +kernel
theorem dX7_isTwo_0 : decode cX7_isTwo 0 = .ok (.aload_n 0, 1) := by decide +kernel
theorem dX7_isTwo_1 : decode cX7_isTwo 1 = .ok (.iload_n 1, 1) := by decide +kernel
theorem dX7_isTwo_2 : decode cX7_isTwo 2 = .ok (.invokevirtual 96, 3) := by decide +kernel
theorem dX7_isTwo_5 : decode cX7_isTwo 5 = .ok (.ifCond .eq 20, 3) := by decide +kernel
theorem dX7_isTwo_8 : decode cX7_isTwo 8 = .ok (.aload_n 0, 1) := by decide +kernel
theorem dX7_isTwo_9 : decode cX7_isTwo 9 = .ok (.iload_n 2, 1) := by decide +kernel
theorem dX7_isTwo_10 : decode cX7_isTwo 10 = .ok (.invokevirtual 96, 3) := by decide +kernel
theorem dX7_isTwo_13 : decode cX7_isTwo 13 = .ok (.ifCond .eq 12, 3) := by decide +kernel
theorem dX7_isTwo_16 : decode cX7_isTwo 16 = .ok (.iload_n 1, 1) := by decide +kernel
theorem dX7_isTwo_17 : decode cX7_isTwo 17 = .ok (.iload_n 2, 1) := by decide +kernel
theorem dX7_isTwo_18 : decode cX7_isTwo 18 = .ok (.if_icmp .eq 7, 3) := by decide +kernel
theorem dX7_isTwo_21 : decode cX7_isTwo 21 = .ok (.iconst 1, 1) := by decide +kernel
theorem dX7_isTwo_22 : decode cX7_isTwo 22 = .ok (.goto 4, 3) := by decide +kernel
theorem dX7_isTwo_25 : decode cX7_isTwo 25 = .ok (.iconst 0, 1) := by decide +kernel
theorem dX7_isTwo_26 : decode cX7_isTwo 26 = .ok (.ireturn, 1) := by decide +kernel
theorem dX7_joins_0 : decode cX7_joins 0 = .ok (.aload_n 0, 1) := by decide +kernel
theorem dX7_joins_1 : decode cX7_joins 1 = .ok (.getfield 7, 3) := by decide +kernel
theorem dX7_joins_4 : decode cX7_joins 4 = .ok (.bipush 81, 2) := by decide +kernel
theorem dX7_joins_6 : decode cX7_joins 6 = .ok (.iload_n 1, 1) := by decide +kernel
theorem dX7_joins_7 : decode cX7_joins 7 = .ok (.iadd, 1) := by decide +kernel
theorem dX7_joins_8 : decode cX7_joins 8 = .ok (.iload_n 3, 1) := by decide +kernel
theorem dX7_joins_9 : decode cX7_joins 9 = .ok (.ifCond .eq 19, 3) := by decide +kernel
theorem dX7_joins_12 : decode cX7_joins 12 = .ok (.aload_n 0, 1) := by decide +kernel
theorem dX7_joins_13 : decode cX7_joins 13 = .ok (.getfield 7, 3) := by decide +kernel
theorem dX7_joins_16 : decode cX7_joins 16 = .ok (.bipush 81, 2) := by decide +kernel
theorem dX7_joins_18 : decode cX7_joins 18 = .ok (.iload_n 1, 1) := by decide +kernel
theorem dX7_joins_19 : decode cX7_joins 19 = .ok (.iadd, 1) := by decide +kernel
theorem dX7_joins_20 : decode cX7_joins 20 = .ok (.iaload, 1) := by decide +kernel
theorem dX7_joins_21 : decode cX7_joins 21 = .ok (.iconst 1, 1) := by decide +kernel
theorem dX7_joins_22 : decode cX7_joins 22 = .ok (.iload_n 2, 1) := by decide +kernel
theorem dX7_joins_23 : decode cX7_joins 23 = .ok (.ishl, 1) := by decide +kernel
theorem dX7_joins_24 : decode cX7_joins 24 = .ok (.ior, 1) := by decide +kernel
theorem dX7_joins_25 : decode cX7_joins 25 = .ok (.goto 18, 3) := by decide +kernel
theorem dX7_joins_28 : decode cX7_joins 28 = .ok (.aload_n 0, 1) := by decide +kernel
theorem dX7_joins_29 : decode cX7_joins 29 = .ok (.getfield 7, 3) := by decide +kernel
theorem dX7_joins_32 : decode cX7_joins 32 = .ok (.bipush 81, 2) := by decide +kernel
theorem dX7_joins_34 : decode cX7_joins 34 = .ok (.iload_n 1, 1) := by decide +kernel
theorem dX7_joins_35 : decode cX7_joins 35 = .ok (.iadd, 1) := by decide +kernel
theorem dX7_joins_36 : decode cX7_joins 36 = .ok (.iaload, 1) := by decide +kernel
theorem dX7_joins_37 : decode cX7_joins 37 = .ok (.iconst 1, 1) := by decide +kernel
theorem dX7_joins_38 : decode cX7_joins 38 = .ok (.iload_n 2, 1) := by decide +kernel
theorem dX7_joins_39 : decode cX7_joins 39 = .ok (.ishl, 1) := by decide +kernel
theorem dX7_joins_40 : decode cX7_joins 40 = .ok (.iconst (-1), 1) := by decide +kernel
theorem dX7_joins_41 : decode cX7_joins 41 = .ok (.ixor, 1) := by decide +kernel
theorem dX7_joins_42 : decode cX7_joins 42 = .ok (.iand, 1) := by decide +kernel
theorem dX7_joins_43 : decode cX7_joins 43 = .ok (.iastore, 1) := by decide +kernel
theorem dX7_joins_44 : decode cX7_joins 44 = .ok (.aload_n 0, 1) := by decide +kernel
theorem dX7_joins_45 : decode cX7_joins 45 = .ok (.getfield 7, 3) := by decide +kernel
theorem dX7_joins_48 : decode cX7_joins 48 = .ok (.bipush 81, 2) := by decide +kernel
theorem dX7_joins_50 : decode cX7_joins 50 = .ok (.iload_n 2, 1) := by decide +kernel
theorem dX7_joins_51 : decode cX7_joins 51 = .ok (.iadd, 1) := by decide +kernel
theorem dX7_joins_52 : decode cX7_joins 52 = .ok (.iload_n 3, 1) := by decide +kernel
theorem dX7_joins_53 : decode cX7_joins 53 = .ok (.ifCond .eq 19, 3) := by decide +kernel
theorem dX7_joins_56 : decode cX7_joins 56 = .ok (.aload_n 0, 1) := by decide +kernel
theorem dX7_joins_57 : decode cX7_joins 57 = .ok (.getfield 7, 3) := by decide +kernel
theorem dX7_joins_60 : decode cX7_joins 60 = .ok (.bipush 81, 2) := by decide +kernel
theorem dX7_joins_62 : decode cX7_joins 62 = .ok (.iload_n 2, 1) := by decide +kernel
theorem dX7_joins_63 : decode cX7_joins 63 = .ok (.iadd, 1) := by decide +kernel
theorem dX7_joins_64 : decode cX7_joins 64 = .ok (.iaload, 1) := by decide +kernel
theorem dX7_joins_65 : decode cX7_joins 65 = .ok (.iconst 1, 1) := by decide +kernel
theorem dX7_joins_66 : decode cX7_joins 66 = .ok (.iload_n 1, 1) := by decide +kernel
theorem dX7_joins_67 : decode cX7_joins 67 = .ok (.ishl, 1) := by decide +kernel
theorem dX7_joins_68 : decode cX7_joins 68 = .ok (.ior, 1) := by decide +kernel
theorem dX7_joins_69 : decode cX7_joins 69 = .ok (.goto 18, 3) := by decide +kernel
theorem dX7_joins_72 : decode cX7_joins 72 = .ok (.aload_n 0, 1) := by decide +kernel
theorem dX7_joins_73 : decode cX7_joins 73 = .ok (.getfield 7, 3) := by decide +kernel
theorem dX7_joins_76 : decode cX7_joins 76 = .ok (.bipush 81, 2) := by decide +kernel
theorem dX7_joins_78 : decode cX7_joins 78 = .ok (.iload_n 2, 1) := by decide +kernel
theorem dX7_joins_79 : decode cX7_joins 79 = .ok (.iadd, 1) := by decide +kernel
theorem dX7_joins_80 : decode cX7_joins 80 = .ok (.iaload, 1) := by decide +kernel
theorem dX7_joins_81 : decode cX7_joins 81 = .ok (.iconst 1, 1) := by decide +kernel
theorem dX7_joins_82 : decode cX7_joins 82 = .ok (.iload_n 1, 1) := by decide +kernel
theorem dX7_joins_83 : decode cX7_joins 83 = .ok (.ishl, 1) := by decide +kernel
theorem dX7_joins_84 : decode cX7_joins 84 = .ok (.iconst (-1), 1) := by decide +kernel
theorem dX7_joins_85 : decode cX7_joins 85 = .ok (.ixor, 1) := by decide +kernel
theorem dX7_joins_86 : decode cX7_joins 86 = .ok (.iand, 1) := by decide +kernel
theorem dX7_joins_87 : decode cX7_joins 87 = .ok (.iastore, 1) := by decide +kernel
theorem dX7_joins_88 : decode cX7_joins 88 = .ok (.return_, 1) := by decide +kernel
theorem dX7_tie_0 : decode cX7_tie 0 = .ok (.aload_n 0, 1) := by decide +kernel
theorem dX7_tie_1 : decode cX7_tie 1 = .ok (.iload_n 1, 1) := by decide +kernel
theorem dX7_tie_2 : decode cX7_tie 2 = .ok (.iload_n 2, 1) := by decide +kernel
theorem dX7_tie_3 : decode cX7_tie 3 = .ok (.invokevirtual 107, 3) := by decide +kernel
theorem dX7_tie_6 : decode cX7_tie 6 = .ok (.ifCond .ne 10, 3) := by decide +kernel
theorem dX7_tie_9 : decode cX7_tie 9 = .ok (.aload_n 0, 1) := by decide +kernel
theorem dX7_tie_10 : decode cX7_tie 10 = .ok (.ldc 40, 2) := by decide +kernel
theorem dX7_tie_12 : decode cX7_tie 12 = .ok (.invokevirtual 68, 3) := by decide +kernel
theorem dX7_tie_15 : decode cX7_tie 15 = .ok (.ireturn, 1) := by decide +kernel
theorem dX7_tie_16 : decode cX7_tie 16 = .ok (.aload_n 0, 1) := by decide +kernel
theorem dX7_tie_17 : decode cX7_tie 17 = .ok (.getfield 7, 3) := by decide +kernel
theorem dX7_tie_20 : decode cX7_tie 20 = .ok (.bipush 81, 2) := by decide +kernel
theorem dX7_tie_22 : decode cX7_tie 22 = .ok (.iload_n 1, 1) := by decide +kernel
theorem dX7_tie_23 : decode cX7_tie 23 = .ok (.iadd, 1) := by decide +kernel
theorem dX7_tie_24 : decode cX7_tie 24 = .ok (.iaload, 1) := by decide +kernel
theorem dX7_tie_25 : decode cX7_tie 25 = .ok (.iload_n 2, 1) := by decide +kernel
theorem dX7_tie_26 : decode cX7_tie 26 = .ok (.invokestatic 110, 3) := by decide +kernel
theorem dX7_tie_29 : decode cX7_tie 29 = .ok (.ifCond .eq 7, 3) := by decide +kernel
theorem dX7_tie_32 : decode cX7_tie 32 = .ok (.iconst 1, 1) := by decide +kernel
theorem dX7_tie_33 : decode cX7_tie 33 = .ok (.goto 4, 3) := by decide +kernel
theorem dX7_tie_36 : decode cX7_tie 36 = .ok (.iconst 0, 1) := by decide +kernel
theorem dX7_tie_37 : decode cX7_tie 37 = .ok (.istore 4, 2) := by decide +kernel
theorem dX7_tie_39 : decode cX7_tie 39 = .ok (.aload_n 0, 1) := by decide +kernel
theorem dX7_tie_40 : decode cX7_tie 40 = .ok (.iload_n 1, 1) := by decide +kernel
theorem dX7_tie_41 : decode cX7_tie 41 = .ok (.iload_n 2, 1) := by decide +kernel
theorem dX7_tie_42 : decode cX7_tie 42 = .ok (.iload_n 3, 1) := by decide +kernel
theorem dX7_tie_43 : decode cX7_tie 43 = .ok (.invokevirtual 113, 3) := by decide +kernel
theorem dX7_tie_46 : decode cX7_tie 46 = .ok (.iload 4, 2) := by decide +kernel
theorem dX7_tie_48 : decode cX7_tie 48 = .ok (.ireturn, 1) := by decide +kernel
theorem dX7_ties_0 : decode cX7_ties 0 = .ok (.aload_n 0, 1) := by decide +kernel
theorem dX7_ties_1 : decode cX7_ties 1 = .ok (.iload_n 1, 1) := by decide +kernel
theorem dX7_ties_2 : decode cX7_ties 2 = .ok (.invokevirtual 96, 3) := by decide +kernel
theorem dX7_ties_5 : decode cX7_ties 5 = .ok (.ifCond .eq 15, 3) := by decide +kernel
theorem dX7_ties_8 : decode cX7_ties 8 = .ok (.aload_n 0, 1) := by decide +kernel
theorem dX7_ties_9 : decode cX7_ties 9 = .ok (.getfield 7, 3) := by decide +kernel
theorem dX7_ties_12 : decode cX7_ties 12 = .ok (.bipush 81, 2) := by decide +kernel
theorem dX7_ties_14 : decode cX7_ties 14 = .ok (.iload_n 1, 1) := by decide +kernel
theorem dX7_ties_15 : decode cX7_ties 15 = .ok (.iadd, 1) := by decide +kernel
theorem dX7_ties_16 : decode cX7_ties 16 = .ok (.iaload, 1) := by decide +kernel
theorem dX7_ties_17 : decode cX7_ties 17 = .ok (.goto 9, 3) := by decide +kernel
theorem dX7_ties_20 : decode cX7_ties 20 = .ok (.aload_n 0, 1) := by decide +kernel
theorem dX7_ties_21 : decode cX7_ties 21 = .ok (.ldc 40, 2) := by decide +kernel
theorem dX7_ties_23 : decode cX7_ties 23 = .ok (.invokevirtual 68, 3) := by decide +kernel
theorem dX7_ties_26 : decode cX7_ties 26 = .ok (.ireturn, 1) := by decide +kernel
theorem dX7_leastOf_0 : decode cX7_leastOf 0 = .ok (.iload_n 0, 1) := by decide +kernel
theorem dX7_leastOf_1 : decode cX7_leastOf 1 = .ok (.istore_n 2, 1) := by decide +kernel
theorem dX7_leastOf_2 : decode cX7_leastOf 2 = .ok (.iconst 0, 1) := by decide +kernel
theorem dX7_leastOf_3 : decode cX7_leastOf 3 = .ok (.istore_n 3, 1) := by decide +kernel
theorem dX7_leastOf_4 : decode cX7_leastOf 4 = .ok (.iconst 0, 1) := by decide +kernel
theorem dX7_leastOf_5 : decode cX7_leastOf 5 = .ok (.istore 4, 2) := by decide +kernel
theorem dX7_leastOf_7 : decode cX7_leastOf 7 = .ok (.iload 4, 2) := by decide +kernel
theorem dX7_leastOf_9 : decode cX7_leastOf 9 = .ok (.iload_n 1, 1) := by decide +kernel
theorem dX7_leastOf_10 : decode cX7_leastOf 10 = .ok (.if_icmp .ge 27, 3) := by decide +kernel
theorem dX7_leastOf_13 : decode cX7_leastOf 13 = .ok (.iload_n 2, 1) := by decide +kernel
theorem dX7_leastOf_14 : decode cX7_leastOf 14 = .ok (.ifCond .eq 23, 3) := by decide +kernel
theorem dX7_leastOf_17 : decode cX7_leastOf 17 = .ok (.iload_n 3, 1) := by decide +kernel
theorem dX7_leastOf_18 : decode cX7_leastOf 18 = .ok (.iload_n 2, 1) := by decide +kernel
theorem dX7_leastOf_19 : decode cX7_leastOf 19 = .ok (.iconst 0, 1) := by decide +kernel
theorem dX7_leastOf_20 : decode cX7_leastOf 20 = .ok (.iload_n 2, 1) := by decide +kernel
theorem dX7_leastOf_21 : decode cX7_leastOf 21 = .ok (.isub, 1) := by decide +kernel
theorem dX7_leastOf_22 : decode cX7_leastOf 22 = .ok (.iand, 1) := by decide +kernel
theorem dX7_leastOf_23 : decode cX7_leastOf 23 = .ok (.ior, 1) := by decide +kernel
theorem dX7_leastOf_24 : decode cX7_leastOf 24 = .ok (.istore_n 3, 1) := by decide +kernel
theorem dX7_leastOf_25 : decode cX7_leastOf 25 = .ok (.iload_n 2, 1) := by decide +kernel
theorem dX7_leastOf_26 : decode cX7_leastOf 26 = .ok (.iload_n 2, 1) := by decide +kernel
theorem dX7_leastOf_27 : decode cX7_leastOf 27 = .ok (.iconst 1, 1) := by decide +kernel
theorem dX7_leastOf_28 : decode cX7_leastOf 28 = .ok (.isub, 1) := by decide +kernel
theorem dX7_leastOf_29 : decode cX7_leastOf 29 = .ok (.iand, 1) := by decide +kernel
theorem dX7_leastOf_30 : decode cX7_leastOf 30 = .ok (.istore_n 2, 1) := by decide +kernel
theorem dX7_leastOf_31 : decode cX7_leastOf 31 = .ok (.iinc 4 1, 3) := by decide +kernel
theorem dX7_leastOf_34 : decode cX7_leastOf 34 = .ok (.goto (-27), 3) := by decide +kernel
theorem dX7_leastOf_37 : decode cX7_leastOf 37 = .ok (.iload_n 3, 1) := by decide +kernel
theorem dX7_leastOf_38 : decode cX7_leastOf 38 = .ok (.ireturn, 1) := by decide +kernel
theorem dX7_plainOf_0 : decode cX7_plainOf 0 = .ok (.iload_n 2, 1) := by decide +kernel
theorem dX7_plainOf_1 : decode cX7_plainOf 1 = .ok (.aload_n 0, 1) := by decide +kernel
theorem dX7_plainOf_2 : decode cX7_plainOf 2 = .ok (.iload_n 1, 1) := by decide +kernel
theorem dX7_plainOf_3 : decode cX7_plainOf 3 = .ok (.iconst 1, 1) := by decide +kernel
theorem dX7_plainOf_4 : decode cX7_plainOf 4 = .ok (.invokevirtual 81, 3) := by decide +kernel
theorem dX7_plainOf_7 : decode cX7_plainOf 7 = .ok (.iconst (-1), 1) := by decide +kernel
theorem dX7_plainOf_8 : decode cX7_plainOf 8 = .ok (.ixor, 1) := by decide +kernel
theorem dX7_plainOf_9 : decode cX7_plainOf 9 = .ok (.iand, 1) := by decide +kernel
theorem dX7_plainOf_10 : decode cX7_plainOf 10 = .ok (.iload_n 2, 1) := by decide +kernel
theorem dX7_plainOf_11 : decode cX7_plainOf 11 = .ok (.aload_n 0, 1) := by decide +kernel
theorem dX7_plainOf_12 : decode cX7_plainOf 12 = .ok (.iload_n 1, 1) := by decide +kernel
theorem dX7_plainOf_13 : decode cX7_plainOf 13 = .ok (.iconst 3, 1) := by decide +kernel
theorem dX7_plainOf_14 : decode cX7_plainOf 14 = .ok (.invokevirtual 81, 3) := by decide +kernel
theorem dX7_plainOf_17 : decode cX7_plainOf 17 = .ok (.iand, 1) := by decide +kernel
theorem dX7_plainOf_18 : decode cX7_plainOf 18 = .ok (.ifCond .eq 12, 3) := by decide +kernel
theorem dX7_plainOf_21 : decode cX7_plainOf 21 = .ok (.aload_n 0, 1) := by decide +kernel
theorem dX7_plainOf_22 : decode cX7_plainOf 22 = .ok (.iload_n 1, 1) := by decide +kernel
theorem dX7_plainOf_23 : decode cX7_plainOf 23 = .ok (.iconst 2, 1) := by decide +kernel
theorem dX7_plainOf_24 : decode cX7_plainOf 24 = .ok (.invokevirtual 81, 3) := by decide +kernel
theorem dX7_plainOf_27 : decode cX7_plainOf 27 = .ok (.goto 4, 3) := by decide +kernel
theorem dX7_plainOf_30 : decode cX7_plainOf 30 = .ok (.iconst 0, 1) := by decide +kernel
theorem dX7_plainOf_31 : decode cX7_plainOf 31 = .ok (.ior, 1) := by decide +kernel
theorem dX7_plainOf_32 : decode cX7_plainOf 32 = .ok (.ireturn, 1) := by decide +kernel
theorem dX7_softened_0 : decode cX7_softened 0 = .ok (.iload_n 0, 1) := by decide +kernel
theorem dX7_softened_1 : decode cX7_softened 1 = .ok (.sipush 255, 3) := by decide +kernel
theorem dX7_softened_4 : decode cX7_softened 4 = .ok (.iand, 1) := by decide +kernel
theorem dX7_softened_5 : decode cX7_softened 5 = .ok (.iload_n 0, 1) := by decide +kernel
theorem dX7_softened_6 : decode cX7_softened 6 = .ok (.bipush 8, 2) := by decide +kernel
theorem dX7_softened_8 : decode cX7_softened 8 = .ok (.ishr, 1) := by decide +kernel
theorem dX7_softened_9 : decode cX7_softened 9 = .ok (.iconst 4, 1) := by decide +kernel
theorem dX7_softened_10 : decode cX7_softened 10 = .ok (.ishl, 1) := by decide +kernel
theorem dX7_softened_11 : decode cX7_softened 11 = .ok (.ior, 1) := by decide +kernel
theorem dX7_softened_12 : decode cX7_softened 12 = .ok (.ireturn, 1) := by decide +kernel
theorem dX7_putBy_0 : decode cX7_putBy 0 = .ok (.aload_n 0, 1) := by decide +kernel
theorem dX7_putBy_1 : decode cX7_putBy 1 = .ok (.iload_n 1, 1) := by decide +kernel
theorem dX7_putBy_2 : decode cX7_putBy 2 = .ok (.iload_n 2, 1) := by decide +kernel
theorem dX7_putBy_3 : decode cX7_putBy 3 = .ok (.invokevirtual 117, 3) := by decide +kernel
theorem dX7_putBy_6 : decode cX7_putBy 6 = .ok (.istore_n 3, 1) := by decide +kernel
theorem dX7_putBy_7 : decode cX7_putBy 7 = .ok (.aload_n 0, 1) := by decide +kernel
theorem dX7_putBy_8 : decode cX7_putBy 8 = .ok (.iload_n 1, 1) := by decide +kernel
theorem dX7_putBy_9 : decode cX7_putBy 9 = .ok (.iconst 0, 1) := by decide +kernel
theorem dX7_putBy_10 : decode cX7_putBy 10 = .ok (.invokevirtual 81, 3) := by decide +kernel
theorem dX7_putBy_13 : decode cX7_putBy 13 = .ok (.tableswitch 87 1 6 #[39, 44, 50, 62, 70, 81], 39) := by decide +kernel
theorem dX7_putBy_52 : decode cX7_putBy 52 = .ok (.iload_n 3, 1) := by decide +kernel
theorem dX7_putBy_53 : decode cX7_putBy 53 = .ok (.invokestatic 120, 3) := by decide +kernel
theorem dX7_putBy_56 : decode cX7_putBy 56 = .ok (.ireturn, 1) := by decide +kernel
theorem dX7_putBy_57 : decode cX7_putBy 57 = .ok (.iload_n 3, 1) := by decide +kernel
theorem dX7_putBy_58 : decode cX7_putBy 58 = .ok (.iconst 4, 1) := by decide +kernel
theorem dX7_putBy_59 : decode cX7_putBy 59 = .ok (.invokestatic 123, 3) := by decide +kernel
theorem dX7_putBy_62 : decode cX7_putBy 62 = .ok (.ireturn, 1) := by decide +kernel
theorem dX7_putBy_63 : decode cX7_putBy 63 = .ok (.iload_n 3, 1) := by decide +kernel
theorem dX7_putBy_64 : decode cX7_putBy 64 = .ok (.invokestatic 120, 3) := by decide +kernel
theorem dX7_putBy_67 : decode cX7_putBy 67 = .ok (.aload_n 0, 1) := by decide +kernel
theorem dX7_putBy_68 : decode cX7_putBy 68 = .ok (.iload_n 1, 1) := by decide +kernel
theorem dX7_putBy_69 : decode cX7_putBy 69 = .ok (.iconst 2, 1) := by decide +kernel
theorem dX7_putBy_70 : decode cX7_putBy 70 = .ok (.invokevirtual 81, 3) := by decide +kernel
theorem dX7_putBy_73 : decode cX7_putBy 73 = .ok (.ior, 1) := by decide +kernel
theorem dX7_putBy_74 : decode cX7_putBy 74 = .ok (.ireturn, 1) := by decide +kernel
theorem dX7_putBy_75 : decode cX7_putBy 75 = .ok (.iload_n 3, 1) := by decide +kernel
theorem dX7_putBy_76 : decode cX7_putBy 76 = .ok (.iconst 4, 1) := by decide +kernel
theorem dX7_putBy_77 : decode cX7_putBy 77 = .ok (.invokestatic 123, 3) := by decide +kernel
theorem dX7_putBy_80 : decode cX7_putBy 80 = .ok (.iconst 1, 1) := by decide +kernel
theorem dX7_putBy_81 : decode cX7_putBy 81 = .ok (.ior, 1) := by decide +kernel
theorem dX7_putBy_82 : decode cX7_putBy 82 = .ok (.ireturn, 1) := by decide +kernel
theorem dX7_putBy_83 : decode cX7_putBy 83 = .ok (.aload_n 0, 1) := by decide +kernel
theorem dX7_putBy_84 : decode cX7_putBy 84 = .ok (.iload_n 1, 1) := by decide +kernel
theorem dX7_putBy_85 : decode cX7_putBy 85 = .ok (.iload_n 2, 1) := by decide +kernel
theorem dX7_putBy_86 : decode cX7_putBy 86 = .ok (.sipush 1365, 3) := by decide +kernel
theorem dX7_putBy_89 : decode cX7_putBy 89 = .ok (.iand, 1) := by decide +kernel
theorem dX7_putBy_90 : decode cX7_putBy 90 = .ok (.invokevirtual 117, 3) := by decide +kernel
theorem dX7_putBy_93 : decode cX7_putBy 93 = .ok (.ireturn, 1) := by decide +kernel
theorem dX7_putBy_94 : decode cX7_putBy 94 = .ok (.iload_n 3, 1) := by decide +kernel
theorem dX7_putBy_95 : decode cX7_putBy 95 = .ok (.iconst 2, 1) := by decide +kernel
theorem dX7_putBy_96 : decode cX7_putBy 96 = .ok (.invokestatic 123, 3) := by decide +kernel
theorem dX7_putBy_99 : decode cX7_putBy 99 = .ok (.ireturn, 1) := by decide +kernel
theorem dX7_putBy_100 : decode cX7_putBy 100 = .ok (.iload_n 3, 1) := by decide +kernel
theorem dX7_putBy_101 : decode cX7_putBy 101 = .ok (.ireturn, 1) := by decide +kernel
theorem dX7_puts_0 : decode cX7_puts 0 = .ok (.aload_n 0, 1) := by decide +kernel
theorem dX7_puts_1 : decode cX7_puts 1 = .ok (.iload_n 1, 1) := by decide +kernel
theorem dX7_puts_2 : decode cX7_puts 2 = .ok (.invokevirtual 76, 3) := by decide +kernel
theorem dX7_puts_5 : decode cX7_puts 5 = .ok (.ifCond .eq 19, 3) := by decide +kernel
theorem dX7_puts_8 : decode cX7_puts 8 = .ok (.iload_n 2, 1) := by decide +kernel
theorem dX7_puts_9 : decode cX7_puts 9 = .ok (.invokestatic 60, 3) := by decide +kernel
theorem dX7_puts_12 : decode cX7_puts 12 = .ok (.ifCond .eq 12, 3) := by decide +kernel
theorem dX7_puts_15 : decode cX7_puts 15 = .ok (.aload_n 0, 1) := by decide +kernel
theorem dX7_puts_16 : decode cX7_puts 16 = .ok (.iload_n 1, 1) := by decide +kernel
theorem dX7_puts_17 : decode cX7_puts 17 = .ok (.iload_n 2, 1) := by decide +kernel
theorem dX7_puts_18 : decode cX7_puts 18 = .ok (.invokevirtual 126, 3) := by decide +kernel
theorem dX7_puts_21 : decode cX7_puts 21 = .ok (.goto 9, 3) := by decide +kernel
theorem dX7_puts_24 : decode cX7_puts 24 = .ok (.aload_n 0, 1) := by decide +kernel
theorem dX7_puts_25 : decode cX7_puts 25 = .ok (.ldc 40, 2) := by decide +kernel
theorem dX7_puts_27 : decode cX7_puts 27 = .ok (.invokevirtual 68, 3) := by decide +kernel
theorem dX7_puts_30 : decode cX7_puts 30 = .ok (.ireturn, 1) := by decide +kernel
theorem dX7_ownOf_0 : decode cX7_ownOf 0 = .ok (.aload_n 0, 1) := by decide +kernel
theorem dX7_ownOf_1 : decode cX7_ownOf 1 = .ok (.iload_n 1, 1) := by decide +kernel
theorem dX7_ownOf_2 : decode cX7_ownOf 2 = .ok (.iconst 0, 1) := by decide +kernel
theorem dX7_ownOf_3 : decode cX7_ownOf 3 = .ok (.invokevirtual 90, 3) := by decide +kernel
theorem dX7_ownOf_6 : decode cX7_ownOf 6 = .ok (.aload_n 0, 1) := by decide +kernel
theorem dX7_ownOf_7 : decode cX7_ownOf 7 = .ok (.iload_n 1, 1) := by decide +kernel
theorem dX7_ownOf_8 : decode cX7_ownOf 8 = .ok (.iconst 1, 1) := by decide +kernel
theorem dX7_ownOf_9 : decode cX7_ownOf 9 = .ok (.invokevirtual 90, 3) := by decide +kernel
theorem dX7_ownOf_12 : decode cX7_ownOf 12 = .ok (.ior, 1) := by decide +kernel
theorem dX7_ownOf_13 : decode cX7_ownOf 13 = .ok (.ireturn, 1) := by decide +kernel
theorem dX7_says_0 : decode cX7_says 0 = .ok (.aload_n 0, 1) := by decide +kernel
theorem dX7_says_1 : decode cX7_says 1 = .ok (.iload_n 1, 1) := by decide +kernel
theorem dX7_says_2 : decode cX7_says 2 = .ok (.invokevirtual 96, 3) := by decide +kernel
theorem dX7_says_5 : decode cX7_says 5 = .ok (.ifCond .eq 11, 3) := by decide +kernel
theorem dX7_says_8 : decode cX7_says 8 = .ok (.aload_n 0, 1) := by decide +kernel
theorem dX7_says_9 : decode cX7_says 9 = .ok (.iload_n 1, 1) := by decide +kernel
theorem dX7_says_10 : decode cX7_says 10 = .ok (.invokevirtual 129, 3) := by decide +kernel
theorem dX7_says_13 : decode cX7_says 13 = .ok (.goto 9, 3) := by decide +kernel
theorem dX7_says_16 : decode cX7_says 16 = .ok (.aload_n 0, 1) := by decide +kernel
theorem dX7_says_17 : decode cX7_says 17 = .ok (.ldc 40, 2) := by decide +kernel
theorem dX7_says_19 : decode cX7_says 19 = .ok (.invokevirtual 68, 3) := by decide +kernel
theorem dX7_says_22 : decode cX7_says 22 = .ok (.ireturn, 1) := by decide +kernel
theorem dX7_through_0 : decode cX7_through 0 = .ok (.aload_n 0, 1) := by decide +kernel
theorem dX7_through_1 : decode cX7_through 1 = .ok (.iload_n 1, 1) := by decide +kernel
theorem dX7_through_2 : decode cX7_through 2 = .ok (.iconst 4, 1) := by decide +kernel
theorem dX7_through_3 : decode cX7_through 3 = .ok (.invokevirtual 90, 3) := by decide +kernel
theorem dX7_through_6 : decode cX7_through 6 = .ok (.iconst 1, 1) := by decide +kernel
theorem dX7_through_7 : decode cX7_through 7 = .ok (.if_icmp .ne 7, 3) := by decide +kernel
theorem dX7_through_10 : decode cX7_through 10 = .ok (.iload_n 2, 1) := by decide +kernel
theorem dX7_through_11 : decode cX7_through 11 = .ok (.goto 14, 3) := by decide +kernel
theorem dX7_through_14 : decode cX7_through 14 = .ok (.aload_n 0, 1) := by decide +kernel
theorem dX7_through_15 : decode cX7_through 15 = .ok (.aload_n 0, 1) := by decide +kernel
theorem dX7_through_16 : decode cX7_through 16 = .ok (.iload_n 1, 1) := by decide +kernel
theorem dX7_through_17 : decode cX7_through 17 = .ok (.iconst 2, 1) := by decide +kernel
theorem dX7_through_18 : decode cX7_through 18 = .ok (.invokevirtual 90, 3) := by decide +kernel
theorem dX7_through_21 : decode cX7_through 21 = .ok (.iload_n 2, 1) := by decide +kernel
theorem dX7_through_22 : decode cX7_through 22 = .ok (.invokevirtual 126, 3) := by decide +kernel
theorem dX7_through_25 : decode cX7_through 25 = .ok (.ireturn, 1) := by decide +kernel
theorem dX7_read_0 : decode cX7_read 0 = .ok (.aload_n 0, 1) := by decide +kernel
theorem dX7_read_1 : decode cX7_read 1 = .ok (.iload_n 1, 1) := by decide +kernel
theorem dX7_read_2 : decode cX7_read 2 = .ok (.iload_n 2, 1) := by decide +kernel
theorem dX7_read_3 : decode cX7_read 3 = .ok (.invokevirtual 107, 3) := by decide +kernel
theorem dX7_read_6 : decode cX7_read 6 = .ok (.ifCond .eq 24, 3) := by decide +kernel
theorem dX7_read_9 : decode cX7_read 9 = .ok (.iload_n 3, 1) := by decide +kernel
theorem dX7_read_10 : decode cX7_read 10 = .ok (.invokestatic 60, 3) := by decide +kernel
theorem dX7_read_13 : decode cX7_read 13 = .ok (.ifCond .eq 17, 3) := by decide +kernel
theorem dX7_read_16 : decode cX7_read 16 = .ok (.aload_n 0, 1) := by decide +kernel
theorem dX7_read_17 : decode cX7_read 17 = .ok (.iload_n 2, 1) := by decide +kernel
theorem dX7_read_18 : decode cX7_read 18 = .ok (.aload_n 0, 1) := by decide +kernel
theorem dX7_read_19 : decode cX7_read 19 = .ok (.iload_n 1, 1) := by decide +kernel
theorem dX7_read_20 : decode cX7_read 20 = .ok (.iload_n 3, 1) := by decide +kernel
theorem dX7_read_21 : decode cX7_read 21 = .ok (.invokevirtual 132, 3) := by decide +kernel
theorem dX7_read_24 : decode cX7_read 24 = .ok (.invokevirtual 132, 3) := by decide +kernel
theorem dX7_read_27 : decode cX7_read 27 = .ok (.goto 9, 3) := by decide +kernel
theorem dX7_read_30 : decode cX7_read 30 = .ok (.aload_n 0, 1) := by decide +kernel
theorem dX7_read_31 : decode cX7_read 31 = .ok (.ldc 40, 2) := by decide +kernel
theorem dX7_read_33 : decode cX7_read 33 = .ok (.invokevirtual 68, 3) := by decide +kernel
theorem dX7_read_36 : decode cX7_read 36 = .ok (.ireturn, 1) := by decide +kernel
theorem dX7_costOf_0 : decode cX7_costOf 0 = .ok (.aload_n 0, 1) := by decide +kernel
theorem dX7_costOf_1 : decode cX7_costOf 1 = .ok (.iload_n 1, 1) := by decide +kernel
theorem dX7_costOf_2 : decode cX7_costOf 2 = .ok (.iconst 4, 1) := by decide +kernel
theorem dX7_costOf_3 : decode cX7_costOf 3 = .ok (.invokevirtual 90, 3) := by decide +kernel
theorem dX7_costOf_6 : decode cX7_costOf 6 = .ok (.iconst 1, 1) := by decide +kernel
theorem dX7_costOf_7 : decode cX7_costOf 7 = .ok (.if_icmp .ne 7, 3) := by decide +kernel
theorem dX7_costOf_10 : decode cX7_costOf 10 = .ok (.iconst 0, 1) := by decide +kernel
theorem dX7_costOf_11 : decode cX7_costOf 11 = .ok (.goto 14, 3) := by decide +kernel
theorem dX7_costOf_14 : decode cX7_costOf 14 = .ok (.aload_n 0, 1) := by decide +kernel
theorem dX7_costOf_15 : decode cX7_costOf 15 = .ok (.aload_n 0, 1) := by decide +kernel
theorem dX7_costOf_16 : decode cX7_costOf 16 = .ok (.iload_n 1, 1) := by decide +kernel
theorem dX7_costOf_17 : decode cX7_costOf 17 = .ok (.iconst 2, 1) := by decide +kernel
theorem dX7_costOf_18 : decode cX7_costOf 18 = .ok (.invokevirtual 90, 3) := by decide +kernel
theorem dX7_costOf_21 : decode cX7_costOf 21 = .ok (.iconst 4, 1) := by decide +kernel
theorem dX7_costOf_22 : decode cX7_costOf 22 = .ok (.invokevirtual 81, 3) := by decide +kernel
theorem dX7_costOf_25 : decode cX7_costOf 25 = .ok (.ireturn, 1) := by decide +kernel
theorem dX7_pays_0 : decode cX7_pays 0 = .ok (.aload_n 0, 1) := by decide +kernel
theorem dX7_pays_1 : decode cX7_pays 1 = .ok (.iload_n 1, 1) := by decide +kernel
theorem dX7_pays_2 : decode cX7_pays 2 = .ok (.invokevirtual 135, 3) := by decide +kernel
theorem dX7_pays_5 : decode cX7_pays 5 = .ok (.istore_n 2, 1) := by decide +kernel
theorem dX7_pays_6 : decode cX7_pays 6 = .ok (.aload_n 0, 1) := by decide +kernel
theorem dX7_pays_7 : decode cX7_pays 7 = .ok (.getfield 7, 3) := by decide +kernel
theorem dX7_pays_10 : decode cX7_pays 10 = .ok (.iload_n 1, 1) := by decide +kernel
theorem dX7_pays_11 : decode cX7_pays 11 = .ok (.iconst 3, 1) := by decide +kernel
theorem dX7_pays_12 : decode cX7_pays 12 = .ok (.invokestatic 84, 3) := by decide +kernel
theorem dX7_pays_15 : decode cX7_pays 15 = .ok (.dup2, 1) := by decide +kernel
theorem dX7_pays_16 : decode cX7_pays 16 = .ok (.iaload, 1) := by decide +kernel
theorem dX7_pays_17 : decode cX7_pays 17 = .ok (.iload_n 2, 1) := by decide +kernel
theorem dX7_pays_18 : decode cX7_pays 18 = .ok (.isub, 1) := by decide +kernel
theorem dX7_pays_19 : decode cX7_pays 19 = .ok (.iastore, 1) := by decide +kernel
theorem dX7_pays_20 : decode cX7_pays 20 = .ok (.aload_n 0, 1) := by decide +kernel
theorem dX7_pays_21 : decode cX7_pays 21 = .ok (.getfield 7, 3) := by decide +kernel
theorem dX7_pays_24 : decode cX7_pays 24 = .ok (.aload_n 0, 1) := by decide +kernel
theorem dX7_pays_25 : decode cX7_pays 25 = .ok (.iload_n 1, 1) := by decide +kernel
theorem dX7_pays_26 : decode cX7_pays 26 = .ok (.iconst 2, 1) := by decide +kernel
theorem dX7_pays_27 : decode cX7_pays 27 = .ok (.invokevirtual 90, 3) := by decide +kernel
theorem dX7_pays_30 : decode cX7_pays 30 = .ok (.iconst 5, 1) := by decide +kernel
theorem dX7_pays_31 : decode cX7_pays 31 = .ok (.invokestatic 50, 3) := by decide +kernel
theorem dX7_pays_34 : decode cX7_pays 34 = .ok (.dup2, 1) := by decide +kernel
theorem dX7_pays_35 : decode cX7_pays 35 = .ok (.iaload, 1) := by decide +kernel
theorem dX7_pays_36 : decode cX7_pays 36 = .ok (.iload_n 2, 1) := by decide +kernel
theorem dX7_pays_37 : decode cX7_pays 37 = .ok (.iadd, 1) := by decide +kernel
theorem dX7_pays_38 : decode cX7_pays 38 = .ok (.iastore, 1) := by decide +kernel
theorem dX7_pays_39 : decode cX7_pays 39 = .ok (.return_, 1) := by decide +kernel
theorem dX7_letter_0 : decode cX7_letter 0 = .ok (.aload_n 0, 1) := by decide +kernel
theorem dX7_letter_1 : decode cX7_letter 1 = .ok (.iload_n 1, 1) := by decide +kernel
theorem dX7_letter_2 : decode cX7_letter 2 = .ok (.iconst 3, 1) := by decide +kernel
theorem dX7_letter_3 : decode cX7_letter 3 = .ok (.invokevirtual 90, 3) := by decide +kernel
theorem dX7_letter_6 : decode cX7_letter 6 = .ok (.aload_n 0, 1) := by decide +kernel
theorem dX7_letter_7 : decode cX7_letter 7 = .ok (.iload_n 1, 1) := by decide +kernel
theorem dX7_letter_8 : decode cX7_letter 8 = .ok (.invokevirtual 135, 3) := by decide +kernel
theorem dX7_letter_11 : decode cX7_letter 11 = .ok (.if_icmp .lt 17, 3) := by decide +kernel
theorem dX7_letter_14 : decode cX7_letter 14 = .ok (.aload_n 0, 1) := by decide +kernel
theorem dX7_letter_15 : decode cX7_letter 15 = .ok (.iload_n 2, 1) := by decide +kernel
theorem dX7_letter_16 : decode cX7_letter 16 = .ok (.iconst 3, 1) := by decide +kernel
theorem dX7_letter_17 : decode cX7_letter 17 = .ok (.invokevirtual 90, 3) := by decide +kernel
theorem dX7_letter_20 : decode cX7_letter 20 = .ok (.aload_n 0, 1) := by decide +kernel
theorem dX7_letter_21 : decode cX7_letter 21 = .ok (.iload_n 2, 1) := by decide +kernel
theorem dX7_letter_22 : decode cX7_letter 22 = .ok (.invokevirtual 135, 3) := by decide +kernel
theorem dX7_letter_25 : decode cX7_letter 25 = .ok (.if_icmp .ge 5, 3) := by decide +kernel
theorem dX7_letter_28 : decode cX7_letter 28 = .ok (.iconst (-1), 1) := by decide +kernel
theorem dX7_letter_29 : decode cX7_letter 29 = .ok (.ireturn, 1) := by decide +kernel
theorem dX7_letter_30 : decode cX7_letter 30 = .ok (.aload_n 0, 1) := by decide +kernel
theorem dX7_letter_31 : decode cX7_letter 31 = .ok (.iload_n 2, 1) := by decide +kernel
theorem dX7_letter_32 : decode cX7_letter 32 = .ok (.aload_n 0, 1) := by decide +kernel
theorem dX7_letter_33 : decode cX7_letter 33 = .ok (.iload_n 1, 1) := by decide +kernel
theorem dX7_letter_34 : decode cX7_letter 34 = .ok (.iload_n 3, 1) := by decide +kernel
theorem dX7_letter_35 : decode cX7_letter 35 = .ok (.invokevirtual 132, 3) := by decide +kernel
theorem dX7_letter_38 : decode cX7_letter 38 = .ok (.invokevirtual 132, 3) := by decide +kernel
theorem dX7_letter_41 : decode cX7_letter 41 = .ok (.istore 4, 2) := by decide +kernel
theorem dX7_letter_43 : decode cX7_letter 43 = .ok (.aload_n 0, 1) := by decide +kernel
theorem dX7_letter_44 : decode cX7_letter 44 = .ok (.getfield 7, 3) := by decide +kernel
theorem dX7_letter_47 : decode cX7_letter 47 = .ok (.iload_n 2, 1) := by decide +kernel
theorem dX7_letter_48 : decode cX7_letter 48 = .ok (.iconst 1, 1) := by decide +kernel
theorem dX7_letter_49 : decode cX7_letter 49 = .ok (.invokestatic 84, 3) := by decide +kernel
theorem dX7_letter_52 : decode cX7_letter 52 = .ok (.dup2, 1) := by decide +kernel
theorem dX7_letter_53 : decode cX7_letter 53 = .ok (.iaload, 1) := by decide +kernel
theorem dX7_letter_54 : decode cX7_letter 54 = .ok (.iload 4, 2) := by decide +kernel
theorem dX7_letter_56 : decode cX7_letter 56 = .ok (.ior, 1) := by decide +kernel
theorem dX7_letter_57 : decode cX7_letter 57 = .ok (.iastore, 1) := by decide +kernel
theorem dX7_letter_58 : decode cX7_letter 58 = .ok (.aload_n 0, 1) := by decide +kernel
theorem dX7_letter_59 : decode cX7_letter 59 = .ok (.iload_n 1, 1) := by decide +kernel
theorem dX7_letter_60 : decode cX7_letter 60 = .ok (.invokevirtual 138, 3) := by decide +kernel
theorem dX7_letter_63 : decode cX7_letter 63 = .ok (.aload_n 0, 1) := by decide +kernel
theorem dX7_letter_64 : decode cX7_letter 64 = .ok (.iload_n 2, 1) := by decide +kernel
theorem dX7_letter_65 : decode cX7_letter 65 = .ok (.invokevirtual 138, 3) := by decide +kernel
theorem dX7_letter_68 : decode cX7_letter 68 = .ok (.aload_n 0, 1) := by decide +kernel
theorem dX7_letter_69 : decode cX7_letter 69 = .ok (.dup, 1) := by decide +kernel
theorem dX7_letter_70 : decode cX7_letter 70 = .ok (.getfield 142, 3) := by decide +kernel
theorem dX7_letter_73 : decode cX7_letter 73 = .ok (.iconst 2, 1) := by decide +kernel
theorem dX7_letter_74 : decode cX7_letter 74 = .ok (.aload_n 0, 1) := by decide +kernel
theorem dX7_letter_75 : decode cX7_letter 75 = .ok (.iload_n 1, 1) := by decide +kernel
theorem dX7_letter_76 : decode cX7_letter 76 = .ok (.iconst 4, 1) := by decide +kernel
theorem dX7_letter_77 : decode cX7_letter 77 = .ok (.invokevirtual 90, 3) := by decide +kernel
theorem dX7_letter_80 : decode cX7_letter 80 = .ok (.isub, 1) := by decide +kernel
theorem dX7_letter_81 : decode cX7_letter 81 = .ok (.aload_n 0, 1) := by decide +kernel
theorem dX7_letter_82 : decode cX7_letter 82 = .ok (.iload_n 2, 1) := by decide +kernel
theorem dX7_letter_83 : decode cX7_letter 83 = .ok (.iconst 4, 1) := by decide +kernel
theorem dX7_letter_84 : decode cX7_letter 84 = .ok (.invokevirtual 90, 3) := by decide +kernel
theorem dX7_letter_87 : decode cX7_letter 87 = .ok (.isub, 1) := by decide +kernel
theorem dX7_letter_88 : decode cX7_letter 88 = .ok (.iadd, 1) := by decide +kernel
theorem dX7_letter_89 : decode cX7_letter 89 = .ok (.putfield 142, 3) := by decide +kernel
theorem dX7_letter_92 : decode cX7_letter 92 = .ok (.aload_n 0, 1) := by decide +kernel
theorem dX7_letter_93 : decode cX7_letter 93 = .ok (.getfield 7, 3) := by decide +kernel
theorem dX7_letter_96 : decode cX7_letter 96 = .ok (.iconst 4, 1) := by decide +kernel
theorem dX7_letter_97 : decode cX7_letter 97 = .ok (.dup2, 1) := by decide +kernel
theorem dX7_letter_98 : decode cX7_letter 98 = .ok (.iaload, 1) := by decide +kernel
theorem dX7_letter_99 : decode cX7_letter 99 = .ok (.iconst 1, 1) := by decide +kernel
theorem dX7_letter_100 : decode cX7_letter 100 = .ok (.iadd, 1) := by decide +kernel
theorem dX7_letter_101 : decode cX7_letter 101 = .ok (.iastore, 1) := by decide +kernel
theorem dX7_letter_102 : decode cX7_letter 102 = .ok (.iload 4, 2) := by decide +kernel
theorem dX7_letter_104 : decode cX7_letter 104 = .ok (.ireturn, 1) := by decide +kernel
theorem dX7_send_0 : decode cX7_send 0 = .ok (.aload_n 0, 1) := by decide +kernel
theorem dX7_send_1 : decode cX7_send 1 = .ok (.iload_n 1, 1) := by decide +kernel
theorem dX7_send_2 : decode cX7_send 2 = .ok (.iload_n 2, 1) := by decide +kernel
theorem dX7_send_3 : decode cX7_send 3 = .ok (.invokevirtual 107, 3) := by decide +kernel
theorem dX7_send_6 : decode cX7_send 6 = .ok (.ifCond .eq 10, 3) := by decide +kernel
theorem dX7_send_9 : decode cX7_send 9 = .ok (.iload_n 3, 1) := by decide +kernel
theorem dX7_send_10 : decode cX7_send 10 = .ok (.invokestatic 60, 3) := by decide +kernel
theorem dX7_send_13 : decode cX7_send 13 = .ok (.ifCond .ne 10, 3) := by decide +kernel
theorem dX7_send_16 : decode cX7_send 16 = .ok (.aload_n 0, 1) := by decide +kernel
theorem dX7_send_17 : decode cX7_send 17 = .ok (.ldc 40, 2) := by decide +kernel
theorem dX7_send_19 : decode cX7_send 19 = .ok (.invokevirtual 68, 3) := by decide +kernel
theorem dX7_send_22 : decode cX7_send 22 = .ok (.ireturn, 1) := by decide +kernel
theorem dX7_send_23 : decode cX7_send 23 = .ok (.aload_n 0, 1) := by decide +kernel
theorem dX7_send_24 : decode cX7_send 24 = .ok (.iload_n 1, 1) := by decide +kernel
theorem dX7_send_25 : decode cX7_send 25 = .ok (.iload_n 2, 1) := by decide +kernel
theorem dX7_send_26 : decode cX7_send 26 = .ok (.iload_n 3, 1) := by decide +kernel
theorem dX7_send_27 : decode cX7_send 27 = .ok (.invokevirtual 146, 3) := by decide +kernel
theorem dX7_send_30 : decode cX7_send 30 = .ok (.istore 4, 2) := by decide +kernel
theorem dX7_send_32 : decode cX7_send 32 = .ok (.iload 4, 2) := by decide +kernel
theorem dX7_send_34 : decode cX7_send 34 = .ok (.ifCond .ge 12, 3) := by decide +kernel
theorem dX7_send_37 : decode cX7_send 37 = .ok (.aload_n 0, 1) := by decide +kernel
theorem dX7_send_38 : decode cX7_send 38 = .ok (.ldc 150, 2) := by decide +kernel
theorem dX7_send_40 : decode cX7_send 40 = .ok (.invokevirtual 68, 3) := by decide +kernel
theorem dX7_send_43 : decode cX7_send 43 = .ok (.goto 5, 3) := by decide +kernel
theorem dX7_send_46 : decode cX7_send 46 = .ok (.iload 4, 2) := by decide +kernel
theorem dX7_send_48 : decode cX7_send 48 = .ok (.ireturn, 1) := by decide +kernel
theorem dX7_year_0 : decode cX7_year 0 = .ok (.iconst 0, 1) := by decide +kernel
theorem dX7_year_1 : decode cX7_year 1 = .ok (.istore_n 1, 1) := by decide +kernel
theorem dX7_year_2 : decode cX7_year 2 = .ok (.iload_n 1, 1) := by decide +kernel
theorem dX7_year_3 : decode cX7_year 3 = .ok (.aload_n 0, 1) := by decide +kernel
theorem dX7_year_4 : decode cX7_year 4 = .ok (.getfield 7, 3) := by decide +kernel
theorem dX7_year_7 : decode cX7_year 7 = .ok (.iconst 1, 1) := by decide +kernel
theorem dX7_year_8 : decode cX7_year 8 = .ok (.iaload, 1) := by decide +kernel
theorem dX7_year_9 : decode cX7_year 9 = .ok (.if_icmp .ge 70, 3) := by decide +kernel
theorem dX7_year_12 : decode cX7_year 12 = .ok (.iload_n 1, 1) := by decide +kernel
theorem dX7_year_13 : decode cX7_year 13 = .ok (.iconst 1, 1) := by decide +kernel
theorem dX7_year_14 : decode cX7_year 14 = .ok (.iadd, 1) := by decide +kernel
theorem dX7_year_15 : decode cX7_year 15 = .ok (.istore_n 2, 1) := by decide +kernel
theorem dX7_year_16 : decode cX7_year 16 = .ok (.iload_n 2, 1) := by decide +kernel
theorem dX7_year_17 : decode cX7_year 17 = .ok (.aload_n 0, 1) := by decide +kernel
theorem dX7_year_18 : decode cX7_year 18 = .ok (.getfield 7, 3) := by decide +kernel
theorem dX7_year_21 : decode cX7_year 21 = .ok (.iconst 1, 1) := by decide +kernel
theorem dX7_year_22 : decode cX7_year 22 = .ok (.iaload, 1) := by decide +kernel
theorem dX7_year_23 : decode cX7_year 23 = .ok (.if_icmp .ge 50, 3) := by decide +kernel
theorem dX7_year_26 : decode cX7_year 26 = .ok (.aload_n 0, 1) := by decide +kernel
theorem dX7_year_27 : decode cX7_year 27 = .ok (.getfield 7, 3) := by decide +kernel
theorem dX7_year_30 : decode cX7_year 30 = .ok (.bipush 81, 2) := by decide +kernel
theorem dX7_year_32 : decode cX7_year 32 = .ok (.iload_n 1, 1) := by decide +kernel
theorem dX7_year_33 : decode cX7_year 33 = .ok (.iadd, 1) := by decide +kernel
theorem dX7_year_34 : decode cX7_year 34 = .ok (.iaload, 1) := by decide +kernel
theorem dX7_year_35 : decode cX7_year 35 = .ok (.iload_n 2, 1) := by decide +kernel
theorem dX7_year_36 : decode cX7_year 36 = .ok (.invokestatic 110, 3) := by decide +kernel
theorem dX7_year_39 : decode cX7_year 39 = .ok (.ifCond .eq 28, 3) := by decide +kernel
theorem dX7_year_42 : decode cX7_year 42 = .ok (.aload_n 0, 1) := by decide +kernel
theorem dX7_year_43 : decode cX7_year 43 = .ok (.iload_n 1, 1) := by decide +kernel
theorem dX7_year_44 : decode cX7_year 44 = .ok (.iload_n 2, 1) := by decide +kernel
theorem dX7_year_45 : decode cX7_year 45 = .ok (.aload_n 0, 1) := by decide +kernel
theorem dX7_year_46 : decode cX7_year 46 = .ok (.iload_n 1, 1) := by decide +kernel
theorem dX7_year_47 : decode cX7_year 47 = .ok (.invokevirtual 129, 3) := by decide +kernel
theorem dX7_year_50 : decode cX7_year 50 = .ok (.invokevirtual 146, 3) := by decide +kernel
theorem dX7_year_53 : decode cX7_year 53 = .ok (.istore_n 3, 1) := by decide +kernel
theorem dX7_year_54 : decode cX7_year 54 = .ok (.aload_n 0, 1) := by decide +kernel
theorem dX7_year_55 : decode cX7_year 55 = .ok (.iload_n 2, 1) := by decide +kernel
theorem dX7_year_56 : decode cX7_year 56 = .ok (.iload_n 1, 1) := by decide +kernel
theorem dX7_year_57 : decode cX7_year 57 = .ok (.aload_n 0, 1) := by decide +kernel
theorem dX7_year_58 : decode cX7_year 58 = .ok (.iload_n 2, 1) := by decide +kernel
theorem dX7_year_59 : decode cX7_year 59 = .ok (.invokevirtual 129, 3) := by decide +kernel
theorem dX7_year_62 : decode cX7_year 62 = .ok (.invokevirtual 146, 3) := by decide +kernel
theorem dX7_year_65 : decode cX7_year 65 = .ok (.istore 4, 2) := by decide +kernel
theorem dX7_year_67 : decode cX7_year 67 = .ok (.iinc 2 1, 3) := by decide +kernel
theorem dX7_year_70 : decode cX7_year 70 = .ok (.goto (-54), 3) := by decide +kernel
theorem dX7_year_73 : decode cX7_year 73 = .ok (.iinc 1 1, 3) := by decide +kernel
theorem dX7_year_76 : decode cX7_year 76 = .ok (.goto (-74), 3) := by decide +kernel
theorem dX7_year_79 : decode cX7_year 79 = .ok (.aload_n 0, 1) := by decide +kernel
theorem dX7_year_80 : decode cX7_year 80 = .ok (.getfield 7, 3) := by decide +kernel
theorem dX7_year_83 : decode cX7_year 83 = .ok (.iconst 3, 1) := by decide +kernel
theorem dX7_year_84 : decode cX7_year 84 = .ok (.dup2, 1) := by decide +kernel
theorem dX7_year_85 : decode cX7_year 85 = .ok (.iaload, 1) := by decide +kernel
theorem dX7_year_86 : decode cX7_year 86 = .ok (.iconst 1, 1) := by decide +kernel
theorem dX7_year_87 : decode cX7_year 87 = .ok (.iadd, 1) := by decide +kernel
theorem dX7_year_88 : decode cX7_year 88 = .ok (.iastore, 1) := by decide +kernel
theorem dX7_year_89 : decode cX7_year 89 = .ok (.return_, 1) := by decide +kernel
theorem dX7_yearsGo_0 : decode cX7_yearsGo 0 = .ok (.aload_n 0, 1) := by decide +kernel
theorem dX7_yearsGo_1 : decode cX7_yearsGo 1 = .ok (.getfield 7, 3) := by decide +kernel
theorem dX7_yearsGo_4 : decode cX7_yearsGo 4 = .ok (.iconst 4, 1) := by decide +kernel
theorem dX7_yearsGo_5 : decode cX7_yearsGo 5 = .ok (.iaload, 1) := by decide +kernel
theorem dX7_yearsGo_6 : decode cX7_yearsGo 6 = .ok (.istore_n 2, 1) := by decide +kernel
theorem dX7_yearsGo_7 : decode cX7_yearsGo 7 = .ok (.iconst 0, 1) := by decide +kernel
theorem dX7_yearsGo_8 : decode cX7_yearsGo 8 = .ok (.istore_n 3, 1) := by decide +kernel
theorem dX7_yearsGo_9 : decode cX7_yearsGo 9 = .ok (.iload_n 3, 1) := by decide +kernel
theorem dX7_yearsGo_10 : decode cX7_yearsGo 10 = .ok (.iload_n 1, 1) := by decide +kernel
theorem dX7_yearsGo_11 : decode cX7_yearsGo 11 = .ok (.if_icmp .ge 13, 3) := by decide +kernel
theorem dX7_yearsGo_14 : decode cX7_yearsGo 14 = .ok (.aload_n 0, 1) := by decide +kernel
theorem dX7_yearsGo_15 : decode cX7_yearsGo 15 = .ok (.invokevirtual 151, 3) := by decide +kernel
theorem dX7_yearsGo_18 : decode cX7_yearsGo 18 = .ok (.iinc 3 1, 3) := by decide +kernel
theorem dX7_yearsGo_21 : decode cX7_yearsGo 21 = .ok (.goto (-12), 3) := by decide +kernel
theorem dX7_yearsGo_24 : decode cX7_yearsGo 24 = .ok (.aload_n 0, 1) := by decide +kernel
theorem dX7_yearsGo_25 : decode cX7_yearsGo 25 = .ok (.getfield 7, 3) := by decide +kernel
theorem dX7_yearsGo_28 : decode cX7_yearsGo 28 = .ok (.iconst 4, 1) := by decide +kernel
theorem dX7_yearsGo_29 : decode cX7_yearsGo 29 = .ok (.iaload, 1) := by decide +kernel
theorem dX7_yearsGo_30 : decode cX7_yearsGo 30 = .ok (.iload_n 2, 1) := by decide +kernel
theorem dX7_yearsGo_31 : decode cX7_yearsGo 31 = .ok (.isub, 1) := by decide +kernel
theorem dX7_yearsGo_32 : decode cX7_yearsGo 32 = .ok (.ireturn, 1) := by decide +kernel
theorem dX7_isTooLate_0 : decode cX7_isTooLate 0 = .ok (.aload_n 0, 1) := by decide +kernel
theorem dX7_isTooLate_1 : decode cX7_isTooLate 1 = .ok (.getfield 7, 3) := by decide +kernel
theorem dX7_isTooLate_4 : decode cX7_isTooLate 4 = .ok (.iconst 3, 1) := by decide +kernel
theorem dX7_isTooLate_5 : decode cX7_isTooLate 5 = .ok (.iaload, 1) := by decide +kernel
theorem dX7_isTooLate_6 : decode cX7_isTooLate 6 = .ok (.iload_n 1, 1) := by decide +kernel
theorem dX7_isTooLate_7 : decode cX7_isTooLate 7 = .ok (.iadd, 1) := by decide +kernel
theorem dX7_isTooLate_8 : decode cX7_isTooLate 8 = .ok (.sipush 999, 3) := by decide +kernel
theorem dX7_isTooLate_11 : decode cX7_isTooLate 11 = .ok (.if_icmp .le 7, 3) := by decide +kernel
theorem dX7_isTooLate_14 : decode cX7_isTooLate 14 = .ok (.iconst 1, 1) := by decide +kernel
theorem dX7_isTooLate_15 : decode cX7_isTooLate 15 = .ok (.goto 4, 3) := by decide +kernel
theorem dX7_isTooLate_18 : decode cX7_isTooLate 18 = .ok (.iconst 0, 1) := by decide +kernel
theorem dX7_isTooLate_19 : decode cX7_isTooLate 19 = .ok (.ireturn, 1) := by decide +kernel
theorem dX7_years_0 : decode cX7_years 0 = .ok (.iload_n 1, 1) := by decide +kernel
theorem dX7_years_1 : decode cX7_years 1 = .ok (.i2l, 1) := by decide +kernel
theorem dX7_years_2 : decode cX7_years 2 = .ok (.lconst 1, 1) := by decide +kernel
theorem dX7_years_3 : decode cX7_years 3 = .ok (.ldc2_w 154, 3) := by decide +kernel
theorem dX7_years_6 : decode cX7_years 6 = .ok (.invokestatic 43, 3) := by decide +kernel
theorem dX7_years_9 : decode cX7_years 9 = .ok (.ifCond .ne 10, 3) := by decide +kernel
theorem dX7_years_12 : decode cX7_years 12 = .ok (.aload_n 0, 1) := by decide +kernel
theorem dX7_years_13 : decode cX7_years 13 = .ok (.ldc 40, 2) := by decide +kernel
theorem dX7_years_15 : decode cX7_years 15 = .ok (.invokevirtual 68, 3) := by decide +kernel
theorem dX7_years_18 : decode cX7_years 18 = .ok (.ireturn, 1) := by decide +kernel
theorem dX7_years_19 : decode cX7_years 19 = .ok (.aload_n 0, 1) := by decide +kernel
theorem dX7_years_20 : decode cX7_years 20 = .ok (.iload_n 1, 1) := by decide +kernel
theorem dX7_years_21 : decode cX7_years 21 = .ok (.invokevirtual 156, 3) := by decide +kernel
theorem dX7_years_24 : decode cX7_years 24 = .ok (.ifCond .eq 12, 3) := by decide +kernel
theorem dX7_years_27 : decode cX7_years 27 = .ok (.aload_n 0, 1) := by decide +kernel
theorem dX7_years_28 : decode cX7_years 28 = .ok (.ldc 150, 2) := by decide +kernel
theorem dX7_years_30 : decode cX7_years 30 = .ok (.invokevirtual 68, 3) := by decide +kernel
theorem dX7_years_33 : decode cX7_years 33 = .ok (.goto 8, 3) := by decide +kernel
theorem dX7_years_36 : decode cX7_years 36 = .ok (.aload_n 0, 1) := by decide +kernel
theorem dX7_years_37 : decode cX7_years 37 = .ok (.iload_n 1, 1) := by decide +kernel
theorem dX7_years_38 : decode cX7_years 38 = .ok (.invokevirtual 159, 3) := by decide +kernel
theorem dX7_years_41 : decode cX7_years 41 = .ok (.ireturn, 1) := by decide +kernel
theorem dX7_money_0 : decode cX7_money 0 = .ok (.iconst 0, 1) := by decide +kernel
theorem dX7_money_1 : decode cX7_money 1 = .ok (.istore_n 1, 1) := by decide +kernel
theorem dX7_money_2 : decode cX7_money 2 = .ok (.iconst 0, 1) := by decide +kernel
theorem dX7_money_3 : decode cX7_money 3 = .ok (.istore_n 2, 1) := by decide +kernel
theorem dX7_money_4 : decode cX7_money 4 = .ok (.iload_n 2, 1) := by decide +kernel
theorem dX7_money_5 : decode cX7_money 5 = .ok (.aload_n 0, 1) := by decide +kernel
theorem dX7_money_6 : decode cX7_money 6 = .ok (.getfield 7, 3) := by decide +kernel
theorem dX7_money_9 : decode cX7_money 9 = .ok (.iconst 1, 1) := by decide +kernel
theorem dX7_money_10 : decode cX7_money 10 = .ok (.iaload, 1) := by decide +kernel
theorem dX7_money_11 : decode cX7_money 11 = .ok (.if_icmp .ge 18, 3) := by decide +kernel
theorem dX7_money_14 : decode cX7_money 14 = .ok (.iload_n 1, 1) := by decide +kernel
theorem dX7_money_15 : decode cX7_money 15 = .ok (.aload_n 0, 1) := by decide +kernel
theorem dX7_money_16 : decode cX7_money 16 = .ok (.iload_n 2, 1) := by decide +kernel
theorem dX7_money_17 : decode cX7_money 17 = .ok (.iconst 3, 1) := by decide +kernel
theorem dX7_money_18 : decode cX7_money 18 = .ok (.invokevirtual 90, 3) := by decide +kernel
theorem dX7_money_21 : decode cX7_money 21 = .ok (.iadd, 1) := by decide +kernel
theorem dX7_money_22 : decode cX7_money 22 = .ok (.istore_n 1, 1) := by decide +kernel
theorem dX7_money_23 : decode cX7_money 23 = .ok (.iinc 2 1, 3) := by decide +kernel
theorem dX7_money_26 : decode cX7_money 26 = .ok (.goto (-22), 3) := by decide +kernel
theorem dX7_money_29 : decode cX7_money 29 = .ok (.iconst 0, 1) := by decide +kernel
theorem dX7_money_30 : decode cX7_money 30 = .ok (.istore_n 2, 1) := by decide +kernel
theorem dX7_money_31 : decode cX7_money 31 = .ok (.iload_n 2, 1) := by decide +kernel
theorem dX7_money_32 : decode cX7_money 32 = .ok (.aload_n 0, 1) := by decide +kernel
theorem dX7_money_33 : decode cX7_money 33 = .ok (.getfield 7, 3) := by decide +kernel
theorem dX7_money_36 : decode cX7_money 36 = .ok (.iconst 0, 1) := by decide +kernel
theorem dX7_money_37 : decode cX7_money 37 = .ok (.iaload, 1) := by decide +kernel
theorem dX7_money_38 : decode cX7_money 38 = .ok (.if_icmp .ge 18, 3) := by decide +kernel
theorem dX7_money_41 : decode cX7_money 41 = .ok (.iload_n 1, 1) := by decide +kernel
theorem dX7_money_42 : decode cX7_money 42 = .ok (.aload_n 0, 1) := by decide +kernel
theorem dX7_money_43 : decode cX7_money 43 = .ok (.iload_n 2, 1) := by decide +kernel
theorem dX7_money_44 : decode cX7_money 44 = .ok (.iconst 5, 1) := by decide +kernel
theorem dX7_money_45 : decode cX7_money 45 = .ok (.invokevirtual 81, 3) := by decide +kernel
theorem dX7_money_48 : decode cX7_money 48 = .ok (.iadd, 1) := by decide +kernel
theorem dX7_money_49 : decode cX7_money 49 = .ok (.istore_n 1, 1) := by decide +kernel
theorem dX7_money_50 : decode cX7_money 50 = .ok (.iinc 2 1, 3) := by decide +kernel
theorem dX7_money_53 : decode cX7_money 53 = .ok (.goto (-22), 3) := by decide +kernel
theorem dX7_money_56 : decode cX7_money 56 = .ok (.iload_n 1, 1) := by decide +kernel
theorem dX7_money_57 : decode cX7_money 57 = .ok (.ireturn, 1) := by decide +kernel
theorem dX7_tieMany_0 : decode cX7_tieMany 0 = .ok (.iconst 0, 1) := by decide +kernel
theorem dX7_tieMany_1 : decode cX7_tieMany 1 = .ok (.istore_n 1, 1) := by decide +kernel
theorem dX7_tieMany_2 : decode cX7_tieMany 2 = .ok (.iconst 0, 1) := by decide +kernel
theorem dX7_tieMany_3 : decode cX7_tieMany 3 = .ok (.istore_n 2, 1) := by decide +kernel
theorem dX7_tieMany_4 : decode cX7_tieMany 4 = .ok (.iload_n 2, 1) := by decide +kernel
theorem dX7_tieMany_5 : decode cX7_tieMany 5 = .ok (.aload_n 0, 1) := by decide +kernel
theorem dX7_tieMany_6 : decode cX7_tieMany 6 = .ok (.getfield 7, 3) := by decide +kernel
theorem dX7_tieMany_9 : decode cX7_tieMany 9 = .ok (.iconst 1, 1) := by decide +kernel
theorem dX7_tieMany_10 : decode cX7_tieMany 10 = .ok (.iaload, 1) := by decide +kernel
theorem dX7_tieMany_11 : decode cX7_tieMany 11 = .ok (.if_icmp .ge 24, 3) := by decide +kernel
theorem dX7_tieMany_14 : decode cX7_tieMany 14 = .ok (.iload_n 1, 1) := by decide +kernel
theorem dX7_tieMany_15 : decode cX7_tieMany 15 = .ok (.aload_n 0, 1) := by decide +kernel
theorem dX7_tieMany_16 : decode cX7_tieMany 16 = .ok (.getfield 7, 3) := by decide +kernel
theorem dX7_tieMany_19 : decode cX7_tieMany 19 = .ok (.bipush 81, 2) := by decide +kernel
theorem dX7_tieMany_21 : decode cX7_tieMany 21 = .ok (.iload_n 2, 1) := by decide +kernel
theorem dX7_tieMany_22 : decode cX7_tieMany 22 = .ok (.iadd, 1) := by decide +kernel
theorem dX7_tieMany_23 : decode cX7_tieMany 23 = .ok (.iaload, 1) := by decide +kernel
theorem dX7_tieMany_24 : decode cX7_tieMany 24 = .ok (.invokestatic 162, 3) := by decide +kernel
theorem dX7_tieMany_27 : decode cX7_tieMany 27 = .ok (.iadd, 1) := by decide +kernel
theorem dX7_tieMany_28 : decode cX7_tieMany 28 = .ok (.istore_n 1, 1) := by decide +kernel
theorem dX7_tieMany_29 : decode cX7_tieMany 29 = .ok (.iinc 2 1, 3) := by decide +kernel
theorem dX7_tieMany_32 : decode cX7_tieMany 32 = .ok (.goto (-28), 3) := by decide +kernel
theorem dX7_tieMany_35 : decode cX7_tieMany 35 = .ok (.iload_n 1, 1) := by decide +kernel
theorem dX7_tieMany_36 : decode cX7_tieMany 36 = .ok (.iconst 2, 1) := by decide +kernel
theorem dX7_tieMany_37 : decode cX7_tieMany 37 = .ok (.idiv, 1) := by decide +kernel
theorem dX7_tieMany_38 : decode cX7_tieMany 38 = .ok (.ireturn, 1) := by decide +kernel
theorem dX7_now_0 : decode cX7_now 0 = .ok (.iload_n 1, 1) := by decide +kernel
theorem dX7_now_1 : decode cX7_now 1 = .ok (.tableswitch 75 0 5 #[39, 46, 53, 58, 64, 70], 39) := by decide +kernel
theorem dX7_now_40 : decode cX7_now 40 = .ok (.aload_n 0, 1) := by decide +kernel
theorem dX7_now_41 : decode cX7_now 41 = .ok (.getfield 7, 3) := by decide +kernel
theorem dX7_now_44 : decode cX7_now 44 = .ok (.iconst 3, 1) := by decide +kernel
theorem dX7_now_45 : decode cX7_now 45 = .ok (.iaload, 1) := by decide +kernel
theorem dX7_now_46 : decode cX7_now 46 = .ok (.ireturn, 1) := by decide +kernel
theorem dX7_now_47 : decode cX7_now 47 = .ok (.aload_n 0, 1) := by decide +kernel
theorem dX7_now_48 : decode cX7_now 48 = .ok (.getfield 7, 3) := by decide +kernel
theorem dX7_now_51 : decode cX7_now 51 = .ok (.iconst 4, 1) := by decide +kernel
theorem dX7_now_52 : decode cX7_now 52 = .ok (.iaload, 1) := by decide +kernel
theorem dX7_now_53 : decode cX7_now 53 = .ok (.ireturn, 1) := by decide +kernel
theorem dX7_now_54 : decode cX7_now 54 = .ok (.aload_n 0, 1) := by decide +kernel
theorem dX7_now_55 : decode cX7_now 55 = .ok (.invokevirtual 165, 3) := by decide +kernel
theorem dX7_now_58 : decode cX7_now 58 = .ok (.ireturn, 1) := by decide +kernel
theorem dX7_now_59 : decode cX7_now 59 = .ok (.aload_n 0, 1) := by decide +kernel
theorem dX7_now_60 : decode cX7_now 60 = .ok (.iconst 0, 1) := by decide +kernel
theorem dX7_now_61 : decode cX7_now 61 = .ok (.invokevirtual 93, 3) := by decide +kernel
theorem dX7_now_64 : decode cX7_now 64 = .ok (.ireturn, 1) := by decide +kernel
theorem dX7_now_65 : decode cX7_now 65 = .ok (.aload_n 0, 1) := by decide +kernel
theorem dX7_now_66 : decode cX7_now 66 = .ok (.iconst 1, 1) := by decide +kernel
theorem dX7_now_67 : decode cX7_now 67 = .ok (.invokevirtual 93, 3) := by decide +kernel
theorem dX7_now_70 : decode cX7_now 70 = .ok (.ireturn, 1) := by decide +kernel
theorem dX7_now_71 : decode cX7_now 71 = .ok (.aload_n 0, 1) := by decide +kernel
theorem dX7_now_72 : decode cX7_now 72 = .ok (.invokevirtual 169, 3) := by decide +kernel
theorem dX7_now_75 : decode cX7_now 75 = .ok (.ireturn, 1) := by decide +kernel
theorem dX7_now_76 : decode cX7_now 76 = .ok (.aload_n 0, 1) := by decide +kernel
theorem dX7_now_77 : decode cX7_now 77 = .ok (.ldc 40, 2) := by decide +kernel
theorem dX7_now_79 : decode cX7_now 79 = .ok (.invokevirtual 68, 3) := by decide +kernel
theorem dX7_now_82 : decode cX7_now 82 = .ok (.ireturn, 1) := by decide +kernel
theorem dX7_whoBelieves_0 : decode cX7_whoBelieves 0 = .ok (.iconst 0, 1) := by decide +kernel
theorem dX7_whoBelieves_1 : decode cX7_whoBelieves 1 = .ok (.istore_n 2, 1) := by decide +kernel
theorem dX7_whoBelieves_2 : decode cX7_whoBelieves 2 = .ok (.iconst 0, 1) := by decide +kernel
theorem dX7_whoBelieves_3 : decode cX7_whoBelieves 3 = .ok (.istore_n 3, 1) := by decide +kernel
theorem dX7_whoBelieves_4 : decode cX7_whoBelieves 4 = .ok (.iload_n 3, 1) := by decide +kernel
theorem dX7_whoBelieves_5 : decode cX7_whoBelieves 5 = .ok (.aload_n 0, 1) := by decide +kernel
theorem dX7_whoBelieves_6 : decode cX7_whoBelieves 6 = .ok (.getfield 7, 3) := by decide +kernel
theorem dX7_whoBelieves_9 : decode cX7_whoBelieves 9 = .ok (.iconst 1, 1) := by decide +kernel
theorem dX7_whoBelieves_10 : decode cX7_whoBelieves 10 = .ok (.iaload, 1) := by decide +kernel
theorem dX7_whoBelieves_11 : decode cX7_whoBelieves 11 = .ok (.if_icmp .ge 32, 3) := by decide +kernel
theorem dX7_whoBelieves_14 : decode cX7_whoBelieves 14 = .ok (.iload_n 2, 1) := by decide +kernel
theorem dX7_whoBelieves_15 : decode cX7_whoBelieves 15 = .ok (.aload_n 0, 1) := by decide +kernel
theorem dX7_whoBelieves_16 : decode cX7_whoBelieves 16 = .ok (.iload_n 3, 1) := by decide +kernel
theorem dX7_whoBelieves_17 : decode cX7_whoBelieves 17 = .ok (.iconst 1, 1) := by decide +kernel
theorem dX7_whoBelieves_18 : decode cX7_whoBelieves 18 = .ok (.invokevirtual 90, 3) := by decide +kernel
theorem dX7_whoBelieves_21 : decode cX7_whoBelieves 21 = .ok (.iload_n 1, 1) := by decide +kernel
theorem dX7_whoBelieves_22 : decode cX7_whoBelieves 22 = .ok (.invokestatic 110, 3) := by decide +kernel
theorem dX7_whoBelieves_25 : decode cX7_whoBelieves 25 = .ok (.ifCond .eq 9, 3) := by decide +kernel
theorem dX7_whoBelieves_28 : decode cX7_whoBelieves 28 = .ok (.iconst 1, 1) := by decide +kernel
theorem dX7_whoBelieves_29 : decode cX7_whoBelieves 29 = .ok (.iload_n 3, 1) := by decide +kernel
theorem dX7_whoBelieves_30 : decode cX7_whoBelieves 30 = .ok (.ishl, 1) := by decide +kernel
theorem dX7_whoBelieves_31 : decode cX7_whoBelieves 31 = .ok (.goto 4, 3) := by decide +kernel
theorem dX7_whoBelieves_34 : decode cX7_whoBelieves 34 = .ok (.iconst 0, 1) := by decide +kernel
theorem dX7_whoBelieves_35 : decode cX7_whoBelieves 35 = .ok (.ior, 1) := by decide +kernel
theorem dX7_whoBelieves_36 : decode cX7_whoBelieves 36 = .ok (.istore_n 2, 1) := by decide +kernel
theorem dX7_whoBelieves_37 : decode cX7_whoBelieves 37 = .ok (.iinc 3 1, 3) := by decide +kernel
theorem dX7_whoBelieves_40 : decode cX7_whoBelieves 40 = .ok (.goto (-36), 3) := by decide +kernel
theorem dX7_whoBelieves_43 : decode cX7_whoBelieves 43 = .ok (.iload_n 2, 1) := by decide +kernel
theorem dX7_whoBelieves_44 : decode cX7_whoBelieves 44 = .ok (.ireturn, 1) := by decide +kernel
theorem dX7_who_0 : decode cX7_who 0 = .ok (.iload_n 1, 1) := by decide +kernel
theorem dX7_who_1 : decode cX7_who 1 = .ok (.invokestatic 172, 3) := by decide +kernel
theorem dX7_who_4 : decode cX7_who 4 = .ok (.ifCond .eq 11, 3) := by decide +kernel
theorem dX7_who_7 : decode cX7_who 7 = .ok (.aload_n 0, 1) := by decide +kernel
theorem dX7_who_8 : decode cX7_who 8 = .ok (.iload_n 1, 1) := by decide +kernel
theorem dX7_who_9 : decode cX7_who 9 = .ok (.invokevirtual 175, 3) := by decide +kernel
theorem dX7_who_12 : decode cX7_who 12 = .ok (.goto 9, 3) := by decide +kernel
theorem dX7_who_15 : decode cX7_who 15 = .ok (.aload_n 0, 1) := by decide +kernel
theorem dX7_who_16 : decode cX7_who 16 = .ok (.ldc 40, 2) := by decide +kernel
theorem dX7_who_18 : decode cX7_who 18 = .ok (.invokevirtual 68, 3) := by decide +kernel
theorem dX7_who_21 : decode cX7_who 21 = .ok (.ireturn, 1) := by decide +kernel
theorem dX7_poor_0 : decode cX7_poor 0 = .ok (.iconst 0, 1) := by decide +kernel
theorem dX7_poor_1 : decode cX7_poor 1 = .ok (.istore_n 1, 1) := by decide +kernel
theorem dX7_poor_2 : decode cX7_poor 2 = .ok (.iconst 0, 1) := by decide +kernel
theorem dX7_poor_3 : decode cX7_poor 3 = .ok (.istore_n 2, 1) := by decide +kernel
theorem dX7_poor_4 : decode cX7_poor 4 = .ok (.iload_n 2, 1) := by decide +kernel
theorem dX7_poor_5 : decode cX7_poor 5 = .ok (.aload_n 0, 1) := by decide +kernel
theorem dX7_poor_6 : decode cX7_poor 6 = .ok (.getfield 7, 3) := by decide +kernel
theorem dX7_poor_9 : decode cX7_poor 9 = .ok (.iconst 1, 1) := by decide +kernel
theorem dX7_poor_10 : decode cX7_poor 10 = .ok (.iaload, 1) := by decide +kernel
theorem dX7_poor_11 : decode cX7_poor 11 = .ok (.if_icmp .ge 33, 3) := by decide +kernel
theorem dX7_poor_14 : decode cX7_poor 14 = .ok (.iload_n 1, 1) := by decide +kernel
theorem dX7_poor_15 : decode cX7_poor 15 = .ok (.aload_n 0, 1) := by decide +kernel
theorem dX7_poor_16 : decode cX7_poor 16 = .ok (.iload_n 2, 1) := by decide +kernel
theorem dX7_poor_17 : decode cX7_poor 17 = .ok (.iconst 3, 1) := by decide +kernel
theorem dX7_poor_18 : decode cX7_poor 18 = .ok (.invokevirtual 90, 3) := by decide +kernel
theorem dX7_poor_21 : decode cX7_poor 21 = .ok (.aload_n 0, 1) := by decide +kernel
theorem dX7_poor_22 : decode cX7_poor 22 = .ok (.iload_n 2, 1) := by decide +kernel
theorem dX7_poor_23 : decode cX7_poor 23 = .ok (.invokevirtual 135, 3) := by decide +kernel
theorem dX7_poor_26 : decode cX7_poor 26 = .ok (.if_icmp .ge 9, 3) := by decide +kernel
theorem dX7_poor_29 : decode cX7_poor 29 = .ok (.iconst 1, 1) := by decide +kernel
theorem dX7_poor_30 : decode cX7_poor 30 = .ok (.iload_n 2, 1) := by decide +kernel
theorem dX7_poor_31 : decode cX7_poor 31 = .ok (.ishl, 1) := by decide +kernel
theorem dX7_poor_32 : decode cX7_poor 32 = .ok (.goto 4, 3) := by decide +kernel
theorem dX7_poor_35 : decode cX7_poor 35 = .ok (.iconst 0, 1) := by decide +kernel
theorem dX7_poor_36 : decode cX7_poor 36 = .ok (.ior, 1) := by decide +kernel
theorem dX7_poor_37 : decode cX7_poor 37 = .ok (.istore_n 1, 1) := by decide +kernel
theorem dX7_poor_38 : decode cX7_poor 38 = .ok (.iinc 2 1, 3) := by decide +kernel
theorem dX7_poor_41 : decode cX7_poor 41 = .ok (.goto (-37), 3) := by decide +kernel
theorem dX7_poor_44 : decode cX7_poor 44 = .ok (.iload_n 1, 1) := by decide +kernel
theorem dX7_poor_45 : decode cX7_poor 45 = .ok (.ireturn, 1) := by decide +kernel
theorem dX7_everybody_0 : decode cX7_everybody 0 = .ok (.aload_n 0, 1) := by decide +kernel
theorem dX7_everybody_1 : decode cX7_everybody 1 = .ok (.getfield 7, 3) := by decide +kernel
theorem dX7_everybody_4 : decode cX7_everybody 4 = .ok (.iconst 1, 1) := by decide +kernel
theorem dX7_everybody_5 : decode cX7_everybody 5 = .ok (.iaload, 1) := by decide +kernel
theorem dX7_everybody_6 : decode cX7_everybody 6 = .ok (.ifCond .ne 7, 3) := by decide +kernel
theorem dX7_everybody_9 : decode cX7_everybody 9 = .ok (.iconst 0, 1) := by decide +kernel
theorem dX7_everybody_10 : decode cX7_everybody 10 = .ok (.goto 6, 3) := by decide +kernel
theorem dX7_everybody_13 : decode cX7_everybody 13 = .ok (.sipush 4095, 3) := by decide +kernel
theorem dX7_everybody_16 : decode cX7_everybody 16 = .ok (.istore_n 1, 1) := by decide +kernel
theorem dX7_everybody_17 : decode cX7_everybody 17 = .ok (.iconst 0, 1) := by decide +kernel
theorem dX7_everybody_18 : decode cX7_everybody 18 = .ok (.istore_n 2, 1) := by decide +kernel
theorem dX7_everybody_19 : decode cX7_everybody 19 = .ok (.iload_n 2, 1) := by decide +kernel
theorem dX7_everybody_20 : decode cX7_everybody 20 = .ok (.aload_n 0, 1) := by decide +kernel
theorem dX7_everybody_21 : decode cX7_everybody 21 = .ok (.getfield 7, 3) := by decide +kernel
theorem dX7_everybody_24 : decode cX7_everybody 24 = .ok (.iconst 1, 1) := by decide +kernel
theorem dX7_everybody_25 : decode cX7_everybody 25 = .ok (.iaload, 1) := by decide +kernel
theorem dX7_everybody_26 : decode cX7_everybody 26 = .ok (.if_icmp .ge 18, 3) := by decide +kernel
theorem dX7_everybody_29 : decode cX7_everybody 29 = .ok (.iload_n 1, 1) := by decide +kernel
theorem dX7_everybody_30 : decode cX7_everybody 30 = .ok (.aload_n 0, 1) := by decide +kernel
theorem dX7_everybody_31 : decode cX7_everybody 31 = .ok (.iload_n 2, 1) := by decide +kernel
theorem dX7_everybody_32 : decode cX7_everybody 32 = .ok (.iconst 1, 1) := by decide +kernel
theorem dX7_everybody_33 : decode cX7_everybody 33 = .ok (.invokevirtual 90, 3) := by decide +kernel
theorem dX7_everybody_36 : decode cX7_everybody 36 = .ok (.iand, 1) := by decide +kernel
theorem dX7_everybody_37 : decode cX7_everybody 37 = .ok (.istore_n 1, 1) := by decide +kernel
theorem dX7_everybody_38 : decode cX7_everybody 38 = .ok (.iinc 2 1, 3) := by decide +kernel
theorem dX7_everybody_41 : decode cX7_everybody 41 = .ok (.goto (-22), 3) := by decide +kernel
theorem dX7_everybody_44 : decode cX7_everybody 44 = .ok (.iload_n 1, 1) := by decide +kernel
theorem dX7_everybody_45 : decode cX7_everybody 45 = .ok (.ireturn, 1) := by decide +kernel
theorem dX7_isSpan_0 : decode cX7_isSpan 0 = .ok (.iload_n 0, 1) := by decide +kernel
theorem dX7_isSpan_1 : decode cX7_isSpan 1 = .ok (.i2l, 1) := by decide +kernel
theorem dX7_isSpan_2 : decode cX7_isSpan 2 = .ok (.lconst 0, 1) := by decide +kernel
theorem dX7_isSpan_3 : decode cX7_isSpan 3 = .ok (.ldc2_w 178, 3) := by decide +kernel
theorem dX7_isSpan_6 : decode cX7_isSpan 6 = .ok (.invokestatic 43, 3) := by decide +kernel
theorem dX7_isSpan_9 : decode cX7_isSpan 9 = .ok (.ireturn, 1) := by decide +kernel
theorem dX7_ahead_0 : decode cX7_ahead 0 = .ok (.iload_n 1, 1) := by decide +kernel
theorem dX7_ahead_1 : decode cX7_ahead 1 = .ok (.invokestatic 180, 3) := by decide +kernel
theorem dX7_ahead_4 : decode cX7_ahead 4 = .ok (.ifCond .eq 21, 3) := by decide +kernel
theorem dX7_ahead_7 : decode cX7_ahead 7 = .ok (.iload_n 2, 1) := by decide +kernel
theorem dX7_ahead_8 : decode cX7_ahead 8 = .ok (.i2l, 1) := by decide +kernel
theorem dX7_ahead_9 : decode cX7_ahead 9 = .ok (.lconst 0, 1) := by decide +kernel
theorem dX7_ahead_10 : decode cX7_ahead 10 = .ok (.iconst 2, 1) := by decide +kernel
theorem dX7_ahead_11 : decode cX7_ahead 11 = .ok (.aload_n 0, 1) := by decide +kernel
theorem dX7_ahead_12 : decode cX7_ahead 12 = .ok (.getfield 7, 3) := by decide +kernel
theorem dX7_ahead_15 : decode cX7_ahead 15 = .ok (.iconst 1, 1) := by decide +kernel
theorem dX7_ahead_16 : decode cX7_ahead 16 = .ok (.iaload, 1) := by decide +kernel
theorem dX7_ahead_17 : decode cX7_ahead 17 = .ok (.iadd, 1) := by decide +kernel
theorem dX7_ahead_18 : decode cX7_ahead 18 = .ok (.i2l, 1) := by decide +kernel
theorem dX7_ahead_19 : decode cX7_ahead 19 = .ok (.invokestatic 43, 3) := by decide +kernel
theorem dX7_ahead_22 : decode cX7_ahead 22 = .ok (.ifCond .ne 10, 3) := by decide +kernel
theorem dX7_ahead_25 : decode cX7_ahead 25 = .ok (.aload_n 0, 1) := by decide +kernel
theorem dX7_ahead_26 : decode cX7_ahead 26 = .ok (.ldc 40, 2) := by decide +kernel
theorem dX7_ahead_28 : decode cX7_ahead 28 = .ok (.invokevirtual 68, 3) := by decide +kernel
theorem dX7_ahead_31 : decode cX7_ahead 31 = .ok (.ireturn, 1) := by decide +kernel
theorem dX7_ahead_32 : decode cX7_ahead 32 = .ok (.aload_n 0, 1) := by decide +kernel
theorem dX7_ahead_33 : decode cX7_ahead 33 = .ok (.iload_n 1, 1) := by decide +kernel
theorem dX7_ahead_34 : decode cX7_ahead 34 = .ok (.invokevirtual 156, 3) := by decide +kernel
theorem dX7_ahead_37 : decode cX7_ahead 37 = .ok (.ifCond .eq 10, 3) := by decide +kernel
theorem dX7_ahead_40 : decode cX7_ahead 40 = .ok (.aload_n 0, 1) := by decide +kernel
theorem dX7_ahead_41 : decode cX7_ahead 41 = .ok (.ldc 150, 2) := by decide +kernel
theorem dX7_ahead_43 : decode cX7_ahead 43 = .ok (.invokevirtual 68, 3) := by decide +kernel
theorem dX7_ahead_46 : decode cX7_ahead 46 = .ok (.ireturn, 1) := by decide +kernel
theorem dX7_ahead_47 : decode cX7_ahead 47 = .ok (.aload_n 0, 1) := by decide +kernel
theorem dX7_ahead_48 : decode cX7_ahead 48 = .ok (.invokevirtual 183, 3) := by decide +kernel
theorem dX7_ahead_51 : decode cX7_ahead 51 = .ok (.aload_n 0, 1) := by decide +kernel
theorem dX7_ahead_52 : decode cX7_ahead 52 = .ok (.iload_n 1, 1) := by decide +kernel
theorem dX7_ahead_53 : decode cX7_ahead 53 = .ok (.invokevirtual 159, 3) := by decide +kernel
theorem dX7_ahead_56 : decode cX7_ahead 56 = .ok (.istore_n 3, 1) := by decide +kernel
theorem dX7_ahead_57 : decode cX7_ahead 57 = .ok (.iload_n 2, 1) := by decide +kernel
theorem dX7_ahead_58 : decode cX7_ahead 58 = .ok (.ifCond .ne 7, 3) := by decide +kernel
theorem dX7_ahead_61 : decode cX7_ahead 61 = .ok (.iload_n 3, 1) := by decide +kernel
theorem dX7_ahead_62 : decode cX7_ahead 62 = .ok (.goto 35, 3) := by decide +kernel
theorem dX7_ahead_65 : decode cX7_ahead 65 = .ok (.iload_n 2, 1) := by decide +kernel
theorem dX7_ahead_66 : decode cX7_ahead 66 = .ok (.iconst 1, 1) := by decide +kernel
theorem dX7_ahead_67 : decode cX7_ahead 67 = .ok (.if_icmp .ne 10, 3) := by decide +kernel
theorem dX7_ahead_70 : decode cX7_ahead 70 = .ok (.aload_n 0, 1) := by decide +kernel
theorem dX7_ahead_71 : decode cX7_ahead 71 = .ok (.invokevirtual 186, 3) := by decide +kernel
theorem dX7_ahead_74 : decode cX7_ahead 74 = .ok (.goto 23, 3) := by decide +kernel
theorem dX7_ahead_77 : decode cX7_ahead 77 = .ok (.iload_n 2, 1) := by decide +kernel
theorem dX7_ahead_78 : decode cX7_ahead 78 = .ok (.iconst 2, 1) := by decide +kernel
theorem dX7_ahead_79 : decode cX7_ahead 79 = .ok (.if_icmp .ne 10, 3) := by decide +kernel
theorem dX7_ahead_82 : decode cX7_ahead 82 = .ok (.aload_n 0, 1) := by decide +kernel
theorem dX7_ahead_83 : decode cX7_ahead 83 = .ok (.invokevirtual 189, 3) := by decide +kernel
theorem dX7_ahead_86 : decode cX7_ahead 86 = .ok (.goto 11, 3) := by decide +kernel
theorem dX7_ahead_89 : decode cX7_ahead 89 = .ok (.aload_n 0, 1) := by decide +kernel
theorem dX7_ahead_90 : decode cX7_ahead 90 = .ok (.iload_n 2, 1) := by decide +kernel
theorem dX7_ahead_91 : decode cX7_ahead 91 = .ok (.iconst 3, 1) := by decide +kernel
theorem dX7_ahead_92 : decode cX7_ahead 92 = .ok (.isub, 1) := by decide +kernel
theorem dX7_ahead_93 : decode cX7_ahead 93 = .ok (.iconst 1, 1) := by decide +kernel
theorem dX7_ahead_94 : decode cX7_ahead 94 = .ok (.invokevirtual 90, 3) := by decide +kernel
theorem dX7_ahead_97 : decode cX7_ahead 97 = .ok (.istore 4, 2) := by decide +kernel
theorem dX7_ahead_99 : decode cX7_ahead 99 = .ok (.aload_n 0, 1) := by decide +kernel
theorem dX7_ahead_100 : decode cX7_ahead 100 = .ok (.invokevirtual 192, 3) := by decide +kernel
theorem dX7_ahead_103 : decode cX7_ahead 103 = .ok (.iload 4, 2) := by decide +kernel
theorem dX7_ahead_105 : decode cX7_ahead 105 = .ok (.ireturn, 1) := by decide +kernel
theorem dX7_when_0 : decode cX7_when 0 = .ok (.aload_n 0, 1) := by decide +kernel
theorem dX7_when_1 : decode cX7_when 1 = .ok (.iload_n 1, 1) := by decide +kernel
theorem dX7_when_2 : decode cX7_when 2 = .ok (.invokevirtual 96, 3) := by decide +kernel
theorem dX7_when_5 : decode cX7_when 5 = .ok (.ifCond .eq 10, 3) := by decide +kernel
theorem dX7_when_8 : decode cX7_when 8 = .ok (.iload_n 2, 1) := by decide +kernel
theorem dX7_when_9 : decode cX7_when 9 = .ok (.invokestatic 172, 3) := by decide +kernel
theorem dX7_when_12 : decode cX7_when 12 = .ok (.ifCond .ne 10, 3) := by decide +kernel
theorem dX7_when_15 : decode cX7_when 15 = .ok (.aload_n 0, 1) := by decide +kernel
theorem dX7_when_16 : decode cX7_when 16 = .ok (.ldc 40, 2) := by decide +kernel
theorem dX7_when_18 : decode cX7_when 18 = .ok (.invokevirtual 68, 3) := by decide +kernel
theorem dX7_when_21 : decode cX7_when 21 = .ok (.ireturn, 1) := by decide +kernel
theorem dX7_when_22 : decode cX7_when 22 = .ok (.aload_n 0, 1) := by decide +kernel
theorem dX7_when_23 : decode cX7_when 23 = .ok (.bipush 60, 2) := by decide +kernel
theorem dX7_when_25 : decode cX7_when 25 = .ok (.invokevirtual 156, 3) := by decide +kernel
theorem dX7_when_28 : decode cX7_when 28 = .ok (.ifCond .eq 10, 3) := by decide +kernel
theorem dX7_when_31 : decode cX7_when 31 = .ok (.aload_n 0, 1) := by decide +kernel
theorem dX7_when_32 : decode cX7_when 32 = .ok (.ldc 150, 2) := by decide +kernel
theorem dX7_when_34 : decode cX7_when 34 = .ok (.invokevirtual 68, 3) := by decide +kernel
theorem dX7_when_37 : decode cX7_when 37 = .ok (.ireturn, 1) := by decide +kernel
theorem dX7_when_38 : decode cX7_when 38 = .ok (.aload_n 0, 1) := by decide +kernel
theorem dX7_when_39 : decode cX7_when 39 = .ok (.invokevirtual 183, 3) := by decide +kernel
theorem dX7_when_42 : decode cX7_when 42 = .ok (.iconst 0, 1) := by decide +kernel
theorem dX7_when_43 : decode cX7_when 43 = .ok (.istore_n 3, 1) := by decide +kernel
theorem dX7_when_44 : decode cX7_when 44 = .ok (.iload_n 3, 1) := by decide +kernel
theorem dX7_when_45 : decode cX7_when 45 = .ok (.bipush 61, 2) := by decide +kernel
theorem dX7_when_47 : decode cX7_when 47 = .ok (.if_icmp .ge 26, 3) := by decide +kernel
theorem dX7_when_50 : decode cX7_when 50 = .ok (.aload_n 0, 1) := by decide +kernel
theorem dX7_when_51 : decode cX7_when 51 = .ok (.iload_n 1, 1) := by decide +kernel
theorem dX7_when_52 : decode cX7_when 52 = .ok (.iconst 1, 1) := by decide +kernel
theorem dX7_when_53 : decode cX7_when 53 = .ok (.invokevirtual 90, 3) := by decide +kernel
theorem dX7_when_56 : decode cX7_when 56 = .ok (.iload_n 2, 1) := by decide +kernel
theorem dX7_when_57 : decode cX7_when 57 = .ok (.invokestatic 110, 3) := by decide +kernel
theorem dX7_when_60 : decode cX7_when 60 = .ok (.ifCond .ne 13, 3) := by decide +kernel
theorem dX7_when_63 : decode cX7_when 63 = .ok (.aload_n 0, 1) := by decide +kernel
theorem dX7_when_64 : decode cX7_when 64 = .ok (.invokevirtual 151, 3) := by decide +kernel
theorem dX7_when_67 : decode cX7_when 67 = .ok (.iinc 3 1, 3) := by decide +kernel
theorem dX7_when_70 : decode cX7_when 70 = .ok (.goto (-26), 3) := by decide +kernel
theorem dX7_when_73 : decode cX7_when 73 = .ok (.aload_n 0, 1) := by decide +kernel
theorem dX7_when_74 : decode cX7_when 74 = .ok (.invokevirtual 192, 3) := by decide +kernel
theorem dX7_when_77 : decode cX7_when 77 = .ok (.iload_n 3, 1) := by decide +kernel
theorem dX7_when_78 : decode cX7_when 78 = .ok (.bipush 60, 2) := by decide +kernel
theorem dX7_when_80 : decode cX7_when 80 = .ok (.if_icmp .le 12, 3) := by decide +kernel
theorem dX7_when_83 : decode cX7_when 83 = .ok (.aload_n 0, 1) := by decide +kernel
theorem dX7_when_84 : decode cX7_when 84 = .ok (.ldc 195, 2) := by decide +kernel
theorem dX7_when_86 : decode cX7_when 86 = .ok (.invokevirtual 68, 3) := by decide +kernel
theorem dX7_when_89 : decode cX7_when 89 = .ok (.goto 4, 3) := by decide +kernel
theorem dX7_when_92 : decode cX7_when 92 = .ok (.iload_n 3, 1) := by decide +kernel
theorem dX7_when_93 : decode cX7_when 93 = .ok (.ireturn, 1) := by decide +kernel
theorem dX7_believers_0 : decode cX7_believers 0 = .ok (.aload_n 0, 1) := by decide +kernel
theorem dX7_believers_1 : decode cX7_believers 1 = .ok (.invokevirtual 183, 3) := by decide +kernel
theorem dX7_believers_4 : decode cX7_believers 4 = .ok (.iload_n 1, 1) := by decide +kernel
theorem dX7_believers_5 : decode cX7_believers 5 = .ok (.ifCond .lt 14, 3) := by decide +kernel
theorem dX7_believers_8 : decode cX7_believers 8 = .ok (.aload_n 0, 1) := by decide +kernel
theorem dX7_believers_9 : decode cX7_believers 9 = .ok (.getfield 7, 3) := by decide +kernel
theorem dX7_believers_12 : decode cX7_believers 12 = .ok (.iload_n 1, 1) := by decide +kernel
theorem dX7_believers_13 : decode cX7_believers 13 = .ok (.iconst 2, 1) := by decide +kernel
theorem dX7_believers_14 : decode cX7_believers 14 = .ok (.invokestatic 50, 3) := by decide +kernel
theorem dX7_believers_17 : decode cX7_believers 17 = .ok (.iconst 0, 1) := by decide +kernel
theorem dX7_believers_18 : decode cX7_believers 18 = .ok (.iastore, 1) := by decide +kernel
theorem dX7_believers_19 : decode cX7_believers 19 = .ok (.aload_n 0, 1) := by decide +kernel
theorem dX7_believers_20 : decode cX7_believers 20 = .ok (.iload_n 3, 1) := by decide +kernel
theorem dX7_believers_21 : decode cX7_believers 21 = .ok (.invokevirtual 159, 3) := by decide +kernel
theorem dX7_believers_24 : decode cX7_believers 24 = .ok (.istore 4, 2) := by decide +kernel
theorem dX7_believers_26 : decode cX7_believers 26 = .ok (.aload_n 0, 1) := by decide +kernel
theorem dX7_believers_27 : decode cX7_believers 27 = .ok (.iload_n 2, 1) := by decide +kernel
theorem dX7_believers_28 : decode cX7_believers 28 = .ok (.invokevirtual 175, 3) := by decide +kernel
theorem dX7_believers_31 : decode cX7_believers 31 = .ok (.istore 5, 2) := by decide +kernel
theorem dX7_believers_33 : decode cX7_believers 33 = .ok (.aload_n 0, 1) := by decide +kernel
theorem dX7_believers_34 : decode cX7_believers 34 = .ok (.invokevirtual 192, 3) := by decide +kernel
theorem dX7_believers_37 : decode cX7_believers 37 = .ok (.iload 5, 2) := by decide +kernel
theorem dX7_believers_39 : decode cX7_believers 39 = .ok (.ireturn, 1) := by decide +kernel
theorem dX7_without_0 : decode cX7_without 0 = .ok (.aload_n 0, 1) := by decide +kernel
theorem dX7_without_1 : decode cX7_without 1 = .ok (.iload_n 1, 1) := by decide +kernel
theorem dX7_without_2 : decode cX7_without 2 = .ok (.invokevirtual 76, 3) := by decide +kernel
theorem dX7_without_5 : decode cX7_without 5 = .ok (.ifCond .eq 17, 3) := by decide +kernel
theorem dX7_without_8 : decode cX7_without 8 = .ok (.iload_n 2, 1) := by decide +kernel
theorem dX7_without_9 : decode cX7_without 9 = .ok (.invokestatic 172, 3) := by decide +kernel
theorem dX7_without_12 : decode cX7_without 12 = .ok (.ifCond .eq 10, 3) := by decide +kernel
theorem dX7_without_15 : decode cX7_without 15 = .ok (.iload_n 3, 1) := by decide +kernel
theorem dX7_without_16 : decode cX7_without 16 = .ok (.invokestatic 180, 3) := by decide +kernel
theorem dX7_without_19 : decode cX7_without 19 = .ok (.ifCond .ne 10, 3) := by decide +kernel
theorem dX7_without_22 : decode cX7_without 22 = .ok (.aload_n 0, 1) := by decide +kernel
theorem dX7_without_23 : decode cX7_without 23 = .ok (.ldc 40, 2) := by decide +kernel
theorem dX7_without_25 : decode cX7_without 25 = .ok (.invokevirtual 68, 3) := by decide +kernel
theorem dX7_without_28 : decode cX7_without 28 = .ok (.ireturn, 1) := by decide +kernel
theorem dX7_without_29 : decode cX7_without 29 = .ok (.aload_n 0, 1) := by decide +kernel
theorem dX7_without_30 : decode cX7_without 30 = .ok (.iload_n 3, 1) := by decide +kernel
theorem dX7_without_31 : decode cX7_without 31 = .ok (.invokevirtual 156, 3) := by decide +kernel
theorem dX7_without_34 : decode cX7_without 34 = .ok (.ifCond .eq 12, 3) := by decide +kernel
theorem dX7_without_37 : decode cX7_without 37 = .ok (.aload_n 0, 1) := by decide +kernel
theorem dX7_without_38 : decode cX7_without 38 = .ok (.ldc 150, 2) := by decide +kernel
theorem dX7_without_40 : decode cX7_without 40 = .ok (.invokevirtual 68, 3) := by decide +kernel
theorem dX7_without_43 : decode cX7_without 43 = .ok (.goto 10, 3) := by decide +kernel
theorem dX7_without_46 : decode cX7_without 46 = .ok (.aload_n 0, 1) := by decide +kernel
theorem dX7_without_47 : decode cX7_without 47 = .ok (.iload_n 1, 1) := by decide +kernel
theorem dX7_without_48 : decode cX7_without 48 = .ok (.iload_n 2, 1) := by decide +kernel
theorem dX7_without_49 : decode cX7_without 49 = .ok (.iload_n 3, 1) := by decide +kernel
theorem dX7_without_50 : decode cX7_without 50 = .ok (.invokevirtual 196, 3) := by decide +kernel
theorem dX7_without_53 : decode cX7_without 53 = .ok (.ireturn, 1) := by decide +kernel
theorem dX7_added_0 : decode cX7_added 0 = .ok (.iload_n 1, 1) := by decide +kernel
theorem dX7_added_1 : decode cX7_added 1 = .ok (.invokestatic 172, 3) := by decide +kernel
theorem dX7_added_4 : decode cX7_added 4 = .ok (.ifCond .eq 10, 3) := by decide +kernel
theorem dX7_added_7 : decode cX7_added 7 = .ok (.iload_n 2, 1) := by decide +kernel
theorem dX7_added_8 : decode cX7_added 8 = .ok (.invokestatic 180, 3) := by decide +kernel
theorem dX7_added_11 : decode cX7_added 11 = .ok (.ifCond .ne 10, 3) := by decide +kernel
theorem dX7_added_14 : decode cX7_added 14 = .ok (.aload_n 0, 1) := by decide +kernel
theorem dX7_added_15 : decode cX7_added 15 = .ok (.ldc 40, 2) := by decide +kernel
theorem dX7_added_17 : decode cX7_added 17 = .ok (.invokevirtual 68, 3) := by decide +kernel
theorem dX7_added_20 : decode cX7_added 20 = .ok (.ireturn, 1) := by decide +kernel
theorem dX7_added_21 : decode cX7_added 21 = .ok (.aload_n 0, 1) := by decide +kernel
theorem dX7_added_22 : decode cX7_added 22 = .ok (.iload_n 2, 1) := by decide +kernel
theorem dX7_added_23 : decode cX7_added 23 = .ok (.invokevirtual 156, 3) := by decide +kernel
theorem dX7_added_26 : decode cX7_added 26 = .ok (.ifCond .eq 10, 3) := by decide +kernel
theorem dX7_added_29 : decode cX7_added 29 = .ok (.aload_n 0, 1) := by decide +kernel
theorem dX7_added_30 : decode cX7_added 30 = .ok (.ldc 150, 2) := by decide +kernel
theorem dX7_added_32 : decode cX7_added 32 = .ok (.invokevirtual 68, 3) := by decide +kernel
theorem dX7_added_35 : decode cX7_added 35 = .ok (.ireturn, 1) := by decide +kernel
theorem dX7_added_36 : decode cX7_added 36 = .ok (.aload_n 0, 1) := by decide +kernel
theorem dX7_added_37 : decode cX7_added 37 = .ok (.iconst (-1), 1) := by decide +kernel
theorem dX7_added_38 : decode cX7_added 38 = .ok (.iload_n 1, 1) := by decide +kernel
theorem dX7_added_39 : decode cX7_added 39 = .ok (.iload_n 2, 1) := by decide +kernel
theorem dX7_added_40 : decode cX7_added 40 = .ok (.invokevirtual 196, 3) := by decide +kernel
theorem dX7_added_43 : decode cX7_added 43 = .ok (.invokestatic 162, 3) := by decide +kernel
theorem dX7_added_46 : decode cX7_added 46 = .ok (.istore_n 3, 1) := by decide +kernel
theorem dX7_added_47 : decode cX7_added 47 = .ok (.iconst 0, 1) := by decide +kernel
theorem dX7_added_48 : decode cX7_added 48 = .ok (.istore 4, 2) := by decide +kernel
theorem dX7_added_50 : decode cX7_added 50 = .ok (.iconst 0, 1) := by decide +kernel
theorem dX7_added_51 : decode cX7_added 51 = .ok (.istore 5, 2) := by decide +kernel
theorem dX7_added_53 : decode cX7_added 53 = .ok (.iload 5, 2) := by decide +kernel
theorem dX7_added_55 : decode cX7_added 55 = .ok (.aload_n 0, 1) := by decide +kernel
theorem dX7_added_56 : decode cX7_added 56 = .ok (.getfield 7, 3) := by decide +kernel
theorem dX7_added_59 : decode cX7_added 59 = .ok (.iconst 0, 1) := by decide +kernel
theorem dX7_added_60 : decode cX7_added 60 = .ok (.iaload, 1) := by decide +kernel
theorem dX7_added_61 : decode cX7_added 61 = .ok (.if_icmp .ge 37, 3) := by decide +kernel
theorem dX7_added_64 : decode cX7_added 64 = .ok (.iload 4, 2) := by decide +kernel
theorem dX7_added_66 : decode cX7_added 66 = .ok (.aload_n 0, 1) := by decide +kernel
theorem dX7_added_67 : decode cX7_added 67 = .ok (.iload 5, 2) := by decide +kernel
theorem dX7_added_69 : decode cX7_added 69 = .ok (.iload_n 1, 1) := by decide +kernel
theorem dX7_added_70 : decode cX7_added 70 = .ok (.iload_n 2, 1) := by decide +kernel
theorem dX7_added_71 : decode cX7_added 71 = .ok (.invokevirtual 196, 3) := by decide +kernel
theorem dX7_added_74 : decode cX7_added 74 = .ok (.invokestatic 162, 3) := by decide +kernel
theorem dX7_added_77 : decode cX7_added 77 = .ok (.iload_n 3, 1) := by decide +kernel
theorem dX7_added_78 : decode cX7_added 78 = .ok (.if_icmp .ge 10, 3) := by decide +kernel
theorem dX7_added_81 : decode cX7_added 81 = .ok (.iconst 1, 1) := by decide +kernel
theorem dX7_added_82 : decode cX7_added 82 = .ok (.iload 5, 2) := by decide +kernel
theorem dX7_added_84 : decode cX7_added 84 = .ok (.ishl, 1) := by decide +kernel
theorem dX7_added_85 : decode cX7_added 85 = .ok (.goto 4, 3) := by decide +kernel
theorem dX7_added_88 : decode cX7_added 88 = .ok (.iconst 0, 1) := by decide +kernel
theorem dX7_added_89 : decode cX7_added 89 = .ok (.ior, 1) := by decide +kernel
theorem dX7_added_90 : decode cX7_added 90 = .ok (.istore 4, 2) := by decide +kernel
theorem dX7_added_92 : decode cX7_added 92 = .ok (.iinc 5 1, 3) := by decide +kernel
theorem dX7_added_95 : decode cX7_added 95 = .ok (.goto (-42), 3) := by decide +kernel
theorem dX7_added_98 : decode cX7_added 98 = .ok (.iload 4, 2) := by decide +kernel
theorem dX7_added_100 : decode cX7_added 100 = .ok (.ireturn, 1) := by decide +kernel
theorem dX7_best_0 : decode cX7_best 0 = .ok (.aload_n 0, 1) := by decide +kernel
theorem dX7_best_1 : decode cX7_best 1 = .ok (.iload_n 1, 1) := by decide +kernel
theorem dX7_best_2 : decode cX7_best 2 = .ok (.iload_n 2, 1) := by decide +kernel
theorem dX7_best_3 : decode cX7_best 3 = .ok (.invokevirtual 107, 3) := by decide +kernel
theorem dX7_best_6 : decode cX7_best 6 = .ok (.ifCond .eq 10, 3) := by decide +kernel
theorem dX7_best_9 : decode cX7_best 9 = .ok (.iload_n 3, 1) := by decide +kernel
theorem dX7_best_10 : decode cX7_best 10 = .ok (.invokestatic 180, 3) := by decide +kernel
theorem dX7_best_13 : decode cX7_best 13 = .ok (.ifCond .ne 10, 3) := by decide +kernel
theorem dX7_best_16 : decode cX7_best 16 = .ok (.aload_n 0, 1) := by decide +kernel
theorem dX7_best_17 : decode cX7_best 17 = .ok (.ldc 40, 2) := by decide +kernel
theorem dX7_best_19 : decode cX7_best 19 = .ok (.invokevirtual 68, 3) := by decide +kernel
theorem dX7_best_22 : decode cX7_best 22 = .ok (.ireturn, 1) := by decide +kernel
theorem dX7_best_23 : decode cX7_best 23 = .ok (.aload_n 0, 1) := by decide +kernel
theorem dX7_best_24 : decode cX7_best 24 = .ok (.iload_n 3, 1) := by decide +kernel
theorem dX7_best_25 : decode cX7_best 25 = .ok (.invokevirtual 156, 3) := by decide +kernel
theorem dX7_best_28 : decode cX7_best 28 = .ok (.ifCond .eq 10, 3) := by decide +kernel
theorem dX7_best_31 : decode cX7_best 31 = .ok (.aload_n 0, 1) := by decide +kernel
theorem dX7_best_32 : decode cX7_best 32 = .ok (.ldc 150, 2) := by decide +kernel
theorem dX7_best_34 : decode cX7_best 34 = .ok (.invokevirtual 68, 3) := by decide +kernel
theorem dX7_best_37 : decode cX7_best 37 = .ok (.ireturn, 1) := by decide +kernel
theorem dX7_best_38 : decode cX7_best 38 = .ok (.aload_n 0, 1) := by decide +kernel
theorem dX7_best_39 : decode cX7_best 39 = .ok (.invokevirtual 183, 3) := by decide +kernel
theorem dX7_best_42 : decode cX7_best 42 = .ok (.iconst 0, 1) := by decide +kernel
theorem dX7_best_43 : decode cX7_best 43 = .ok (.istore 4, 2) := by decide +kernel
theorem dX7_best_45 : decode cX7_best 45 = .ok (.iconst (-1), 1) := by decide +kernel
theorem dX7_best_46 : decode cX7_best 46 = .ok (.istore 5, 2) := by decide +kernel
theorem dX7_best_48 : decode cX7_best 48 = .ok (.iconst 0, 1) := by decide +kernel
theorem dX7_best_49 : decode cX7_best 49 = .ok (.istore 6, 2) := by decide +kernel
theorem dX7_best_51 : decode cX7_best 51 = .ok (.iload 6, 2) := by decide +kernel
theorem dX7_best_53 : decode cX7_best 53 = .ok (.aload_n 0, 1) := by decide +kernel
theorem dX7_best_54 : decode cX7_best 54 = .ok (.getfield 7, 3) := by decide +kernel
theorem dX7_best_57 : decode cX7_best 57 = .ok (.iconst 0, 1) := by decide +kernel
theorem dX7_best_58 : decode cX7_best 58 = .ok (.iaload, 1) := by decide +kernel
theorem dX7_best_59 : decode cX7_best 59 = .ok (.if_icmp .ge 82, 3) := by decide +kernel
theorem dX7_best_62 : decode cX7_best 62 = .ok (.aload_n 0, 1) := by decide +kernel
theorem dX7_best_63 : decode cX7_best 63 = .ok (.getfield 7, 3) := by decide +kernel
theorem dX7_best_66 : decode cX7_best 66 = .ok (.iload_n 1, 1) := by decide +kernel
theorem dX7_best_67 : decode cX7_best 67 = .ok (.iconst 2, 1) := by decide +kernel
theorem dX7_best_68 : decode cX7_best 68 = .ok (.invokestatic 84, 3) := by decide +kernel
theorem dX7_best_71 : decode cX7_best 71 = .ok (.iload 6, 2) := by decide +kernel
theorem dX7_best_73 : decode cX7_best 73 = .ok (.iastore, 1) := by decide +kernel
theorem dX7_best_74 : decode cX7_best 74 = .ok (.aload_n 0, 1) := by decide +kernel
theorem dX7_best_75 : decode cX7_best 75 = .ok (.iload_n 3, 1) := by decide +kernel
theorem dX7_best_76 : decode cX7_best 76 = .ok (.invokevirtual 159, 3) := by decide +kernel
theorem dX7_best_79 : decode cX7_best 79 = .ok (.istore 7, 2) := by decide +kernel
theorem dX7_best_81 : decode cX7_best 81 = .ok (.aload_n 0, 1) := by decide +kernel
theorem dX7_best_82 : decode cX7_best 82 = .ok (.iload_n 1, 1) := by decide +kernel
theorem dX7_best_83 : decode cX7_best 83 = .ok (.iconst 0, 1) := by decide +kernel
theorem dX7_best_84 : decode cX7_best 84 = .ok (.invokevirtual 90, 3) := by decide +kernel
theorem dX7_best_87 : decode cX7_best 87 = .ok (.aload_n 0, 1) := by decide +kernel
theorem dX7_best_88 : decode cX7_best 88 = .ok (.iload_n 2, 1) := by decide +kernel
theorem dX7_best_89 : decode cX7_best 89 = .ok (.iconst 1, 1) := by decide +kernel
theorem dX7_best_90 : decode cX7_best 90 = .ok (.invokevirtual 90, 3) := by decide +kernel
theorem dX7_best_93 : decode cX7_best 93 = .ok (.iand, 1) := by decide +kernel
theorem dX7_best_94 : decode cX7_best 94 = .ok (.invokestatic 162, 3) := by decide +kernel
theorem dX7_best_97 : decode cX7_best 97 = .ok (.istore 8, 2) := by decide +kernel
theorem dX7_best_99 : decode cX7_best 99 = .ok (.aload_n 0, 1) := by decide +kernel
theorem dX7_best_100 : decode cX7_best 100 = .ok (.invokevirtual 192, 3) := by decide +kernel
theorem dX7_best_103 : decode cX7_best 103 = .ok (.iload 8, 2) := by decide +kernel
theorem dX7_best_105 : decode cX7_best 105 = .ok (.iload 5, 2) := by decide +kernel
theorem dX7_best_107 : decode cX7_best 107 = .ok (.if_icmp .le 8, 3) := by decide +kernel
theorem dX7_best_110 : decode cX7_best 110 = .ok (.iload 6, 2) := by decide +kernel
theorem dX7_best_112 : decode cX7_best 112 = .ok (.goto 5, 3) := by decide +kernel
theorem dX7_best_115 : decode cX7_best 115 = .ok (.iload 4, 2) := by decide +kernel
theorem dX7_best_117 : decode cX7_best 117 = .ok (.istore 4, 2) := by decide +kernel
theorem dX7_best_119 : decode cX7_best 119 = .ok (.iload 8, 2) := by decide +kernel
theorem dX7_best_121 : decode cX7_best 121 = .ok (.iload 5, 2) := by decide +kernel
theorem dX7_best_123 : decode cX7_best 123 = .ok (.if_icmp .le 8, 3) := by decide +kernel
theorem dX7_best_126 : decode cX7_best 126 = .ok (.iload 8, 2) := by decide +kernel
theorem dX7_best_128 : decode cX7_best 128 = .ok (.goto 5, 3) := by decide +kernel
theorem dX7_best_131 : decode cX7_best 131 = .ok (.iload 5, 2) := by decide +kernel
theorem dX7_best_133 : decode cX7_best 133 = .ok (.istore 5, 2) := by decide +kernel
theorem dX7_best_135 : decode cX7_best 135 = .ok (.iinc 6 1, 3) := by decide +kernel
theorem dX7_best_138 : decode cX7_best 138 = .ok (.goto (-87), 3) := by decide +kernel
theorem dX7_best_141 : decode cX7_best 141 = .ok (.iload 4, 2) := by decide +kernel
theorem dX7_best_143 : decode cX7_best 143 = .ok (.ireturn, 1) := by decide +kernel
theorem dX7_bridge_0 : decode cX7_bridge 0 = .ok (.iload_n 1, 1) := by decide +kernel
theorem dX7_bridge_1 : decode cX7_bridge 1 = .ok (.invokestatic 172, 3) := by decide +kernel
theorem dX7_bridge_4 : decode cX7_bridge 4 = .ok (.ifCond .eq 10, 3) := by decide +kernel
theorem dX7_bridge_7 : decode cX7_bridge 7 = .ok (.iload_n 2, 1) := by decide +kernel
theorem dX7_bridge_8 : decode cX7_bridge 8 = .ok (.invokestatic 180, 3) := by decide +kernel
theorem dX7_bridge_11 : decode cX7_bridge 11 = .ok (.ifCond .ne 10, 3) := by decide +kernel
theorem dX7_bridge_14 : decode cX7_bridge 14 = .ok (.aload_n 0, 1) := by decide +kernel
theorem dX7_bridge_15 : decode cX7_bridge 15 = .ok (.ldc 40, 2) := by decide +kernel
theorem dX7_bridge_17 : decode cX7_bridge 17 = .ok (.invokevirtual 68, 3) := by decide +kernel
theorem dX7_bridge_20 : decode cX7_bridge 20 = .ok (.ireturn, 1) := by decide +kernel
theorem dX7_bridge_21 : decode cX7_bridge 21 = .ok (.aload_n 0, 1) := by decide +kernel
theorem dX7_bridge_22 : decode cX7_bridge 22 = .ok (.iload_n 2, 1) := by decide +kernel
theorem dX7_bridge_23 : decode cX7_bridge 23 = .ok (.invokevirtual 156, 3) := by decide +kernel
theorem dX7_bridge_26 : decode cX7_bridge 26 = .ok (.ifCond .eq 10, 3) := by decide +kernel
theorem dX7_bridge_29 : decode cX7_bridge 29 = .ok (.aload_n 0, 1) := by decide +kernel
theorem dX7_bridge_30 : decode cX7_bridge 30 = .ok (.ldc 150, 2) := by decide +kernel
theorem dX7_bridge_32 : decode cX7_bridge 32 = .ok (.invokevirtual 68, 3) := by decide +kernel
theorem dX7_bridge_35 : decode cX7_bridge 35 = .ok (.ireturn, 1) := by decide +kernel
theorem dX7_bridge_36 : decode cX7_bridge 36 = .ok (.iconst (-1), 1) := by decide +kernel
theorem dX7_bridge_37 : decode cX7_bridge 37 = .ok (.istore_n 3, 1) := by decide +kernel
theorem dX7_bridge_38 : decode cX7_bridge 38 = .ok (.iconst (-1), 1) := by decide +kernel
theorem dX7_bridge_39 : decode cX7_bridge 39 = .ok (.istore 4, 2) := by decide +kernel
theorem dX7_bridge_41 : decode cX7_bridge 41 = .ok (.iconst 0, 1) := by decide +kernel
theorem dX7_bridge_42 : decode cX7_bridge 42 = .ok (.istore 5, 2) := by decide +kernel
theorem dX7_bridge_44 : decode cX7_bridge 44 = .ok (.iload 5, 2) := by decide +kernel
theorem dX7_bridge_46 : decode cX7_bridge 46 = .ok (.aload_n 0, 1) := by decide +kernel
theorem dX7_bridge_47 : decode cX7_bridge 47 = .ok (.getfield 7, 3) := by decide +kernel
theorem dX7_bridge_50 : decode cX7_bridge 50 = .ok (.iconst 1, 1) := by decide +kernel
theorem dX7_bridge_51 : decode cX7_bridge 51 = .ok (.iaload, 1) := by decide +kernel
theorem dX7_bridge_52 : decode cX7_bridge 52 = .ok (.if_icmp .ge 116, 3) := by decide +kernel
theorem dX7_bridge_55 : decode cX7_bridge 55 = .ok (.iload 5, 2) := by decide +kernel
theorem dX7_bridge_57 : decode cX7_bridge 57 = .ok (.iconst 1, 1) := by decide +kernel
theorem dX7_bridge_58 : decode cX7_bridge 58 = .ok (.iadd, 1) := by decide +kernel
theorem dX7_bridge_59 : decode cX7_bridge 59 = .ok (.istore 6, 2) := by decide +kernel
theorem dX7_bridge_61 : decode cX7_bridge 61 = .ok (.iload 6, 2) := by decide +kernel
theorem dX7_bridge_63 : decode cX7_bridge 63 = .ok (.aload_n 0, 1) := by decide +kernel
theorem dX7_bridge_64 : decode cX7_bridge 64 = .ok (.getfield 7, 3) := by decide +kernel
theorem dX7_bridge_67 : decode cX7_bridge 67 = .ok (.iconst 1, 1) := by decide +kernel
theorem dX7_bridge_68 : decode cX7_bridge 68 = .ok (.iaload, 1) := by decide +kernel
theorem dX7_bridge_69 : decode cX7_bridge 69 = .ok (.if_icmp .ge 93, 3) := by decide +kernel
theorem dX7_bridge_72 : decode cX7_bridge 72 = .ok (.aload_n 0, 1) := by decide +kernel
theorem dX7_bridge_73 : decode cX7_bridge 73 = .ok (.getfield 7, 3) := by decide +kernel
theorem dX7_bridge_76 : decode cX7_bridge 76 = .ok (.bipush 81, 2) := by decide +kernel
theorem dX7_bridge_78 : decode cX7_bridge 78 = .ok (.iload 5, 2) := by decide +kernel
theorem dX7_bridge_80 : decode cX7_bridge 80 = .ok (.iadd, 1) := by decide +kernel
theorem dX7_bridge_81 : decode cX7_bridge 81 = .ok (.iaload, 1) := by decide +kernel
theorem dX7_bridge_82 : decode cX7_bridge 82 = .ok (.iload 6, 2) := by decide +kernel
theorem dX7_bridge_84 : decode cX7_bridge 84 = .ok (.invokestatic 110, 3) := by decide +kernel
theorem dX7_bridge_87 : decode cX7_bridge 87 = .ok (.ifCond .ne 69, 3) := by decide +kernel
theorem dX7_bridge_90 : decode cX7_bridge 90 = .ok (.aload_n 0, 1) := by decide +kernel
theorem dX7_bridge_91 : decode cX7_bridge 91 = .ok (.iload 5, 2) := by decide +kernel
theorem dX7_bridge_93 : decode cX7_bridge 93 = .ok (.iload 6, 2) := by decide +kernel
theorem dX7_bridge_95 : decode cX7_bridge 95 = .ok (.iconst 1, 1) := by decide +kernel
theorem dX7_bridge_96 : decode cX7_bridge 96 = .ok (.invokevirtual 113, 3) := by decide +kernel
theorem dX7_bridge_99 : decode cX7_bridge 99 = .ok (.aload_n 0, 1) := by decide +kernel
theorem dX7_bridge_100 : decode cX7_bridge 100 = .ok (.iconst (-1), 1) := by decide +kernel
theorem dX7_bridge_101 : decode cX7_bridge 101 = .ok (.iload_n 1, 1) := by decide +kernel
theorem dX7_bridge_102 : decode cX7_bridge 102 = .ok (.iload_n 2, 1) := by decide +kernel
theorem dX7_bridge_103 : decode cX7_bridge 103 = .ok (.invokevirtual 196, 3) := by decide +kernel
theorem dX7_bridge_106 : decode cX7_bridge 106 = .ok (.invokestatic 162, 3) := by decide +kernel
theorem dX7_bridge_109 : decode cX7_bridge 109 = .ok (.istore 7, 2) := by decide +kernel
theorem dX7_bridge_111 : decode cX7_bridge 111 = .ok (.aload_n 0, 1) := by decide +kernel
theorem dX7_bridge_112 : decode cX7_bridge 112 = .ok (.iload 5, 2) := by decide +kernel
theorem dX7_bridge_114 : decode cX7_bridge 114 = .ok (.iload 6, 2) := by decide +kernel
theorem dX7_bridge_116 : decode cX7_bridge 116 = .ok (.iconst 0, 1) := by decide +kernel
theorem dX7_bridge_117 : decode cX7_bridge 117 = .ok (.invokevirtual 113, 3) := by decide +kernel
theorem dX7_bridge_120 : decode cX7_bridge 120 = .ok (.iload 7, 2) := by decide +kernel
theorem dX7_bridge_122 : decode cX7_bridge 122 = .ok (.iload 4, 2) := by decide +kernel
theorem dX7_bridge_124 : decode cX7_bridge 124 = .ok (.if_icmp .le 14, 3) := by decide +kernel
theorem dX7_bridge_127 : decode cX7_bridge 127 = .ok (.bipush 10, 2) := by decide +kernel
theorem dX7_bridge_129 : decode cX7_bridge 129 = .ok (.iload 5, 2) := by decide +kernel
theorem dX7_bridge_131 : decode cX7_bridge 131 = .ok (.imul, 1) := by decide +kernel
theorem dX7_bridge_132 : decode cX7_bridge 132 = .ok (.iload 6, 2) := by decide +kernel
theorem dX7_bridge_134 : decode cX7_bridge 134 = .ok (.iadd, 1) := by decide +kernel
theorem dX7_bridge_135 : decode cX7_bridge 135 = .ok (.goto 4, 3) := by decide +kernel
theorem dX7_bridge_138 : decode cX7_bridge 138 = .ok (.iload_n 3, 1) := by decide +kernel
theorem dX7_bridge_139 : decode cX7_bridge 139 = .ok (.istore_n 3, 1) := by decide +kernel
theorem dX7_bridge_140 : decode cX7_bridge 140 = .ok (.iload 7, 2) := by decide +kernel
theorem dX7_bridge_142 : decode cX7_bridge 142 = .ok (.iload 4, 2) := by decide +kernel
theorem dX7_bridge_144 : decode cX7_bridge 144 = .ok (.if_icmp .le 8, 3) := by decide +kernel
theorem dX7_bridge_147 : decode cX7_bridge 147 = .ok (.iload 7, 2) := by decide +kernel
theorem dX7_bridge_149 : decode cX7_bridge 149 = .ok (.goto 5, 3) := by decide +kernel
theorem dX7_bridge_152 : decode cX7_bridge 152 = .ok (.iload 4, 2) := by decide +kernel
theorem dX7_bridge_154 : decode cX7_bridge 154 = .ok (.istore 4, 2) := by decide +kernel
theorem dX7_bridge_156 : decode cX7_bridge 156 = .ok (.iinc 6 1, 3) := by decide +kernel
theorem dX7_bridge_159 : decode cX7_bridge 159 = .ok (.goto (-98), 3) := by decide +kernel
theorem dX7_bridge_162 : decode cX7_bridge 162 = .ok (.iinc 5 1, 3) := by decide +kernel
theorem dX7_bridge_165 : decode cX7_bridge 165 = .ok (.goto (-121), 3) := by decide +kernel
theorem dX7_bridge_168 : decode cX7_bridge 168 = .ok (.iload_n 3, 1) := by decide +kernel
theorem dX7_bridge_169 : decode cX7_bridge 169 = .ok (.ifCond .ge 12, 3) := by decide +kernel
theorem dX7_bridge_172 : decode cX7_bridge 172 = .ok (.aload_n 0, 1) := by decide +kernel
theorem dX7_bridge_173 : decode cX7_bridge 173 = .ok (.ldc 195, 2) := by decide +kernel
theorem dX7_bridge_175 : decode cX7_bridge 175 = .ok (.invokevirtual 68, 3) := by decide +kernel
theorem dX7_bridge_178 : decode cX7_bridge 178 = .ok (.goto 4, 3) := by decide +kernel
theorem dX7_bridge_181 : decode cX7_bridge 181 = .ok (.iload_n 3, 1) := by decide +kernel
theorem dX7_bridge_182 : decode cX7_bridge 182 = .ok (.ireturn, 1) := by decide +kernel
theorem dX7_findSaid_0 : decode cX7_findSaid 0 = .ok (.aload_n 0, 1) := by decide +kernel
theorem dX7_findSaid_1 : decode cX7_findSaid 1 = .ok (.iconst 0, 1) := by decide +kernel
theorem dX7_findSaid_2 : decode cX7_findSaid 2 = .ok (.putfield 199, 3) := by decide +kernel
theorem dX7_findSaid_5 : decode cX7_findSaid 5 = .ok (.aload_n 0, 1) := by decide +kernel
theorem dX7_findSaid_6 : decode cX7_findSaid 6 = .ok (.iconst (-1), 1) := by decide +kernel
theorem dX7_findSaid_7 : decode cX7_findSaid 7 = .ok (.putfield 202, 3) := by decide +kernel
theorem dX7_findSaid_10 : decode cX7_findSaid 10 = .ok (.aload_n 0, 1) := by decide +kernel
theorem dX7_findSaid_11 : decode cX7_findSaid 11 = .ok (.sipush 4095, 3) := by decide +kernel
theorem dX7_findSaid_14 : decode cX7_findSaid 14 = .ok (.putfield 205, 3) := by decide +kernel
theorem dX7_findSaid_17 : decode cX7_findSaid 17 = .ok (.aload_n 0, 1) := by decide +kernel
theorem dX7_findSaid_18 : decode cX7_findSaid 18 = .ok (.iconst 0, 1) := by decide +kernel
theorem dX7_findSaid_19 : decode cX7_findSaid 19 = .ok (.putfield 208, 3) := by decide +kernel
theorem dX7_findSaid_22 : decode cX7_findSaid 22 = .ok (.aload_n 0, 1) := by decide +kernel
theorem dX7_findSaid_23 : decode cX7_findSaid 23 = .ok (.bipush 99, 2) := by decide +kernel
theorem dX7_findSaid_25 : decode cX7_findSaid 25 = .ok (.putfield 211, 3) := by decide +kernel
theorem dX7_findSaid_28 : decode cX7_findSaid 28 = .ok (.iconst 0, 1) := by decide +kernel
theorem dX7_findSaid_29 : decode cX7_findSaid 29 = .ok (.istore 4, 2) := by decide +kernel
theorem dX7_findSaid_31 : decode cX7_findSaid 31 = .ok (.iload 4, 2) := by decide +kernel
theorem dX7_findSaid_33 : decode cX7_findSaid 33 = .ok (.sipush 4096, 3) := by decide +kernel
theorem dX7_findSaid_36 : decode cX7_findSaid 36 = .ok (.if_icmp .ge 103, 3) := by decide +kernel
theorem dX7_findSaid_39 : decode cX7_findSaid 39 = .ok (.aload_n 0, 1) := by decide +kernel
theorem dX7_findSaid_40 : decode cX7_findSaid 40 = .ok (.iload_n 1, 1) := by decide +kernel
theorem dX7_findSaid_41 : decode cX7_findSaid 41 = .ok (.iload 4, 2) := by decide +kernel
theorem dX7_findSaid_43 : decode cX7_findSaid 43 = .ok (.invokevirtual 126, 3) := by decide +kernel
theorem dX7_findSaid_46 : decode cX7_findSaid 46 = .ok (.iload_n 2, 1) := by decide +kernel
theorem dX7_findSaid_47 : decode cX7_findSaid 47 = .ok (.if_icmp .ne 86, 3) := by decide +kernel
theorem dX7_findSaid_50 : decode cX7_findSaid 50 = .ok (.aload_n 0, 1) := by decide +kernel
theorem dX7_findSaid_51 : decode cX7_findSaid 51 = .ok (.aload_n 0, 1) := by decide +kernel
theorem dX7_findSaid_52 : decode cX7_findSaid 52 = .ok (.getfield 199, 3) := by decide +kernel
theorem dX7_findSaid_55 : decode cX7_findSaid 55 = .ok (.ifCond .ne 8, 3) := by decide +kernel
theorem dX7_findSaid_58 : decode cX7_findSaid 58 = .ok (.iload 4, 2) := by decide +kernel
theorem dX7_findSaid_60 : decode cX7_findSaid 60 = .ok (.goto 7, 3) := by decide +kernel
theorem dX7_findSaid_63 : decode cX7_findSaid 63 = .ok (.aload_n 0, 1) := by decide +kernel
theorem dX7_findSaid_64 : decode cX7_findSaid 64 = .ok (.getfield 202, 3) := by decide +kernel
theorem dX7_findSaid_67 : decode cX7_findSaid 67 = .ok (.putfield 202, 3) := by decide +kernel
theorem dX7_findSaid_70 : decode cX7_findSaid 70 = .ok (.aload_n 0, 1) := by decide +kernel
theorem dX7_findSaid_71 : decode cX7_findSaid 71 = .ok (.dup, 1) := by decide +kernel
theorem dX7_findSaid_72 : decode cX7_findSaid 72 = .ok (.getfield 199, 3) := by decide +kernel
theorem dX7_findSaid_75 : decode cX7_findSaid 75 = .ok (.iconst 1, 1) := by decide +kernel
theorem dX7_findSaid_76 : decode cX7_findSaid 76 = .ok (.iadd, 1) := by decide +kernel
theorem dX7_findSaid_77 : decode cX7_findSaid 77 = .ok (.putfield 199, 3) := by decide +kernel
theorem dX7_findSaid_80 : decode cX7_findSaid 80 = .ok (.aload_n 0, 1) := by decide +kernel
theorem dX7_findSaid_81 : decode cX7_findSaid 81 = .ok (.dup, 1) := by decide +kernel
theorem dX7_findSaid_82 : decode cX7_findSaid 82 = .ok (.getfield 205, 3) := by decide +kernel
theorem dX7_findSaid_85 : decode cX7_findSaid 85 = .ok (.iload 4, 2) := by decide +kernel
theorem dX7_findSaid_87 : decode cX7_findSaid 87 = .ok (.iand, 1) := by decide +kernel
theorem dX7_findSaid_88 : decode cX7_findSaid 88 = .ok (.putfield 205, 3) := by decide +kernel
theorem dX7_findSaid_91 : decode cX7_findSaid 91 = .ok (.aload_n 0, 1) := by decide +kernel
theorem dX7_findSaid_92 : decode cX7_findSaid 92 = .ok (.dup, 1) := by decide +kernel
theorem dX7_findSaid_93 : decode cX7_findSaid 93 = .ok (.getfield 208, 3) := by decide +kernel
theorem dX7_findSaid_96 : decode cX7_findSaid 96 = .ok (.iload 4, 2) := by decide +kernel
theorem dX7_findSaid_98 : decode cX7_findSaid 98 = .ok (.ior, 1) := by decide +kernel
theorem dX7_findSaid_99 : decode cX7_findSaid 99 = .ok (.putfield 208, 3) := by decide +kernel
theorem dX7_findSaid_102 : decode cX7_findSaid 102 = .ok (.iload 4, 2) := by decide +kernel
theorem dX7_findSaid_104 : decode cX7_findSaid 104 = .ok (.iload_n 3, 1) := by decide +kernel
theorem dX7_findSaid_105 : decode cX7_findSaid 105 = .ok (.ixor, 1) := by decide +kernel
theorem dX7_findSaid_106 : decode cX7_findSaid 106 = .ok (.invokestatic 162, 3) := by decide +kernel
theorem dX7_findSaid_109 : decode cX7_findSaid 109 = .ok (.istore 5, 2) := by decide +kernel
theorem dX7_findSaid_111 : decode cX7_findSaid 111 = .ok (.aload_n 0, 1) := by decide +kernel
theorem dX7_findSaid_112 : decode cX7_findSaid 112 = .ok (.iload 5, 2) := by decide +kernel
theorem dX7_findSaid_114 : decode cX7_findSaid 114 = .ok (.aload_n 0, 1) := by decide +kernel
theorem dX7_findSaid_115 : decode cX7_findSaid 115 = .ok (.getfield 211, 3) := by decide +kernel
theorem dX7_findSaid_118 : decode cX7_findSaid 118 = .ok (.if_icmp .ge 8, 3) := by decide +kernel
theorem dX7_findSaid_121 : decode cX7_findSaid 121 = .ok (.iload 5, 2) := by decide +kernel
theorem dX7_findSaid_123 : decode cX7_findSaid 123 = .ok (.goto 7, 3) := by decide +kernel
theorem dX7_findSaid_126 : decode cX7_findSaid 126 = .ok (.aload_n 0, 1) := by decide +kernel
theorem dX7_findSaid_127 : decode cX7_findSaid 127 = .ok (.getfield 211, 3) := by decide +kernel
theorem dX7_findSaid_130 : decode cX7_findSaid 130 = .ok (.putfield 211, 3) := by decide +kernel
theorem dX7_findSaid_133 : decode cX7_findSaid 133 = .ok (.iinc 4 1, 3) := by decide +kernel
theorem dX7_findSaid_136 : decode cX7_findSaid 136 = .ok (.goto (-105), 3) := by decide +kernel
theorem dX7_findSaid_139 : decode cX7_findSaid 139 = .ok (.return_, 1) := by decide +kernel
theorem dX7_many_0 : decode cX7_many 0 = .ok (.aload_n 0, 1) := by decide +kernel
theorem dX7_many_1 : decode cX7_many 1 = .ok (.iload_n 1, 1) := by decide +kernel
theorem dX7_many_2 : decode cX7_many 2 = .ok (.invokevirtual 76, 3) := by decide +kernel
theorem dX7_many_5 : decode cX7_many 5 = .ok (.ifCond .eq 10, 3) := by decide +kernel
theorem dX7_many_8 : decode cX7_many 8 = .ok (.iload_n 2, 1) := by decide +kernel
theorem dX7_many_9 : decode cX7_many 9 = .ok (.invokestatic 60, 3) := by decide +kernel
theorem dX7_many_12 : decode cX7_many 12 = .ok (.ifCond .ne 10, 3) := by decide +kernel
theorem dX7_many_15 : decode cX7_many 15 = .ok (.aload_n 0, 1) := by decide +kernel
theorem dX7_many_16 : decode cX7_many 16 = .ok (.ldc 40, 2) := by decide +kernel
theorem dX7_many_18 : decode cX7_many 18 = .ok (.invokevirtual 68, 3) := by decide +kernel
theorem dX7_many_21 : decode cX7_many 21 = .ok (.ireturn, 1) := by decide +kernel
theorem dX7_many_22 : decode cX7_many 22 = .ok (.aload_n 0, 1) := by decide +kernel
theorem dX7_many_23 : decode cX7_many 23 = .ok (.iload_n 1, 1) := by decide +kernel
theorem dX7_many_24 : decode cX7_many 24 = .ok (.iload_n 2, 1) := by decide +kernel
theorem dX7_many_25 : decode cX7_many 25 = .ok (.iconst 0, 1) := by decide +kernel
theorem dX7_many_26 : decode cX7_many 26 = .ok (.invokevirtual 214, 3) := by decide +kernel
theorem dX7_many_29 : decode cX7_many 29 = .ok (.aload_n 0, 1) := by decide +kernel
theorem dX7_many_30 : decode cX7_many 30 = .ok (.getfield 199, 3) := by decide +kernel
theorem dX7_many_33 : decode cX7_many 33 = .ok (.ireturn, 1) := by decide +kernel
theorem dX7_said_0 : decode cX7_said 0 = .ok (.aload_n 0, 1) := by decide +kernel
theorem dX7_said_1 : decode cX7_said 1 = .ok (.iload_n 1, 1) := by decide +kernel
theorem dX7_said_2 : decode cX7_said 2 = .ok (.invokevirtual 76, 3) := by decide +kernel
theorem dX7_said_5 : decode cX7_said 5 = .ok (.ifCond .eq 22, 3) := by decide +kernel
theorem dX7_said_8 : decode cX7_said 8 = .ok (.iload_n 2, 1) := by decide +kernel
theorem dX7_said_9 : decode cX7_said 9 = .ok (.invokestatic 60, 3) := by decide +kernel
theorem dX7_said_12 : decode cX7_said 12 = .ok (.ifCond .eq 15, 3) := by decide +kernel
theorem dX7_said_15 : decode cX7_said 15 = .ok (.iload_n 3, 1) := by decide +kernel
theorem dX7_said_16 : decode cX7_said 16 = .ok (.i2l, 1) := by decide +kernel
theorem dX7_said_17 : decode cX7_said 17 = .ok (.lconst 0, 1) := by decide +kernel
theorem dX7_said_18 : decode cX7_said 18 = .ok (.ldc2_w 218, 3) := by decide +kernel
theorem dX7_said_21 : decode cX7_said 21 = .ok (.invokestatic 43, 3) := by decide +kernel
theorem dX7_said_24 : decode cX7_said 24 = .ok (.ifCond .ne 10, 3) := by decide +kernel
theorem dX7_said_27 : decode cX7_said 27 = .ok (.aload_n 0, 1) := by decide +kernel
theorem dX7_said_28 : decode cX7_said 28 = .ok (.ldc 40, 2) := by decide +kernel
theorem dX7_said_30 : decode cX7_said 30 = .ok (.invokevirtual 68, 3) := by decide +kernel
theorem dX7_said_33 : decode cX7_said 33 = .ok (.ireturn, 1) := by decide +kernel
theorem dX7_said_34 : decode cX7_said 34 = .ok (.aload_n 0, 1) := by decide +kernel
theorem dX7_said_35 : decode cX7_said 35 = .ok (.iload_n 1, 1) := by decide +kernel
theorem dX7_said_36 : decode cX7_said 36 = .ok (.iload_n 2, 1) := by decide +kernel
theorem dX7_said_37 : decode cX7_said 37 = .ok (.iconst 0, 1) := by decide +kernel
theorem dX7_said_38 : decode cX7_said 38 = .ok (.invokevirtual 214, 3) := by decide +kernel
theorem dX7_said_41 : decode cX7_said 41 = .ok (.aload_n 0, 1) := by decide +kernel
theorem dX7_said_42 : decode cX7_said 42 = .ok (.getfield 199, 3) := by decide +kernel
theorem dX7_said_45 : decode cX7_said 45 = .ok (.ifCond .ne 10, 3) := by decide +kernel
theorem dX7_said_48 : decode cX7_said 48 = .ok (.aload_n 0, 1) := by decide +kernel
theorem dX7_said_49 : decode cX7_said 49 = .ok (.ldc 195, 2) := by decide +kernel
theorem dX7_said_51 : decode cX7_said 51 = .ok (.invokevirtual 68, 3) := by decide +kernel
theorem dX7_said_54 : decode cX7_said 54 = .ok (.ireturn, 1) := by decide +kernel
theorem dX7_said_55 : decode cX7_said 55 = .ok (.iload_n 3, 1) := by decide +kernel
theorem dX7_said_56 : decode cX7_said 56 = .ok (.ifCond .ne 10, 3) := by decide +kernel
theorem dX7_said_59 : decode cX7_said 59 = .ok (.aload_n 0, 1) := by decide +kernel
theorem dX7_said_60 : decode cX7_said 60 = .ok (.getfield 202, 3) := by decide +kernel
theorem dX7_said_63 : decode cX7_said 63 = .ok (.goto 19, 3) := by decide +kernel
theorem dX7_said_66 : decode cX7_said 66 = .ok (.iload_n 3, 1) := by decide +kernel
theorem dX7_said_67 : decode cX7_said 67 = .ok (.iconst 1, 1) := by decide +kernel
theorem dX7_said_68 : decode cX7_said 68 = .ok (.if_icmp .ne 10, 3) := by decide +kernel
theorem dX7_said_71 : decode cX7_said 71 = .ok (.aload_n 0, 1) := by decide +kernel
theorem dX7_said_72 : decode cX7_said 72 = .ok (.getfield 205, 3) := by decide +kernel
theorem dX7_said_75 : decode cX7_said 75 = .ok (.goto 7, 3) := by decide +kernel
theorem dX7_said_78 : decode cX7_said 78 = .ok (.aload_n 0, 1) := by decide +kernel
theorem dX7_said_79 : decode cX7_said 79 = .ok (.getfield 208, 3) := by decide +kernel
theorem dX7_said_82 : decode cX7_said 82 = .ok (.ireturn, 1) := by decide +kernel
theorem dX7_hands_0 : decode cX7_hands 0 = .ok (.iload_n 1, 1) := by decide +kernel
theorem dX7_hands_1 : decode cX7_hands 1 = .ok (.invokestatic 60, 3) := by decide +kernel
theorem dX7_hands_4 : decode cX7_hands 4 = .ok (.ifCond .ne 10, 3) := by decide +kernel
theorem dX7_hands_7 : decode cX7_hands 7 = .ok (.aload_n 0, 1) := by decide +kernel
theorem dX7_hands_8 : decode cX7_hands 8 = .ok (.ldc 40, 2) := by decide +kernel
theorem dX7_hands_10 : decode cX7_hands 10 = .ok (.invokevirtual 68, 3) := by decide +kernel
theorem dX7_hands_13 : decode cX7_hands 13 = .ok (.ireturn, 1) := by decide +kernel
theorem dX7_hands_14 : decode cX7_hands 14 = .ok (.iconst 0, 1) := by decide +kernel
theorem dX7_hands_15 : decode cX7_hands 15 = .ok (.istore_n 2, 1) := by decide +kernel
theorem dX7_hands_16 : decode cX7_hands 16 = .ok (.iconst 0, 1) := by decide +kernel
theorem dX7_hands_17 : decode cX7_hands 17 = .ok (.istore_n 3, 1) := by decide +kernel
theorem dX7_hands_18 : decode cX7_hands 18 = .ok (.iload_n 3, 1) := by decide +kernel
theorem dX7_hands_19 : decode cX7_hands 19 = .ok (.aload_n 0, 1) := by decide +kernel
theorem dX7_hands_20 : decode cX7_hands 20 = .ok (.getfield 7, 3) := by decide +kernel
theorem dX7_hands_23 : decode cX7_hands 23 = .ok (.iconst 0, 1) := by decide +kernel
theorem dX7_hands_24 : decode cX7_hands 24 = .ok (.iaload, 1) := by decide +kernel
theorem dX7_hands_25 : decode cX7_hands 25 = .ok (.if_icmp .ge 33, 3) := by decide +kernel
theorem dX7_hands_28 : decode cX7_hands 28 = .ok (.aload_n 0, 1) := by decide +kernel
theorem dX7_hands_29 : decode cX7_hands 29 = .ok (.iload_n 3, 1) := by decide +kernel
theorem dX7_hands_30 : decode cX7_hands 30 = .ok (.iload_n 1, 1) := by decide +kernel
theorem dX7_hands_31 : decode cX7_hands 31 = .ok (.iconst 0, 1) := by decide +kernel
theorem dX7_hands_32 : decode cX7_hands 32 = .ok (.invokevirtual 214, 3) := by decide +kernel
theorem dX7_hands_35 : decode cX7_hands 35 = .ok (.iload_n 2, 1) := by decide +kernel
theorem dX7_hands_36 : decode cX7_hands 36 = .ok (.aload_n 0, 1) := by decide +kernel
theorem dX7_hands_37 : decode cX7_hands 37 = .ok (.getfield 199, 3) := by decide +kernel
theorem dX7_hands_40 : decode cX7_hands 40 = .ok (.ifCond .le 9, 3) := by decide +kernel
theorem dX7_hands_43 : decode cX7_hands 43 = .ok (.iconst 1, 1) := by decide +kernel
theorem dX7_hands_44 : decode cX7_hands 44 = .ok (.iload_n 3, 1) := by decide +kernel
theorem dX7_hands_45 : decode cX7_hands 45 = .ok (.ishl, 1) := by decide +kernel
theorem dX7_hands_46 : decode cX7_hands 46 = .ok (.goto 4, 3) := by decide +kernel
theorem dX7_hands_49 : decode cX7_hands 49 = .ok (.iconst 0, 1) := by decide +kernel
theorem dX7_hands_50 : decode cX7_hands 50 = .ok (.ior, 1) := by decide +kernel
theorem dX7_hands_51 : decode cX7_hands 51 = .ok (.istore_n 2, 1) := by decide +kernel
theorem dX7_hands_52 : decode cX7_hands 52 = .ok (.iinc 3 1, 3) := by decide +kernel
theorem dX7_hands_55 : decode cX7_hands 55 = .ok (.goto (-37), 3) := by decide +kernel
theorem dX7_hands_58 : decode cX7_hands 58 = .ok (.iload_n 2, 1) := by decide +kernel
theorem dX7_hands_59 : decode cX7_hands 59 = .ok (.ireturn, 1) := by decide +kernel
theorem dX7_likeliest_0 : decode cX7_likeliest 0 = .ok (.iload_n 1, 1) := by decide +kernel
theorem dX7_likeliest_1 : decode cX7_likeliest 1 = .ok (.invokestatic 60, 3) := by decide +kernel
theorem dX7_likeliest_4 : decode cX7_likeliest 4 = .ok (.ifCond .ne 10, 3) := by decide +kernel
theorem dX7_likeliest_7 : decode cX7_likeliest 7 = .ok (.aload_n 0, 1) := by decide +kernel
theorem dX7_likeliest_8 : decode cX7_likeliest 8 = .ok (.ldc 40, 2) := by decide +kernel
theorem dX7_likeliest_10 : decode cX7_likeliest 10 = .ok (.invokevirtual 68, 3) := by decide +kernel
theorem dX7_likeliest_13 : decode cX7_likeliest 13 = .ok (.ireturn, 1) := by decide +kernel
theorem dX7_likeliest_14 : decode cX7_likeliest 14 = .ok (.iconst (-1), 1) := by decide +kernel
theorem dX7_likeliest_15 : decode cX7_likeliest 15 = .ok (.istore_n 2, 1) := by decide +kernel
theorem dX7_likeliest_16 : decode cX7_likeliest 16 = .ok (.iconst 0, 1) := by decide +kernel
theorem dX7_likeliest_17 : decode cX7_likeliest 17 = .ok (.istore_n 3, 1) := by decide +kernel
theorem dX7_likeliest_18 : decode cX7_likeliest 18 = .ok (.iconst 0, 1) := by decide +kernel
