theorem dX0_init_0 : decode cX0_init 0 = .ok (.aload_n 0, 1) := by decide +kernel
theorem dX0_init_1 : decode cX0_init 1 = .ok (.invokespecial 3, 3) := by decide +kernel
theorem dX0_init_4 : decode cX0_init 4 = .ok (.aload_n 0, 1) := by decide +kernel
theorem dX0_init_5 : decode cX0_init 5 = .ok (.bipush 8, 2) := by decide +kernel
theorem dX0_init_7 : decode cX0_init 7 = .ok (.newarray .int, 2) := by decide +kernel
theorem dX0_init_9 : decode cX0_init 9 = .ok (.putfield 9, 3) := by decide +kernel
theorem dX0_init_12 : decode cX0_init 12 = .ok (.aload_n 0, 1) := by decide +kernel
theorem dX0_init_13 : decode cX0_init 13 = .ok (.bipush 8, 2) := by decide +kernel
theorem dX0_init_15 : decode cX0_init 15 = .ok (.newarray .int, 2) := by decide +kernel
theorem dX0_init_17 : decode cX0_init 17 = .ok (.putfield 15, 3) := by decide +kernel
theorem dX0_init_20 : decode cX0_init 20 = .ok (.aload_n 0, 1) := by decide +kernel
theorem dX0_init_21 : decode cX0_init 21 = .ok (.bipush 8, 2) := by decide +kernel
theorem dX0_init_23 : decode cX0_init 23 = .ok (.newarray .int, 2) := by decide +kernel
theorem dX0_init_25 : decode cX0_init 25 = .ok (.putfield 18, 3) := by decide +kernel
theorem dX0_init_28 : decode cX0_init 28 = .ok (.aload_n 0, 1) := by decide +kernel
theorem dX0_init_29 : decode cX0_init 29 = .ok (.bipush 8, 2) := by decide +kernel
theorem dX0_init_31 : decode cX0_init 31 = .ok (.newarray .int, 2) := by decide +kernel
theorem dX0_init_33 : decode cX0_init 33 = .ok (.putfield 21, 3) := by decide +kernel
theorem dX0_init_36 : decode cX0_init 36 = .ok (.aload_n 0, 1) := by decide +kernel
theorem dX0_init_37 : decode cX0_init 37 = .ok (.bipush 8, 2) := by decide +kernel
theorem dX0_init_39 : decode cX0_init 39 = .ok (.newarray .int, 2) := by decide +kernel
theorem dX0_init_41 : decode cX0_init 41 = .ok (.putfield 24, 3) := by decide +kernel
theorem dX0_init_44 : decode cX0_init 44 = .ok (.aload_n 0, 1) := by decide +kernel
theorem dX0_init_45 : decode cX0_init 45 = .ok (.bipush 8, 2) := by decide +kernel
theorem dX0_init_47 : decode cX0_init 47 = .ok (.newarray .int, 2) := by decide +kernel
theorem dX0_init_49 : decode cX0_init 49 = .ok (.putfield 27, 3) := by decide +kernel
theorem dX0_init_52 : decode cX0_init 52 = .ok (.return_, 1) := by decide +kernel
theorem dX0_become_0 : decode cX0_become 0 = .ok (.aload_n 0, 1) := by decide +kernel
theorem dX0_become_1 : decode cX0_become 1 = .ok (.aload_n 1, 1) := by decide +kernel
theorem dX0_become_2 : decode cX0_become 2 = .ok (.getfield 30, 3) := by decide +kernel
theorem dX0_become_5 : decode cX0_become 5 = .ok (.putfield 30, 3) := by decide +kernel
theorem dX0_become_8 : decode cX0_become 8 = .ok (.aload_n 1, 1) := by decide +kernel
theorem dX0_become_9 : decode cX0_become 9 = .ok (.getfield 9, 3) := by decide +kernel
theorem dX0_become_12 : decode cX0_become 12 = .ok (.iconst 0, 1) := by decide +kernel
theorem dX0_become_13 : decode cX0_become 13 = .ok (.aload_n 0, 1) := by decide +kernel
theorem dX0_become_14 : decode cX0_become 14 = .ok (.getfield 9, 3) := by decide +kernel
theorem dX0_become_17 : decode cX0_become 17 = .ok (.iconst 0, 1) := by decide +kernel
theorem dX0_become_18 : decode cX0_become 18 = .ok (.bipush 8, 2) := by decide +kernel
theorem dX0_become_20 : decode cX0_become 20 = .ok (.invokestatic 34, 3) := by decide +kernel
theorem dX0_become_23 : decode cX0_become 23 = .ok (.aload_n 1, 1) := by decide +kernel
theorem dX0_become_24 : decode cX0_become 24 = .ok (.getfield 15, 3) := by decide +kernel
theorem dX0_become_27 : decode cX0_become 27 = .ok (.iconst 0, 1) := by decide +kernel
theorem dX0_become_28 : decode cX0_become 28 = .ok (.aload_n 0, 1) := by decide +kernel
theorem dX0_become_29 : decode cX0_become 29 = .ok (.getfield 15, 3) := by decide +kernel
theorem dX0_become_32 : decode cX0_become 32 = .ok (.iconst 0, 1) := by decide +kernel
theorem dX0_become_33 : decode cX0_become 33 = .ok (.bipush 8, 2) := by decide +kernel
theorem dX0_become_35 : decode cX0_become 35 = .ok (.invokestatic 34, 3) := by decide +kernel
theorem dX0_become_38 : decode cX0_become 38 = .ok (.aload_n 1, 1) := by decide +kernel
theorem dX0_become_39 : decode cX0_become 39 = .ok (.getfield 18, 3) := by decide +kernel
theorem dX0_become_42 : decode cX0_become 42 = .ok (.iconst 0, 1) := by decide +kernel
theorem dX0_become_43 : decode cX0_become 43 = .ok (.aload_n 0, 1) := by decide +kernel
theorem dX0_become_44 : decode cX0_become 44 = .ok (.getfield 18, 3) := by decide +kernel
theorem dX0_become_47 : decode cX0_become 47 = .ok (.iconst 0, 1) := by decide +kernel
theorem dX0_become_48 : decode cX0_become 48 = .ok (.bipush 8, 2) := by decide +kernel
theorem dX0_become_50 : decode cX0_become 50 = .ok (.invokestatic 34, 3) := by decide +kernel
theorem dX0_become_53 : decode cX0_become 53 = .ok (.aload_n 1, 1) := by decide +kernel
theorem dX0_become_54 : decode cX0_become 54 = .ok (.getfield 21, 3) := by decide +kernel
theorem dX0_become_57 : decode cX0_become 57 = .ok (.iconst 0, 1) := by decide +kernel
theorem dX0_become_58 : decode cX0_become 58 = .ok (.aload_n 0, 1) := by decide +kernel
theorem dX0_become_59 : decode cX0_become 59 = .ok (.getfield 21, 3) := by decide +kernel
theorem dX0_become_62 : decode cX0_become 62 = .ok (.iconst 0, 1) := by decide +kernel
theorem dX0_become_63 : decode cX0_become 63 = .ok (.bipush 8, 2) := by decide +kernel
theorem dX0_become_65 : decode cX0_become 65 = .ok (.invokestatic 34, 3) := by decide +kernel
theorem dX0_become_68 : decode cX0_become 68 = .ok (.aload_n 1, 1) := by decide +kernel
theorem dX0_become_69 : decode cX0_become 69 = .ok (.getfield 24, 3) := by decide +kernel
theorem dX0_become_72 : decode cX0_become 72 = .ok (.iconst 0, 1) := by decide +kernel
theorem dX0_become_73 : decode cX0_become 73 = .ok (.aload_n 0, 1) := by decide +kernel
theorem dX0_become_74 : decode cX0_become 74 = .ok (.getfield 24, 3) := by decide +kernel
theorem dX0_become_77 : decode cX0_become 77 = .ok (.iconst 0, 1) := by decide +kernel
theorem dX0_become_78 : decode cX0_become 78 = .ok (.bipush 8, 2) := by decide +kernel
theorem dX0_become_80 : decode cX0_become 80 = .ok (.invokestatic 34, 3) := by decide +kernel
theorem dX0_become_83 : decode cX0_become 83 = .ok (.aload_n 1, 1) := by decide +kernel
theorem dX0_become_84 : decode cX0_become 84 = .ok (.getfield 27, 3) := by decide +kernel
theorem dX0_become_87 : decode cX0_become 87 = .ok (.iconst 0, 1) := by decide +kernel
theorem dX0_become_88 : decode cX0_become 88 = .ok (.aload_n 0, 1) := by decide +kernel
theorem dX0_become_89 : decode cX0_become 89 = .ok (.getfield 27, 3) := by decide +kernel
theorem dX0_become_92 : decode cX0_become 92 = .ok (.iconst 0, 1) := by decide +kernel
theorem dX0_become_93 : decode cX0_become 93 = .ok (.bipush 8, 2) := by decide +kernel
theorem dX0_become_95 : decode cX0_become 95 = .ok (.invokestatic 34, 3) := by decide +kernel
theorem dX0_become_98 : decode cX0_become 98 = .ok (.return_, 1) := by decide +kernel
theorem dX0_has_0 : decode cX0_has 0 = .ok (.iload_n 1, 1) := by decide +kernel
theorem dX0_has_1 : decode cX0_has 1 = .ok (.ifCond .lt 15, 3) := by decide +kernel
theorem dX0_has_4 : decode cX0_has 4 = .ok (.iload_n 1, 1) := by decide +kernel
theorem dX0_has_5 : decode cX0_has 5 = .ok (.aload_n 0, 1) := by decide +kernel
theorem dX0_has_6 : decode cX0_has 6 = .ok (.getfield 30, 3) := by decide +kernel
theorem dX0_has_9 : decode cX0_has 9 = .ok (.if_icmp .ge 7, 3) := by decide +kernel
theorem dX0_has_12 : decode cX0_has 12 = .ok (.iconst 1, 1) := by decide +kernel
theorem dX0_has_13 : decode cX0_has 13 = .ok (.goto 4, 3) := by decide +kernel
theorem dX0_has_16 : decode cX0_has 16 = .ok (.iconst 0, 1) := by decide +kernel
theorem dX0_has_17 : decode cX0_has 17 = .ok (.ireturn, 1) := by decide +kernel
theorem dX0_areTwo_0 : decode cX0_areTwo 0 = .ok (.aload_n 0, 1) := by decide +kernel
theorem dX0_areTwo_1 : decode cX0_areTwo 1 = .ok (.iload_n 1, 1) := by decide +kernel
theorem dX0_areTwo_2 : decode cX0_areTwo 2 = .ok (.invokevirtual 40, 3) := by decide +kernel
theorem dX0_areTwo_5 : decode cX0_areTwo 5 = .ok (.ifCond .eq 20, 3) := by decide +kernel
theorem dX0_areTwo_8 : decode cX0_areTwo 8 = .ok (.aload_n 0, 1) := by decide +kernel
theorem dX0_areTwo_9 : decode cX0_areTwo 9 = .ok (.iload_n 2, 1) := by decide +kernel
theorem dX0_areTwo_10 : decode cX0_areTwo 10 = .ok (.invokevirtual 40, 3) := by decide +kernel
theorem dX0_areTwo_13 : decode cX0_areTwo 13 = .ok (.ifCond .eq 12, 3) := by decide +kernel
theorem dX0_areTwo_16 : decode cX0_areTwo 16 = .ok (.iload_n 1, 1) := by decide +kernel
theorem dX0_areTwo_17 : decode cX0_areTwo 17 = .ok (.iload_n 2, 1) := by decide +kernel
theorem dX0_areTwo_18 : decode cX0_areTwo 18 = .ok (.if_icmp .eq 7, 3) := by decide +kernel
theorem dX0_areTwo_21 : decode cX0_areTwo 21 = .ok (.iconst 1, 1) := by decide +kernel
theorem dX0_areTwo_22 : decode cX0_areTwo 22 = .ok (.goto 4, 3) := by decide +kernel
theorem dX0_areTwo_25 : decode cX0_areTwo 25 = .ok (.iconst 0, 1) := by decide +kernel
theorem dX0_areTwo_26 : decode cX0_areTwo 26 = .ok (.ireturn, 1) := by decide +kernel
theorem dX0_addOne_0 : decode cX0_addOne 0 = .ok (.aload_n 0, 1) := by decide +kernel
theorem dX0_addOne_1 : decode cX0_addOne 1 = .ok (.getfield 30, 3) := by decide +kernel
theorem dX0_addOne_4 : decode cX0_addOne 4 = .ok (.bipush 8, 2) := by decide +kernel
theorem dX0_addOne_6 : decode cX0_addOne 6 = .ok (.if_icmp .lt 5, 3) := by decide +kernel
theorem dX0_addOne_9 : decode cX0_addOne 9 = .ok (.iconst (-1), 1) := by decide +kernel
theorem dX0_addOne_10 : decode cX0_addOne 10 = .ok (.ireturn, 1) := by decide +kernel
theorem dX0_addOne_11 : decode cX0_addOne 11 = .ok (.aload_n 0, 1) := by decide +kernel
theorem dX0_addOne_12 : decode cX0_addOne 12 = .ok (.getfield 30, 3) := by decide +kernel
theorem dX0_addOne_15 : decode cX0_addOne 15 = .ok (.istore_n 2, 1) := by decide +kernel
theorem dX0_addOne_16 : decode cX0_addOne 16 = .ok (.aload_n 0, 1) := by decide +kernel
theorem dX0_addOne_17 : decode cX0_addOne 17 = .ok (.dup, 1) := by decide +kernel
theorem dX0_addOne_18 : decode cX0_addOne 18 = .ok (.getfield 30, 3) := by decide +kernel
theorem dX0_addOne_21 : decode cX0_addOne 21 = .ok (.iconst 1, 1) := by decide +kernel
theorem dX0_addOne_22 : decode cX0_addOne 22 = .ok (.iadd, 1) := by decide +kernel
theorem dX0_addOne_23 : decode cX0_addOne 23 = .ok (.putfield 30, 3) := by decide +kernel
theorem dX0_addOne_26 : decode cX0_addOne 26 = .ok (.aload_n 0, 1) := by decide +kernel
theorem dX0_addOne_27 : decode cX0_addOne 27 = .ok (.getfield 9, 3) := by decide +kernel
theorem dX0_addOne_30 : decode cX0_addOne 30 = .ok (.iload_n 2, 1) := by decide +kernel
theorem dX0_addOne_31 : decode cX0_addOne 31 = .ok (.iconst 0, 1) := by decide +kernel
theorem dX0_addOne_32 : decode cX0_addOne 32 = .ok (.iastore, 1) := by decide +kernel
theorem dX0_addOne_33 : decode cX0_addOne 33 = .ok (.aload_n 0, 1) := by decide +kernel
theorem dX0_addOne_34 : decode cX0_addOne 34 = .ok (.getfield 15, 3) := by decide +kernel
theorem dX0_addOne_37 : decode cX0_addOne 37 = .ok (.iload_n 2, 1) := by decide +kernel
theorem dX0_addOne_38 : decode cX0_addOne 38 = .ok (.iconst 0, 1) := by decide +kernel
theorem dX0_addOne_39 : decode cX0_addOne 39 = .ok (.iastore, 1) := by decide +kernel
theorem dX0_addOne_40 : decode cX0_addOne 40 = .ok (.aload_n 0, 1) := by decide +kernel
theorem dX0_addOne_41 : decode cX0_addOne 41 = .ok (.getfield 18, 3) := by decide +kernel
theorem dX0_addOne_44 : decode cX0_addOne 44 = .ok (.iload_n 2, 1) := by decide +kernel
theorem dX0_addOne_45 : decode cX0_addOne 45 = .ok (.iload_n 1, 1) := by decide +kernel
theorem dX0_addOne_46 : decode cX0_addOne 46 = .ok (.iastore, 1) := by decide +kernel
theorem dX0_addOne_47 : decode cX0_addOne 47 = .ok (.aload_n 0, 1) := by decide +kernel
theorem dX0_addOne_48 : decode cX0_addOne 48 = .ok (.getfield 21, 3) := by decide +kernel
theorem dX0_addOne_51 : decode cX0_addOne 51 = .ok (.iload_n 2, 1) := by decide +kernel
theorem dX0_addOne_52 : decode cX0_addOne 52 = .ok (.bipush 100, 2) := by decide +kernel
theorem dX0_addOne_54 : decode cX0_addOne 54 = .ok (.iastore, 1) := by decide +kernel
theorem dX0_addOne_55 : decode cX0_addOne 55 = .ok (.aload_n 0, 1) := by decide +kernel
theorem dX0_addOne_56 : decode cX0_addOne 56 = .ok (.getfield 24, 3) := by decide +kernel
theorem dX0_addOne_59 : decode cX0_addOne 59 = .ok (.iload_n 2, 1) := by decide +kernel
theorem dX0_addOne_60 : decode cX0_addOne 60 = .ok (.iconst 0, 1) := by decide +kernel
theorem dX0_addOne_61 : decode cX0_addOne 61 = .ok (.iastore, 1) := by decide +kernel
theorem dX0_addOne_62 : decode cX0_addOne 62 = .ok (.aload_n 0, 1) := by decide +kernel
theorem dX0_addOne_63 : decode cX0_addOne 63 = .ok (.getfield 27, 3) := by decide +kernel
theorem dX0_addOne_66 : decode cX0_addOne 66 = .ok (.iload_n 2, 1) := by decide +kernel
theorem dX0_addOne_67 : decode cX0_addOne 67 = .ok (.iconst 0, 1) := by decide +kernel
theorem dX0_addOne_68 : decode cX0_addOne 68 = .ok (.iastore, 1) := by decide +kernel
theorem dX0_addOne_69 : decode cX0_addOne 69 = .ok (.iload_n 2, 1) := by decide +kernel
theorem dX0_addOne_70 : decode cX0_addOne 70 = .ok (.ireturn, 1) := by decide +kernel
theorem dX0_row_0 : decode cX0_row 0 = .ok (.iload_n 1, 1) := by decide +kernel
theorem dX0_row_1 : decode cX0_row 1 = .ok (.tableswitch 60 0 4 #[35, 40, 45, 50, 55], 35) := by decide +kernel
theorem dX0_row_36 : decode cX0_row 36 = .ok (.aload_n 0, 1) := by decide +kernel
theorem dX0_row_37 : decode cX0_row 37 = .ok (.getfield 9, 3) := by decide +kernel
theorem dX0_row_40 : decode cX0_row 40 = .ok (.areturn, 1) := by decide +kernel
theorem dX0_row_41 : decode cX0_row 41 = .ok (.aload_n 0, 1) := by decide +kernel
theorem dX0_row_42 : decode cX0_row 42 = .ok (.getfield 15, 3) := by decide +kernel
theorem dX0_row_45 : decode cX0_row 45 = .ok (.areturn, 1) := by decide +kernel
theorem dX0_row_46 : decode cX0_row 46 = .ok (.aload_n 0, 1) := by decide +kernel
theorem dX0_row_47 : decode cX0_row 47 = .ok (.getfield 18, 3) := by decide +kernel
theorem dX0_row_50 : decode cX0_row 50 = .ok (.areturn, 1) := by decide +kernel
theorem dX0_row_51 : decode cX0_row 51 = .ok (.aload_n 0, 1) := by decide +kernel
theorem dX0_row_52 : decode cX0_row 52 = .ok (.getfield 21, 3) := by decide +kernel
theorem dX0_row_55 : decode cX0_row 55 = .ok (.areturn, 1) := by decide +kernel
theorem dX0_row_56 : decode cX0_row 56 = .ok (.aload_n 0, 1) := by decide +kernel
theorem dX0_row_57 : decode cX0_row 57 = .ok (.getfield 24, 3) := by decide +kernel
theorem dX0_row_60 : decode cX0_row 60 = .ok (.areturn, 1) := by decide +kernel
theorem dX0_row_61 : decode cX0_row 61 = .ok (.aconst_null, 1) := by decide +kernel
theorem dX0_row_62 : decode cX0_row 62 = .ok (.areturn, 1) := by decide +kernel
theorem dX0_isTied_0 : decode cX0_isTied 0 = .ok (.aload_n 0, 1) := by decide +kernel
theorem dX0_isTied_1 : decode cX0_isTied 1 = .ok (.getfield 27, 3) := by decide +kernel
theorem dX0_isTied_4 : decode cX0_isTied 4 = .ok (.iload_n 1, 1) := by decide +kernel
theorem dX0_isTied_5 : decode cX0_isTied 5 = .ok (.iaload, 1) := by decide +kernel
theorem dX0_isTied_6 : decode cX0_isTied 6 = .ok (.iconst 1, 1) := by decide +kernel
theorem dX0_isTied_7 : decode cX0_isTied 7 = .ok (.iload_n 2, 1) := by decide +kernel
theorem dX0_isTied_8 : decode cX0_isTied 8 = .ok (.ishl, 1) := by decide +kernel
theorem dX0_isTied_9 : decode cX0_isTied 9 = .ok (.iand, 1) := by decide +kernel
theorem dX0_isTied_10 : decode cX0_isTied 10 = .ok (.ifCond .eq 7, 3) := by decide +kernel
theorem dX0_isTied_13 : decode cX0_isTied 13 = .ok (.iconst 1, 1) := by decide +kernel
theorem dX0_isTied_14 : decode cX0_isTied 14 = .ok (.goto 4, 3) := by decide +kernel
theorem dX0_isTied_17 : decode cX0_isTied 17 = .ok (.iconst 0, 1) := by decide +kernel
theorem dX0_isTied_18 : decode cX0_isTied 18 = .ok (.ireturn, 1) := by decide +kernel
theorem dX0_bind_0 : decode cX0_bind 0 = .ok (.iload_n 3, 1) := by decide +kernel
theorem dX0_bind_1 : decode cX0_bind 1 = .ok (.ifCond .eq 30, 3) := by decide +kernel
theorem dX0_bind_4 : decode cX0_bind 4 = .ok (.aload_n 0, 1) := by decide +kernel
theorem dX0_bind_5 : decode cX0_bind 5 = .ok (.getfield 27, 3) := by decide +kernel
theorem dX0_bind_8 : decode cX0_bind 8 = .ok (.iload_n 1, 1) := by decide +kernel
theorem dX0_bind_9 : decode cX0_bind 9 = .ok (.dup2, 1) := by decide +kernel
theorem dX0_bind_10 : decode cX0_bind 10 = .ok (.iaload, 1) := by decide +kernel
theorem dX0_bind_11 : decode cX0_bind 11 = .ok (.iconst 1, 1) := by decide +kernel
theorem dX0_bind_12 : decode cX0_bind 12 = .ok (.iload_n 2, 1) := by decide +kernel
theorem dX0_bind_13 : decode cX0_bind 13 = .ok (.ishl, 1) := by decide +kernel
theorem dX0_bind_14 : decode cX0_bind 14 = .ok (.ior, 1) := by decide +kernel
theorem dX0_bind_15 : decode cX0_bind 15 = .ok (.iastore, 1) := by decide +kernel
theorem dX0_bind_16 : decode cX0_bind 16 = .ok (.aload_n 0, 1) := by decide +kernel
theorem dX0_bind_17 : decode cX0_bind 17 = .ok (.getfield 27, 3) := by decide +kernel
theorem dX0_bind_20 : decode cX0_bind 20 = .ok (.iload_n 2, 1) := by decide +kernel
theorem dX0_bind_21 : decode cX0_bind 21 = .ok (.dup2, 1) := by decide +kernel
theorem dX0_bind_22 : decode cX0_bind 22 = .ok (.iaload, 1) := by decide +kernel
theorem dX0_bind_23 : decode cX0_bind 23 = .ok (.iconst 1, 1) := by decide +kernel
theorem dX0_bind_24 : decode cX0_bind 24 = .ok (.iload_n 1, 1) := by decide +kernel
theorem dX0_bind_25 : decode cX0_bind 25 = .ok (.ishl, 1) := by decide +kernel
theorem dX0_bind_26 : decode cX0_bind 26 = .ok (.ior, 1) := by decide +kernel
theorem dX0_bind_27 : decode cX0_bind 27 = .ok (.iastore, 1) := by decide +kernel
theorem dX0_bind_28 : decode cX0_bind 28 = .ok (.goto 31, 3) := by decide +kernel
theorem dX0_bind_31 : decode cX0_bind 31 = .ok (.aload_n 0, 1) := by decide +kernel
theorem dX0_bind_32 : decode cX0_bind 32 = .ok (.getfield 27, 3) := by decide +kernel
theorem dX0_bind_35 : decode cX0_bind 35 = .ok (.iload_n 1, 1) := by decide +kernel
theorem dX0_bind_36 : decode cX0_bind 36 = .ok (.dup2, 1) := by decide +kernel
theorem dX0_bind_37 : decode cX0_bind 37 = .ok (.iaload, 1) := by decide +kernel
theorem dX0_bind_38 : decode cX0_bind 38 = .ok (.iconst 1, 1) := by decide +kernel
theorem dX0_bind_39 : decode cX0_bind 39 = .ok (.iload_n 2, 1) := by decide +kernel
theorem dX0_bind_40 : decode cX0_bind 40 = .ok (.ishl, 1) := by decide +kernel
theorem dX0_bind_41 : decode cX0_bind 41 = .ok (.iconst (-1), 1) := by decide +kernel
theorem dX0_bind_42 : decode cX0_bind 42 = .ok (.ixor, 1) := by decide +kernel
theorem dX0_bind_43 : decode cX0_bind 43 = .ok (.iand, 1) := by decide +kernel
theorem dX0_bind_44 : decode cX0_bind 44 = .ok (.iastore, 1) := by decide +kernel
theorem dX0_bind_45 : decode cX0_bind 45 = .ok (.aload_n 0, 1) := by decide +kernel
theorem dX0_bind_46 : decode cX0_bind 46 = .ok (.getfield 27, 3) := by decide +kernel
theorem dX0_bind_49 : decode cX0_bind 49 = .ok (.iload_n 2, 1) := by decide +kernel
theorem dX0_bind_50 : decode cX0_bind 50 = .ok (.dup2, 1) := by decide +kernel
theorem dX0_bind_51 : decode cX0_bind 51 = .ok (.iaload, 1) := by decide +kernel
theorem dX0_bind_52 : decode cX0_bind 52 = .ok (.iconst 1, 1) := by decide +kernel
theorem dX0_bind_53 : decode cX0_bind 53 = .ok (.iload_n 1, 1) := by decide +kernel
theorem dX0_bind_54 : decode cX0_bind 54 = .ok (.ishl, 1) := by decide +kernel
theorem dX0_bind_55 : decode cX0_bind 55 = .ok (.iconst (-1), 1) := by decide +kernel
theorem dX0_bind_56 : decode cX0_bind 56 = .ok (.ixor, 1) := by decide +kernel
theorem dX0_bind_57 : decode cX0_bind 57 = .ok (.iand, 1) := by decide +kernel
theorem dX0_bind_58 : decode cX0_bind 58 = .ok (.iastore, 1) := by decide +kernel
theorem dX0_bind_59 : decode cX0_bind 59 = .ok (.return_, 1) := by decide +kernel
theorem dX0_howManyTies_0 : decode cX0_howManyTies 0 = .ok (.iconst 0, 1) := by decide +kernel
theorem dX0_howManyTies_1 : decode cX0_howManyTies 1 = .ok (.istore_n 1, 1) := by decide +kernel
theorem dX0_howManyTies_2 : decode cX0_howManyTies 2 = .ok (.iconst 0, 1) := by decide +kernel
theorem dX0_howManyTies_3 : decode cX0_howManyTies 3 = .ok (.istore_n 2, 1) := by decide +kernel
theorem dX0_howManyTies_4 : decode cX0_howManyTies 4 = .ok (.iload_n 2, 1) := by decide +kernel
theorem dX0_howManyTies_5 : decode cX0_howManyTies 5 = .ok (.aload_n 0, 1) := by decide +kernel
theorem dX0_howManyTies_6 : decode cX0_howManyTies 6 = .ok (.getfield 30, 3) := by decide +kernel
theorem dX0_howManyTies_9 : decode cX0_howManyTies 9 = .ok (.if_icmp .ge 21, 3) := by decide +kernel
theorem dX0_howManyTies_12 : decode cX0_howManyTies 12 = .ok (.iload_n 1, 1) := by decide +kernel
theorem dX0_howManyTies_13 : decode cX0_howManyTies 13 = .ok (.aload_n 0, 1) := by decide +kernel
theorem dX0_howManyTies_14 : decode cX0_howManyTies 14 = .ok (.getfield 27, 3) := by decide +kernel
theorem dX0_howManyTies_17 : decode cX0_howManyTies 17 = .ok (.iload_n 2, 1) := by decide +kernel
theorem dX0_howManyTies_18 : decode cX0_howManyTies 18 = .ok (.iaload, 1) := by decide +kernel
theorem dX0_howManyTies_19 : decode cX0_howManyTies 19 = .ok (.invokestatic 44, 3) := by decide +kernel
theorem dX0_howManyTies_22 : decode cX0_howManyTies 22 = .ok (.iadd, 1) := by decide +kernel
theorem dX0_howManyTies_23 : decode cX0_howManyTies 23 = .ok (.istore_n 1, 1) := by decide +kernel
theorem dX0_howManyTies_24 : decode cX0_howManyTies 24 = .ok (.iinc 2 1, 3) := by decide +kernel
theorem dX0_howManyTies_27 : decode cX0_howManyTies 27 = .ok (.goto (-23), 3) := by decide +kernel
theorem dX0_howManyTies_30 : decode cX0_howManyTies 30 = .ok (.iload_n 1, 1) := by decide +kernel
theorem dX0_howManyTies_31 : decode cX0_howManyTies 31 = .ok (.iconst 2, 1) := by decide +kernel
theorem dX0_howManyTies_32 : decode cX0_howManyTies 32 = .ok (.idiv, 1) := by decide +kernel
theorem dX0_howManyTies_33 : decode cX0_howManyTies 33 = .ok (.ireturn, 1) := by decide +kernel
theorem dX0_ownWords_0 : decode cX0_ownWords 0 = .ok (.aload_n 0, 1) := by decide +kernel
theorem dX0_ownWords_1 : decode cX0_ownWords 1 = .ok (.getfield 9, 3) := by decide +kernel
theorem dX0_ownWords_4 : decode cX0_ownWords 4 = .ok (.iload_n 1, 1) := by decide +kernel
theorem dX0_ownWords_5 : decode cX0_ownWords 5 = .ok (.iaload, 1) := by decide +kernel
theorem dX0_ownWords_6 : decode cX0_ownWords 6 = .ok (.aload_n 0, 1) := by decide +kernel
theorem dX0_ownWords_7 : decode cX0_ownWords 7 = .ok (.getfield 15, 3) := by decide +kernel
theorem dX0_ownWords_10 : decode cX0_ownWords 10 = .ok (.iload_n 1, 1) := by decide +kernel
theorem dX0_ownWords_11 : decode cX0_ownWords 11 = .ok (.iaload, 1) := by decide +kernel
theorem dX0_ownWords_12 : decode cX0_ownWords 12 = .ok (.ior, 1) := by decide +kernel
theorem dX0_ownWords_13 : decode cX0_ownWords 13 = .ok (.ireturn, 1) := by decide +kernel
theorem dX0_anyOf_0 : decode cX0_anyOf 0 = .ok (.iconst 0, 1) := by decide +kernel
theorem dX0_anyOf_1 : decode cX0_anyOf 1 = .ok (.istore_n 2, 1) := by decide +kernel
theorem dX0_anyOf_2 : decode cX0_anyOf 2 = .ok (.iconst 0, 1) := by decide +kernel
theorem dX0_anyOf_3 : decode cX0_anyOf 3 = .ok (.istore_n 3, 1) := by decide +kernel
theorem dX0_anyOf_4 : decode cX0_anyOf 4 = .ok (.iload_n 3, 1) := by decide +kernel
theorem dX0_anyOf_5 : decode cX0_anyOf 5 = .ok (.aload_n 0, 1) := by decide +kernel
theorem dX0_anyOf_6 : decode cX0_anyOf 6 = .ok (.getfield 30, 3) := by decide +kernel
theorem dX0_anyOf_9 : decode cX0_anyOf 9 = .ok (.if_icmp .ge 21, 3) := by decide +kernel
theorem dX0_anyOf_12 : decode cX0_anyOf 12 = .ok (.iload_n 3, 1) := by decide +kernel
theorem dX0_anyOf_13 : decode cX0_anyOf 13 = .ok (.aload_n 1, 1) := by decide +kernel
theorem dX0_anyOf_14 : decode cX0_anyOf 14 = .ok (.arraylength, 1) := by decide +kernel
theorem dX0_anyOf_15 : decode cX0_anyOf 15 = .ok (.if_icmp .ge 15, 3) := by decide +kernel
theorem dX0_anyOf_18 : decode cX0_anyOf 18 = .ok (.iload_n 2, 1) := by decide +kernel
theorem dX0_anyOf_19 : decode cX0_anyOf 19 = .ok (.aload_n 1, 1) := by decide +kernel
theorem dX0_anyOf_20 : decode cX0_anyOf 20 = .ok (.iload_n 3, 1) := by decide +kernel
theorem dX0_anyOf_21 : decode cX0_anyOf 21 = .ok (.iaload, 1) := by decide +kernel
theorem dX0_anyOf_22 : decode cX0_anyOf 22 = .ok (.ior, 1) := by decide +kernel
theorem dX0_anyOf_23 : decode cX0_anyOf 23 = .ok (.istore_n 2, 1) := by decide +kernel
theorem dX0_anyOf_24 : decode cX0_anyOf 24 = .ok (.iinc 3 1, 3) := by decide +kernel
theorem dX0_anyOf_27 : decode cX0_anyOf 27 = .ok (.goto (-23), 3) := by decide +kernel
theorem dX0_anyOf_30 : decode cX0_anyOf 30 = .ok (.iload_n 2, 1) := by decide +kernel
theorem dX0_anyOf_31 : decode cX0_anyOf 31 = .ok (.ireturn, 1) := by decide +kernel
theorem dX0_believedByAll_0 : decode cX0_believedByAll 0 = .ok (.aload_n 0, 1) := by decide +kernel
theorem dX0_believedByAll_1 : decode cX0_believedByAll 1 = .ok (.getfield 30, 3) := by decide +kernel
theorem dX0_believedByAll_4 : decode cX0_believedByAll 4 = .ok (.ifCond .ne 5, 3) := by decide +kernel
theorem dX0_believedByAll_7 : decode cX0_believedByAll 7 = .ok (.iconst 0, 1) := by decide +kernel
theorem dX0_believedByAll_8 : decode cX0_believedByAll 8 = .ok (.ireturn, 1) := by decide +kernel
theorem dX0_believedByAll_9 : decode cX0_believedByAll 9 = .ok (.sipush 4095, 3) := by decide +kernel
theorem dX0_believedByAll_12 : decode cX0_believedByAll 12 = .ok (.istore_n 1, 1) := by decide +kernel
theorem dX0_believedByAll_13 : decode cX0_believedByAll 13 = .ok (.iconst 0, 1) := by decide +kernel
theorem dX0_believedByAll_14 : decode cX0_believedByAll 14 = .ok (.istore_n 2, 1) := by decide +kernel
theorem dX0_believedByAll_15 : decode cX0_believedByAll 15 = .ok (.iload_n 2, 1) := by decide +kernel
theorem dX0_believedByAll_16 : decode cX0_believedByAll 16 = .ok (.aload_n 0, 1) := by decide +kernel
theorem dX0_believedByAll_17 : decode cX0_believedByAll 17 = .ok (.getfield 30, 3) := by decide +kernel
theorem dX0_believedByAll_20 : decode cX0_believedByAll 20 = .ok (.if_icmp .ge 18, 3) := by decide +kernel
theorem dX0_believedByAll_23 : decode cX0_believedByAll 23 = .ok (.iload_n 1, 1) := by decide +kernel
theorem dX0_believedByAll_24 : decode cX0_believedByAll 24 = .ok (.aload_n 0, 1) := by decide +kernel
theorem dX0_believedByAll_25 : decode cX0_believedByAll 25 = .ok (.getfield 15, 3) := by decide +kernel
theorem dX0_believedByAll_28 : decode cX0_believedByAll 28 = .ok (.iload_n 2, 1) := by decide +kernel
theorem dX0_believedByAll_29 : decode cX0_believedByAll 29 = .ok (.iaload, 1) := by decide +kernel
theorem dX0_believedByAll_30 : decode cX0_believedByAll 30 = .ok (.iand, 1) := by decide +kernel
theorem dX0_believedByAll_31 : decode cX0_believedByAll 31 = .ok (.istore_n 1, 1) := by decide +kernel
theorem dX0_believedByAll_32 : decode cX0_believedByAll 32 = .ok (.iinc 2 1, 3) := by decide +kernel
theorem dX0_believedByAll_35 : decode cX0_believedByAll 35 = .ok (.goto (-20), 3) := by decide +kernel
theorem dX0_believedByAll_38 : decode cX0_believedByAll 38 = .ok (.iload_n 1, 1) := by decide +kernel
theorem dX0_believedByAll_39 : decode cX0_believedByAll 39 = .ok (.ireturn, 1) := by decide +kernel
theorem dX0_believers_0 : decode cX0_believers 0 = .ok (.iconst 0, 1) := by decide +kernel
theorem dX0_believers_1 : decode cX0_believers 1 = .ok (.istore_n 2, 1) := by decide +kernel
theorem dX0_believers_2 : decode cX0_believers 2 = .ok (.iconst 0, 1) := by decide +kernel
theorem dX0_believers_3 : decode cX0_believers 3 = .ok (.istore_n 3, 1) := by decide +kernel
theorem dX0_believers_4 : decode cX0_believers 4 = .ok (.iload_n 3, 1) := by decide +kernel
theorem dX0_believers_5 : decode cX0_believers 5 = .ok (.aload_n 0, 1) := by decide +kernel
theorem dX0_believers_6 : decode cX0_believers 6 = .ok (.getfield 30, 3) := by decide +kernel
theorem dX0_believers_9 : decode cX0_believers 9 = .ok (.if_icmp .ge 28, 3) := by decide +kernel
theorem dX0_believers_12 : decode cX0_believers 12 = .ok (.aload_n 0, 1) := by decide +kernel
theorem dX0_believers_13 : decode cX0_believers 13 = .ok (.getfield 15, 3) := by decide +kernel
theorem dX0_believers_16 : decode cX0_believers 16 = .ok (.iload_n 3, 1) := by decide +kernel
theorem dX0_believers_17 : decode cX0_believers 17 = .ok (.iaload, 1) := by decide +kernel
theorem dX0_believers_18 : decode cX0_believers 18 = .ok (.iconst 1, 1) := by decide +kernel
theorem dX0_believers_19 : decode cX0_believers 19 = .ok (.iload_n 1, 1) := by decide +kernel
theorem dX0_believers_20 : decode cX0_believers 20 = .ok (.ishl, 1) := by decide +kernel
theorem dX0_believers_21 : decode cX0_believers 21 = .ok (.iand, 1) := by decide +kernel
theorem dX0_believers_22 : decode cX0_believers 22 = .ok (.ifCond .eq 9, 3) := by decide +kernel
theorem dX0_believers_25 : decode cX0_believers 25 = .ok (.iload_n 2, 1) := by decide +kernel
theorem dX0_believers_26 : decode cX0_believers 26 = .ok (.iconst 1, 1) := by decide +kernel
theorem dX0_believers_27 : decode cX0_believers 27 = .ok (.iload_n 3, 1) := by decide +kernel
theorem dX0_believers_28 : decode cX0_believers 28 = .ok (.ishl, 1) := by decide +kernel
theorem dX0_believers_29 : decode cX0_believers 29 = .ok (.ior, 1) := by decide +kernel
theorem dX0_believers_30 : decode cX0_believers 30 = .ok (.istore_n 2, 1) := by decide +kernel
theorem dX0_believers_31 : decode cX0_believers 31 = .ok (.iinc 3 1, 3) := by decide +kernel
theorem dX0_believers_34 : decode cX0_believers 34 = .ok (.goto (-30), 3) := by decide +kernel
theorem dX0_believers_37 : decode cX0_believers 37 = .ok (.iload_n 2, 1) := by decide +kernel
theorem dX0_believers_38 : decode cX0_believers 38 = .ok (.ireturn, 1) := by decide +kernel
theorem dX0_lies_0 : decode cX0_lies 0 = .ok (.aload_n 0, 1) := by decide +kernel
theorem dX0_lies_1 : decode cX0_lies 1 = .ok (.getfield 15, 3) := by decide +kernel
theorem dX0_lies_4 : decode cX0_lies 4 = .ok (.iload_n 1, 1) := by decide +kernel
theorem dX0_lies_5 : decode cX0_lies 5 = .ok (.iaload, 1) := by decide +kernel
theorem dX0_lies_6 : decode cX0_lies 6 = .ok (.aload_n 0, 1) := by decide +kernel
theorem dX0_lies_7 : decode cX0_lies 7 = .ok (.aload_n 0, 1) := by decide +kernel
theorem dX0_lies_8 : decode cX0_lies 8 = .ok (.getfield 9, 3) := by decide +kernel
theorem dX0_lies_11 : decode cX0_lies 11 = .ok (.invokevirtual 50, 3) := by decide +kernel
theorem dX0_lies_14 : decode cX0_lies 14 = .ok (.iconst (-1), 1) := by decide +kernel
theorem dX0_lies_15 : decode cX0_lies 15 = .ok (.ixor, 1) := by decide +kernel
theorem dX0_lies_16 : decode cX0_lies 16 = .ok (.iand, 1) := by decide +kernel
theorem dX0_lies_17 : decode cX0_lies 17 = .ok (.ireturn, 1) := by decide +kernel
theorem dX0_howManyLies_0 : decode cX0_howManyLies 0 = .ok (.aload_n 0, 1) := by decide +kernel
theorem dX0_howManyLies_1 : decode cX0_howManyLies 1 = .ok (.aload_n 0, 1) := by decide +kernel
theorem dX0_howManyLies_2 : decode cX0_howManyLies 2 = .ok (.getfield 9, 3) := by decide +kernel
theorem dX0_howManyLies_5 : decode cX0_howManyLies 5 = .ok (.invokevirtual 50, 3) := by decide +kernel
theorem dX0_howManyLies_8 : decode cX0_howManyLies 8 = .ok (.istore_n 1, 1) := by decide +kernel
theorem dX0_howManyLies_9 : decode cX0_howManyLies 9 = .ok (.iconst 0, 1) := by decide +kernel
theorem dX0_howManyLies_10 : decode cX0_howManyLies 10 = .ok (.istore_n 2, 1) := by decide +kernel
theorem dX0_howManyLies_11 : decode cX0_howManyLies 11 = .ok (.iconst 0, 1) := by decide +kernel
theorem dX0_howManyLies_12 : decode cX0_howManyLies 12 = .ok (.istore_n 3, 1) := by decide +kernel
theorem dX0_howManyLies_13 : decode cX0_howManyLies 13 = .ok (.iload_n 3, 1) := by decide +kernel
theorem dX0_howManyLies_14 : decode cX0_howManyLies 14 = .ok (.aload_n 0, 1) := by decide +kernel
theorem dX0_howManyLies_15 : decode cX0_howManyLies 15 = .ok (.getfield 30, 3) := by decide +kernel
theorem dX0_howManyLies_18 : decode cX0_howManyLies 18 = .ok (.if_icmp .ge 25, 3) := by decide +kernel
theorem dX0_howManyLies_21 : decode cX0_howManyLies 21 = .ok (.iload_n 2, 1) := by decide +kernel
theorem dX0_howManyLies_22 : decode cX0_howManyLies 22 = .ok (.aload_n 0, 1) := by decide +kernel
theorem dX0_howManyLies_23 : decode cX0_howManyLies 23 = .ok (.getfield 15, 3) := by decide +kernel
theorem dX0_howManyLies_26 : decode cX0_howManyLies 26 = .ok (.iload_n 3, 1) := by decide +kernel
theorem dX0_howManyLies_27 : decode cX0_howManyLies 27 = .ok (.iaload, 1) := by decide +kernel
theorem dX0_howManyLies_28 : decode cX0_howManyLies 28 = .ok (.iload_n 1, 1) := by decide +kernel
theorem dX0_howManyLies_29 : decode cX0_howManyLies 29 = .ok (.iconst (-1), 1) := by decide +kernel
theorem dX0_howManyLies_30 : decode cX0_howManyLies 30 = .ok (.ixor, 1) := by decide +kernel
theorem dX0_howManyLies_31 : decode cX0_howManyLies 31 = .ok (.iand, 1) := by decide +kernel
theorem dX0_howManyLies_32 : decode cX0_howManyLies 32 = .ok (.invokestatic 44, 3) := by decide +kernel
theorem dX0_howManyLies_35 : decode cX0_howManyLies 35 = .ok (.iadd, 1) := by decide +kernel
theorem dX0_howManyLies_36 : decode cX0_howManyLies 36 = .ok (.istore_n 2, 1) := by decide +kernel
theorem dX0_howManyLies_37 : decode cX0_howManyLies 37 = .ok (.iinc 3 1, 3) := by decide +kernel
theorem dX0_howManyLies_40 : decode cX0_howManyLies 40 = .ok (.goto (-27), 3) := by decide +kernel
theorem dX0_howManyLies_43 : decode cX0_howManyLies 43 = .ok (.iload_n 2, 1) := by decide +kernel
theorem dX0_howManyLies_44 : decode cX0_howManyLies 44 = .ok (.ireturn, 1) := by decide +kernel
theorem dX0_howManyLettered_0 : decode cX0_howManyLettered 0 = .ok (.iconst 0, 1) := by decide +kernel
theorem dX0_howManyLettered_1 : decode cX0_howManyLettered 1 = .ok (.istore_n 1, 1) := by decide +kernel
theorem dX0_howManyLettered_2 : decode cX0_howManyLettered 2 = .ok (.iconst 0, 1) := by decide +kernel
theorem dX0_howManyLettered_3 : decode cX0_howManyLettered 3 = .ok (.istore_n 2, 1) := by decide +kernel
theorem dX0_howManyLettered_4 : decode cX0_howManyLettered 4 = .ok (.iload_n 2, 1) := by decide +kernel
theorem dX0_howManyLettered_5 : decode cX0_howManyLettered 5 = .ok (.aload_n 0, 1) := by decide +kernel
theorem dX0_howManyLettered_6 : decode cX0_howManyLettered 6 = .ok (.getfield 30, 3) := by decide +kernel
theorem dX0_howManyLettered_9 : decode cX0_howManyLettered 9 = .ok (.if_icmp .ge 18, 3) := by decide +kernel
theorem dX0_howManyLettered_12 : decode cX0_howManyLettered 12 = .ok (.iload_n 1, 1) := by decide +kernel
theorem dX0_howManyLettered_13 : decode cX0_howManyLettered 13 = .ok (.aload_n 0, 1) := by decide +kernel
theorem dX0_howManyLettered_14 : decode cX0_howManyLettered 14 = .ok (.getfield 24, 3) := by decide +kernel
theorem dX0_howManyLettered_17 : decode cX0_howManyLettered 17 = .ok (.iload_n 2, 1) := by decide +kernel
theorem dX0_howManyLettered_18 : decode cX0_howManyLettered 18 = .ok (.iaload, 1) := by decide +kernel
theorem dX0_howManyLettered_19 : decode cX0_howManyLettered 19 = .ok (.iadd, 1) := by decide +kernel
theorem dX0_howManyLettered_20 : decode cX0_howManyLettered 20 = .ok (.istore_n 1, 1) := by decide +kernel
theorem dX0_howManyLettered_21 : decode cX0_howManyLettered 21 = .ok (.iinc 2 1, 3) := by decide +kernel
theorem dX0_howManyLettered_24 : decode cX0_howManyLettered 24 = .ok (.goto (-20), 3) := by decide +kernel
theorem dX0_howManyLettered_27 : decode cX0_howManyLettered 27 = .ok (.iload_n 1, 1) := by decide +kernel
theorem dX0_howManyLettered_28 : decode cX0_howManyLettered 28 = .ok (.ireturn, 1) := by decide +kernel
theorem dX0_allPence_0 : decode cX0_allPence 0 = .ok (.iconst 0, 1) := by decide +kernel
theorem dX0_allPence_1 : decode cX0_allPence 1 = .ok (.istore_n 1, 1) := by decide +kernel
theorem dX0_allPence_2 : decode cX0_allPence 2 = .ok (.iconst 0, 1) := by decide +kernel
theorem dX0_allPence_3 : decode cX0_allPence 3 = .ok (.istore_n 2, 1) := by decide +kernel
theorem dX0_allPence_4 : decode cX0_allPence 4 = .ok (.iload_n 2, 1) := by decide +kernel
theorem dX0_allPence_5 : decode cX0_allPence 5 = .ok (.aload_n 0, 1) := by decide +kernel
theorem dX0_allPence_6 : decode cX0_allPence 6 = .ok (.getfield 30, 3) := by decide +kernel
theorem dX0_allPence_9 : decode cX0_allPence 9 = .ok (.if_icmp .ge 18, 3) := by decide +kernel
theorem dX0_allPence_12 : decode cX0_allPence 12 = .ok (.iload_n 1, 1) := by decide +kernel
theorem dX0_allPence_13 : decode cX0_allPence 13 = .ok (.aload_n 0, 1) := by decide +kernel
theorem dX0_allPence_14 : decode cX0_allPence 14 = .ok (.getfield 21, 3) := by decide +kernel
theorem dX0_allPence_17 : decode cX0_allPence 17 = .ok (.iload_n 2, 1) := by decide +kernel
theorem dX0_allPence_18 : decode cX0_allPence 18 = .ok (.iaload, 1) := by decide +kernel
theorem dX0_allPence_19 : decode cX0_allPence 19 = .ok (.iadd, 1) := by decide +kernel
theorem dX0_allPence_20 : decode cX0_allPence 20 = .ok (.istore_n 1, 1) := by decide +kernel
theorem dX0_allPence_21 : decode cX0_allPence 21 = .ok (.iinc 2 1, 3) := by decide +kernel
theorem dX0_allPence_24 : decode cX0_allPence 24 = .ok (.goto (-20), 3) := by decide +kernel
theorem dX0_allPence_27 : decode cX0_allPence 27 = .ok (.iload_n 1, 1) := by decide +kernel
theorem dX0_allPence_28 : decode cX0_allPence 28 = .ok (.ireturn, 1) := by decide +kernel
theorem dX1_init_0 : decode cX1_init 0 = .ok (.aload_n 0, 1) := by decide +kernel
theorem dX1_init_1 : decode cX1_init 1 = .ok (.invokespecial 3, 3) := by decide +kernel
theorem dX1_init_4 : decode cX1_init 4 = .ok (.aload_n 0, 1) := by decide +kernel
theorem dX1_init_5 : decode cX1_init 5 = .ok (.iconst 4, 1) := by decide +kernel
theorem dX1_init_6 : decode cX1_init 6 = .ok (.newarray .int, 2) := by decide +kernel
theorem dX1_init_8 : decode cX1_init 8 = .ok (.putfield 9, 3) := by decide +kernel
theorem dX1_init_11 : decode cX1_init 11 = .ok (.aload_n 0, 1) := by decide +kernel
theorem dX1_init_12 : decode cX1_init 12 = .ok (.iconst 4, 1) := by decide +kernel
theorem dX1_init_13 : decode cX1_init 13 = .ok (.newarray .int, 2) := by decide +kernel
theorem dX1_init_15 : decode cX1_init 15 = .ok (.putfield 15, 3) := by decide +kernel
theorem dX1_init_18 : decode cX1_init 18 = .ok (.aload_n 0, 1) := by decide +kernel
theorem dX1_init_19 : decode cX1_init 19 = .ok (.sipush 160, 3) := by decide +kernel
theorem dX1_init_22 : decode cX1_init 22 = .ok (.newarray .int, 2) := by decide +kernel
theorem dX1_init_24 : decode cX1_init 24 = .ok (.putfield 18, 3) := by decide +kernel
theorem dX1_init_27 : decode cX1_init 27 = .ok (.return_, 1) := by decide +kernel
theorem dX1_isMissing_0 : decode cX1_isMissing 0 = .ok (.aload_n 0, 1) := by decide +kernel
theorem dX1_isMissing_1 : decode cX1_isMissing 1 = .ok (.getfield 9, 3) := by decide +kernel
theorem dX1_isMissing_4 : decode cX1_isMissing 4 = .ok (.iload_n 1, 1) := by decide +kernel
theorem dX1_isMissing_5 : decode cX1_isMissing 5 = .ok (.iaload, 1) := by decide +kernel
theorem dX1_isMissing_6 : decode cX1_isMissing 6 = .ok (.ifCond .ne 7, 3) := by decide +kernel
theorem dX1_isMissing_9 : decode cX1_isMissing 9 = .ok (.iconst 1, 1) := by decide +kernel
theorem dX1_isMissing_10 : decode cX1_isMissing 10 = .ok (.goto 4, 3) := by decide +kernel
theorem dX1_isMissing_13 : decode cX1_isMissing 13 = .ok (.iconst 0, 1) := by decide +kernel
theorem dX1_isMissing_14 : decode cX1_isMissing 14 = .ok (.ireturn, 1) := by decide +kernel
theorem dX1_lay_0 : decode cX1_lay 0 = .ok (.aload_n 0, 1) := by decide +kernel
theorem dX1_lay_1 : decode cX1_lay 1 = .ok (.getfield 9, 3) := by decide +kernel
theorem dX1_lay_4 : decode cX1_lay 4 = .ok (.iload_n 1, 1) := by decide +kernel
theorem dX1_lay_5 : decode cX1_lay 5 = .ok (.iload_n 2, 1) := by decide +kernel
theorem dX1_lay_6 : decode cX1_lay 6 = .ok (.iastore, 1) := by decide +kernel
theorem dX1_lay_7 : decode cX1_lay 7 = .ok (.aload_n 0, 1) := by decide +kernel
theorem dX1_lay_8 : decode cX1_lay 8 = .ok (.getfield 15, 3) := by decide +kernel
theorem dX1_lay_11 : decode cX1_lay 11 = .ok (.iload_n 1, 1) := by decide +kernel
theorem dX1_lay_12 : decode cX1_lay 12 = .ok (.iload_n 2, 1) := by decide +kernel
theorem dX1_lay_13 : decode cX1_lay 13 = .ok (.ifCond .ne 7, 3) := by decide +kernel
theorem dX1_lay_16 : decode cX1_lay 16 = .ok (.iconst 0, 1) := by decide +kernel
theorem dX1_lay_17 : decode cX1_lay 17 = .ok (.goto 4, 3) := by decide +kernel
theorem dX1_lay_20 : decode cX1_lay 20 = .ok (.iload_n 3, 1) := by decide +kernel
theorem dX1_lay_21 : decode cX1_lay 21 = .ok (.iastore, 1) := by decide +kernel
theorem dX1_lay_22 : decode cX1_lay 22 = .ok (.iconst 0, 1) := by decide +kernel
theorem dX1_lay_23 : decode cX1_lay 23 = .ok (.istore 4, 2) := by decide +kernel
theorem dX1_lay_25 : decode cX1_lay 25 = .ok (.iload 4, 2) := by decide +kernel
theorem dX1_lay_27 : decode cX1_lay 27 = .ok (.bipush 40, 2) := by decide +kernel
theorem dX1_lay_29 : decode cX1_lay 29 = .ok (.if_icmp .ge 22, 3) := by decide +kernel
theorem dX1_lay_32 : decode cX1_lay 32 = .ok (.aload_n 0, 1) := by decide +kernel
theorem dX1_lay_33 : decode cX1_lay 33 = .ok (.getfield 18, 3) := by decide +kernel
theorem dX1_lay_36 : decode cX1_lay 36 = .ok (.iload_n 1, 1) := by decide +kernel
theorem dX1_lay_37 : decode cX1_lay 37 = .ok (.bipush 40, 2) := by decide +kernel
theorem dX1_lay_39 : decode cX1_lay 39 = .ok (.imul, 1) := by decide +kernel
theorem dX1_lay_40 : decode cX1_lay 40 = .ok (.iload 4, 2) := by decide +kernel
theorem dX1_lay_42 : decode cX1_lay 42 = .ok (.iadd, 1) := by decide +kernel
theorem dX1_lay_43 : decode cX1_lay 43 = .ok (.iconst 0, 1) := by decide +kernel
theorem dX1_lay_44 : decode cX1_lay 44 = .ok (.iastore, 1) := by decide +kernel
theorem dX1_lay_45 : decode cX1_lay 45 = .ok (.iinc 4 1, 3) := by decide +kernel
theorem dX1_lay_48 : decode cX1_lay 48 = .ok (.goto (-23), 3) := by decide +kernel
theorem dX1_lay_51 : decode cX1_lay 51 = .ok (.aload_n 0, 1) := by decide +kernel
theorem dX1_lay_52 : decode cX1_lay 52 = .ok (.getfield 15, 3) := by decide +kernel
theorem dX1_lay_55 : decode cX1_lay 55 = .ok (.iload_n 1, 1) := by decide +kernel
theorem dX1_lay_56 : decode cX1_lay 56 = .ok (.iaload, 1) := by decide +kernel
theorem dX1_lay_57 : decode cX1_lay 57 = .ok (.ireturn, 1) := by decide +kernel
theorem dX1_number_0 : decode cX1_number 0 = .ok (.aload_n 0, 1) := by decide +kernel
theorem dX1_number_1 : decode cX1_number 1 = .ok (.getfield 18, 3) := by decide +kernel
theorem dX1_number_4 : decode cX1_number 4 = .ok (.iload_n 1, 1) := by decide +kernel
theorem dX1_number_5 : decode cX1_number 5 = .ok (.bipush 40, 2) := by decide +kernel
theorem dX1_number_7 : decode cX1_number 7 = .ok (.imul, 1) := by decide +kernel
theorem dX1_number_8 : decode cX1_number 8 = .ok (.iload_n 2, 1) := by decide +kernel
theorem dX1_number_9 : decode cX1_number 9 = .ok (.iadd, 1) := by decide +kernel
theorem dX1_number_10 : decode cX1_number 10 = .ok (.iaload, 1) := by decide +kernel
theorem dX1_number_11 : decode cX1_number 11 = .ok (.ireturn, 1) := by decide +kernel
theorem dX1_note_0 : decode cX1_note 0 = .ok (.iload_n 3, 1) := by decide +kernel
theorem dX1_note_1 : decode cX1_note 1 = .ok (.istore 4, 2) := by decide +kernel
theorem dX1_note_3 : decode cX1_note 3 = .ok (.aload_n 0, 1) := by decide +kernel
theorem dX1_note_4 : decode cX1_note 4 = .ok (.getfield 9, 3) := by decide +kernel
theorem dX1_note_7 : decode cX1_note 7 = .ok (.iload_n 1, 1) := by decide +kernel
theorem dX1_note_8 : decode cX1_note 8 = .ok (.iaload, 1) := by decide +kernel
theorem dX1_note_9 : decode cX1_note 9 = .ok (.bipush 8, 2) := by decide +kernel
theorem dX1_note_11 : decode cX1_note 11 = .ok (.if_icmp .ne 7, 3) := by decide +kernel
theorem dX1_note_14 : decode cX1_note 14 = .ok (.iload_n 3, 1) := by decide +kernel
theorem dX1_note_15 : decode cX1_note 15 = .ok (.i2b, 1) := by decide +kernel
theorem dX1_note_16 : decode cX1_note 16 = .ok (.istore 4, 2) := by decide +kernel
theorem dX1_note_18 : decode cX1_note 18 = .ok (.aload_n 0, 1) := by decide +kernel
theorem dX1_note_19 : decode cX1_note 19 = .ok (.getfield 9, 3) := by decide +kernel
theorem dX1_note_22 : decode cX1_note 22 = .ok (.iload_n 1, 1) := by decide +kernel
theorem dX1_note_23 : decode cX1_note 23 = .ok (.iaload, 1) := by decide +kernel
theorem dX1_note_24 : decode cX1_note 24 = .ok (.bipush 16, 2) := by decide +kernel
theorem dX1_note_26 : decode cX1_note 26 = .ok (.if_icmp .ne 7, 3) := by decide +kernel
theorem dX1_note_29 : decode cX1_note 29 = .ok (.iload_n 3, 1) := by decide +kernel
theorem dX1_note_30 : decode cX1_note 30 = .ok (.i2s, 1) := by decide +kernel
theorem dX1_note_31 : decode cX1_note 31 = .ok (.istore 4, 2) := by decide +kernel
theorem dX1_note_33 : decode cX1_note 33 = .ok (.aload_n 0, 1) := by decide +kernel
theorem dX1_note_34 : decode cX1_note 34 = .ok (.getfield 18, 3) := by decide +kernel
theorem dX1_note_37 : decode cX1_note 37 = .ok (.iload_n 1, 1) := by decide +kernel
theorem dX1_note_38 : decode cX1_note 38 = .ok (.bipush 40, 2) := by decide +kernel
theorem dX1_note_40 : decode cX1_note 40 = .ok (.imul, 1) := by decide +kernel
theorem dX1_note_41 : decode cX1_note 41 = .ok (.iload_n 2, 1) := by decide +kernel
theorem dX1_note_42 : decode cX1_note 42 = .ok (.iadd, 1) := by decide +kernel
theorem dX1_note_43 : decode cX1_note 43 = .ok (.iload 4, 2) := by decide +kernel
theorem dX1_note_45 : decode cX1_note 45 = .ok (.iastore, 1) := by decide +kernel
theorem dX1_note_46 : decode cX1_note 46 = .ok (.return_, 1) := by decide +kernel
theorem dX1_hasFrom_0 : decode cX1_hasFrom 0 = .ok (.iload_n 2, 1) := by decide +kernel
theorem dX1_hasFrom_1 : decode cX1_hasFrom 1 = .ok (.ifCond .lt 33, 3) := by decide +kernel
theorem dX1_hasFrom_4 : decode cX1_hasFrom 4 = .ok (.iload_n 3, 1) := by decide +kernel
theorem dX1_hasFrom_5 : decode cX1_hasFrom 5 = .ok (.ifCond .lt 29, 3) := by decide +kernel
theorem dX1_hasFrom_8 : decode cX1_hasFrom 8 = .ok (.iload_n 3, 1) := by decide +kernel
theorem dX1_hasFrom_9 : decode cX1_hasFrom 9 = .ok (.aload_n 0, 1) := by decide +kernel
theorem dX1_hasFrom_10 : decode cX1_hasFrom 10 = .ok (.getfield 15, 3) := by decide +kernel
theorem dX1_hasFrom_13 : decode cX1_hasFrom 13 = .ok (.iload_n 1, 1) := by decide +kernel
theorem dX1_hasFrom_14 : decode cX1_hasFrom 14 = .ok (.iaload, 1) := by decide +kernel
theorem dX1_hasFrom_15 : decode cX1_hasFrom 15 = .ok (.if_icmp .gt 19, 3) := by decide +kernel
theorem dX1_hasFrom_18 : decode cX1_hasFrom 18 = .ok (.iload_n 2, 1) := by decide +kernel
theorem dX1_hasFrom_19 : decode cX1_hasFrom 19 = .ok (.aload_n 0, 1) := by decide +kernel
theorem dX1_hasFrom_20 : decode cX1_hasFrom 20 = .ok (.getfield 15, 3) := by decide +kernel
theorem dX1_hasFrom_23 : decode cX1_hasFrom 23 = .ok (.iload_n 1, 1) := by decide +kernel
theorem dX1_hasFrom_24 : decode cX1_hasFrom 24 = .ok (.iaload, 1) := by decide +kernel
theorem dX1_hasFrom_25 : decode cX1_hasFrom 25 = .ok (.iload_n 3, 1) := by decide +kernel
theorem dX1_hasFrom_26 : decode cX1_hasFrom 26 = .ok (.isub, 1) := by decide +kernel
theorem dX1_hasFrom_27 : decode cX1_hasFrom 27 = .ok (.if_icmp .gt 7, 3) := by decide +kernel
theorem dX1_hasFrom_30 : decode cX1_hasFrom 30 = .ok (.iconst 1, 1) := by decide +kernel
theorem dX1_hasFrom_31 : decode cX1_hasFrom 31 = .ok (.goto 4, 3) := by decide +kernel
theorem dX1_hasFrom_34 : decode cX1_hasFrom 34 = .ok (.iconst 0, 1) := by decide +kernel
theorem dX1_hasFrom_35 : decode cX1_hasFrom 35 = .ok (.ireturn, 1) := by decide +kernel
theorem dX1_move_0 : decode cX1_move 0 = .ok (.aload_n 0, 1) := by decide +kernel
theorem dX1_move_1 : decode cX1_move 1 = .ok (.getfield 18, 3) := by decide +kernel
theorem dX1_move_4 : decode cX1_move 4 = .ok (.iload_n 1, 1) := by decide +kernel
theorem dX1_move_5 : decode cX1_move 5 = .ok (.bipush 40, 2) := by decide +kernel
theorem dX1_move_7 : decode cX1_move 7 = .ok (.imul, 1) := by decide +kernel
theorem dX1_move_8 : decode cX1_move 8 = .ok (.iload_n 2, 1) := by decide +kernel
theorem dX1_move_9 : decode cX1_move 9 = .ok (.iadd, 1) := by decide +kernel
theorem dX1_move_10 : decode cX1_move 10 = .ok (.aload_n 0, 1) := by decide +kernel
theorem dX1_move_11 : decode cX1_move 11 = .ok (.getfield 18, 3) := by decide +kernel
theorem dX1_move_14 : decode cX1_move 14 = .ok (.iload_n 3, 1) := by decide +kernel
theorem dX1_move_15 : decode cX1_move 15 = .ok (.bipush 40, 2) := by decide +kernel
theorem dX1_move_17 : decode cX1_move 17 = .ok (.imul, 1) := by decide +kernel
theorem dX1_move_18 : decode cX1_move 18 = .ok (.iload 4, 2) := by decide +kernel
theorem dX1_move_20 : decode cX1_move 20 = .ok (.iadd, 1) := by decide +kernel
theorem dX1_move_21 : decode cX1_move 21 = .ok (.iload 5, 2) := by decide +kernel
theorem dX1_move_23 : decode cX1_move 23 = .ok (.invokestatic 21, 3) := by decide +kernel
theorem dX1_move_26 : decode cX1_move 26 = .ok (.return_, 1) := by decide +kernel
theorem dX2_init_0 : decode cX2_init 0 = .ok (.aload_n 0, 1) := by decide +kernel
theorem dX2_init_1 : decode cX2_init 1 = .ok (.invokespecial 3, 3) := by decide +kernel
theorem dX2_init_4 : decode cX2_init 4 = .ok (.aload_n 0, 1) := by decide +kernel
theorem dX2_init_5 : decode cX2_init 5 = .ok (.bipush 120, 2) := by decide +kernel
theorem dX2_init_7 : decode cX2_init 7 = .ok (.newarray .int, 2) := by decide +kernel
theorem dX2_init_9 : decode cX2_init 9 = .ok (.putfield 9, 3) := by decide +kernel
theorem dX2_init_12 : decode cX2_init 12 = .ok (.return_, 1) := by decide +kernel
theorem dX2_take_0 : decode cX2_take 0 = .ok (.iload_n 2, 1) := by decide +kernel
theorem dX2_take_1 : decode cX2_take 1 = .ok (.iconst 1, 1) := by decide +kernel
theorem dX2_take_2 : decode cX2_take 2 = .ok (.isub, 1) := by decide +kernel
theorem dX2_take_3 : decode cX2_take 3 = .ok (.istore_n 3, 1) := by decide +kernel
theorem dX2_take_4 : decode cX2_take 4 = .ok (.iload_n 3, 1) := by decide +kernel
theorem dX2_take_5 : decode cX2_take 5 = .ok (.ifCond .lt 47, 3) := by decide +kernel
theorem dX2_take_8 : decode cX2_take 8 = .ok (.aload_n 0, 1) := by decide +kernel
theorem dX2_take_9 : decode cX2_take 9 = .ok (.getfield 15, 3) := by decide +kernel
theorem dX2_take_12 : decode cX2_take 12 = .ok (.bipush 120, 2) := by decide +kernel
theorem dX2_take_14 : decode cX2_take 14 = .ok (.if_icmp .ge 38, 3) := by decide +kernel
theorem dX2_take_17 : decode cX2_take 17 = .ok (.aload_n 0, 1) := by decide +kernel
theorem dX2_take_18 : decode cX2_take 18 = .ok (.getfield 9, 3) := by decide +kernel
theorem dX2_take_21 : decode cX2_take 21 = .ok (.aload_n 0, 1) := by decide +kernel
theorem dX2_take_22 : decode cX2_take 22 = .ok (.getfield 15, 3) := by decide +kernel
theorem dX2_take_25 : decode cX2_take 25 = .ok (.iload_n 1, 1) := by decide +kernel
theorem dX2_take_26 : decode cX2_take 26 = .ok (.bipush 8, 2) := by decide +kernel
theorem dX2_take_28 : decode cX2_take 28 = .ok (.iload_n 3, 1) := by decide +kernel
theorem dX2_take_29 : decode cX2_take 29 = .ok (.imul, 1) := by decide +kernel
theorem dX2_take_30 : decode cX2_take 30 = .ok (.iushr, 1) := by decide +kernel
theorem dX2_take_31 : decode cX2_take 31 = .ok (.sipush 255, 3) := by decide +kernel
theorem dX2_take_34 : decode cX2_take 34 = .ok (.iand, 1) := by decide +kernel
theorem dX2_take_35 : decode cX2_take 35 = .ok (.iastore, 1) := by decide +kernel
theorem dX2_take_36 : decode cX2_take 36 = .ok (.aload_n 0, 1) := by decide +kernel
theorem dX2_take_37 : decode cX2_take 37 = .ok (.dup, 1) := by decide +kernel
theorem dX2_take_38 : decode cX2_take 38 = .ok (.getfield 15, 3) := by decide +kernel
theorem dX2_take_41 : decode cX2_take 41 = .ok (.iconst 1, 1) := by decide +kernel
theorem dX2_take_42 : decode cX2_take 42 = .ok (.iadd, 1) := by decide +kernel
theorem dX2_take_43 : decode cX2_take 43 = .ok (.putfield 15, 3) := by decide +kernel
theorem dX2_take_46 : decode cX2_take 46 = .ok (.iinc 3 (-1), 3) := by decide +kernel
theorem dX2_take_49 : decode cX2_take 49 = .ok (.goto (-45), 3) := by decide +kernel
theorem dX2_take_52 : decode cX2_take 52 = .ok (.return_, 1) := by decide +kernel
theorem dX2_rewind_0 : decode cX2_rewind 0 = .ok (.aload_n 0, 1) := by decide +kernel
theorem dX2_rewind_1 : decode cX2_rewind 1 = .ok (.iconst 0, 1) := by decide +kernel
theorem dX2_rewind_2 : decode cX2_rewind 2 = .ok (.putfield 19, 3) := by decide +kernel
theorem dX2_rewind_5 : decode cX2_rewind 5 = .ok (.aload_n 0, 1) := by decide +kernel
theorem dX2_rewind_6 : decode cX2_rewind 6 = .ok (.invokevirtual 22, 3) := by decide +kernel
theorem dX2_rewind_9 : decode cX2_rewind 9 = .ok (.return_, 1) := by decide +kernel
theorem dX2_step_0 : decode cX2_step 0 = .ok (.aload_n 0, 1) := by decide +kernel
theorem dX2_step_1 : decode cX2_step 1 = .ok (.getfield 19, 3) := by decide +kernel
theorem dX2_step_4 : decode cX2_step 4 = .ok (.aload_n 0, 1) := by decide +kernel
theorem dX2_step_5 : decode cX2_step 5 = .ok (.getfield 15, 3) := by decide +kernel
theorem dX2_step_8 : decode cX2_step 8 = .ok (.if_icmp .ge 30, 3) := by decide +kernel
theorem dX2_step_11 : decode cX2_step 11 = .ok (.aload_n 0, 1) := by decide +kernel
theorem dX2_step_12 : decode cX2_step 12 = .ok (.getfield 9, 3) := by decide +kernel
theorem dX2_step_15 : decode cX2_step 15 = .ok (.aload_n 0, 1) := by decide +kernel
theorem dX2_step_16 : decode cX2_step 16 = .ok (.getfield 19, 3) := by decide +kernel
theorem dX2_step_19 : decode cX2_step 19 = .ok (.iaload, 1) := by decide +kernel
theorem dX2_step_20 : decode cX2_step 20 = .ok (.bipush 32, 2) := by decide +kernel
theorem dX2_step_22 : decode cX2_step 22 = .ok (.if_icmp .ne 16, 3) := by decide +kernel
theorem dX2_step_25 : decode cX2_step 25 = .ok (.aload_n 0, 1) := by decide +kernel
theorem dX2_step_26 : decode cX2_step 26 = .ok (.dup, 1) := by decide +kernel
theorem dX2_step_27 : decode cX2_step 27 = .ok (.getfield 19, 3) := by decide +kernel
theorem dX2_step_30 : decode cX2_step 30 = .ok (.iconst 1, 1) := by decide +kernel
theorem dX2_step_31 : decode cX2_step 31 = .ok (.iadd, 1) := by decide +kernel
theorem dX2_step_32 : decode cX2_step 32 = .ok (.putfield 19, 3) := by decide +kernel
theorem dX2_step_35 : decode cX2_step 35 = .ok (.goto (-35), 3) := by decide +kernel
theorem dX2_step_38 : decode cX2_step 38 = .ok (.aload_n 0, 1) := by decide +kernel
theorem dX2_step_39 : decode cX2_step 39 = .ok (.aload_n 0, 1) := by decide +kernel
theorem dX2_step_40 : decode cX2_step 40 = .ok (.getfield 19, 3) := by decide +kernel
theorem dX2_step_43 : decode cX2_step 43 = .ok (.putfield 25, 3) := by decide +kernel
theorem dX2_step_46 : decode cX2_step 46 = .ok (.aload_n 0, 1) := by decide +kernel
theorem dX2_step_47 : decode cX2_step 47 = .ok (.getfield 19, 3) := by decide +kernel
theorem dX2_step_50 : decode cX2_step 50 = .ok (.aload_n 0, 1) := by decide +kernel
theorem dX2_step_51 : decode cX2_step 51 = .ok (.getfield 15, 3) := by decide +kernel
theorem dX2_step_54 : decode cX2_step 54 = .ok (.if_icmp .lt 11, 3) := by decide +kernel
theorem dX2_step_57 : decode cX2_step 57 = .ok (.aload_n 0, 1) := by decide +kernel
theorem dX2_step_58 : decode cX2_step 58 = .ok (.iconst 4, 1) := by decide +kernel
theorem dX2_step_59 : decode cX2_step 59 = .ok (.putfield 28, 3) := by decide +kernel
theorem dX2_step_62 : decode cX2_step 62 = .ok (.goto 84, 3) := by decide +kernel
theorem dX2_step_65 : decode cX2_step 65 = .ok (.aload_n 0, 1) := by decide +kernel
theorem dX2_step_66 : decode cX2_step 66 = .ok (.getfield 9, 3) := by decide +kernel
theorem dX2_step_69 : decode cX2_step 69 = .ok (.aload_n 0, 1) := by decide +kernel
theorem dX2_step_70 : decode cX2_step 70 = .ok (.getfield 19, 3) := by decide +kernel
theorem dX2_step_73 : decode cX2_step 73 = .ok (.iaload, 1) := by decide +kernel
theorem dX2_step_74 : decode cX2_step 74 = .ok (.invokestatic 31, 3) := by decide +kernel
theorem dX2_step_77 : decode cX2_step 77 = .ok (.ifCond .eq 10, 3) := by decide +kernel
theorem dX2_step_80 : decode cX2_step 80 = .ok (.aload_n 0, 1) := by decide +kernel
theorem dX2_step_81 : decode cX2_step 81 = .ok (.invokevirtual 35, 3) := by decide +kernel
theorem dX2_step_84 : decode cX2_step 84 = .ok (.goto 62, 3) := by decide +kernel
theorem dX2_step_87 : decode cX2_step 87 = .ok (.aload_n 0, 1) := by decide +kernel
theorem dX2_step_88 : decode cX2_step 88 = .ok (.getfield 9, 3) := by decide +kernel
theorem dX2_step_91 : decode cX2_step 91 = .ok (.aload_n 0, 1) := by decide +kernel
theorem dX2_step_92 : decode cX2_step 92 = .ok (.getfield 19, 3) := by decide +kernel
theorem dX2_step_95 : decode cX2_step 95 = .ok (.iaload, 1) := by decide +kernel
theorem dX2_step_96 : decode cX2_step 96 = .ok (.invokestatic 38, 3) := by decide +kernel
theorem dX2_step_99 : decode cX2_step 99 = .ok (.ifCond .eq 10, 3) := by decide +kernel
theorem dX2_step_102 : decode cX2_step 102 = .ok (.aload_n 0, 1) := by decide +kernel
theorem dX2_step_103 : decode cX2_step 103 = .ok (.invokevirtual 41, 3) := by decide +kernel
theorem dX2_step_106 : decode cX2_step 106 = .ok (.goto 40, 3) := by decide +kernel
theorem dX2_step_109 : decode cX2_step 109 = .ok (.aload_n 0, 1) := by decide +kernel
theorem dX2_step_110 : decode cX2_step 110 = .ok (.getfield 9, 3) := by decide +kernel
theorem dX2_step_113 : decode cX2_step 113 = .ok (.aload_n 0, 1) := by decide +kernel
theorem dX2_step_114 : decode cX2_step 114 = .ok (.getfield 19, 3) := by decide +kernel
theorem dX2_step_117 : decode cX2_step 117 = .ok (.iaload, 1) := by decide +kernel
theorem dX2_step_118 : decode cX2_step 118 = .ok (.bipush 59, 2) := by decide +kernel
theorem dX2_step_120 : decode cX2_step 120 = .ok (.if_icmp .ne 21, 3) := by decide +kernel
theorem dX2_step_123 : decode cX2_step 123 = .ok (.aload_n 0, 1) := by decide +kernel
theorem dX2_step_124 : decode cX2_step 124 = .ok (.iconst 3, 1) := by decide +kernel
theorem dX2_step_125 : decode cX2_step 125 = .ok (.putfield 28, 3) := by decide +kernel
theorem dX2_step_128 : decode cX2_step 128 = .ok (.aload_n 0, 1) := by decide +kernel
theorem dX2_step_129 : decode cX2_step 129 = .ok (.dup, 1) := by decide +kernel
theorem dX2_step_130 : decode cX2_step 130 = .ok (.getfield 19, 3) := by decide +kernel
theorem dX2_step_133 : decode cX2_step 133 = .ok (.iconst 1, 1) := by decide +kernel
theorem dX2_step_134 : decode cX2_step 134 = .ok (.iadd, 1) := by decide +kernel
theorem dX2_step_135 : decode cX2_step 135 = .ok (.putfield 19, 3) := by decide +kernel
theorem dX2_step_138 : decode cX2_step 138 = .ok (.goto 8, 3) := by decide +kernel
theorem dX2_step_141 : decode cX2_step 141 = .ok (.aload_n 0, 1) := by decide +kernel
theorem dX2_step_142 : decode cX2_step 142 = .ok (.iconst 5, 1) := by decide +kernel
theorem dX2_step_143 : decode cX2_step 143 = .ok (.putfield 28, 3) := by decide +kernel
theorem dX2_step_146 : decode cX2_step 146 = .ok (.return_, 1) := by decide +kernel
theorem dX2_takeWord_0 : decode cX2_takeWord 0 = .ok (.aload_n 0, 1) := by decide +kernel
theorem dX2_takeWord_1 : decode cX2_takeWord 1 = .ok (.iconst 1, 1) := by decide +kernel
theorem dX2_takeWord_2 : decode cX2_takeWord 2 = .ok (.putfield 28, 3) := by decide +kernel
theorem dX2_takeWord_5 : decode cX2_takeWord 5 = .ok (.aload_n 0, 1) := by decide +kernel
theorem dX2_takeWord_6 : decode cX2_takeWord 6 = .ok (.getfield 19, 3) := by decide +kernel
theorem dX2_takeWord_9 : decode cX2_takeWord 9 = .ok (.aload_n 0, 1) := by decide +kernel
theorem dX2_takeWord_10 : decode cX2_takeWord 10 = .ok (.getfield 15, 3) := by decide +kernel
theorem dX2_takeWord_13 : decode cX2_takeWord 13 = .ok (.if_icmp .ge 31, 3) := by decide +kernel
theorem dX2_takeWord_16 : decode cX2_takeWord 16 = .ok (.aload_n 0, 1) := by decide +kernel
theorem dX2_takeWord_17 : decode cX2_takeWord 17 = .ok (.getfield 9, 3) := by decide +kernel
theorem dX2_takeWord_20 : decode cX2_takeWord 20 = .ok (.aload_n 0, 1) := by decide +kernel
theorem dX2_takeWord_21 : decode cX2_takeWord 21 = .ok (.getfield 19, 3) := by decide +kernel
theorem dX2_takeWord_24 : decode cX2_takeWord 24 = .ok (.iaload, 1) := by decide +kernel
theorem dX2_takeWord_25 : decode cX2_takeWord 25 = .ok (.invokestatic 31, 3) := by decide +kernel
theorem dX2_takeWord_28 : decode cX2_takeWord 28 = .ok (.ifCond .eq 16, 3) := by decide +kernel
theorem dX2_takeWord_31 : decode cX2_takeWord 31 = .ok (.aload_n 0, 1) := by decide +kernel
theorem dX2_takeWord_32 : decode cX2_takeWord 32 = .ok (.dup, 1) := by decide +kernel
theorem dX2_takeWord_33 : decode cX2_takeWord 33 = .ok (.getfield 19, 3) := by decide +kernel
theorem dX2_takeWord_36 : decode cX2_takeWord 36 = .ok (.iconst 1, 1) := by decide +kernel
theorem dX2_takeWord_37 : decode cX2_takeWord 37 = .ok (.iadd, 1) := by decide +kernel
theorem dX2_takeWord_38 : decode cX2_takeWord 38 = .ok (.putfield 19, 3) := by decide +kernel
theorem dX2_takeWord_41 : decode cX2_takeWord 41 = .ok (.goto (-36), 3) := by decide +kernel
theorem dX2_takeWord_44 : decode cX2_takeWord 44 = .ok (.return_, 1) := by decide +kernel
theorem dX2_takeNumber_0 : decode cX2_takeNumber 0 = .ok (.aload_n 0, 1) := by decide +kernel
theorem dX2_takeNumber_1 : decode cX2_takeNumber 1 = .ok (.iconst 2, 1) := by decide +kernel
theorem dX2_takeNumber_2 : decode cX2_takeNumber 2 = .ok (.putfield 28, 3) := by decide +kernel
theorem dX2_takeNumber_5 : decode cX2_takeNumber 5 = .ok (.aload_n 0, 1) := by decide +kernel
theorem dX2_takeNumber_6 : decode cX2_takeNumber 6 = .ok (.iconst 0, 1) := by decide +kernel
theorem dX2_takeNumber_7 : decode cX2_takeNumber 7 = .ok (.putfield 44, 3) := by decide +kernel
theorem dX2_takeNumber_10 : decode cX2_takeNumber 10 = .ok (.aload_n 0, 1) := by decide +kernel
theorem dX2_takeNumber_11 : decode cX2_takeNumber 11 = .ok (.getfield 19, 3) := by decide +kernel
theorem dX2_takeNumber_14 : decode cX2_takeNumber 14 = .ok (.aload_n 0, 1) := by decide +kernel
theorem dX2_takeNumber_15 : decode cX2_takeNumber 15 = .ok (.getfield 15, 3) := by decide +kernel
theorem dX2_takeNumber_18 : decode cX2_takeNumber 18 = .ok (.if_icmp .ge 60, 3) := by decide +kernel
theorem dX2_takeNumber_21 : decode cX2_takeNumber 21 = .ok (.aload_n 0, 1) := by decide +kernel
theorem dX2_takeNumber_22 : decode cX2_takeNumber 22 = .ok (.getfield 9, 3) := by decide +kernel
theorem dX2_takeNumber_25 : decode cX2_takeNumber 25 = .ok (.aload_n 0, 1) := by decide +kernel
theorem dX2_takeNumber_26 : decode cX2_takeNumber 26 = .ok (.getfield 19, 3) := by decide +kernel
theorem dX2_takeNumber_29 : decode cX2_takeNumber 29 = .ok (.iaload, 1) := by decide +kernel
theorem dX2_takeNumber_30 : decode cX2_takeNumber 30 = .ok (.invokestatic 38, 3) := by decide +kernel
theorem dX2_takeNumber_33 : decode cX2_takeNumber 33 = .ok (.ifCond .eq 45, 3) := by decide +kernel
theorem dX2_takeNumber_36 : decode cX2_takeNumber 36 = .ok (.aload_n 0, 1) := by decide +kernel
theorem dX2_takeNumber_37 : decode cX2_takeNumber 37 = .ok (.bipush 10, 2) := by decide +kernel
theorem dX2_takeNumber_39 : decode cX2_takeNumber 39 = .ok (.aload_n 0, 1) := by decide +kernel
theorem dX2_takeNumber_40 : decode cX2_takeNumber 40 = .ok (.getfield 44, 3) := by decide +kernel
theorem dX2_takeNumber_43 : decode cX2_takeNumber 43 = .ok (.imul, 1) := by decide +kernel
theorem dX2_takeNumber_44 : decode cX2_takeNumber 44 = .ok (.aload_n 0, 1) := by decide +kernel
theorem dX2_takeNumber_45 : decode cX2_takeNumber 45 = .ok (.getfield 9, 3) := by decide +kernel
theorem dX2_takeNumber_48 : decode cX2_takeNumber 48 = .ok (.aload_n 0, 1) := by decide +kernel
theorem dX2_takeNumber_49 : decode cX2_takeNumber 49 = .ok (.getfield 19, 3) := by decide +kernel
theorem dX2_takeNumber_52 : decode cX2_takeNumber 52 = .ok (.iaload, 1) := by decide +kernel
theorem dX2_takeNumber_53 : decode cX2_takeNumber 53 = .ok (.iadd, 1) := by decide +kernel
theorem dX2_takeNumber_54 : decode cX2_takeNumber 54 = .ok (.bipush 48, 2) := by decide +kernel
theorem dX2_takeNumber_56 : decode cX2_takeNumber 56 = .ok (.isub, 1) := by decide +kernel
theorem dX2_takeNumber_57 : decode cX2_takeNumber 57 = .ok (.ldc 47, 2) := by decide +kernel
theorem dX2_takeNumber_59 : decode cX2_takeNumber 59 = .ok (.invokestatic 48, 3) := by decide +kernel
theorem dX2_takeNumber_62 : decode cX2_takeNumber 62 = .ok (.putfield 44, 3) := by decide +kernel
theorem dX2_takeNumber_65 : decode cX2_takeNumber 65 = .ok (.aload_n 0, 1) := by decide +kernel
theorem dX2_takeNumber_66 : decode cX2_takeNumber 66 = .ok (.dup, 1) := by decide +kernel
theorem dX2_takeNumber_67 : decode cX2_takeNumber 67 = .ok (.getfield 19, 3) := by decide +kernel
theorem dX2_takeNumber_70 : decode cX2_takeNumber 70 = .ok (.iconst 1, 1) := by decide +kernel
theorem dX2_takeNumber_71 : decode cX2_takeNumber 71 = .ok (.iadd, 1) := by decide +kernel
theorem dX2_takeNumber_72 : decode cX2_takeNumber 72 = .ok (.putfield 19, 3) := by decide +kernel
theorem dX2_takeNumber_75 : decode cX2_takeNumber 75 = .ok (.goto (-65), 3) := by decide +kernel
theorem dX2_takeNumber_78 : decode cX2_takeNumber 78 = .ok (.return_, 1) := by decide +kernel
theorem dX2_isAtEnd_0 : decode cX2_isAtEnd 0 = .ok (.aload_n 0, 1) := by decide +kernel
theorem dX2_isAtEnd_1 : decode cX2_isAtEnd 1 = .ok (.getfield 28, 3) := by decide +kernel
theorem dX2_isAtEnd_4 : decode cX2_isAtEnd 4 = .ok (.iconst 4, 1) := by decide +kernel
theorem dX2_isAtEnd_5 : decode cX2_isAtEnd 5 = .ok (.if_icmp .ne 7, 3) := by decide +kernel
theorem dX2_isAtEnd_8 : decode cX2_isAtEnd 8 = .ok (.iconst 1, 1) := by decide +kernel
theorem dX2_isAtEnd_9 : decode cX2_isAtEnd 9 = .ok (.goto 4, 3) := by decide +kernel
theorem dX2_isAtEnd_12 : decode cX2_isAtEnd 12 = .ok (.iconst 0, 1) := by decide +kernel
theorem dX2_isAtEnd_13 : decode cX2_isAtEnd 13 = .ok (.ireturn, 1) := by decide +kernel
theorem dX2_isSign_0 : decode cX2_isSign 0 = .ok (.aload_n 0, 1) := by decide +kernel
theorem dX2_isSign_1 : decode cX2_isSign 1 = .ok (.getfield 28, 3) := by decide +kernel
theorem dX2_isSign_4 : decode cX2_isSign 4 = .ok (.iconst 3, 1) := by decide +kernel
theorem dX2_isSign_5 : decode cX2_isSign 5 = .ok (.if_icmp .ne 7, 3) := by decide +kernel
theorem dX2_isSign_8 : decode cX2_isSign 8 = .ok (.iconst 1, 1) := by decide +kernel
theorem dX2_isSign_9 : decode cX2_isSign 9 = .ok (.goto 4, 3) := by decide +kernel
theorem dX2_isSign_12 : decode cX2_isSign 12 = .ok (.iconst 0, 1) := by decide +kernel
theorem dX2_isSign_13 : decode cX2_isSign 13 = .ok (.ireturn, 1) := by decide +kernel
theorem dX2_isNumber_0 : decode cX2_isNumber 0 = .ok (.aload_n 0, 1) := by decide +kernel
theorem dX2_isNumber_1 : decode cX2_isNumber 1 = .ok (.getfield 28, 3) := by decide +kernel
theorem dX2_isNumber_4 : decode cX2_isNumber 4 = .ok (.iconst 2, 1) := by decide +kernel
theorem dX2_isNumber_5 : decode cX2_isNumber 5 = .ok (.if_icmp .ne 7, 3) := by decide +kernel
theorem dX2_isNumber_8 : decode cX2_isNumber 8 = .ok (.iconst 1, 1) := by decide +kernel
theorem dX2_isNumber_9 : decode cX2_isNumber 9 = .ok (.goto 4, 3) := by decide +kernel
theorem dX2_isNumber_12 : decode cX2_isNumber 12 = .ok (.iconst 0, 1) := by decide +kernel
theorem dX2_isNumber_13 : decode cX2_isNumber 13 = .ok (.ireturn, 1) := by decide +kernel
theorem dX2_isNumberUpTo_0 : decode cX2_isNumberUpTo 0 = .ok (.aload_n 0, 1) := by decide +kernel
theorem dX2_isNumberUpTo_1 : decode cX2_isNumberUpTo 1 = .ok (.getfield 28, 3) := by decide +kernel
theorem dX2_isNumberUpTo_4 : decode cX2_isNumberUpTo 4 = .ok (.iconst 2, 1) := by decide +kernel
theorem dX2_isNumberUpTo_5 : decode cX2_isNumberUpTo 5 = .ok (.if_icmp .ne 15, 3) := by decide +kernel
theorem dX2_isNumberUpTo_8 : decode cX2_isNumberUpTo 8 = .ok (.aload_n 0, 1) := by decide +kernel
theorem dX2_isNumberUpTo_9 : decode cX2_isNumberUpTo 9 = .ok (.getfield 44, 3) := by decide +kernel
theorem dX2_isNumberUpTo_12 : decode cX2_isNumberUpTo 12 = .ok (.iload_n 1, 1) := by decide +kernel
theorem dX2_isNumberUpTo_13 : decode cX2_isNumberUpTo 13 = .ok (.if_icmp .gt 7, 3) := by decide +kernel
theorem dX2_isNumberUpTo_16 : decode cX2_isNumberUpTo 16 = .ok (.iconst 1, 1) := by decide +kernel
theorem dX2_isNumberUpTo_17 : decode cX2_isNumberUpTo 17 = .ok (.goto 4, 3) := by decide +kernel
theorem dX2_isNumberUpTo_20 : decode cX2_isNumberUpTo 20 = .ok (.iconst 0, 1) := by decide +kernel
theorem dX2_isNumberUpTo_21 : decode cX2_isNumberUpTo 21 = .ok (.ireturn, 1) := by decide +kernel
theorem dX2_isWord_0 : decode cX2_isWord 0 = .ok (.aload_n 0, 1) := by decide +kernel
theorem dX2_isWord_1 : decode cX2_isWord 1 = .ok (.getfield 28, 3) := by decide +kernel
theorem dX2_isWord_4 : decode cX2_isWord 4 = .ok (.iconst 1, 1) := by decide +kernel
theorem dX2_isWord_5 : decode cX2_isWord 5 = .ok (.if_icmp .ne 19, 3) := by decide +kernel
theorem dX2_isWord_8 : decode cX2_isWord 8 = .ok (.aload_n 0, 1) := by decide +kernel
theorem dX2_isWord_9 : decode cX2_isWord 9 = .ok (.getfield 19, 3) := by decide +kernel
theorem dX2_isWord_12 : decode cX2_isWord 12 = .ok (.aload_n 0, 1) := by decide +kernel
theorem dX2_isWord_13 : decode cX2_isWord 13 = .ok (.getfield 25, 3) := by decide +kernel
theorem dX2_isWord_16 : decode cX2_isWord 16 = .ok (.isub, 1) := by decide +kernel
theorem dX2_isWord_17 : decode cX2_isWord 17 = .ok (.aload_n 1, 1) := by decide +kernel
theorem dX2_isWord_18 : decode cX2_isWord 18 = .ok (.invokevirtual 54, 3) := by decide +kernel
theorem dX2_isWord_21 : decode cX2_isWord 21 = .ok (.if_icmp .eq 5, 3) := by decide +kernel
theorem dX2_isWord_24 : decode cX2_isWord 24 = .ok (.iconst 0, 1) := by decide +kernel
theorem dX2_isWord_25 : decode cX2_isWord 25 = .ok (.ireturn, 1) := by decide +kernel
theorem dX2_isWord_26 : decode cX2_isWord 26 = .ok (.iconst 0, 1) := by decide +kernel
theorem dX2_isWord_27 : decode cX2_isWord 27 = .ok (.istore_n 2, 1) := by decide +kernel
theorem dX2_isWord_28 : decode cX2_isWord 28 = .ok (.iload_n 2, 1) := by decide +kernel
theorem dX2_isWord_29 : decode cX2_isWord 29 = .ok (.aload_n 1, 1) := by decide +kernel
theorem dX2_isWord_30 : decode cX2_isWord 30 = .ok (.invokevirtual 54, 3) := by decide +kernel
theorem dX2_isWord_33 : decode cX2_isWord 33 = .ok (.if_icmp .ge 30, 3) := by decide +kernel
theorem dX2_isWord_36 : decode cX2_isWord 36 = .ok (.aload_n 0, 1) := by decide +kernel
theorem dX2_isWord_37 : decode cX2_isWord 37 = .ok (.getfield 9, 3) := by decide +kernel
theorem dX2_isWord_40 : decode cX2_isWord 40 = .ok (.aload_n 0, 1) := by decide +kernel
theorem dX2_isWord_41 : decode cX2_isWord 41 = .ok (.getfield 25, 3) := by decide +kernel
theorem dX2_isWord_44 : decode cX2_isWord 44 = .ok (.iload_n 2, 1) := by decide +kernel
theorem dX2_isWord_45 : decode cX2_isWord 45 = .ok (.iadd, 1) := by decide +kernel
theorem dX2_isWord_46 : decode cX2_isWord 46 = .ok (.iaload, 1) := by decide +kernel
theorem dX2_isWord_47 : decode cX2_isWord 47 = .ok (.aload_n 1, 1) := by decide +kernel
theorem dX2_isWord_48 : decode cX2_isWord 48 = .ok (.iload_n 2, 1) := by decide +kernel
theorem dX2_isWord_49 : decode cX2_isWord 49 = .ok (.invokevirtual 60, 3) := by decide +kernel
theorem dX2_isWord_52 : decode cX2_isWord 52 = .ok (.if_icmp .eq 5, 3) := by decide +kernel
theorem dX2_isWord_55 : decode cX2_isWord 55 = .ok (.iconst 0, 1) := by decide +kernel
theorem dX2_isWord_56 : decode cX2_isWord 56 = .ok (.ireturn, 1) := by decide +kernel
theorem dX2_isWord_57 : decode cX2_isWord 57 = .ok (.iinc 2 1, 3) := by decide +kernel
theorem dX2_isWord_60 : decode cX2_isWord 60 = .ok (.goto (-32), 3) := by decide +kernel
theorem dX2_isWord_63 : decode cX2_isWord 63 = .ok (.iconst 1, 1) := by decide +kernel
theorem dX2_isWord_64 : decode cX2_isWord 64 = .ok (.ireturn, 1) := by decide +kernel
theorem dX2_isLetter_0 : decode cX2_isLetter 0 = .ok (.iload_n 0, 1) := by decide +kernel
theorem dX2_isLetter_1 : decode cX2_isLetter 1 = .ok (.bipush 97, 2) := by decide +kernel
theorem dX2_isLetter_3 : decode cX2_isLetter 3 = .ok (.if_icmp .lt 13, 3) := by decide +kernel
theorem dX2_isLetter_6 : decode cX2_isLetter 6 = .ok (.iload_n 0, 1) := by decide +kernel
theorem dX2_isLetter_7 : decode cX2_isLetter 7 = .ok (.bipush 122, 2) := by decide +kernel
theorem dX2_isLetter_9 : decode cX2_isLetter 9 = .ok (.if_icmp .gt 7, 3) := by decide +kernel
theorem dX2_isLetter_12 : decode cX2_isLetter 12 = .ok (.iconst 1, 1) := by decide +kernel
theorem dX2_isLetter_13 : decode cX2_isLetter 13 = .ok (.goto 4, 3) := by decide +kernel
theorem dX2_isLetter_16 : decode cX2_isLetter 16 = .ok (.iconst 0, 1) := by decide +kernel
theorem dX2_isLetter_17 : decode cX2_isLetter 17 = .ok (.ireturn, 1) := by decide +kernel
theorem dX2_isDigit_0 : decode cX2_isDigit 0 = .ok (.iload_n 0, 1) := by decide +kernel
theorem dX2_isDigit_1 : decode cX2_isDigit 1 = .ok (.bipush 48, 2) := by decide +kernel
theorem dX2_isDigit_3 : decode cX2_isDigit 3 = .ok (.if_icmp .lt 13, 3) := by decide +kernel
theorem dX2_isDigit_6 : decode cX2_isDigit 6 = .ok (.iload_n 0, 1) := by decide +kernel
theorem dX2_isDigit_7 : decode cX2_isDigit 7 = .ok (.bipush 57, 2) := by decide +kernel
theorem dX2_isDigit_9 : decode cX2_isDigit 9 = .ok (.if_icmp .gt 7, 3) := by decide +kernel
theorem dX2_isDigit_12 : decode cX2_isDigit 12 = .ok (.iconst 1, 1) := by decide +kernel
theorem dX2_isDigit_13 : decode cX2_isDigit 13 = .ok (.goto 4, 3) := by decide +kernel
theorem dX2_isDigit_16 : decode cX2_isDigit 16 = .ok (.iconst 0, 1) := by decide +kernel
theorem dX2_isDigit_17 : decode cX2_isDigit 17 = .ok (.ireturn, 1) := by decide +kernel
theorem dX3_init_0 : decode cX3_init 0 = .ok (.aload_n 0, 1) := by decide +kernel
theorem dX3_init_1 : decode cX3_init 1 = .ok (.invokespecial 3, 3) := by decide +kernel
theorem dX3_init_4 : decode cX3_init 4 = .ok (.aload_n 0, 1) := by decide +kernel
theorem dX3_init_5 : decode cX3_init 5 = .ok (.aload_n 1, 1) := by decide +kernel
theorem dX3_init_6 : decode cX3_init 6 = .ok (.putfield 9, 3) := by decide +kernel
theorem dX3_init_9 : decode cX3_init 9 = .ok (.aload_n 0, 1) := by decide +kernel
theorem dX3_init_10 : decode cX3_init 10 = .ok (.aload_n 2, 1) := by decide +kernel
theorem dX3_init_11 : decode cX3_init 11 = .ok (.putfield 15, 3) := by decide +kernel
theorem dX3_init_14 : decode cX3_init 14 = .ok (.return_, 1) := by decide +kernel
theorem dX3_wholeText_0 : decode cX3_wholeText 0 = .ok (.aload_n 0, 1) := by decide +kernel
theorem dX3_wholeText_1 : decode cX3_wholeText 1 = .ok (.getfield 9, 3) := by decide +kernel
theorem dX3_wholeText_4 : decode cX3_wholeText 4 = .ok (.invokevirtual 19, 3) := by decide +kernel
theorem dX3_wholeText_7 : decode cX3_wholeText 7 = .ok (.iconst 1, 1) := by decide +kernel
theorem dX3_wholeText_8 : decode cX3_wholeText 8 = .ok (.istore_n 1, 1) := by decide +kernel
theorem dX3_wholeText_9 : decode cX3_wholeText 9 = .ok (.iload_n 1, 1) := by decide +kernel
theorem dX3_wholeText_10 : decode cX3_wholeText 10 = .ok (.bipush 120, 2) := by decide +kernel
theorem dX3_wholeText_12 : decode cX3_wholeText 12 = .ok (.if_icmp .gt 51, 3) := by decide +kernel
theorem dX3_wholeText_15 : decode cX3_wholeText 15 = .ok (.aload_n 0, 1) := by decide +kernel
theorem dX3_wholeText_16 : decode cX3_wholeText 16 = .ok (.invokevirtual 24, 3) := by decide +kernel
theorem dX3_wholeText_19 : decode cX3_wholeText 19 = .ok (.ifCond .ne 6, 3) := by decide +kernel
theorem dX3_wholeText_22 : decode cX3_wholeText 22 = .ok (.goto 41, 3) := by decide +kernel
theorem dX3_wholeText_25 : decode cX3_wholeText 25 = .ok (.aload_n 0, 1) := by decide +kernel
theorem dX3_wholeText_26 : decode cX3_wholeText 26 = .ok (.getfield 9, 3) := by decide +kernel
theorem dX3_wholeText_29 : decode cX3_wholeText 29 = .ok (.invokevirtual 28, 3) := by decide +kernel
theorem dX3_wholeText_32 : decode cX3_wholeText 32 = .ok (.ifCond .eq 5, 3) := by decide +kernel
theorem dX3_wholeText_35 : decode cX3_wholeText 35 = .ok (.iload_n 1, 1) := by decide +kernel
theorem dX3_wholeText_36 : decode cX3_wholeText 36 = .ok (.ireturn, 1) := by decide +kernel
theorem dX3_wholeText_37 : decode cX3_wholeText 37 = .ok (.aload_n 0, 1) := by decide +kernel
theorem dX3_wholeText_38 : decode cX3_wholeText 38 = .ok (.getfield 9, 3) := by decide +kernel
theorem dX3_wholeText_41 : decode cX3_wholeText 41 = .ok (.invokevirtual 31, 3) := by decide +kernel
theorem dX3_wholeText_44 : decode cX3_wholeText 44 = .ok (.ifCond .ne 6, 3) := by decide +kernel
theorem dX3_wholeText_47 : decode cX3_wholeText 47 = .ok (.goto 16, 3) := by decide +kernel
theorem dX3_wholeText_50 : decode cX3_wholeText 50 = .ok (.aload_n 0, 1) := by decide +kernel
theorem dX3_wholeText_51 : decode cX3_wholeText 51 = .ok (.getfield 9, 3) := by decide +kernel
theorem dX3_wholeText_54 : decode cX3_wholeText 54 = .ok (.invokevirtual 34, 3) := by decide +kernel
theorem dX3_wholeText_57 : decode cX3_wholeText 57 = .ok (.iinc 1 1, 3) := by decide +kernel
theorem dX3_wholeText_60 : decode cX3_wholeText 60 = .ok (.goto (-51), 3) := by decide +kernel
theorem dX3_wholeText_63 : decode cX3_wholeText 63 = .ok (.iconst (-1), 1) := by decide +kernel
theorem dX3_wholeText_64 : decode cX3_wholeText 64 = .ok (.aload_n 0, 1) := by decide +kernel
theorem dX3_wholeText_65 : decode cX3_wholeText 65 = .ok (.getfield 9, 3) := by decide +kernel
theorem dX3_wholeText_68 : decode cX3_wholeText 68 = .ok (.getfield 37, 3) := by decide +kernel
theorem dX3_wholeText_71 : decode cX3_wholeText 71 = .ok (.isub, 1) := by decide +kernel
theorem dX3_wholeText_72 : decode cX3_wholeText 72 = .ok (.ireturn, 1) := by decide +kernel
theorem dX3_item_0 : decode cX3_item 0 = .ok (.aload_n 0, 1) := by decide +kernel
theorem dX3_item_1 : decode cX3_item 1 = .ok (.getfield 9, 3) := by decide +kernel
theorem dX3_item_4 : decode cX3_item 4 = .ok (.ldc 41, 2) := by decide +kernel
theorem dX3_item_6 : decode cX3_item 6 = .ok (.invokevirtual 43, 3) := by decide +kernel
theorem dX3_item_9 : decode cX3_item 9 = .ok (.ifCond .eq 8, 3) := by decide +kernel
theorem dX3_item_12 : decode cX3_item 12 = .ok (.aload_n 0, 1) := by decide +kernel
theorem dX3_item_13 : decode cX3_item 13 = .ok (.invokevirtual 47, 3) := by decide +kernel
theorem dX3_item_16 : decode cX3_item 16 = .ok (.ireturn, 1) := by decide +kernel
theorem dX3_item_17 : decode cX3_item 17 = .ok (.aload_n 0, 1) := by decide +kernel
theorem dX3_item_18 : decode cX3_item 18 = .ok (.getfield 9, 3) := by decide +kernel
theorem dX3_item_21 : decode cX3_item 21 = .ok (.ldc 50, 2) := by decide +kernel
theorem dX3_item_23 : decode cX3_item 23 = .ok (.invokevirtual 43, 3) := by decide +kernel
theorem dX3_item_26 : decode cX3_item 26 = .ok (.ifCond .eq 8, 3) := by decide +kernel
theorem dX3_item_29 : decode cX3_item 29 = .ok (.aload_n 0, 1) := by decide +kernel
theorem dX3_item_30 : decode cX3_item 30 = .ok (.invokevirtual 52, 3) := by decide +kernel
theorem dX3_item_33 : decode cX3_item 33 = .ok (.ireturn, 1) := by decide +kernel
theorem dX3_item_34 : decode cX3_item 34 = .ok (.aload_n 0, 1) := by decide +kernel
theorem dX3_item_35 : decode cX3_item 35 = .ok (.invokevirtual 55, 3) := by decide +kernel
theorem dX3_item_38 : decode cX3_item 38 = .ok (.istore_n 1, 1) := by decide +kernel
theorem dX3_item_39 : decode cX3_item 39 = .ok (.iload_n 1, 1) := by decide +kernel
theorem dX3_item_40 : decode cX3_item 40 = .ok (.ifCond .lt 15, 3) := by decide +kernel
theorem dX3_item_43 : decode cX3_item 43 = .ok (.aload_n 0, 1) := by decide +kernel
theorem dX3_item_44 : decode cX3_item 44 = .ok (.iload_n 1, 1) := by decide +kernel
theorem dX3_item_45 : decode cX3_item 45 = .ok (.invokevirtual 59, 3) := by decide +kernel
theorem dX3_item_48 : decode cX3_item 48 = .ok (.ifCond .eq 7, 3) := by decide +kernel
theorem dX3_item_51 : decode cX3_item 51 = .ok (.iconst 1, 1) := by decide +kernel
theorem dX3_item_52 : decode cX3_item 52 = .ok (.goto 4, 3) := by decide +kernel
theorem dX3_item_55 : decode cX3_item 55 = .ok (.iconst 0, 1) := by decide +kernel
theorem dX3_item_56 : decode cX3_item 56 = .ok (.ireturn, 1) := by decide +kernel
theorem dX3_kindOfWord_0 : decode cX3_kindOfWord 0 = .ok (.aload_n 0, 1) := by decide +kernel
theorem dX3_kindOfWord_1 : decode cX3_kindOfWord 1 = .ok (.getfield 9, 3) := by decide +kernel
theorem dX3_kindOfWord_4 : decode cX3_kindOfWord 4 = .ok (.ldc 63, 2) := by decide +kernel
theorem dX3_kindOfWord_6 : decode cX3_kindOfWord 6 = .ok (.invokevirtual 43, 3) := by decide +kernel
theorem dX3_kindOfWord_9 : decode cX3_kindOfWord 9 = .ok (.ifCond .eq 5, 3) := by decide +kernel
theorem dX3_kindOfWord_12 : decode cX3_kindOfWord 12 = .ok (.iconst 0, 1) := by decide +kernel
theorem dX3_kindOfWord_13 : decode cX3_kindOfWord 13 = .ok (.ireturn, 1) := by decide +kernel
theorem dX3_kindOfWord_14 : decode cX3_kindOfWord 14 = .ok (.aload_n 0, 1) := by decide +kernel
theorem dX3_kindOfWord_15 : decode cX3_kindOfWord 15 = .ok (.getfield 9, 3) := by decide +kernel
theorem dX3_kindOfWord_18 : decode cX3_kindOfWord 18 = .ok (.ldc 65, 2) := by decide +kernel
theorem dX3_kindOfWord_20 : decode cX3_kindOfWord 20 = .ok (.invokevirtual 43, 3) := by decide +kernel
theorem dX3_kindOfWord_23 : decode cX3_kindOfWord 23 = .ok (.ifCond .eq 5, 3) := by decide +kernel
theorem dX3_kindOfWord_26 : decode cX3_kindOfWord 26 = .ok (.iconst 1, 1) := by decide +kernel
theorem dX3_kindOfWord_27 : decode cX3_kindOfWord 27 = .ok (.ireturn, 1) := by decide +kernel
theorem dX3_kindOfWord_28 : decode cX3_kindOfWord 28 = .ok (.aload_n 0, 1) := by decide +kernel
theorem dX3_kindOfWord_29 : decode cX3_kindOfWord 29 = .ok (.getfield 9, 3) := by decide +kernel
theorem dX3_kindOfWord_32 : decode cX3_kindOfWord 32 = .ok (.ldc 67, 2) := by decide +kernel
theorem dX3_kindOfWord_34 : decode cX3_kindOfWord 34 = .ok (.invokevirtual 43, 3) := by decide +kernel
theorem dX3_kindOfWord_37 : decode cX3_kindOfWord 37 = .ok (.ifCond .eq 5, 3) := by decide +kernel
theorem dX3_kindOfWord_40 : decode cX3_kindOfWord 40 = .ok (.iconst 2, 1) := by decide +kernel
theorem dX3_kindOfWord_41 : decode cX3_kindOfWord 41 = .ok (.ireturn, 1) := by decide +kernel
theorem dX3_kindOfWord_42 : decode cX3_kindOfWord 42 = .ok (.aload_n 0, 1) := by decide +kernel
theorem dX3_kindOfWord_43 : decode cX3_kindOfWord 43 = .ok (.getfield 9, 3) := by decide +kernel
theorem dX3_kindOfWord_46 : decode cX3_kindOfWord 46 = .ok (.ldc 69, 2) := by decide +kernel
theorem dX3_kindOfWord_48 : decode cX3_kindOfWord 48 = .ok (.invokevirtual 43, 3) := by decide +kernel
theorem dX3_kindOfWord_51 : decode cX3_kindOfWord 51 = .ok (.ifCond .eq 5, 3) := by decide +kernel
theorem dX3_kindOfWord_54 : decode cX3_kindOfWord 54 = .ok (.iconst 3, 1) := by decide +kernel
theorem dX3_kindOfWord_55 : decode cX3_kindOfWord 55 = .ok (.ireturn, 1) := by decide +kernel
theorem dX3_kindOfWord_56 : decode cX3_kindOfWord 56 = .ok (.aload_n 0, 1) := by decide +kernel
theorem dX3_kindOfWord_57 : decode cX3_kindOfWord 57 = .ok (.getfield 9, 3) := by decide +kernel
theorem dX3_kindOfWord_60 : decode cX3_kindOfWord 60 = .ok (.ldc 71, 2) := by decide +kernel
theorem dX3_kindOfWord_62 : decode cX3_kindOfWord 62 = .ok (.invokevirtual 43, 3) := by decide +kernel
theorem dX3_kindOfWord_65 : decode cX3_kindOfWord 65 = .ok (.ifCond .eq 5, 3) := by decide +kernel
theorem dX3_kindOfWord_68 : decode cX3_kindOfWord 68 = .ok (.iconst 4, 1) := by decide +kernel
theorem dX3_kindOfWord_69 : decode cX3_kindOfWord 69 = .ok (.ireturn, 1) := by decide +kernel
theorem dX3_kindOfWord_70 : decode cX3_kindOfWord 70 = .ok (.aload_n 0, 1) := by decide +kernel
theorem dX3_kindOfWord_71 : decode cX3_kindOfWord 71 = .ok (.getfield 9, 3) := by decide +kernel
theorem dX3_kindOfWord_74 : decode cX3_kindOfWord 74 = .ok (.ldc 73, 2) := by decide +kernel
theorem dX3_kindOfWord_76 : decode cX3_kindOfWord 76 = .ok (.invokevirtual 43, 3) := by decide +kernel
theorem dX3_kindOfWord_79 : decode cX3_kindOfWord 79 = .ok (.ifCond .eq 5, 3) := by decide +kernel
theorem dX3_kindOfWord_82 : decode cX3_kindOfWord 82 = .ok (.iconst 5, 1) := by decide +kernel
theorem dX3_kindOfWord_83 : decode cX3_kindOfWord 83 = .ok (.ireturn, 1) := by decide +kernel
theorem dX3_kindOfWord_84 : decode cX3_kindOfWord 84 = .ok (.aload_n 0, 1) := by decide +kernel
theorem dX3_kindOfWord_85 : decode cX3_kindOfWord 85 = .ok (.getfield 9, 3) := by decide +kernel
theorem dX3_kindOfWord_88 : decode cX3_kindOfWord 88 = .ok (.ldc 75, 2) := by decide +kernel
theorem dX3_kindOfWord_90 : decode cX3_kindOfWord 90 = .ok (.invokevirtual 43, 3) := by decide +kernel
theorem dX3_kindOfWord_93 : decode cX3_kindOfWord 93 = .ok (.ifCond .eq 6, 3) := by decide +kernel
theorem dX3_kindOfWord_96 : decode cX3_kindOfWord 96 = .ok (.bipush 6, 2) := by decide +kernel
theorem dX3_kindOfWord_98 : decode cX3_kindOfWord 98 = .ok (.ireturn, 1) := by decide +kernel
theorem dX3_kindOfWord_99 : decode cX3_kindOfWord 99 = .ok (.iconst (-1), 1) := by decide +kernel
theorem dX3_kindOfWord_100 : decode cX3_kindOfWord 100 = .ok (.ireturn, 1) := by decide +kernel
theorem dX3_newWriter_0 : decode cX3_newWriter 0 = .ok (.aload_n 0, 1) := by decide +kernel
theorem dX3_newWriter_1 : decode cX3_newWriter 1 = .ok (.getfield 15, 3) := by decide +kernel
theorem dX3_newWriter_4 : decode cX3_newWriter 4 = .ok (.getfield 77, 3) := by decide +kernel
theorem dX3_newWriter_7 : decode cX3_newWriter 7 = .ok (.astore_n 2, 1) := by decide +kernel
theorem dX3_newWriter_8 : decode cX3_newWriter 8 = .ok (.aload_n 2, 1) := by decide +kernel
theorem dX3_newWriter_9 : decode cX3_newWriter 9 = .ok (.iload_n 1, 1) := by decide +kernel
theorem dX3_newWriter_10 : decode cX3_newWriter 10 = .ok (.invokevirtual 83, 3) := by decide +kernel
theorem dX3_newWriter_13 : decode cX3_newWriter 13 = .ok (.istore_n 3, 1) := by decide +kernel
theorem dX3_newWriter_14 : decode cX3_newWriter 14 = .ok (.iload_n 3, 1) := by decide +kernel
theorem dX3_newWriter_15 : decode cX3_newWriter 15 = .ok (.ifCond .ge 5, 3) := by decide +kernel
theorem dX3_newWriter_18 : decode cX3_newWriter 18 = .ok (.iconst 0, 1) := by decide +kernel
theorem dX3_newWriter_19 : decode cX3_newWriter 19 = .ok (.ireturn, 1) := by decide +kernel
theorem dX3_newWriter_20 : decode cX3_newWriter 20 = .ok (.aload_n 0, 1) := by decide +kernel
theorem dX3_newWriter_21 : decode cX3_newWriter 21 = .ok (.getfield 9, 3) := by decide +kernel
theorem dX3_newWriter_24 : decode cX3_newWriter 24 = .ok (.invokevirtual 34, 3) := by decide +kernel
theorem dX3_newWriter_27 : decode cX3_newWriter 27 = .ok (.aload_n 0, 1) := by decide +kernel
theorem dX3_newWriter_28 : decode cX3_newWriter 28 = .ok (.ldc 89, 2) := by decide +kernel
theorem dX3_newWriter_30 : decode cX3_newWriter 30 = .ok (.aload_n 2, 1) := by decide +kernel
theorem dX3_newWriter_31 : decode cX3_newWriter 31 = .ok (.getfield 91, 3) := by decide +kernel
theorem dX3_newWriter_34 : decode cX3_newWriter 34 = .ok (.iload_n 3, 1) := by decide +kernel
theorem dX3_newWriter_35 : decode cX3_newWriter 35 = .ok (.invokevirtual 94, 3) := by decide +kernel
theorem dX3_newWriter_38 : decode cX3_newWriter 38 = .ok (.ifCond .eq 51, 3) := by decide +kernel
theorem dX3_newWriter_41 : decode cX3_newWriter 41 = .ok (.aload_n 0, 1) := by decide +kernel
theorem dX3_newWriter_42 : decode cX3_newWriter 42 = .ok (.ldc 98, 2) := by decide +kernel
theorem dX3_newWriter_44 : decode cX3_newWriter 44 = .ok (.aload_n 2, 1) := by decide +kernel
theorem dX3_newWriter_45 : decode cX3_newWriter 45 = .ok (.getfield 100, 3) := by decide +kernel
theorem dX3_newWriter_48 : decode cX3_newWriter 48 = .ok (.iload_n 3, 1) := by decide +kernel
theorem dX3_newWriter_49 : decode cX3_newWriter 49 = .ok (.invokevirtual 94, 3) := by decide +kernel
theorem dX3_newWriter_52 : decode cX3_newWriter 52 = .ok (.ifCond .eq 37, 3) := by decide +kernel
theorem dX3_newWriter_55 : decode cX3_newWriter 55 = .ok (.aload_n 0, 1) := by decide +kernel
theorem dX3_newWriter_56 : decode cX3_newWriter 56 = .ok (.ldc 102, 2) := by decide +kernel
theorem dX3_newWriter_58 : decode cX3_newWriter 58 = .ok (.aload_n 2, 1) := by decide +kernel
theorem dX3_newWriter_59 : decode cX3_newWriter 59 = .ok (.getfield 104, 3) := by decide +kernel
theorem dX3_newWriter_62 : decode cX3_newWriter 62 = .ok (.iload_n 3, 1) := by decide +kernel
theorem dX3_newWriter_63 : decode cX3_newWriter 63 = .ok (.invokevirtual 94, 3) := by decide +kernel
theorem dX3_newWriter_66 : decode cX3_newWriter 66 = .ok (.ifCond .eq 23, 3) := by decide +kernel
theorem dX3_newWriter_69 : decode cX3_newWriter 69 = .ok (.aload_n 0, 1) := by decide +kernel
theorem dX3_newWriter_70 : decode cX3_newWriter 70 = .ok (.ldc 106, 2) := by decide +kernel
theorem dX3_newWriter_72 : decode cX3_newWriter 72 = .ok (.bipush 99, 2) := by decide +kernel
theorem dX3_newWriter_74 : decode cX3_newWriter 74 = .ok (.aload_n 2, 1) := by decide +kernel
theorem dX3_newWriter_75 : decode cX3_newWriter 75 = .ok (.getfield 108, 3) := by decide +kernel
theorem dX3_newWriter_78 : decode cX3_newWriter 78 = .ok (.iload_n 3, 1) := by decide +kernel
theorem dX3_newWriter_79 : decode cX3_newWriter 79 = .ok (.invokevirtual 110, 3) := by decide +kernel
theorem dX3_newWriter_82 : decode cX3_newWriter 82 = .ok (.ifCond .eq 7, 3) := by decide +kernel
theorem dX3_newWriter_85 : decode cX3_newWriter 85 = .ok (.iconst 1, 1) := by decide +kernel
theorem dX3_newWriter_86 : decode cX3_newWriter 86 = .ok (.goto 4, 3) := by decide +kernel
theorem dX3_newWriter_89 : decode cX3_newWriter 89 = .ok (.iconst 0, 1) := by decide +kernel
theorem dX3_newWriter_90 : decode cX3_newWriter 90 = .ok (.ireturn, 1) := by decide +kernel
theorem dX3_newPerson_0 : decode cX3_newPerson 0 = .ok (.aload_n 0, 1) := by decide +kernel
theorem dX3_newPerson_1 : decode cX3_newPerson 1 = .ok (.getfield 15, 3) := by decide +kernel
theorem dX3_newPerson_4 : decode cX3_newPerson 4 = .ok (.getfield 114, 3) := by decide +kernel
theorem dX3_newPerson_7 : decode cX3_newPerson 7 = .ok (.astore_n 1, 1) := by decide +kernel
theorem dX3_newPerson_8 : decode cX3_newPerson 8 = .ok (.aload_n 1, 1) := by decide +kernel
theorem dX3_newPerson_9 : decode cX3_newPerson 9 = .ok (.getfield 118, 3) := by decide +kernel
theorem dX3_newPerson_12 : decode cX3_newPerson 12 = .ok (.bipush 8, 2) := by decide +kernel
theorem dX3_newPerson_14 : decode cX3_newPerson 14 = .ok (.if_icmp .lt 5, 3) := by decide +kernel
theorem dX3_newPerson_17 : decode cX3_newPerson 17 = .ok (.iconst 0, 1) := by decide +kernel
theorem dX3_newPerson_18 : decode cX3_newPerson 18 = .ok (.ireturn, 1) := by decide +kernel
theorem dX3_newPerson_19 : decode cX3_newPerson 19 = .ok (.aload_n 0, 1) := by decide +kernel
theorem dX3_newPerson_20 : decode cX3_newPerson 20 = .ok (.getfield 9, 3) := by decide +kernel
theorem dX3_newPerson_23 : decode cX3_newPerson 23 = .ok (.invokevirtual 34, 3) := by decide +kernel
theorem dX3_newPerson_26 : decode cX3_newPerson 26 = .ok (.aload_n 0, 1) := by decide +kernel
theorem dX3_newPerson_27 : decode cX3_newPerson 27 = .ok (.getfield 9, 3) := by decide +kernel
theorem dX3_newPerson_30 : decode cX3_newPerson 30 = .ok (.ldc 123, 2) := by decide +kernel
theorem dX3_newPerson_32 : decode cX3_newPerson 32 = .ok (.invokevirtual 43, 3) := by decide +kernel
theorem dX3_newPerson_35 : decode cX3_newPerson 35 = .ok (.ifCond .ne 5, 3) := by decide +kernel
theorem dX3_newPerson_38 : decode cX3_newPerson 38 = .ok (.iconst 0, 1) := by decide +kernel
theorem dX3_newPerson_39 : decode cX3_newPerson 39 = .ok (.ireturn, 1) := by decide +kernel
theorem dX3_newPerson_40 : decode cX3_newPerson 40 = .ok (.aload_n 0, 1) := by decide +kernel
theorem dX3_newPerson_41 : decode cX3_newPerson 41 = .ok (.getfield 9, 3) := by decide +kernel
theorem dX3_newPerson_44 : decode cX3_newPerson 44 = .ok (.invokevirtual 34, 3) := by decide +kernel
theorem dX3_newPerson_47 : decode cX3_newPerson 47 = .ok (.aload_n 0, 1) := by decide +kernel
theorem dX3_newPerson_48 : decode cX3_newPerson 48 = .ok (.getfield 9, 3) := by decide +kernel
theorem dX3_newPerson_51 : decode cX3_newPerson 51 = .ok (.aload_n 0, 1) := by decide +kernel
theorem dX3_newPerson_52 : decode cX3_newPerson 52 = .ok (.getfield 15, 3) := by decide +kernel
theorem dX3_newPerson_55 : decode cX3_newPerson 55 = .ok (.getfield 77, 3) := by decide +kernel
theorem dX3_newPerson_58 : decode cX3_newPerson 58 = .ok (.getfield 125, 3) := by decide +kernel
theorem dX3_newPerson_61 : decode cX3_newPerson 61 = .ok (.iconst 1, 1) := by decide +kernel
theorem dX3_newPerson_62 : decode cX3_newPerson 62 = .ok (.isub, 1) := by decide +kernel
theorem dX3_newPerson_63 : decode cX3_newPerson 63 = .ok (.invokevirtual 126, 3) := by decide +kernel
theorem dX3_newPerson_66 : decode cX3_newPerson 66 = .ok (.ifCond .ne 5, 3) := by decide +kernel
theorem dX3_newPerson_69 : decode cX3_newPerson 69 = .ok (.iconst 0, 1) := by decide +kernel
theorem dX3_newPerson_70 : decode cX3_newPerson 70 = .ok (.ireturn, 1) := by decide +kernel
theorem dX3_newPerson_71 : decode cX3_newPerson 71 = .ok (.aload_n 1, 1) := by decide +kernel
theorem dX3_newPerson_72 : decode cX3_newPerson 72 = .ok (.aload_n 0, 1) := by decide +kernel
theorem dX3_newPerson_73 : decode cX3_newPerson 73 = .ok (.getfield 9, 3) := by decide +kernel
theorem dX3_newPerson_76 : decode cX3_newPerson 76 = .ok (.getfield 129, 3) := by decide +kernel
theorem dX3_newPerson_79 : decode cX3_newPerson 79 = .ok (.invokevirtual 132, 3) := by decide +kernel
theorem dX3_newPerson_82 : decode cX3_newPerson 82 = .ok (.istore_n 2, 1) := by decide +kernel
theorem dX3_newPerson_83 : decode cX3_newPerson 83 = .ok (.iload_n 2, 1) := by decide +kernel
theorem dX3_newPerson_84 : decode cX3_newPerson 84 = .ok (.ifCond .ge 5, 3) := by decide +kernel
theorem dX3_newPerson_87 : decode cX3_newPerson 87 = .ok (.iconst 0, 1) := by decide +kernel
theorem dX3_newPerson_88 : decode cX3_newPerson 88 = .ok (.ireturn, 1) := by decide +kernel
theorem dX3_newPerson_89 : decode cX3_newPerson 89 = .ok (.aload_n 0, 1) := by decide +kernel
theorem dX3_newPerson_90 : decode cX3_newPerson 90 = .ok (.getfield 9, 3) := by decide +kernel
theorem dX3_newPerson_93 : decode cX3_newPerson 93 = .ok (.invokevirtual 34, 3) := by decide +kernel
theorem dX3_newPerson_96 : decode cX3_newPerson 96 = .ok (.aload_n 0, 1) := by decide +kernel
theorem dX3_newPerson_97 : decode cX3_newPerson 97 = .ok (.ldc 133, 2) := by decide +kernel
theorem dX3_newPerson_99 : decode cX3_newPerson 99 = .ok (.aload_n 1, 1) := by decide +kernel
theorem dX3_newPerson_100 : decode cX3_newPerson 100 = .ok (.getfield 135, 3) := by decide +kernel
theorem dX3_newPerson_103 : decode cX3_newPerson 103 = .ok (.iload_n 2, 1) := by decide +kernel
theorem dX3_newPerson_104 : decode cX3_newPerson 104 = .ok (.invokevirtual 94, 3) := by decide +kernel
theorem dX3_newPerson_107 : decode cX3_newPerson 107 = .ok (.ifCond .eq 23, 3) := by decide +kernel
theorem dX3_newPerson_110 : decode cX3_newPerson 110 = .ok (.aload_n 0, 1) := by decide +kernel
theorem dX3_newPerson_111 : decode cX3_newPerson 111 = .ok (.ldc 137, 2) := by decide +kernel
theorem dX3_newPerson_113 : decode cX3_newPerson 113 = .ok (.ldc 139, 2) := by decide +kernel
theorem dX3_newPerson_115 : decode cX3_newPerson 115 = .ok (.aload_n 1, 1) := by decide +kernel
theorem dX3_newPerson_116 : decode cX3_newPerson 116 = .ok (.getfield 140, 3) := by decide +kernel
theorem dX3_newPerson_119 : decode cX3_newPerson 119 = .ok (.iload_n 2, 1) := by decide +kernel
theorem dX3_newPerson_120 : decode cX3_newPerson 120 = .ok (.invokevirtual 110, 3) := by decide +kernel
theorem dX3_newPerson_123 : decode cX3_newPerson 123 = .ok (.ifCond .eq 7, 3) := by decide +kernel
theorem dX3_newPerson_126 : decode cX3_newPerson 126 = .ok (.iconst 1, 1) := by decide +kernel
theorem dX3_newPerson_127 : decode cX3_newPerson 127 = .ok (.goto 4, 3) := by decide +kernel
theorem dX3_newPerson_130 : decode cX3_newPerson 130 = .ok (.iconst 0, 1) := by decide +kernel
theorem dX3_newPerson_131 : decode cX3_newPerson 131 = .ok (.ireturn, 1) := by decide +kernel
theorem dX3_newTie_0 : decode cX3_newTie 0 = .ok (.aload_n 0, 1) := by decide +kernel
theorem dX3_newTie_1 : decode cX3_newTie 1 = .ok (.getfield 15, 3) := by decide +kernel
theorem dX3_newTie_4 : decode cX3_newTie 4 = .ok (.getfield 114, 3) := by decide +kernel
theorem dX3_newTie_7 : decode cX3_newTie 7 = .ok (.getfield 118, 3) := by decide +kernel
theorem dX3_newTie_10 : decode cX3_newTie 10 = .ok (.iconst 1, 1) := by decide +kernel
theorem dX3_newTie_11 : decode cX3_newTie 11 = .ok (.isub, 1) := by decide +kernel
theorem dX3_newTie_12 : decode cX3_newTie 12 = .ok (.istore_n 1, 1) := by decide +kernel
theorem dX3_newTie_13 : decode cX3_newTie 13 = .ok (.aload_n 0, 1) := by decide +kernel
theorem dX3_newTie_14 : decode cX3_newTie 14 = .ok (.getfield 9, 3) := by decide +kernel
theorem dX3_newTie_17 : decode cX3_newTie 17 = .ok (.invokevirtual 34, 3) := by decide +kernel
theorem dX3_newTie_20 : decode cX3_newTie 20 = .ok (.aload_n 0, 1) := by decide +kernel
theorem dX3_newTie_21 : decode cX3_newTie 21 = .ok (.getfield 9, 3) := by decide +kernel
theorem dX3_newTie_24 : decode cX3_newTie 24 = .ok (.iload_n 1, 1) := by decide +kernel
theorem dX3_newTie_25 : decode cX3_newTie 25 = .ok (.invokevirtual 126, 3) := by decide +kernel
theorem dX3_newTie_28 : decode cX3_newTie 28 = .ok (.ifCond .ne 5, 3) := by decide +kernel
theorem dX3_newTie_31 : decode cX3_newTie 31 = .ok (.iconst 0, 1) := by decide +kernel
theorem dX3_newTie_32 : decode cX3_newTie 32 = .ok (.ireturn, 1) := by decide +kernel
theorem dX3_newTie_33 : decode cX3_newTie 33 = .ok (.aload_n 0, 1) := by decide +kernel
theorem dX3_newTie_34 : decode cX3_newTie 34 = .ok (.getfield 9, 3) := by decide +kernel
theorem dX3_newTie_37 : decode cX3_newTie 37 = .ok (.getfield 129, 3) := by decide +kernel
theorem dX3_newTie_40 : decode cX3_newTie 40 = .ok (.istore_n 2, 1) := by decide +kernel
theorem dX3_newTie_41 : decode cX3_newTie 41 = .ok (.aload_n 0, 1) := by decide +kernel
theorem dX3_newTie_42 : decode cX3_newTie 42 = .ok (.getfield 9, 3) := by decide +kernel
theorem dX3_newTie_45 : decode cX3_newTie 45 = .ok (.invokevirtual 34, 3) := by decide +kernel
theorem dX3_newTie_48 : decode cX3_newTie 48 = .ok (.aload_n 0, 1) := by decide +kernel
theorem dX3_newTie_49 : decode cX3_newTie 49 = .ok (.getfield 9, 3) := by decide +kernel
theorem dX3_newTie_52 : decode cX3_newTie 52 = .ok (.iload_n 1, 1) := by decide +kernel
theorem dX3_newTie_53 : decode cX3_newTie 53 = .ok (.invokevirtual 126, 3) := by decide +kernel
theorem dX3_newTie_56 : decode cX3_newTie 56 = .ok (.ifCond .eq 14, 3) := by decide +kernel
theorem dX3_newTie_59 : decode cX3_newTie 59 = .ok (.aload_n 0, 1) := by decide +kernel
theorem dX3_newTie_60 : decode cX3_newTie 60 = .ok (.getfield 9, 3) := by decide +kernel
theorem dX3_newTie_63 : decode cX3_newTie 63 = .ok (.getfield 129, 3) := by decide +kernel
theorem dX3_newTie_66 : decode cX3_newTie 66 = .ok (.iload_n 2, 1) := by decide +kernel
theorem dX3_newTie_67 : decode cX3_newTie 67 = .ok (.if_icmp .ne 5, 3) := by decide +kernel
theorem dX3_newTie_70 : decode cX3_newTie 70 = .ok (.iconst 0, 1) := by decide +kernel
theorem dX3_newTie_71 : decode cX3_newTie 71 = .ok (.ireturn, 1) := by decide +kernel
theorem dX3_newTie_72 : decode cX3_newTie 72 = .ok (.aload_n 0, 1) := by decide +kernel
theorem dX3_newTie_73 : decode cX3_newTie 73 = .ok (.getfield 15, 3) := by decide +kernel
theorem dX3_newTie_76 : decode cX3_newTie 76 = .ok (.getfield 114, 3) := by decide +kernel
theorem dX3_newTie_79 : decode cX3_newTie 79 = .ok (.iload_n 2, 1) := by decide +kernel
theorem dX3_newTie_80 : decode cX3_newTie 80 = .ok (.aload_n 0, 1) := by decide +kernel
theorem dX3_newTie_81 : decode cX3_newTie 81 = .ok (.getfield 9, 3) := by decide +kernel
theorem dX3_newTie_84 : decode cX3_newTie 84 = .ok (.getfield 129, 3) := by decide +kernel
theorem dX3_newTie_87 : decode cX3_newTie 87 = .ok (.iconst 1, 1) := by decide +kernel
theorem dX3_newTie_88 : decode cX3_newTie 88 = .ok (.invokevirtual 142, 3) := by decide +kernel
theorem dX3_newTie_91 : decode cX3_newTie 91 = .ok (.aload_n 0, 1) := by decide +kernel
theorem dX3_newTie_92 : decode cX3_newTie 92 = .ok (.getfield 9, 3) := by decide +kernel
theorem dX3_newTie_95 : decode cX3_newTie 95 = .ok (.invokevirtual 34, 3) := by decide +kernel
theorem dX3_newTie_98 : decode cX3_newTie 98 = .ok (.iconst 1, 1) := by decide +kernel
theorem dX3_newTie_99 : decode cX3_newTie 99 = .ok (.ireturn, 1) := by decide +kernel
theorem dX3_perhapsMarks_0 : decode cX3_perhapsMarks 0 = .ok (.aload_n 0, 1) := by decide +kernel
theorem dX3_perhapsMarks_1 : decode cX3_perhapsMarks 1 = .ok (.getfield 9, 3) := by decide +kernel
theorem dX3_perhapsMarks_4 : decode cX3_perhapsMarks 4 = .ok (.aload_n 1, 1) := by decide +kernel
theorem dX3_perhapsMarks_5 : decode cX3_perhapsMarks 5 = .ok (.invokevirtual 43, 3) := by decide +kernel
theorem dX3_perhapsMarks_8 : decode cX3_perhapsMarks 8 = .ok (.ifCond .ne 5, 3) := by decide +kernel
theorem dX3_perhapsMarks_11 : decode cX3_perhapsMarks 11 = .ok (.iconst 1, 1) := by decide +kernel
theorem dX3_perhapsMarks_12 : decode cX3_perhapsMarks 12 = .ok (.ireturn, 1) := by decide +kernel
theorem dX3_perhapsMarks_13 : decode cX3_perhapsMarks 13 = .ok (.aload_n 0, 1) := by decide +kernel
theorem dX3_perhapsMarks_14 : decode cX3_perhapsMarks 14 = .ok (.getfield 9, 3) := by decide +kernel
theorem dX3_perhapsMarks_17 : decode cX3_perhapsMarks 17 = .ok (.invokevirtual 34, 3) := by decide +kernel
theorem dX3_perhapsMarks_20 : decode cX3_perhapsMarks 20 = .ok (.aload_n 0, 1) := by decide +kernel
theorem dX3_perhapsMarks_21 : decode cX3_perhapsMarks 21 = .ok (.getfield 9, 3) := by decide +kernel
theorem dX3_perhapsMarks_24 : decode cX3_perhapsMarks 24 = .ok (.invokevirtual 146, 3) := by decide +kernel
theorem dX3_perhapsMarks_27 : decode cX3_perhapsMarks 27 = .ok (.ifCond .ne 5, 3) := by decide +kernel
theorem dX3_perhapsMarks_30 : decode cX3_perhapsMarks 30 = .ok (.iconst 0, 1) := by decide +kernel
theorem dX3_perhapsMarks_31 : decode cX3_perhapsMarks 31 = .ok (.ireturn, 1) := by decide +kernel
theorem dX3_perhapsMarks_32 : decode cX3_perhapsMarks 32 = .ok (.iconst 0, 1) := by decide +kernel
theorem dX3_perhapsMarks_33 : decode cX3_perhapsMarks 33 = .ok (.istore 4, 2) := by decide +kernel
theorem dX3_perhapsMarks_35 : decode cX3_perhapsMarks 35 = .ok (.iconst 0, 1) := by decide +kernel
theorem dX3_perhapsMarks_36 : decode cX3_perhapsMarks 36 = .ok (.istore 5, 2) := by decide +kernel
theorem dX3_perhapsMarks_38 : decode cX3_perhapsMarks 38 = .ok (.iload 5, 2) := by decide +kernel
theorem dX3_perhapsMarks_40 : decode cX3_perhapsMarks 40 = .ok (.bipush 120, 2) := by decide +kernel
theorem dX3_perhapsMarks_42 : decode cX3_perhapsMarks 42 = .ok (.if_icmp .ge 54, 3) := by decide +kernel
theorem dX3_perhapsMarks_45 : decode cX3_perhapsMarks 45 = .ok (.aload_n 0, 1) := by decide +kernel
theorem dX3_perhapsMarks_46 : decode cX3_perhapsMarks 46 = .ok (.getfield 9, 3) := by decide +kernel
theorem dX3_perhapsMarks_49 : decode cX3_perhapsMarks 49 = .ok (.invokevirtual 146, 3) := by decide +kernel
theorem dX3_perhapsMarks_52 : decode cX3_perhapsMarks 52 = .ok (.ifCond .eq 44, 3) := by decide +kernel
theorem dX3_perhapsMarks_55 : decode cX3_perhapsMarks 55 = .ok (.aload_n 0, 1) := by decide +kernel
theorem dX3_perhapsMarks_56 : decode cX3_perhapsMarks 56 = .ok (.getfield 9, 3) := by decide +kernel
theorem dX3_perhapsMarks_59 : decode cX3_perhapsMarks 59 = .ok (.bipush 11, 2) := by decide +kernel
theorem dX3_perhapsMarks_61 : decode cX3_perhapsMarks 61 = .ok (.invokevirtual 126, 3) := by decide +kernel
theorem dX3_perhapsMarks_64 : decode cX3_perhapsMarks 64 = .ok (.ifCond .ne 5, 3) := by decide +kernel
theorem dX3_perhapsMarks_67 : decode cX3_perhapsMarks 67 = .ok (.iconst 0, 1) := by decide +kernel
theorem dX3_perhapsMarks_68 : decode cX3_perhapsMarks 68 = .ok (.ireturn, 1) := by decide +kernel
theorem dX3_perhapsMarks_69 : decode cX3_perhapsMarks 69 = .ok (.iload 4, 2) := by decide +kernel
theorem dX3_perhapsMarks_71 : decode cX3_perhapsMarks 71 = .ok (.iconst 1, 1) := by decide +kernel
theorem dX3_perhapsMarks_72 : decode cX3_perhapsMarks 72 = .ok (.aload_n 0, 1) := by decide +kernel
theorem dX3_perhapsMarks_73 : decode cX3_perhapsMarks 73 = .ok (.getfield 9, 3) := by decide +kernel
theorem dX3_perhapsMarks_76 : decode cX3_perhapsMarks 76 = .ok (.getfield 129, 3) := by decide +kernel
theorem dX3_perhapsMarks_79 : decode cX3_perhapsMarks 79 = .ok (.ishl, 1) := by decide +kernel
theorem dX3_perhapsMarks_80 : decode cX3_perhapsMarks 80 = .ok (.ior, 1) := by decide +kernel
theorem dX3_perhapsMarks_81 : decode cX3_perhapsMarks 81 = .ok (.istore 4, 2) := by decide +kernel
theorem dX3_perhapsMarks_83 : decode cX3_perhapsMarks 83 = .ok (.aload_n 0, 1) := by decide +kernel
theorem dX3_perhapsMarks_84 : decode cX3_perhapsMarks 84 = .ok (.getfield 9, 3) := by decide +kernel
theorem dX3_perhapsMarks_87 : decode cX3_perhapsMarks 87 = .ok (.invokevirtual 34, 3) := by decide +kernel
theorem dX3_perhapsMarks_90 : decode cX3_perhapsMarks 90 = .ok (.iinc 5 1, 3) := by decide +kernel
theorem dX3_perhapsMarks_93 : decode cX3_perhapsMarks 93 = .ok (.goto (-55), 3) := by decide +kernel
theorem dX3_perhapsMarks_96 : decode cX3_perhapsMarks 96 = .ok (.aload_n 2, 1) := by decide +kernel
theorem dX3_perhapsMarks_97 : decode cX3_perhapsMarks 97 = .ok (.iload_n 3, 1) := by decide +kernel
theorem dX3_perhapsMarks_98 : decode cX3_perhapsMarks 98 = .ok (.iload 4, 2) := by decide +kernel
theorem dX3_perhapsMarks_100 : decode cX3_perhapsMarks 100 = .ok (.iastore, 1) := by decide +kernel
theorem dX3_perhapsMarks_101 : decode cX3_perhapsMarks 101 = .ok (.iconst 1, 1) := by decide +kernel
theorem dX3_perhapsMarks_102 : decode cX3_perhapsMarks 102 = .ok (.ireturn, 1) := by decide +kernel
theorem dX3_perhapsNumber_0 : decode cX3_perhapsNumber 0 = .ok (.aload_n 0, 1) := by decide +kernel
theorem dX3_perhapsNumber_1 : decode cX3_perhapsNumber 1 = .ok (.getfield 9, 3) := by decide +kernel
theorem dX3_perhapsNumber_4 : decode cX3_perhapsNumber 4 = .ok (.aload_n 1, 1) := by decide +kernel
theorem dX3_perhapsNumber_5 : decode cX3_perhapsNumber 5 = .ok (.invokevirtual 43, 3) := by decide +kernel
theorem dX3_perhapsNumber_8 : decode cX3_perhapsNumber 8 = .ok (.ifCond .ne 5, 3) := by decide +kernel
theorem dX3_perhapsNumber_11 : decode cX3_perhapsNumber 11 = .ok (.iconst 1, 1) := by decide +kernel
theorem dX3_perhapsNumber_12 : decode cX3_perhapsNumber 12 = .ok (.ireturn, 1) := by decide +kernel
theorem dX3_perhapsNumber_13 : decode cX3_perhapsNumber 13 = .ok (.aload_n 0, 1) := by decide +kernel
theorem dX3_perhapsNumber_14 : decode cX3_perhapsNumber 14 = .ok (.getfield 9, 3) := by decide +kernel
theorem dX3_perhapsNumber_17 : decode cX3_perhapsNumber 17 = .ok (.invokevirtual 34, 3) := by decide +kernel
theorem dX3_perhapsNumber_20 : decode cX3_perhapsNumber 20 = .ok (.aload_n 0, 1) := by decide +kernel
theorem dX3_perhapsNumber_21 : decode cX3_perhapsNumber 21 = .ok (.getfield 9, 3) := by decide +kernel
theorem dX3_perhapsNumber_24 : decode cX3_perhapsNumber 24 = .ok (.iload_n 2, 1) := by decide +kernel
theorem dX3_perhapsNumber_25 : decode cX3_perhapsNumber 25 = .ok (.invokevirtual 126, 3) := by decide +kernel
theorem dX3_perhapsNumber_28 : decode cX3_perhapsNumber 28 = .ok (.ifCond .ne 5, 3) := by decide +kernel
theorem dX3_perhapsNumber_31 : decode cX3_perhapsNumber 31 = .ok (.iconst 0, 1) := by decide +kernel
theorem dX3_perhapsNumber_32 : decode cX3_perhapsNumber 32 = .ok (.ireturn, 1) := by decide +kernel
theorem dX3_perhapsNumber_33 : decode cX3_perhapsNumber 33 = .ok (.aload_n 3, 1) := by decide +kernel
theorem dX3_perhapsNumber_34 : decode cX3_perhapsNumber 34 = .ok (.iload 4, 2) := by decide +kernel
theorem dX3_perhapsNumber_36 : decode cX3_perhapsNumber 36 = .ok (.aload_n 0, 1) := by decide +kernel
theorem dX3_perhapsNumber_37 : decode cX3_perhapsNumber 37 = .ok (.getfield 9, 3) := by decide +kernel
theorem dX3_perhapsNumber_40 : decode cX3_perhapsNumber 40 = .ok (.getfield 129, 3) := by decide +kernel
theorem dX3_perhapsNumber_43 : decode cX3_perhapsNumber 43 = .ok (.iastore, 1) := by decide +kernel
theorem dX3_perhapsNumber_44 : decode cX3_perhapsNumber 44 = .ok (.aload_n 0, 1) := by decide +kernel
theorem dX3_perhapsNumber_45 : decode cX3_perhapsNumber 45 = .ok (.getfield 9, 3) := by decide +kernel
theorem dX3_perhapsNumber_48 : decode cX3_perhapsNumber 48 = .ok (.invokevirtual 34, 3) := by decide +kernel
theorem dX3_perhapsNumber_51 : decode cX3_perhapsNumber 51 = .ok (.iconst 1, 1) := by decide +kernel
theorem dX3_perhapsNumber_52 : decode cX3_perhapsNumber 52 = .ok (.ireturn, 1) := by decide +kernel
theorem dX4_init_0 : decode cX4_init 0 = .ok (.aload_n 0, 1) := by decide +kernel
theorem dX4_init_1 : decode cX4_init 1 = .ok (.invokespecial 3, 3) := by decide +kernel
theorem dX4_init_4 : decode cX4_init 4 = .ok (.aload_n 0, 1) := by decide +kernel
theorem dX4_init_5 : decode cX4_init 5 = .ok (.new 9, 3) := by decide +kernel
theorem dX4_init_8 : decode cX4_init 8 = .ok (.dup, 1) := by decide +kernel
theorem dX4_init_9 : decode cX4_init 9 = .ok (.invokespecial 11, 3) := by decide +kernel
theorem dX4_init_12 : decode cX4_init 12 = .ok (.putfield 12, 3) := by decide +kernel
theorem dX4_init_15 : decode cX4_init 15 = .ok (.aload_n 0, 1) := by decide +kernel
theorem dX4_init_16 : decode cX4_init 16 = .ok (.new 18, 3) := by decide +kernel
theorem dX4_init_19 : decode cX4_init 19 = .ok (.dup, 1) := by decide +kernel
theorem dX4_init_20 : decode cX4_init 20 = .ok (.invokespecial 20, 3) := by decide +kernel
theorem dX4_init_23 : decode cX4_init 23 = .ok (.putfield 21, 3) := by decide +kernel
theorem dX4_init_26 : decode cX4_init 26 = .ok (.aload_n 0, 1) := by decide +kernel
theorem dX4_init_27 : decode cX4_init 27 = .ok (.bipush 10, 2) := by decide +kernel
theorem dX4_init_29 : decode cX4_init 29 = .ok (.newarray .int, 2) := by decide +kernel
theorem dX4_init_31 : decode cX4_init 31 = .ok (.putfield 25, 3) := by decide +kernel
theorem dX4_init_34 : decode cX4_init 34 = .ok (.aload_n 0, 1) := by decide +kernel
theorem dX4_init_35 : decode cX4_init 35 = .ok (.getfield 25, 3) := by decide +kernel
theorem dX4_init_38 : decode cX4_init 38 = .ok (.iconst (-1), 1) := by decide +kernel
theorem dX4_init_39 : decode cX4_init 39 = .ok (.invokestatic 29, 3) := by decide +kernel
theorem dX4_init_42 : decode cX4_init 42 = .ok (.aload_n 0, 1) := by decide +kernel
theorem dX4_init_43 : decode cX4_init 43 = .ok (.iconst 1, 1) := by decide +kernel
theorem dX4_init_44 : decode cX4_init 44 = .ok (.putfield 35, 3) := by decide +kernel
theorem dX4_init_47 : decode cX4_init 47 = .ok (.return_, 1) := by decide +kernel
theorem dX4_become_0 : decode cX4_become 0 = .ok (.aload_n 0, 1) := by decide +kernel
theorem dX4_become_1 : decode cX4_become 1 = .ok (.getfield 12, 3) := by decide +kernel
theorem dX4_become_4 : decode cX4_become 4 = .ok (.aload_n 1, 1) := by decide +kernel
theorem dX4_become_5 : decode cX4_become 5 = .ok (.getfield 12, 3) := by decide +kernel
theorem dX4_become_8 : decode cX4_become 8 = .ok (.invokevirtual 39, 3) := by decide +kernel
theorem dX4_become_11 : decode cX4_become 11 = .ok (.aload_n 0, 1) := by decide +kernel
theorem dX4_become_12 : decode cX4_become 12 = .ok (.getfield 21, 3) := by decide +kernel
theorem dX4_become_15 : decode cX4_become 15 = .ok (.aload_n 1, 1) := by decide +kernel
theorem dX4_become_16 : decode cX4_become 16 = .ok (.getfield 21, 3) := by decide +kernel
theorem dX4_become_19 : decode cX4_become 19 = .ok (.invokevirtual 43, 3) := by decide +kernel
theorem dX4_become_22 : decode cX4_become 22 = .ok (.aload_n 1, 1) := by decide +kernel
theorem dX4_become_23 : decode cX4_become 23 = .ok (.getfield 25, 3) := by decide +kernel
theorem dX4_become_26 : decode cX4_become 26 = .ok (.iconst 0, 1) := by decide +kernel
theorem dX4_become_27 : decode cX4_become 27 = .ok (.aload_n 0, 1) := by decide +kernel
theorem dX4_become_28 : decode cX4_become 28 = .ok (.getfield 25, 3) := by decide +kernel
theorem dX4_become_31 : decode cX4_become 31 = .ok (.iconst 0, 1) := by decide +kernel
theorem dX4_become_32 : decode cX4_become 32 = .ok (.bipush 10, 2) := by decide +kernel
theorem dX4_become_34 : decode cX4_become 34 = .ok (.invokestatic 46, 3) := by decide +kernel
theorem dX4_become_37 : decode cX4_become 37 = .ok (.aload_n 0, 1) := by decide +kernel
theorem dX4_become_38 : decode cX4_become 38 = .ok (.aload_n 1, 1) := by decide +kernel
theorem dX4_become_39 : decode cX4_become 39 = .ok (.getfield 52, 3) := by decide +kernel
theorem dX4_become_42 : decode cX4_become 42 = .ok (.putfield 52, 3) := by decide +kernel
theorem dX4_become_45 : decode cX4_become 45 = .ok (.aload_n 0, 1) := by decide +kernel
theorem dX4_become_46 : decode cX4_become 46 = .ok (.aload_n 1, 1) := by decide +kernel
theorem dX4_become_47 : decode cX4_become 47 = .ok (.getfield 55, 3) := by decide +kernel
theorem dX4_become_50 : decode cX4_become 50 = .ok (.putfield 55, 3) := by decide +kernel
theorem dX4_become_53 : decode cX4_become 53 = .ok (.aload_n 0, 1) := by decide +kernel
theorem dX4_become_54 : decode cX4_become 54 = .ok (.aload_n 1, 1) := by decide +kernel
theorem dX4_become_55 : decode cX4_become 55 = .ok (.getfield 35, 3) := by decide +kernel
theorem dX4_become_58 : decode cX4_become 58 = .ok (.putfield 35, 3) := by decide +kernel
theorem dX4_become_61 : decode cX4_become 61 = .ok (.aload_n 0, 1) := by decide +kernel
theorem dX4_become_62 : decode cX4_become 62 = .ok (.iconst 0, 1) := by decide +kernel
theorem dX4_become_63 : decode cX4_become 63 = .ok (.putfield 58, 3) := by decide +kernel
theorem dX4_become_66 : decode cX4_become 66 = .ok (.return_, 1) := by decide +kernel
theorem dX4_hasYears_0 : decode cX4_hasYears 0 = .ok (.aload_n 0, 1) := by decide +kernel
theorem dX4_hasYears_1 : decode cX4_hasYears 1 = .ok (.getfield 52, 3) := by decide +kernel
theorem dX4_hasYears_4 : decode cX4_hasYears 4 = .ok (.iload_n 1, 1) := by decide +kernel
theorem dX4_hasYears_5 : decode cX4_hasYears 5 = .ok (.iadd, 1) := by decide +kernel
theorem dX4_hasYears_6 : decode cX4_hasYears 6 = .ok (.sipush 999, 3) := by decide +kernel
theorem dX4_hasYears_9 : decode cX4_hasYears 9 = .ok (.if_icmp .gt 7, 3) := by decide +kernel
theorem dX4_hasYears_12 : decode cX4_hasYears 12 = .ok (.iconst 1, 1) := by decide +kernel
theorem dX4_hasYears_13 : decode cX4_hasYears 13 = .ok (.goto 4, 3) := by decide +kernel
theorem dX4_hasYears_16 : decode cX4_hasYears 16 = .ok (.iconst 0, 1) := by decide +kernel
theorem dX4_hasYears_17 : decode cX4_hasYears 17 = .ok (.ireturn, 1) := by decide +kernel
theorem dX4_heard_0 : decode cX4_heard 0 = .ok (.aload_n 0, 1) := by decide +kernel
theorem dX4_heard_1 : decode cX4_heard 1 = .ok (.getfield 21, 3) := by decide +kernel
theorem dX4_heard_4 : decode cX4_heard 4 = .ok (.getfield 61, 3) := by decide +kernel
theorem dX4_heard_7 : decode cX4_heard 7 = .ok (.iload_n 1, 1) := by decide +kernel
theorem dX4_heard_8 : decode cX4_heard 8 = .ok (.iaload, 1) := by decide +kernel
theorem dX4_heard_9 : decode cX4_heard 9 = .ok (.ifCond .eq 7, 3) := by decide +kernel
theorem dX4_heard_12 : decode cX4_heard 12 = .ok (.iload_n 2, 1) := by decide +kernel
theorem dX4_heard_13 : decode cX4_heard 13 = .ok (.goto 20, 3) := by decide +kernel
theorem dX4_heard_16 : decode cX4_heard 16 = .ok (.aload_n 0, 1) := by decide +kernel
theorem dX4_heard_17 : decode cX4_heard 17 = .ok (.getfield 12, 3) := by decide +kernel
theorem dX4_heard_20 : decode cX4_heard 20 = .ok (.aload_n 0, 1) := by decide +kernel
theorem dX4_heard_21 : decode cX4_heard 21 = .ok (.getfield 21, 3) := by decide +kernel
theorem dX4_heard_24 : decode cX4_heard 24 = .ok (.getfield 64, 3) := by decide +kernel
theorem dX4_heard_27 : decode cX4_heard 27 = .ok (.iload_n 1, 1) := by decide +kernel
theorem dX4_heard_28 : decode cX4_heard 28 = .ok (.iaload, 1) := by decide +kernel
theorem dX4_heard_29 : decode cX4_heard 29 = .ok (.iload_n 2, 1) := by decide +kernel
theorem dX4_heard_30 : decode cX4_heard 30 = .ok (.invokevirtual 67, 3) := by decide +kernel
theorem dX4_heard_33 : decode cX4_heard 33 = .ok (.ireturn, 1) := by decide +kernel
theorem dX4_fee_0 : decode cX4_fee 0 = .ok (.aload_n 0, 1) := by decide +kernel
theorem dX4_fee_1 : decode cX4_fee 1 = .ok (.getfield 21, 3) := by decide +kernel
theorem dX4_fee_4 : decode cX4_fee 4 = .ok (.getfield 64, 3) := by decide +kernel
theorem dX4_fee_7 : decode cX4_fee 7 = .ok (.iload_n 1, 1) := by decide +kernel
theorem dX4_fee_8 : decode cX4_fee 8 = .ok (.iaload, 1) := by decide +kernel
theorem dX4_fee_9 : decode cX4_fee 9 = .ok (.istore_n 2, 1) := by decide +kernel
theorem dX4_fee_10 : decode cX4_fee 10 = .ok (.aload_n 0, 1) := by decide +kernel
theorem dX4_fee_11 : decode cX4_fee 11 = .ok (.getfield 21, 3) := by decide +kernel
theorem dX4_fee_14 : decode cX4_fee 14 = .ok (.getfield 61, 3) := by decide +kernel
theorem dX4_fee_17 : decode cX4_fee 17 = .ok (.iload_n 1, 1) := by decide +kernel
theorem dX4_fee_18 : decode cX4_fee 18 = .ok (.iaload, 1) := by decide +kernel
theorem dX4_fee_19 : decode cX4_fee 19 = .ok (.ifCond .ne 14, 3) := by decide +kernel
theorem dX4_fee_22 : decode cX4_fee 22 = .ok (.aload_n 0, 1) := by decide +kernel
theorem dX4_fee_23 : decode cX4_fee 23 = .ok (.getfield 12, 3) := by decide +kernel
theorem dX4_fee_26 : decode cX4_fee 26 = .ok (.iload_n 2, 1) := by decide +kernel
theorem dX4_fee_27 : decode cX4_fee 27 = .ok (.invokevirtual 71, 3) := by decide +kernel
theorem dX4_fee_30 : decode cX4_fee 30 = .ok (.ifCond .ne 7, 3) := by decide +kernel
theorem dX4_fee_33 : decode cX4_fee 33 = .ok (.iconst 0, 1) := by decide +kernel
theorem dX4_fee_34 : decode cX4_fee 34 = .ok (.goto 12, 3) := by decide +kernel
theorem dX4_fee_37 : decode cX4_fee 37 = .ok (.aload_n 0, 1) := by decide +kernel
theorem dX4_fee_38 : decode cX4_fee 38 = .ok (.getfield 12, 3) := by decide +kernel
theorem dX4_fee_41 : decode cX4_fee 41 = .ok (.getfield 75, 3) := by decide +kernel
theorem dX4_fee_44 : decode cX4_fee 44 = .ok (.iload_n 2, 1) := by decide +kernel
theorem dX4_fee_45 : decode cX4_fee 45 = .ok (.iaload, 1) := by decide +kernel
theorem dX4_fee_46 : decode cX4_fee 46 = .ok (.ireturn, 1) := by decide +kernel
theorem dX4_pay_0 : decode cX4_pay 0 = .ok (.aload_n 0, 1) := by decide +kernel
theorem dX4_pay_1 : decode cX4_pay 1 = .ok (.getfield 21, 3) := by decide +kernel
theorem dX4_pay_4 : decode cX4_pay 4 = .ok (.getfield 64, 3) := by decide +kernel
theorem dX4_pay_7 : decode cX4_pay 7 = .ok (.iload_n 1, 1) := by decide +kernel
theorem dX4_pay_8 : decode cX4_pay 8 = .ok (.iaload, 1) := by decide +kernel
theorem dX4_pay_9 : decode cX4_pay 9 = .ok (.istore_n 2, 1) := by decide +kernel
theorem dX4_pay_10 : decode cX4_pay 10 = .ok (.aload_n 0, 1) := by decide +kernel
theorem dX4_pay_11 : decode cX4_pay 11 = .ok (.getfield 21, 3) := by decide +kernel
theorem dX4_pay_14 : decode cX4_pay 14 = .ok (.getfield 61, 3) := by decide +kernel
theorem dX4_pay_17 : decode cX4_pay 17 = .ok (.iload_n 1, 1) := by decide +kernel
theorem dX4_pay_18 : decode cX4_pay 18 = .ok (.iaload, 1) := by decide +kernel
theorem dX4_pay_19 : decode cX4_pay 19 = .ok (.ifCond .ne 14, 3) := by decide +kernel
theorem dX4_pay_22 : decode cX4_pay 22 = .ok (.aload_n 0, 1) := by decide +kernel
theorem dX4_pay_23 : decode cX4_pay 23 = .ok (.getfield 12, 3) := by decide +kernel
theorem dX4_pay_26 : decode cX4_pay 26 = .ok (.iload_n 2, 1) := by decide +kernel
theorem dX4_pay_27 : decode cX4_pay 27 = .ok (.invokevirtual 71, 3) := by decide +kernel
theorem dX4_pay_30 : decode cX4_pay 30 = .ok (.ifCond .ne 4, 3) := by decide +kernel
theorem dX4_pay_33 : decode cX4_pay 33 = .ok (.return_, 1) := by decide +kernel
theorem dX4_pay_34 : decode cX4_pay 34 = .ok (.aload_n 0, 1) := by decide +kernel
theorem dX4_pay_35 : decode cX4_pay 35 = .ok (.getfield 21, 3) := by decide +kernel
theorem dX4_pay_38 : decode cX4_pay 38 = .ok (.getfield 78, 3) := by decide +kernel
theorem dX4_pay_41 : decode cX4_pay 41 = .ok (.iload_n 1, 1) := by decide +kernel
theorem dX4_pay_42 : decode cX4_pay 42 = .ok (.dup2, 1) := by decide +kernel
theorem dX4_pay_43 : decode cX4_pay 43 = .ok (.iaload, 1) := by decide +kernel
theorem dX4_pay_44 : decode cX4_pay 44 = .ok (.aload_n 0, 1) := by decide +kernel
theorem dX4_pay_45 : decode cX4_pay 45 = .ok (.getfield 12, 3) := by decide +kernel
theorem dX4_pay_48 : decode cX4_pay 48 = .ok (.getfield 75, 3) := by decide +kernel
theorem dX4_pay_51 : decode cX4_pay 51 = .ok (.iload_n 2, 1) := by decide +kernel
theorem dX4_pay_52 : decode cX4_pay 52 = .ok (.iaload, 1) := by decide +kernel
theorem dX4_pay_53 : decode cX4_pay 53 = .ok (.isub, 1) := by decide +kernel
theorem dX4_pay_54 : decode cX4_pay 54 = .ok (.iastore, 1) := by decide +kernel
theorem dX4_pay_55 : decode cX4_pay 55 = .ok (.aload_n 0, 1) := by decide +kernel
theorem dX4_pay_56 : decode cX4_pay 56 = .ok (.getfield 12, 3) := by decide +kernel
theorem dX4_pay_59 : decode cX4_pay 59 = .ok (.getfield 81, 3) := by decide +kernel
theorem dX4_pay_62 : decode cX4_pay 62 = .ok (.iload_n 2, 1) := by decide +kernel
theorem dX4_pay_63 : decode cX4_pay 63 = .ok (.dup2, 1) := by decide +kernel
theorem dX4_pay_64 : decode cX4_pay 64 = .ok (.iaload, 1) := by decide +kernel
theorem dX4_pay_65 : decode cX4_pay 65 = .ok (.aload_n 0, 1) := by decide +kernel
theorem dX4_pay_66 : decode cX4_pay 66 = .ok (.getfield 12, 3) := by decide +kernel
theorem dX4_pay_69 : decode cX4_pay 69 = .ok (.getfield 75, 3) := by decide +kernel
theorem dX4_pay_72 : decode cX4_pay 72 = .ok (.iload_n 2, 1) := by decide +kernel
theorem dX4_pay_73 : decode cX4_pay 73 = .ok (.iaload, 1) := by decide +kernel
theorem dX4_pay_74 : decode cX4_pay 74 = .ok (.iadd, 1) := by decide +kernel
theorem dX4_pay_75 : decode cX4_pay 75 = .ok (.iastore, 1) := by decide +kernel
theorem dX4_pay_76 : decode cX4_pay 76 = .ok (.aload_n 0, 1) := by decide +kernel
theorem dX4_pay_77 : decode cX4_pay 77 = .ok (.dup, 1) := by decide +kernel
theorem dX4_pay_78 : decode cX4_pay 78 = .ok (.getfield 58, 3) := by decide +kernel
theorem dX4_pay_81 : decode cX4_pay 81 = .ok (.iconst 1, 1) := by decide +kernel
theorem dX4_pay_82 : decode cX4_pay 82 = .ok (.iadd, 1) := by decide +kernel
theorem dX4_pay_83 : decode cX4_pay 83 = .ok (.putfield 58, 3) := by decide +kernel
theorem dX4_pay_86 : decode cX4_pay 86 = .ok (.return_, 1) := by decide +kernel
theorem dX4_letter_0 : decode cX4_letter 0 = .ok (.aload_n 0, 1) := by decide +kernel
theorem dX4_letter_1 : decode cX4_letter 1 = .ok (.getfield 21, 3) := by decide +kernel
theorem dX4_letter_4 : decode cX4_letter 4 = .ok (.getfield 78, 3) := by decide +kernel
theorem dX4_letter_7 : decode cX4_letter 7 = .ok (.iload_n 1, 1) := by decide +kernel
theorem dX4_letter_8 : decode cX4_letter 8 = .ok (.iaload, 1) := by decide +kernel
theorem dX4_letter_9 : decode cX4_letter 9 = .ok (.aload_n 0, 1) := by decide +kernel
theorem dX4_letter_10 : decode cX4_letter 10 = .ok (.iload_n 1, 1) := by decide +kernel
theorem dX4_letter_11 : decode cX4_letter 11 = .ok (.invokevirtual 84, 3) := by decide +kernel
theorem dX4_letter_14 : decode cX4_letter 14 = .ok (.if_icmp .lt 20, 3) := by decide +kernel
theorem dX4_letter_17 : decode cX4_letter 17 = .ok (.aload_n 0, 1) := by decide +kernel
theorem dX4_letter_18 : decode cX4_letter 18 = .ok (.getfield 21, 3) := by decide +kernel
theorem dX4_letter_21 : decode cX4_letter 21 = .ok (.getfield 78, 3) := by decide +kernel
theorem dX4_letter_24 : decode cX4_letter 24 = .ok (.iload_n 2, 1) := by decide +kernel
theorem dX4_letter_25 : decode cX4_letter 25 = .ok (.iaload, 1) := by decide +kernel
theorem dX4_letter_26 : decode cX4_letter 26 = .ok (.aload_n 0, 1) := by decide +kernel
theorem dX4_letter_27 : decode cX4_letter 27 = .ok (.iload_n 2, 1) := by decide +kernel
theorem dX4_letter_28 : decode cX4_letter 28 = .ok (.invokevirtual 84, 3) := by decide +kernel
theorem dX4_letter_31 : decode cX4_letter 31 = .ok (.if_icmp .ge 5, 3) := by decide +kernel
theorem dX4_letter_34 : decode cX4_letter 34 = .ok (.iconst (-1), 1) := by decide +kernel
theorem dX4_letter_35 : decode cX4_letter 35 = .ok (.ireturn, 1) := by decide +kernel
theorem dX4_letter_36 : decode cX4_letter 36 = .ok (.aload_n 0, 1) := by decide +kernel
theorem dX4_letter_37 : decode cX4_letter 37 = .ok (.iload_n 1, 1) := by decide +kernel
theorem dX4_letter_38 : decode cX4_letter 38 = .ok (.invokevirtual 88, 3) := by decide +kernel
theorem dX4_letter_41 : decode cX4_letter 41 = .ok (.aload_n 0, 1) := by decide +kernel
theorem dX4_letter_42 : decode cX4_letter 42 = .ok (.iload_n 2, 1) := by decide +kernel
theorem dX4_letter_43 : decode cX4_letter 43 = .ok (.invokevirtual 88, 3) := by decide +kernel
theorem dX4_letter_46 : decode cX4_letter 46 = .ok (.aload_n 0, 1) := by decide +kernel
theorem dX4_letter_47 : decode cX4_letter 47 = .ok (.iload_n 2, 1) := by decide +kernel
theorem dX4_letter_48 : decode cX4_letter 48 = .ok (.aload_n 0, 1) := by decide +kernel
theorem dX4_letter_49 : decode cX4_letter 49 = .ok (.iload_n 1, 1) := by decide +kernel
theorem dX4_letter_50 : decode cX4_letter 50 = .ok (.iload_n 3, 1) := by decide +kernel
theorem dX4_letter_51 : decode cX4_letter 51 = .ok (.invokevirtual 92, 3) := by decide +kernel
theorem dX4_letter_54 : decode cX4_letter 54 = .ok (.invokevirtual 92, 3) := by decide +kernel
theorem dX4_letter_57 : decode cX4_letter 57 = .ok (.istore 4, 2) := by decide +kernel
theorem dX4_letter_59 : decode cX4_letter 59 = .ok (.aload_n 0, 1) := by decide +kernel
theorem dX4_letter_60 : decode cX4_letter 60 = .ok (.getfield 21, 3) := by decide +kernel
theorem dX4_letter_63 : decode cX4_letter 63 = .ok (.getfield 95, 3) := by decide +kernel
theorem dX4_letter_66 : decode cX4_letter 66 = .ok (.iload_n 2, 1) := by decide +kernel
theorem dX4_letter_67 : decode cX4_letter 67 = .ok (.dup2, 1) := by decide +kernel
theorem dX4_letter_68 : decode cX4_letter 68 = .ok (.iaload, 1) := by decide +kernel
theorem dX4_letter_69 : decode cX4_letter 69 = .ok (.iload 4, 2) := by decide +kernel
theorem dX4_letter_71 : decode cX4_letter 71 = .ok (.ior, 1) := by decide +kernel
theorem dX4_letter_72 : decode cX4_letter 72 = .ok (.iastore, 1) := by decide +kernel
theorem dX4_letter_73 : decode cX4_letter 73 = .ok (.aload_n 0, 1) := by decide +kernel
theorem dX4_letter_74 : decode cX4_letter 74 = .ok (.dup, 1) := by decide +kernel
theorem dX4_letter_75 : decode cX4_letter 75 = .ok (.getfield 55, 3) := by decide +kernel
theorem dX4_letter_78 : decode cX4_letter 78 = .ok (.iconst 1, 1) := by decide +kernel
theorem dX4_letter_79 : decode cX4_letter 79 = .ok (.iadd, 1) := by decide +kernel
theorem dX4_letter_80 : decode cX4_letter 80 = .ok (.putfield 55, 3) := by decide +kernel
theorem dX4_letter_83 : decode cX4_letter 83 = .ok (.iload 4, 2) := by decide +kernel
theorem dX4_letter_85 : decode cX4_letter 85 = .ok (.ireturn, 1) := by decide +kernel
theorem dX4_passYears_0 : decode cX4_passYears 0 = .ok (.iconst 0, 1) := by decide +kernel
theorem dX4_passYears_1 : decode cX4_passYears 1 = .ok (.istore_n 2, 1) := by decide +kernel
theorem dX4_passYears_2 : decode cX4_passYears 2 = .ok (.iload_n 2, 1) := by decide +kernel
theorem dX4_passYears_3 : decode cX4_passYears 3 = .ok (.iload_n 1, 1) := by decide +kernel
theorem dX4_passYears_4 : decode cX4_passYears 4 = .ok (.if_icmp .ge 29, 3) := by decide +kernel
theorem dX4_passYears_7 : decode cX4_passYears 7 = .ok (.aload_n 0, 1) := by decide +kernel
theorem dX4_passYears_8 : decode cX4_passYears 8 = .ok (.getfield 55, 3) := by decide +kernel
theorem dX4_passYears_11 : decode cX4_passYears 11 = .ok (.istore_n 3, 1) := by decide +kernel
theorem dX4_passYears_12 : decode cX4_passYears 12 = .ok (.aload_n 0, 1) := by decide +kernel
theorem dX4_passYears_13 : decode cX4_passYears 13 = .ok (.invokevirtual 98, 3) := by decide +kernel
theorem dX4_passYears_16 : decode cX4_passYears 16 = .ok (.aload_n 0, 1) := by decide +kernel
theorem dX4_passYears_17 : decode cX4_passYears 17 = .ok (.getfield 55, 3) := by decide +kernel
theorem dX4_passYears_20 : decode cX4_passYears 20 = .ok (.iload_n 3, 1) := by decide +kernel
theorem dX4_passYears_21 : decode cX4_passYears 21 = .ok (.if_icmp .ne 6, 3) := by decide +kernel
theorem dX4_passYears_24 : decode cX4_passYears 24 = .ok (.goto 9, 3) := by decide +kernel
theorem dX4_passYears_27 : decode cX4_passYears 27 = .ok (.iinc 2 1, 3) := by decide +kernel
theorem dX4_passYears_30 : decode cX4_passYears 30 = .ok (.goto (-28), 3) := by decide +kernel
theorem dX4_passYears_33 : decode cX4_passYears 33 = .ok (.aload_n 0, 1) := by decide +kernel
theorem dX4_passYears_34 : decode cX4_passYears 34 = .ok (.dup, 1) := by decide +kernel
theorem dX4_passYears_35 : decode cX4_passYears 35 = .ok (.getfield 52, 3) := by decide +kernel
theorem dX4_passYears_38 : decode cX4_passYears 38 = .ok (.iload_n 1, 1) := by decide +kernel
theorem dX4_passYears_39 : decode cX4_passYears 39 = .ok (.iadd, 1) := by decide +kernel
theorem dX4_passYears_40 : decode cX4_passYears 40 = .ok (.putfield 52, 3) := by decide +kernel
theorem dX4_passYears_43 : decode cX4_passYears 43 = .ok (.return_, 1) := by decide +kernel
theorem dX4_passOne_0 : decode cX4_passOne 0 = .ok (.iconst 0, 1) := by decide +kernel
theorem dX4_passOne_1 : decode cX4_passOne 1 = .ok (.istore_n 1, 1) := by decide +kernel
theorem dX4_passOne_2 : decode cX4_passOne 2 = .ok (.iload_n 1, 1) := by decide +kernel
theorem dX4_passOne_3 : decode cX4_passOne 3 = .ok (.aload_n 0, 1) := by decide +kernel
theorem dX4_passOne_4 : decode cX4_passOne 4 = .ok (.getfield 21, 3) := by decide +kernel
theorem dX4_passOne_7 : decode cX4_passOne 7 = .ok (.getfield 101, 3) := by decide +kernel
theorem dX4_passOne_10 : decode cX4_passOne 10 = .ok (.if_icmp .ge 75, 3) := by decide +kernel
theorem dX4_passOne_13 : decode cX4_passOne 13 = .ok (.iload_n 1, 1) := by decide +kernel
theorem dX4_passOne_14 : decode cX4_passOne 14 = .ok (.iconst 1, 1) := by decide +kernel
theorem dX4_passOne_15 : decode cX4_passOne 15 = .ok (.iadd, 1) := by decide +kernel
theorem dX4_passOne_16 : decode cX4_passOne 16 = .ok (.istore_n 2, 1) := by decide +kernel
theorem dX4_passOne_17 : decode cX4_passOne 17 = .ok (.iload_n 2, 1) := by decide +kernel
theorem dX4_passOne_18 : decode cX4_passOne 18 = .ok (.aload_n 0, 1) := by decide +kernel
theorem dX4_passOne_19 : decode cX4_passOne 19 = .ok (.getfield 21, 3) := by decide +kernel
theorem dX4_passOne_22 : decode cX4_passOne 22 = .ok (.getfield 101, 3) := by decide +kernel
theorem dX4_passOne_25 : decode cX4_passOne 25 = .ok (.if_icmp .ge 54, 3) := by decide +kernel
theorem dX4_passOne_28 : decode cX4_passOne 28 = .ok (.aload_n 0, 1) := by decide +kernel
theorem dX4_passOne_29 : decode cX4_passOne 29 = .ok (.getfield 21, 3) := by decide +kernel
theorem dX4_passOne_32 : decode cX4_passOne 32 = .ok (.iload_n 1, 1) := by decide +kernel
theorem dX4_passOne_33 : decode cX4_passOne 33 = .ok (.iload_n 2, 1) := by decide +kernel
theorem dX4_passOne_34 : decode cX4_passOne 34 = .ok (.invokevirtual 104, 3) := by decide +kernel
theorem dX4_passOne_37 : decode cX4_passOne 37 = .ok (.ifCond .ne 6, 3) := by decide +kernel
theorem dX4_passOne_40 : decode cX4_passOne 40 = .ok (.goto 33, 3) := by decide +kernel
theorem dX4_passOne_43 : decode cX4_passOne 43 = .ok (.aload_n 0, 1) := by decide +kernel
theorem dX4_passOne_44 : decode cX4_passOne 44 = .ok (.iload_n 1, 1) := by decide +kernel
theorem dX4_passOne_45 : decode cX4_passOne 45 = .ok (.iload_n 2, 1) := by decide +kernel
theorem dX4_passOne_46 : decode cX4_passOne 46 = .ok (.aload_n 0, 1) := by decide +kernel
theorem dX4_passOne_47 : decode cX4_passOne 47 = .ok (.getfield 21, 3) := by decide +kernel
theorem dX4_passOne_50 : decode cX4_passOne 50 = .ok (.iload_n 1, 1) := by decide +kernel
theorem dX4_passOne_51 : decode cX4_passOne 51 = .ok (.invokevirtual 108, 3) := by decide +kernel
theorem dX4_passOne_54 : decode cX4_passOne 54 = .ok (.invokevirtual 111, 3) := by decide +kernel
theorem dX4_passOne_57 : decode cX4_passOne 57 = .ok (.pop, 1) := by decide +kernel
theorem dX4_passOne_58 : decode cX4_passOne 58 = .ok (.aload_n 0, 1) := by decide +kernel
theorem dX4_passOne_59 : decode cX4_passOne 59 = .ok (.iload_n 2, 1) := by decide +kernel
theorem dX4_passOne_60 : decode cX4_passOne 60 = .ok (.iload_n 1, 1) := by decide +kernel
theorem dX4_passOne_61 : decode cX4_passOne 61 = .ok (.aload_n 0, 1) := by decide +kernel
theorem dX4_passOne_62 : decode cX4_passOne 62 = .ok (.getfield 21, 3) := by decide +kernel
theorem dX4_passOne_65 : decode cX4_passOne 65 = .ok (.iload_n 2, 1) := by decide +kernel
theorem dX4_passOne_66 : decode cX4_passOne 66 = .ok (.invokevirtual 108, 3) := by decide +kernel
theorem dX4_passOne_69 : decode cX4_passOne 69 = .ok (.invokevirtual 111, 3) := by decide +kernel
theorem dX4_passOne_72 : decode cX4_passOne 72 = .ok (.pop, 1) := by decide +kernel
theorem dX4_passOne_73 : decode cX4_passOne 73 = .ok (.iinc 2 1, 3) := by decide +kernel
theorem dX4_passOne_76 : decode cX4_passOne 76 = .ok (.goto (-59), 3) := by decide +kernel
theorem dX4_passOne_79 : decode cX4_passOne 79 = .ok (.iinc 1 1, 3) := by decide +kernel
theorem dX4_passOne_82 : decode cX4_passOne 82 = .ok (.goto (-80), 3) := by decide +kernel
theorem dX4_passOne_85 : decode cX4_passOne 85 = .ok (.return_, 1) := by decide +kernel
theorem dX4_poor_0 : decode cX4_poor 0 = .ok (.iconst 0, 1) := by decide +kernel
theorem dX4_poor_1 : decode cX4_poor 1 = .ok (.istore_n 1, 1) := by decide +kernel
theorem dX4_poor_2 : decode cX4_poor 2 = .ok (.iconst 0, 1) := by decide +kernel
theorem dX4_poor_3 : decode cX4_poor 3 = .ok (.istore_n 2, 1) := by decide +kernel
theorem dX4_poor_4 : decode cX4_poor 4 = .ok (.iload_n 2, 1) := by decide +kernel
theorem dX4_poor_5 : decode cX4_poor 5 = .ok (.aload_n 0, 1) := by decide +kernel
theorem dX4_poor_6 : decode cX4_poor 6 = .ok (.getfield 21, 3) := by decide +kernel
theorem dX4_poor_9 : decode cX4_poor 9 = .ok (.getfield 101, 3) := by decide +kernel
theorem dX4_poor_12 : decode cX4_poor 12 = .ok (.if_icmp .ge 32, 3) := by decide +kernel
theorem dX4_poor_15 : decode cX4_poor 15 = .ok (.aload_n 0, 1) := by decide +kernel
theorem dX4_poor_16 : decode cX4_poor 16 = .ok (.getfield 21, 3) := by decide +kernel
theorem dX4_poor_19 : decode cX4_poor 19 = .ok (.getfield 78, 3) := by decide +kernel
theorem dX4_poor_22 : decode cX4_poor 22 = .ok (.iload_n 2, 1) := by decide +kernel
theorem dX4_poor_23 : decode cX4_poor 23 = .ok (.iaload, 1) := by decide +kernel
theorem dX4_poor_24 : decode cX4_poor 24 = .ok (.aload_n 0, 1) := by decide +kernel
theorem dX4_poor_25 : decode cX4_poor 25 = .ok (.iload_n 2, 1) := by decide +kernel
theorem dX4_poor_26 : decode cX4_poor 26 = .ok (.invokevirtual 84, 3) := by decide +kernel
theorem dX4_poor_29 : decode cX4_poor 29 = .ok (.if_icmp .ge 9, 3) := by decide +kernel
theorem dX4_poor_32 : decode cX4_poor 32 = .ok (.iload_n 1, 1) := by decide +kernel
theorem dX4_poor_33 : decode cX4_poor 33 = .ok (.iconst 1, 1) := by decide +kernel
theorem dX4_poor_34 : decode cX4_poor 34 = .ok (.iload_n 2, 1) := by decide +kernel
theorem dX4_poor_35 : decode cX4_poor 35 = .ok (.ishl, 1) := by decide +kernel
theorem dX4_poor_36 : decode cX4_poor 36 = .ok (.ior, 1) := by decide +kernel
theorem dX4_poor_37 : decode cX4_poor 37 = .ok (.istore_n 1, 1) := by decide +kernel
theorem dX4_poor_38 : decode cX4_poor 38 = .ok (.iinc 2 1, 3) := by decide +kernel
theorem dX4_poor_41 : decode cX4_poor 41 = .ok (.goto (-37), 3) := by decide +kernel
theorem dX4_poor_44 : decode cX4_poor 44 = .ok (.iload_n 1, 1) := by decide +kernel
theorem dX4_poor_45 : decode cX4_poor 45 = .ok (.ireturn, 1) := by decide +kernel
theorem dX4_howManySpots_0 : decode cX4_howManySpots 0 = .ok (.iconst 0, 1) := by decide +kernel
theorem dX4_howManySpots_1 : decode cX4_howManySpots 1 = .ok (.istore_n 1, 1) := by decide +kernel
theorem dX4_howManySpots_2 : decode cX4_howManySpots 2 = .ok (.iconst 0, 1) := by decide +kernel
theorem dX4_howManySpots_3 : decode cX4_howManySpots 3 = .ok (.istore_n 2, 1) := by decide +kernel
theorem dX4_howManySpots_4 : decode cX4_howManySpots 4 = .ok (.iload_n 2, 1) := by decide +kernel
theorem dX4_howManySpots_5 : decode cX4_howManySpots 5 = .ok (.bipush 10, 2) := by decide +kernel
theorem dX4_howManySpots_7 : decode cX4_howManySpots 7 = .ok (.if_icmp .ge 21, 3) := by decide +kernel
theorem dX4_howManySpots_10 : decode cX4_howManySpots 10 = .ok (.aload_n 0, 1) := by decide +kernel
theorem dX4_howManySpots_11 : decode cX4_howManySpots 11 = .ok (.getfield 25, 3) := by decide +kernel
theorem dX4_howManySpots_14 : decode cX4_howManySpots 14 = .ok (.iload_n 2, 1) := by decide +kernel
theorem dX4_howManySpots_15 : decode cX4_howManySpots 15 = .ok (.iaload, 1) := by decide +kernel
theorem dX4_howManySpots_16 : decode cX4_howManySpots 16 = .ok (.ifCond .lt 6, 3) := by decide +kernel
theorem dX4_howManySpots_19 : decode cX4_howManySpots 19 = .ok (.iinc 1 1, 3) := by decide +kernel
theorem dX4_howManySpots_22 : decode cX4_howManySpots 22 = .ok (.iinc 2 1, 3) := by decide +kernel
theorem dX4_howManySpots_25 : decode cX4_howManySpots 25 = .ok (.goto (-21), 3) := by decide +kernel
theorem dX4_howManySpots_28 : decode cX4_howManySpots 28 = .ok (.iload_n 1, 1) := by decide +kernel
theorem dX4_howManySpots_29 : decode cX4_howManySpots 29 = .ok (.ireturn, 1) := by decide +kernel
theorem dX4_draw_0 : decode cX4_draw 0 = .ok (.aload_n 0, 1) := by decide +kernel
theorem dX4_draw_1 : decode cX4_draw 1 = .ok (.aload_n 0, 1) := by decide +kernel
theorem dX4_draw_2 : decode cX4_draw 2 = .ok (.getfield 35, 3) := by decide +kernel
theorem dX4_draw_5 : decode cX4_draw 5 = .ok (.ldc 115, 2) := by decide +kernel
theorem dX4_draw_7 : decode cX4_draw 7 = .ok (.imul, 1) := by decide +kernel
theorem dX4_draw_8 : decode cX4_draw 8 = .ok (.sipush 12345, 3) := by decide +kernel
theorem dX4_draw_11 : decode cX4_draw 11 = .ok (.iadd, 1) := by decide +kernel
theorem dX4_draw_12 : decode cX4_draw 12 = .ok (.putfield 35, 3) := by decide +kernel
theorem dX4_draw_15 : decode cX4_draw 15 = .ok (.aload_n 0, 1) := by decide +kernel
theorem dX4_draw_16 : decode cX4_draw 16 = .ok (.getfield 35, 3) := by decide +kernel
theorem dX4_draw_19 : decode cX4_draw 19 = .ok (.bipush 8, 2) := by decide +kernel
theorem dX4_draw_21 : decode cX4_draw 21 = .ok (.iushr, 1) := by decide +kernel
theorem dX4_draw_22 : decode cX4_draw 22 = .ok (.ireturn, 1) := by decide +kernel
theorem dX5_init_0 : decode cX5_init 0 = .ok (.aload_n 0, 1) := by decide +kernel
theorem dX5_init_1 : decode cX5_init 1 = .ok (.invokespecial 3, 3) := by decide +kernel
theorem dX5_init_4 : decode cX5_init 4 = .ok (.aload_n 0, 1) := by decide +kernel
theorem dX5_init_5 : decode cX5_init 5 = .ok (.bipush 6, 2) := by decide +kernel
theorem dX5_init_7 : decode cX5_init 7 = .ok (.newarray .int, 2) := by decide +kernel
theorem dX5_init_9 : decode cX5_init 9 = .ok (.putfield 9, 3) := by decide +kernel
theorem dX5_init_12 : decode cX5_init 12 = .ok (.aload_n 0, 1) := by decide +kernel
theorem dX5_init_13 : decode cX5_init 13 = .ok (.bipush 6, 2) := by decide +kernel
theorem dX5_init_15 : decode cX5_init 15 = .ok (.newarray .int, 2) := by decide +kernel
theorem dX5_init_17 : decode cX5_init 17 = .ok (.putfield 15, 3) := by decide +kernel
theorem dX5_init_20 : decode cX5_init 20 = .ok (.aload_n 0, 1) := by decide +kernel
theorem dX5_init_21 : decode cX5_init 21 = .ok (.bipush 6, 2) := by decide +kernel
theorem dX5_init_23 : decode cX5_init 23 = .ok (.newarray .int, 2) := by decide +kernel
theorem dX5_init_25 : decode cX5_init 25 = .ok (.putfield 18, 3) := by decide +kernel
theorem dX5_init_28 : decode cX5_init 28 = .ok (.aload_n 0, 1) := by decide +kernel
theorem dX5_init_29 : decode cX5_init 29 = .ok (.bipush 6, 2) := by decide +kernel
theorem dX5_init_31 : decode cX5_init 31 = .ok (.newarray .int, 2) := by decide +kernel
theorem dX5_init_33 : decode cX5_init 33 = .ok (.putfield 21, 3) := by decide +kernel
theorem dX5_init_36 : decode cX5_init 36 = .ok (.aload_n 0, 1) := by decide +kernel
theorem dX5_init_37 : decode cX5_init 37 = .ok (.bipush 6, 2) := by decide +kernel
theorem dX5_init_39 : decode cX5_init 39 = .ok (.newarray .int, 2) := by decide +kernel
theorem dX5_init_41 : decode cX5_init 41 = .ok (.putfield 24, 3) := by decide +kernel
theorem dX5_init_44 : decode cX5_init 44 = .ok (.aload_n 0, 1) := by decide +kernel
theorem dX5_init_45 : decode cX5_init 45 = .ok (.bipush 6, 2) := by decide +kernel
theorem dX5_init_47 : decode cX5_init 47 = .ok (.newarray .int, 2) := by decide +kernel
theorem dX5_init_49 : decode cX5_init 49 = .ok (.putfield 27, 3) := by decide +kernel
theorem dX5_init_52 : decode cX5_init 52 = .ok (.return_, 1) := by decide +kernel
theorem dX5_become_0 : decode cX5_become 0 = .ok (.aload_n 0, 1) := by decide +kernel
theorem dX5_become_1 : decode cX5_become 1 = .ok (.aload_n 1, 1) := by decide +kernel
theorem dX5_become_2 : decode cX5_become 2 = .ok (.getfield 30, 3) := by decide +kernel
theorem dX5_become_5 : decode cX5_become 5 = .ok (.putfield 30, 3) := by decide +kernel
theorem dX5_become_8 : decode cX5_become 8 = .ok (.aload_n 1, 1) := by decide +kernel
theorem dX5_become_9 : decode cX5_become 9 = .ok (.getfield 9, 3) := by decide +kernel
theorem dX5_become_12 : decode cX5_become 12 = .ok (.iconst 0, 1) := by decide +kernel
theorem dX5_become_13 : decode cX5_become 13 = .ok (.aload_n 0, 1) := by decide +kernel
theorem dX5_become_14 : decode cX5_become 14 = .ok (.getfield 9, 3) := by decide +kernel
theorem dX5_become_17 : decode cX5_become 17 = .ok (.iconst 0, 1) := by decide +kernel
theorem dX5_become_18 : decode cX5_become 18 = .ok (.bipush 6, 2) := by decide +kernel
theorem dX5_become_20 : decode cX5_become 20 = .ok (.invokestatic 34, 3) := by decide +kernel
theorem dX5_become_23 : decode cX5_become 23 = .ok (.aload_n 1, 1) := by decide +kernel
theorem dX5_become_24 : decode cX5_become 24 = .ok (.getfield 15, 3) := by decide +kernel
theorem dX5_become_27 : decode cX5_become 27 = .ok (.iconst 0, 1) := by decide +kernel
theorem dX5_become_28 : decode cX5_become 28 = .ok (.aload_n 0, 1) := by decide +kernel
theorem dX5_become_29 : decode cX5_become 29 = .ok (.getfield 15, 3) := by decide +kernel
theorem dX5_become_32 : decode cX5_become 32 = .ok (.iconst 0, 1) := by decide +kernel
theorem dX5_become_33 : decode cX5_become 33 = .ok (.bipush 6, 2) := by decide +kernel
theorem dX5_become_35 : decode cX5_become 35 = .ok (.invokestatic 34, 3) := by decide +kernel
theorem dX5_become_38 : decode cX5_become 38 = .ok (.aload_n 1, 1) := by decide +kernel
theorem dX5_become_39 : decode cX5_become 39 = .ok (.getfield 18, 3) := by decide +kernel
theorem dX5_become_42 : decode cX5_become 42 = .ok (.iconst 0, 1) := by decide +kernel
theorem dX5_become_43 : decode cX5_become 43 = .ok (.aload_n 0, 1) := by decide +kernel
theorem dX5_become_44 : decode cX5_become 44 = .ok (.getfield 18, 3) := by decide +kernel
theorem dX5_become_47 : decode cX5_become 47 = .ok (.iconst 0, 1) := by decide +kernel
theorem dX5_become_48 : decode cX5_become 48 = .ok (.bipush 6, 2) := by decide +kernel
theorem dX5_become_50 : decode cX5_become 50 = .ok (.invokestatic 34, 3) := by decide +kernel
theorem dX5_become_53 : decode cX5_become 53 = .ok (.aload_n 1, 1) := by decide +kernel
theorem dX5_become_54 : decode cX5_become 54 = .ok (.getfield 21, 3) := by decide +kernel
theorem dX5_become_57 : decode cX5_become 57 = .ok (.iconst 0, 1) := by decide +kernel
theorem dX5_become_58 : decode cX5_become 58 = .ok (.aload_n 0, 1) := by decide +kernel
theorem dX5_become_59 : decode cX5_become 59 = .ok (.getfield 21, 3) := by decide +kernel
theorem dX5_become_62 : decode cX5_become 62 = .ok (.iconst 0, 1) := by decide +kernel
theorem dX5_become_63 : decode cX5_become 63 = .ok (.bipush 6, 2) := by decide +kernel
theorem dX5_become_65 : decode cX5_become 65 = .ok (.invokestatic 34, 3) := by decide +kernel
theorem dX5_become_68 : decode cX5_become 68 = .ok (.aload_n 1, 1) := by decide +kernel
theorem dX5_become_69 : decode cX5_become 69 = .ok (.getfield 24, 3) := by decide +kernel
theorem dX5_become_72 : decode cX5_become 72 = .ok (.iconst 0, 1) := by decide +kernel
theorem dX5_become_73 : decode cX5_become 73 = .ok (.aload_n 0, 1) := by decide +kernel
theorem dX5_become_74 : decode cX5_become 74 = .ok (.getfield 24, 3) := by decide +kernel
theorem dX5_become_77 : decode cX5_become 77 = .ok (.iconst 0, 1) := by decide +kernel
theorem dX5_become_78 : decode cX5_become 78 = .ok (.bipush 6, 2) := by decide +kernel
theorem dX5_become_80 : decode cX5_become 80 = .ok (.invokestatic 34, 3) := by decide +kernel
theorem dX5_become_83 : decode cX5_become 83 = .ok (.aload_n 1, 1) := by decide +kernel
theorem dX5_become_84 : decode cX5_become 84 = .ok (.getfield 27, 3) := by decide +kernel
theorem dX5_become_87 : decode cX5_become 87 = .ok (.iconst 0, 1) := by decide +kernel
theorem dX5_become_88 : decode cX5_become 88 = .ok (.aload_n 0, 1) := by decide +kernel
theorem dX5_become_89 : decode cX5_become 89 = .ok (.getfield 27, 3) := by decide +kernel
theorem dX5_become_92 : decode cX5_become 92 = .ok (.iconst 0, 1) := by decide +kernel
theorem dX5_become_93 : decode cX5_become 93 = .ok (.bipush 6, 2) := by decide +kernel
theorem dX5_become_95 : decode cX5_become 95 = .ok (.invokestatic 34, 3) := by decide +kernel
theorem dX5_become_98 : decode cX5_become 98 = .ok (.return_, 1) := by decide +kernel
theorem dX5_has_0 : decode cX5_has 0 = .ok (.iload_n 1, 1) := by decide +kernel
theorem dX5_has_1 : decode cX5_has 1 = .ok (.ifCond .lt 15, 3) := by decide +kernel
theorem dX5_has_4 : decode cX5_has 4 = .ok (.iload_n 1, 1) := by decide +kernel
theorem dX5_has_5 : decode cX5_has 5 = .ok (.aload_n 0, 1) := by decide +kernel
theorem dX5_has_6 : decode cX5_has 6 = .ok (.getfield 30, 3) := by decide +kernel
theorem dX5_has_9 : decode cX5_has 9 = .ok (.if_icmp .ge 7, 3) := by decide +kernel
theorem dX5_has_12 : decode cX5_has 12 = .ok (.iconst 1, 1) := by decide +kernel
theorem dX5_has_13 : decode cX5_has 13 = .ok (.goto 4, 3) := by decide +kernel
theorem dX5_has_16 : decode cX5_has 16 = .ok (.iconst 0, 1) := by decide +kernel
theorem dX5_has_17 : decode cX5_has 17 = .ok (.ireturn, 1) := by decide +kernel
theorem dX5_addOne_0 : decode cX5_addOne 0 = .ok (.aload_n 0, 1) := by decide +kernel
theorem dX5_addOne_1 : decode cX5_addOne 1 = .ok (.getfield 30, 3) := by decide +kernel
theorem dX5_addOne_4 : decode cX5_addOne 4 = .ok (.bipush 6, 2) := by decide +kernel
theorem dX5_addOne_6 : decode cX5_addOne 6 = .ok (.if_icmp .lt 5, 3) := by decide +kernel
theorem dX5_addOne_9 : decode cX5_addOne 9 = .ok (.iconst (-1), 1) := by decide +kernel
theorem dX5_addOne_10 : decode cX5_addOne 10 = .ok (.ireturn, 1) := by decide +kernel
theorem dX5_addOne_11 : decode cX5_addOne 11 = .ok (.aload_n 0, 1) := by decide +kernel
theorem dX5_addOne_12 : decode cX5_addOne 12 = .ok (.getfield 30, 3) := by decide +kernel
theorem dX5_addOne_15 : decode cX5_addOne 15 = .ok (.istore_n 2, 1) := by decide +kernel
theorem dX5_addOne_16 : decode cX5_addOne 16 = .ok (.aload_n 0, 1) := by decide +kernel
theorem dX5_addOne_17 : decode cX5_addOne 17 = .ok (.dup, 1) := by decide +kernel
theorem dX5_addOne_18 : decode cX5_addOne 18 = .ok (.getfield 30, 3) := by decide +kernel
theorem dX5_addOne_21 : decode cX5_addOne 21 = .ok (.iconst 1, 1) := by decide +kernel
theorem dX5_addOne_22 : decode cX5_addOne 22 = .ok (.iadd, 1) := by decide +kernel
theorem dX5_addOne_23 : decode cX5_addOne 23 = .ok (.putfield 30, 3) := by decide +kernel
theorem dX5_addOne_26 : decode cX5_addOne 26 = .ok (.aload_n 0, 1) := by decide +kernel
theorem dX5_addOne_27 : decode cX5_addOne 27 = .ok (.getfield 9, 3) := by decide +kernel
theorem dX5_addOne_30 : decode cX5_addOne 30 = .ok (.iload_n 2, 1) := by decide +kernel
theorem dX5_addOne_31 : decode cX5_addOne 31 = .ok (.iload_n 1, 1) := by decide +kernel
theorem dX5_addOne_32 : decode cX5_addOne 32 = .ok (.iastore, 1) := by decide +kernel
theorem dX5_addOne_33 : decode cX5_addOne 33 = .ok (.aload_n 0, 1) := by decide +kernel
theorem dX5_addOne_34 : decode cX5_addOne 34 = .ok (.getfield 15, 3) := by decide +kernel
theorem dX5_addOne_37 : decode cX5_addOne 37 = .ok (.iload_n 2, 1) := by decide +kernel
theorem dX5_addOne_38 : decode cX5_addOne 38 = .ok (.iconst 0, 1) := by decide +kernel
theorem dX5_addOne_39 : decode cX5_addOne 39 = .ok (.iastore, 1) := by decide +kernel
theorem dX5_addOne_40 : decode cX5_addOne 40 = .ok (.aload_n 0, 1) := by decide +kernel
theorem dX5_addOne_41 : decode cX5_addOne 41 = .ok (.getfield 18, 3) := by decide +kernel
theorem dX5_addOne_44 : decode cX5_addOne 44 = .ok (.iload_n 2, 1) := by decide +kernel
theorem dX5_addOne_45 : decode cX5_addOne 45 = .ok (.iconst 0, 1) := by decide +kernel
theorem dX5_addOne_46 : decode cX5_addOne 46 = .ok (.iastore, 1) := by decide +kernel
theorem dX5_addOne_47 : decode cX5_addOne 47 = .ok (.aload_n 0, 1) := by decide +kernel
theorem dX5_addOne_48 : decode cX5_addOne 48 = .ok (.getfield 21, 3) := by decide +kernel
theorem dX5_addOne_51 : decode cX5_addOne 51 = .ok (.iload_n 2, 1) := by decide +kernel
theorem dX5_addOne_52 : decode cX5_addOne 52 = .ok (.iconst 0, 1) := by decide +kernel
theorem dX5_addOne_53 : decode cX5_addOne 53 = .ok (.iastore, 1) := by decide +kernel
theorem dX5_addOne_54 : decode cX5_addOne 54 = .ok (.aload_n 0, 1) := by decide +kernel
theorem dX5_addOne_55 : decode cX5_addOne 55 = .ok (.getfield 24, 3) := by decide +kernel
theorem dX5_addOne_58 : decode cX5_addOne 58 = .ok (.iload_n 2, 1) := by decide +kernel
theorem dX5_addOne_59 : decode cX5_addOne 59 = .ok (.iconst 4, 1) := by decide +kernel
theorem dX5_addOne_60 : decode cX5_addOne 60 = .ok (.iastore, 1) := by decide +kernel
theorem dX5_addOne_61 : decode cX5_addOne 61 = .ok (.aload_n 0, 1) := by decide +kernel
theorem dX5_addOne_62 : decode cX5_addOne 62 = .ok (.getfield 27, 3) := by decide +kernel
theorem dX5_addOne_65 : decode cX5_addOne 65 = .ok (.iload_n 2, 1) := by decide +kernel
theorem dX5_addOne_66 : decode cX5_addOne 66 = .ok (.iconst 0, 1) := by decide +kernel
theorem dX5_addOne_67 : decode cX5_addOne 67 = .ok (.iastore, 1) := by decide +kernel
theorem dX5_addOne_68 : decode cX5_addOne 68 = .ok (.iload_n 2, 1) := by decide +kernel
theorem dX5_addOne_69 : decode cX5_addOne 69 = .ok (.ireturn, 1) := by decide +kernel
theorem dX5_row_0 : decode cX5_row 0 = .ok (.iload_n 1, 1) := by decide +kernel
theorem dX5_row_1 : decode cX5_row 1 = .ok (.tableswitch 69 0 5 #[39, 44, 49, 54, 59, 64], 39) := by decide +kernel
theorem dX5_row_40 : decode cX5_row 40 = .ok (.aload_n 0, 1) := by decide +kernel
theorem dX5_row_41 : decode cX5_row 41 = .ok (.getfield 9, 3) := by decide +kernel
theorem dX5_row_44 : decode cX5_row 44 = .ok (.areturn, 1) := by decide +kernel
theorem dX5_row_45 : decode cX5_row 45 = .ok (.aload_n 0, 1) := by decide +kernel
theorem dX5_row_46 : decode cX5_row 46 = .ok (.getfield 15, 3) := by decide +kernel
theorem dX5_row_49 : decode cX5_row 49 = .ok (.areturn, 1) := by decide +kernel
theorem dX5_row_50 : decode cX5_row 50 = .ok (.aload_n 0, 1) := by decide +kernel
theorem dX5_row_51 : decode cX5_row 51 = .ok (.getfield 18, 3) := by decide +kernel
theorem dX5_row_54 : decode cX5_row 54 = .ok (.areturn, 1) := by decide +kernel
theorem dX5_row_55 : decode cX5_row 55 = .ok (.aload_n 0, 1) := by decide +kernel
theorem dX5_row_56 : decode cX5_row 56 = .ok (.getfield 21, 3) := by decide +kernel
theorem dX5_row_59 : decode cX5_row 59 = .ok (.areturn, 1) := by decide +kernel
theorem dX5_row_60 : decode cX5_row 60 = .ok (.aload_n 0, 1) := by decide +kernel
theorem dX5_row_61 : decode cX5_row 61 = .ok (.getfield 24, 3) := by decide +kernel
theorem dX5_row_64 : decode cX5_row 64 = .ok (.areturn, 1) := by decide +kernel
theorem dX5_row_65 : decode cX5_row 65 = .ok (.aload_n 0, 1) := by decide +kernel
theorem dX5_row_66 : decode cX5_row 66 = .ok (.getfield 27, 3) := by decide +kernel
theorem dX5_row_69 : decode cX5_row 69 = .ok (.areturn, 1) := by decide +kernel
theorem dX5_row_70 : decode cX5_row 70 = .ok (.aconst_null, 1) := by decide +kernel
theorem dX5_row_71 : decode cX5_row 71 = .ok (.areturn, 1) := by decide +kernel
theorem dX5_make_0 : decode cX5_make 0 = .ok (.aload_n 0, 1) := by decide +kernel
theorem dX5_make_1 : decode cX5_make 1 = .ok (.iload_n 1, 1) := by decide +kernel
theorem dX5_make_2 : decode cX5_make 2 = .ok (.invokevirtual 40, 3) := by decide +kernel
theorem dX5_make_5 : decode cX5_make 5 = .ok (.ifCond .ne 5, 3) := by decide +kernel
theorem dX5_make_8 : decode cX5_make 8 = .ok (.iload_n 2, 1) := by decide +kernel
theorem dX5_make_9 : decode cX5_make 9 = .ok (.ireturn, 1) := by decide +kernel
theorem dX5_make_10 : decode cX5_make 10 = .ok (.aload_n 0, 1) := by decide +kernel
theorem dX5_make_11 : decode cX5_make 11 = .ok (.getfield 9, 3) := by decide +kernel
theorem dX5_make_14 : decode cX5_make 14 = .ok (.iload_n 1, 1) := by decide +kernel
theorem dX5_make_15 : decode cX5_make 15 = .ok (.iaload, 1) := by decide +kernel
theorem dX5_make_16 : decode cX5_make 16 = .ok (.tableswitch 113 1 6 #[40, 50, 61, 78, 91, 102], 40) := by decide +kernel
theorem dX5_make_56 : decode cX5_make 56 = .ok (.aload_n 0, 1) := by decide +kernel
theorem dX5_make_57 : decode cX5_make 57 = .ok (.iload_n 1, 1) := by decide +kernel
theorem dX5_make_58 : decode cX5_make 58 = .ok (.iload_n 2, 1) := by decide +kernel
theorem dX5_make_59 : decode cX5_make 59 = .ok (.invokevirtual 44, 3) := by decide +kernel
theorem dX5_make_62 : decode cX5_make 62 = .ok (.invokestatic 48, 3) := by decide +kernel
theorem dX5_make_65 : decode cX5_make 65 = .ok (.ireturn, 1) := by decide +kernel
theorem dX5_make_66 : decode cX5_make 66 = .ok (.aload_n 0, 1) := by decide +kernel
theorem dX5_make_67 : decode cX5_make 67 = .ok (.iload_n 1, 1) := by decide +kernel
theorem dX5_make_68 : decode cX5_make 68 = .ok (.iload_n 2, 1) := by decide +kernel
theorem dX5_make_69 : decode cX5_make 69 = .ok (.invokevirtual 44, 3) := by decide +kernel
theorem dX5_make_72 : decode cX5_make 72 = .ok (.iconst 4, 1) := by decide +kernel
theorem dX5_make_73 : decode cX5_make 73 = .ok (.invokestatic 52, 3) := by decide +kernel
theorem dX5_make_76 : decode cX5_make 76 = .ok (.ireturn, 1) := by decide +kernel
theorem dX5_make_77 : decode cX5_make 77 = .ok (.aload_n 0, 1) := by decide +kernel
theorem dX5_make_78 : decode cX5_make 78 = .ok (.iload_n 1, 1) := by decide +kernel
theorem dX5_make_79 : decode cX5_make 79 = .ok (.iload_n 2, 1) := by decide +kernel
theorem dX5_make_80 : decode cX5_make 80 = .ok (.invokevirtual 44, 3) := by decide +kernel
theorem dX5_make_83 : decode cX5_make 83 = .ok (.invokestatic 48, 3) := by decide +kernel
theorem dX5_make_86 : decode cX5_make 86 = .ok (.aload_n 0, 1) := by decide +kernel
theorem dX5_make_87 : decode cX5_make 87 = .ok (.getfield 18, 3) := by decide +kernel
theorem dX5_make_90 : decode cX5_make 90 = .ok (.iload_n 1, 1) := by decide +kernel
theorem dX5_make_91 : decode cX5_make 91 = .ok (.iaload, 1) := by decide +kernel
theorem dX5_make_92 : decode cX5_make 92 = .ok (.ior, 1) := by decide +kernel
theorem dX5_make_93 : decode cX5_make 93 = .ok (.ireturn, 1) := by decide +kernel
theorem dX5_make_94 : decode cX5_make 94 = .ok (.aload_n 0, 1) := by decide +kernel
theorem dX5_make_95 : decode cX5_make 95 = .ok (.iload_n 1, 1) := by decide +kernel
theorem dX5_make_96 : decode cX5_make 96 = .ok (.iload_n 2, 1) := by decide +kernel
theorem dX5_make_97 : decode cX5_make 97 = .ok (.invokevirtual 44, 3) := by decide +kernel
theorem dX5_make_100 : decode cX5_make 100 = .ok (.iconst 4, 1) := by decide +kernel
theorem dX5_make_101 : decode cX5_make 101 = .ok (.invokestatic 52, 3) := by decide +kernel
theorem dX5_make_104 : decode cX5_make 104 = .ok (.iconst 1, 1) := by decide +kernel
theorem dX5_make_105 : decode cX5_make 105 = .ok (.ior, 1) := by decide +kernel
theorem dX5_make_106 : decode cX5_make 106 = .ok (.ireturn, 1) := by decide +kernel
theorem dX5_make_107 : decode cX5_make 107 = .ok (.aload_n 0, 1) := by decide +kernel
theorem dX5_make_108 : decode cX5_make 108 = .ok (.iload_n 1, 1) := by decide +kernel
theorem dX5_make_109 : decode cX5_make 109 = .ok (.iload_n 2, 1) := by decide +kernel
theorem dX5_make_110 : decode cX5_make 110 = .ok (.sipush 1365, 3) := by decide +kernel
theorem dX5_make_113 : decode cX5_make 113 = .ok (.iand, 1) := by decide +kernel
theorem dX5_make_114 : decode cX5_make 114 = .ok (.invokevirtual 44, 3) := by decide +kernel
theorem dX5_make_117 : decode cX5_make 117 = .ok (.ireturn, 1) := by decide +kernel
theorem dX5_make_118 : decode cX5_make 118 = .ok (.aload_n 0, 1) := by decide +kernel
theorem dX5_make_119 : decode cX5_make 119 = .ok (.iload_n 1, 1) := by decide +kernel
theorem dX5_make_120 : decode cX5_make 120 = .ok (.iload_n 2, 1) := by decide +kernel
theorem dX5_make_121 : decode cX5_make 121 = .ok (.invokevirtual 44, 3) := by decide +kernel
theorem dX5_make_124 : decode cX5_make 124 = .ok (.iconst 2, 1) := by decide +kernel
theorem dX5_make_125 : decode cX5_make 125 = .ok (.invokestatic 52, 3) := by decide +kernel
theorem dX5_make_128 : decode cX5_make 128 = .ok (.ireturn, 1) := by decide +kernel
theorem dX5_make_129 : decode cX5_make 129 = .ok (.aload_n 0, 1) := by decide +kernel
theorem dX5_make_130 : decode cX5_make 130 = .ok (.iload_n 1, 1) := by decide +kernel
theorem dX5_make_131 : decode cX5_make 131 = .ok (.iload_n 2, 1) := by decide +kernel
theorem dX5_make_132 : decode cX5_make 132 = .ok (.invokevirtual 44, 3) := by decide +kernel
theorem dX5_make_135 : decode cX5_make 135 = .ok (.ireturn, 1) := by decide +kernel
theorem dX5_plain_0 : decode cX5_plain 0 = .ok (.iload_n 2, 1) := by decide +kernel
theorem dX5_plain_1 : decode cX5_plain 1 = .ok (.aload_n 0, 1) := by decide +kernel
theorem dX5_plain_2 : decode cX5_plain 2 = .ok (.getfield 15, 3) := by decide +kernel
theorem dX5_plain_5 : decode cX5_plain 5 = .ok (.iload_n 1, 1) := by decide +kernel
theorem dX5_plain_6 : decode cX5_plain 6 = .ok (.iaload, 1) := by decide +kernel
theorem dX5_plain_7 : decode cX5_plain 7 = .ok (.iconst (-1), 1) := by decide +kernel
theorem dX5_plain_8 : decode cX5_plain 8 = .ok (.ixor, 1) := by decide +kernel
theorem dX5_plain_9 : decode cX5_plain 9 = .ok (.iand, 1) := by decide +kernel
theorem dX5_plain_10 : decode cX5_plain 10 = .ok (.istore_n 3, 1) := by decide +kernel
theorem dX5_plain_11 : decode cX5_plain 11 = .ok (.iload_n 2, 1) := by decide +kernel
theorem dX5_plain_12 : decode cX5_plain 12 = .ok (.aload_n 0, 1) := by decide +kernel
theorem dX5_plain_13 : decode cX5_plain 13 = .ok (.getfield 21, 3) := by decide +kernel
theorem dX5_plain_16 : decode cX5_plain 16 = .ok (.iload_n 1, 1) := by decide +kernel
theorem dX5_plain_17 : decode cX5_plain 17 = .ok (.iaload, 1) := by decide +kernel
theorem dX5_plain_18 : decode cX5_plain 18 = .ok (.iand, 1) := by decide +kernel
theorem dX5_plain_19 : decode cX5_plain 19 = .ok (.ifCond .eq 14, 3) := by decide +kernel
theorem dX5_plain_22 : decode cX5_plain 22 = .ok (.iload_n 3, 1) := by decide +kernel
theorem dX5_plain_23 : decode cX5_plain 23 = .ok (.aload_n 0, 1) := by decide +kernel
theorem dX5_plain_24 : decode cX5_plain 24 = .ok (.getfield 18, 3) := by decide +kernel
theorem dX5_plain_27 : decode cX5_plain 27 = .ok (.iload_n 1, 1) := by decide +kernel
theorem dX5_plain_28 : decode cX5_plain 28 = .ok (.iaload, 1) := by decide +kernel
theorem dX5_plain_29 : decode cX5_plain 29 = .ok (.ior, 1) := by decide +kernel
theorem dX5_plain_30 : decode cX5_plain 30 = .ok (.goto 4, 3) := by decide +kernel
theorem dX5_plain_33 : decode cX5_plain 33 = .ok (.iload_n 3, 1) := by decide +kernel
theorem dX5_plain_34 : decode cX5_plain 34 = .ok (.ireturn, 1) := by decide +kernel
theorem dX5_softened_0 : decode cX5_softened 0 = .ok (.iload_n 0, 1) := by decide +kernel
theorem dX5_softened_1 : decode cX5_softened 1 = .ok (.sipush (-3841), 3) := by decide +kernel
theorem dX5_softened_4 : decode cX5_softened 4 = .ok (.iand, 1) := by decide +kernel
theorem dX5_softened_5 : decode cX5_softened 5 = .ok (.iload_n 0, 1) := by decide +kernel
theorem dX5_softened_6 : decode cX5_softened 6 = .ok (.sipush 3840, 3) := by decide +kernel
theorem dX5_softened_9 : decode cX5_softened 9 = .ok (.iand, 1) := by decide +kernel
theorem dX5_softened_10 : decode cX5_softened 10 = .ok (.iconst 4, 1) := by decide +kernel
theorem dX5_softened_11 : decode cX5_softened 11 = .ok (.ishr, 1) := by decide +kernel
theorem dX5_softened_12 : decode cX5_softened 12 = .ok (.ior, 1) := by decide +kernel
theorem dX5_softened_13 : decode cX5_softened 13 = .ok (.ireturn, 1) := by decide +kernel
theorem dX5_least_0 : decode cX5_least 0 = .ok (.iload_n 0, 1) := by decide +kernel
theorem dX5_least_1 : decode cX5_least 1 = .ok (.istore_n 2, 1) := by decide +kernel
theorem dX5_least_2 : decode cX5_least 2 = .ok (.iconst 0, 1) := by decide +kernel
theorem dX5_least_3 : decode cX5_least 3 = .ok (.istore_n 3, 1) := by decide +kernel
theorem dX5_least_4 : decode cX5_least 4 = .ok (.iload_n 3, 1) := by decide +kernel
theorem dX5_least_5 : decode cX5_least 5 = .ok (.iload_n 1, 1) := by decide +kernel
theorem dX5_least_6 : decode cX5_least 6 = .ok (.if_icmp .ge 15, 3) := by decide +kernel
theorem dX5_least_9 : decode cX5_least 9 = .ok (.iload_n 2, 1) := by decide +kernel
theorem dX5_least_10 : decode cX5_least 10 = .ok (.iload_n 2, 1) := by decide +kernel
theorem dX5_least_11 : decode cX5_least 11 = .ok (.iconst 1, 1) := by decide +kernel
theorem dX5_least_12 : decode cX5_least 12 = .ok (.isub, 1) := by decide +kernel
theorem dX5_least_13 : decode cX5_least 13 = .ok (.iand, 1) := by decide +kernel
theorem dX5_least_14 : decode cX5_least 14 = .ok (.istore_n 2, 1) := by decide +kernel
theorem dX5_least_15 : decode cX5_least 15 = .ok (.iinc 3 1, 3) := by decide +kernel
theorem dX5_least_18 : decode cX5_least 18 = .ok (.goto (-14), 3) := by decide +kernel
theorem dX5_least_21 : decode cX5_least 21 = .ok (.iload_n 0, 1) := by decide +kernel
theorem dX5_least_22 : decode cX5_least 22 = .ok (.iload_n 2, 1) := by decide +kernel
theorem dX5_least_23 : decode cX5_least 23 = .ok (.iconst (-1), 1) := by decide +kernel
theorem dX5_least_24 : decode cX5_least 24 = .ok (.ixor, 1) := by decide +kernel
theorem dX5_least_25 : decode cX5_least 25 = .ok (.iand, 1) := by decide +kernel
theorem dX5_least_26 : decode cX5_least 26 = .ok (.ireturn, 1) := by decide +kernel
theorem dX5_onceRound_0 : decode cX5_onceRound 0 = .ok (.iload_n 1, 1) := by decide +kernel
theorem dX5_onceRound_1 : decode cX5_onceRound 1 = .ok (.istore_n 2, 1) := by decide +kernel
theorem dX5_onceRound_2 : decode cX5_onceRound 2 = .ok (.iconst 0, 1) := by decide +kernel
theorem dX5_onceRound_3 : decode cX5_onceRound 3 = .ok (.istore_n 3, 1) := by decide +kernel
theorem dX5_onceRound_4 : decode cX5_onceRound 4 = .ok (.iload_n 3, 1) := by decide +kernel
theorem dX5_onceRound_5 : decode cX5_onceRound 5 = .ok (.aload_n 0, 1) := by decide +kernel
theorem dX5_onceRound_6 : decode cX5_onceRound 6 = .ok (.getfield 30, 3) := by decide +kernel
theorem dX5_onceRound_9 : decode cX5_onceRound 9 = .ok (.if_icmp .ge 16, 3) := by decide +kernel
theorem dX5_onceRound_12 : decode cX5_onceRound 12 = .ok (.aload_n 0, 1) := by decide +kernel
theorem dX5_onceRound_13 : decode cX5_onceRound 13 = .ok (.iload_n 3, 1) := by decide +kernel
theorem dX5_onceRound_14 : decode cX5_onceRound 14 = .ok (.iload_n 2, 1) := by decide +kernel
theorem dX5_onceRound_15 : decode cX5_onceRound 15 = .ok (.invokevirtual 55, 3) := by decide +kernel
theorem dX5_onceRound_18 : decode cX5_onceRound 18 = .ok (.istore_n 2, 1) := by decide +kernel
theorem dX5_onceRound_19 : decode cX5_onceRound 19 = .ok (.iinc 3 1, 3) := by decide +kernel
theorem dX5_onceRound_22 : decode cX5_onceRound 22 = .ok (.goto (-18), 3) := by decide +kernel
theorem dX5_onceRound_25 : decode cX5_onceRound 25 = .ok (.iload_n 2, 1) := by decide +kernel
theorem dX5_onceRound_26 : decode cX5_onceRound 26 = .ok (.ireturn, 1) := by decide +kernel
theorem dX5_waysTo_0 : decode cX5_waysTo 0 = .ok (.iconst 0, 1) := by decide +kernel
theorem dX5_waysTo_1 : decode cX5_waysTo 1 = .ok (.istore_n 3, 1) := by decide +kernel
theorem dX5_waysTo_2 : decode cX5_waysTo 2 = .ok (.iconst 0, 1) := by decide +kernel
theorem dX5_waysTo_3 : decode cX5_waysTo 3 = .ok (.istore 4, 2) := by decide +kernel
theorem dX5_waysTo_5 : decode cX5_waysTo 5 = .ok (.iload 4, 2) := by decide +kernel
theorem dX5_waysTo_7 : decode cX5_waysTo 7 = .ok (.sipush 4096, 3) := by decide +kernel
theorem dX5_waysTo_10 : decode cX5_waysTo 10 = .ok (.if_icmp .ge 23, 3) := by decide +kernel
theorem dX5_waysTo_13 : decode cX5_waysTo 13 = .ok (.aload_n 0, 1) := by decide +kernel
theorem dX5_waysTo_14 : decode cX5_waysTo 14 = .ok (.iload_n 1, 1) := by decide +kernel
theorem dX5_waysTo_15 : decode cX5_waysTo 15 = .ok (.iload 4, 2) := by decide +kernel
theorem dX5_waysTo_17 : decode cX5_waysTo 17 = .ok (.invokevirtual 55, 3) := by decide +kernel
theorem dX5_waysTo_20 : decode cX5_waysTo 20 = .ok (.iload_n 2, 1) := by decide +kernel
theorem dX5_waysTo_21 : decode cX5_waysTo 21 = .ok (.if_icmp .ne 6, 3) := by decide +kernel
theorem dX5_waysTo_24 : decode cX5_waysTo 24 = .ok (.iinc 3 1, 3) := by decide +kernel
theorem dX5_waysTo_27 : decode cX5_waysTo 27 = .ok (.iinc 4 1, 3) := by decide +kernel
theorem dX5_waysTo_30 : decode cX5_waysTo 30 = .ok (.goto (-25), 3) := by decide +kernel
theorem dX5_waysTo_33 : decode cX5_waysTo 33 = .ok (.iload_n 3, 1) := by decide +kernel
theorem dX5_waysTo_34 : decode cX5_waysTo 34 = .ok (.ireturn, 1) := by decide +kernel
theorem dX5_reach_0 : decode cX5_reach 0 = .ok (.aload_n 2, 1) := by decide +kernel
theorem dX5_reach_1 : decode cX5_reach 1 = .ok (.iconst 0, 1) := by decide +kernel
theorem dX5_reach_2 : decode cX5_reach 2 = .ok (.invokestatic 58, 3) := by decide +kernel
theorem dX5_reach_5 : decode cX5_reach 5 = .ok (.iconst 0, 1) := by decide +kernel
theorem dX5_reach_6 : decode cX5_reach 6 = .ok (.istore_n 3, 1) := by decide +kernel
theorem dX5_reach_7 : decode cX5_reach 7 = .ok (.iload_n 3, 1) := by decide +kernel
theorem dX5_reach_8 : decode cX5_reach 8 = .ok (.sipush 4096, 3) := by decide +kernel
theorem dX5_reach_11 : decode cX5_reach 11 = .ok (.if_icmp .ge 49, 3) := by decide +kernel
theorem dX5_reach_14 : decode cX5_reach 14 = .ok (.aload_n 0, 1) := by decide +kernel
theorem dX5_reach_15 : decode cX5_reach 15 = .ok (.iload_n 1, 1) := by decide +kernel
theorem dX5_reach_16 : decode cX5_reach 16 = .ok (.iload_n 3, 1) := by decide +kernel
theorem dX5_reach_17 : decode cX5_reach 17 = .ok (.invokevirtual 55, 3) := by decide +kernel
theorem dX5_reach_20 : decode cX5_reach 20 = .ok (.istore 4, 2) := by decide +kernel
theorem dX5_reach_22 : decode cX5_reach 22 = .ok (.iload 4, 2) := by decide +kernel
theorem dX5_reach_24 : decode cX5_reach 24 = .ok (.iconst 5, 1) := by decide +kernel
theorem dX5_reach_25 : decode cX5_reach 25 = .ok (.ishr, 1) := by decide +kernel
theorem dX5_reach_26 : decode cX5_reach 26 = .ok (.istore 5, 2) := by decide +kernel
theorem dX5_reach_28 : decode cX5_reach 28 = .ok (.iload 5, 2) := by decide +kernel
theorem dX5_reach_30 : decode cX5_reach 30 = .ok (.ifCond .lt 24, 3) := by decide +kernel
theorem dX5_reach_33 : decode cX5_reach 33 = .ok (.iload 5, 2) := by decide +kernel
theorem dX5_reach_35 : decode cX5_reach 35 = .ok (.aload_n 2, 1) := by decide +kernel
theorem dX5_reach_36 : decode cX5_reach 36 = .ok (.arraylength, 1) := by decide +kernel
theorem dX5_reach_37 : decode cX5_reach 37 = .ok (.if_icmp .ge 17, 3) := by decide +kernel
theorem dX5_reach_40 : decode cX5_reach 40 = .ok (.aload_n 2, 1) := by decide +kernel
theorem dX5_reach_41 : decode cX5_reach 41 = .ok (.iload 5, 2) := by decide +kernel
theorem dX5_reach_43 : decode cX5_reach 43 = .ok (.dup2, 1) := by decide +kernel
theorem dX5_reach_44 : decode cX5_reach 44 = .ok (.iaload, 1) := by decide +kernel
theorem dX5_reach_45 : decode cX5_reach 45 = .ok (.iconst 1, 1) := by decide +kernel
theorem dX5_reach_46 : decode cX5_reach 46 = .ok (.iload 4, 2) := by decide +kernel
theorem dX5_reach_48 : decode cX5_reach 48 = .ok (.bipush 31, 2) := by decide +kernel
theorem dX5_reach_50 : decode cX5_reach 50 = .ok (.iand, 1) := by decide +kernel
theorem dX5_reach_51 : decode cX5_reach 51 = .ok (.ishl, 1) := by decide +kernel
theorem dX5_reach_52 : decode cX5_reach 52 = .ok (.ior, 1) := by decide +kernel
theorem dX5_reach_53 : decode cX5_reach 53 = .ok (.iastore, 1) := by decide +kernel
theorem dX5_reach_54 : decode cX5_reach 54 = .ok (.iinc 3 1, 3) := by decide +kernel
theorem dX5_reach_57 : decode cX5_reach 57 = .ok (.goto (-50), 3) := by decide +kernel
theorem dX5_reach_60 : decode cX5_reach 60 = .ok (.return_, 1) := by decide +kernel
theorem dX5_allPurses_0 : decode cX5_allPurses 0 = .ok (.iconst 0, 1) := by decide +kernel
theorem dX5_allPurses_1 : decode cX5_allPurses 1 = .ok (.istore_n 1, 1) := by decide +kernel
theorem dX5_allPurses_2 : decode cX5_allPurses 2 = .ok (.iconst 0, 1) := by decide +kernel
theorem dX5_allPurses_3 : decode cX5_allPurses 3 = .ok (.istore_n 2, 1) := by decide +kernel
theorem dX5_allPurses_4 : decode cX5_allPurses 4 = .ok (.iload_n 2, 1) := by decide +kernel
theorem dX5_allPurses_5 : decode cX5_allPurses 5 = .ok (.aload_n 0, 1) := by decide +kernel
theorem dX5_allPurses_6 : decode cX5_allPurses 6 = .ok (.getfield 30, 3) := by decide +kernel
theorem dX5_allPurses_9 : decode cX5_allPurses 9 = .ok (.if_icmp .ge 18, 3) := by decide +kernel
theorem dX5_allPurses_12 : decode cX5_allPurses 12 = .ok (.iload_n 1, 1) := by decide +kernel
theorem dX5_allPurses_13 : decode cX5_allPurses 13 = .ok (.aload_n 0, 1) := by decide +kernel
theorem dX5_allPurses_14 : decode cX5_allPurses 14 = .ok (.getfield 27, 3) := by decide +kernel
theorem dX5_allPurses_17 : decode cX5_allPurses 17 = .ok (.iload_n 2, 1) := by decide +kernel
theorem dX5_allPurses_18 : decode cX5_allPurses 18 = .ok (.iaload, 1) := by decide +kernel
theorem dX5_allPurses_19 : decode cX5_allPurses 19 = .ok (.iadd, 1) := by decide +kernel
theorem dX5_allPurses_20 : decode cX5_allPurses 20 = .ok (.istore_n 1, 1) := by decide +kernel
theorem dX5_allPurses_21 : decode cX5_allPurses 21 = .ok (.iinc 2 1, 3) := by decide +kernel
theorem dX5_allPurses_24 : decode cX5_allPurses 24 = .ok (.goto (-20), 3) := by decide +kernel
theorem dX5_allPurses_27 : decode cX5_allPurses 27 = .ok (.iload_n 1, 1) := by decide +kernel
theorem dX5_allPurses_28 : decode cX5_allPurses 28 = .ok (.ireturn, 1) := by decide +kernel
