theorem dX6_init_0 : decode cX6_init 0 = .ok (.aload_n 0, 1) := by decide +kernel
theorem dX6_init_1 : decode cX6_init 1 = .ok (.invokespecial 3, 3) := by decide +kernel
theorem dX6_init_4 : decode cX6_init 4 = .ok (.aload_n 0, 1) := by decide +kernel
theorem dX6_init_5 : decode cX6_init 5 = .ok (.new 9, 3) := by decide +kernel
theorem dX6_init_8 : decode cX6_init 8 = .ok (.dup, 1) := by decide +kernel
theorem dX6_init_9 : decode cX6_init 9 = .ok (.invokespecial 11, 3) := by decide +kernel
theorem dX6_init_12 : decode cX6_init 12 = .ok (.putfield 12, 3) := by decide +kernel
theorem dX6_init_15 : decode cX6_init 15 = .ok (.aload_n 0, 1) := by decide +kernel
theorem dX6_init_16 : decode cX6_init 16 = .ok (.new 9, 3) := by decide +kernel
theorem dX6_init_19 : decode cX6_init 19 = .ok (.dup, 1) := by decide +kernel
theorem dX6_init_20 : decode cX6_init 20 = .ok (.invokespecial 11, 3) := by decide +kernel
theorem dX6_init_23 : decode cX6_init 23 = .ok (.putfield 16, 3) := by decide +kernel
theorem dX6_init_26 : decode cX6_init 26 = .ok (.aload_n 0, 1) := by decide +kernel
theorem dX6_init_27 : decode cX6_init 27 = .ok (.new 9, 3) := by decide +kernel
theorem dX6_init_30 : decode cX6_init 30 = .ok (.dup, 1) := by decide +kernel
theorem dX6_init_31 : decode cX6_init 31 = .ok (.invokespecial 11, 3) := by decide +kernel
theorem dX6_init_34 : decode cX6_init 34 = .ok (.putfield 19, 3) := by decide +kernel
theorem dX6_init_37 : decode cX6_init 37 = .ok (.aload_n 0, 1) := by decide +kernel
theorem dX6_init_38 : decode cX6_init 38 = .ok (.new 22, 3) := by decide +kernel
theorem dX6_init_41 : decode cX6_init 41 = .ok (.dup, 1) := by decide +kernel
theorem dX6_init_42 : decode cX6_init 42 = .ok (.invokespecial 24, 3) := by decide +kernel
theorem dX6_init_45 : decode cX6_init 45 = .ok (.putfield 25, 3) := by decide +kernel
theorem dX6_init_48 : decode cX6_init 48 = .ok (.aload_n 0, 1) := by decide +kernel
theorem dX6_init_49 : decode cX6_init 49 = .ok (.new 29, 3) := by decide +kernel
theorem dX6_init_52 : decode cX6_init 52 = .ok (.dup, 1) := by decide +kernel
theorem dX6_init_53 : decode cX6_init 53 = .ok (.aload_n 0, 1) := by decide +kernel
theorem dX6_init_54 : decode cX6_init 54 = .ok (.getfield 25, 3) := by decide +kernel
theorem dX6_init_57 : decode cX6_init 57 = .ok (.aload_n 0, 1) := by decide +kernel
theorem dX6_init_58 : decode cX6_init 58 = .ok (.getfield 16, 3) := by decide +kernel
theorem dX6_init_61 : decode cX6_init 61 = .ok (.invokespecial 31, 3) := by decide +kernel
theorem dX6_init_64 : decode cX6_init 64 = .ok (.putfield 34, 3) := by decide +kernel
theorem dX6_init_67 : decode cX6_init 67 = .ok (.aload_n 0, 1) := by decide +kernel
theorem dX6_init_68 : decode cX6_init 68 = .ok (.new 38, 3) := by decide +kernel
theorem dX6_init_71 : decode cX6_init 71 = .ok (.dup, 1) := by decide +kernel
theorem dX6_init_72 : decode cX6_init 72 = .ok (.invokespecial 40, 3) := by decide +kernel
theorem dX6_init_75 : decode cX6_init 75 = .ok (.putfield 41, 3) := by decide +kernel
theorem dX6_init_78 : decode cX6_init 78 = .ok (.aload_n 0, 1) := by decide +kernel
theorem dX6_init_79 : decode cX6_init 79 = .ok (.bipush 7, 2) := by decide +kernel
theorem dX6_init_81 : decode cX6_init 81 = .ok (.newarray .int, 2) := by decide +kernel
theorem dX6_init_83 : decode cX6_init 83 = .ok (.putfield 45, 3) := by decide +kernel
theorem dX6_init_86 : decode cX6_init 86 = .ok (.aload_n 0, 1) := by decide +kernel
theorem dX6_init_87 : decode cX6_init 87 = .ok (.bipush 101, 2) := by decide +kernel
theorem dX6_init_89 : decode cX6_init 89 = .ok (.newarray .int, 2) := by decide +kernel
theorem dX6_init_91 : decode cX6_init 91 = .ok (.putfield 49, 3) := by decide +kernel
theorem dX6_init_94 : decode cX6_init 94 = .ok (.aload_n 0, 1) := by decide +kernel
theorem dX6_init_95 : decode cX6_init 95 = .ok (.sipush 128, 3) := by decide +kernel
theorem dX6_init_98 : decode cX6_init 98 = .ok (.newarray .int, 2) := by decide +kernel
theorem dX6_init_100 : decode cX6_init 100 = .ok (.putfield 52, 3) := by decide +kernel
theorem dX6_init_103 : decode cX6_init 103 = .ok (.return_, 1) := by decide +kernel
theorem dX6_writer_0 : decode cX6_writer 0 = .ok (.iload_n 1, 1) := by decide +kernel
theorem dX6_writer_1 : decode cX6_writer 1 = .ok (.invokestatic 55, 3) := by decide +kernel
theorem dX6_writer_4 : decode cX6_writer 4 = .ok (.ifCond .ne 10, 3) := by decide +kernel
theorem dX6_writer_7 : decode cX6_writer 7 = .ok (.aload_n 0, 1) := by decide +kernel
theorem dX6_writer_8 : decode cX6_writer 8 = .ok (.ldc 59, 2) := by decide +kernel
theorem dX6_writer_10 : decode cX6_writer 10 = .ok (.invokevirtual 60, 3) := by decide +kernel
theorem dX6_writer_13 : decode cX6_writer 13 = .ok (.ireturn, 1) := by decide +kernel
theorem dX6_writer_14 : decode cX6_writer 14 = .ok (.aload_n 0, 1) := by decide +kernel
theorem dX6_writer_15 : decode cX6_writer 15 = .ok (.getfield 12, 3) := by decide +kernel
theorem dX6_writer_18 : decode cX6_writer 18 = .ok (.getfield 64, 3) := by decide +kernel
theorem dX6_writer_21 : decode cX6_writer 21 = .ok (.iload_n 1, 1) := by decide +kernel
theorem dX6_writer_22 : decode cX6_writer 22 = .ok (.invokevirtual 68, 3) := by decide +kernel
theorem dX6_writer_25 : decode cX6_writer 25 = .ok (.istore_n 2, 1) := by decide +kernel
theorem dX6_writer_26 : decode cX6_writer 26 = .ok (.iload_n 2, 1) := by decide +kernel
theorem dX6_writer_27 : decode cX6_writer 27 = .ok (.ifCond .ge 12, 3) := by decide +kernel
theorem dX6_writer_30 : decode cX6_writer 30 = .ok (.aload_n 0, 1) := by decide +kernel
theorem dX6_writer_31 : decode cX6_writer 31 = .ok (.ldc 73, 2) := by decide +kernel
theorem dX6_writer_33 : decode cX6_writer 33 = .ok (.invokevirtual 60, 3) := by decide +kernel
theorem dX6_writer_36 : decode cX6_writer 36 = .ok (.goto 4, 3) := by decide +kernel
theorem dX6_writer_39 : decode cX6_writer 39 = .ok (.iload_n 2, 1) := by decide +kernel
theorem dX6_writer_40 : decode cX6_writer 40 = .ok (.ireturn, 1) := by decide +kernel
theorem dX6_writerOf_0 : decode cX6_writerOf 0 = .ok (.aload_n 0, 1) := by decide +kernel
theorem dX6_writerOf_1 : decode cX6_writerOf 1 = .ok (.getfield 12, 3) := by decide +kernel
theorem dX6_writerOf_4 : decode cX6_writerOf 4 = .ok (.getfield 64, 3) := by decide +kernel
theorem dX6_writerOf_7 : decode cX6_writerOf 7 = .ok (.iload_n 2, 1) := by decide +kernel
theorem dX6_writerOf_8 : decode cX6_writerOf 8 = .ok (.invokevirtual 74, 3) := by decide +kernel
theorem dX6_writerOf_11 : decode cX6_writerOf 11 = .ok (.astore_n 3, 1) := by decide +kernel
theorem dX6_writerOf_12 : decode cX6_writerOf 12 = .ok (.aload_n 0, 1) := by decide +kernel
theorem dX6_writerOf_13 : decode cX6_writerOf 13 = .ok (.getfield 12, 3) := by decide +kernel
theorem dX6_writerOf_16 : decode cX6_writerOf 16 = .ok (.getfield 64, 3) := by decide +kernel
theorem dX6_writerOf_19 : decode cX6_writerOf 19 = .ok (.iload_n 1, 1) := by decide +kernel
theorem dX6_writerOf_20 : decode cX6_writerOf 20 = .ok (.invokevirtual 78, 3) := by decide +kernel
theorem dX6_writerOf_23 : decode cX6_writerOf 23 = .ok (.ifCond .eq 7, 3) := by decide +kernel
theorem dX6_writerOf_26 : decode cX6_writerOf 26 = .ok (.aload_n 3, 1) := by decide +kernel
theorem dX6_writerOf_27 : decode cX6_writerOf 27 = .ok (.ifnonnull 10, 3) := by decide +kernel
theorem dX6_writerOf_30 : decode cX6_writerOf 30 = .ok (.aload_n 0, 1) := by decide +kernel
theorem dX6_writerOf_31 : decode cX6_writerOf 31 = .ok (.ldc 59, 2) := by decide +kernel
theorem dX6_writerOf_33 : decode cX6_writerOf 33 = .ok (.invokevirtual 60, 3) := by decide +kernel
theorem dX6_writerOf_36 : decode cX6_writerOf 36 = .ok (.ireturn, 1) := by decide +kernel
theorem dX6_writerOf_37 : decode cX6_writerOf 37 = .ok (.aload_n 3, 1) := by decide +kernel
theorem dX6_writerOf_38 : decode cX6_writerOf 38 = .ok (.iload_n 1, 1) := by decide +kernel
theorem dX6_writerOf_39 : decode cX6_writerOf 39 = .ok (.iaload, 1) := by decide +kernel
theorem dX6_writerOf_40 : decode cX6_writerOf 40 = .ok (.ireturn, 1) := by decide +kernel
theorem dX6_law_0 : decode cX6_law 0 = .ok (.aload_n 0, 1) := by decide +kernel
theorem dX6_law_1 : decode cX6_law 1 = .ok (.getfield 12, 3) := by decide +kernel
theorem dX6_law_4 : decode cX6_law 4 = .ok (.getfield 64, 3) := by decide +kernel
theorem dX6_law_7 : decode cX6_law 7 = .ok (.iload_n 2, 1) := by decide +kernel
theorem dX6_law_8 : decode cX6_law 8 = .ok (.invokevirtual 74, 3) := by decide +kernel
theorem dX6_law_11 : decode cX6_law 11 = .ok (.astore 4, 2) := by decide +kernel
theorem dX6_law_13 : decode cX6_law 13 = .ok (.aload_n 0, 1) := by decide +kernel
theorem dX6_law_14 : decode cX6_law 14 = .ok (.getfield 12, 3) := by decide +kernel
theorem dX6_law_17 : decode cX6_law 17 = .ok (.getfield 64, 3) := by decide +kernel
theorem dX6_law_20 : decode cX6_law 20 = .ok (.iload_n 1, 1) := by decide +kernel
theorem dX6_law_21 : decode cX6_law 21 = .ok (.invokevirtual 78, 3) := by decide +kernel
theorem dX6_law_24 : decode cX6_law 24 = .ok (.ifCond .eq 16, 3) := by decide +kernel
theorem dX6_law_27 : decode cX6_law 27 = .ok (.aload 4, 2) := by decide +kernel
theorem dX6_law_29 : decode cX6_law 29 = .ok (.ifnull 11, 3) := by decide +kernel
theorem dX6_law_32 : decode cX6_law 32 = .ok (.iload_n 2, 1) := by decide +kernel
theorem dX6_law_33 : decode cX6_law 33 = .ok (.iload_n 3, 1) := by decide +kernel
theorem dX6_law_34 : decode cX6_law 34 = .ok (.invokestatic 81, 3) := by decide +kernel
theorem dX6_law_37 : decode cX6_law 37 = .ok (.ifCond .ne 10, 3) := by decide +kernel
theorem dX6_law_40 : decode cX6_law 40 = .ok (.aload_n 0, 1) := by decide +kernel
theorem dX6_law_41 : decode cX6_law 41 = .ok (.ldc 59, 2) := by decide +kernel
theorem dX6_law_43 : decode cX6_law 43 = .ok (.invokevirtual 60, 3) := by decide +kernel
theorem dX6_law_46 : decode cX6_law 46 = .ok (.ireturn, 1) := by decide +kernel
theorem dX6_law_47 : decode cX6_law 47 = .ok (.aload 4, 2) := by decide +kernel
theorem dX6_law_49 : decode cX6_law 49 = .ok (.iload_n 1, 1) := by decide +kernel
theorem dX6_law_50 : decode cX6_law 50 = .ok (.iaload, 1) := by decide +kernel
theorem dX6_law_51 : decode cX6_law 51 = .ok (.istore 5, 2) := by decide +kernel
theorem dX6_law_53 : decode cX6_law 53 = .ok (.aload 4, 2) := by decide +kernel
theorem dX6_law_55 : decode cX6_law 55 = .ok (.iload_n 1, 1) := by decide +kernel
theorem dX6_law_56 : decode cX6_law 56 = .ok (.iload_n 3, 1) := by decide +kernel
theorem dX6_law_57 : decode cX6_law 57 = .ok (.iastore, 1) := by decide +kernel
theorem dX6_law_58 : decode cX6_law 58 = .ok (.iload 5, 2) := by decide +kernel
theorem dX6_law_60 : decode cX6_law 60 = .ok (.ireturn, 1) := by decide +kernel
theorem dX6_person_0 : decode cX6_person 0 = .ok (.aload_n 0, 1) := by decide +kernel
theorem dX6_person_1 : decode cX6_person 1 = .ok (.getfield 12, 3) := by decide +kernel
theorem dX6_person_4 : decode cX6_person 4 = .ok (.getfield 64, 3) := by decide +kernel
theorem dX6_person_7 : decode cX6_person 7 = .ok (.iload_n 1, 1) := by decide +kernel
theorem dX6_person_8 : decode cX6_person 8 = .ok (.invokevirtual 78, 3) := by decide +kernel
theorem dX6_person_11 : decode cX6_person 11 = .ok (.ifCond .ne 10, 3) := by decide +kernel
theorem dX6_person_14 : decode cX6_person 14 = .ok (.aload_n 0, 1) := by decide +kernel
theorem dX6_person_15 : decode cX6_person 15 = .ok (.ldc 59, 2) := by decide +kernel
theorem dX6_person_17 : decode cX6_person 17 = .ok (.invokevirtual 60, 3) := by decide +kernel
theorem dX6_person_20 : decode cX6_person 20 = .ok (.ireturn, 1) := by decide +kernel
theorem dX6_person_21 : decode cX6_person 21 = .ok (.aload_n 0, 1) := by decide +kernel
theorem dX6_person_22 : decode cX6_person 22 = .ok (.getfield 12, 3) := by decide +kernel
theorem dX6_person_25 : decode cX6_person 25 = .ok (.getfield 85, 3) := by decide +kernel
theorem dX6_person_28 : decode cX6_person 28 = .ok (.iload_n 1, 1) := by decide +kernel
theorem dX6_person_29 : decode cX6_person 29 = .ok (.invokevirtual 89, 3) := by decide +kernel
theorem dX6_person_32 : decode cX6_person 32 = .ok (.istore_n 2, 1) := by decide +kernel
theorem dX6_person_33 : decode cX6_person 33 = .ok (.iload_n 2, 1) := by decide +kernel
theorem dX6_person_34 : decode cX6_person 34 = .ok (.ifCond .ge 12, 3) := by decide +kernel
theorem dX6_person_37 : decode cX6_person 37 = .ok (.aload_n 0, 1) := by decide +kernel
theorem dX6_person_38 : decode cX6_person 38 = .ok (.ldc 73, 2) := by decide +kernel
theorem dX6_person_40 : decode cX6_person 40 = .ok (.invokevirtual 60, 3) := by decide +kernel
theorem dX6_person_43 : decode cX6_person 43 = .ok (.goto 4, 3) := by decide +kernel
theorem dX6_person_46 : decode cX6_person 46 = .ok (.iload_n 2, 1) := by decide +kernel
theorem dX6_person_47 : decode cX6_person 47 = .ok (.ireturn, 1) := by decide +kernel
theorem dX6_of_0 : decode cX6_of 0 = .ok (.aload_n 0, 1) := by decide +kernel
theorem dX6_of_1 : decode cX6_of 1 = .ok (.getfield 12, 3) := by decide +kernel
theorem dX6_of_4 : decode cX6_of 4 = .ok (.getfield 85, 3) := by decide +kernel
theorem dX6_of_7 : decode cX6_of 7 = .ok (.iload_n 1, 1) := by decide +kernel
theorem dX6_of_8 : decode cX6_of 8 = .ok (.invokevirtual 92, 3) := by decide +kernel
theorem dX6_of_11 : decode cX6_of 11 = .ok (.ifCond .ne 10, 3) := by decide +kernel
theorem dX6_of_14 : decode cX6_of 14 = .ok (.aload_n 0, 1) := by decide +kernel
theorem dX6_of_15 : decode cX6_of 15 = .ok (.ldc 59, 2) := by decide +kernel
theorem dX6_of_17 : decode cX6_of 17 = .ok (.invokevirtual 60, 3) := by decide +kernel
theorem dX6_of_20 : decode cX6_of 20 = .ok (.ireturn, 1) := by decide +kernel
theorem dX6_of_21 : decode cX6_of 21 = .ok (.iload_n 2, 1) := by decide +kernel
theorem dX6_of_22 : decode cX6_of 22 = .ok (.iconst 5, 1) := by decide +kernel
theorem dX6_of_23 : decode cX6_of 23 = .ok (.if_icmp .ne 15, 3) := by decide +kernel
theorem dX6_of_26 : decode cX6_of 26 = .ok (.aload_n 0, 1) := by decide +kernel
theorem dX6_of_27 : decode cX6_of 27 = .ok (.getfield 12, 3) := by decide +kernel
theorem dX6_of_30 : decode cX6_of 30 = .ok (.getfield 85, 3) := by decide +kernel
theorem dX6_of_33 : decode cX6_of 33 = .ok (.iload_n 1, 1) := by decide +kernel
theorem dX6_of_34 : decode cX6_of 34 = .ok (.invokevirtual 93, 3) := by decide +kernel
theorem dX6_of_37 : decode cX6_of 37 = .ok (.ireturn, 1) := by decide +kernel
theorem dX6_of_38 : decode cX6_of 38 = .ok (.aload_n 0, 1) := by decide +kernel
theorem dX6_of_39 : decode cX6_of 39 = .ok (.getfield 12, 3) := by decide +kernel
theorem dX6_of_42 : decode cX6_of 42 = .ok (.getfield 85, 3) := by decide +kernel
theorem dX6_of_45 : decode cX6_of 45 = .ok (.iload_n 2, 1) := by decide +kernel
theorem dX6_of_46 : decode cX6_of 46 = .ok (.invokevirtual 96, 3) := by decide +kernel
theorem dX6_of_49 : decode cX6_of 49 = .ok (.astore_n 3, 1) := by decide +kernel
theorem dX6_of_50 : decode cX6_of 50 = .ok (.aload_n 3, 1) := by decide +kernel
theorem dX6_of_51 : decode cX6_of 51 = .ok (.ifnonnull 12, 3) := by decide +kernel
theorem dX6_of_54 : decode cX6_of 54 = .ok (.aload_n 0, 1) := by decide +kernel
theorem dX6_of_55 : decode cX6_of 55 = .ok (.ldc 59, 2) := by decide +kernel
theorem dX6_of_57 : decode cX6_of 57 = .ok (.invokevirtual 60, 3) := by decide +kernel
theorem dX6_of_60 : decode cX6_of 60 = .ok (.goto 6, 3) := by decide +kernel
theorem dX6_of_63 : decode cX6_of 63 = .ok (.aload_n 3, 1) := by decide +kernel
theorem dX6_of_64 : decode cX6_of 64 = .ok (.iload_n 1, 1) := by decide +kernel
theorem dX6_of_65 : decode cX6_of 65 = .ok (.iaload, 1) := by decide +kernel
theorem dX6_of_66 : decode cX6_of 66 = .ok (.ireturn, 1) := by decide +kernel
theorem dX6_change_0 : decode cX6_change 0 = .ok (.aload_n 0, 1) := by decide +kernel
theorem dX6_change_1 : decode cX6_change 1 = .ok (.getfield 12, 3) := by decide +kernel
theorem dX6_change_4 : decode cX6_change 4 = .ok (.getfield 85, 3) := by decide +kernel
theorem dX6_change_7 : decode cX6_change 7 = .ok (.iload_n 2, 1) := by decide +kernel
theorem dX6_change_8 : decode cX6_change 8 = .ok (.invokevirtual 96, 3) := by decide +kernel
theorem dX6_change_11 : decode cX6_change 11 = .ok (.astore 4, 2) := by decide +kernel
theorem dX6_change_13 : decode cX6_change 13 = .ok (.aload_n 0, 1) := by decide +kernel
theorem dX6_change_14 : decode cX6_change 14 = .ok (.getfield 12, 3) := by decide +kernel
theorem dX6_change_17 : decode cX6_change 17 = .ok (.getfield 85, 3) := by decide +kernel
theorem dX6_change_20 : decode cX6_change 20 = .ok (.iload_n 1, 1) := by decide +kernel
theorem dX6_change_21 : decode cX6_change 21 = .ok (.invokevirtual 92, 3) := by decide +kernel
theorem dX6_change_24 : decode cX6_change 24 = .ok (.ifCond .eq 17, 3) := by decide +kernel
theorem dX6_change_27 : decode cX6_change 27 = .ok (.aload 4, 2) := by decide +kernel
theorem dX6_change_29 : decode cX6_change 29 = .ok (.ifnull 12, 3) := by decide +kernel
theorem dX6_change_32 : decode cX6_change 32 = .ok (.aload_n 0, 1) := by decide +kernel
theorem dX6_change_33 : decode cX6_change 33 = .ok (.iload_n 2, 1) := by decide +kernel
theorem dX6_change_34 : decode cX6_change 34 = .ok (.iload_n 3, 1) := by decide +kernel
theorem dX6_change_35 : decode cX6_change 35 = .ok (.invokevirtual 97, 3) := by decide +kernel
theorem dX6_change_38 : decode cX6_change 38 = .ok (.ifCond .ne 10, 3) := by decide +kernel
theorem dX6_change_41 : decode cX6_change 41 = .ok (.aload_n 0, 1) := by decide +kernel
theorem dX6_change_42 : decode cX6_change 42 = .ok (.ldc 59, 2) := by decide +kernel
theorem dX6_change_44 : decode cX6_change 44 = .ok (.invokevirtual 60, 3) := by decide +kernel
theorem dX6_change_47 : decode cX6_change 47 = .ok (.ireturn, 1) := by decide +kernel
theorem dX6_change_48 : decode cX6_change 48 = .ok (.aload 4, 2) := by decide +kernel
theorem dX6_change_50 : decode cX6_change 50 = .ok (.iload_n 1, 1) := by decide +kernel
theorem dX6_change_51 : decode cX6_change 51 = .ok (.iaload, 1) := by decide +kernel
theorem dX6_change_52 : decode cX6_change 52 = .ok (.istore 5, 2) := by decide +kernel
theorem dX6_change_54 : decode cX6_change 54 = .ok (.aload 4, 2) := by decide +kernel
theorem dX6_change_56 : decode cX6_change 56 = .ok (.iload_n 1, 1) := by decide +kernel
theorem dX6_change_57 : decode cX6_change 57 = .ok (.iload_n 3, 1) := by decide +kernel
theorem dX6_change_58 : decode cX6_change 58 = .ok (.iastore, 1) := by decide +kernel
theorem dX6_change_59 : decode cX6_change 59 = .ok (.iload 5, 2) := by decide +kernel
theorem dX6_change_61 : decode cX6_change 61 = .ok (.ireturn, 1) := by decide +kernel
theorem dX6_tie_0 : decode cX6_tie 0 = .ok (.aload_n 0, 1) := by decide +kernel
theorem dX6_tie_1 : decode cX6_tie 1 = .ok (.getfield 12, 3) := by decide +kernel
theorem dX6_tie_4 : decode cX6_tie 4 = .ok (.getfield 85, 3) := by decide +kernel
theorem dX6_tie_7 : decode cX6_tie 7 = .ok (.iload_n 1, 1) := by decide +kernel
theorem dX6_tie_8 : decode cX6_tie 8 = .ok (.iload_n 2, 1) := by decide +kernel
theorem dX6_tie_9 : decode cX6_tie 9 = .ok (.invokevirtual 100, 3) := by decide +kernel
theorem dX6_tie_12 : decode cX6_tie 12 = .ok (.ifCond .ne 10, 3) := by decide +kernel
theorem dX6_tie_15 : decode cX6_tie 15 = .ok (.aload_n 0, 1) := by decide +kernel
theorem dX6_tie_16 : decode cX6_tie 16 = .ok (.ldc 59, 2) := by decide +kernel
theorem dX6_tie_18 : decode cX6_tie 18 = .ok (.invokevirtual 60, 3) := by decide +kernel
theorem dX6_tie_21 : decode cX6_tie 21 = .ok (.ireturn, 1) := by decide +kernel
theorem dX6_tie_22 : decode cX6_tie 22 = .ok (.aload_n 0, 1) := by decide +kernel
theorem dX6_tie_23 : decode cX6_tie 23 = .ok (.getfield 12, 3) := by decide +kernel
theorem dX6_tie_26 : decode cX6_tie 26 = .ok (.getfield 85, 3) := by decide +kernel
theorem dX6_tie_29 : decode cX6_tie 29 = .ok (.iload_n 1, 1) := by decide +kernel
theorem dX6_tie_30 : decode cX6_tie 30 = .ok (.iload_n 2, 1) := by decide +kernel
theorem dX6_tie_31 : decode cX6_tie 31 = .ok (.invokevirtual 103, 3) := by decide +kernel
theorem dX6_tie_34 : decode cX6_tie 34 = .ok (.ifCond .eq 7, 3) := by decide +kernel
theorem dX6_tie_37 : decode cX6_tie 37 = .ok (.iconst 1, 1) := by decide +kernel
theorem dX6_tie_38 : decode cX6_tie 38 = .ok (.goto 4, 3) := by decide +kernel
theorem dX6_tie_41 : decode cX6_tie 41 = .ok (.iconst 0, 1) := by decide +kernel
theorem dX6_tie_42 : decode cX6_tie 42 = .ok (.istore 4, 2) := by decide +kernel
theorem dX6_tie_44 : decode cX6_tie 44 = .ok (.aload_n 0, 1) := by decide +kernel
theorem dX6_tie_45 : decode cX6_tie 45 = .ok (.getfield 12, 3) := by decide +kernel
theorem dX6_tie_48 : decode cX6_tie 48 = .ok (.getfield 85, 3) := by decide +kernel
theorem dX6_tie_51 : decode cX6_tie 51 = .ok (.iload_n 1, 1) := by decide +kernel
theorem dX6_tie_52 : decode cX6_tie 52 = .ok (.iload_n 2, 1) := by decide +kernel
theorem dX6_tie_53 : decode cX6_tie 53 = .ok (.iload_n 3, 1) := by decide +kernel
theorem dX6_tie_54 : decode cX6_tie 54 = .ok (.invokevirtual 106, 3) := by decide +kernel
theorem dX6_tie_57 : decode cX6_tie 57 = .ok (.iload 4, 2) := by decide +kernel
theorem dX6_tie_59 : decode cX6_tie 59 = .ok (.ireturn, 1) := by decide +kernel
theorem dX6_ties_0 : decode cX6_ties 0 = .ok (.aload_n 0, 1) := by decide +kernel
theorem dX6_ties_1 : decode cX6_ties 1 = .ok (.getfield 12, 3) := by decide +kernel
theorem dX6_ties_4 : decode cX6_ties 4 = .ok (.getfield 85, 3) := by decide +kernel
theorem dX6_ties_7 : decode cX6_ties 7 = .ok (.iload_n 1, 1) := by decide +kernel
theorem dX6_ties_8 : decode cX6_ties 8 = .ok (.invokevirtual 92, 3) := by decide +kernel
theorem dX6_ties_11 : decode cX6_ties 11 = .ok (.ifCond .ne 10, 3) := by decide +kernel
theorem dX6_ties_14 : decode cX6_ties 14 = .ok (.aload_n 0, 1) := by decide +kernel
theorem dX6_ties_15 : decode cX6_ties 15 = .ok (.ldc 59, 2) := by decide +kernel
theorem dX6_ties_17 : decode cX6_ties 17 = .ok (.invokevirtual 60, 3) := by decide +kernel
theorem dX6_ties_20 : decode cX6_ties 20 = .ok (.ireturn, 1) := by decide +kernel
theorem dX6_ties_21 : decode cX6_ties 21 = .ok (.aload_n 0, 1) := by decide +kernel
theorem dX6_ties_22 : decode cX6_ties 22 = .ok (.getfield 12, 3) := by decide +kernel
theorem dX6_ties_25 : decode cX6_ties 25 = .ok (.getfield 85, 3) := by decide +kernel
theorem dX6_ties_28 : decode cX6_ties 28 = .ok (.getfield 110, 3) := by decide +kernel
theorem dX6_ties_31 : decode cX6_ties 31 = .ok (.iload_n 1, 1) := by decide +kernel
theorem dX6_ties_32 : decode cX6_ties 32 = .ok (.iaload, 1) := by decide +kernel
theorem dX6_ties_33 : decode cX6_ties 33 = .ok (.ireturn, 1) := by decide +kernel
theorem dX6_puts_0 : decode cX6_puts 0 = .ok (.aload_n 0, 1) := by decide +kernel
theorem dX6_puts_1 : decode cX6_puts 1 = .ok (.getfield 12, 3) := by decide +kernel
theorem dX6_puts_4 : decode cX6_puts 4 = .ok (.getfield 64, 3) := by decide +kernel
theorem dX6_puts_7 : decode cX6_puts 7 = .ok (.iload_n 1, 1) := by decide +kernel
theorem dX6_puts_8 : decode cX6_puts 8 = .ok (.invokevirtual 78, 3) := by decide +kernel
theorem dX6_puts_11 : decode cX6_puts 11 = .ok (.ifCond .eq 10, 3) := by decide +kernel
theorem dX6_puts_14 : decode cX6_puts 14 = .ok (.iload_n 2, 1) := by decide +kernel
theorem dX6_puts_15 : decode cX6_puts 15 = .ok (.invokestatic 113, 3) := by decide +kernel
theorem dX6_puts_18 : decode cX6_puts 18 = .ok (.ifCond .ne 10, 3) := by decide +kernel
theorem dX6_puts_21 : decode cX6_puts 21 = .ok (.aload_n 0, 1) := by decide +kernel
theorem dX6_puts_22 : decode cX6_puts 22 = .ok (.ldc 59, 2) := by decide +kernel
theorem dX6_puts_24 : decode cX6_puts 24 = .ok (.invokevirtual 60, 3) := by decide +kernel
theorem dX6_puts_27 : decode cX6_puts 27 = .ok (.ireturn, 1) := by decide +kernel
theorem dX6_puts_28 : decode cX6_puts 28 = .ok (.aload_n 0, 1) := by decide +kernel
theorem dX6_puts_29 : decode cX6_puts 29 = .ok (.getfield 12, 3) := by decide +kernel
theorem dX6_puts_32 : decode cX6_puts 32 = .ok (.getfield 64, 3) := by decide +kernel
theorem dX6_puts_35 : decode cX6_puts 35 = .ok (.iload_n 1, 1) := by decide +kernel
theorem dX6_puts_36 : decode cX6_puts 36 = .ok (.iload_n 2, 1) := by decide +kernel
theorem dX6_puts_37 : decode cX6_puts 37 = .ok (.invokevirtual 116, 3) := by decide +kernel
theorem dX6_puts_40 : decode cX6_puts 40 = .ok (.ireturn, 1) := by decide +kernel
theorem dX6_says_0 : decode cX6_says 0 = .ok (.aload_n 0, 1) := by decide +kernel
theorem dX6_says_1 : decode cX6_says 1 = .ok (.getfield 12, 3) := by decide +kernel
theorem dX6_says_4 : decode cX6_says 4 = .ok (.getfield 85, 3) := by decide +kernel
theorem dX6_says_7 : decode cX6_says 7 = .ok (.iload_n 1, 1) := by decide +kernel
theorem dX6_says_8 : decode cX6_says 8 = .ok (.invokevirtual 92, 3) := by decide +kernel
theorem dX6_says_11 : decode cX6_says 11 = .ok (.ifCond .ne 10, 3) := by decide +kernel
theorem dX6_says_14 : decode cX6_says 14 = .ok (.aload_n 0, 1) := by decide +kernel
theorem dX6_says_15 : decode cX6_says 15 = .ok (.ldc 59, 2) := by decide +kernel
theorem dX6_says_17 : decode cX6_says 17 = .ok (.invokevirtual 60, 3) := by decide +kernel
theorem dX6_says_20 : decode cX6_says 20 = .ok (.ireturn, 1) := by decide +kernel
theorem dX6_says_21 : decode cX6_says 21 = .ok (.aload_n 0, 1) := by decide +kernel
theorem dX6_says_22 : decode cX6_says 22 = .ok (.getfield 12, 3) := by decide +kernel
theorem dX6_says_25 : decode cX6_says 25 = .ok (.getfield 85, 3) := by decide +kernel
theorem dX6_says_28 : decode cX6_says 28 = .ok (.iload_n 1, 1) := by decide +kernel
theorem dX6_says_29 : decode cX6_says 29 = .ok (.invokevirtual 120, 3) := by decide +kernel
theorem dX6_says_32 : decode cX6_says 32 = .ok (.ireturn, 1) := by decide +kernel
theorem dX6_read_0 : decode cX6_read 0 = .ok (.aload_n 0, 1) := by decide +kernel
theorem dX6_read_1 : decode cX6_read 1 = .ok (.getfield 12, 3) := by decide +kernel
theorem dX6_read_4 : decode cX6_read 4 = .ok (.getfield 85, 3) := by decide +kernel
theorem dX6_read_7 : decode cX6_read 7 = .ok (.iload_n 1, 1) := by decide +kernel
theorem dX6_read_8 : decode cX6_read 8 = .ok (.iload_n 2, 1) := by decide +kernel
theorem dX6_read_9 : decode cX6_read 9 = .ok (.invokevirtual 100, 3) := by decide +kernel
theorem dX6_read_12 : decode cX6_read 12 = .ok (.ifCond .eq 10, 3) := by decide +kernel
theorem dX6_read_15 : decode cX6_read 15 = .ok (.iload_n 3, 1) := by decide +kernel
theorem dX6_read_16 : decode cX6_read 16 = .ok (.invokestatic 113, 3) := by decide +kernel
theorem dX6_read_19 : decode cX6_read 19 = .ok (.ifCond .ne 10, 3) := by decide +kernel
theorem dX6_read_22 : decode cX6_read 22 = .ok (.aload_n 0, 1) := by decide +kernel
theorem dX6_read_23 : decode cX6_read 23 = .ok (.ldc 59, 2) := by decide +kernel
theorem dX6_read_25 : decode cX6_read 25 = .ok (.invokevirtual 60, 3) := by decide +kernel
theorem dX6_read_28 : decode cX6_read 28 = .ok (.ireturn, 1) := by decide +kernel
theorem dX6_read_29 : decode cX6_read 29 = .ok (.aload_n 0, 1) := by decide +kernel
theorem dX6_read_30 : decode cX6_read 30 = .ok (.getfield 12, 3) := by decide +kernel
theorem dX6_read_33 : decode cX6_read 33 = .ok (.iload_n 2, 1) := by decide +kernel
theorem dX6_read_34 : decode cX6_read 34 = .ok (.aload_n 0, 1) := by decide +kernel
theorem dX6_read_35 : decode cX6_read 35 = .ok (.getfield 12, 3) := by decide +kernel
theorem dX6_read_38 : decode cX6_read 38 = .ok (.iload_n 1, 1) := by decide +kernel
theorem dX6_read_39 : decode cX6_read 39 = .ok (.iload_n 3, 1) := by decide +kernel
theorem dX6_read_40 : decode cX6_read 40 = .ok (.invokevirtual 123, 3) := by decide +kernel
theorem dX6_read_43 : decode cX6_read 43 = .ok (.invokevirtual 123, 3) := by decide +kernel
theorem dX6_read_46 : decode cX6_read 46 = .ok (.ireturn, 1) := by decide +kernel
theorem dX6_send_0 : decode cX6_send 0 = .ok (.aload_n 0, 1) := by decide +kernel
theorem dX6_send_1 : decode cX6_send 1 = .ok (.getfield 12, 3) := by decide +kernel
theorem dX6_send_4 : decode cX6_send 4 = .ok (.getfield 85, 3) := by decide +kernel
theorem dX6_send_7 : decode cX6_send 7 = .ok (.iload_n 1, 1) := by decide +kernel
theorem dX6_send_8 : decode cX6_send 8 = .ok (.iload_n 2, 1) := by decide +kernel
theorem dX6_send_9 : decode cX6_send 9 = .ok (.invokevirtual 100, 3) := by decide +kernel
theorem dX6_send_12 : decode cX6_send 12 = .ok (.ifCond .eq 10, 3) := by decide +kernel
theorem dX6_send_15 : decode cX6_send 15 = .ok (.iload_n 3, 1) := by decide +kernel
theorem dX6_send_16 : decode cX6_send 16 = .ok (.invokestatic 113, 3) := by decide +kernel
theorem dX6_send_19 : decode cX6_send 19 = .ok (.ifCond .ne 10, 3) := by decide +kernel
theorem dX6_send_22 : decode cX6_send 22 = .ok (.aload_n 0, 1) := by decide +kernel
theorem dX6_send_23 : decode cX6_send 23 = .ok (.ldc 59, 2) := by decide +kernel
theorem dX6_send_25 : decode cX6_send 25 = .ok (.invokevirtual 60, 3) := by decide +kernel
theorem dX6_send_28 : decode cX6_send 28 = .ok (.ireturn, 1) := by decide +kernel
theorem dX6_send_29 : decode cX6_send 29 = .ok (.aload_n 0, 1) := by decide +kernel
theorem dX6_send_30 : decode cX6_send 30 = .ok (.getfield 12, 3) := by decide +kernel
theorem dX6_send_33 : decode cX6_send 33 = .ok (.iload_n 1, 1) := by decide +kernel
theorem dX6_send_34 : decode cX6_send 34 = .ok (.iload_n 2, 1) := by decide +kernel
theorem dX6_send_35 : decode cX6_send 35 = .ok (.iload_n 3, 1) := by decide +kernel
theorem dX6_send_36 : decode cX6_send 36 = .ok (.invokevirtual 126, 3) := by decide +kernel
theorem dX6_send_39 : decode cX6_send 39 = .ok (.istore 4, 2) := by decide +kernel
theorem dX6_send_41 : decode cX6_send 41 = .ok (.iload 4, 2) := by decide +kernel
theorem dX6_send_43 : decode cX6_send 43 = .ok (.ifCond .ge 12, 3) := by decide +kernel
theorem dX6_send_46 : decode cX6_send 46 = .ok (.aload_n 0, 1) := by decide +kernel
theorem dX6_send_47 : decode cX6_send 47 = .ok (.ldc 130, 2) := by decide +kernel
theorem dX6_send_49 : decode cX6_send 49 = .ok (.invokevirtual 60, 3) := by decide +kernel
theorem dX6_send_52 : decode cX6_send 52 = .ok (.goto 5, 3) := by decide +kernel
theorem dX6_send_55 : decode cX6_send 55 = .ok (.iload 4, 2) := by decide +kernel
theorem dX6_send_57 : decode cX6_send 57 = .ok (.ireturn, 1) := by decide +kernel
theorem dX6_years_0 : decode cX6_years 0 = .ok (.iload_n 1, 1) := by decide +kernel
theorem dX6_years_1 : decode cX6_years 1 = .ok (.iconst 1, 1) := by decide +kernel
theorem dX6_years_2 : decode cX6_years 2 = .ok (.if_icmp .lt 9, 3) := by decide +kernel
theorem dX6_years_5 : decode cX6_years 5 = .ok (.iload_n 1, 1) := by decide +kernel
theorem dX6_years_6 : decode cX6_years 6 = .ok (.bipush 30, 2) := by decide +kernel
theorem dX6_years_8 : decode cX6_years 8 = .ok (.if_icmp .le 10, 3) := by decide +kernel
theorem dX6_years_11 : decode cX6_years 11 = .ok (.aload_n 0, 1) := by decide +kernel
theorem dX6_years_12 : decode cX6_years 12 = .ok (.ldc 59, 2) := by decide +kernel
theorem dX6_years_14 : decode cX6_years 14 = .ok (.invokevirtual 60, 3) := by decide +kernel
theorem dX6_years_17 : decode cX6_years 17 = .ok (.ireturn, 1) := by decide +kernel
theorem dX6_years_18 : decode cX6_years 18 = .ok (.aload_n 0, 1) := by decide +kernel
theorem dX6_years_19 : decode cX6_years 19 = .ok (.getfield 12, 3) := by decide +kernel
theorem dX6_years_22 : decode cX6_years 22 = .ok (.iload_n 1, 1) := by decide +kernel
theorem dX6_years_23 : decode cX6_years 23 = .ok (.invokevirtual 131, 3) := by decide +kernel
theorem dX6_years_26 : decode cX6_years 26 = .ok (.ifCond .ne 10, 3) := by decide +kernel
theorem dX6_years_29 : decode cX6_years 29 = .ok (.aload_n 0, 1) := by decide +kernel
theorem dX6_years_30 : decode cX6_years 30 = .ok (.ldc 130, 2) := by decide +kernel
theorem dX6_years_32 : decode cX6_years 32 = .ok (.invokevirtual 60, 3) := by decide +kernel
theorem dX6_years_35 : decode cX6_years 35 = .ok (.ireturn, 1) := by decide +kernel
theorem dX6_years_36 : decode cX6_years 36 = .ok (.aload_n 0, 1) := by decide +kernel
theorem dX6_years_37 : decode cX6_years 37 = .ok (.getfield 12, 3) := by decide +kernel
theorem dX6_years_40 : decode cX6_years 40 = .ok (.getfield 134, 3) := by decide +kernel
theorem dX6_years_43 : decode cX6_years 43 = .ok (.istore_n 2, 1) := by decide +kernel
theorem dX6_years_44 : decode cX6_years 44 = .ok (.aload_n 0, 1) := by decide +kernel
theorem dX6_years_45 : decode cX6_years 45 = .ok (.getfield 12, 3) := by decide +kernel
theorem dX6_years_48 : decode cX6_years 48 = .ok (.iload_n 1, 1) := by decide +kernel
theorem dX6_years_49 : decode cX6_years 49 = .ok (.invokevirtual 138, 3) := by decide +kernel
theorem dX6_years_52 : decode cX6_years 52 = .ok (.aload_n 0, 1) := by decide +kernel
theorem dX6_years_53 : decode cX6_years 53 = .ok (.getfield 12, 3) := by decide +kernel
theorem dX6_years_56 : decode cX6_years 56 = .ok (.getfield 134, 3) := by decide +kernel
theorem dX6_years_59 : decode cX6_years 59 = .ok (.iload_n 2, 1) := by decide +kernel
theorem dX6_years_60 : decode cX6_years 60 = .ok (.isub, 1) := by decide +kernel
theorem dX6_years_61 : decode cX6_years 61 = .ok (.ireturn, 1) := by decide +kernel
theorem dX6_now_0 : decode cX6_now 0 = .ok (.iload_n 1, 1) := by decide +kernel
theorem dX6_now_1 : decode cX6_now 1 = .ok (.tableswitch 130 0 5 #[39, 47, 55, 66, 87, 108], 39) := by decide +kernel
theorem dX6_now_40 : decode cX6_now 40 = .ok (.aload_n 0, 1) := by decide +kernel
theorem dX6_now_41 : decode cX6_now 41 = .ok (.getfield 12, 3) := by decide +kernel
theorem dX6_now_44 : decode cX6_now 44 = .ok (.getfield 142, 3) := by decide +kernel
theorem dX6_now_47 : decode cX6_now 47 = .ok (.ireturn, 1) := by decide +kernel
theorem dX6_now_48 : decode cX6_now 48 = .ok (.aload_n 0, 1) := by decide +kernel
theorem dX6_now_49 : decode cX6_now 49 = .ok (.getfield 12, 3) := by decide +kernel
theorem dX6_now_52 : decode cX6_now 52 = .ok (.getfield 134, 3) := by decide +kernel
theorem dX6_now_55 : decode cX6_now 55 = .ok (.ireturn, 1) := by decide +kernel
theorem dX6_now_56 : decode cX6_now 56 = .ok (.aload_n 0, 1) := by decide +kernel
theorem dX6_now_57 : decode cX6_now 57 = .ok (.getfield 12, 3) := by decide +kernel
theorem dX6_now_60 : decode cX6_now 60 = .ok (.getfield 85, 3) := by decide +kernel
theorem dX6_now_63 : decode cX6_now 63 = .ok (.invokevirtual 145, 3) := by decide +kernel
theorem dX6_now_66 : decode cX6_now 66 = .ok (.ireturn, 1) := by decide +kernel
theorem dX6_now_67 : decode cX6_now 67 = .ok (.aload_n 0, 1) := by decide +kernel
theorem dX6_now_68 : decode cX6_now 68 = .ok (.getfield 12, 3) := by decide +kernel
theorem dX6_now_71 : decode cX6_now 71 = .ok (.getfield 85, 3) := by decide +kernel
theorem dX6_now_74 : decode cX6_now 74 = .ok (.aload_n 0, 1) := by decide +kernel
theorem dX6_now_75 : decode cX6_now 75 = .ok (.getfield 12, 3) := by decide +kernel
theorem dX6_now_78 : decode cX6_now 78 = .ok (.getfield 85, 3) := by decide +kernel
theorem dX6_now_81 : decode cX6_now 81 = .ok (.getfield 149, 3) := by decide +kernel
theorem dX6_now_84 : decode cX6_now 84 = .ok (.invokevirtual 152, 3) := by decide +kernel
theorem dX6_now_87 : decode cX6_now 87 = .ok (.ireturn, 1) := by decide +kernel
theorem dX6_now_88 : decode cX6_now 88 = .ok (.aload_n 0, 1) := by decide +kernel
theorem dX6_now_89 : decode cX6_now 89 = .ok (.getfield 12, 3) := by decide +kernel
theorem dX6_now_92 : decode cX6_now 92 = .ok (.getfield 85, 3) := by decide +kernel
theorem dX6_now_95 : decode cX6_now 95 = .ok (.aload_n 0, 1) := by decide +kernel
theorem dX6_now_96 : decode cX6_now 96 = .ok (.getfield 12, 3) := by decide +kernel
theorem dX6_now_99 : decode cX6_now 99 = .ok (.getfield 85, 3) := by decide +kernel
theorem dX6_now_102 : decode cX6_now 102 = .ok (.getfield 156, 3) := by decide +kernel
theorem dX6_now_105 : decode cX6_now 105 = .ok (.invokevirtual 152, 3) := by decide +kernel
theorem dX6_now_108 : decode cX6_now 108 = .ok (.ireturn, 1) := by decide +kernel
theorem dX6_now_109 : decode cX6_now 109 = .ok (.aload_n 0, 1) := by decide +kernel
theorem dX6_now_110 : decode cX6_now 110 = .ok (.getfield 12, 3) := by decide +kernel
theorem dX6_now_113 : decode cX6_now 113 = .ok (.getfield 85, 3) := by decide +kernel
theorem dX6_now_116 : decode cX6_now 116 = .ok (.invokevirtual 159, 3) := by decide +kernel
theorem dX6_now_119 : decode cX6_now 119 = .ok (.aload_n 0, 1) := by decide +kernel
theorem dX6_now_120 : decode cX6_now 120 = .ok (.getfield 12, 3) := by decide +kernel
theorem dX6_now_123 : decode cX6_now 123 = .ok (.getfield 64, 3) := by decide +kernel
theorem dX6_now_126 : decode cX6_now 126 = .ok (.invokevirtual 162, 3) := by decide +kernel
theorem dX6_now_129 : decode cX6_now 129 = .ok (.iadd, 1) := by decide +kernel
theorem dX6_now_130 : decode cX6_now 130 = .ok (.ireturn, 1) := by decide +kernel
theorem dX6_now_131 : decode cX6_now 131 = .ok (.aload_n 0, 1) := by decide +kernel
theorem dX6_now_132 : decode cX6_now 132 = .ok (.ldc 59, 2) := by decide +kernel
theorem dX6_now_134 : decode cX6_now 134 = .ok (.invokevirtual 60, 3) := by decide +kernel
theorem dX6_now_137 : decode cX6_now 137 = .ok (.ireturn, 1) := by decide +kernel
theorem dX6_who_0 : decode cX6_who 0 = .ok (.iload_n 1, 1) := by decide +kernel
theorem dX6_who_1 : decode cX6_who 1 = .ok (.invokestatic 165, 3) := by decide +kernel
theorem dX6_who_4 : decode cX6_who 4 = .ok (.ifCond .ne 10, 3) := by decide +kernel
theorem dX6_who_7 : decode cX6_who 7 = .ok (.aload_n 0, 1) := by decide +kernel
theorem dX6_who_8 : decode cX6_who 8 = .ok (.ldc 59, 2) := by decide +kernel
theorem dX6_who_10 : decode cX6_who 10 = .ok (.invokevirtual 60, 3) := by decide +kernel
theorem dX6_who_13 : decode cX6_who 13 = .ok (.ireturn, 1) := by decide +kernel
theorem dX6_who_14 : decode cX6_who 14 = .ok (.aload_n 0, 1) := by decide +kernel
theorem dX6_who_15 : decode cX6_who 15 = .ok (.getfield 12, 3) := by decide +kernel
theorem dX6_who_18 : decode cX6_who 18 = .ok (.getfield 85, 3) := by decide +kernel
theorem dX6_who_21 : decode cX6_who 21 = .ok (.iload_n 1, 1) := by decide +kernel
theorem dX6_who_22 : decode cX6_who 22 = .ok (.invokevirtual 168, 3) := by decide +kernel
theorem dX6_who_25 : decode cX6_who 25 = .ok (.ireturn, 1) := by decide +kernel
theorem dX6_ahead_0 : decode cX6_ahead 0 = .ok (.iload_n 1, 1) := by decide +kernel
theorem dX6_ahead_1 : decode cX6_ahead 1 = .ok (.invokestatic 171, 3) := by decide +kernel
theorem dX6_ahead_4 : decode cX6_ahead 4 = .ok (.ifCond .eq 23, 3) := by decide +kernel
theorem dX6_ahead_7 : decode cX6_ahead 7 = .ok (.iload_n 2, 1) := by decide +kernel
theorem dX6_ahead_8 : decode cX6_ahead 8 = .ok (.ifCond .lt 19, 3) := by decide +kernel
theorem dX6_ahead_11 : decode cX6_ahead 11 = .ok (.iload_n 2, 1) := by decide +kernel
theorem dX6_ahead_12 : decode cX6_ahead 12 = .ok (.iconst 3, 1) := by decide +kernel
theorem dX6_ahead_13 : decode cX6_ahead 13 = .ok (.aload_n 0, 1) := by decide +kernel
theorem dX6_ahead_14 : decode cX6_ahead 14 = .ok (.getfield 12, 3) := by decide +kernel
theorem dX6_ahead_17 : decode cX6_ahead 17 = .ok (.getfield 85, 3) := by decide +kernel
theorem dX6_ahead_20 : decode cX6_ahead 20 = .ok (.getfield 174, 3) := by decide +kernel
theorem dX6_ahead_23 : decode cX6_ahead 23 = .ok (.iadd, 1) := by decide +kernel
theorem dX6_ahead_24 : decode cX6_ahead 24 = .ok (.if_icmp .lt 10, 3) := by decide +kernel
theorem dX6_ahead_27 : decode cX6_ahead 27 = .ok (.aload_n 0, 1) := by decide +kernel
theorem dX6_ahead_28 : decode cX6_ahead 28 = .ok (.ldc 59, 2) := by decide +kernel
theorem dX6_ahead_30 : decode cX6_ahead 30 = .ok (.invokevirtual 60, 3) := by decide +kernel
theorem dX6_ahead_33 : decode cX6_ahead 33 = .ok (.ireturn, 1) := by decide +kernel
theorem dX6_ahead_34 : decode cX6_ahead 34 = .ok (.aload_n 0, 1) := by decide +kernel
theorem dX6_ahead_35 : decode cX6_ahead 35 = .ok (.getfield 12, 3) := by decide +kernel
theorem dX6_ahead_38 : decode cX6_ahead 38 = .ok (.iload_n 1, 1) := by decide +kernel
theorem dX6_ahead_39 : decode cX6_ahead 39 = .ok (.invokevirtual 131, 3) := by decide +kernel
theorem dX6_ahead_42 : decode cX6_ahead 42 = .ok (.ifCond .ne 10, 3) := by decide +kernel
theorem dX6_ahead_45 : decode cX6_ahead 45 = .ok (.aload_n 0, 1) := by decide +kernel
theorem dX6_ahead_46 : decode cX6_ahead 46 = .ok (.ldc 130, 2) := by decide +kernel
theorem dX6_ahead_48 : decode cX6_ahead 48 = .ok (.invokevirtual 60, 3) := by decide +kernel
theorem dX6_ahead_51 : decode cX6_ahead 51 = .ok (.ireturn, 1) := by decide +kernel
theorem dX6_ahead_52 : decode cX6_ahead 52 = .ok (.aload_n 0, 1) := by decide +kernel
theorem dX6_ahead_53 : decode cX6_ahead 53 = .ok (.getfield 16, 3) := by decide +kernel
theorem dX6_ahead_56 : decode cX6_ahead 56 = .ok (.aload_n 0, 1) := by decide +kernel
theorem dX6_ahead_57 : decode cX6_ahead 57 = .ok (.getfield 12, 3) := by decide +kernel
theorem dX6_ahead_60 : decode cX6_ahead 60 = .ok (.invokevirtual 177, 3) := by decide +kernel
theorem dX6_ahead_63 : decode cX6_ahead 63 = .ok (.aload_n 0, 1) := by decide +kernel
theorem dX6_ahead_64 : decode cX6_ahead 64 = .ok (.getfield 16, 3) := by decide +kernel
theorem dX6_ahead_67 : decode cX6_ahead 67 = .ok (.iload_n 1, 1) := by decide +kernel
theorem dX6_ahead_68 : decode cX6_ahead 68 = .ok (.invokevirtual 138, 3) := by decide +kernel
theorem dX6_ahead_71 : decode cX6_ahead 71 = .ok (.iload_n 2, 1) := by decide +kernel
theorem dX6_ahead_72 : decode cX6_ahead 72 = .ok (.tableswitch 63 0 2 #[28, 44, 52], 28) := by decide +kernel
theorem dX6_ahead_100 : decode cX6_ahead 100 = .ok (.aload_n 0, 1) := by decide +kernel
theorem dX6_ahead_101 : decode cX6_ahead 101 = .ok (.getfield 16, 3) := by decide +kernel
theorem dX6_ahead_104 : decode cX6_ahead 104 = .ok (.getfield 134, 3) := by decide +kernel
theorem dX6_ahead_107 : decode cX6_ahead 107 = .ok (.aload_n 0, 1) := by decide +kernel
theorem dX6_ahead_108 : decode cX6_ahead 108 = .ok (.getfield 12, 3) := by decide +kernel
theorem dX6_ahead_111 : decode cX6_ahead 111 = .ok (.getfield 134, 3) := by decide +kernel
theorem dX6_ahead_114 : decode cX6_ahead 114 = .ok (.isub, 1) := by decide +kernel
theorem dX6_ahead_115 : decode cX6_ahead 115 = .ok (.ireturn, 1) := by decide +kernel
theorem dX6_ahead_116 : decode cX6_ahead 116 = .ok (.aload_n 0, 1) := by decide +kernel
theorem dX6_ahead_117 : decode cX6_ahead 117 = .ok (.getfield 16, 3) := by decide +kernel
theorem dX6_ahead_120 : decode cX6_ahead 120 = .ok (.invokevirtual 181, 3) := by decide +kernel
theorem dX6_ahead_123 : decode cX6_ahead 123 = .ok (.ireturn, 1) := by decide +kernel
theorem dX6_ahead_124 : decode cX6_ahead 124 = .ok (.aload_n 0, 1) := by decide +kernel
theorem dX6_ahead_125 : decode cX6_ahead 125 = .ok (.getfield 16, 3) := by decide +kernel
theorem dX6_ahead_128 : decode cX6_ahead 128 = .ok (.getfield 85, 3) := by decide +kernel
theorem dX6_ahead_131 : decode cX6_ahead 131 = .ok (.invokevirtual 184, 3) := by decide +kernel
theorem dX6_ahead_134 : decode cX6_ahead 134 = .ok (.ireturn, 1) := by decide +kernel
theorem dX6_ahead_135 : decode cX6_ahead 135 = .ok (.aload_n 0, 1) := by decide +kernel
theorem dX6_ahead_136 : decode cX6_ahead 136 = .ok (.getfield 16, 3) := by decide +kernel
theorem dX6_ahead_139 : decode cX6_ahead 139 = .ok (.getfield 85, 3) := by decide +kernel
theorem dX6_ahead_142 : decode cX6_ahead 142 = .ok (.getfield 156, 3) := by decide +kernel
theorem dX6_ahead_145 : decode cX6_ahead 145 = .ok (.iload_n 2, 1) := by decide +kernel
theorem dX6_ahead_146 : decode cX6_ahead 146 = .ok (.iconst 3, 1) := by decide +kernel
theorem dX6_ahead_147 : decode cX6_ahead 147 = .ok (.isub, 1) := by decide +kernel
theorem dX6_ahead_148 : decode cX6_ahead 148 = .ok (.iaload, 1) := by decide +kernel
theorem dX6_ahead_149 : decode cX6_ahead 149 = .ok (.ireturn, 1) := by decide +kernel
theorem dX6_when_0 : decode cX6_when 0 = .ok (.aload_n 0, 1) := by decide +kernel
theorem dX6_when_1 : decode cX6_when 1 = .ok (.getfield 12, 3) := by decide +kernel
theorem dX6_when_4 : decode cX6_when 4 = .ok (.getfield 85, 3) := by decide +kernel
theorem dX6_when_7 : decode cX6_when 7 = .ok (.iload_n 1, 1) := by decide +kernel
theorem dX6_when_8 : decode cX6_when 8 = .ok (.invokevirtual 92, 3) := by decide +kernel
theorem dX6_when_11 : decode cX6_when 11 = .ok (.ifCond .eq 10, 3) := by decide +kernel
theorem dX6_when_14 : decode cX6_when 14 = .ok (.iload_n 2, 1) := by decide +kernel
theorem dX6_when_15 : decode cX6_when 15 = .ok (.invokestatic 165, 3) := by decide +kernel
theorem dX6_when_18 : decode cX6_when 18 = .ok (.ifCond .ne 10, 3) := by decide +kernel
theorem dX6_when_21 : decode cX6_when 21 = .ok (.aload_n 0, 1) := by decide +kernel
theorem dX6_when_22 : decode cX6_when 22 = .ok (.ldc 59, 2) := by decide +kernel
theorem dX6_when_24 : decode cX6_when 24 = .ok (.invokevirtual 60, 3) := by decide +kernel
theorem dX6_when_27 : decode cX6_when 27 = .ok (.ireturn, 1) := by decide +kernel
theorem dX6_when_28 : decode cX6_when 28 = .ok (.aload_n 0, 1) := by decide +kernel
theorem dX6_when_29 : decode cX6_when 29 = .ok (.getfield 12, 3) := by decide +kernel
theorem dX6_when_32 : decode cX6_when 32 = .ok (.bipush 60, 2) := by decide +kernel
theorem dX6_when_34 : decode cX6_when 34 = .ok (.invokevirtual 131, 3) := by decide +kernel
theorem dX6_when_37 : decode cX6_when 37 = .ok (.ifCond .ne 10, 3) := by decide +kernel
theorem dX6_when_40 : decode cX6_when 40 = .ok (.aload_n 0, 1) := by decide +kernel
theorem dX6_when_41 : decode cX6_when 41 = .ok (.ldc 130, 2) := by decide +kernel
theorem dX6_when_43 : decode cX6_when 43 = .ok (.invokevirtual 60, 3) := by decide +kernel
theorem dX6_when_46 : decode cX6_when 46 = .ok (.ireturn, 1) := by decide +kernel
theorem dX6_when_47 : decode cX6_when 47 = .ok (.aload_n 0, 1) := by decide +kernel
theorem dX6_when_48 : decode cX6_when 48 = .ok (.getfield 16, 3) := by decide +kernel
theorem dX6_when_51 : decode cX6_when 51 = .ok (.aload_n 0, 1) := by decide +kernel
theorem dX6_when_52 : decode cX6_when 52 = .ok (.getfield 12, 3) := by decide +kernel
theorem dX6_when_55 : decode cX6_when 55 = .ok (.invokevirtual 177, 3) := by decide +kernel
theorem dX6_when_58 : decode cX6_when 58 = .ok (.iconst 0, 1) := by decide +kernel
theorem dX6_when_59 : decode cX6_when 59 = .ok (.istore_n 3, 1) := by decide +kernel
theorem dX6_when_60 : decode cX6_when 60 = .ok (.iload_n 3, 1) := by decide +kernel
theorem dX6_when_61 : decode cX6_when 61 = .ok (.bipush 60, 2) := by decide +kernel
theorem dX6_when_63 : decode cX6_when 63 = .ok (.if_icmp .gt 38, 3) := by decide +kernel
theorem dX6_when_66 : decode cX6_when 66 = .ok (.aload_n 0, 1) := by decide +kernel
theorem dX6_when_67 : decode cX6_when 67 = .ok (.getfield 16, 3) := by decide +kernel
theorem dX6_when_70 : decode cX6_when 70 = .ok (.getfield 85, 3) := by decide +kernel
theorem dX6_when_73 : decode cX6_when 73 = .ok (.getfield 156, 3) := by decide +kernel
theorem dX6_when_76 : decode cX6_when 76 = .ok (.iload_n 1, 1) := by decide +kernel
theorem dX6_when_77 : decode cX6_when 77 = .ok (.iaload, 1) := by decide +kernel
theorem dX6_when_78 : decode cX6_when 78 = .ok (.iconst 1, 1) := by decide +kernel
theorem dX6_when_79 : decode cX6_when 79 = .ok (.iload_n 2, 1) := by decide +kernel
theorem dX6_when_80 : decode cX6_when 80 = .ok (.ishl, 1) := by decide +kernel
theorem dX6_when_81 : decode cX6_when 81 = .ok (.iand, 1) := by decide +kernel
theorem dX6_when_82 : decode cX6_when 82 = .ok (.ifCond .eq 5, 3) := by decide +kernel
theorem dX6_when_85 : decode cX6_when 85 = .ok (.iload_n 3, 1) := by decide +kernel
theorem dX6_when_86 : decode cX6_when 86 = .ok (.ireturn, 1) := by decide +kernel
theorem dX6_when_87 : decode cX6_when 87 = .ok (.aload_n 0, 1) := by decide +kernel
theorem dX6_when_88 : decode cX6_when 88 = .ok (.getfield 16, 3) := by decide +kernel
theorem dX6_when_91 : decode cX6_when 91 = .ok (.iconst 1, 1) := by decide +kernel
theorem dX6_when_92 : decode cX6_when 92 = .ok (.invokevirtual 138, 3) := by decide +kernel
theorem dX6_when_95 : decode cX6_when 95 = .ok (.iinc 3 1, 3) := by decide +kernel
theorem dX6_when_98 : decode cX6_when 98 = .ok (.goto (-38), 3) := by decide +kernel
theorem dX6_when_101 : decode cX6_when 101 = .ok (.aload_n 0, 1) := by decide +kernel
theorem dX6_when_102 : decode cX6_when 102 = .ok (.ldc 187, 2) := by decide +kernel
theorem dX6_when_104 : decode cX6_when 104 = .ok (.invokevirtual 60, 3) := by decide +kernel
theorem dX6_when_107 : decode cX6_when 107 = .ok (.ireturn, 1) := by decide +kernel
theorem dX6_without_0 : decode cX6_without 0 = .ok (.aload_n 0, 1) := by decide +kernel
theorem dX6_without_1 : decode cX6_without 1 = .ok (.getfield 12, 3) := by decide +kernel
theorem dX6_without_4 : decode cX6_without 4 = .ok (.getfield 64, 3) := by decide +kernel
theorem dX6_without_7 : decode cX6_without 7 = .ok (.iload_n 1, 1) := by decide +kernel
theorem dX6_without_8 : decode cX6_without 8 = .ok (.invokevirtual 78, 3) := by decide +kernel
theorem dX6_without_11 : decode cX6_without 11 = .ok (.ifCond .eq 17, 3) := by decide +kernel
theorem dX6_without_14 : decode cX6_without 14 = .ok (.iload_n 2, 1) := by decide +kernel
theorem dX6_without_15 : decode cX6_without 15 = .ok (.invokestatic 165, 3) := by decide +kernel
theorem dX6_without_18 : decode cX6_without 18 = .ok (.ifCond .eq 10, 3) := by decide +kernel
theorem dX6_without_21 : decode cX6_without 21 = .ok (.iload_n 3, 1) := by decide +kernel
theorem dX6_without_22 : decode cX6_without 22 = .ok (.invokestatic 171, 3) := by decide +kernel
theorem dX6_without_25 : decode cX6_without 25 = .ok (.ifCond .ne 10, 3) := by decide +kernel
theorem dX6_without_28 : decode cX6_without 28 = .ok (.aload_n 0, 1) := by decide +kernel
theorem dX6_without_29 : decode cX6_without 29 = .ok (.ldc 59, 2) := by decide +kernel
theorem dX6_without_31 : decode cX6_without 31 = .ok (.invokevirtual 60, 3) := by decide +kernel
theorem dX6_without_34 : decode cX6_without 34 = .ok (.ireturn, 1) := by decide +kernel
theorem dX6_without_35 : decode cX6_without 35 = .ok (.aload_n 0, 1) := by decide +kernel
theorem dX6_without_36 : decode cX6_without 36 = .ok (.getfield 12, 3) := by decide +kernel
theorem dX6_without_39 : decode cX6_without 39 = .ok (.iload_n 3, 1) := by decide +kernel
theorem dX6_without_40 : decode cX6_without 40 = .ok (.invokevirtual 131, 3) := by decide +kernel
theorem dX6_without_43 : decode cX6_without 43 = .ok (.ifCond .ne 10, 3) := by decide +kernel
theorem dX6_without_46 : decode cX6_without 46 = .ok (.aload_n 0, 1) := by decide +kernel
theorem dX6_without_47 : decode cX6_without 47 = .ok (.ldc 130, 2) := by decide +kernel
theorem dX6_without_49 : decode cX6_without 49 = .ok (.invokevirtual 60, 3) := by decide +kernel
theorem dX6_without_52 : decode cX6_without 52 = .ok (.ireturn, 1) := by decide +kernel
theorem dX6_without_53 : decode cX6_without 53 = .ok (.aload_n 0, 1) := by decide +kernel
theorem dX6_without_54 : decode cX6_without 54 = .ok (.iload_n 1, 1) := by decide +kernel
theorem dX6_without_55 : decode cX6_without 55 = .ok (.iload_n 2, 1) := by decide +kernel
theorem dX6_without_56 : decode cX6_without 56 = .ok (.iload_n 3, 1) := by decide +kernel
theorem dX6_without_57 : decode cX6_without 57 = .ok (.invokevirtual 188, 3) := by decide +kernel
theorem dX6_without_60 : decode cX6_without 60 = .ok (.ireturn, 1) := by decide +kernel
theorem dX6_added_0 : decode cX6_added 0 = .ok (.iload_n 1, 1) := by decide +kernel
theorem dX6_added_1 : decode cX6_added 1 = .ok (.invokestatic 165, 3) := by decide +kernel
theorem dX6_added_4 : decode cX6_added 4 = .ok (.ifCond .eq 10, 3) := by decide +kernel
theorem dX6_added_7 : decode cX6_added 7 = .ok (.iload_n 2, 1) := by decide +kernel
theorem dX6_added_8 : decode cX6_added 8 = .ok (.invokestatic 171, 3) := by decide +kernel
theorem dX6_added_11 : decode cX6_added 11 = .ok (.ifCond .ne 10, 3) := by decide +kernel
theorem dX6_added_14 : decode cX6_added 14 = .ok (.aload_n 0, 1) := by decide +kernel
theorem dX6_added_15 : decode cX6_added 15 = .ok (.ldc 59, 2) := by decide +kernel
theorem dX6_added_17 : decode cX6_added 17 = .ok (.invokevirtual 60, 3) := by decide +kernel
theorem dX6_added_20 : decode cX6_added 20 = .ok (.ireturn, 1) := by decide +kernel
theorem dX6_added_21 : decode cX6_added 21 = .ok (.aload_n 0, 1) := by decide +kernel
theorem dX6_added_22 : decode cX6_added 22 = .ok (.getfield 12, 3) := by decide +kernel
theorem dX6_added_25 : decode cX6_added 25 = .ok (.iload_n 2, 1) := by decide +kernel
theorem dX6_added_26 : decode cX6_added 26 = .ok (.invokevirtual 131, 3) := by decide +kernel
theorem dX6_added_29 : decode cX6_added 29 = .ok (.ifCond .ne 10, 3) := by decide +kernel
theorem dX6_added_32 : decode cX6_added 32 = .ok (.aload_n 0, 1) := by decide +kernel
theorem dX6_added_33 : decode cX6_added 33 = .ok (.ldc 130, 2) := by decide +kernel
theorem dX6_added_35 : decode cX6_added 35 = .ok (.invokevirtual 60, 3) := by decide +kernel
theorem dX6_added_38 : decode cX6_added 38 = .ok (.ireturn, 1) := by decide +kernel
theorem dX6_added_39 : decode cX6_added 39 = .ok (.aload_n 0, 1) := by decide +kernel
theorem dX6_added_40 : decode cX6_added 40 = .ok (.getfield 16, 3) := by decide +kernel
theorem dX6_added_43 : decode cX6_added 43 = .ok (.aload_n 0, 1) := by decide +kernel
theorem dX6_added_44 : decode cX6_added 44 = .ok (.getfield 12, 3) := by decide +kernel
theorem dX6_added_47 : decode cX6_added 47 = .ok (.invokevirtual 177, 3) := by decide +kernel
theorem dX6_added_50 : decode cX6_added 50 = .ok (.aload_n 0, 1) := by decide +kernel
theorem dX6_added_51 : decode cX6_added 51 = .ok (.getfield 16, 3) := by decide +kernel
theorem dX6_added_54 : decode cX6_added 54 = .ok (.iload_n 2, 1) := by decide +kernel
theorem dX6_added_55 : decode cX6_added 55 = .ok (.invokevirtual 138, 3) := by decide +kernel
theorem dX6_added_58 : decode cX6_added 58 = .ok (.aload_n 0, 1) := by decide +kernel
theorem dX6_added_59 : decode cX6_added 59 = .ok (.getfield 16, 3) := by decide +kernel
theorem dX6_added_62 : decode cX6_added 62 = .ok (.getfield 85, 3) := by decide +kernel
theorem dX6_added_65 : decode cX6_added 65 = .ok (.iload_n 1, 1) := by decide +kernel
theorem dX6_added_66 : decode cX6_added 66 = .ok (.invokevirtual 168, 3) := by decide +kernel
theorem dX6_added_69 : decode cX6_added 69 = .ok (.invokestatic 191, 3) := by decide +kernel
theorem dX6_added_72 : decode cX6_added 72 = .ok (.istore_n 3, 1) := by decide +kernel
theorem dX6_added_73 : decode cX6_added 73 = .ok (.iconst 0, 1) := by decide +kernel
theorem dX6_added_74 : decode cX6_added 74 = .ok (.istore 4, 2) := by decide +kernel
theorem dX6_added_76 : decode cX6_added 76 = .ok (.iconst 0, 1) := by decide +kernel
theorem dX6_added_77 : decode cX6_added 77 = .ok (.istore 5, 2) := by decide +kernel
theorem dX6_added_79 : decode cX6_added 79 = .ok (.iload 5, 2) := by decide +kernel
theorem dX6_added_81 : decode cX6_added 81 = .ok (.aload_n 0, 1) := by decide +kernel
theorem dX6_added_82 : decode cX6_added 82 = .ok (.getfield 12, 3) := by decide +kernel
theorem dX6_added_85 : decode cX6_added 85 = .ok (.getfield 64, 3) := by decide +kernel
theorem dX6_added_88 : decode cX6_added 88 = .ok (.getfield 196, 3) := by decide +kernel
theorem dX6_added_91 : decode cX6_added 91 = .ok (.if_icmp .ge 33, 3) := by decide +kernel
theorem dX6_added_94 : decode cX6_added 94 = .ok (.aload_n 0, 1) := by decide +kernel
theorem dX6_added_95 : decode cX6_added 95 = .ok (.iload 5, 2) := by decide +kernel
theorem dX6_added_97 : decode cX6_added 97 = .ok (.iload_n 1, 1) := by decide +kernel
theorem dX6_added_98 : decode cX6_added 98 = .ok (.iload_n 2, 1) := by decide +kernel
theorem dX6_added_99 : decode cX6_added 99 = .ok (.invokevirtual 188, 3) := by decide +kernel
theorem dX6_added_102 : decode cX6_added 102 = .ok (.invokestatic 191, 3) := by decide +kernel
theorem dX6_added_105 : decode cX6_added 105 = .ok (.iload_n 3, 1) := by decide +kernel
theorem dX6_added_106 : decode cX6_added 106 = .ok (.if_icmp .ge 12, 3) := by decide +kernel
theorem dX6_added_109 : decode cX6_added 109 = .ok (.iload 4, 2) := by decide +kernel
theorem dX6_added_111 : decode cX6_added 111 = .ok (.iconst 1, 1) := by decide +kernel
theorem dX6_added_112 : decode cX6_added 112 = .ok (.iload 5, 2) := by decide +kernel
theorem dX6_added_114 : decode cX6_added 114 = .ok (.ishl, 1) := by decide +kernel
theorem dX6_added_115 : decode cX6_added 115 = .ok (.ior, 1) := by decide +kernel
theorem dX6_added_116 : decode cX6_added 116 = .ok (.istore 4, 2) := by decide +kernel
theorem dX6_added_118 : decode cX6_added 118 = .ok (.iinc 5 1, 3) := by decide +kernel
theorem dX6_added_121 : decode cX6_added 121 = .ok (.goto (-42), 3) := by decide +kernel
theorem dX6_added_124 : decode cX6_added 124 = .ok (.iload 4, 2) := by decide +kernel
theorem dX6_added_126 : decode cX6_added 126 = .ok (.ireturn, 1) := by decide +kernel
theorem dX6_best_0 : decode cX6_best 0 = .ok (.aload_n 0, 1) := by decide +kernel
theorem dX6_best_1 : decode cX6_best 1 = .ok (.getfield 12, 3) := by decide +kernel
theorem dX6_best_4 : decode cX6_best 4 = .ok (.getfield 85, 3) := by decide +kernel
theorem dX6_best_7 : decode cX6_best 7 = .ok (.iload_n 1, 1) := by decide +kernel
theorem dX6_best_8 : decode cX6_best 8 = .ok (.iload_n 2, 1) := by decide +kernel
theorem dX6_best_9 : decode cX6_best 9 = .ok (.invokevirtual 100, 3) := by decide +kernel
theorem dX6_best_12 : decode cX6_best 12 = .ok (.ifCond .eq 10, 3) := by decide +kernel
theorem dX6_best_15 : decode cX6_best 15 = .ok (.iload_n 3, 1) := by decide +kernel
theorem dX6_best_16 : decode cX6_best 16 = .ok (.invokestatic 171, 3) := by decide +kernel
theorem dX6_best_19 : decode cX6_best 19 = .ok (.ifCond .ne 10, 3) := by decide +kernel
theorem dX6_best_22 : decode cX6_best 22 = .ok (.aload_n 0, 1) := by decide +kernel
theorem dX6_best_23 : decode cX6_best 23 = .ok (.ldc 59, 2) := by decide +kernel
theorem dX6_best_25 : decode cX6_best 25 = .ok (.invokevirtual 60, 3) := by decide +kernel
theorem dX6_best_28 : decode cX6_best 28 = .ok (.ireturn, 1) := by decide +kernel
theorem dX6_best_29 : decode cX6_best 29 = .ok (.aload_n 0, 1) := by decide +kernel
theorem dX6_best_30 : decode cX6_best 30 = .ok (.getfield 12, 3) := by decide +kernel
theorem dX6_best_33 : decode cX6_best 33 = .ok (.iload_n 3, 1) := by decide +kernel
theorem dX6_best_34 : decode cX6_best 34 = .ok (.invokevirtual 131, 3) := by decide +kernel
theorem dX6_best_37 : decode cX6_best 37 = .ok (.ifCond .ne 10, 3) := by decide +kernel
theorem dX6_best_40 : decode cX6_best 40 = .ok (.aload_n 0, 1) := by decide +kernel
theorem dX6_best_41 : decode cX6_best 41 = .ok (.ldc 130, 2) := by decide +kernel
theorem dX6_best_43 : decode cX6_best 43 = .ok (.invokevirtual 60, 3) := by decide +kernel
theorem dX6_best_46 : decode cX6_best 46 = .ok (.ireturn, 1) := by decide +kernel
theorem dX6_best_47 : decode cX6_best 47 = .ok (.iconst 0, 1) := by decide +kernel
theorem dX6_best_48 : decode cX6_best 48 = .ok (.istore 4, 2) := by decide +kernel
theorem dX6_best_50 : decode cX6_best 50 = .ok (.iconst (-1), 1) := by decide +kernel
theorem dX6_best_51 : decode cX6_best 51 = .ok (.istore 5, 2) := by decide +kernel
theorem dX6_best_53 : decode cX6_best 53 = .ok (.iconst 0, 1) := by decide +kernel
theorem dX6_best_54 : decode cX6_best 54 = .ok (.istore 6, 2) := by decide +kernel
theorem dX6_best_56 : decode cX6_best 56 = .ok (.iload 6, 2) := by decide +kernel
theorem dX6_best_58 : decode cX6_best 58 = .ok (.aload_n 0, 1) := by decide +kernel
theorem dX6_best_59 : decode cX6_best 59 = .ok (.getfield 12, 3) := by decide +kernel
theorem dX6_best_62 : decode cX6_best 62 = .ok (.getfield 64, 3) := by decide +kernel
theorem dX6_best_65 : decode cX6_best 65 = .ok (.getfield 196, 3) := by decide +kernel
theorem dX6_best_68 : decode cX6_best 68 = .ok (.if_icmp .ge 87, 3) := by decide +kernel
theorem dX6_best_71 : decode cX6_best 71 = .ok (.aload_n 0, 1) := by decide +kernel
theorem dX6_best_72 : decode cX6_best 72 = .ok (.getfield 16, 3) := by decide +kernel
theorem dX6_best_75 : decode cX6_best 75 = .ok (.aload_n 0, 1) := by decide +kernel
theorem dX6_best_76 : decode cX6_best 76 = .ok (.getfield 12, 3) := by decide +kernel
theorem dX6_best_79 : decode cX6_best 79 = .ok (.invokevirtual 177, 3) := by decide +kernel
theorem dX6_best_82 : decode cX6_best 82 = .ok (.aload_n 0, 1) := by decide +kernel
theorem dX6_best_83 : decode cX6_best 83 = .ok (.getfield 16, 3) := by decide +kernel
theorem dX6_best_86 : decode cX6_best 86 = .ok (.getfield 85, 3) := by decide +kernel
theorem dX6_best_89 : decode cX6_best 89 = .ok (.getfield 197, 3) := by decide +kernel
theorem dX6_best_92 : decode cX6_best 92 = .ok (.iload_n 1, 1) := by decide +kernel
theorem dX6_best_93 : decode cX6_best 93 = .ok (.iload 6, 2) := by decide +kernel
theorem dX6_best_95 : decode cX6_best 95 = .ok (.iastore, 1) := by decide +kernel
theorem dX6_best_96 : decode cX6_best 96 = .ok (.aload_n 0, 1) := by decide +kernel
theorem dX6_best_97 : decode cX6_best 97 = .ok (.getfield 16, 3) := by decide +kernel
theorem dX6_best_100 : decode cX6_best 100 = .ok (.iload_n 3, 1) := by decide +kernel
theorem dX6_best_101 : decode cX6_best 101 = .ok (.invokevirtual 138, 3) := by decide +kernel
theorem dX6_best_104 : decode cX6_best 104 = .ok (.aload_n 0, 1) := by decide +kernel
theorem dX6_best_105 : decode cX6_best 105 = .ok (.getfield 16, 3) := by decide +kernel
theorem dX6_best_108 : decode cX6_best 108 = .ok (.getfield 85, 3) := by decide +kernel
theorem dX6_best_111 : decode cX6_best 111 = .ok (.getfield 149, 3) := by decide +kernel
theorem dX6_best_114 : decode cX6_best 114 = .ok (.iload_n 1, 1) := by decide +kernel
theorem dX6_best_115 : decode cX6_best 115 = .ok (.iaload, 1) := by decide +kernel
theorem dX6_best_116 : decode cX6_best 116 = .ok (.aload_n 0, 1) := by decide +kernel
theorem dX6_best_117 : decode cX6_best 117 = .ok (.getfield 16, 3) := by decide +kernel
theorem dX6_best_120 : decode cX6_best 120 = .ok (.getfield 85, 3) := by decide +kernel
theorem dX6_best_123 : decode cX6_best 123 = .ok (.getfield 156, 3) := by decide +kernel
theorem dX6_best_126 : decode cX6_best 126 = .ok (.iload_n 2, 1) := by decide +kernel
theorem dX6_best_127 : decode cX6_best 127 = .ok (.iaload, 1) := by decide +kernel
theorem dX6_best_128 : decode cX6_best 128 = .ok (.iand, 1) := by decide +kernel
theorem dX6_best_129 : decode cX6_best 129 = .ok (.invokestatic 191, 3) := by decide +kernel
theorem dX6_best_132 : decode cX6_best 132 = .ok (.istore 7, 2) := by decide +kernel
theorem dX6_best_134 : decode cX6_best 134 = .ok (.iload 7, 2) := by decide +kernel
theorem dX6_best_136 : decode cX6_best 136 = .ok (.iload 5, 2) := by decide +kernel
theorem dX6_best_138 : decode cX6_best 138 = .ok (.if_icmp .le 11, 3) := by decide +kernel
theorem dX6_best_141 : decode cX6_best 141 = .ok (.iload 7, 2) := by decide +kernel
theorem dX6_best_143 : decode cX6_best 143 = .ok (.istore 5, 2) := by decide +kernel
theorem dX6_best_145 : decode cX6_best 145 = .ok (.iload 6, 2) := by decide +kernel
theorem dX6_best_147 : decode cX6_best 147 = .ok (.istore 4, 2) := by decide +kernel
theorem dX6_best_149 : decode cX6_best 149 = .ok (.iinc 6 1, 3) := by decide +kernel
theorem dX6_best_152 : decode cX6_best 152 = .ok (.goto (-96), 3) := by decide +kernel
theorem dX6_best_155 : decode cX6_best 155 = .ok (.iload 4, 2) := by decide +kernel
theorem dX6_best_157 : decode cX6_best 157 = .ok (.ireturn, 1) := by decide +kernel
theorem dX6_bridge_0 : decode cX6_bridge 0 = .ok (.iload_n 1, 1) := by decide +kernel
theorem dX6_bridge_1 : decode cX6_bridge 1 = .ok (.invokestatic 165, 3) := by decide +kernel
theorem dX6_bridge_4 : decode cX6_bridge 4 = .ok (.ifCond .eq 10, 3) := by decide +kernel
theorem dX6_bridge_7 : decode cX6_bridge 7 = .ok (.iload_n 2, 1) := by decide +kernel
theorem dX6_bridge_8 : decode cX6_bridge 8 = .ok (.invokestatic 171, 3) := by decide +kernel
theorem dX6_bridge_11 : decode cX6_bridge 11 = .ok (.ifCond .ne 10, 3) := by decide +kernel
theorem dX6_bridge_14 : decode cX6_bridge 14 = .ok (.aload_n 0, 1) := by decide +kernel
theorem dX6_bridge_15 : decode cX6_bridge 15 = .ok (.ldc 59, 2) := by decide +kernel
theorem dX6_bridge_17 : decode cX6_bridge 17 = .ok (.invokevirtual 60, 3) := by decide +kernel
theorem dX6_bridge_20 : decode cX6_bridge 20 = .ok (.ireturn, 1) := by decide +kernel
theorem dX6_bridge_21 : decode cX6_bridge 21 = .ok (.aload_n 0, 1) := by decide +kernel
theorem dX6_bridge_22 : decode cX6_bridge 22 = .ok (.getfield 12, 3) := by decide +kernel
theorem dX6_bridge_25 : decode cX6_bridge 25 = .ok (.iload_n 2, 1) := by decide +kernel
theorem dX6_bridge_26 : decode cX6_bridge 26 = .ok (.invokevirtual 131, 3) := by decide +kernel
theorem dX6_bridge_29 : decode cX6_bridge 29 = .ok (.ifCond .ne 10, 3) := by decide +kernel
theorem dX6_bridge_32 : decode cX6_bridge 32 = .ok (.aload_n 0, 1) := by decide +kernel
theorem dX6_bridge_33 : decode cX6_bridge 33 = .ok (.ldc 130, 2) := by decide +kernel
theorem dX6_bridge_35 : decode cX6_bridge 35 = .ok (.invokevirtual 60, 3) := by decide +kernel
theorem dX6_bridge_38 : decode cX6_bridge 38 = .ok (.ireturn, 1) := by decide +kernel
theorem dX6_bridge_39 : decode cX6_bridge 39 = .ok (.iconst (-1), 1) := by decide +kernel
theorem dX6_bridge_40 : decode cX6_bridge 40 = .ok (.istore_n 3, 1) := by decide +kernel
theorem dX6_bridge_41 : decode cX6_bridge 41 = .ok (.iconst (-1), 1) := by decide +kernel
theorem dX6_bridge_42 : decode cX6_bridge 42 = .ok (.istore 4, 2) := by decide +kernel
theorem dX6_bridge_44 : decode cX6_bridge 44 = .ok (.iconst 0, 1) := by decide +kernel
theorem dX6_bridge_45 : decode cX6_bridge 45 = .ok (.istore 5, 2) := by decide +kernel
theorem dX6_bridge_47 : decode cX6_bridge 47 = .ok (.iload 5, 2) := by decide +kernel
theorem dX6_bridge_49 : decode cX6_bridge 49 = .ok (.aload_n 0, 1) := by decide +kernel
theorem dX6_bridge_50 : decode cX6_bridge 50 = .ok (.getfield 12, 3) := by decide +kernel
theorem dX6_bridge_53 : decode cX6_bridge 53 = .ok (.getfield 85, 3) := by decide +kernel
theorem dX6_bridge_56 : decode cX6_bridge 56 = .ok (.getfield 174, 3) := by decide +kernel
theorem dX6_bridge_59 : decode cX6_bridge 59 = .ok (.if_icmp .ge 88, 3) := by decide +kernel
theorem dX6_bridge_62 : decode cX6_bridge 62 = .ok (.iload 5, 2) := by decide +kernel
theorem dX6_bridge_64 : decode cX6_bridge 64 = .ok (.iconst 1, 1) := by decide +kernel
theorem dX6_bridge_65 : decode cX6_bridge 65 = .ok (.iadd, 1) := by decide +kernel
theorem dX6_bridge_66 : decode cX6_bridge 66 = .ok (.istore 6, 2) := by decide +kernel
theorem dX6_bridge_68 : decode cX6_bridge 68 = .ok (.iload 6, 2) := by decide +kernel
theorem dX6_bridge_70 : decode cX6_bridge 70 = .ok (.aload_n 0, 1) := by decide +kernel
theorem dX6_bridge_71 : decode cX6_bridge 71 = .ok (.getfield 12, 3) := by decide +kernel
theorem dX6_bridge_74 : decode cX6_bridge 74 = .ok (.getfield 85, 3) := by decide +kernel
theorem dX6_bridge_77 : decode cX6_bridge 77 = .ok (.getfield 174, 3) := by decide +kernel
theorem dX6_bridge_80 : decode cX6_bridge 80 = .ok (.if_icmp .ge 61, 3) := by decide +kernel
theorem dX6_bridge_83 : decode cX6_bridge 83 = .ok (.aload_n 0, 1) := by decide +kernel
theorem dX6_bridge_84 : decode cX6_bridge 84 = .ok (.getfield 12, 3) := by decide +kernel
theorem dX6_bridge_87 : decode cX6_bridge 87 = .ok (.getfield 85, 3) := by decide +kernel
theorem dX6_bridge_90 : decode cX6_bridge 90 = .ok (.iload 5, 2) := by decide +kernel
theorem dX6_bridge_92 : decode cX6_bridge 92 = .ok (.iload 6, 2) := by decide +kernel
theorem dX6_bridge_94 : decode cX6_bridge 94 = .ok (.invokevirtual 103, 3) := by decide +kernel
theorem dX6_bridge_97 : decode cX6_bridge 97 = .ok (.ifCond .eq 6, 3) := by decide +kernel
theorem dX6_bridge_100 : decode cX6_bridge 100 = .ok (.goto 35, 3) := by decide +kernel
theorem dX6_bridge_103 : decode cX6_bridge 103 = .ok (.aload_n 0, 1) := by decide +kernel
theorem dX6_bridge_104 : decode cX6_bridge 104 = .ok (.iload 5, 2) := by decide +kernel
theorem dX6_bridge_106 : decode cX6_bridge 106 = .ok (.iload 6, 2) := by decide +kernel
theorem dX6_bridge_108 : decode cX6_bridge 108 = .ok (.iload_n 1, 1) := by decide +kernel
theorem dX6_bridge_109 : decode cX6_bridge 109 = .ok (.iload_n 2, 1) := by decide +kernel
theorem dX6_bridge_110 : decode cX6_bridge 110 = .ok (.invokevirtual 200, 3) := by decide +kernel
theorem dX6_bridge_113 : decode cX6_bridge 113 = .ok (.istore 7, 2) := by decide +kernel
theorem dX6_bridge_115 : decode cX6_bridge 115 = .ok (.iload 7, 2) := by decide +kernel
theorem dX6_bridge_117 : decode cX6_bridge 117 = .ok (.iload 4, 2) := by decide +kernel
theorem dX6_bridge_119 : decode cX6_bridge 119 = .ok (.if_icmp .le 16, 3) := by decide +kernel
theorem dX6_bridge_122 : decode cX6_bridge 122 = .ok (.iload 7, 2) := by decide +kernel
theorem dX6_bridge_124 : decode cX6_bridge 124 = .ok (.istore 4, 2) := by decide +kernel
theorem dX6_bridge_126 : decode cX6_bridge 126 = .ok (.bipush 10, 2) := by decide +kernel
theorem dX6_bridge_128 : decode cX6_bridge 128 = .ok (.iload 5, 2) := by decide +kernel
theorem dX6_bridge_130 : decode cX6_bridge 130 = .ok (.imul, 1) := by decide +kernel
theorem dX6_bridge_131 : decode cX6_bridge 131 = .ok (.iload 6, 2) := by decide +kernel
theorem dX6_bridge_133 : decode cX6_bridge 133 = .ok (.iadd, 1) := by decide +kernel
theorem dX6_bridge_134 : decode cX6_bridge 134 = .ok (.istore_n 3, 1) := by decide +kernel
theorem dX6_bridge_135 : decode cX6_bridge 135 = .ok (.iinc 6 1, 3) := by decide +kernel
theorem dX6_bridge_138 : decode cX6_bridge 138 = .ok (.goto (-70), 3) := by decide +kernel
theorem dX6_bridge_141 : decode cX6_bridge 141 = .ok (.iinc 5 1, 3) := by decide +kernel
theorem dX6_bridge_144 : decode cX6_bridge 144 = .ok (.goto (-97), 3) := by decide +kernel
theorem dX6_bridge_147 : decode cX6_bridge 147 = .ok (.iload_n 3, 1) := by decide +kernel
theorem dX6_bridge_148 : decode cX6_bridge 148 = .ok (.ifCond .ge 12, 3) := by decide +kernel
theorem dX6_bridge_151 : decode cX6_bridge 151 = .ok (.aload_n 0, 1) := by decide +kernel
theorem dX6_bridge_152 : decode cX6_bridge 152 = .ok (.ldc 187, 2) := by decide +kernel
theorem dX6_bridge_154 : decode cX6_bridge 154 = .ok (.invokevirtual 60, 3) := by decide +kernel
theorem dX6_bridge_157 : decode cX6_bridge 157 = .ok (.goto 4, 3) := by decide +kernel
theorem dX6_bridge_160 : decode cX6_bridge 160 = .ok (.iload_n 3, 1) := by decide +kernel
theorem dX6_bridge_161 : decode cX6_bridge 161 = .ok (.ireturn, 1) := by decide +kernel
theorem dX6_many_0 : decode cX6_many 0 = .ok (.aload_n 0, 1) := by decide +kernel
theorem dX6_many_1 : decode cX6_many 1 = .ok (.getfield 12, 3) := by decide +kernel
theorem dX6_many_4 : decode cX6_many 4 = .ok (.getfield 64, 3) := by decide +kernel
theorem dX6_many_7 : decode cX6_many 7 = .ok (.iload_n 1, 1) := by decide +kernel
theorem dX6_many_8 : decode cX6_many 8 = .ok (.invokevirtual 78, 3) := by decide +kernel
theorem dX6_many_11 : decode cX6_many 11 = .ok (.ifCond .eq 10, 3) := by decide +kernel
theorem dX6_many_14 : decode cX6_many 14 = .ok (.iload_n 2, 1) := by decide +kernel
theorem dX6_many_15 : decode cX6_many 15 = .ok (.invokestatic 113, 3) := by decide +kernel
theorem dX6_many_18 : decode cX6_many 18 = .ok (.ifCond .ne 10, 3) := by decide +kernel
theorem dX6_many_21 : decode cX6_many 21 = .ok (.aload_n 0, 1) := by decide +kernel
theorem dX6_many_22 : decode cX6_many 22 = .ok (.ldc 59, 2) := by decide +kernel
theorem dX6_many_24 : decode cX6_many 24 = .ok (.invokevirtual 60, 3) := by decide +kernel
theorem dX6_many_27 : decode cX6_many 27 = .ok (.ireturn, 1) := by decide +kernel
theorem dX6_many_28 : decode cX6_many 28 = .ok (.aload_n 0, 1) := by decide +kernel
theorem dX6_many_29 : decode cX6_many 29 = .ok (.getfield 12, 3) := by decide +kernel
theorem dX6_many_32 : decode cX6_many 32 = .ok (.getfield 64, 3) := by decide +kernel
theorem dX6_many_35 : decode cX6_many 35 = .ok (.iload_n 1, 1) := by decide +kernel
theorem dX6_many_36 : decode cX6_many 36 = .ok (.iload_n 2, 1) := by decide +kernel
theorem dX6_many_37 : decode cX6_many 37 = .ok (.invokevirtual 204, 3) := by decide +kernel
theorem dX6_many_40 : decode cX6_many 40 = .ok (.ireturn, 1) := by decide +kernel
theorem dX6_said_0 : decode cX6_said 0 = .ok (.aload_n 0, 1) := by decide +kernel
theorem dX6_said_1 : decode cX6_said 1 = .ok (.getfield 12, 3) := by decide +kernel
theorem dX6_said_4 : decode cX6_said 4 = .ok (.getfield 64, 3) := by decide +kernel
theorem dX6_said_7 : decode cX6_said 7 = .ok (.iload_n 1, 1) := by decide +kernel
theorem dX6_said_8 : decode cX6_said 8 = .ok (.invokevirtual 78, 3) := by decide +kernel
theorem dX6_said_11 : decode cX6_said 11 = .ok (.ifCond .eq 19, 3) := by decide +kernel
theorem dX6_said_14 : decode cX6_said 14 = .ok (.iload_n 2, 1) := by decide +kernel
theorem dX6_said_15 : decode cX6_said 15 = .ok (.invokestatic 113, 3) := by decide +kernel
theorem dX6_said_18 : decode cX6_said 18 = .ok (.ifCond .eq 12, 3) := by decide +kernel
theorem dX6_said_21 : decode cX6_said 21 = .ok (.iload_n 3, 1) := by decide +kernel
theorem dX6_said_22 : decode cX6_said 22 = .ok (.ifCond .lt 8, 3) := by decide +kernel
theorem dX6_said_25 : decode cX6_said 25 = .ok (.iload_n 3, 1) := by decide +kernel
theorem dX6_said_26 : decode cX6_said 26 = .ok (.iconst 2, 1) := by decide +kernel
theorem dX6_said_27 : decode cX6_said 27 = .ok (.if_icmp .le 10, 3) := by decide +kernel
theorem dX6_said_30 : decode cX6_said 30 = .ok (.aload_n 0, 1) := by decide +kernel
theorem dX6_said_31 : decode cX6_said 31 = .ok (.ldc 59, 2) := by decide +kernel
theorem dX6_said_33 : decode cX6_said 33 = .ok (.invokevirtual 60, 3) := by decide +kernel
theorem dX6_said_36 : decode cX6_said 36 = .ok (.ireturn, 1) := by decide +kernel
theorem dX6_said_37 : decode cX6_said 37 = .ok (.iconst (-1), 1) := by decide +kernel
theorem dX6_said_38 : decode cX6_said 38 = .ok (.istore 4, 2) := by decide +kernel
theorem dX6_said_40 : decode cX6_said 40 = .ok (.sipush 4095, 3) := by decide +kernel
theorem dX6_said_43 : decode cX6_said 43 = .ok (.istore 5, 2) := by decide +kernel
theorem dX6_said_45 : decode cX6_said 45 = .ok (.iconst 0, 1) := by decide +kernel
theorem dX6_said_46 : decode cX6_said 46 = .ok (.istore 6, 2) := by decide +kernel
theorem dX6_said_48 : decode cX6_said 48 = .ok (.iconst 0, 1) := by decide +kernel
theorem dX6_said_49 : decode cX6_said 49 = .ok (.istore 7, 2) := by decide +kernel
theorem dX6_said_51 : decode cX6_said 51 = .ok (.iload 7, 2) := by decide +kernel
theorem dX6_said_53 : decode cX6_said 53 = .ok (.sipush 4096, 3) := by decide +kernel
theorem dX6_said_56 : decode cX6_said 56 = .ok (.if_icmp .ge 52, 3) := by decide +kernel
theorem dX6_said_59 : decode cX6_said 59 = .ok (.aload_n 0, 1) := by decide +kernel
theorem dX6_said_60 : decode cX6_said 60 = .ok (.getfield 12, 3) := by decide +kernel
theorem dX6_said_63 : decode cX6_said 63 = .ok (.getfield 64, 3) := by decide +kernel
theorem dX6_said_66 : decode cX6_said 66 = .ok (.iload_n 1, 1) := by decide +kernel
theorem dX6_said_67 : decode cX6_said 67 = .ok (.iload 7, 2) := by decide +kernel
theorem dX6_said_69 : decode cX6_said 69 = .ok (.invokevirtual 116, 3) := by decide +kernel
theorem dX6_said_72 : decode cX6_said 72 = .ok (.iload_n 2, 1) := by decide +kernel
theorem dX6_said_73 : decode cX6_said 73 = .ok (.if_icmp .eq 6, 3) := by decide +kernel
theorem dX6_said_76 : decode cX6_said 76 = .ok (.goto 26, 3) := by decide +kernel
theorem dX6_said_79 : decode cX6_said 79 = .ok (.iload 4, 2) := by decide +kernel
theorem dX6_said_81 : decode cX6_said 81 = .ok (.ifCond .ge 7, 3) := by decide +kernel
theorem dX6_said_84 : decode cX6_said 84 = .ok (.iload 7, 2) := by decide +kernel
theorem dX6_said_86 : decode cX6_said 86 = .ok (.istore 4, 2) := by decide +kernel
theorem dX6_said_88 : decode cX6_said 88 = .ok (.iload 5, 2) := by decide +kernel
theorem dX6_said_90 : decode cX6_said 90 = .ok (.iload 7, 2) := by decide +kernel
theorem dX6_said_92 : decode cX6_said 92 = .ok (.iand, 1) := by decide +kernel
theorem dX6_said_93 : decode cX6_said 93 = .ok (.istore 5, 2) := by decide +kernel
theorem dX6_said_95 : decode cX6_said 95 = .ok (.iload 6, 2) := by decide +kernel
theorem dX6_said_97 : decode cX6_said 97 = .ok (.iload 7, 2) := by decide +kernel
theorem dX6_said_99 : decode cX6_said 99 = .ok (.ior, 1) := by decide +kernel
theorem dX6_said_100 : decode cX6_said 100 = .ok (.istore 6, 2) := by decide +kernel
theorem dX6_said_102 : decode cX6_said 102 = .ok (.iinc 7 1, 3) := by decide +kernel
theorem dX6_said_105 : decode cX6_said 105 = .ok (.goto (-54), 3) := by decide +kernel
theorem dX6_said_108 : decode cX6_said 108 = .ok (.iload 4, 2) := by decide +kernel
theorem dX6_said_110 : decode cX6_said 110 = .ok (.ifCond .ge 10, 3) := by decide +kernel
theorem dX6_said_113 : decode cX6_said 113 = .ok (.aload_n 0, 1) := by decide +kernel
theorem dX6_said_114 : decode cX6_said 114 = .ok (.ldc 187, 2) := by decide +kernel
theorem dX6_said_116 : decode cX6_said 116 = .ok (.invokevirtual 60, 3) := by decide +kernel
theorem dX6_said_119 : decode cX6_said 119 = .ok (.ireturn, 1) := by decide +kernel
theorem dX6_said_120 : decode cX6_said 120 = .ok (.iload_n 3, 1) := by decide +kernel
theorem dX6_said_121 : decode cX6_said 121 = .ok (.ifCond .ne 6, 3) := by decide +kernel
theorem dX6_said_124 : decode cX6_said 124 = .ok (.iload 4, 2) := by decide +kernel
theorem dX6_said_126 : decode cX6_said 126 = .ok (.ireturn, 1) := by decide +kernel
theorem dX6_said_127 : decode cX6_said 127 = .ok (.iload_n 3, 1) := by decide +kernel
theorem dX6_said_128 : decode cX6_said 128 = .ok (.iconst 1, 1) := by decide +kernel
theorem dX6_said_129 : decode cX6_said 129 = .ok (.if_icmp .ne 8, 3) := by decide +kernel
theorem dX6_said_132 : decode cX6_said 132 = .ok (.iload 5, 2) := by decide +kernel
theorem dX6_said_134 : decode cX6_said 134 = .ok (.goto 5, 3) := by decide +kernel
theorem dX6_said_137 : decode cX6_said 137 = .ok (.iload 6, 2) := by decide +kernel
theorem dX6_said_139 : decode cX6_said 139 = .ok (.ireturn, 1) := by decide +kernel
theorem dX6_hands_0 : decode cX6_hands 0 = .ok (.iload_n 1, 1) := by decide +kernel
theorem dX6_hands_1 : decode cX6_hands 1 = .ok (.invokestatic 113, 3) := by decide +kernel
theorem dX6_hands_4 : decode cX6_hands 4 = .ok (.ifCond .ne 10, 3) := by decide +kernel
theorem dX6_hands_7 : decode cX6_hands 7 = .ok (.aload_n 0, 1) := by decide +kernel
theorem dX6_hands_8 : decode cX6_hands 8 = .ok (.ldc 59, 2) := by decide +kernel
theorem dX6_hands_10 : decode cX6_hands 10 = .ok (.invokevirtual 60, 3) := by decide +kernel
theorem dX6_hands_13 : decode cX6_hands 13 = .ok (.ireturn, 1) := by decide +kernel
theorem dX6_hands_14 : decode cX6_hands 14 = .ok (.iconst 0, 1) := by decide +kernel
theorem dX6_hands_15 : decode cX6_hands 15 = .ok (.istore_n 2, 1) := by decide +kernel
theorem dX6_hands_16 : decode cX6_hands 16 = .ok (.iconst 0, 1) := by decide +kernel
theorem dX6_hands_17 : decode cX6_hands 17 = .ok (.istore_n 3, 1) := by decide +kernel
theorem dX6_hands_18 : decode cX6_hands 18 = .ok (.iload_n 3, 1) := by decide +kernel
theorem dX6_hands_19 : decode cX6_hands 19 = .ok (.aload_n 0, 1) := by decide +kernel
theorem dX6_hands_20 : decode cX6_hands 20 = .ok (.getfield 12, 3) := by decide +kernel
theorem dX6_hands_23 : decode cX6_hands 23 = .ok (.getfield 64, 3) := by decide +kernel
theorem dX6_hands_26 : decode cX6_hands 26 = .ok (.getfield 196, 3) := by decide +kernel
theorem dX6_hands_29 : decode cX6_hands 29 = .ok (.if_icmp .ge 30, 3) := by decide +kernel
theorem dX6_hands_32 : decode cX6_hands 32 = .ok (.aload_n 0, 1) := by decide +kernel
theorem dX6_hands_33 : decode cX6_hands 33 = .ok (.getfield 12, 3) := by decide +kernel
theorem dX6_hands_36 : decode cX6_hands 36 = .ok (.getfield 64, 3) := by decide +kernel
theorem dX6_hands_39 : decode cX6_hands 39 = .ok (.iload_n 3, 1) := by decide +kernel
theorem dX6_hands_40 : decode cX6_hands 40 = .ok (.iload_n 1, 1) := by decide +kernel
theorem dX6_hands_41 : decode cX6_hands 41 = .ok (.invokevirtual 204, 3) := by decide +kernel
theorem dX6_hands_44 : decode cX6_hands 44 = .ok (.ifCond .le 9, 3) := by decide +kernel
theorem dX6_hands_47 : decode cX6_hands 47 = .ok (.iload_n 2, 1) := by decide +kernel
theorem dX6_hands_48 : decode cX6_hands 48 = .ok (.iconst 1, 1) := by decide +kernel
theorem dX6_hands_49 : decode cX6_hands 49 = .ok (.iload_n 3, 1) := by decide +kernel
theorem dX6_hands_50 : decode cX6_hands 50 = .ok (.ishl, 1) := by decide +kernel
theorem dX6_hands_51 : decode cX6_hands 51 = .ok (.ior, 1) := by decide +kernel
theorem dX6_hands_52 : decode cX6_hands 52 = .ok (.istore_n 2, 1) := by decide +kernel
theorem dX6_hands_53 : decode cX6_hands 53 = .ok (.iinc 3 1, 3) := by decide +kernel
theorem dX6_hands_56 : decode cX6_hands 56 = .ok (.goto (-38), 3) := by decide +kernel
theorem dX6_hands_59 : decode cX6_hands 59 = .ok (.iload_n 2, 1) := by decide +kernel
theorem dX6_hands_60 : decode cX6_hands 60 = .ok (.ireturn, 1) := by decide +kernel
theorem dX6_likeliest_0 : decode cX6_likeliest 0 = .ok (.iload_n 1, 1) := by decide +kernel
theorem dX6_likeliest_1 : decode cX6_likeliest 1 = .ok (.invokestatic 113, 3) := by decide +kernel
theorem dX6_likeliest_4 : decode cX6_likeliest 4 = .ok (.ifCond .ne 10, 3) := by decide +kernel
theorem dX6_likeliest_7 : decode cX6_likeliest 7 = .ok (.aload_n 0, 1) := by decide +kernel
theorem dX6_likeliest_8 : decode cX6_likeliest 8 = .ok (.ldc 59, 2) := by decide +kernel
theorem dX6_likeliest_10 : decode cX6_likeliest 10 = .ok (.invokevirtual 60, 3) := by decide +kernel
theorem dX6_likeliest_13 : decode cX6_likeliest 13 = .ok (.ireturn, 1) := by decide +kernel
theorem dX6_likeliest_14 : decode cX6_likeliest 14 = .ok (.iconst (-1), 1) := by decide +kernel
theorem dX6_likeliest_15 : decode cX6_likeliest 15 = .ok (.istore_n 2, 1) := by decide +kernel
theorem dX6_likeliest_16 : decode cX6_likeliest 16 = .ok (.iconst 0, 1) := by decide +kernel
theorem dX6_likeliest_17 : decode cX6_likeliest 17 = .ok (.istore_n 3, 1) := by decide +kernel
theorem dX6_likeliest_18 : decode cX6_likeliest 18 = .ok (.iconst 0, 1) := by decide +kernel
theorem dX6_likeliest_19 : decode cX6_likeliest 19 = .ok (.istore 4, 2) := by decide +kernel
theorem dX6_likeliest_21 : decode cX6_likeliest 21 = .ok (.iload 4, 2) := by decide +kernel
theorem dX6_likeliest_23 : decode cX6_likeliest 23 = .ok (.aload_n 0, 1) := by decide +kernel
theorem dX6_likeliest_24 : decode cX6_likeliest 24 = .ok (.getfield 12, 3) := by decide +kernel
theorem dX6_likeliest_27 : decode cX6_likeliest 27 = .ok (.getfield 64, 3) := by decide +kernel
theorem dX6_likeliest_30 : decode cX6_likeliest 30 = .ok (.getfield 196, 3) := by decide +kernel
theorem dX6_likeliest_33 : decode cX6_likeliest 33 = .ok (.if_icmp .ge 36, 3) := by decide +kernel
theorem dX6_likeliest_36 : decode cX6_likeliest 36 = .ok (.aload_n 0, 1) := by decide +kernel
theorem dX6_likeliest_37 : decode cX6_likeliest 37 = .ok (.getfield 12, 3) := by decide +kernel
theorem dX6_likeliest_40 : decode cX6_likeliest 40 = .ok (.getfield 64, 3) := by decide +kernel
theorem dX6_likeliest_43 : decode cX6_likeliest 43 = .ok (.iload 4, 2) := by decide +kernel
theorem dX6_likeliest_45 : decode cX6_likeliest 45 = .ok (.iload_n 1, 1) := by decide +kernel
theorem dX6_likeliest_46 : decode cX6_likeliest 46 = .ok (.invokevirtual 204, 3) := by decide +kernel
theorem dX6_likeliest_49 : decode cX6_likeliest 49 = .ok (.istore 5, 2) := by decide +kernel
theorem dX6_likeliest_51 : decode cX6_likeliest 51 = .ok (.iload 5, 2) := by decide +kernel
theorem dX6_likeliest_53 : decode cX6_likeliest 53 = .ok (.iload_n 3, 1) := by decide +kernel
theorem dX6_likeliest_54 : decode cX6_likeliest 54 = .ok (.if_icmp .le 9, 3) := by decide +kernel
theorem dX6_likeliest_57 : decode cX6_likeliest 57 = .ok (.iload 5, 2) := by decide +kernel
theorem dX6_likeliest_59 : decode cX6_likeliest 59 = .ok (.istore_n 3, 1) := by decide +kernel
theorem dX6_likeliest_60 : decode cX6_likeliest 60 = .ok (.iload 4, 2) := by decide +kernel
theorem dX6_likeliest_62 : decode cX6_likeliest 62 = .ok (.istore_n 2, 1) := by decide +kernel
theorem dX6_likeliest_63 : decode cX6_likeliest 63 = .ok (.iinc 4 1, 3) := by decide +kernel
theorem dX6_likeliest_66 : decode cX6_likeliest 66 = .ok (.goto (-45), 3) := by decide +kernel
theorem dX6_likeliest_69 : decode cX6_likeliest 69 = .ok (.iload_n 2, 1) := by decide +kernel
theorem dX6_likeliest_70 : decode cX6_likeliest 70 = .ok (.ifCond .ge 12, 3) := by decide +kernel
theorem dX6_likeliest_73 : decode cX6_likeliest 73 = .ok (.aload_n 0, 1) := by decide +kernel
theorem dX6_likeliest_74 : decode cX6_likeliest 74 = .ok (.ldc 187, 2) := by decide +kernel
theorem dX6_likeliest_76 : decode cX6_likeliest 76 = .ok (.invokevirtual 60, 3) := by decide +kernel
theorem dX6_likeliest_79 : decode cX6_likeliest 79 = .ok (.goto 4, 3) := by decide +kernel
theorem dX6_likeliest_82 : decode cX6_likeliest 82 = .ok (.iload_n 2, 1) := by decide +kernel
theorem dX6_likeliest_83 : decode cX6_likeliest 83 = .ok (.ireturn, 1) := by decide +kernel
theorem dX6_near_0 : decode cX6_near 0 = .ok (.aload_n 0, 1) := by decide +kernel
theorem dX6_near_1 : decode cX6_near 1 = .ok (.getfield 12, 3) := by decide +kernel
theorem dX6_near_4 : decode cX6_near 4 = .ok (.getfield 64, 3) := by decide +kernel
theorem dX6_near_7 : decode cX6_near 7 = .ok (.iload_n 1, 1) := by decide +kernel
theorem dX6_near_8 : decode cX6_near 8 = .ok (.invokevirtual 78, 3) := by decide +kernel
theorem dX6_near_11 : decode cX6_near 11 = .ok (.ifCond .eq 17, 3) := by decide +kernel
theorem dX6_near_14 : decode cX6_near 14 = .ok (.iload_n 2, 1) := by decide +kernel
theorem dX6_near_15 : decode cX6_near 15 = .ok (.invokestatic 113, 3) := by decide +kernel
theorem dX6_near_18 : decode cX6_near 18 = .ok (.ifCond .eq 10, 3) := by decide +kernel
theorem dX6_near_21 : decode cX6_near 21 = .ok (.iload_n 3, 1) := by decide +kernel
theorem dX6_near_22 : decode cX6_near 22 = .ok (.invokestatic 113, 3) := by decide +kernel
theorem dX6_near_25 : decode cX6_near 25 = .ok (.ifCond .ne 10, 3) := by decide +kernel
theorem dX6_near_28 : decode cX6_near 28 = .ok (.aload_n 0, 1) := by decide +kernel
theorem dX6_near_29 : decode cX6_near 29 = .ok (.ldc 59, 2) := by decide +kernel
theorem dX6_near_31 : decode cX6_near 31 = .ok (.invokevirtual 60, 3) := by decide +kernel
theorem dX6_near_34 : decode cX6_near 34 = .ok (.ireturn, 1) := by decide +kernel
theorem dX6_near_35 : decode cX6_near 35 = .ok (.bipush 13, 2) := by decide +kernel
theorem dX6_near_37 : decode cX6_near 37 = .ok (.istore 4, 2) := by decide +kernel
theorem dX6_near_39 : decode cX6_near 39 = .ok (.iconst 0, 1) := by decide +kernel
theorem dX6_near_40 : decode cX6_near 40 = .ok (.istore 5, 2) := by decide +kernel
theorem dX6_near_42 : decode cX6_near 42 = .ok (.iload 5, 2) := by decide +kernel
theorem dX6_near_44 : decode cX6_near 44 = .ok (.sipush 4096, 3) := by decide +kernel
theorem dX6_near_47 : decode cX6_near 47 = .ok (.if_icmp .ge 40, 3) := by decide +kernel
theorem dX6_near_50 : decode cX6_near 50 = .ok (.aload_n 0, 1) := by decide +kernel
theorem dX6_near_51 : decode cX6_near 51 = .ok (.getfield 12, 3) := by decide +kernel
theorem dX6_near_54 : decode cX6_near 54 = .ok (.getfield 64, 3) := by decide +kernel
theorem dX6_near_57 : decode cX6_near 57 = .ok (.iload_n 1, 1) := by decide +kernel
theorem dX6_near_58 : decode cX6_near 58 = .ok (.iload 5, 2) := by decide +kernel
theorem dX6_near_60 : decode cX6_near 60 = .ok (.invokevirtual 116, 3) := by decide +kernel
theorem dX6_near_63 : decode cX6_near 63 = .ok (.iload_n 3, 1) := by decide +kernel
theorem dX6_near_64 : decode cX6_near 64 = .ok (.if_icmp .ne 17, 3) := by decide +kernel
theorem dX6_near_67 : decode cX6_near 67 = .ok (.iload 4, 2) := by decide +kernel
theorem dX6_near_69 : decode cX6_near 69 = .ok (.iload 5, 2) := by decide +kernel
theorem dX6_near_71 : decode cX6_near 71 = .ok (.iload_n 2, 1) := by decide +kernel
theorem dX6_near_72 : decode cX6_near 72 = .ok (.ixor, 1) := by decide +kernel
theorem dX6_near_73 : decode cX6_near 73 = .ok (.invokestatic 191, 3) := by decide +kernel
theorem dX6_near_76 : decode cX6_near 76 = .ok (.invokestatic 207, 3) := by decide +kernel
theorem dX6_near_79 : decode cX6_near 79 = .ok (.istore 4, 2) := by decide +kernel
theorem dX6_near_81 : decode cX6_near 81 = .ok (.iinc 5 1, 3) := by decide +kernel
theorem dX6_near_84 : decode cX6_near 84 = .ok (.goto (-42), 3) := by decide +kernel
theorem dX6_near_87 : decode cX6_near 87 = .ok (.iload 4, 2) := by decide +kernel
theorem dX6_near_89 : decode cX6_near 89 = .ok (.bipush 12, 2) := by decide +kernel
theorem dX6_near_91 : decode cX6_near 91 = .ok (.if_icmp .le 12, 3) := by decide +kernel
theorem dX6_near_94 : decode cX6_near 94 = .ok (.aload_n 0, 1) := by decide +kernel
theorem dX6_near_95 : decode cX6_near 95 = .ok (.ldc 187, 2) := by decide +kernel
theorem dX6_near_97 : decode cX6_near 97 = .ok (.invokevirtual 60, 3) := by decide +kernel
theorem dX6_near_100 : decode cX6_near 100 = .ok (.goto 5, 3) := by decide +kernel
theorem dX6_near_103 : decode cX6_near 103 = .ok (.iload 4, 2) := by decide +kernel
theorem dX6_near_105 : decode cX6_near 105 = .ok (.ireturn, 1) := by decide +kernel
theorem dX6_honest_0 : decode cX6_honest 0 = .ok (.aload_n 0, 1) := by decide +kernel
theorem dX6_honest_1 : decode cX6_honest 1 = .ok (.getfield 12, 3) := by decide +kernel
theorem dX6_honest_4 : decode cX6_honest 4 = .ok (.getfield 64, 3) := by decide +kernel
theorem dX6_honest_7 : decode cX6_honest 7 = .ok (.iload_n 1, 1) := by decide +kernel
theorem dX6_honest_8 : decode cX6_honest 8 = .ok (.invokevirtual 78, 3) := by decide +kernel
theorem dX6_honest_11 : decode cX6_honest 11 = .ok (.ifCond .ne 10, 3) := by decide +kernel
theorem dX6_honest_14 : decode cX6_honest 14 = .ok (.aload_n 0, 1) := by decide +kernel
theorem dX6_honest_15 : decode cX6_honest 15 = .ok (.ldc 59, 2) := by decide +kernel
theorem dX6_honest_17 : decode cX6_honest 17 = .ok (.invokevirtual 60, 3) := by decide +kernel
theorem dX6_honest_20 : decode cX6_honest 20 = .ok (.ireturn, 1) := by decide +kernel
theorem dX6_honest_21 : decode cX6_honest 21 = .ok (.iconst 0, 1) := by decide +kernel
theorem dX6_honest_22 : decode cX6_honest 22 = .ok (.istore_n 2, 1) := by decide +kernel
theorem dX6_honest_23 : decode cX6_honest 23 = .ok (.iconst 0, 1) := by decide +kernel
theorem dX6_honest_24 : decode cX6_honest 24 = .ok (.istore_n 3, 1) := by decide +kernel
theorem dX6_honest_25 : decode cX6_honest 25 = .ok (.iload_n 3, 1) := by decide +kernel
theorem dX6_honest_26 : decode cX6_honest 26 = .ok (.sipush 4096, 3) := by decide +kernel
theorem dX6_honest_29 : decode cX6_honest 29 = .ok (.if_icmp .ge 28, 3) := by decide +kernel
theorem dX6_honest_32 : decode cX6_honest 32 = .ok (.aload_n 0, 1) := by decide +kernel
theorem dX6_honest_33 : decode cX6_honest 33 = .ok (.getfield 12, 3) := by decide +kernel
theorem dX6_honest_36 : decode cX6_honest 36 = .ok (.getfield 64, 3) := by decide +kernel
theorem dX6_honest_39 : decode cX6_honest 39 = .ok (.iload_n 1, 1) := by decide +kernel
theorem dX6_honest_40 : decode cX6_honest 40 = .ok (.iload_n 3, 1) := by decide +kernel
theorem dX6_honest_41 : decode cX6_honest 41 = .ok (.invokevirtual 116, 3) := by decide +kernel
theorem dX6_honest_44 : decode cX6_honest 44 = .ok (.iload_n 3, 1) := by decide +kernel
theorem dX6_honest_45 : decode cX6_honest 45 = .ok (.if_icmp .ne 6, 3) := by decide +kernel
theorem dX6_honest_48 : decode cX6_honest 48 = .ok (.iinc 2 1, 3) := by decide +kernel
theorem dX6_honest_51 : decode cX6_honest 51 = .ok (.iinc 3 1, 3) := by decide +kernel
theorem dX6_honest_54 : decode cX6_honest 54 = .ok (.goto (-29), 3) := by decide +kernel
theorem dX6_honest_57 : decode cX6_honest 57 = .ok (.iload_n 2, 1) := by decide +kernel
theorem dX6_honest_58 : decode cX6_honest 58 = .ok (.ireturn, 1) := by decide +kernel
theorem dX6_round_0 : decode cX6_round 0 = .ok (.iload_n 1, 1) := by decide +kernel
theorem dX6_round_1 : decode cX6_round 1 = .ok (.invokestatic 113, 3) := by decide +kernel
theorem dX6_round_4 : decode cX6_round 4 = .ok (.ifCond .eq 13, 3) := by decide +kernel
theorem dX6_round_7 : decode cX6_round 7 = .ok (.iload_n 2, 1) := by decide +kernel
theorem dX6_round_8 : decode cX6_round 8 = .ok (.ifCond .lt 9, 3) := by decide +kernel
theorem dX6_round_11 : decode cX6_round 11 = .ok (.iload_n 2, 1) := by decide +kernel
theorem dX6_round_12 : decode cX6_round 12 = .ok (.bipush 20, 2) := by decide +kernel
theorem dX6_round_14 : decode cX6_round 14 = .ok (.if_icmp .le 10, 3) := by decide +kernel
theorem dX6_round_17 : decode cX6_round 17 = .ok (.aload_n 0, 1) := by decide +kernel
theorem dX6_round_18 : decode cX6_round 18 = .ok (.ldc 59, 2) := by decide +kernel
theorem dX6_round_20 : decode cX6_round 20 = .ok (.invokevirtual 60, 3) := by decide +kernel
theorem dX6_round_23 : decode cX6_round 23 = .ok (.ireturn, 1) := by decide +kernel
theorem dX6_round_24 : decode cX6_round 24 = .ok (.iload_n 1, 1) := by decide +kernel
theorem dX6_round_25 : decode cX6_round 25 = .ok (.istore_n 3, 1) := by decide +kernel
theorem dX6_round_26 : decode cX6_round 26 = .ok (.iconst 0, 1) := by decide +kernel
theorem dX6_round_27 : decode cX6_round 27 = .ok (.istore 4, 2) := by decide +kernel
theorem dX6_round_29 : decode cX6_round 29 = .ok (.iload 4, 2) := by decide +kernel
theorem dX6_round_31 : decode cX6_round 31 = .ok (.iload_n 2, 1) := by decide +kernel
theorem dX6_round_32 : decode cX6_round 32 = .ok (.if_icmp .ge 21, 3) := by decide +kernel
theorem dX6_round_35 : decode cX6_round 35 = .ok (.aload_n 0, 1) := by decide +kernel
theorem dX6_round_36 : decode cX6_round 36 = .ok (.getfield 12, 3) := by decide +kernel
theorem dX6_round_39 : decode cX6_round 39 = .ok (.getfield 64, 3) := by decide +kernel
theorem dX6_round_42 : decode cX6_round 42 = .ok (.iload_n 3, 1) := by decide +kernel
theorem dX6_round_43 : decode cX6_round 43 = .ok (.invokevirtual 212, 3) := by decide +kernel
theorem dX6_round_46 : decode cX6_round 46 = .ok (.istore_n 3, 1) := by decide +kernel
theorem dX6_round_47 : decode cX6_round 47 = .ok (.iinc 4 1, 3) := by decide +kernel
theorem dX6_round_50 : decode cX6_round 50 = .ok (.goto (-21), 3) := by decide +kernel
theorem dX6_round_53 : decode cX6_round 53 = .ok (.iload_n 3, 1) := by decide +kernel
theorem dX6_round_54 : decode cX6_round 54 = .ok (.ireturn, 1) := by decide +kernel
theorem dX6_settles_0 : decode cX6_settles 0 = .ok (.iload_n 1, 1) := by decide +kernel
theorem dX6_settles_1 : decode cX6_settles 1 = .ok (.invokestatic 113, 3) := by decide +kernel
theorem dX6_settles_4 : decode cX6_settles 4 = .ok (.ifCond .ne 10, 3) := by decide +kernel
theorem dX6_settles_7 : decode cX6_settles 7 = .ok (.aload_n 0, 1) := by decide +kernel
theorem dX6_settles_8 : decode cX6_settles 8 = .ok (.ldc 59, 2) := by decide +kernel
theorem dX6_settles_10 : decode cX6_settles 10 = .ok (.invokevirtual 60, 3) := by decide +kernel
theorem dX6_settles_13 : decode cX6_settles 13 = .ok (.ireturn, 1) := by decide +kernel
theorem dX6_settles_14 : decode cX6_settles 14 = .ok (.iload_n 1, 1) := by decide +kernel
theorem dX6_settles_15 : decode cX6_settles 15 = .ok (.istore_n 2, 1) := by decide +kernel
theorem dX6_settles_16 : decode cX6_settles 16 = .ok (.aload_n 0, 1) := by decide +kernel
theorem dX6_settles_17 : decode cX6_settles 17 = .ok (.getfield 49, 3) := by decide +kernel
theorem dX6_settles_20 : decode cX6_settles 20 = .ok (.iconst 0, 1) := by decide +kernel
theorem dX6_settles_21 : decode cX6_settles 21 = .ok (.iload_n 2, 1) := by decide +kernel
theorem dX6_settles_22 : decode cX6_settles 22 = .ok (.iastore, 1) := by decide +kernel
theorem dX6_settles_23 : decode cX6_settles 23 = .ok (.iconst 1, 1) := by decide +kernel
theorem dX6_settles_24 : decode cX6_settles 24 = .ok (.istore_n 3, 1) := by decide +kernel
theorem dX6_settles_25 : decode cX6_settles 25 = .ok (.iload_n 3, 1) := by decide +kernel
theorem dX6_settles_26 : decode cX6_settles 26 = .ok (.bipush 100, 2) := by decide +kernel
theorem dX6_settles_28 : decode cX6_settles 28 = .ok (.if_icmp .gt 56, 3) := by decide +kernel
theorem dX6_settles_31 : decode cX6_settles 31 = .ok (.aload_n 0, 1) := by decide +kernel
theorem dX6_settles_32 : decode cX6_settles 32 = .ok (.getfield 12, 3) := by decide +kernel
theorem dX6_settles_35 : decode cX6_settles 35 = .ok (.getfield 64, 3) := by decide +kernel
theorem dX6_settles_38 : decode cX6_settles 38 = .ok (.iload_n 2, 1) := by decide +kernel
theorem dX6_settles_39 : decode cX6_settles 39 = .ok (.invokevirtual 212, 3) := by decide +kernel
theorem dX6_settles_42 : decode cX6_settles 42 = .ok (.istore_n 2, 1) := by decide +kernel
theorem dX6_settles_43 : decode cX6_settles 43 = .ok (.iconst 0, 1) := by decide +kernel
theorem dX6_settles_44 : decode cX6_settles 44 = .ok (.istore 4, 2) := by decide +kernel
theorem dX6_settles_46 : decode cX6_settles 46 = .ok (.iload 4, 2) := by decide +kernel
theorem dX6_settles_48 : decode cX6_settles 48 = .ok (.iload_n 3, 1) := by decide +kernel
theorem dX6_settles_49 : decode cX6_settles 49 = .ok (.if_icmp .ge 22, 3) := by decide +kernel
theorem dX6_settles_52 : decode cX6_settles 52 = .ok (.aload_n 0, 1) := by decide +kernel
theorem dX6_settles_53 : decode cX6_settles 53 = .ok (.getfield 49, 3) := by decide +kernel
theorem dX6_settles_56 : decode cX6_settles 56 = .ok (.iload 4, 2) := by decide +kernel
theorem dX6_settles_58 : decode cX6_settles 58 = .ok (.iaload, 1) := by decide +kernel
theorem dX6_settles_59 : decode cX6_settles 59 = .ok (.iload_n 2, 1) := by decide +kernel
theorem dX6_settles_60 : decode cX6_settles 60 = .ok (.if_icmp .ne 5, 3) := by decide +kernel
theorem dX6_settles_63 : decode cX6_settles 63 = .ok (.iload_n 3, 1) := by decide +kernel
theorem dX6_settles_64 : decode cX6_settles 64 = .ok (.ireturn, 1) := by decide +kernel
theorem dX6_settles_65 : decode cX6_settles 65 = .ok (.iinc 4 1, 3) := by decide +kernel
theorem dX6_settles_68 : decode cX6_settles 68 = .ok (.goto (-22), 3) := by decide +kernel
theorem dX6_settles_71 : decode cX6_settles 71 = .ok (.aload_n 0, 1) := by decide +kernel
theorem dX6_settles_72 : decode cX6_settles 72 = .ok (.getfield 49, 3) := by decide +kernel
theorem dX6_settles_75 : decode cX6_settles 75 = .ok (.iload_n 3, 1) := by decide +kernel
theorem dX6_settles_76 : decode cX6_settles 76 = .ok (.iload_n 2, 1) := by decide +kernel
theorem dX6_settles_77 : decode cX6_settles 77 = .ok (.iastore, 1) := by decide +kernel
theorem dX6_settles_78 : decode cX6_settles 78 = .ok (.iinc 3 1, 3) := by decide +kernel
theorem dX6_settles_81 : decode cX6_settles 81 = .ok (.goto (-56), 3) := by decide +kernel
theorem dX6_settles_84 : decode cX6_settles 84 = .ok (.aload_n 0, 1) := by decide +kernel
theorem dX6_settles_85 : decode cX6_settles 85 = .ok (.ldc 187, 2) := by decide +kernel
theorem dX6_settles_87 : decode cX6_settles 87 = .ok (.invokevirtual 60, 3) := by decide +kernel
theorem dX6_settles_90 : decode cX6_settles 90 = .ok (.ireturn, 1) := by decide +kernel
theorem dX6_court_0 : decode cX6_court 0 = .ok (.aload_n 0, 1) := by decide +kernel
theorem dX6_court_1 : decode cX6_court 1 = .ok (.getfield 12, 3) := by decide +kernel
theorem dX6_court_4 : decode cX6_court 4 = .ok (.getfield 64, 3) := by decide +kernel
theorem dX6_court_7 : decode cX6_court 7 = .ok (.iload_n 1, 1) := by decide +kernel
theorem dX6_court_8 : decode cX6_court 8 = .ok (.invokevirtual 78, 3) := by decide +kernel
theorem dX6_court_11 : decode cX6_court 11 = .ok (.ifCond .eq 24, 3) := by decide +kernel
theorem dX6_court_14 : decode cX6_court 14 = .ok (.aload_n 0, 1) := by decide +kernel
theorem dX6_court_15 : decode cX6_court 15 = .ok (.getfield 12, 3) := by decide +kernel
theorem dX6_court_18 : decode cX6_court 18 = .ok (.getfield 64, 3) := by decide +kernel
theorem dX6_court_21 : decode cX6_court 21 = .ok (.iload_n 2, 1) := by decide +kernel
theorem dX6_court_22 : decode cX6_court 22 = .ok (.invokevirtual 78, 3) := by decide +kernel
theorem dX6_court_25 : decode cX6_court 25 = .ok (.ifCond .eq 10, 3) := by decide +kernel
theorem dX6_court_28 : decode cX6_court 28 = .ok (.iload_n 3, 1) := by decide +kernel
theorem dX6_court_29 : decode cX6_court 29 = .ok (.invokestatic 113, 3) := by decide +kernel
theorem dX6_court_32 : decode cX6_court 32 = .ok (.ifCond .ne 10, 3) := by decide +kernel
theorem dX6_court_35 : decode cX6_court 35 = .ok (.aload_n 0, 1) := by decide +kernel
theorem dX6_court_36 : decode cX6_court 36 = .ok (.ldc 59, 2) := by decide +kernel
theorem dX6_court_38 : decode cX6_court 38 = .ok (.invokevirtual 60, 3) := by decide +kernel
theorem dX6_court_41 : decode cX6_court 41 = .ok (.ireturn, 1) := by decide +kernel
theorem dX6_court_42 : decode cX6_court 42 = .ok (.aload_n 0, 1) := by decide +kernel
theorem dX6_court_43 : decode cX6_court 43 = .ok (.getfield 12, 3) := by decide +kernel
theorem dX6_court_46 : decode cX6_court 46 = .ok (.getfield 64, 3) := by decide +kernel
theorem dX6_court_49 : decode cX6_court 49 = .ok (.iload_n 2, 1) := by decide +kernel
theorem dX6_court_50 : decode cX6_court 50 = .ok (.aload_n 0, 1) := by decide +kernel
theorem dX6_court_51 : decode cX6_court 51 = .ok (.getfield 12, 3) := by decide +kernel
theorem dX6_court_54 : decode cX6_court 54 = .ok (.getfield 64, 3) := by decide +kernel
theorem dX6_court_57 : decode cX6_court 57 = .ok (.iload_n 1, 1) := by decide +kernel
theorem dX6_court_58 : decode cX6_court 58 = .ok (.iload_n 3, 1) := by decide +kernel
theorem dX6_court_59 : decode cX6_court 59 = .ok (.invokevirtual 116, 3) := by decide +kernel
theorem dX6_court_62 : decode cX6_court 62 = .ok (.invokevirtual 116, 3) := by decide +kernel
theorem dX6_court_65 : decode cX6_court 65 = .ok (.istore 4, 2) := by decide +kernel
theorem dX6_court_67 : decode cX6_court 67 = .ok (.iload_n 3, 1) := by decide +kernel
theorem dX6_court_68 : decode cX6_court 68 = .ok (.iload 4, 2) := by decide +kernel
theorem dX6_court_70 : decode cX6_court 70 = .ok (.iconst (-1), 1) := by decide +kernel
theorem dX6_court_71 : decode cX6_court 71 = .ok (.ixor, 1) := by decide +kernel
theorem dX6_court_72 : decode cX6_court 72 = .ok (.iand, 1) := by decide +kernel
theorem dX6_court_73 : decode cX6_court 73 = .ok (.invokestatic 191, 3) := by decide +kernel
theorem dX6_court_76 : decode cX6_court 76 = .ok (.bipush 100, 2) := by decide +kernel
theorem dX6_court_78 : decode cX6_court 78 = .ok (.iload 4, 2) := by decide +kernel
theorem dX6_court_80 : decode cX6_court 80 = .ok (.iload_n 3, 1) := by decide +kernel
theorem dX6_court_81 : decode cX6_court 81 = .ok (.iconst (-1), 1) := by decide +kernel
theorem dX6_court_82 : decode cX6_court 82 = .ok (.ixor, 1) := by decide +kernel
theorem dX6_court_83 : decode cX6_court 83 = .ok (.iand, 1) := by decide +kernel
theorem dX6_court_84 : decode cX6_court 84 = .ok (.invokestatic 191, 3) := by decide +kernel
theorem dX6_court_87 : decode cX6_court 87 = .ok (.imul, 1) := by decide +kernel
theorem dX6_court_88 : decode cX6_court 88 = .ok (.iadd, 1) := by decide +kernel
theorem dX6_court_89 : decode cX6_court 89 = .ok (.ireturn, 1) := by decide +kernel
theorem dX6_witness_0 : decode cX6_witness 0 = .ok (.aload_n 0, 1) := by decide +kernel
theorem dX6_witness_1 : decode cX6_witness 1 = .ok (.getfield 12, 3) := by decide +kernel
theorem dX6_witness_4 : decode cX6_witness 4 = .ok (.getfield 64, 3) := by decide +kernel
theorem dX6_witness_7 : decode cX6_witness 7 = .ok (.iload_n 1, 1) := by decide +kernel
theorem dX6_witness_8 : decode cX6_witness 8 = .ok (.invokevirtual 78, 3) := by decide +kernel
theorem dX6_witness_11 : decode cX6_witness 11 = .ok (.ifCond .ne 10, 3) := by decide +kernel
theorem dX6_witness_14 : decode cX6_witness 14 = .ok (.aload_n 0, 1) := by decide +kernel
theorem dX6_witness_15 : decode cX6_witness 15 = .ok (.ldc 59, 2) := by decide +kernel
theorem dX6_witness_17 : decode cX6_witness 17 = .ok (.invokevirtual 60, 3) := by decide +kernel
theorem dX6_witness_20 : decode cX6_witness 20 = .ok (.ireturn, 1) := by decide +kernel
theorem dX6_witness_21 : decode cX6_witness 21 = .ok (.iconst 0, 1) := by decide +kernel
theorem dX6_witness_22 : decode cX6_witness 22 = .ok (.istore_n 2, 1) := by decide +kernel
theorem dX6_witness_23 : decode cX6_witness 23 = .ok (.sipush 4097, 3) := by decide +kernel
theorem dX6_witness_26 : decode cX6_witness 26 = .ok (.istore_n 3, 1) := by decide +kernel
theorem dX6_witness_27 : decode cX6_witness 27 = .ok (.iconst 0, 1) := by decide +kernel
theorem dX6_witness_28 : decode cX6_witness 28 = .ok (.istore 4, 2) := by decide +kernel
theorem dX6_witness_30 : decode cX6_witness 30 = .ok (.iload 4, 2) := by decide +kernel
theorem dX6_witness_32 : decode cX6_witness 32 = .ok (.aload_n 0, 1) := by decide +kernel
theorem dX6_witness_33 : decode cX6_witness 33 = .ok (.getfield 12, 3) := by decide +kernel
theorem dX6_witness_36 : decode cX6_witness 36 = .ok (.getfield 64, 3) := by decide +kernel
theorem dX6_witness_39 : decode cX6_witness 39 = .ok (.getfield 196, 3) := by decide +kernel
theorem dX6_witness_42 : decode cX6_witness 42 = .ok (.if_icmp .ge 74, 3) := by decide +kernel
theorem dX6_witness_45 : decode cX6_witness 45 = .ok (.iconst 0, 1) := by decide +kernel
theorem dX6_witness_46 : decode cX6_witness 46 = .ok (.istore 5, 2) := by decide +kernel
theorem dX6_witness_48 : decode cX6_witness 48 = .ok (.iconst 0, 1) := by decide +kernel
theorem dX6_witness_49 : decode cX6_witness 49 = .ok (.istore 6, 2) := by decide +kernel
theorem dX6_witness_51 : decode cX6_witness 51 = .ok (.iload 6, 2) := by decide +kernel
theorem dX6_witness_53 : decode cX6_witness 53 = .ok (.sipush 4096, 3) := by decide +kernel
theorem dX6_witness_56 : decode cX6_witness 56 = .ok (.if_icmp .ge 42, 3) := by decide +kernel
theorem dX6_witness_59 : decode cX6_witness 59 = .ok (.aload_n 0, 1) := by decide +kernel
theorem dX6_witness_60 : decode cX6_witness 60 = .ok (.getfield 12, 3) := by decide +kernel
theorem dX6_witness_63 : decode cX6_witness 63 = .ok (.getfield 64, 3) := by decide +kernel
theorem dX6_witness_66 : decode cX6_witness 66 = .ok (.iload 4, 2) := by decide +kernel
theorem dX6_witness_68 : decode cX6_witness 68 = .ok (.aload_n 0, 1) := by decide +kernel
theorem dX6_witness_69 : decode cX6_witness 69 = .ok (.getfield 12, 3) := by decide +kernel
theorem dX6_witness_72 : decode cX6_witness 72 = .ok (.getfield 64, 3) := by decide +kernel
theorem dX6_witness_75 : decode cX6_witness 75 = .ok (.iload_n 1, 1) := by decide +kernel
theorem dX6_witness_76 : decode cX6_witness 76 = .ok (.iload 6, 2) := by decide +kernel
theorem dX6_witness_78 : decode cX6_witness 78 = .ok (.invokevirtual 116, 3) := by decide +kernel
theorem dX6_witness_81 : decode cX6_witness 81 = .ok (.invokevirtual 116, 3) := by decide +kernel
theorem dX6_witness_84 : decode cX6_witness 84 = .ok (.iload 6, 2) := by decide +kernel
theorem dX6_witness_86 : decode cX6_witness 86 = .ok (.if_icmp .eq 6, 3) := by decide +kernel
theorem dX6_witness_89 : decode cX6_witness 89 = .ok (.iinc 5 1, 3) := by decide +kernel
theorem dX6_witness_92 : decode cX6_witness 92 = .ok (.iinc 6 1, 3) := by decide +kernel
theorem dX6_witness_95 : decode cX6_witness 95 = .ok (.goto (-44), 3) := by decide +kernel
theorem dX6_witness_98 : decode cX6_witness 98 = .ok (.iload 5, 2) := by decide +kernel
theorem dX6_witness_100 : decode cX6_witness 100 = .ok (.iload_n 3, 1) := by decide +kernel
theorem dX6_witness_101 : decode cX6_witness 101 = .ok (.if_icmp .ge 9, 3) := by decide +kernel
theorem dX6_witness_104 : decode cX6_witness 104 = .ok (.iload 5, 2) := by decide +kernel
theorem dX6_witness_106 : decode cX6_witness 106 = .ok (.istore_n 3, 1) := by decide +kernel
theorem dX6_witness_107 : decode cX6_witness 107 = .ok (.iload 4, 2) := by decide +kernel
theorem dX6_witness_109 : decode cX6_witness 109 = .ok (.istore_n 2, 1) := by decide +kernel
theorem dX6_witness_110 : decode cX6_witness 110 = .ok (.iinc 4 1, 3) := by decide +kernel
theorem dX6_witness_113 : decode cX6_witness 113 = .ok (.goto (-83), 3) := by decide +kernel
theorem dX6_witness_116 : decode cX6_witness 116 = .ok (.iload_n 2, 1) := by decide +kernel
theorem dX6_witness_117 : decode cX6_witness 117 = .ok (.ireturn, 1) := by decide +kernel
theorem dX6_price_0 : decode cX6_price 0 = .ok (.aload_n 0, 1) := by decide +kernel
theorem dX6_price_1 : decode cX6_price 1 = .ok (.getfield 12, 3) := by decide +kernel
theorem dX6_price_4 : decode cX6_price 4 = .ok (.getfield 64, 3) := by decide +kernel
theorem dX6_price_7 : decode cX6_price 7 = .ok (.iload_n 1, 1) := by decide +kernel
theorem dX6_price_8 : decode cX6_price 8 = .ok (.invokevirtual 78, 3) := by decide +kernel
theorem dX6_price_11 : decode cX6_price 11 = .ok (.ifCond .eq 14, 3) := by decide +kernel
theorem dX6_price_14 : decode cX6_price 14 = .ok (.iload_n 2, 1) := by decide +kernel
theorem dX6_price_15 : decode cX6_price 15 = .ok (.iconst 1, 1) := by decide +kernel
theorem dX6_price_16 : decode cX6_price 16 = .ok (.if_icmp .lt 9, 3) := by decide +kernel
theorem dX6_price_19 : decode cX6_price 19 = .ok (.iload_n 2, 1) := by decide +kernel
theorem dX6_price_20 : decode cX6_price 20 = .ok (.bipush 20, 2) := by decide +kernel
theorem dX6_price_22 : decode cX6_price 22 = .ok (.if_icmp .le 10, 3) := by decide +kernel
theorem dX6_price_25 : decode cX6_price 25 = .ok (.aload_n 0, 1) := by decide +kernel
theorem dX6_price_26 : decode cX6_price 26 = .ok (.ldc 59, 2) := by decide +kernel
theorem dX6_price_28 : decode cX6_price 28 = .ok (.invokevirtual 60, 3) := by decide +kernel
theorem dX6_price_31 : decode cX6_price 31 = .ok (.ireturn, 1) := by decide +kernel
theorem dX6_price_32 : decode cX6_price 32 = .ok (.aload_n 0, 1) := by decide +kernel
theorem dX6_price_33 : decode cX6_price 33 = .ok (.getfield 12, 3) := by decide +kernel
theorem dX6_price_36 : decode cX6_price 36 = .ok (.iload_n 2, 1) := by decide +kernel
theorem dX6_price_37 : decode cX6_price 37 = .ok (.invokevirtual 131, 3) := by decide +kernel
theorem dX6_price_40 : decode cX6_price 40 = .ok (.ifCond .ne 10, 3) := by decide +kernel
theorem dX6_price_43 : decode cX6_price 43 = .ok (.aload_n 0, 1) := by decide +kernel
theorem dX6_price_44 : decode cX6_price 44 = .ok (.ldc 130, 2) := by decide +kernel
theorem dX6_price_46 : decode cX6_price 46 = .ok (.invokevirtual 60, 3) := by decide +kernel
theorem dX6_price_49 : decode cX6_price 49 = .ok (.ireturn, 1) := by decide +kernel
theorem dX6_price_50 : decode cX6_price 50 = .ok (.iconst 0, 1) := by decide +kernel
theorem dX6_price_51 : decode cX6_price 51 = .ok (.istore_n 3, 1) := by decide +kernel
theorem dX6_price_52 : decode cX6_price 52 = .ok (.iconst (-1), 1) := by decide +kernel
theorem dX6_price_53 : decode cX6_price 53 = .ok (.istore 4, 2) := by decide +kernel
theorem dX6_price_55 : decode cX6_price 55 = .ok (.iconst 0, 1) := by decide +kernel
theorem dX6_price_56 : decode cX6_price 56 = .ok (.istore 5, 2) := by decide +kernel
theorem dX6_price_58 : decode cX6_price 58 = .ok (.iload 5, 2) := by decide +kernel
theorem dX6_price_60 : decode cX6_price 60 = .ok (.bipush 99, 2) := by decide +kernel
theorem dX6_price_62 : decode cX6_price 62 = .ok (.if_icmp .gt 76, 3) := by decide +kernel
theorem dX6_price_65 : decode cX6_price 65 = .ok (.aload_n 0, 1) := by decide +kernel
theorem dX6_price_66 : decode cX6_price 66 = .ok (.getfield 16, 3) := by decide +kernel
theorem dX6_price_69 : decode cX6_price 69 = .ok (.aload_n 0, 1) := by decide +kernel
theorem dX6_price_70 : decode cX6_price 70 = .ok (.getfield 12, 3) := by decide +kernel
theorem dX6_price_73 : decode cX6_price 73 = .ok (.invokevirtual 177, 3) := by decide +kernel
theorem dX6_price_76 : decode cX6_price 76 = .ok (.aload_n 0, 1) := by decide +kernel
theorem dX6_price_77 : decode cX6_price 77 = .ok (.getfield 16, 3) := by decide +kernel
theorem dX6_price_80 : decode cX6_price 80 = .ok (.getfield 64, 3) := by decide +kernel
theorem dX6_price_83 : decode cX6_price 83 = .ok (.getfield 215, 3) := by decide +kernel
theorem dX6_price_86 : decode cX6_price 86 = .ok (.iload_n 1, 1) := by decide +kernel
theorem dX6_price_87 : decode cX6_price 87 = .ok (.iload 5, 2) := by decide +kernel
theorem dX6_price_89 : decode cX6_price 89 = .ok (.iastore, 1) := by decide +kernel
theorem dX6_price_90 : decode cX6_price 90 = .ok (.aload_n 0, 1) := by decide +kernel
theorem dX6_price_91 : decode cX6_price 91 = .ok (.getfield 16, 3) := by decide +kernel
theorem dX6_price_94 : decode cX6_price 94 = .ok (.iload_n 2, 1) := by decide +kernel
theorem dX6_price_95 : decode cX6_price 95 = .ok (.invokevirtual 138, 3) := by decide +kernel
theorem dX6_price_98 : decode cX6_price 98 = .ok (.aload_n 0, 1) := by decide +kernel
theorem dX6_price_99 : decode cX6_price 99 = .ok (.getfield 16, 3) := by decide +kernel
theorem dX6_price_102 : decode cX6_price 102 = .ok (.getfield 64, 3) := by decide +kernel
theorem dX6_price_105 : decode cX6_price 105 = .ok (.getfield 218, 3) := by decide +kernel
theorem dX6_price_108 : decode cX6_price 108 = .ok (.iload_n 1, 1) := by decide +kernel
theorem dX6_price_109 : decode cX6_price 109 = .ok (.iaload, 1) := by decide +kernel
theorem dX6_price_110 : decode cX6_price 110 = .ok (.iload 4, 2) := by decide +kernel
theorem dX6_price_112 : decode cX6_price 112 = .ok (.if_icmp .le 20, 3) := by decide +kernel
theorem dX6_price_115 : decode cX6_price 115 = .ok (.aload_n 0, 1) := by decide +kernel
theorem dX6_price_116 : decode cX6_price 116 = .ok (.getfield 16, 3) := by decide +kernel
theorem dX6_price_119 : decode cX6_price 119 = .ok (.getfield 64, 3) := by decide +kernel
theorem dX6_price_122 : decode cX6_price 122 = .ok (.getfield 218, 3) := by decide +kernel
theorem dX6_price_125 : decode cX6_price 125 = .ok (.iload_n 1, 1) := by decide +kernel
theorem dX6_price_126 : decode cX6_price 126 = .ok (.iaload, 1) := by decide +kernel
theorem dX6_price_127 : decode cX6_price 127 = .ok (.istore 4, 2) := by decide +kernel
theorem dX6_price_129 : decode cX6_price 129 = .ok (.iload 5, 2) := by decide +kernel
theorem dX6_price_131 : decode cX6_price 131 = .ok (.istore_n 3, 1) := by decide +kernel
theorem dX6_price_132 : decode cX6_price 132 = .ok (.iinc 5 1, 3) := by decide +kernel
theorem dX6_price_135 : decode cX6_price 135 = .ok (.goto (-77), 3) := by decide +kernel
theorem dX6_price_138 : decode cX6_price 138 = .ok (.iload_n 3, 1) := by decide +kernel
theorem dX6_price_139 : decode cX6_price 139 = .ok (.ireturn, 1) := by decide +kernel
theorem dX6_school_0 : decode cX6_school 0 = .ok (.iload_n 1, 1) := by decide +kernel
theorem dX6_school_1 : decode cX6_school 1 = .ok (.iconst 2, 1) := by decide +kernel
theorem dX6_school_2 : decode cX6_school 2 = .ok (.if_icmp .lt 9, 3) := by decide +kernel
theorem dX6_school_5 : decode cX6_school 5 = .ok (.iload_n 1, 1) := by decide +kernel
theorem dX6_school_6 : decode cX6_school 6 = .ok (.bipush 8, 2) := by decide +kernel
theorem dX6_school_8 : decode cX6_school 8 = .ok (.if_icmp .le 10, 3) := by decide +kernel
theorem dX6_school_11 : decode cX6_school 11 = .ok (.aload_n 0, 1) := by decide +kernel
theorem dX6_school_12 : decode cX6_school 12 = .ok (.ldc 59, 2) := by decide +kernel
theorem dX6_school_14 : decode cX6_school 14 = .ok (.invokevirtual 60, 3) := by decide +kernel
theorem dX6_school_17 : decode cX6_school 17 = .ok (.ireturn, 1) := by decide +kernel
theorem dX6_school_18 : decode cX6_school 18 = .ok (.aload_n 0, 1) := by decide +kernel
theorem dX6_school_19 : decode cX6_school 19 = .ok (.getfield 12, 3) := by decide +kernel
theorem dX6_school_22 : decode cX6_school 22 = .ok (.iconst 1, 1) := by decide +kernel
theorem dX6_school_23 : decode cX6_school 23 = .ok (.invokevirtual 131, 3) := by decide +kernel
theorem dX6_school_26 : decode cX6_school 26 = .ok (.ifCond .ne 10, 3) := by decide +kernel
theorem dX6_school_29 : decode cX6_school 29 = .ok (.aload_n 0, 1) := by decide +kernel
theorem dX6_school_30 : decode cX6_school 30 = .ok (.ldc 130, 2) := by decide +kernel
theorem dX6_school_32 : decode cX6_school 32 = .ok (.invokevirtual 60, 3) := by decide +kernel
theorem dX6_school_35 : decode cX6_school 35 = .ok (.ireturn, 1) := by decide +kernel
theorem dX6_school_36 : decode cX6_school 36 = .ok (.aload_n 0, 1) := by decide +kernel
theorem dX6_school_37 : decode cX6_school 37 = .ok (.getfield 16, 3) := by decide +kernel
theorem dX6_school_40 : decode cX6_school 40 = .ok (.aload_n 0, 1) := by decide +kernel
theorem dX6_school_41 : decode cX6_school 41 = .ok (.getfield 12, 3) := by decide +kernel
theorem dX6_school_44 : decode cX6_school 44 = .ok (.invokevirtual 177, 3) := by decide +kernel
theorem dX6_school_47 : decode cX6_school 47 = .ok (.aload_n 0, 1) := by decide +kernel
theorem dX6_school_48 : decode cX6_school 48 = .ok (.getfield 16, 3) := by decide +kernel
theorem dX6_school_51 : decode cX6_school 51 = .ok (.iconst 1, 1) := by decide +kernel
theorem dX6_school_52 : decode cX6_school 52 = .ok (.invokevirtual 138, 3) := by decide +kernel
theorem dX6_school_55 : decode cX6_school 55 = .ok (.aload_n 0, 1) := by decide +kernel
theorem dX6_school_56 : decode cX6_school 56 = .ok (.getfield 16, 3) := by decide +kernel
theorem dX6_school_59 : decode cX6_school 59 = .ok (.getfield 221, 3) := by decide +kernel
theorem dX6_school_62 : decode cX6_school 62 = .ok (.istore_n 2, 1) := by decide +kernel
theorem dX6_school_63 : decode cX6_school 63 = .ok (.aload_n 0, 1) := by decide +kernel
theorem dX6_school_64 : decode cX6_school 64 = .ok (.getfield 16, 3) := by decide +kernel
theorem dX6_school_67 : decode cX6_school 67 = .ok (.aload_n 0, 1) := by decide +kernel
theorem dX6_school_68 : decode cX6_school 68 = .ok (.getfield 12, 3) := by decide +kernel
theorem dX6_school_71 : decode cX6_school 71 = .ok (.invokevirtual 177, 3) := by decide +kernel
theorem dX6_school_74 : decode cX6_school 74 = .ok (.iconst 0, 1) := by decide +kernel
theorem dX6_school_75 : decode cX6_school 75 = .ok (.istore_n 3, 1) := by decide +kernel
theorem dX6_school_76 : decode cX6_school 76 = .ok (.iload_n 3, 1) := by decide +kernel
theorem dX6_school_77 : decode cX6_school 77 = .ok (.aload_n 0, 1) := by decide +kernel
theorem dX6_school_78 : decode cX6_school 78 = .ok (.getfield 16, 3) := by decide +kernel
theorem dX6_school_81 : decode cX6_school 81 = .ok (.getfield 85, 3) := by decide +kernel
theorem dX6_school_84 : decode cX6_school 84 = .ok (.getfield 174, 3) := by decide +kernel
theorem dX6_school_87 : decode cX6_school 87 = .ok (.if_icmp .ge 23, 3) := by decide +kernel
theorem dX6_school_90 : decode cX6_school 90 = .ok (.aload_n 0, 1) := by decide +kernel
theorem dX6_school_91 : decode cX6_school 91 = .ok (.getfield 16, 3) := by decide +kernel
theorem dX6_school_94 : decode cX6_school 94 = .ok (.getfield 85, 3) := by decide +kernel
theorem dX6_school_97 : decode cX6_school 97 = .ok (.getfield 224, 3) := by decide +kernel
theorem dX6_school_100 : decode cX6_school 100 = .ok (.iload_n 3, 1) := by decide +kernel
theorem dX6_school_101 : decode cX6_school 101 = .ok (.iconst 1, 1) := by decide +kernel
theorem dX6_school_102 : decode cX6_school 102 = .ok (.iastore, 1) := by decide +kernel
theorem dX6_school_103 : decode cX6_school 103 = .ok (.iload_n 3, 1) := by decide +kernel
theorem dX6_school_104 : decode cX6_school 104 = .ok (.iload_n 1, 1) := by decide +kernel
theorem dX6_school_105 : decode cX6_school 105 = .ok (.iadd, 1) := by decide +kernel
theorem dX6_school_106 : decode cX6_school 106 = .ok (.istore_n 3, 1) := by decide +kernel
theorem dX6_school_107 : decode cX6_school 107 = .ok (.goto (-31), 3) := by decide +kernel
theorem dX6_school_110 : decode cX6_school 110 = .ok (.aload_n 0, 1) := by decide +kernel
theorem dX6_school_111 : decode cX6_school 111 = .ok (.getfield 16, 3) := by decide +kernel
theorem dX6_school_114 : decode cX6_school 114 = .ok (.iconst 1, 1) := by decide +kernel
theorem dX6_school_115 : decode cX6_school 115 = .ok (.invokevirtual 138, 3) := by decide +kernel
theorem dX6_school_118 : decode cX6_school 118 = .ok (.iload_n 2, 1) := by decide +kernel
theorem dX6_school_119 : decode cX6_school 119 = .ok (.aload_n 0, 1) := by decide +kernel
theorem dX6_school_120 : decode cX6_school 120 = .ok (.getfield 16, 3) := by decide +kernel
theorem dX6_school_123 : decode cX6_school 123 = .ok (.getfield 221, 3) := by decide +kernel
theorem dX6_school_126 : decode cX6_school 126 = .ok (.isub, 1) := by decide +kernel
theorem dX6_school_127 : decode cX6_school 127 = .ok (.ireturn, 1) := by decide +kernel
theorem dX6_gossip_0 : decode cX6_gossip 0 = .ok (.iload_n 1, 1) := by decide +kernel
theorem dX6_gossip_1 : decode cX6_gossip 1 = .ok (.iconst 1, 1) := by decide +kernel
theorem dX6_gossip_2 : decode cX6_gossip 2 = .ok (.if_icmp .lt 9, 3) := by decide +kernel
theorem dX6_gossip_5 : decode cX6_gossip 5 = .ok (.iload_n 1, 1) := by decide +kernel
theorem dX6_gossip_6 : decode cX6_gossip 6 = .ok (.bipush 12, 2) := by decide +kernel
theorem dX6_gossip_8 : decode cX6_gossip 8 = .ok (.if_icmp .le 10, 3) := by decide +kernel
theorem dX6_gossip_11 : decode cX6_gossip 11 = .ok (.aload_n 0, 1) := by decide +kernel
theorem dX6_gossip_12 : decode cX6_gossip 12 = .ok (.ldc 59, 2) := by decide +kernel
theorem dX6_gossip_14 : decode cX6_gossip 14 = .ok (.invokevirtual 60, 3) := by decide +kernel
theorem dX6_gossip_17 : decode cX6_gossip 17 = .ok (.ireturn, 1) := by decide +kernel
theorem dX6_gossip_18 : decode cX6_gossip 18 = .ok (.aload_n 0, 1) := by decide +kernel
theorem dX6_gossip_19 : decode cX6_gossip 19 = .ok (.getfield 12, 3) := by decide +kernel
theorem dX6_gossip_22 : decode cX6_gossip 22 = .ok (.getfield 85, 3) := by decide +kernel
theorem dX6_gossip_25 : decode cX6_gossip 25 = .ok (.getfield 174, 3) := by decide +kernel
theorem dX6_gossip_28 : decode cX6_gossip 28 = .ok (.istore_n 2, 1) := by decide +kernel
theorem dX6_gossip_29 : decode cX6_gossip 29 = .ok (.iload_n 2, 1) := by decide +kernel
theorem dX6_gossip_30 : decode cX6_gossip 30 = .ok (.iconst 1, 1) := by decide +kernel
theorem dX6_gossip_31 : decode cX6_gossip 31 = .ok (.if_icmp .ge 10, 3) := by decide +kernel
theorem dX6_gossip_34 : decode cX6_gossip 34 = .ok (.aload_n 0, 1) := by decide +kernel
theorem dX6_gossip_35 : decode cX6_gossip 35 = .ok (.ldc 130, 2) := by decide +kernel
theorem dX6_gossip_37 : decode cX6_gossip 37 = .ok (.invokevirtual 60, 3) := by decide +kernel
theorem dX6_gossip_40 : decode cX6_gossip 40 = .ok (.ireturn, 1) := by decide +kernel
theorem dX6_gossip_41 : decode cX6_gossip 41 = .ok (.iconst 0, 1) := by decide +kernel
theorem dX6_gossip_42 : decode cX6_gossip 42 = .ok (.istore_n 3, 1) := by decide +kernel
theorem dX6_gossip_43 : decode cX6_gossip 43 = .ok (.iload_n 3, 1) := by decide +kernel
theorem dX6_gossip_44 : decode cX6_gossip 44 = .ok (.iload_n 1, 1) := by decide +kernel
theorem dX6_gossip_45 : decode cX6_gossip 45 = .ok (.if_icmp .ge 48, 3) := by decide +kernel
theorem dX6_gossip_48 : decode cX6_gossip 48 = .ok (.aload_n 0, 1) := by decide +kernel
theorem dX6_gossip_49 : decode cX6_gossip 49 = .ok (.getfield 12, 3) := by decide +kernel
theorem dX6_gossip_52 : decode cX6_gossip 52 = .ok (.invokevirtual 227, 3) := by decide +kernel
theorem dX6_gossip_55 : decode cX6_gossip 55 = .ok (.iload_n 2, 1) := by decide +kernel
theorem dX6_gossip_56 : decode cX6_gossip 56 = .ok (.irem, 1) := by decide +kernel
theorem dX6_gossip_57 : decode cX6_gossip 57 = .ok (.istore 4, 2) := by decide +kernel
theorem dX6_gossip_59 : decode cX6_gossip 59 = .ok (.aload_n 0, 1) := by decide +kernel
theorem dX6_gossip_60 : decode cX6_gossip 60 = .ok (.getfield 12, 3) := by decide +kernel
theorem dX6_gossip_63 : decode cX6_gossip 63 = .ok (.getfield 85, 3) := by decide +kernel
theorem dX6_gossip_66 : decode cX6_gossip 66 = .ok (.getfield 156, 3) := by decide +kernel
theorem dX6_gossip_69 : decode cX6_gossip 69 = .ok (.iload 4, 2) := by decide +kernel
theorem dX6_gossip_71 : decode cX6_gossip 71 = .ok (.dup2, 1) := by decide +kernel
theorem dX6_gossip_72 : decode cX6_gossip 72 = .ok (.iaload, 1) := by decide +kernel
theorem dX6_gossip_73 : decode cX6_gossip 73 = .ok (.iconst 1, 1) := by decide +kernel
theorem dX6_gossip_74 : decode cX6_gossip 74 = .ok (.aload_n 0, 1) := by decide +kernel
theorem dX6_gossip_75 : decode cX6_gossip 75 = .ok (.getfield 12, 3) := by decide +kernel
theorem dX6_gossip_78 : decode cX6_gossip 78 = .ok (.invokevirtual 227, 3) := by decide +kernel
theorem dX6_gossip_81 : decode cX6_gossip 81 = .ok (.bipush 12, 2) := by decide +kernel
theorem dX6_gossip_83 : decode cX6_gossip 83 = .ok (.irem, 1) := by decide +kernel
theorem dX6_gossip_84 : decode cX6_gossip 84 = .ok (.ishl, 1) := by decide +kernel
theorem dX6_gossip_85 : decode cX6_gossip 85 = .ok (.ior, 1) := by decide +kernel
theorem dX6_gossip_86 : decode cX6_gossip 86 = .ok (.iastore, 1) := by decide +kernel
theorem dX6_gossip_87 : decode cX6_gossip 87 = .ok (.iinc 3 1, 3) := by decide +kernel
theorem dX6_gossip_90 : decode cX6_gossip 90 = .ok (.goto (-47), 3) := by decide +kernel
theorem dX6_gossip_93 : decode cX6_gossip 93 = .ok (.aload_n 0, 1) := by decide +kernel
theorem dX6_gossip_94 : decode cX6_gossip 94 = .ok (.getfield 12, 3) := by decide +kernel
theorem dX6_gossip_97 : decode cX6_gossip 97 = .ok (.getfield 85, 3) := by decide +kernel
theorem dX6_gossip_100 : decode cX6_gossip 100 = .ok (.aload_n 0, 1) := by decide +kernel
theorem dX6_gossip_101 : decode cX6_gossip 101 = .ok (.getfield 12, 3) := by decide +kernel
theorem dX6_gossip_104 : decode cX6_gossip 104 = .ok (.getfield 85, 3) := by decide +kernel
theorem dX6_gossip_107 : decode cX6_gossip 107 = .ok (.getfield 156, 3) := by decide +kernel
theorem dX6_gossip_110 : decode cX6_gossip 110 = .ok (.invokevirtual 152, 3) := by decide +kernel
theorem dX6_gossip_113 : decode cX6_gossip 113 = .ok (.ireturn, 1) := by decide +kernel
theorem dX6_seed_0 : decode cX6_seed 0 = .ok (.aload_n 0, 1) := by decide +kernel
theorem dX6_seed_1 : decode cX6_seed 1 = .ok (.getfield 12, 3) := by decide +kernel
theorem dX6_seed_4 : decode cX6_seed 4 = .ok (.getfield 230, 3) := by decide +kernel
theorem dX6_seed_7 : decode cX6_seed 7 = .ok (.istore_n 2, 1) := by decide +kernel
theorem dX6_seed_8 : decode cX6_seed 8 = .ok (.aload_n 0, 1) := by decide +kernel
theorem dX6_seed_9 : decode cX6_seed 9 = .ok (.getfield 12, 3) := by decide +kernel
theorem dX6_seed_12 : decode cX6_seed 12 = .ok (.iload_n 1, 1) := by decide +kernel
theorem dX6_seed_13 : decode cX6_seed 13 = .ok (.putfield 230, 3) := by decide +kernel
theorem dX6_seed_16 : decode cX6_seed 16 = .ok (.iload_n 2, 1) := by decide +kernel
theorem dX6_seed_17 : decode cX6_seed 17 = .ok (.ireturn, 1) := by decide +kernel
theorem dX6_feed_0 : decode cX6_feed 0 = .ok (.iload_n 2, 1) := by decide +kernel
theorem dX6_feed_1 : decode cX6_feed 1 = .ok (.iconst 1, 1) := by decide +kernel
theorem dX6_feed_2 : decode cX6_feed 2 = .ok (.if_icmp .lt 8, 3) := by decide +kernel
theorem dX6_feed_5 : decode cX6_feed 5 = .ok (.iload_n 2, 1) := by decide +kernel
theorem dX6_feed_6 : decode cX6_feed 6 = .ok (.iconst 4, 1) := by decide +kernel
theorem dX6_feed_7 : decode cX6_feed 7 = .ok (.if_icmp .le 10, 3) := by decide +kernel
theorem dX6_feed_10 : decode cX6_feed 10 = .ok (.aload_n 0, 1) := by decide +kernel
theorem dX6_feed_11 : decode cX6_feed 11 = .ok (.ldc 59, 2) := by decide +kernel
theorem dX6_feed_13 : decode cX6_feed 13 = .ok (.invokevirtual 60, 3) := by decide +kernel
theorem dX6_feed_16 : decode cX6_feed 16 = .ok (.ireturn, 1) := by decide +kernel
theorem dX6_feed_17 : decode cX6_feed 17 = .ok (.aload_n 0, 1) := by decide +kernel
theorem dX6_feed_18 : decode cX6_feed 18 = .ok (.getfield 25, 3) := by decide +kernel
theorem dX6_feed_21 : decode cX6_feed 21 = .ok (.getfield 233, 3) := by decide +kernel
theorem dX6_feed_24 : decode cX6_feed 24 = .ok (.iload_n 2, 1) := by decide +kernel
theorem dX6_feed_25 : decode cX6_feed 25 = .ok (.iadd, 1) := by decide +kernel
theorem dX6_feed_26 : decode cX6_feed 26 = .ok (.bipush 120, 2) := by decide +kernel
theorem dX6_feed_28 : decode cX6_feed 28 = .ok (.if_icmp .le 10, 3) := by decide +kernel
theorem dX6_feed_31 : decode cX6_feed 31 = .ok (.aload_n 0, 1) := by decide +kernel
theorem dX6_feed_32 : decode cX6_feed 32 = .ok (.ldc 73, 2) := by decide +kernel
theorem dX6_feed_34 : decode cX6_feed 34 = .ok (.invokevirtual 60, 3) := by decide +kernel
theorem dX6_feed_37 : decode cX6_feed 37 = .ok (.ireturn, 1) := by decide +kernel
theorem dX6_feed_38 : decode cX6_feed 38 = .ok (.aload_n 0, 1) := by decide +kernel
theorem dX6_feed_39 : decode cX6_feed 39 = .ok (.getfield 25, 3) := by decide +kernel
theorem dX6_feed_42 : decode cX6_feed 42 = .ok (.iload_n 1, 1) := by decide +kernel
theorem dX6_feed_43 : decode cX6_feed 43 = .ok (.iload_n 2, 1) := by decide +kernel
theorem dX6_feed_44 : decode cX6_feed 44 = .ok (.invokevirtual 234, 3) := by decide +kernel
theorem dX6_feed_47 : decode cX6_feed 47 = .ok (.aload_n 0, 1) := by decide +kernel
theorem dX6_feed_48 : decode cX6_feed 48 = .ok (.getfield 25, 3) := by decide +kernel
theorem dX6_feed_51 : decode cX6_feed 51 = .ok (.getfield 233, 3) := by decide +kernel
theorem dX6_feed_54 : decode cX6_feed 54 = .ok (.ireturn, 1) := by decide +kernel
theorem dX6_wipe_0 : decode cX6_wipe 0 = .ok (.aload_n 0, 1) := by decide +kernel
theorem dX6_wipe_1 : decode cX6_wipe 1 = .ok (.getfield 25, 3) := by decide +kernel
theorem dX6_wipe_4 : decode cX6_wipe 4 = .ok (.getfield 233, 3) := by decide +kernel
theorem dX6_wipe_7 : decode cX6_wipe 7 = .ok (.istore_n 1, 1) := by decide +kernel
theorem dX6_wipe_8 : decode cX6_wipe 8 = .ok (.aload_n 0, 1) := by decide +kernel
theorem dX6_wipe_9 : decode cX6_wipe 9 = .ok (.getfield 25, 3) := by decide +kernel
theorem dX6_wipe_12 : decode cX6_wipe 12 = .ok (.iconst 0, 1) := by decide +kernel
theorem dX6_wipe_13 : decode cX6_wipe 13 = .ok (.putfield 233, 3) := by decide +kernel
theorem dX6_wipe_16 : decode cX6_wipe 16 = .ok (.iload_n 1, 1) := by decide +kernel
theorem dX6_wipe_17 : decode cX6_wipe 17 = .ok (.ireturn, 1) := by decide +kernel
theorem dX6_text_0 : decode cX6_text 0 = .ok (.aload_n 0, 1) := by decide +kernel
theorem dX6_text_1 : decode cX6_text 1 = .ok (.getfield 16, 3) := by decide +kernel
theorem dX6_text_4 : decode cX6_text 4 = .ok (.aload_n 0, 1) := by decide +kernel
theorem dX6_text_5 : decode cX6_text 5 = .ok (.getfield 12, 3) := by decide +kernel
theorem dX6_text_8 : decode cX6_text 8 = .ok (.invokevirtual 177, 3) := by decide +kernel
theorem dX6_text_11 : decode cX6_text 11 = .ok (.aload_n 0, 1) := by decide +kernel
theorem dX6_text_12 : decode cX6_text 12 = .ok (.getfield 34, 3) := by decide +kernel
theorem dX6_text_15 : decode cX6_text 15 = .ok (.invokevirtual 238, 3) := by decide +kernel
theorem dX6_text_18 : decode cX6_text 18 = .ok (.istore_n 1, 1) := by decide +kernel
theorem dX6_text_19 : decode cX6_text 19 = .ok (.iload_n 1, 1) := by decide +kernel
theorem dX6_text_20 : decode cX6_text 20 = .ok (.ifCond .lt 14, 3) := by decide +kernel
theorem dX6_text_23 : decode cX6_text 23 = .ok (.aload_n 0, 1) := by decide +kernel
theorem dX6_text_24 : decode cX6_text 24 = .ok (.getfield 12, 3) := by decide +kernel
theorem dX6_text_27 : decode cX6_text 27 = .ok (.aload_n 0, 1) := by decide +kernel
theorem dX6_text_28 : decode cX6_text 28 = .ok (.getfield 16, 3) := by decide +kernel
theorem dX6_text_31 : decode cX6_text 31 = .ok (.invokevirtual 177, 3) := by decide +kernel
theorem dX6_text_34 : decode cX6_text 34 = .ok (.aload_n 0, 1) := by decide +kernel
theorem dX6_text_35 : decode cX6_text 35 = .ok (.getfield 25, 3) := by decide +kernel
theorem dX6_text_38 : decode cX6_text 38 = .ok (.iconst 0, 1) := by decide +kernel
theorem dX6_text_39 : decode cX6_text 39 = .ok (.putfield 233, 3) := by decide +kernel
theorem dX6_text_42 : decode cX6_text 42 = .ok (.iload_n 1, 1) := by decide +kernel
theorem dX6_text_43 : decode cX6_text 43 = .ok (.ireturn, 1) := by decide +kernel
theorem dX6_hold_0 : decode cX6_hold 0 = .ok (.iload_n 1, 1) := by decide +kernel
theorem dX6_hold_1 : decode cX6_hold 1 = .ok (.invokestatic 241, 3) := by decide +kernel
theorem dX6_hold_4 : decode cX6_hold 4 = .ok (.ifCond .eq 22, 3) := by decide +kernel
theorem dX6_hold_7 : decode cX6_hold 7 = .ok (.iload_n 2, 1) := by decide +kernel
theorem dX6_hold_8 : decode cX6_hold 8 = .ok (.iconst (-1), 1) := by decide +kernel
theorem dX6_hold_9 : decode cX6_hold 9 = .ok (.if_icmp .eq 24, 3) := by decide +kernel
theorem dX6_hold_12 : decode cX6_hold 12 = .ok (.aload_n 0, 1) := by decide +kernel
theorem dX6_hold_13 : decode cX6_hold 13 = .ok (.getfield 12, 3) := by decide +kernel
theorem dX6_hold_16 : decode cX6_hold 16 = .ok (.getfield 64, 3) := by decide +kernel
theorem dX6_hold_19 : decode cX6_hold 19 = .ok (.iload_n 2, 1) := by decide +kernel
theorem dX6_hold_20 : decode cX6_hold 20 = .ok (.invokevirtual 78, 3) := by decide +kernel
theorem dX6_hold_23 : decode cX6_hold 23 = .ok (.ifCond .ne 10, 3) := by decide +kernel
theorem dX6_hold_26 : decode cX6_hold 26 = .ok (.aload_n 0, 1) := by decide +kernel
theorem dX6_hold_27 : decode cX6_hold 27 = .ok (.ldc 59, 2) := by decide +kernel
theorem dX6_hold_29 : decode cX6_hold 29 = .ok (.invokevirtual 60, 3) := by decide +kernel
theorem dX6_hold_32 : decode cX6_hold 32 = .ok (.ireturn, 1) := by decide +kernel
theorem dX6_hold_33 : decode cX6_hold 33 = .ok (.aload_n 0, 1) := by decide +kernel
theorem dX6_hold_34 : decode cX6_hold 34 = .ok (.getfield 12, 3) := by decide +kernel
theorem dX6_hold_37 : decode cX6_hold 37 = .ok (.getfield 244, 3) := by decide +kernel
theorem dX6_hold_40 : decode cX6_hold 40 = .ok (.iload_n 1, 1) := by decide +kernel
theorem dX6_hold_41 : decode cX6_hold 41 = .ok (.iload_n 2, 1) := by decide +kernel
theorem dX6_hold_42 : decode cX6_hold 42 = .ok (.iastore, 1) := by decide +kernel
theorem dX6_hold_43 : decode cX6_hold 43 = .ok (.iconst 1, 1) := by decide +kernel
theorem dX6_hold_44 : decode cX6_hold 44 = .ok (.ireturn, 1) := by decide +kernel
theorem dX6_as_0 : decode cX6_as 0 = .ok (.iload_n 1, 1) := by decide +kernel
theorem dX6_as_1 : decode cX6_as 1 = .ok (.invokestatic 241, 3) := by decide +kernel
theorem dX6_as_4 : decode cX6_as 4 = .ok (.ifCond .eq 10, 3) := by decide +kernel
theorem dX6_as_7 : decode cX6_as 7 = .ok (.iload_n 2, 1) := by decide +kernel
theorem dX6_as_8 : decode cX6_as 8 = .ok (.invokestatic 55, 3) := by decide +kernel
theorem dX6_as_11 : decode cX6_as 11 = .ok (.ifCond .ne 10, 3) := by decide +kernel
theorem dX6_as_14 : decode cX6_as 14 = .ok (.aload_n 0, 1) := by decide +kernel
theorem dX6_as_15 : decode cX6_as 15 = .ok (.ldc 59, 2) := by decide +kernel
theorem dX6_as_17 : decode cX6_as 17 = .ok (.invokevirtual 60, 3) := by decide +kernel
theorem dX6_as_20 : decode cX6_as 20 = .ok (.ireturn, 1) := by decide +kernel
theorem dX6_as_21 : decode cX6_as 21 = .ok (.aload_n 0, 1) := by decide +kernel
theorem dX6_as_22 : decode cX6_as 22 = .ok (.getfield 12, 3) := by decide +kernel
theorem dX6_as_25 : decode cX6_as 25 = .ok (.getfield 244, 3) := by decide +kernel
theorem dX6_as_28 : decode cX6_as 28 = .ok (.iload_n 1, 1) := by decide +kernel
theorem dX6_as_29 : decode cX6_as 29 = .ok (.iaload, 1) := by decide +kernel
theorem dX6_as_30 : decode cX6_as 30 = .ok (.istore_n 3, 1) := by decide +kernel
theorem dX6_as_31 : decode cX6_as 31 = .ok (.aload_n 0, 1) := by decide +kernel
theorem dX6_as_32 : decode cX6_as 32 = .ok (.getfield 12, 3) := by decide +kernel
theorem dX6_as_35 : decode cX6_as 35 = .ok (.getfield 64, 3) := by decide +kernel
theorem dX6_as_38 : decode cX6_as 38 = .ok (.iload_n 3, 1) := by decide +kernel
theorem dX6_as_39 : decode cX6_as 39 = .ok (.invokevirtual 78, 3) := by decide +kernel
theorem dX6_as_42 : decode cX6_as 42 = .ok (.ifCond .ne 10, 3) := by decide +kernel
theorem dX6_as_45 : decode cX6_as 45 = .ok (.aload_n 0, 1) := by decide +kernel
theorem dX6_as_46 : decode cX6_as 46 = .ok (.ldc 247, 2) := by decide +kernel
theorem dX6_as_48 : decode cX6_as 48 = .ok (.invokevirtual 60, 3) := by decide +kernel
theorem dX6_as_51 : decode cX6_as 51 = .ok (.ireturn, 1) := by decide +kernel
theorem dX6_as_52 : decode cX6_as 52 = .ok (.aload_n 0, 1) := by decide +kernel
theorem dX6_as_53 : decode cX6_as 53 = .ok (.getfield 12, 3) := by decide +kernel
theorem dX6_as_56 : decode cX6_as 56 = .ok (.getfield 64, 3) := by decide +kernel
theorem dX6_as_59 : decode cX6_as 59 = .ok (.getfield 248, 3) := by decide +kernel
theorem dX6_as_62 : decode cX6_as 62 = .ok (.iload_n 3, 1) := by decide +kernel
theorem dX6_as_63 : decode cX6_as 63 = .ok (.iaload, 1) := by decide +kernel
theorem dX6_as_64 : decode cX6_as 64 = .ok (.iload_n 2, 1) := by decide +kernel
theorem dX6_as_65 : decode cX6_as 65 = .ok (.invokestatic 251, 3) := by decide +kernel
theorem dX6_as_68 : decode cX6_as 68 = .ok (.ifCond .eq 7, 3) := by decide +kernel
theorem dX6_as_71 : decode cX6_as 71 = .ok (.iload_n 3, 1) := by decide +kernel
theorem dX6_as_72 : decode cX6_as 72 = .ok (.goto 9, 3) := by decide +kernel
theorem dX6_as_75 : decode cX6_as 75 = .ok (.aload_n 0, 1) := by decide +kernel
theorem dX6_as_76 : decode cX6_as 76 = .ok (.ldc 254, 2) := by decide +kernel
theorem dX6_as_78 : decode cX6_as 78 = .ok (.invokevirtual 60, 3) := by decide +kernel
theorem dX6_as_81 : decode cX6_as 81 = .ok (.ireturn, 1) := by decide +kernel
theorem dX6_sheet_0 : decode cX6_sheet 0 = .ok (.iload_n 1, 1) := by decide +kernel
theorem dX6_sheet_1 : decode cX6_sheet 1 = .ok (.invokestatic 255, 3) := by decide +kernel
theorem dX6_sheet_4 : decode cX6_sheet 4 = .ok (.ifCond .eq 10, 3) := by decide +kernel
theorem dX6_sheet_7 : decode cX6_sheet 7 = .ok (.iload_n 2, 1) := by decide +kernel
theorem dX6_sheet_8 : decode cX6_sheet 8 = .ok (.invokestatic 258, 3) := by decide +kernel
theorem dX6_sheet_11 : decode cX6_sheet 11 = .ok (.ifCond .ne 10, 3) := by decide +kernel
theorem dX6_sheet_14 : decode cX6_sheet 14 = .ok (.aload_n 0, 1) := by decide +kernel
theorem dX6_sheet_15 : decode cX6_sheet 15 = .ok (.ldc 59, 2) := by decide +kernel
theorem dX6_sheet_17 : decode cX6_sheet 17 = .ok (.invokevirtual 60, 3) := by decide +kernel
theorem dX6_sheet_20 : decode cX6_sheet 20 = .ok (.ireturn, 1) := by decide +kernel
theorem dX6_sheet_21 : decode cX6_sheet 21 = .ok (.iload_n 3, 1) := by decide +kernel
theorem dX6_sheet_22 : decode cX6_sheet 22 = .ok (.ifCond .ge 11, 3) := by decide +kernel
theorem dX6_sheet_25 : decode cX6_sheet 25 = .ok (.aload_n 0, 1) := by decide +kernel
theorem dX6_sheet_26 : decode cX6_sheet 26 = .ok (.ldc_w 261, 3) := by decide +kernel
theorem dX6_sheet_29 : decode cX6_sheet 29 = .ok (.invokevirtual 60, 3) := by decide +kernel
theorem dX6_sheet_32 : decode cX6_sheet 32 = .ok (.ireturn, 1) := by decide +kernel
theorem dX6_sheet_33 : decode cX6_sheet 33 = .ok (.iload_n 3, 1) := by decide +kernel
theorem dX6_sheet_34 : decode cX6_sheet 34 = .ok (.bipush 40, 2) := by decide +kernel
theorem dX6_sheet_36 : decode cX6_sheet 36 = .ok (.if_icmp .le 10, 3) := by decide +kernel
theorem dX6_sheet_39 : decode cX6_sheet 39 = .ok (.aload_n 0, 1) := by decide +kernel
theorem dX6_sheet_40 : decode cX6_sheet 40 = .ok (.ldc 59, 2) := by decide +kernel
theorem dX6_sheet_42 : decode cX6_sheet 42 = .ok (.invokevirtual 60, 3) := by decide +kernel
theorem dX6_sheet_45 : decode cX6_sheet 45 = .ok (.ireturn, 1) := by decide +kernel
theorem dX6_sheet_46 : decode cX6_sheet 46 = .ok (.aload_n 0, 1) := by decide +kernel
theorem dX6_sheet_47 : decode cX6_sheet 47 = .ok (.getfield 41, 3) := by decide +kernel
theorem dX6_sheet_50 : decode cX6_sheet 50 = .ok (.iload_n 1, 1) := by decide +kernel
theorem dX6_sheet_51 : decode cX6_sheet 51 = .ok (.iload_n 2, 1) := by decide +kernel
theorem dX6_sheet_52 : decode cX6_sheet 52 = .ok (.iload_n 3, 1) := by decide +kernel
theorem dX6_sheet_53 : decode cX6_sheet 53 = .ok (.invokevirtual 262, 3) := by decide +kernel
theorem dX6_sheet_56 : decode cX6_sheet 56 = .ok (.ireturn, 1) := by decide +kernel
theorem dX6_write_0 : decode cX6_write 0 = .ok (.iload_n 1, 1) := by decide +kernel
theorem dX6_write_1 : decode cX6_write 1 = .ok (.invokestatic 255, 3) := by decide +kernel
theorem dX6_write_4 : decode cX6_write 4 = .ok (.ifCond .ne 10, 3) := by decide +kernel
theorem dX6_write_7 : decode cX6_write 7 = .ok (.aload_n 0, 1) := by decide +kernel
theorem dX6_write_8 : decode cX6_write 8 = .ok (.ldc 59, 2) := by decide +kernel
theorem dX6_write_10 : decode cX6_write 10 = .ok (.invokevirtual 60, 3) := by decide +kernel
theorem dX6_write_13 : decode cX6_write 13 = .ok (.ireturn, 1) := by decide +kernel
theorem dX6_write_14 : decode cX6_write 14 = .ok (.aload_n 0, 1) := by decide +kernel
theorem dX6_write_15 : decode cX6_write 15 = .ok (.getfield 41, 3) := by decide +kernel
theorem dX6_write_18 : decode cX6_write 18 = .ok (.iload_n 1, 1) := by decide +kernel
theorem dX6_write_19 : decode cX6_write 19 = .ok (.invokevirtual 265, 3) := by decide +kernel
theorem dX6_write_22 : decode cX6_write 22 = .ok (.ifCond .eq 10, 3) := by decide +kernel
theorem dX6_write_25 : decode cX6_write 25 = .ok (.aload_n 0, 1) := by decide +kernel
theorem dX6_write_26 : decode cX6_write 26 = .ok (.ldc 247, 2) := by decide +kernel
theorem dX6_write_28 : decode cX6_write 28 = .ok (.invokevirtual 60, 3) := by decide +kernel
theorem dX6_write_31 : decode cX6_write 31 = .ok (.ireturn, 1) := by decide +kernel
theorem dX6_write_32 : decode cX6_write 32 = .ok (.iload_n 2, 1) := by decide +kernel
theorem dX6_write_33 : decode cX6_write 33 = .ok (.ifCond .lt 16, 3) := by decide +kernel
theorem dX6_write_36 : decode cX6_write 36 = .ok (.iload_n 2, 1) := by decide +kernel
theorem dX6_write_37 : decode cX6_write 37 = .ok (.aload_n 0, 1) := by decide +kernel
theorem dX6_write_38 : decode cX6_write 38 = .ok (.getfield 41, 3) := by decide +kernel
theorem dX6_write_41 : decode cX6_write 41 = .ok (.getfield 268, 3) := by decide +kernel
theorem dX6_write_44 : decode cX6_write 44 = .ok (.iload_n 1, 1) := by decide +kernel
theorem dX6_write_45 : decode cX6_write 45 = .ok (.iaload, 1) := by decide +kernel
theorem dX6_write_46 : decode cX6_write 46 = .ok (.if_icmp .lt 10, 3) := by decide +kernel
theorem dX6_write_49 : decode cX6_write 49 = .ok (.aload_n 0, 1) := by decide +kernel
theorem dX6_write_50 : decode cX6_write 50 = .ok (.ldc 59, 2) := by decide +kernel
theorem dX6_write_52 : decode cX6_write 52 = .ok (.invokevirtual 60, 3) := by decide +kernel
theorem dX6_write_55 : decode cX6_write 55 = .ok (.ireturn, 1) := by decide +kernel
theorem dX6_write_56 : decode cX6_write 56 = .ok (.aload_n 0, 1) := by decide +kernel
theorem dX6_write_57 : decode cX6_write 57 = .ok (.getfield 41, 3) := by decide +kernel
theorem dX6_write_60 : decode cX6_write 60 = .ok (.iload_n 1, 1) := by decide +kernel
theorem dX6_write_61 : decode cX6_write 61 = .ok (.iload_n 2, 1) := by decide +kernel
theorem dX6_write_62 : decode cX6_write 62 = .ok (.iload_n 3, 1) := by decide +kernel
theorem dX6_write_63 : decode cX6_write 63 = .ok (.invokevirtual 270, 3) := by decide +kernel
theorem dX6_write_66 : decode cX6_write 66 = .ok (.iconst 1, 1) := by decide +kernel
theorem dX6_write_67 : decode cX6_write 67 = .ok (.ireturn, 1) := by decide +kernel
theorem dX6_copy_0 : decode cX6_copy 0 = .ok (.iload_n 1, 1) := by decide +kernel
theorem dX6_copy_1 : decode cX6_copy 1 = .ok (.invokestatic 255, 3) := by decide +kernel
theorem dX6_copy_4 : decode cX6_copy 4 = .ok (.ifCond .eq 10, 3) := by decide +kernel
theorem dX6_copy_7 : decode cX6_copy 7 = .ok (.iload_n 3, 1) := by decide +kernel
theorem dX6_copy_8 : decode cX6_copy 8 = .ok (.invokestatic 255, 3) := by decide +kernel
theorem dX6_copy_11 : decode cX6_copy 11 = .ok (.ifCond .ne 10, 3) := by decide +kernel
theorem dX6_copy_14 : decode cX6_copy 14 = .ok (.aload_n 0, 1) := by decide +kernel
theorem dX6_copy_15 : decode cX6_copy 15 = .ok (.ldc 59, 2) := by decide +kernel
theorem dX6_copy_17 : decode cX6_copy 17 = .ok (.invokevirtual 60, 3) := by decide +kernel
theorem dX6_copy_20 : decode cX6_copy 20 = .ok (.ireturn, 1) := by decide +kernel
theorem dX6_copy_21 : decode cX6_copy 21 = .ok (.aload_n 0, 1) := by decide +kernel
theorem dX6_copy_22 : decode cX6_copy 22 = .ok (.getfield 41, 3) := by decide +kernel
theorem dX6_copy_25 : decode cX6_copy 25 = .ok (.iload_n 1, 1) := by decide +kernel
theorem dX6_copy_26 : decode cX6_copy 26 = .ok (.invokevirtual 265, 3) := by decide +kernel
theorem dX6_copy_29 : decode cX6_copy 29 = .ok (.ifCond .ne 14, 3) := by decide +kernel
theorem dX6_copy_32 : decode cX6_copy 32 = .ok (.aload_n 0, 1) := by decide +kernel
theorem dX6_copy_33 : decode cX6_copy 33 = .ok (.getfield 41, 3) := by decide +kernel
theorem dX6_copy_36 : decode cX6_copy 36 = .ok (.iload_n 3, 1) := by decide +kernel
theorem dX6_copy_37 : decode cX6_copy 37 = .ok (.invokevirtual 265, 3) := by decide +kernel
theorem dX6_copy_40 : decode cX6_copy 40 = .ok (.ifCond .eq 10, 3) := by decide +kernel
theorem dX6_copy_43 : decode cX6_copy 43 = .ok (.aload_n 0, 1) := by decide +kernel
theorem dX6_copy_44 : decode cX6_copy 44 = .ok (.ldc 247, 2) := by decide +kernel
theorem dX6_copy_46 : decode cX6_copy 46 = .ok (.invokevirtual 60, 3) := by decide +kernel
theorem dX6_copy_49 : decode cX6_copy 49 = .ok (.ireturn, 1) := by decide +kernel
theorem dX6_copy_50 : decode cX6_copy 50 = .ok (.aload_n 0, 1) := by decide +kernel
theorem dX6_copy_51 : decode cX6_copy 51 = .ok (.getfield 41, 3) := by decide +kernel
theorem dX6_copy_54 : decode cX6_copy 54 = .ok (.getfield 274, 3) := by decide +kernel
theorem dX6_copy_57 : decode cX6_copy 57 = .ok (.iload_n 1, 1) := by decide +kernel
theorem dX6_copy_58 : decode cX6_copy 58 = .ok (.iaload, 1) := by decide +kernel
theorem dX6_copy_59 : decode cX6_copy 59 = .ok (.aload_n 0, 1) := by decide +kernel
theorem dX6_copy_60 : decode cX6_copy 60 = .ok (.getfield 41, 3) := by decide +kernel
theorem dX6_copy_63 : decode cX6_copy 63 = .ok (.getfield 274, 3) := by decide +kernel
theorem dX6_copy_66 : decode cX6_copy 66 = .ok (.iload_n 3, 1) := by decide +kernel
theorem dX6_copy_67 : decode cX6_copy 67 = .ok (.iaload, 1) := by decide +kernel
theorem dX6_copy_68 : decode cX6_copy 68 = .ok (.if_icmp .eq 10, 3) := by decide +kernel
theorem dX6_copy_71 : decode cX6_copy 71 = .ok (.aload_n 0, 1) := by decide +kernel
theorem dX6_copy_72 : decode cX6_copy 72 = .ok (.ldc 254, 2) := by decide +kernel
theorem dX6_copy_74 : decode cX6_copy 74 = .ok (.invokevirtual 60, 3) := by decide +kernel
theorem dX6_copy_77 : decode cX6_copy 77 = .ok (.ireturn, 1) := by decide +kernel
theorem dX6_copy_78 : decode cX6_copy 78 = .ok (.aload_n 0, 1) := by decide +kernel
theorem dX6_copy_79 : decode cX6_copy 79 = .ok (.getfield 41, 3) := by decide +kernel
theorem dX6_copy_82 : decode cX6_copy 82 = .ok (.iload_n 1, 1) := by decide +kernel
theorem dX6_copy_83 : decode cX6_copy 83 = .ok (.iload_n 2, 1) := by decide +kernel
theorem dX6_copy_84 : decode cX6_copy 84 = .ok (.iload 5, 2) := by decide +kernel
theorem dX6_copy_86 : decode cX6_copy 86 = .ok (.invokevirtual 277, 3) := by decide +kernel
theorem dX6_copy_89 : decode cX6_copy 89 = .ok (.ifCond .eq 18, 3) := by decide +kernel
theorem dX6_copy_92 : decode cX6_copy 92 = .ok (.aload_n 0, 1) := by decide +kernel
theorem dX6_copy_93 : decode cX6_copy 93 = .ok (.getfield 41, 3) := by decide +kernel
theorem dX6_copy_96 : decode cX6_copy 96 = .ok (.iload_n 3, 1) := by decide +kernel
theorem dX6_copy_97 : decode cX6_copy 97 = .ok (.iload 4, 2) := by decide +kernel
theorem dX6_copy_99 : decode cX6_copy 99 = .ok (.iload 5, 2) := by decide +kernel
theorem dX6_copy_101 : decode cX6_copy 101 = .ok (.invokevirtual 277, 3) := by decide +kernel
theorem dX6_copy_104 : decode cX6_copy 104 = .ok (.ifCond .ne 10, 3) := by decide +kernel
theorem dX6_copy_107 : decode cX6_copy 107 = .ok (.aload_n 0, 1) := by decide +kernel
theorem dX6_copy_108 : decode cX6_copy 108 = .ok (.ldc 59, 2) := by decide +kernel
theorem dX6_copy_110 : decode cX6_copy 110 = .ok (.invokevirtual 60, 3) := by decide +kernel
theorem dX6_copy_113 : decode cX6_copy 113 = .ok (.ireturn, 1) := by decide +kernel
theorem dX6_copy_114 : decode cX6_copy 114 = .ok (.aload_n 0, 1) := by decide +kernel
theorem dX6_copy_115 : decode cX6_copy 115 = .ok (.getfield 41, 3) := by decide +kernel
theorem dX6_copy_118 : decode cX6_copy 118 = .ok (.iload_n 1, 1) := by decide +kernel
theorem dX6_copy_119 : decode cX6_copy 119 = .ok (.iload_n 2, 1) := by decide +kernel
theorem dX6_copy_120 : decode cX6_copy 120 = .ok (.iload_n 3, 1) := by decide +kernel
theorem dX6_copy_121 : decode cX6_copy 121 = .ok (.iload 4, 2) := by decide +kernel
theorem dX6_copy_123 : decode cX6_copy 123 = .ok (.iload 5, 2) := by decide +kernel
theorem dX6_copy_125 : decode cX6_copy 125 = .ok (.invokevirtual 281, 3) := by decide +kernel
theorem dX6_copy_128 : decode cX6_copy 128 = .ok (.iload 5, 2) := by decide +kernel
theorem dX6_copy_130 : decode cX6_copy 130 = .ok (.ireturn, 1) := by decide +kernel
theorem dX6_load_0 : decode cX6_load 0 = .ok (.iload_n 1, 1) := by decide +kernel
theorem dX6_load_1 : decode cX6_load 1 = .ok (.invokestatic 255, 3) := by decide +kernel
theorem dX6_load_4 : decode cX6_load 4 = .ok (.ifCond .ne 10, 3) := by decide +kernel
theorem dX6_load_7 : decode cX6_load 7 = .ok (.aload_n 0, 1) := by decide +kernel
theorem dX6_load_8 : decode cX6_load 8 = .ok (.ldc 59, 2) := by decide +kernel
theorem dX6_load_10 : decode cX6_load 10 = .ok (.invokevirtual 60, 3) := by decide +kernel
theorem dX6_load_13 : decode cX6_load 13 = .ok (.ireturn, 1) := by decide +kernel
theorem dX6_load_14 : decode cX6_load 14 = .ok (.aload_n 0, 1) := by decide +kernel
theorem dX6_load_15 : decode cX6_load 15 = .ok (.getfield 41, 3) := by decide +kernel
theorem dX6_load_18 : decode cX6_load 18 = .ok (.iload_n 1, 1) := by decide +kernel
theorem dX6_load_19 : decode cX6_load 19 = .ok (.invokevirtual 265, 3) := by decide +kernel
theorem dX6_load_22 : decode cX6_load 22 = .ok (.ifCond .eq 10, 3) := by decide +kernel
theorem dX6_load_25 : decode cX6_load 25 = .ok (.aload_n 0, 1) := by decide +kernel
theorem dX6_load_26 : decode cX6_load 26 = .ok (.ldc 247, 2) := by decide +kernel
theorem dX6_load_28 : decode cX6_load 28 = .ok (.invokevirtual 60, 3) := by decide +kernel
theorem dX6_load_31 : decode cX6_load 31 = .ok (.ireturn, 1) := by decide +kernel
theorem dX6_load_32 : decode cX6_load 32 = .ok (.aload_n 0, 1) := by decide +kernel
theorem dX6_load_33 : decode cX6_load 33 = .ok (.getfield 41, 3) := by decide +kernel
theorem dX6_load_36 : decode cX6_load 36 = .ok (.getfield 268, 3) := by decide +kernel
theorem dX6_load_39 : decode cX6_load 39 = .ok (.iload_n 1, 1) := by decide +kernel
theorem dX6_load_40 : decode cX6_load 40 = .ok (.iaload, 1) := by decide +kernel
theorem dX6_load_41 : decode cX6_load 41 = .ok (.aload_n 0, 1) := by decide +kernel
theorem dX6_load_42 : decode cX6_load 42 = .ok (.getfield 12, 3) := by decide +kernel
theorem dX6_load_45 : decode cX6_load 45 = .ok (.getfield 85, 3) := by decide +kernel
theorem dX6_load_48 : decode cX6_load 48 = .ok (.getfield 174, 3) := by decide +kernel
theorem dX6_load_51 : decode cX6_load 51 = .ok (.invokestatic 207, 3) := by decide +kernel
theorem dX6_load_54 : decode cX6_load 54 = .ok (.istore_n 2, 1) := by decide +kernel
theorem dX6_load_55 : decode cX6_load 55 = .ok (.iconst 0, 1) := by decide +kernel
theorem dX6_load_56 : decode cX6_load 56 = .ok (.istore_n 3, 1) := by decide +kernel
theorem dX6_load_57 : decode cX6_load 57 = .ok (.iload_n 3, 1) := by decide +kernel
theorem dX6_load_58 : decode cX6_load 58 = .ok (.iload_n 2, 1) := by decide +kernel
theorem dX6_load_59 : decode cX6_load 59 = .ok (.if_icmp .ge 44, 3) := by decide +kernel
theorem dX6_load_62 : decode cX6_load 62 = .ok (.aload_n 0, 1) := by decide +kernel
theorem dX6_load_63 : decode cX6_load 63 = .ok (.getfield 41, 3) := by decide +kernel
theorem dX6_load_66 : decode cX6_load 66 = .ok (.iload_n 1, 1) := by decide +kernel
theorem dX6_load_67 : decode cX6_load 67 = .ok (.iload_n 3, 1) := by decide +kernel
theorem dX6_load_68 : decode cX6_load 68 = .ok (.invokevirtual 285, 3) := by decide +kernel
theorem dX6_load_71 : decode cX6_load 71 = .ok (.istore 4, 2) := by decide +kernel
theorem dX6_load_73 : decode cX6_load 73 = .ok (.iload 4, 2) := by decide +kernel
theorem dX6_load_75 : decode cX6_load 75 = .ok (.invokestatic 113, 3) := by decide +kernel
theorem dX6_load_78 : decode cX6_load 78 = .ok (.ifCond .ne 5, 3) := by decide +kernel
theorem dX6_load_81 : decode cX6_load 81 = .ok (.iload_n 3, 1) := by decide +kernel
theorem dX6_load_82 : decode cX6_load 82 = .ok (.ireturn, 1) := by decide +kernel
theorem dX6_load_83 : decode cX6_load 83 = .ok (.aload_n 0, 1) := by decide +kernel
theorem dX6_load_84 : decode cX6_load 84 = .ok (.getfield 12, 3) := by decide +kernel
theorem dX6_load_87 : decode cX6_load 87 = .ok (.getfield 85, 3) := by decide +kernel
theorem dX6_load_90 : decode cX6_load 90 = .ok (.getfield 149, 3) := by decide +kernel
theorem dX6_load_93 : decode cX6_load 93 = .ok (.iload_n 3, 1) := by decide +kernel
theorem dX6_load_94 : decode cX6_load 94 = .ok (.iload 4, 2) := by decide +kernel
theorem dX6_load_96 : decode cX6_load 96 = .ok (.iastore, 1) := by decide +kernel
theorem dX6_load_97 : decode cX6_load 97 = .ok (.iinc 3 1, 3) := by decide +kernel
theorem dX6_load_100 : decode cX6_load 100 = .ok (.goto (-43), 3) := by decide +kernel
theorem dX6_load_103 : decode cX6_load 103 = .ok (.iload_n 2, 1) := by decide +kernel
theorem dX6_load_104 : decode cX6_load 104 = .ok (.ireturn, 1) := by decide +kernel
theorem dX6_judge_0 : decode cX6_judge 0 = .ok (.iload_n 1, 1) := by decide +kernel
theorem dX6_judge_1 : decode cX6_judge 1 = .ok (.invokestatic 255, 3) := by decide +kernel
theorem dX6_judge_4 : decode cX6_judge 4 = .ok (.ifCond .ne 10, 3) := by decide +kernel
theorem dX6_judge_7 : decode cX6_judge 7 = .ok (.aload_n 0, 1) := by decide +kernel
theorem dX6_judge_8 : decode cX6_judge 8 = .ok (.ldc 59, 2) := by decide +kernel
theorem dX6_judge_10 : decode cX6_judge 10 = .ok (.invokevirtual 60, 3) := by decide +kernel
theorem dX6_judge_13 : decode cX6_judge 13 = .ok (.ireturn, 1) := by decide +kernel
theorem dX6_judge_14 : decode cX6_judge 14 = .ok (.aload_n 0, 1) := by decide +kernel
theorem dX6_judge_15 : decode cX6_judge 15 = .ok (.getfield 41, 3) := by decide +kernel
theorem dX6_judge_18 : decode cX6_judge 18 = .ok (.iload_n 1, 1) := by decide +kernel
theorem dX6_judge_19 : decode cX6_judge 19 = .ok (.invokevirtual 265, 3) := by decide +kernel
theorem dX6_judge_22 : decode cX6_judge 22 = .ok (.ifCond .eq 10, 3) := by decide +kernel
theorem dX6_judge_25 : decode cX6_judge 25 = .ok (.aload_n 0, 1) := by decide +kernel
theorem dX6_judge_26 : decode cX6_judge 26 = .ok (.ldc 247, 2) := by decide +kernel
theorem dX6_judge_28 : decode cX6_judge 28 = .ok (.invokevirtual 60, 3) := by decide +kernel
theorem dX6_judge_31 : decode cX6_judge 31 = .ok (.ireturn, 1) := by decide +kernel
theorem dX6_judge_32 : decode cX6_judge 32 = .ok (.aload_n 0, 1) := by decide +kernel
theorem dX6_judge_33 : decode cX6_judge 33 = .ok (.getfield 12, 3) := by decide +kernel
theorem dX6_judge_36 : decode cX6_judge 36 = .ok (.getfield 64, 3) := by decide +kernel
theorem dX6_judge_39 : decode cX6_judge 39 = .ok (.iload_n 2, 1) := by decide +kernel
theorem dX6_judge_40 : decode cX6_judge 40 = .ok (.invokevirtual 78, 3) := by decide +kernel
theorem dX6_judge_43 : decode cX6_judge 43 = .ok (.ifCond .ne 10, 3) := by decide +kernel
theorem dX6_judge_46 : decode cX6_judge 46 = .ok (.aload_n 0, 1) := by decide +kernel
theorem dX6_judge_47 : decode cX6_judge 47 = .ok (.ldc 59, 2) := by decide +kernel
theorem dX6_judge_49 : decode cX6_judge 49 = .ok (.invokevirtual 60, 3) := by decide +kernel
theorem dX6_judge_52 : decode cX6_judge 52 = .ok (.ireturn, 1) := by decide +kernel
theorem dX6_judge_53 : decode cX6_judge 53 = .ok (.aload_n 0, 1) := by decide +kernel
theorem dX6_judge_54 : decode cX6_judge 54 = .ok (.getfield 12, 3) := by decide +kernel
theorem dX6_judge_57 : decode cX6_judge 57 = .ok (.getfield 64, 3) := by decide +kernel
theorem dX6_judge_60 : decode cX6_judge 60 = .ok (.iload_n 2, 1) := by decide +kernel
theorem dX6_judge_61 : decode cX6_judge 61 = .ok (.aload_n 0, 1) := by decide +kernel
theorem dX6_judge_62 : decode cX6_judge 62 = .ok (.getfield 52, 3) := by decide +kernel
theorem dX6_judge_65 : decode cX6_judge 65 = .ok (.invokevirtual 288, 3) := by decide +kernel
theorem dX6_judge_68 : decode cX6_judge 68 = .ok (.iconst 0, 1) := by decide +kernel
theorem dX6_judge_69 : decode cX6_judge 69 = .ok (.istore_n 3, 1) := by decide +kernel
theorem dX6_judge_70 : decode cX6_judge 70 = .ok (.iload_n 3, 1) := by decide +kernel
theorem dX6_judge_71 : decode cX6_judge 71 = .ok (.aload_n 0, 1) := by decide +kernel
theorem dX6_judge_72 : decode cX6_judge 72 = .ok (.getfield 41, 3) := by decide +kernel
theorem dX6_judge_75 : decode cX6_judge 75 = .ok (.getfield 268, 3) := by decide +kernel
theorem dX6_judge_78 : decode cX6_judge 78 = .ok (.iload_n 1, 1) := by decide +kernel
theorem dX6_judge_79 : decode cX6_judge 79 = .ok (.iaload, 1) := by decide +kernel
theorem dX6_judge_80 : decode cX6_judge 80 = .ok (.if_icmp .ge 52, 3) := by decide +kernel
theorem dX6_judge_83 : decode cX6_judge 83 = .ok (.aload_n 0, 1) := by decide +kernel
theorem dX6_judge_84 : decode cX6_judge 84 = .ok (.getfield 41, 3) := by decide +kernel
theorem dX6_judge_87 : decode cX6_judge 87 = .ok (.iload_n 1, 1) := by decide +kernel
theorem dX6_judge_88 : decode cX6_judge 88 = .ok (.iload_n 3, 1) := by decide +kernel
theorem dX6_judge_89 : decode cX6_judge 89 = .ok (.invokevirtual 285, 3) := by decide +kernel
theorem dX6_judge_92 : decode cX6_judge 92 = .ok (.istore 4, 2) := by decide +kernel
theorem dX6_judge_94 : decode cX6_judge 94 = .ok (.iload 4, 2) := by decide +kernel
theorem dX6_judge_96 : decode cX6_judge 96 = .ok (.invokestatic 113, 3) := by decide +kernel
theorem dX6_judge_99 : decode cX6_judge 99 = .ok (.ifCond .eq 23, 3) := by decide +kernel
theorem dX6_judge_102 : decode cX6_judge 102 = .ok (.aload_n 0, 1) := by decide +kernel
theorem dX6_judge_103 : decode cX6_judge 103 = .ok (.getfield 52, 3) := by decide +kernel
theorem dX6_judge_106 : decode cX6_judge 106 = .ok (.iload 4, 2) := by decide +kernel
theorem dX6_judge_108 : decode cX6_judge 108 = .ok (.iconst 5, 1) := by decide +kernel
theorem dX6_judge_109 : decode cX6_judge 109 = .ok (.ishr, 1) := by decide +kernel
theorem dX6_judge_110 : decode cX6_judge 110 = .ok (.iaload, 1) := by decide +kernel
theorem dX6_judge_111 : decode cX6_judge 111 = .ok (.iconst 1, 1) := by decide +kernel
theorem dX6_judge_112 : decode cX6_judge 112 = .ok (.iload 4, 2) := by decide +kernel
theorem dX6_judge_114 : decode cX6_judge 114 = .ok (.bipush 31, 2) := by decide +kernel
theorem dX6_judge_116 : decode cX6_judge 116 = .ok (.iand, 1) := by decide +kernel
theorem dX6_judge_117 : decode cX6_judge 117 = .ok (.ishl, 1) := by decide +kernel
theorem dX6_judge_118 : decode cX6_judge 118 = .ok (.iand, 1) := by decide +kernel
theorem dX6_judge_119 : decode cX6_judge 119 = .ok (.ifCond .ne 7, 3) := by decide +kernel
theorem dX6_judge_122 : decode cX6_judge 122 = .ok (.iconst 1, 1) := by decide +kernel
theorem dX6_judge_123 : decode cX6_judge 123 = .ok (.iload_n 3, 1) := by decide +kernel
theorem dX6_judge_124 : decode cX6_judge 124 = .ok (.iadd, 1) := by decide +kernel
theorem dX6_judge_125 : decode cX6_judge 125 = .ok (.ireturn, 1) := by decide +kernel
theorem dX6_judge_126 : decode cX6_judge 126 = .ok (.iinc 3 1, 3) := by decide +kernel
theorem dX6_judge_129 : decode cX6_judge 129 = .ok (.goto (-59), 3) := by decide +kernel
theorem dX6_judge_132 : decode cX6_judge 132 = .ok (.iconst 0, 1) := by decide +kernel
theorem dX6_judge_133 : decode cX6_judge 133 = .ok (.ireturn, 1) := by decide +kernel
theorem dX6_image_0 : decode cX6_image 0 = .ok (.aload_n 0, 1) := by decide +kernel
theorem dX6_image_1 : decode cX6_image 1 = .ok (.getfield 19, 3) := by decide +kernel
theorem dX6_image_4 : decode cX6_image 4 = .ok (.aload_n 0, 1) := by decide +kernel
theorem dX6_image_5 : decode cX6_image 5 = .ok (.getfield 12, 3) := by decide +kernel
theorem dX6_image_8 : decode cX6_image 8 = .ok (.invokevirtual 177, 3) := by decide +kernel
theorem dX6_image_11 : decode cX6_image 11 = .ok (.aload_n 0, 1) := by decide +kernel
theorem dX6_image_12 : decode cX6_image 12 = .ok (.iconst 1, 1) := by decide +kernel
theorem dX6_image_13 : decode cX6_image 13 = .ok (.putfield 292, 3) := by decide +kernel
theorem dX6_image_16 : decode cX6_image 16 = .ok (.iconst 1, 1) := by decide +kernel
theorem dX6_image_17 : decode cX6_image 17 = .ok (.ireturn, 1) := by decide +kernel
theorem dX6_undo_0 : decode cX6_undo 0 = .ok (.aload_n 0, 1) := by decide +kernel
theorem dX6_undo_1 : decode cX6_undo 1 = .ok (.getfield 292, 3) := by decide +kernel
theorem dX6_undo_4 : decode cX6_undo 4 = .ok (.ifCond .ne 10, 3) := by decide +kernel
theorem dX6_undo_7 : decode cX6_undo 7 = .ok (.aload_n 0, 1) := by decide +kernel
theorem dX6_undo_8 : decode cX6_undo 8 = .ok (.ldc 187, 2) := by decide +kernel
theorem dX6_undo_10 : decode cX6_undo 10 = .ok (.invokevirtual 60, 3) := by decide +kernel
theorem dX6_undo_13 : decode cX6_undo 13 = .ok (.ireturn, 1) := by decide +kernel
theorem dX6_undo_14 : decode cX6_undo 14 = .ok (.aload_n 0, 1) := by decide +kernel
theorem dX6_undo_15 : decode cX6_undo 15 = .ok (.getfield 12, 3) := by decide +kernel
theorem dX6_undo_18 : decode cX6_undo 18 = .ok (.aload_n 0, 1) := by decide +kernel
theorem dX6_undo_19 : decode cX6_undo 19 = .ok (.getfield 19, 3) := by decide +kernel
theorem dX6_undo_22 : decode cX6_undo 22 = .ok (.invokevirtual 177, 3) := by decide +kernel
theorem dX6_undo_25 : decode cX6_undo 25 = .ok (.aload_n 0, 1) := by decide +kernel
theorem dX6_undo_26 : decode cX6_undo 26 = .ok (.getfield 12, 3) := by decide +kernel
theorem dX6_undo_29 : decode cX6_undo 29 = .ok (.getfield 142, 3) := by decide +kernel
theorem dX6_undo_32 : decode cX6_undo 32 = .ok (.ireturn, 1) := by decide +kernel
theorem dX6_tear_0 : decode cX6_tear 0 = .ok (.aload_n 0, 1) := by decide +kernel
theorem dX6_tear_1 : decode cX6_tear 1 = .ok (.getfield 292, 3) := by decide +kernel
theorem dX6_tear_4 : decode cX6_tear 4 = .ok (.ifCond .eq 7, 3) := by decide +kernel
theorem dX6_tear_7 : decode cX6_tear 7 = .ok (.iconst 1, 1) := by decide +kernel
theorem dX6_tear_8 : decode cX6_tear 8 = .ok (.goto 4, 3) := by decide +kernel
theorem dX6_tear_11 : decode cX6_tear 11 = .ok (.iconst 0, 1) := by decide +kernel
theorem dX6_tear_12 : decode cX6_tear 12 = .ok (.istore_n 1, 1) := by decide +kernel
theorem dX6_tear_13 : decode cX6_tear 13 = .ok (.aload_n 0, 1) := by decide +kernel
theorem dX6_tear_14 : decode cX6_tear 14 = .ok (.iconst 0, 1) := by decide +kernel
theorem dX6_tear_15 : decode cX6_tear 15 = .ok (.putfield 292, 3) := by decide +kernel
theorem dX6_tear_18 : decode cX6_tear 18 = .ok (.iload_n 1, 1) := by decide +kernel
theorem dX6_tear_19 : decode cX6_tear 19 = .ok (.ireturn, 1) := by decide +kernel
theorem dX6_count_0 : decode cX6_count 0 = .ok (.iload_n 1, 1) := by decide +kernel
theorem dX6_count_1 : decode cX6_count 1 = .ok (.tableswitch 126 0 7 #[47, 58, 69, 80, 91, 102, 110, 118], 47) := by decide +kernel
theorem dX6_count_48 : decode cX6_count 48 = .ok (.aload_n 0, 1) := by decide +kernel
theorem dX6_count_49 : decode cX6_count 49 = .ok (.getfield 12, 3) := by decide +kernel
theorem dX6_count_52 : decode cX6_count 52 = .ok (.getfield 64, 3) := by decide +kernel
theorem dX6_count_55 : decode cX6_count 55 = .ok (.getfield 196, 3) := by decide +kernel
theorem dX6_count_58 : decode cX6_count 58 = .ok (.ireturn, 1) := by decide +kernel
theorem dX6_count_59 : decode cX6_count 59 = .ok (.aload_n 0, 1) := by decide +kernel
theorem dX6_count_60 : decode cX6_count 60 = .ok (.getfield 12, 3) := by decide +kernel
theorem dX6_count_63 : decode cX6_count 63 = .ok (.getfield 85, 3) := by decide +kernel
theorem dX6_count_66 : decode cX6_count 66 = .ok (.getfield 174, 3) := by decide +kernel
theorem dX6_count_69 : decode cX6_count 69 = .ok (.ireturn, 1) := by decide +kernel
theorem dX6_count_70 : decode cX6_count 70 = .ok (.aload_n 0, 1) := by decide +kernel
theorem dX6_count_71 : decode cX6_count 71 = .ok (.getfield 12, 3) := by decide +kernel
theorem dX6_count_74 : decode cX6_count 74 = .ok (.getfield 85, 3) := by decide +kernel
theorem dX6_count_77 : decode cX6_count 77 = .ok (.invokevirtual 296, 3) := by decide +kernel
theorem dX6_count_80 : decode cX6_count 80 = .ok (.ireturn, 1) := by decide +kernel
theorem dX6_count_81 : decode cX6_count 81 = .ok (.aload_n 0, 1) := by decide +kernel
theorem dX6_count_82 : decode cX6_count 82 = .ok (.getfield 12, 3) := by decide +kernel
theorem dX6_count_85 : decode cX6_count 85 = .ok (.getfield 64, 3) := by decide +kernel
theorem dX6_count_88 : decode cX6_count 88 = .ok (.invokevirtual 162, 3) := by decide +kernel
theorem dX6_count_91 : decode cX6_count 91 = .ok (.ireturn, 1) := by decide +kernel
theorem dX6_count_92 : decode cX6_count 92 = .ok (.aload_n 0, 1) := by decide +kernel
theorem dX6_count_93 : decode cX6_count 93 = .ok (.getfield 12, 3) := by decide +kernel
theorem dX6_count_96 : decode cX6_count 96 = .ok (.getfield 85, 3) := by decide +kernel
theorem dX6_count_99 : decode cX6_count 99 = .ok (.invokevirtual 299, 3) := by decide +kernel
theorem dX6_count_102 : decode cX6_count 102 = .ok (.ireturn, 1) := by decide +kernel
theorem dX6_count_103 : decode cX6_count 103 = .ok (.aload_n 0, 1) := by decide +kernel
theorem dX6_count_104 : decode cX6_count 104 = .ok (.getfield 25, 3) := by decide +kernel
theorem dX6_count_107 : decode cX6_count 107 = .ok (.getfield 233, 3) := by decide +kernel
theorem dX6_count_110 : decode cX6_count 110 = .ok (.ireturn, 1) := by decide +kernel
theorem dX6_count_111 : decode cX6_count 111 = .ok (.aload_n 0, 1) := by decide +kernel
theorem dX6_count_112 : decode cX6_count 112 = .ok (.getfield 12, 3) := by decide +kernel
theorem dX6_count_115 : decode cX6_count 115 = .ok (.getfield 230, 3) := by decide +kernel
theorem dX6_count_118 : decode cX6_count 118 = .ok (.ireturn, 1) := by decide +kernel
theorem dX6_count_119 : decode cX6_count 119 = .ok (.aload_n 0, 1) := by decide +kernel
theorem dX6_count_120 : decode cX6_count 120 = .ok (.getfield 12, 3) := by decide +kernel
theorem dX6_count_123 : decode cX6_count 123 = .ok (.invokevirtual 302, 3) := by decide +kernel
theorem dX6_count_126 : decode cX6_count 126 = .ok (.ireturn, 1) := by decide +kernel
theorem dX6_count_127 : decode cX6_count 127 = .ok (.aload_n 0, 1) := by decide +kernel
theorem dX6_count_128 : decode cX6_count 128 = .ok (.ldc 59, 2) := by decide +kernel
theorem dX6_count_130 : decode cX6_count 130 = .ok (.invokevirtual 60, 3) := by decide +kernel
theorem dX6_count_133 : decode cX6_count 133 = .ok (.ireturn, 1) := by decide +kernel
theorem dX6_status_0 : decode cX6_status 0 = .ok (.iload_n 1, 1) := by decide +kernel
theorem dX6_status_1 : decode cX6_status 1 = .ok (.ifCond .lt 16, 3) := by decide +kernel
theorem dX6_status_4 : decode cX6_status 4 = .ok (.iload_n 1, 1) := by decide +kernel
theorem dX6_status_5 : decode cX6_status 5 = .ok (.bipush 7, 2) := by decide +kernel
theorem dX6_status_7 : decode cX6_status 7 = .ok (.if_icmp .ge 10, 3) := by decide +kernel
theorem dX6_status_10 : decode cX6_status 10 = .ok (.aload_n 0, 1) := by decide +kernel
theorem dX6_status_11 : decode cX6_status 11 = .ok (.getfield 45, 3) := by decide +kernel
theorem dX6_status_14 : decode cX6_status 14 = .ok (.iload_n 1, 1) := by decide +kernel
theorem dX6_status_15 : decode cX6_status 15 = .ok (.iaload, 1) := by decide +kernel
theorem dX6_status_16 : decode cX6_status 16 = .ok (.ireturn, 1) := by decide +kernel
theorem dX6_status_17 : decode cX6_status 17 = .ok (.iload_n 1, 1) := by decide +kernel
theorem dX6_status_18 : decode cX6_status 18 = .ok (.iconst (-1), 1) := by decide +kernel
theorem dX6_status_19 : decode cX6_status 19 = .ok (.if_icmp .eq 10, 3) := by decide +kernel
theorem dX6_status_22 : decode cX6_status 22 = .ok (.aload_n 0, 1) := by decide +kernel
theorem dX6_status_23 : decode cX6_status 23 = .ok (.ldc 59, 2) := by decide +kernel
theorem dX6_status_25 : decode cX6_status 25 = .ok (.invokevirtual 60, 3) := by decide +kernel
theorem dX6_status_28 : decode cX6_status 28 = .ok (.ireturn, 1) := by decide +kernel
theorem dX6_status_29 : decode cX6_status 29 = .ok (.iconst 0, 1) := by decide +kernel
theorem dX6_status_30 : decode cX6_status 30 = .ok (.istore_n 2, 1) := by decide +kernel
theorem dX6_status_31 : decode cX6_status 31 = .ok (.iconst 0, 1) := by decide +kernel
theorem dX6_status_32 : decode cX6_status 32 = .ok (.istore_n 3, 1) := by decide +kernel
theorem dX6_status_33 : decode cX6_status 33 = .ok (.iload_n 3, 1) := by decide +kernel
theorem dX6_status_34 : decode cX6_status 34 = .ok (.bipush 7, 2) := by decide +kernel
theorem dX6_status_36 : decode cX6_status 36 = .ok (.if_icmp .ge 18, 3) := by decide +kernel
theorem dX6_status_39 : decode cX6_status 39 = .ok (.iload_n 2, 1) := by decide +kernel
theorem dX6_status_40 : decode cX6_status 40 = .ok (.aload_n 0, 1) := by decide +kernel
theorem dX6_status_41 : decode cX6_status 41 = .ok (.getfield 45, 3) := by decide +kernel
theorem dX6_status_44 : decode cX6_status 44 = .ok (.iload_n 3, 1) := by decide +kernel
theorem dX6_status_45 : decode cX6_status 45 = .ok (.iaload, 1) := by decide +kernel
theorem dX6_status_46 : decode cX6_status 46 = .ok (.iadd, 1) := by decide +kernel
theorem dX6_status_47 : decode cX6_status 47 = .ok (.istore_n 2, 1) := by decide +kernel
theorem dX6_status_48 : decode cX6_status 48 = .ok (.iinc 3 1, 3) := by decide +kernel
theorem dX6_status_51 : decode cX6_status 51 = .ok (.goto (-18), 3) := by decide +kernel
theorem dX6_status_54 : decode cX6_status 54 = .ok (.iload_n 2, 1) := by decide +kernel
theorem dX6_status_55 : decode cX6_status 55 = .ok (.ireturn, 1) := by decide +kernel
theorem dX6_found_0 : decode cX6_found 0 = .ok (.ldc 59, 2) := by decide +kernel
theorem dX6_found_2 : decode cX6_found 2 = .ok (.iload_n 1, 1) := by decide +kernel
theorem dX6_found_3 : decode cX6_found 3 = .ok (.isub, 1) := by decide +kernel
theorem dX6_found_4 : decode cX6_found 4 = .ok (.istore_n 2, 1) := by decide +kernel
theorem dX6_found_5 : decode cX6_found 5 = .ok (.iload_n 2, 1) := by decide +kernel
theorem dX6_found_6 : decode cX6_found 6 = .ok (.ifCond .lt 19, 3) := by decide +kernel
theorem dX6_found_9 : decode cX6_found 9 = .ok (.iload_n 2, 1) := by decide +kernel
theorem dX6_found_10 : decode cX6_found 10 = .ok (.bipush 7, 2) := by decide +kernel
theorem dX6_found_12 : decode cX6_found 12 = .ok (.if_icmp .ge 13, 3) := by decide +kernel
theorem dX6_found_15 : decode cX6_found 15 = .ok (.aload_n 0, 1) := by decide +kernel
theorem dX6_found_16 : decode cX6_found 16 = .ok (.getfield 45, 3) := by decide +kernel
theorem dX6_found_19 : decode cX6_found 19 = .ok (.iload_n 2, 1) := by decide +kernel
theorem dX6_found_20 : decode cX6_found 20 = .ok (.dup2, 1) := by decide +kernel
theorem dX6_found_21 : decode cX6_found 21 = .ok (.iaload, 1) := by decide +kernel
theorem dX6_found_22 : decode cX6_found 22 = .ok (.iconst 1, 1) := by decide +kernel
theorem dX6_found_23 : decode cX6_found 23 = .ok (.iadd, 1) := by decide +kernel
theorem dX6_found_24 : decode cX6_found 24 = .ok (.iastore, 1) := by decide +kernel
theorem dX6_found_25 : decode cX6_found 25 = .ok (.iload_n 1, 1) := by decide +kernel
theorem dX6_found_26 : decode cX6_found 26 = .ok (.ireturn, 1) := by decide +kernel
theorem dX6_believersWithout_0 : decode cX6_believersWithout 0 = .ok (.aload_n 0, 1) := by decide +kernel
theorem dX6_believersWithout_1 : decode cX6_believersWithout 1 = .ok (.getfield 16, 3) := by decide +kernel
theorem dX6_believersWithout_4 : decode cX6_believersWithout 4 = .ok (.aload_n 0, 1) := by decide +kernel
theorem dX6_believersWithout_5 : decode cX6_believersWithout 5 = .ok (.getfield 12, 3) := by decide +kernel
theorem dX6_believersWithout_8 : decode cX6_believersWithout 8 = .ok (.invokevirtual 177, 3) := by decide +kernel
theorem dX6_believersWithout_11 : decode cX6_believersWithout 11 = .ok (.aload_n 0, 1) := by decide +kernel
theorem dX6_believersWithout_12 : decode cX6_believersWithout 12 = .ok (.getfield 16, 3) := by decide +kernel
theorem dX6_believersWithout_15 : decode cX6_believersWithout 15 = .ok (.getfield 64, 3) := by decide +kernel
theorem dX6_believersWithout_18 : decode cX6_believersWithout 18 = .ok (.getfield 305, 3) := by decide +kernel
theorem dX6_believersWithout_21 : decode cX6_believersWithout 21 = .ok (.iload_n 1, 1) := by decide +kernel
theorem dX6_believersWithout_22 : decode cX6_believersWithout 22 = .ok (.iconst 0, 1) := by decide +kernel
theorem dX6_believersWithout_23 : decode cX6_believersWithout 23 = .ok (.iastore, 1) := by decide +kernel
theorem dX6_believersWithout_24 : decode cX6_believersWithout 24 = .ok (.aload_n 0, 1) := by decide +kernel
theorem dX6_believersWithout_25 : decode cX6_believersWithout 25 = .ok (.getfield 16, 3) := by decide +kernel
theorem dX6_believersWithout_28 : decode cX6_believersWithout 28 = .ok (.iload_n 3, 1) := by decide +kernel
theorem dX6_believersWithout_29 : decode cX6_believersWithout 29 = .ok (.invokevirtual 138, 3) := by decide +kernel
theorem dX6_believersWithout_32 : decode cX6_believersWithout 32 = .ok (.aload_n 0, 1) := by decide +kernel
theorem dX6_believersWithout_33 : decode cX6_believersWithout 33 = .ok (.getfield 16, 3) := by decide +kernel
theorem dX6_believersWithout_36 : decode cX6_believersWithout 36 = .ok (.getfield 85, 3) := by decide +kernel
theorem dX6_believersWithout_39 : decode cX6_believersWithout 39 = .ok (.iload_n 2, 1) := by decide +kernel
theorem dX6_believersWithout_40 : decode cX6_believersWithout 40 = .ok (.invokevirtual 168, 3) := by decide +kernel
theorem dX6_believersWithout_43 : decode cX6_believersWithout 43 = .ok (.ireturn, 1) := by decide +kernel
theorem dX6_howManyWithTie_0 : decode cX6_howManyWithTie 0 = .ok (.aload_n 0, 1) := by decide +kernel
theorem dX6_howManyWithTie_1 : decode cX6_howManyWithTie 1 = .ok (.getfield 16, 3) := by decide +kernel
theorem dX6_howManyWithTie_4 : decode cX6_howManyWithTie 4 = .ok (.aload_n 0, 1) := by decide +kernel
theorem dX6_howManyWithTie_5 : decode cX6_howManyWithTie 5 = .ok (.getfield 12, 3) := by decide +kernel
theorem dX6_howManyWithTie_8 : decode cX6_howManyWithTie 8 = .ok (.invokevirtual 177, 3) := by decide +kernel
theorem dX6_howManyWithTie_11 : decode cX6_howManyWithTie 11 = .ok (.aload_n 0, 1) := by decide +kernel
theorem dX6_howManyWithTie_12 : decode cX6_howManyWithTie 12 = .ok (.getfield 16, 3) := by decide +kernel
theorem dX6_howManyWithTie_15 : decode cX6_howManyWithTie 15 = .ok (.getfield 85, 3) := by decide +kernel
theorem dX6_howManyWithTie_18 : decode cX6_howManyWithTie 18 = .ok (.iload_n 1, 1) := by decide +kernel
theorem dX6_howManyWithTie_19 : decode cX6_howManyWithTie 19 = .ok (.iload_n 2, 1) := by decide +kernel
theorem dX6_howManyWithTie_20 : decode cX6_howManyWithTie 20 = .ok (.iconst 1, 1) := by decide +kernel
theorem dX6_howManyWithTie_21 : decode cX6_howManyWithTie 21 = .ok (.invokevirtual 106, 3) := by decide +kernel
theorem dX6_howManyWithTie_24 : decode cX6_howManyWithTie 24 = .ok (.aload_n 0, 1) := by decide +kernel
theorem dX6_howManyWithTie_25 : decode cX6_howManyWithTie 25 = .ok (.getfield 16, 3) := by decide +kernel
theorem dX6_howManyWithTie_28 : decode cX6_howManyWithTie 28 = .ok (.iload 4, 2) := by decide +kernel
theorem dX6_howManyWithTie_30 : decode cX6_howManyWithTie 30 = .ok (.invokevirtual 138, 3) := by decide +kernel
theorem dX6_howManyWithTie_33 : decode cX6_howManyWithTie 33 = .ok (.aload_n 0, 1) := by decide +kernel
theorem dX6_howManyWithTie_34 : decode cX6_howManyWithTie 34 = .ok (.getfield 16, 3) := by decide +kernel
theorem dX6_howManyWithTie_37 : decode cX6_howManyWithTie 37 = .ok (.getfield 85, 3) := by decide +kernel
theorem dX6_howManyWithTie_40 : decode cX6_howManyWithTie 40 = .ok (.iload_n 3, 1) := by decide +kernel
theorem dX6_howManyWithTie_41 : decode cX6_howManyWithTie 41 = .ok (.invokevirtual 168, 3) := by decide +kernel
theorem dX6_howManyWithTie_44 : decode cX6_howManyWithTie 44 = .ok (.invokestatic 191, 3) := by decide +kernel
theorem dX6_howManyWithTie_47 : decode cX6_howManyWithTie 47 = .ok (.ireturn, 1) := by decide +kernel
theorem dX6_isLaw_0 : decode cX6_isLaw 0 = .ok (.iload_n 0, 1) := by decide +kernel
theorem dX6_isLaw_1 : decode cX6_isLaw 1 = .ok (.tableswitch 61 0 4 #[35, 40, 40, 40, 45], 35) := by decide +kernel
theorem dX6_isLaw_36 : decode cX6_isLaw 36 = .ok (.iload_n 1, 1) := by decide +kernel
theorem dX6_isLaw_37 : decode cX6_isLaw 37 = .ok (.invokestatic 55, 3) := by decide +kernel
theorem dX6_isLaw_40 : decode cX6_isLaw 40 = .ok (.ireturn, 1) := by decide +kernel
theorem dX6_isLaw_41 : decode cX6_isLaw 41 = .ok (.iload_n 1, 1) := by decide +kernel
theorem dX6_isLaw_42 : decode cX6_isLaw 42 = .ok (.invokestatic 113, 3) := by decide +kernel
theorem dX6_isLaw_45 : decode cX6_isLaw 45 = .ok (.ireturn, 1) := by decide +kernel
theorem dX6_isLaw_46 : decode cX6_isLaw 46 = .ok (.iload_n 1, 1) := by decide +kernel
theorem dX6_isLaw_47 : decode cX6_isLaw 47 = .ok (.ifCond .lt 13, 3) := by decide +kernel
theorem dX6_isLaw_50 : decode cX6_isLaw 50 = .ok (.iload_n 1, 1) := by decide +kernel
theorem dX6_isLaw_51 : decode cX6_isLaw 51 = .ok (.bipush 99, 2) := by decide +kernel
theorem dX6_isLaw_53 : decode cX6_isLaw 53 = .ok (.if_icmp .gt 7, 3) := by decide +kernel
theorem dX6_isLaw_56 : decode cX6_isLaw 56 = .ok (.iconst 1, 1) := by decide +kernel
theorem dX6_isLaw_57 : decode cX6_isLaw 57 = .ok (.goto 4, 3) := by decide +kernel
theorem dX6_isLaw_60 : decode cX6_isLaw 60 = .ok (.iconst 0, 1) := by decide +kernel
theorem dX6_isLaw_61 : decode cX6_isLaw 61 = .ok (.ireturn, 1) := by decide +kernel
theorem dX6_isLaw_62 : decode cX6_isLaw 62 = .ok (.iconst 0, 1) := by decide +kernel
theorem dX6_isLaw_63 : decode cX6_isLaw 63 = .ok (.ireturn, 1) := by decide +kernel
theorem dX6_isOfPerson_0 : decode cX6_isOfPerson 0 = .ok (.iload_n 1, 1) := by decide +kernel
theorem dX6_isOfPerson_1 : decode cX6_isOfPerson 1 = .ok (.tableswitch 84 0 4 #[35, 35, 40, 52, 69], 35) := by decide +kernel
theorem dX6_isOfPerson_36 : decode cX6_isOfPerson 36 = .ok (.iload_n 2, 1) := by decide +kernel
theorem dX6_isOfPerson_37 : decode cX6_isOfPerson 37 = .ok (.invokestatic 113, 3) := by decide +kernel
theorem dX6_isOfPerson_40 : decode cX6_isOfPerson 40 = .ok (.ireturn, 1) := by decide +kernel
theorem dX6_isOfPerson_41 : decode cX6_isOfPerson 41 = .ok (.aload_n 0, 1) := by decide +kernel
theorem dX6_isOfPerson_42 : decode cX6_isOfPerson 42 = .ok (.getfield 12, 3) := by decide +kernel
theorem dX6_isOfPerson_45 : decode cX6_isOfPerson 45 = .ok (.getfield 64, 3) := by decide +kernel
theorem dX6_isOfPerson_48 : decode cX6_isOfPerson 48 = .ok (.iload_n 2, 1) := by decide +kernel
theorem dX6_isOfPerson_49 : decode cX6_isOfPerson 49 = .ok (.invokevirtual 78, 3) := by decide +kernel
theorem dX6_isOfPerson_52 : decode cX6_isOfPerson 52 = .ok (.ireturn, 1) := by decide +kernel
theorem dX6_isOfPerson_53 : decode cX6_isOfPerson 53 = .ok (.iload_n 2, 1) := by decide +kernel
theorem dX6_isOfPerson_54 : decode cX6_isOfPerson 54 = .ok (.ifCond .lt 14, 3) := by decide +kernel
theorem dX6_isOfPerson_57 : decode cX6_isOfPerson 57 = .ok (.iload_n 2, 1) := by decide +kernel
theorem dX6_isOfPerson_58 : decode cX6_isOfPerson 58 = .ok (.ldc_w 308, 3) := by decide +kernel
theorem dX6_isOfPerson_61 : decode cX6_isOfPerson 61 = .ok (.if_icmp .gt 7, 3) := by decide +kernel
theorem dX6_isOfPerson_64 : decode cX6_isOfPerson 64 = .ok (.iconst 1, 1) := by decide +kernel
theorem dX6_isOfPerson_65 : decode cX6_isOfPerson 65 = .ok (.goto 4, 3) := by decide +kernel
theorem dX6_isOfPerson_68 : decode cX6_isOfPerson 68 = .ok (.iconst 0, 1) := by decide +kernel
theorem dX6_isOfPerson_69 : decode cX6_isOfPerson 69 = .ok (.ireturn, 1) := by decide +kernel
theorem dX6_isOfPerson_70 : decode cX6_isOfPerson 70 = .ok (.iload_n 2, 1) := by decide +kernel
theorem dX6_isOfPerson_71 : decode cX6_isOfPerson 71 = .ok (.ifCond .eq 8, 3) := by decide +kernel
theorem dX6_isOfPerson_74 : decode cX6_isOfPerson 74 = .ok (.iload_n 2, 1) := by decide +kernel
theorem dX6_isOfPerson_75 : decode cX6_isOfPerson 75 = .ok (.iconst 1, 1) := by decide +kernel
theorem dX6_isOfPerson_76 : decode cX6_isOfPerson 76 = .ok (.if_icmp .ne 7, 3) := by decide +kernel
theorem dX6_isOfPerson_79 : decode cX6_isOfPerson 79 = .ok (.iconst 1, 1) := by decide +kernel
theorem dX6_isOfPerson_80 : decode cX6_isOfPerson 80 = .ok (.goto 4, 3) := by decide +kernel
theorem dX6_isOfPerson_83 : decode cX6_isOfPerson 83 = .ok (.iconst 0, 1) := by decide +kernel
theorem dX6_isOfPerson_84 : decode cX6_isOfPerson 84 = .ok (.ireturn, 1) := by decide +kernel
theorem dX6_isOfPerson_85 : decode cX6_isOfPerson 85 = .ok (.iconst 0, 1) := by decide +kernel
theorem dX6_isOfPerson_86 : decode cX6_isOfPerson 86 = .ok (.ireturn, 1) := by decide +kernel
theorem dX6_isKind_0 : decode cX6_isKind 0 = .ok (.iload_n 0, 1) := by decide +kernel
theorem dX6_isKind_1 : decode cX6_isKind 1 = .ok (.ifCond .lt 13, 3) := by decide +kernel
theorem dX6_isKind_4 : decode cX6_isKind 4 = .ok (.iload_n 0, 1) := by decide +kernel
theorem dX6_isKind_5 : decode cX6_isKind 5 = .ok (.bipush 7, 2) := by decide +kernel
theorem dX6_isKind_7 : decode cX6_isKind 7 = .ok (.if_icmp .ge 7, 3) := by decide +kernel
theorem dX6_isKind_10 : decode cX6_isKind 10 = .ok (.iconst 1, 1) := by decide +kernel
theorem dX6_isKind_11 : decode cX6_isKind 11 = .ok (.goto 4, 3) := by decide +kernel
theorem dX6_isKind_14 : decode cX6_isKind 14 = .ok (.iconst 0, 1) := by decide +kernel
theorem dX6_isKind_15 : decode cX6_isKind 15 = .ok (.ireturn, 1) := by decide +kernel
theorem dX6_isUnder_0 : decode cX6_isUnder 0 = .ok (.iload_n 0, 1) := by decide +kernel
theorem dX6_isUnder_1 : decode cX6_isUnder 1 = .ok (.istore_n 2, 1) := by decide +kernel
theorem dX6_isUnder_2 : decode cX6_isUnder 2 = .ok (.iconst 0, 1) := by decide +kernel
theorem dX6_isUnder_3 : decode cX6_isUnder 3 = .ok (.istore_n 3, 1) := by decide +kernel
theorem dX6_isUnder_4 : decode cX6_isUnder 4 = .ok (.iload_n 3, 1) := by decide +kernel
theorem dX6_isUnder_5 : decode cX6_isUnder 5 = .ok (.bipush 7, 2) := by decide +kernel
theorem dX6_isUnder_7 : decode cX6_isUnder 7 = .ok (.if_icmp .ge 29, 3) := by decide +kernel
theorem dX6_isUnder_10 : decode cX6_isUnder 10 = .ok (.iload_n 2, 1) := by decide +kernel
theorem dX6_isUnder_11 : decode cX6_isUnder 11 = .ok (.invokestatic 55, 3) := by decide +kernel
theorem dX6_isUnder_14 : decode cX6_isUnder 14 = .ok (.ifCond .eq 22, 3) := by decide +kernel
theorem dX6_isUnder_17 : decode cX6_isUnder 17 = .ok (.iload_n 2, 1) := by decide +kernel
theorem dX6_isUnder_18 : decode cX6_isUnder 18 = .ok (.iload_n 1, 1) := by decide +kernel
theorem dX6_isUnder_19 : decode cX6_isUnder 19 = .ok (.if_icmp .ne 5, 3) := by decide +kernel
theorem dX6_isUnder_22 : decode cX6_isUnder 22 = .ok (.iconst 1, 1) := by decide +kernel
theorem dX6_isUnder_23 : decode cX6_isUnder 23 = .ok (.ireturn, 1) := by decide +kernel
theorem dX6_isUnder_24 : decode cX6_isUnder 24 = .ok (.getstatic 309, 3) := by decide +kernel
theorem dX6_isUnder_27 : decode cX6_isUnder 27 = .ok (.iload_n 2, 1) := by decide +kernel
theorem dX6_isUnder_28 : decode cX6_isUnder 28 = .ok (.iaload, 1) := by decide +kernel
theorem dX6_isUnder_29 : decode cX6_isUnder 29 = .ok (.istore_n 2, 1) := by decide +kernel
theorem dX6_isUnder_30 : decode cX6_isUnder 30 = .ok (.iinc 3 1, 3) := by decide +kernel
theorem dX6_isUnder_33 : decode cX6_isUnder 33 = .ok (.goto (-29), 3) := by decide +kernel
theorem dX6_isUnder_36 : decode cX6_isUnder 36 = .ok (.iconst 0, 1) := by decide +kernel
theorem dX6_isUnder_37 : decode cX6_isUnder 37 = .ok (.ireturn, 1) := by decide +kernel
theorem dX6_isSaying_0 : decode cX6_isSaying 0 = .ok (.iload_n 0, 1) := by decide +kernel
theorem dX6_isSaying_1 : decode cX6_isSaying 1 = .ok (.ifCond .lt 14, 3) := by decide +kernel
theorem dX6_isSaying_4 : decode cX6_isSaying 4 = .ok (.iload_n 0, 1) := by decide +kernel
theorem dX6_isSaying_5 : decode cX6_isSaying 5 = .ok (.sipush 4096, 3) := by decide +kernel
theorem dX6_isSaying_8 : decode cX6_isSaying 8 = .ok (.if_icmp .ge 7, 3) := by decide +kernel
theorem dX6_isSaying_11 : decode cX6_isSaying 11 = .ok (.iconst 1, 1) := by decide +kernel
theorem dX6_isSaying_12 : decode cX6_isSaying 12 = .ok (.goto 4, 3) := by decide +kernel
theorem dX6_isSaying_15 : decode cX6_isSaying 15 = .ok (.iconst 0, 1) := by decide +kernel
theorem dX6_isSaying_16 : decode cX6_isSaying 16 = .ok (.ireturn, 1) := by decide +kernel
theorem dX6_isMark_0 : decode cX6_isMark 0 = .ok (.iload_n 0, 1) := by decide +kernel
theorem dX6_isMark_1 : decode cX6_isMark 1 = .ok (.ifCond .lt 13, 3) := by decide +kernel
theorem dX6_isMark_4 : decode cX6_isMark 4 = .ok (.iload_n 0, 1) := by decide +kernel
theorem dX6_isMark_5 : decode cX6_isMark 5 = .ok (.bipush 12, 2) := by decide +kernel
theorem dX6_isMark_7 : decode cX6_isMark 7 = .ok (.if_icmp .ge 7, 3) := by decide +kernel
theorem dX6_isMark_10 : decode cX6_isMark 10 = .ok (.iconst 1, 1) := by decide +kernel
theorem dX6_isMark_11 : decode cX6_isMark 11 = .ok (.goto 4, 3) := by decide +kernel
theorem dX6_isMark_14 : decode cX6_isMark 14 = .ok (.iconst 0, 1) := by decide +kernel
theorem dX6_isMark_15 : decode cX6_isMark 15 = .ok (.ireturn, 1) := by decide +kernel
theorem dX6_isAhead_0 : decode cX6_isAhead 0 = .ok (.iload_n 0, 1) := by decide +kernel
theorem dX6_isAhead_1 : decode cX6_isAhead 1 = .ok (.ifCond .lt 13, 3) := by decide +kernel
theorem dX6_isAhead_4 : decode cX6_isAhead 4 = .ok (.iload_n 0, 1) := by decide +kernel
theorem dX6_isAhead_5 : decode cX6_isAhead 5 = .ok (.bipush 60, 2) := by decide +kernel
theorem dX6_isAhead_7 : decode cX6_isAhead 7 = .ok (.if_icmp .gt 7, 3) := by decide +kernel
theorem dX6_isAhead_10 : decode cX6_isAhead 10 = .ok (.iconst 1, 1) := by decide +kernel
theorem dX6_isAhead_11 : decode cX6_isAhead 11 = .ok (.goto 4, 3) := by decide +kernel
theorem dX6_isAhead_14 : decode cX6_isAhead 14 = .ok (.iconst 0, 1) := by decide +kernel
theorem dX6_isAhead_15 : decode cX6_isAhead 15 = .ok (.ireturn, 1) := by decide +kernel
theorem dX6_isSpot_0 : decode cX6_isSpot 0 = .ok (.iload_n 0, 1) := by decide +kernel
theorem dX6_isSpot_1 : decode cX6_isSpot 1 = .ok (.ifCond .lt 13, 3) := by decide +kernel
theorem dX6_isSpot_4 : decode cX6_isSpot 4 = .ok (.iload_n 0, 1) := by decide +kernel
theorem dX6_isSpot_5 : decode cX6_isSpot 5 = .ok (.bipush 10, 2) := by decide +kernel
theorem dX6_isSpot_7 : decode cX6_isSpot 7 = .ok (.if_icmp .ge 7, 3) := by decide +kernel
theorem dX6_isSpot_10 : decode cX6_isSpot 10 = .ok (.iconst 1, 1) := by decide +kernel
theorem dX6_isSpot_11 : decode cX6_isSpot 11 = .ok (.goto 4, 3) := by decide +kernel
theorem dX6_isSpot_14 : decode cX6_isSpot 14 = .ok (.iconst 0, 1) := by decide +kernel
theorem dX6_isSpot_15 : decode cX6_isSpot 15 = .ok (.ireturn, 1) := by decide +kernel
theorem dX6_isSheet_0 : decode cX6_isSheet 0 = .ok (.iload_n 0, 1) := by decide +kernel
theorem dX6_isSheet_1 : decode cX6_isSheet 1 = .ok (.ifCond .lt 12, 3) := by decide +kernel
theorem dX6_isSheet_4 : decode cX6_isSheet 4 = .ok (.iload_n 0, 1) := by decide +kernel
theorem dX6_isSheet_5 : decode cX6_isSheet 5 = .ok (.iconst 4, 1) := by decide +kernel
theorem dX6_isSheet_6 : decode cX6_isSheet 6 = .ok (.if_icmp .ge 7, 3) := by decide +kernel
theorem dX6_isSheet_9 : decode cX6_isSheet 9 = .ok (.iconst 1, 1) := by decide +kernel
theorem dX6_isSheet_10 : decode cX6_isSheet 10 = .ok (.goto 4, 3) := by decide +kernel
theorem dX6_isSheet_13 : decode cX6_isSheet 13 = .ok (.iconst 0, 1) := by decide +kernel
theorem dX6_isSheet_14 : decode cX6_isSheet 14 = .ok (.ireturn, 1) := by decide +kernel
theorem dX6_isWidth_0 : decode cX6_isWidth 0 = .ok (.iload_n 0, 1) := by decide +kernel
theorem dX6_isWidth_1 : decode cX6_isWidth 1 = .ok (.ifCond .eq 21, 3) := by decide +kernel
theorem dX6_isWidth_4 : decode cX6_isWidth 4 = .ok (.iload_n 0, 1) := by decide +kernel
theorem dX6_isWidth_5 : decode cX6_isWidth 5 = .ok (.bipush 8, 2) := by decide +kernel
theorem dX6_isWidth_7 : decode cX6_isWidth 7 = .ok (.if_icmp .eq 15, 3) := by decide +kernel
theorem dX6_isWidth_10 : decode cX6_isWidth 10 = .ok (.iload_n 0, 1) := by decide +kernel
theorem dX6_isWidth_11 : decode cX6_isWidth 11 = .ok (.bipush 16, 2) := by decide +kernel
theorem dX6_isWidth_13 : decode cX6_isWidth 13 = .ok (.if_icmp .eq 9, 3) := by decide +kernel
theorem dX6_isWidth_16 : decode cX6_isWidth 16 = .ok (.iload_n 0, 1) := by decide +kernel
theorem dX6_isWidth_17 : decode cX6_isWidth 17 = .ok (.bipush 32, 2) := by decide +kernel
theorem dX6_isWidth_19 : decode cX6_isWidth 19 = .ok (.if_icmp .ne 7, 3) := by decide +kernel
theorem dX6_isWidth_22 : decode cX6_isWidth 22 = .ok (.iconst 1, 1) := by decide +kernel
theorem dX6_isWidth_23 : decode cX6_isWidth 23 = .ok (.goto 4, 3) := by decide +kernel
theorem dX6_isWidth_26 : decode cX6_isWidth 26 = .ok (.iconst 0, 1) := by decide +kernel
theorem dX6_isWidth_27 : decode cX6_isWidth 27 = .ok (.ireturn, 1) := by decide +kernel
