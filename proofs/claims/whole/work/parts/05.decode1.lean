/-! decode rows (by program) -/
theorem d_SA_init_0 : decode b_SA_init 0 = .ok (.aload_n 0, 1) := by decide +kernel
theorem d_SA_init_1 : decode b_SA_init 1 = .ok (.invokespecial 1, 3) := by decide +kernel
theorem d_SA_init_4 : decode b_SA_init 4 = .ok (.aload_n 0, 1) := by decide +kernel
theorem d_SA_init_5 : decode b_SA_init 5 = .ok (.new 7, 3) := by decide +kernel
theorem d_SA_init_8 : decode b_SA_init 8 = .ok (.dup, 1) := by decide +kernel
theorem d_SA_init_9 : decode b_SA_init 9 = .ok (.invokespecial 9, 3) := by decide +kernel
theorem d_SA_init_12 : decode b_SA_init 12 = .ok (.putfield 10, 3) := by decide +kernel
theorem d_SA_init_15 : decode b_SA_init 15 = .ok (.aload_n 0, 1) := by decide +kernel
theorem d_SA_init_16 : decode b_SA_init 16 = .ok (.iconst 3, 1) := by decide +kernel
theorem d_SA_init_17 : decode b_SA_init 17 = .ok (.anewarray 16, 3) := by decide +kernel
theorem d_SA_init_20 : decode b_SA_init 20 = .ok (.putfield 18, 3) := by decide +kernel
theorem d_SA_init_23 : decode b_SA_init 23 = .ok (.iconst 0, 1) := by decide +kernel
theorem d_SA_init_24 : decode b_SA_init 24 = .ok (.istore_n 1, 1) := by decide +kernel
theorem d_SA_init_25 : decode b_SA_init 25 = .ok (.iload_n 1, 1) := by decide +kernel
theorem d_SA_init_26 : decode b_SA_init 26 = .ok (.iconst 3, 1) := by decide +kernel
theorem d_SA_init_27 : decode b_SA_init 27 = .ok (.if_icmp .ge 22, 3) := by decide +kernel
theorem d_SA_init_30 : decode b_SA_init 30 = .ok (.aload_n 0, 1) := by decide +kernel
theorem d_SA_init_31 : decode b_SA_init 31 = .ok (.getfield 18, 3) := by decide +kernel
theorem d_SA_init_34 : decode b_SA_init 34 = .ok (.iload_n 1, 1) := by decide +kernel
theorem d_SA_init_35 : decode b_SA_init 35 = .ok (.new 16, 3) := by decide +kernel
theorem d_SA_init_38 : decode b_SA_init 38 = .ok (.dup, 1) := by decide +kernel
theorem d_SA_init_39 : decode b_SA_init 39 = .ok (.invokespecial 22, 3) := by decide +kernel
theorem d_SA_init_42 : decode b_SA_init 42 = .ok (.aastore, 1) := by decide +kernel
theorem d_SA_init_43 : decode b_SA_init 43 = .ok (.iinc 1 1, 3) := by decide +kernel
theorem d_SA_init_46 : decode b_SA_init 46 = .ok (.goto (-21), 3) := by decide +kernel
theorem d_SA_init_49 : decode b_SA_init 49 = .ok (.aload_n 0, 1) := by decide +kernel
theorem d_SA_init_50 : decode b_SA_init 50 = .ok (.iconst 4, 1) := by decide +kernel
theorem d_SA_init_51 : decode b_SA_init 51 = .ok (.anewarray 23, 3) := by decide +kernel
theorem d_SA_init_54 : decode b_SA_init 54 = .ok (.putfield 25, 3) := by decide +kernel
theorem d_SA_init_57 : decode b_SA_init 57 = .ok (.iconst 0, 1) := by decide +kernel
theorem d_SA_init_58 : decode b_SA_init 58 = .ok (.istore_n 1, 1) := by decide +kernel
theorem d_SA_init_59 : decode b_SA_init 59 = .ok (.iload_n 1, 1) := by decide +kernel
theorem d_SA_init_60 : decode b_SA_init 60 = .ok (.iconst 4, 1) := by decide +kernel
theorem d_SA_init_61 : decode b_SA_init 61 = .ok (.if_icmp .ge 22, 3) := by decide +kernel
theorem d_SA_init_64 : decode b_SA_init 64 = .ok (.aload_n 0, 1) := by decide +kernel
theorem d_SA_init_65 : decode b_SA_init 65 = .ok (.getfield 25, 3) := by decide +kernel
theorem d_SA_init_68 : decode b_SA_init 68 = .ok (.iload_n 1, 1) := by decide +kernel
theorem d_SA_init_69 : decode b_SA_init 69 = .ok (.new 23, 3) := by decide +kernel
theorem d_SA_init_72 : decode b_SA_init 72 = .ok (.dup, 1) := by decide +kernel
theorem d_SA_init_73 : decode b_SA_init 73 = .ok (.invokespecial 29, 3) := by decide +kernel
theorem d_SA_init_76 : decode b_SA_init 76 = .ok (.aastore, 1) := by decide +kernel
theorem d_SA_init_77 : decode b_SA_init 77 = .ok (.iinc 1 1, 3) := by decide +kernel
theorem d_SA_init_80 : decode b_SA_init 80 = .ok (.goto (-21), 3) := by decide +kernel
theorem d_SA_init_83 : decode b_SA_init 83 = .ok (.aload_n 0, 1) := by decide +kernel
theorem d_SA_init_84 : decode b_SA_init 84 = .ok (.new 30, 3) := by decide +kernel
theorem d_SA_init_87 : decode b_SA_init 87 = .ok (.dup, 1) := by decide +kernel
theorem d_SA_init_88 : decode b_SA_init 88 = .ok (.invokespecial 32, 3) := by decide +kernel
theorem d_SA_init_91 : decode b_SA_init 91 = .ok (.putfield 33, 3) := by decide +kernel
theorem d_SA_init_94 : decode b_SA_init 94 = .ok (.aload_n 0, 1) := by decide +kernel
theorem d_SA_init_95 : decode b_SA_init 95 = .ok (.new 37, 3) := by decide +kernel
theorem d_SA_init_98 : decode b_SA_init 98 = .ok (.dup, 1) := by decide +kernel
theorem d_SA_init_99 : decode b_SA_init 99 = .ok (.invokespecial 39, 3) := by decide +kernel
theorem d_SA_init_102 : decode b_SA_init 102 = .ok (.putfield 40, 3) := by decide +kernel
theorem d_SA_init_105 : decode b_SA_init 105 = .ok (.aload_n 0, 1) := by decide +kernel
theorem d_SA_init_106 : decode b_SA_init 106 = .ok (.new 44, 3) := by decide +kernel
theorem d_SA_init_109 : decode b_SA_init 109 = .ok (.dup, 1) := by decide +kernel
theorem d_SA_init_110 : decode b_SA_init 110 = .ok (.invokespecial 46, 3) := by decide +kernel
theorem d_SA_init_113 : decode b_SA_init 113 = .ok (.putfield 47, 3) := by decide +kernel
theorem d_SA_init_116 : decode b_SA_init 116 = .ok (.return_, 1) := by decide +kernel
theorem d_SA_group_0 : decode b_SA_group 0 = .ok (.iload_n 1, 1) := by decide +kernel
theorem d_SA_group_1 : decode b_SA_group 1 = .ok (.iconst (-1), 1) := by decide +kernel
theorem d_SA_group_2 : decode b_SA_group 2 = .ok (.if_icmp .eq 8, 3) := by decide +kernel
theorem d_SA_group_5 : decode b_SA_group 5 = .ok (.aload_n 0, 1) := by decide +kernel
theorem d_SA_group_6 : decode b_SA_group 6 = .ok (.iload_n 1, 1) := by decide +kernel
theorem d_SA_group_7 : decode b_SA_group 7 = .ok (.invokevirtual 51, 3) := by decide +kernel
theorem d_SA_group_10 : decode b_SA_group 10 = .ok (.iload_n 2, 1) := by decide +kernel
theorem d_SA_group_11 : decode b_SA_group 11 = .ok (.bipush 12, 2) := by decide +kernel
theorem d_SA_group_13 : decode b_SA_group 13 = .ok (.invokestatic 55, 3) := by decide +kernel
theorem d_SA_group_16 : decode b_SA_group 16 = .ok (.aload_n 0, 1) := by decide +kernel
theorem d_SA_group_17 : decode b_SA_group 17 = .ok (.getfield 10, 3) := by decide +kernel
theorem d_SA_group_20 : decode b_SA_group 20 = .ok (.getfield 59, 3) := by decide +kernel
theorem d_SA_group_23 : decode b_SA_group 23 = .ok (.bipush 6, 2) := by decide +kernel
theorem d_SA_group_25 : decode b_SA_group 25 = .ok (.if_icmp .ne 13, 3) := by decide +kernel
theorem d_SA_group_28 : decode b_SA_group 28 = .ok (.new 63, 3) := by decide +kernel
theorem d_SA_group_31 : decode b_SA_group 31 = .ok (.dup, 1) := by decide +kernel
theorem d_SA_group_32 : decode b_SA_group 32 = .ok (.ldc 65, 2) := by decide +kernel
theorem d_SA_group_34 : decode b_SA_group 34 = .ok (.invokespecial 67, 3) := by decide +kernel
theorem d_SA_group_37 : decode b_SA_group 37 = .ok (.athrow, 1) := by decide +kernel
theorem d_SA_group_38 : decode b_SA_group 38 = .ok (.iload_n 1, 1) := by decide +kernel
theorem d_SA_group_39 : decode b_SA_group 39 = .ok (.iconst (-1), 1) := by decide +kernel
theorem d_SA_group_40 : decode b_SA_group 40 = .ok (.if_icmp .ne 23, 3) := by decide +kernel
theorem d_SA_group_43 : decode b_SA_group 43 = .ok (.aload_n 0, 1) := by decide +kernel
theorem d_SA_group_44 : decode b_SA_group 44 = .ok (.getfield 10, 3) := by decide +kernel
theorem d_SA_group_47 : decode b_SA_group 47 = .ok (.getfield 59, 3) := by decide +kernel
theorem d_SA_group_50 : decode b_SA_group 50 = .ok (.ifCond .le 13, 3) := by decide +kernel
theorem d_SA_group_53 : decode b_SA_group 53 = .ok (.new 63, 3) := by decide +kernel
theorem d_SA_group_56 : decode b_SA_group 56 = .ok (.dup, 1) := by decide +kernel
theorem d_SA_group_57 : decode b_SA_group 57 = .ok (.ldc 70, 2) := by decide +kernel
theorem d_SA_group_59 : decode b_SA_group 59 = .ok (.invokespecial 67, 3) := by decide +kernel
theorem d_SA_group_62 : decode b_SA_group 62 = .ok (.athrow, 1) := by decide +kernel
theorem d_SA_group_63 : decode b_SA_group 63 = .ok (.aload_n 0, 1) := by decide +kernel
theorem d_SA_group_64 : decode b_SA_group 64 = .ok (.getfield 10, 3) := by decide +kernel
theorem d_SA_group_67 : decode b_SA_group 67 = .ok (.iload_n 1, 1) := by decide +kernel
theorem d_SA_group_68 : decode b_SA_group 68 = .ok (.iload_n 2, 1) := by decide +kernel
theorem d_SA_group_69 : decode b_SA_group 69 = .ok (.invokevirtual 72, 3) := by decide +kernel
theorem d_SA_group_72 : decode b_SA_group 72 = .ok (.ireturn, 1) := by decide +kernel
theorem d_SA_course_0 : decode b_SA_course 0 = .ok (.aload_n 0, 1) := by decide +kernel
theorem d_SA_course_1 : decode b_SA_course 1 = .ok (.iload_n 1, 1) := by decide +kernel
theorem d_SA_course_2 : decode b_SA_course 2 = .ok (.invokevirtual 51, 3) := by decide +kernel
theorem d_SA_course_5 : decode b_SA_course 5 = .ok (.aload_n 0, 1) := by decide +kernel
theorem d_SA_course_6 : decode b_SA_course 6 = .ok (.getfield 10, 3) := by decide +kernel
theorem d_SA_course_9 : decode b_SA_course 9 = .ok (.getfield 76, 3) := by decide +kernel
theorem d_SA_course_12 : decode b_SA_course 12 = .ok (.bipush 12, 2) := by decide +kernel
theorem d_SA_course_14 : decode b_SA_course 14 = .ok (.if_icmp .ne 13, 3) := by decide +kernel
theorem d_SA_course_17 : decode b_SA_course 17 = .ok (.new 63, 3) := by decide +kernel
theorem d_SA_course_20 : decode b_SA_course 20 = .ok (.dup, 1) := by decide +kernel
theorem d_SA_course_21 : decode b_SA_course 21 = .ok (.ldc 79, 2) := by decide +kernel
theorem d_SA_course_23 : decode b_SA_course 23 = .ok (.invokespecial 67, 3) := by decide +kernel
theorem d_SA_course_26 : decode b_SA_course 26 = .ok (.athrow, 1) := by decide +kernel
theorem d_SA_course_27 : decode b_SA_course 27 = .ok (.aload_n 0, 1) := by decide +kernel
theorem d_SA_course_28 : decode b_SA_course 28 = .ok (.getfield 10, 3) := by decide +kernel
theorem d_SA_course_31 : decode b_SA_course 31 = .ok (.iload_n 1, 1) := by decide +kernel
theorem d_SA_course_32 : decode b_SA_course 32 = .ok (.invokevirtual 81, 3) := by decide +kernel
theorem d_SA_course_35 : decode b_SA_course 35 = .ok (.ireturn, 1) := by decide +kernel
theorem d_SA_open_0 : decode b_SA_open 0 = .ok (.aload_n 0, 1) := by decide +kernel
theorem d_SA_open_1 : decode b_SA_open 1 = .ok (.iload_n 1, 1) := by decide +kernel
theorem d_SA_open_2 : decode b_SA_open 2 = .ok (.invokevirtual 85, 3) := by decide +kernel
theorem d_SA_open_5 : decode b_SA_open 5 = .ok (.aload_n 0, 1) := by decide +kernel
theorem d_SA_open_6 : decode b_SA_open 6 = .ok (.getfield 10, 3) := by decide +kernel
theorem d_SA_open_9 : decode b_SA_open 9 = .ok (.getfield 88, 3) := by decide +kernel
theorem d_SA_open_12 : decode b_SA_open 12 = .ok (.istore_n 3, 1) := by decide +kernel
theorem d_SA_open_13 : decode b_SA_open 13 = .ok (.aload_n 0, 1) := by decide +kernel
theorem d_SA_open_14 : decode b_SA_open 14 = .ok (.getfield 10, 3) := by decide +kernel
theorem d_SA_open_17 : decode b_SA_open 17 = .ok (.iload_n 2, 1) := by decide +kernel
theorem d_SA_open_18 : decode b_SA_open 18 = .ok (.ifCond .eq 11, 3) := by decide +kernel
theorem d_SA_open_21 : decode b_SA_open 21 = .ok (.iload_n 3, 1) := by decide +kernel
theorem d_SA_open_22 : decode b_SA_open 22 = .ok (.iload_n 1, 1) := by decide +kernel
theorem d_SA_open_23 : decode b_SA_open 23 = .ok (.invokestatic 91, 3) := by decide +kernel
theorem d_SA_open_26 : decode b_SA_open 26 = .ok (.goto 8, 3) := by decide +kernel
theorem d_SA_open_29 : decode b_SA_open 29 = .ok (.iload_n 3, 1) := by decide +kernel
theorem d_SA_open_30 : decode b_SA_open 30 = .ok (.iload_n 1, 1) := by decide +kernel
theorem d_SA_open_31 : decode b_SA_open 31 = .ok (.invokestatic 94, 3) := by decide +kernel
theorem d_SA_open_34 : decode b_SA_open 34 = .ok (.putfield 88, 3) := by decide +kernel
theorem d_SA_open_37 : decode b_SA_open 37 = .ok (.iload_n 3, 1) := by decide +kernel
theorem d_SA_open_38 : decode b_SA_open 38 = .ok (.iload_n 1, 1) := by decide +kernel
theorem d_SA_open_39 : decode b_SA_open 39 = .ok (.invokestatic 97, 3) := by decide +kernel
theorem d_SA_open_42 : decode b_SA_open 42 = .ok (.ireturn, 1) := by decide +kernel
theorem d_SA_expire_0 : decode b_SA_expire 0 = .ok (.aload_n 0, 1) := by decide +kernel
theorem d_SA_expire_1 : decode b_SA_expire 1 = .ok (.iload_n 1, 1) := by decide +kernel
theorem d_SA_expire_2 : decode b_SA_expire 2 = .ok (.invokevirtual 85, 3) := by decide +kernel
theorem d_SA_expire_5 : decode b_SA_expire 5 = .ok (.iload_n 2, 1) := by decide +kernel
theorem d_SA_expire_6 : decode b_SA_expire 6 = .ok (.bipush 40, 2) := by decide +kernel
theorem d_SA_expire_8 : decode b_SA_expire 8 = .ok (.invokestatic 55, 3) := by decide +kernel
theorem d_SA_expire_11 : decode b_SA_expire 11 = .ok (.aload_n 0, 1) := by decide +kernel
theorem d_SA_expire_12 : decode b_SA_expire 12 = .ok (.getfield 10, 3) := by decide +kernel
theorem d_SA_expire_15 : decode b_SA_expire 15 = .ok (.getfield 101, 3) := by decide +kernel
theorem d_SA_expire_18 : decode b_SA_expire 18 = .ok (.iload_n 1, 1) := by decide +kernel
theorem d_SA_expire_19 : decode b_SA_expire 19 = .ok (.iaload, 1) := by decide +kernel
theorem d_SA_expire_20 : decode b_SA_expire 20 = .ok (.istore_n 3, 1) := by decide +kernel
theorem d_SA_expire_21 : decode b_SA_expire 21 = .ok (.aload_n 0, 1) := by decide +kernel
theorem d_SA_expire_22 : decode b_SA_expire 22 = .ok (.getfield 10, 3) := by decide +kernel
theorem d_SA_expire_25 : decode b_SA_expire 25 = .ok (.getfield 101, 3) := by decide +kernel
theorem d_SA_expire_28 : decode b_SA_expire 28 = .ok (.iload_n 1, 1) := by decide +kernel
theorem d_SA_expire_29 : decode b_SA_expire 29 = .ok (.iload_n 2, 1) := by decide +kernel
theorem d_SA_expire_30 : decode b_SA_expire 30 = .ok (.iastore, 1) := by decide +kernel
theorem d_SA_expire_31 : decode b_SA_expire 31 = .ok (.iload_n 3, 1) := by decide +kernel
theorem d_SA_expire_32 : decode b_SA_expire 32 = .ok (.ireturn, 1) := by decide +kernel
theorem d_SA_requirement_0 : decode b_SA_requirement 0 = .ok (.aload_n 0, 1) := by decide +kernel
theorem d_SA_requirement_1 : decode b_SA_requirement 1 = .ok (.iload_n 1, 1) := by decide +kernel
theorem d_SA_requirement_2 : decode b_SA_requirement 2 = .ok (.invokevirtual 105, 3) := by decide +kernel
theorem d_SA_requirement_5 : decode b_SA_requirement 5 = .ok (.iconst 1, 1) := by decide +kernel
theorem d_SA_requirement_6 : decode b_SA_requirement 6 = .ok (.iload_n 2, 1) := by decide +kernel
theorem d_SA_requirement_7 : decode b_SA_requirement 7 = .ok (.bipush 6, 2) := by decide +kernel
theorem d_SA_requirement_9 : decode b_SA_requirement 9 = .ok (.invokestatic 108, 3) := by decide +kernel
theorem d_SA_requirement_12 : decode b_SA_requirement 12 = .ok (.aload_n 0, 1) := by decide +kernel
theorem d_SA_requirement_13 : decode b_SA_requirement 13 = .ok (.getfield 18, 3) := by decide +kernel
theorem d_SA_requirement_16 : decode b_SA_requirement 16 = .ok (.iload_n 1, 1) := by decide +kernel
theorem d_SA_requirement_17 : decode b_SA_requirement 17 = .ok (.aaload, 1) := by decide +kernel
theorem d_SA_requirement_18 : decode b_SA_requirement 18 = .ok (.getfield 112, 3) := by decide +kernel
theorem d_SA_requirement_21 : decode b_SA_requirement 21 = .ok (.iconst 5, 1) := by decide +kernel
theorem d_SA_requirement_22 : decode b_SA_requirement 22 = .ok (.if_icmp .ne 13, 3) := by decide +kernel
theorem d_SA_requirement_25 : decode b_SA_requirement 25 = .ok (.new 63, 3) := by decide +kernel
theorem d_SA_requirement_28 : decode b_SA_requirement 28 = .ok (.dup, 1) := by decide +kernel
theorem d_SA_requirement_29 : decode b_SA_requirement 29 = .ok (.ldc 115, 2) := by decide +kernel
theorem d_SA_requirement_31 : decode b_SA_requirement 31 = .ok (.invokespecial 67, 3) := by decide +kernel
theorem d_SA_requirement_34 : decode b_SA_requirement 34 = .ok (.athrow, 1) := by decide +kernel
theorem d_SA_requirement_35 : decode b_SA_requirement 35 = .ok (.aload_n 0, 1) := by decide +kernel
theorem d_SA_requirement_36 : decode b_SA_requirement 36 = .ok (.getfield 18, 3) := by decide +kernel
theorem d_SA_requirement_39 : decode b_SA_requirement 39 = .ok (.iload_n 1, 1) := by decide +kernel
theorem d_SA_requirement_40 : decode b_SA_requirement 40 = .ok (.aaload, 1) := by decide +kernel
theorem d_SA_requirement_41 : decode b_SA_requirement 41 = .ok (.iload_n 2, 1) := by decide +kernel
theorem d_SA_requirement_42 : decode b_SA_requirement 42 = .ok (.invokevirtual 117, 3) := by decide +kernel
theorem d_SA_requirement_45 : decode b_SA_requirement 45 = .ok (.ireturn, 1) := by decide +kernel
theorem d_SA_allow_0 : decode b_SA_allow 0 = .ok (.aload_n 0, 1) := by decide +kernel
theorem d_SA_allow_1 : decode b_SA_allow 1 = .ok (.iload_n 1, 1) := by decide +kernel
theorem d_SA_allow_2 : decode b_SA_allow 2 = .ok (.invokevirtual 105, 3) := by decide +kernel
theorem d_SA_allow_5 : decode b_SA_allow 5 = .ok (.aload_n 0, 1) := by decide +kernel
theorem d_SA_allow_6 : decode b_SA_allow 6 = .ok (.iload_n 1, 1) := by decide +kernel
theorem d_SA_allow_7 : decode b_SA_allow 7 = .ok (.iload_n 2, 1) := by decide +kernel
theorem d_SA_allow_8 : decode b_SA_allow 8 = .ok (.invokevirtual 120, 3) := by decide +kernel
theorem d_SA_allow_11 : decode b_SA_allow 11 = .ok (.aload_n 0, 1) := by decide +kernel
theorem d_SA_allow_12 : decode b_SA_allow 12 = .ok (.iload_n 3, 1) := by decide +kernel
theorem d_SA_allow_13 : decode b_SA_allow 13 = .ok (.invokevirtual 85, 3) := by decide +kernel
theorem d_SA_allow_16 : decode b_SA_allow 16 = .ok (.aload_n 0, 1) := by decide +kernel
theorem d_SA_allow_17 : decode b_SA_allow 17 = .ok (.getfield 18, 3) := by decide +kernel
theorem d_SA_allow_20 : decode b_SA_allow 20 = .ok (.iload_n 1, 1) := by decide +kernel
theorem d_SA_allow_21 : decode b_SA_allow 21 = .ok (.aaload, 1) := by decide +kernel
theorem d_SA_allow_22 : decode b_SA_allow 22 = .ok (.getfield 123, 3) := by decide +kernel
theorem d_SA_allow_25 : decode b_SA_allow 25 = .ok (.astore 4, 2) := by decide +kernel
theorem d_SA_allow_27 : decode b_SA_allow 27 = .ok (.aload 4, 2) := by decide +kernel
theorem d_SA_allow_29 : decode b_SA_allow 29 = .ok (.iload_n 2, 1) := by decide +kernel
theorem d_SA_allow_30 : decode b_SA_allow 30 = .ok (.iaload, 1) := by decide +kernel
theorem d_SA_allow_31 : decode b_SA_allow 31 = .ok (.iload_n 3, 1) := by decide +kernel
theorem d_SA_allow_32 : decode b_SA_allow 32 = .ok (.invokestatic 97, 3) := by decide +kernel
theorem d_SA_allow_35 : decode b_SA_allow 35 = .ok (.ifCond .ne 7, 3) := by decide +kernel
theorem d_SA_allow_38 : decode b_SA_allow 38 = .ok (.iconst 1, 1) := by decide +kernel
theorem d_SA_allow_39 : decode b_SA_allow 39 = .ok (.goto 4, 3) := by decide +kernel
theorem d_SA_allow_42 : decode b_SA_allow 42 = .ok (.iconst 0, 1) := by decide +kernel
theorem d_SA_allow_43 : decode b_SA_allow 43 = .ok (.istore 5, 2) := by decide +kernel
theorem d_SA_allow_45 : decode b_SA_allow 45 = .ok (.aload 4, 2) := by decide +kernel
theorem d_SA_allow_47 : decode b_SA_allow 47 = .ok (.iload_n 2, 1) := by decide +kernel
theorem d_SA_allow_48 : decode b_SA_allow 48 = .ok (.aload 4, 2) := by decide +kernel
theorem d_SA_allow_50 : decode b_SA_allow 50 = .ok (.iload_n 2, 1) := by decide +kernel
theorem d_SA_allow_51 : decode b_SA_allow 51 = .ok (.iaload, 1) := by decide +kernel
theorem d_SA_allow_52 : decode b_SA_allow 52 = .ok (.iload_n 3, 1) := by decide +kernel
theorem d_SA_allow_53 : decode b_SA_allow 53 = .ok (.invokestatic 91, 3) := by decide +kernel
theorem d_SA_allow_56 : decode b_SA_allow 56 = .ok (.iastore, 1) := by decide +kernel
theorem d_SA_allow_57 : decode b_SA_allow 57 = .ok (.iload 5, 2) := by decide +kernel
theorem d_SA_allow_59 : decode b_SA_allow 59 = .ok (.ireturn, 1) := by decide +kernel
theorem d_SA_student_0 : decode b_SA_student 0 = .ok (.aload_n 0, 1) := by decide +kernel
theorem d_SA_student_1 : decode b_SA_student 1 = .ok (.iload_n 1, 1) := by decide +kernel
theorem d_SA_student_2 : decode b_SA_student 2 = .ok (.invokevirtual 126, 3) := by decide +kernel
theorem d_SA_student_5 : decode b_SA_student 5 = .ok (.aload_n 0, 1) := by decide +kernel
theorem d_SA_student_6 : decode b_SA_student 6 = .ok (.iload_n 2, 1) := by decide +kernel
theorem d_SA_student_7 : decode b_SA_student 7 = .ok (.invokevirtual 105, 3) := by decide +kernel
theorem d_SA_student_10 : decode b_SA_student 10 = .ok (.aload_n 0, 1) := by decide +kernel
theorem d_SA_student_11 : decode b_SA_student 11 = .ok (.getfield 25, 3) := by decide +kernel
theorem d_SA_student_14 : decode b_SA_student 14 = .ok (.iload_n 1, 1) := by decide +kernel
theorem d_SA_student_15 : decode b_SA_student 15 = .ok (.aaload, 1) := by decide +kernel
theorem d_SA_student_16 : decode b_SA_student 16 = .ok (.getfield 129, 3) := by decide +kernel
theorem d_SA_student_19 : decode b_SA_student 19 = .ok (.istore_n 3, 1) := by decide +kernel
theorem d_SA_student_20 : decode b_SA_student 20 = .ok (.aload_n 0, 1) := by decide +kernel
theorem d_SA_student_21 : decode b_SA_student 21 = .ok (.getfield 25, 3) := by decide +kernel
theorem d_SA_student_24 : decode b_SA_student 24 = .ok (.iload_n 1, 1) := by decide +kernel
theorem d_SA_student_25 : decode b_SA_student 25 = .ok (.aaload, 1) := by decide +kernel
theorem d_SA_student_26 : decode b_SA_student 26 = .ok (.iload_n 2, 1) := by decide +kernel
theorem d_SA_student_27 : decode b_SA_student 27 = .ok (.invokevirtual 132, 3) := by decide +kernel
theorem d_SA_student_30 : decode b_SA_student 30 = .ok (.iload_n 3, 1) := by decide +kernel
theorem d_SA_student_31 : decode b_SA_student 31 = .ok (.ireturn, 1) := by decide +kernel
theorem d_SA_pass_0 : decode b_SA_pass 0 = .ok (.aload_n 0, 1) := by decide +kernel
theorem d_SA_pass_1 : decode b_SA_pass 1 = .ok (.iload_n 1, 1) := by decide +kernel
theorem d_SA_pass_2 : decode b_SA_pass 2 = .ok (.invokevirtual 126, 3) := by decide +kernel
theorem d_SA_pass_5 : decode b_SA_pass 5 = .ok (.aload_n 0, 1) := by decide +kernel
theorem d_SA_pass_6 : decode b_SA_pass 6 = .ok (.iload_n 2, 1) := by decide +kernel
theorem d_SA_pass_7 : decode b_SA_pass 7 = .ok (.invokevirtual 85, 3) := by decide +kernel
theorem d_SA_pass_10 : decode b_SA_pass 10 = .ok (.iconst 0, 1) := by decide +kernel
theorem d_SA_pass_11 : decode b_SA_pass 11 = .ok (.iload_n 3, 1) := by decide +kernel
theorem d_SA_pass_12 : decode b_SA_pass 12 = .ok (.bipush 99, 2) := by decide +kernel
theorem d_SA_pass_14 : decode b_SA_pass 14 = .ok (.invokestatic 108, 3) := by decide +kernel
theorem d_SA_pass_17 : decode b_SA_pass 17 = .ok (.aload_n 0, 1) := by decide +kernel
theorem d_SA_pass_18 : decode b_SA_pass 18 = .ok (.getfield 25, 3) := by decide +kernel
theorem d_SA_pass_21 : decode b_SA_pass 21 = .ok (.iload_n 1, 1) := by decide +kernel
theorem d_SA_pass_22 : decode b_SA_pass 22 = .ok (.aaload, 1) := by decide +kernel
theorem d_SA_pass_23 : decode b_SA_pass 23 = .ok (.getfield 135, 3) := by decide +kernel
theorem d_SA_pass_26 : decode b_SA_pass 26 = .ok (.astore 4, 2) := by decide +kernel
theorem d_SA_pass_28 : decode b_SA_pass 28 = .ok (.aload 4, 2) := by decide +kernel
theorem d_SA_pass_30 : decode b_SA_pass 30 = .ok (.iload_n 2, 1) := by decide +kernel
theorem d_SA_pass_31 : decode b_SA_pass 31 = .ok (.aload 4, 2) := by decide +kernel
theorem d_SA_pass_33 : decode b_SA_pass 33 = .ok (.iload_n 2, 1) := by decide +kernel
theorem d_SA_pass_34 : decode b_SA_pass 34 = .ok (.iaload, 1) := by decide +kernel
theorem d_SA_pass_35 : decode b_SA_pass 35 = .ok (.iload_n 3, 1) := by decide +kernel
theorem d_SA_pass_36 : decode b_SA_pass 36 = .ok (.invokestatic 138, 3) := by decide +kernel
theorem d_SA_pass_39 : decode b_SA_pass 39 = .ok (.iastore, 1) := by decide +kernel
theorem d_SA_pass_40 : decode b_SA_pass 40 = .ok (.aload 4, 2) := by decide +kernel
theorem d_SA_pass_42 : decode b_SA_pass 42 = .ok (.iload_n 2, 1) := by decide +kernel
theorem d_SA_pass_43 : decode b_SA_pass 43 = .ok (.iaload, 1) := by decide +kernel
theorem d_SA_pass_44 : decode b_SA_pass 44 = .ok (.ireturn, 1) := by decide +kernel
theorem d_SA_substitute_0 : decode b_SA_substitute 0 = .ok (.aload_n 0, 1) := by decide +kernel
theorem d_SA_substitute_1 : decode b_SA_substitute 1 = .ok (.iload_n 1, 1) := by decide +kernel
theorem d_SA_substitute_2 : decode b_SA_substitute 2 = .ok (.invokevirtual 126, 3) := by decide +kernel
theorem d_SA_substitute_5 : decode b_SA_substitute 5 = .ok (.aload_n 0, 1) := by decide +kernel
theorem d_SA_substitute_6 : decode b_SA_substitute 6 = .ok (.iload_n 2, 1) := by decide +kernel
theorem d_SA_substitute_7 : decode b_SA_substitute 7 = .ok (.invokevirtual 85, 3) := by decide +kernel
theorem d_SA_substitute_10 : decode b_SA_substitute 10 = .ok (.aload_n 0, 1) := by decide +kernel
theorem d_SA_substitute_11 : decode b_SA_substitute 11 = .ok (.iload_n 3, 1) := by decide +kernel
theorem d_SA_substitute_12 : decode b_SA_substitute 12 = .ok (.invokevirtual 85, 3) := by decide +kernel
theorem d_SA_substitute_15 : decode b_SA_substitute 15 = .ok (.aload_n 0, 1) := by decide +kernel
theorem d_SA_substitute_16 : decode b_SA_substitute 16 = .ok (.getfield 25, 3) := by decide +kernel
theorem d_SA_substitute_19 : decode b_SA_substitute 19 = .ok (.iload_n 1, 1) := by decide +kernel
theorem d_SA_substitute_20 : decode b_SA_substitute 20 = .ok (.aaload, 1) := by decide +kernel
theorem d_SA_substitute_21 : decode b_SA_substitute 21 = .ok (.astore 4, 2) := by decide +kernel
theorem d_SA_substitute_23 : decode b_SA_substitute 23 = .ok (.iload_n 2, 1) := by decide +kernel
theorem d_SA_substitute_24 : decode b_SA_substitute 24 = .ok (.iload_n 3, 1) := by decide +kernel
theorem d_SA_substitute_25 : decode b_SA_substitute 25 = .ok (.if_icmp .eq 17, 3) := by decide +kernel
theorem d_SA_substitute_28 : decode b_SA_substitute 28 = .ok (.aload 4, 2) := by decide +kernel
theorem d_SA_substitute_30 : decode b_SA_substitute 30 = .ok (.getfield 143, 3) := by decide +kernel
theorem d_SA_substitute_33 : decode b_SA_substitute 33 = .ok (.iload_n 2, 1) := by decide +kernel
theorem d_SA_substitute_34 : decode b_SA_substitute 34 = .ok (.iaload, 1) := by decide +kernel
theorem d_SA_substitute_35 : decode b_SA_substitute 35 = .ok (.iload_n 3, 1) := by decide +kernel
theorem d_SA_substitute_36 : decode b_SA_substitute 36 = .ok (.invokestatic 97, 3) := by decide +kernel
theorem d_SA_substitute_39 : decode b_SA_substitute 39 = .ok (.ifCond .eq 5, 3) := by decide +kernel
theorem d_SA_substitute_42 : decode b_SA_substitute 42 = .ok (.iconst 0, 1) := by decide +kernel
theorem d_SA_substitute_43 : decode b_SA_substitute 43 = .ok (.ireturn, 1) := by decide +kernel
theorem d_SA_substitute_44 : decode b_SA_substitute 44 = .ok (.aload 4, 2) := by decide +kernel
theorem d_SA_substitute_46 : decode b_SA_substitute 46 = .ok (.getfield 146, 3) := by decide +kernel
theorem d_SA_substitute_49 : decode b_SA_substitute 49 = .ok (.bipush 8, 2) := by decide +kernel
theorem d_SA_substitute_51 : decode b_SA_substitute 51 = .ok (.if_icmp .ne 13, 3) := by decide +kernel
theorem d_SA_substitute_54 : decode b_SA_substitute 54 = .ok (.new 63, 3) := by decide +kernel
theorem d_SA_substitute_57 : decode b_SA_substitute 57 = .ok (.dup, 1) := by decide +kernel
theorem d_SA_substitute_58 : decode b_SA_substitute 58 = .ok (.ldc 149, 2) := by decide +kernel
theorem d_SA_substitute_60 : decode b_SA_substitute 60 = .ok (.invokespecial 67, 3) := by decide +kernel
theorem d_SA_substitute_63 : decode b_SA_substitute 63 = .ok (.athrow, 1) := by decide +kernel
theorem d_SA_substitute_64 : decode b_SA_substitute 64 = .ok (.aload 4, 2) := by decide +kernel
theorem d_SA_substitute_66 : decode b_SA_substitute 66 = .ok (.iload_n 2, 1) := by decide +kernel
theorem d_SA_substitute_67 : decode b_SA_substitute 67 = .ok (.iload_n 3, 1) := by decide +kernel
theorem d_SA_substitute_68 : decode b_SA_substitute 68 = .ok (.invokevirtual 151, 3) := by decide +kernel
theorem d_SA_substitute_71 : decode b_SA_substitute 71 = .ok (.iconst 1, 1) := by decide +kernel
theorem d_SA_substitute_72 : decode b_SA_substitute 72 = .ok (.ireturn, 1) := by decide +kernel
theorem d_SA_exempt_0 : decode b_SA_exempt 0 = .ok (.aload_n 0, 1) := by decide +kernel
theorem d_SA_exempt_1 : decode b_SA_exempt 1 = .ok (.iload_n 1, 1) := by decide +kernel
theorem d_SA_exempt_2 : decode b_SA_exempt 2 = .ok (.invokevirtual 126, 3) := by decide +kernel
theorem d_SA_exempt_5 : decode b_SA_exempt 5 = .ok (.aload_n 0, 1) := by decide +kernel
theorem d_SA_exempt_6 : decode b_SA_exempt 6 = .ok (.getfield 25, 3) := by decide +kernel
theorem d_SA_exempt_9 : decode b_SA_exempt 9 = .ok (.iload_n 1, 1) := by decide +kernel
theorem d_SA_exempt_10 : decode b_SA_exempt 10 = .ok (.aaload, 1) := by decide +kernel
theorem d_SA_exempt_11 : decode b_SA_exempt 11 = .ok (.astore 4, 2) := by decide +kernel
theorem d_SA_exempt_13 : decode b_SA_exempt 13 = .ok (.aload_n 0, 1) := by decide +kernel
theorem d_SA_exempt_14 : decode b_SA_exempt 14 = .ok (.aload 4, 2) := by decide +kernel
theorem d_SA_exempt_16 : decode b_SA_exempt 16 = .ok (.getfield 129, 3) := by decide +kernel
theorem d_SA_exempt_19 : decode b_SA_exempt 19 = .ok (.iload_n 2, 1) := by decide +kernel
theorem d_SA_exempt_20 : decode b_SA_exempt 20 = .ok (.invokevirtual 120, 3) := by decide +kernel
theorem d_SA_exempt_23 : decode b_SA_exempt 23 = .ok (.iconst 0, 1) := by decide +kernel
theorem d_SA_exempt_24 : decode b_SA_exempt 24 = .ok (.iload_n 3, 1) := by decide +kernel
theorem d_SA_exempt_25 : decode b_SA_exempt 25 = .ok (.bipush 9, 2) := by decide +kernel
theorem d_SA_exempt_27 : decode b_SA_exempt 27 = .ok (.invokestatic 108, 3) := by decide +kernel
theorem d_SA_exempt_30 : decode b_SA_exempt 30 = .ok (.aload 4, 2) := by decide +kernel
theorem d_SA_exempt_32 : decode b_SA_exempt 32 = .ok (.iload_n 2, 1) := by decide +kernel
theorem d_SA_exempt_33 : decode b_SA_exempt 33 = .ok (.iload_n 3, 1) := by decide +kernel
theorem d_SA_exempt_34 : decode b_SA_exempt 34 = .ok (.invokevirtual 154, 3) := by decide +kernel
theorem d_SA_exempt_37 : decode b_SA_exempt 37 = .ok (.aload 4, 2) := by decide +kernel
theorem d_SA_exempt_39 : decode b_SA_exempt 39 = .ok (.aload_n 0, 1) := by decide +kernel
theorem d_SA_exempt_40 : decode b_SA_exempt 40 = .ok (.getfield 18, 3) := by decide +kernel
theorem d_SA_exempt_43 : decode b_SA_exempt 43 = .ok (.aload 4, 2) := by decide +kernel
theorem d_SA_exempt_45 : decode b_SA_exempt 45 = .ok (.getfield 129, 3) := by decide +kernel
theorem d_SA_exempt_48 : decode b_SA_exempt 48 = .ok (.aaload, 1) := by decide +kernel
theorem d_SA_exempt_49 : decode b_SA_exempt 49 = .ok (.iload_n 2, 1) := by decide +kernel
theorem d_SA_exempt_50 : decode b_SA_exempt 50 = .ok (.invokevirtual 157, 3) := by decide +kernel
theorem d_SA_exempt_53 : decode b_SA_exempt 53 = .ok (.ireturn, 1) := by decide +kernel
theorem d_SA_lives_0 : decode b_SA_lives 0 = .ok (.aload_n 0, 1) := by decide +kernel
theorem d_SA_lives_1 : decode b_SA_lives 1 = .ok (.iload_n 1, 1) := by decide +kernel
theorem d_SA_lives_2 : decode b_SA_lives 2 = .ok (.invokevirtual 126, 3) := by decide +kernel
theorem d_SA_lives_5 : decode b_SA_lives 5 = .ok (.aload_n 0, 1) := by decide +kernel
theorem d_SA_lives_6 : decode b_SA_lives 6 = .ok (.iload_n 2, 1) := by decide +kernel
theorem d_SA_lives_7 : decode b_SA_lives 7 = .ok (.invokevirtual 85, 3) := by decide +kernel
theorem d_SA_lives_10 : decode b_SA_lives 10 = .ok (.aload_n 0, 1) := by decide +kernel
theorem d_SA_lives_11 : decode b_SA_lives 11 = .ok (.getfield 25, 3) := by decide +kernel
theorem d_SA_lives_14 : decode b_SA_lives 14 = .ok (.iload_n 1, 1) := by decide +kernel
theorem d_SA_lives_15 : decode b_SA_lives 15 = .ok (.aaload, 1) := by decide +kernel
theorem d_SA_lives_16 : decode b_SA_lives 16 = .ok (.iload_n 2, 1) := by decide +kernel
theorem d_SA_lives_17 : decode b_SA_lives 17 = .ok (.aload_n 0, 1) := by decide +kernel
theorem d_SA_lives_18 : decode b_SA_lives 18 = .ok (.getfield 10, 3) := by decide +kernel
theorem d_SA_lives_21 : decode b_SA_lives 21 = .ok (.getfield 101, 3) := by decide +kernel
theorem d_SA_lives_24 : decode b_SA_lives 24 = .ok (.iload_n 2, 1) := by decide +kernel
theorem d_SA_lives_25 : decode b_SA_lives 25 = .ok (.iaload, 1) := by decide +kernel
theorem d_SA_lives_26 : decode b_SA_lives 26 = .ok (.iload_n 3, 1) := by decide +kernel
theorem d_SA_lives_27 : decode b_SA_lives 27 = .ok (.invokevirtual 161, 3) := by decide +kernel
theorem d_SA_lives_30 : decode b_SA_lives 30 = .ok (.ireturn, 1) := by decide +kernel
theorem d_SA_audit_0 : decode b_SA_audit 0 = .ok (.aload_n 0, 1) := by decide +kernel
theorem d_SA_audit_1 : decode b_SA_audit 1 = .ok (.iload_n 1, 1) := by decide +kernel
theorem d_SA_audit_2 : decode b_SA_audit 2 = .ok (.iload_n 2, 1) := by decide +kernel
theorem d_SA_audit_3 : decode b_SA_audit 3 = .ok (.invokevirtual 165, 3) := by decide +kernel
theorem d_SA_audit_6 : decode b_SA_audit 6 = .ok (.aload_n 0, 1) := by decide +kernel
theorem d_SA_audit_7 : decode b_SA_audit 7 = .ok (.getfield 25, 3) := by decide +kernel
theorem d_SA_audit_10 : decode b_SA_audit 10 = .ok (.iload_n 1, 1) := by decide +kernel
theorem d_SA_audit_11 : decode b_SA_audit 11 = .ok (.aaload, 1) := by decide +kernel
theorem d_SA_audit_12 : decode b_SA_audit 12 = .ok (.aload_n 0, 1) := by decide +kernel
theorem d_SA_audit_13 : decode b_SA_audit 13 = .ok (.getfield 10, 3) := by decide +kernel
theorem d_SA_audit_16 : decode b_SA_audit 16 = .ok (.iload_n 2, 1) := by decide +kernel
theorem d_SA_audit_17 : decode b_SA_audit 17 = .ok (.invokevirtual 168, 3) := by decide +kernel
theorem d_SA_audit_20 : decode b_SA_audit 20 = .ok (.istore_n 3, 1) := by decide +kernel
theorem d_SA_audit_21 : decode b_SA_audit 21 = .ok (.aload_n 0, 1) := by decide +kernel
theorem d_SA_audit_22 : decode b_SA_audit 22 = .ok (.iload_n 1, 1) := by decide +kernel
theorem d_SA_audit_23 : decode b_SA_audit 23 = .ok (.invokevirtual 172, 3) := by decide +kernel
theorem d_SA_audit_26 : decode b_SA_audit 26 = .ok (.aload_n 0, 1) := by decide +kernel
theorem d_SA_audit_27 : decode b_SA_audit 27 = .ok (.getfield 47, 3) := by decide +kernel
theorem d_SA_audit_30 : decode b_SA_audit 30 = .ok (.aload_n 0, 1) := by decide +kernel
theorem d_SA_audit_31 : decode b_SA_audit 31 = .ok (.getfield 40, 3) := by decide +kernel
theorem d_SA_audit_34 : decode b_SA_audit 34 = .ok (.aload_n 0, 1) := by decide +kernel
theorem d_SA_audit_35 : decode b_SA_audit 35 = .ok (.getfield 10, 3) := by decide +kernel
theorem d_SA_audit_38 : decode b_SA_audit 38 = .ok (.aload_n 0, 1) := by decide +kernel
theorem d_SA_audit_39 : decode b_SA_audit 39 = .ok (.getfield 33, 3) := by decide +kernel
theorem d_SA_audit_42 : decode b_SA_audit 42 = .ok (.iload_n 3, 1) := by decide +kernel
theorem d_SA_audit_43 : decode b_SA_audit 43 = .ok (.invokevirtual 175, 3) := by decide +kernel
theorem d_SA_audit_46 : decode b_SA_audit 46 = .ok (.putfield 179, 3) := by decide +kernel
theorem d_SA_audit_49 : decode b_SA_audit 49 = .ok (.aload_n 0, 1) := by decide +kernel
theorem d_SA_audit_50 : decode b_SA_audit 50 = .ok (.getfield 40, 3) := by decide +kernel
theorem d_SA_audit_53 : decode b_SA_audit 53 = .ok (.aload_n 0, 1) := by decide +kernel
theorem d_SA_audit_54 : decode b_SA_audit 54 = .ok (.getfield 47, 3) := by decide +kernel
theorem d_SA_audit_57 : decode b_SA_audit 57 = .ok (.getfield 182, 3) := by decide +kernel
theorem d_SA_audit_60 : decode b_SA_audit 60 = .ok (.invokevirtual 185, 3) := by decide +kernel
theorem d_SA_audit_63 : decode b_SA_audit 63 = .ok (.aload_n 0, 1) := by decide +kernel
theorem d_SA_audit_64 : decode b_SA_audit 64 = .ok (.getfield 47, 3) := by decide +kernel
theorem d_SA_audit_67 : decode b_SA_audit 67 = .ok (.iload_n 1, 1) := by decide +kernel
theorem d_SA_audit_68 : decode b_SA_audit 68 = .ok (.putfield 189, 3) := by decide +kernel
theorem d_SA_audit_71 : decode b_SA_audit 71 = .ok (.aload_n 0, 1) := by decide +kernel
theorem d_SA_audit_72 : decode b_SA_audit 72 = .ok (.getfield 47, 3) := by decide +kernel
theorem d_SA_audit_75 : decode b_SA_audit 75 = .ok (.iload_n 2, 1) := by decide +kernel
theorem d_SA_audit_76 : decode b_SA_audit 76 = .ok (.putfield 192, 3) := by decide +kernel
theorem d_SA_audit_79 : decode b_SA_audit 79 = .ok (.aload_n 0, 1) := by decide +kernel
theorem d_SA_audit_80 : decode b_SA_audit 80 = .ok (.getfield 47, 3) := by decide +kernel
theorem d_SA_audit_83 : decode b_SA_audit 83 = .ok (.aload_n 0, 1) := by decide +kernel
theorem d_SA_audit_84 : decode b_SA_audit 84 = .ok (.getfield 33, 3) := by decide +kernel
theorem d_SA_audit_87 : decode b_SA_audit 87 = .ok (.aload_n 0, 1) := by decide +kernel
theorem d_SA_audit_88 : decode b_SA_audit 88 = .ok (.getfield 33, 3) := by decide +kernel
theorem d_SA_audit_91 : decode b_SA_audit 91 = .ok (.invokevirtual 195, 3) := by decide +kernel
theorem d_SA_audit_94 : decode b_SA_audit 94 = .ok (.invokevirtual 199, 3) := by decide +kernel
theorem d_SA_audit_97 : decode b_SA_audit 97 = .ok (.putfield 202, 3) := by decide +kernel
theorem d_SA_audit_100 : decode b_SA_audit 100 = .ok (.aload_n 0, 1) := by decide +kernel
theorem d_SA_audit_101 : decode b_SA_audit 101 = .ok (.getfield 47, 3) := by decide +kernel
theorem d_SA_audit_104 : decode b_SA_audit 104 = .ok (.aload_n 0, 1) := by decide +kernel
theorem d_SA_audit_105 : decode b_SA_audit 105 = .ok (.getfield 10, 3) := by decide +kernel
theorem d_SA_audit_108 : decode b_SA_audit 108 = .ok (.aload_n 0, 1) := by decide +kernel
theorem d_SA_audit_109 : decode b_SA_audit 109 = .ok (.getfield 33, 3) := by decide +kernel
theorem d_SA_audit_112 : decode b_SA_audit 112 = .ok (.iload_n 3, 1) := by decide +kernel
theorem d_SA_audit_113 : decode b_SA_audit 113 = .ok (.invokevirtual 205, 3) := by decide +kernel
theorem d_SA_audit_116 : decode b_SA_audit 116 = .ok (.aload_n 0, 1) := by decide +kernel
theorem d_SA_audit_117 : decode b_SA_audit 117 = .ok (.getfield 47, 3) := by decide +kernel
theorem d_SA_audit_120 : decode b_SA_audit 120 = .ok (.iconst 1, 1) := by decide +kernel
theorem d_SA_audit_121 : decode b_SA_audit 121 = .ok (.putfield 209, 3) := by decide +kernel
theorem d_SA_audit_124 : decode b_SA_audit 124 = .ok (.aload_n 0, 1) := by decide +kernel
theorem d_SA_audit_125 : decode b_SA_audit 125 = .ok (.getfield 47, 3) := by decide +kernel
theorem d_SA_audit_128 : decode b_SA_audit 128 = .ok (.getfield 202, 3) := by decide +kernel
theorem d_SA_audit_131 : decode b_SA_audit 131 = .ok (.aload_n 0, 1) := by decide +kernel
theorem d_SA_audit_132 : decode b_SA_audit 132 = .ok (.getfield 47, 3) := by decide +kernel
theorem d_SA_audit_135 : decode b_SA_audit 135 = .ok (.getfield 179, 3) := by decide +kernel
theorem d_SA_audit_138 : decode b_SA_audit 138 = .ok (.isub, 1) := by decide +kernel
theorem d_SA_audit_139 : decode b_SA_audit 139 = .ok (.ireturn, 1) := by decide +kernel
theorem d_SA_assigned_0 : decode b_SA_assigned 0 = .ok (.aload_n 0, 1) := by decide +kernel
theorem d_SA_assigned_1 : decode b_SA_assigned 1 = .ok (.iload_n 1, 1) := by decide +kernel
theorem d_SA_assigned_2 : decode b_SA_assigned 2 = .ok (.invokevirtual 85, 3) := by decide +kernel
theorem d_SA_assigned_5 : decode b_SA_assigned 5 = .ok (.aload_n 0, 1) := by decide +kernel
theorem d_SA_assigned_6 : decode b_SA_assigned 6 = .ok (.invokevirtual 213, 3) := by decide +kernel
theorem d_SA_assigned_9 : decode b_SA_assigned 9 = .ok (.aload_n 0, 1) := by decide +kernel
theorem d_SA_assigned_10 : decode b_SA_assigned 10 = .ok (.getfield 47, 3) := by decide +kernel
theorem d_SA_assigned_13 : decode b_SA_assigned 13 = .ok (.getfield 182, 3) := by decide +kernel
theorem d_SA_assigned_16 : decode b_SA_assigned 16 = .ok (.iload_n 1, 1) := by decide +kernel
theorem d_SA_assigned_17 : decode b_SA_assigned 17 = .ok (.iaload, 1) := by decide +kernel
theorem d_SA_assigned_18 : decode b_SA_assigned 18 = .ok (.ireturn, 1) := by decide +kernel
theorem d_SA_used_0 : decode b_SA_used 0 = .ok (.aload_n 0, 1) := by decide +kernel
theorem d_SA_used_1 : decode b_SA_used 1 = .ok (.iload_n 1, 1) := by decide +kernel
theorem d_SA_used_2 : decode b_SA_used 2 = .ok (.invokevirtual 51, 3) := by decide +kernel
theorem d_SA_used_5 : decode b_SA_used 5 = .ok (.aload_n 0, 1) := by decide +kernel
theorem d_SA_used_6 : decode b_SA_used 6 = .ok (.invokevirtual 213, 3) := by decide +kernel
theorem d_SA_used_9 : decode b_SA_used 9 = .ok (.aload_n 0, 1) := by decide +kernel
theorem d_SA_used_10 : decode b_SA_used 10 = .ok (.getfield 47, 3) := by decide +kernel
theorem d_SA_used_13 : decode b_SA_used 13 = .ok (.invokevirtual 216, 3) := by decide +kernel
theorem d_SA_used_16 : decode b_SA_used 16 = .ok (.aload_n 0, 1) := by decide +kernel
theorem d_SA_used_17 : decode b_SA_used 17 = .ok (.getfield 10, 3) := by decide +kernel
theorem d_SA_used_20 : decode b_SA_used 20 = .ok (.iload_n 1, 1) := by decide +kernel
theorem d_SA_used_21 : decode b_SA_used 21 = .ok (.invokevirtual 219, 3) := by decide +kernel
theorem d_SA_used_24 : decode b_SA_used 24 = .ok (.iand, 1) := by decide +kernel
theorem d_SA_used_25 : decode b_SA_used 25 = .ok (.invokestatic 222, 3) := by decide +kernel
theorem d_SA_used_28 : decode b_SA_used 28 = .ok (.ireturn, 1) := by decide +kernel
theorem d_SA_receipt_0 : decode b_SA_receipt 0 = .ok (.iconst 0, 1) := by decide +kernel
theorem d_SA_receipt_1 : decode b_SA_receipt 1 = .ok (.iload_n 1, 1) := by decide +kernel
theorem d_SA_receipt_2 : decode b_SA_receipt 2 = .ok (.bipush 6, 2) := by decide +kernel
theorem d_SA_receipt_4 : decode b_SA_receipt 4 = .ok (.invokestatic 108, 3) := by decide +kernel
theorem d_SA_receipt_7 : decode b_SA_receipt 7 = .ok (.aload_n 0, 1) := by decide +kernel
theorem d_SA_receipt_8 : decode b_SA_receipt 8 = .ok (.invokevirtual 213, 3) := by decide +kernel
theorem d_SA_receipt_11 : decode b_SA_receipt 11 = .ok (.iload_n 1, 1) := by decide +kernel
theorem d_SA_receipt_12 : decode b_SA_receipt 12 = .ok (.tableswitch 88 0 5 #[40, 48, 56, 64, 72, 80], 40) := by decide +kernel
theorem d_SA_receipt_52 : decode b_SA_receipt 52 = .ok (.aload_n 0, 1) := by decide +kernel
theorem d_SA_receipt_53 : decode b_SA_receipt 53 = .ok (.getfield 47, 3) := by decide +kernel
theorem d_SA_receipt_56 : decode b_SA_receipt 56 = .ok (.getfield 202, 3) := by decide +kernel
theorem d_SA_receipt_59 : decode b_SA_receipt 59 = .ok (.ireturn, 1) := by decide +kernel
theorem d_SA_receipt_60 : decode b_SA_receipt 60 = .ok (.aload_n 0, 1) := by decide +kernel
theorem d_SA_receipt_61 : decode b_SA_receipt 61 = .ok (.getfield 47, 3) := by decide +kernel
theorem d_SA_receipt_64 : decode b_SA_receipt 64 = .ok (.getfield 179, 3) := by decide +kernel
theorem d_SA_receipt_67 : decode b_SA_receipt 67 = .ok (.ireturn, 1) := by decide +kernel
theorem d_SA_receipt_68 : decode b_SA_receipt 68 = .ok (.aload_n 0, 1) := by decide +kernel
theorem d_SA_receipt_69 : decode b_SA_receipt 69 = .ok (.getfield 47, 3) := by decide +kernel
theorem d_SA_receipt_72 : decode b_SA_receipt 72 = .ok (.getfield 227, 3) := by decide +kernel
theorem d_SA_receipt_75 : decode b_SA_receipt 75 = .ok (.ireturn, 1) := by decide +kernel
theorem d_SA_receipt_76 : decode b_SA_receipt 76 = .ok (.aload_n 0, 1) := by decide +kernel
theorem d_SA_receipt_77 : decode b_SA_receipt 77 = .ok (.getfield 47, 3) := by decide +kernel
theorem d_SA_receipt_80 : decode b_SA_receipt 80 = .ok (.getfield 230, 3) := by decide +kernel
theorem d_SA_receipt_83 : decode b_SA_receipt 83 = .ok (.ireturn, 1) := by decide +kernel
theorem d_SA_receipt_84 : decode b_SA_receipt 84 = .ok (.aload_n 0, 1) := by decide +kernel
theorem d_SA_receipt_85 : decode b_SA_receipt 85 = .ok (.getfield 47, 3) := by decide +kernel
theorem d_SA_receipt_88 : decode b_SA_receipt 88 = .ok (.getfield 233, 3) := by decide +kernel
theorem d_SA_receipt_91 : decode b_SA_receipt 91 = .ok (.ireturn, 1) := by decide +kernel
theorem d_SA_receipt_92 : decode b_SA_receipt 92 = .ok (.aload_n 0, 1) := by decide +kernel
theorem d_SA_receipt_93 : decode b_SA_receipt 93 = .ok (.getfield 47, 3) := by decide +kernel
theorem d_SA_receipt_96 : decode b_SA_receipt 96 = .ok (.getfield 189, 3) := by decide +kernel
theorem d_SA_receipt_99 : decode b_SA_receipt 99 = .ok (.ireturn, 1) := by decide +kernel
theorem d_SA_receipt_100 : decode b_SA_receipt 100 = .ok (.aload_n 0, 1) := by decide +kernel
theorem d_SA_receipt_101 : decode b_SA_receipt 101 = .ok (.getfield 47, 3) := by decide +kernel
theorem d_SA_receipt_104 : decode b_SA_receipt 104 = .ok (.getfield 192, 3) := by decide +kernel
theorem d_SA_receipt_107 : decode b_SA_receipt 107 = .ok (.ireturn, 1) := by decide +kernel
theorem d_SA_supply_0 : decode b_SA_supply 0 = .ok (.aload_n 0, 1) := by decide +kernel
theorem d_SA_supply_1 : decode b_SA_supply 1 = .ok (.iload_n 1, 1) := by decide +kernel
theorem d_SA_supply_2 : decode b_SA_supply 2 = .ok (.iload_n 2, 1) := by decide +kernel
theorem d_SA_supply_3 : decode b_SA_supply 3 = .ok (.invokevirtual 165, 3) := by decide +kernel
theorem d_SA_supply_6 : decode b_SA_supply 6 = .ok (.aload_n 0, 1) := by decide +kernel
theorem d_SA_supply_7 : decode b_SA_supply 7 = .ok (.getfield 25, 3) := by decide +kernel
theorem d_SA_supply_10 : decode b_SA_supply 10 = .ok (.iload_n 1, 1) := by decide +kernel
theorem d_SA_supply_11 : decode b_SA_supply 11 = .ok (.aaload, 1) := by decide +kernel
theorem d_SA_supply_12 : decode b_SA_supply 12 = .ok (.aload_n 0, 1) := by decide +kernel
theorem d_SA_supply_13 : decode b_SA_supply 13 = .ok (.getfield 10, 3) := by decide +kernel
theorem d_SA_supply_16 : decode b_SA_supply 16 = .ok (.iload_n 2, 1) := by decide +kernel
theorem d_SA_supply_17 : decode b_SA_supply 17 = .ok (.invokevirtual 168, 3) := by decide +kernel
theorem d_SA_supply_20 : decode b_SA_supply 20 = .ok (.istore 4, 2) := by decide +kernel
theorem d_SA_supply_22 : decode b_SA_supply 22 = .ok (.aload_n 0, 1) := by decide +kernel
theorem d_SA_supply_23 : decode b_SA_supply 23 = .ok (.iload_n 1, 1) := by decide +kernel
theorem d_SA_supply_24 : decode b_SA_supply 24 = .ok (.invokevirtual 172, 3) := by decide +kernel
theorem d_SA_supply_27 : decode b_SA_supply 27 = .ok (.aload_n 0, 1) := by decide +kernel
theorem d_SA_supply_28 : decode b_SA_supply 28 = .ok (.getfield 10, 3) := by decide +kernel
theorem d_SA_supply_31 : decode b_SA_supply 31 = .ok (.iload 4, 2) := by decide +kernel
theorem d_SA_supply_33 : decode b_SA_supply 33 = .ok (.aload_n 0, 1) := by decide +kernel
theorem d_SA_supply_34 : decode b_SA_supply 34 = .ok (.getfield 33, 3) := by decide +kernel
theorem d_SA_supply_37 : decode b_SA_supply 37 = .ok (.iload_n 3, 1) := by decide +kernel
theorem d_SA_supply_38 : decode b_SA_supply 38 = .ok (.invokevirtual 236, 3) := by decide +kernel
theorem d_SA_supply_41 : decode b_SA_supply 41 = .ok (.iand, 1) := by decide +kernel
theorem d_SA_supply_42 : decode b_SA_supply 42 = .ok (.invokevirtual 239, 3) := by decide +kernel
theorem d_SA_supply_45 : decode b_SA_supply 45 = .ok (.ireturn, 1) := by decide +kernel
theorem d_SA_fewestMore_0 : decode b_SA_fewestMore 0 = .ok (.aload_n 0, 1) := by decide +kernel
theorem d_SA_fewestMore_1 : decode b_SA_fewestMore 1 = .ok (.iload_n 1, 1) := by decide +kernel
theorem d_SA_fewestMore_2 : decode b_SA_fewestMore 2 = .ok (.iload_n 2, 1) := by decide +kernel
theorem d_SA_fewestMore_3 : decode b_SA_fewestMore 3 = .ok (.invokevirtual 165, 3) := by decide +kernel
theorem d_SA_fewestMore_6 : decode b_SA_fewestMore 6 = .ok (.aload_n 0, 1) := by decide +kernel
theorem d_SA_fewestMore_7 : decode b_SA_fewestMore 7 = .ok (.getfield 25, 3) := by decide +kernel
theorem d_SA_fewestMore_10 : decode b_SA_fewestMore 10 = .ok (.iload_n 1, 1) := by decide +kernel
theorem d_SA_fewestMore_11 : decode b_SA_fewestMore 11 = .ok (.aaload, 1) := by decide +kernel
theorem d_SA_fewestMore_12 : decode b_SA_fewestMore 12 = .ok (.aload_n 0, 1) := by decide +kernel
theorem d_SA_fewestMore_13 : decode b_SA_fewestMore 13 = .ok (.getfield 10, 3) := by decide +kernel
theorem d_SA_fewestMore_16 : decode b_SA_fewestMore 16 = .ok (.iload_n 2, 1) := by decide +kernel
theorem d_SA_fewestMore_17 : decode b_SA_fewestMore 17 = .ok (.invokevirtual 168, 3) := by decide +kernel
theorem d_SA_fewestMore_20 : decode b_SA_fewestMore 20 = .ok (.istore_n 3, 1) := by decide +kernel
theorem d_SA_fewestMore_21 : decode b_SA_fewestMore 21 = .ok (.aload_n 0, 1) := by decide +kernel
theorem d_SA_fewestMore_22 : decode b_SA_fewestMore 22 = .ok (.iload_n 1, 1) := by decide +kernel
theorem d_SA_fewestMore_23 : decode b_SA_fewestMore 23 = .ok (.invokevirtual 172, 3) := by decide +kernel
theorem d_SA_fewestMore_26 : decode b_SA_fewestMore 26 = .ok (.aload_n 0, 1) := by decide +kernel
theorem d_SA_fewestMore_27 : decode b_SA_fewestMore 27 = .ok (.getfield 40, 3) := by decide +kernel
theorem d_SA_fewestMore_30 : decode b_SA_fewestMore 30 = .ok (.aload_n 0, 1) := by decide +kernel
theorem d_SA_fewestMore_31 : decode b_SA_fewestMore 31 = .ok (.getfield 10, 3) := by decide +kernel
theorem d_SA_fewestMore_34 : decode b_SA_fewestMore 34 = .ok (.aload_n 0, 1) := by decide +kernel
theorem d_SA_fewestMore_35 : decode b_SA_fewestMore 35 = .ok (.getfield 33, 3) := by decide +kernel
theorem d_SA_fewestMore_38 : decode b_SA_fewestMore 38 = .ok (.iload_n 3, 1) := by decide +kernel
theorem d_SA_fewestMore_39 : decode b_SA_fewestMore 39 = .ok (.aload_n 0, 1) := by decide +kernel
theorem d_SA_fewestMore_40 : decode b_SA_fewestMore 40 = .ok (.getfield 10, 3) := by decide +kernel
theorem d_SA_fewestMore_43 : decode b_SA_fewestMore 43 = .ok (.getfield 88, 3) := by decide +kernel
theorem d_SA_fewestMore_46 : decode b_SA_fewestMore 46 = .ok (.iload_n 3, 1) := by decide +kernel
theorem d_SA_fewestMore_47 : decode b_SA_fewestMore 47 = .ok (.iconst (-1), 1) := by decide +kernel
theorem d_SA_fewestMore_48 : decode b_SA_fewestMore 48 = .ok (.ixor, 1) := by decide +kernel
theorem d_SA_fewestMore_49 : decode b_SA_fewestMore 49 = .ok (.iand, 1) := by decide +kernel
theorem d_SA_fewestMore_50 : decode b_SA_fewestMore 50 = .ok (.invokevirtual 242, 3) := by decide +kernel
theorem d_SA_fewestMore_53 : decode b_SA_fewestMore 53 = .ok (.ireturn, 1) := by decide +kernel
theorem d_SA_readClaims_0 : decode b_SA_readClaims 0 = .ok (.aload_n 0, 1) := by decide +kernel
theorem d_SA_readClaims_1 : decode b_SA_readClaims 1 = .ok (.getfield 25, 3) := by decide +kernel
theorem d_SA_readClaims_4 : decode b_SA_readClaims 4 = .ok (.iload_n 1, 1) := by decide +kernel
theorem d_SA_readClaims_5 : decode b_SA_readClaims 5 = .ok (.aaload, 1) := by decide +kernel
theorem d_SA_readClaims_6 : decode b_SA_readClaims 6 = .ok (.astore_n 2, 1) := by decide +kernel
theorem d_SA_readClaims_7 : decode b_SA_readClaims 7 = .ok (.aload_n 0, 1) := by decide +kernel
theorem d_SA_readClaims_8 : decode b_SA_readClaims 8 = .ok (.getfield 33, 3) := by decide +kernel
theorem d_SA_readClaims_11 : decode b_SA_readClaims 11 = .ok (.aload_n 0, 1) := by decide +kernel
theorem d_SA_readClaims_12 : decode b_SA_readClaims 12 = .ok (.getfield 18, 3) := by decide +kernel
theorem d_SA_readClaims_15 : decode b_SA_readClaims 15 = .ok (.aload_n 2, 1) := by decide +kernel
theorem d_SA_readClaims_16 : decode b_SA_readClaims 16 = .ok (.getfield 129, 3) := by decide +kernel
theorem d_SA_readClaims_19 : decode b_SA_readClaims 19 = .ok (.aaload, 1) := by decide +kernel
theorem d_SA_readClaims_20 : decode b_SA_readClaims 20 = .ok (.aload_n 2, 1) := by decide +kernel
theorem d_SA_readClaims_21 : decode b_SA_readClaims 21 = .ok (.invokevirtual 246, 3) := by decide +kernel
theorem d_SA_readClaims_24 : decode b_SA_readClaims 24 = .ok (.return_, 1) := by decide +kernel
theorem d_SA_checkGroup_0 : decode b_SA_checkGroup 0 = .ok (.iconst 0, 1) := by decide +kernel
theorem d_SA_checkGroup_1 : decode b_SA_checkGroup 1 = .ok (.iload_n 1, 1) := by decide +kernel
theorem d_SA_checkGroup_2 : decode b_SA_checkGroup 2 = .ok (.aload_n 0, 1) := by decide +kernel
theorem d_SA_checkGroup_3 : decode b_SA_checkGroup 3 = .ok (.getfield 10, 3) := by decide +kernel
theorem d_SA_checkGroup_6 : decode b_SA_checkGroup 6 = .ok (.getfield 59, 3) := by decide +kernel
theorem d_SA_checkGroup_9 : decode b_SA_checkGroup 9 = .ok (.iconst 1, 1) := by decide +kernel
theorem d_SA_checkGroup_10 : decode b_SA_checkGroup 10 = .ok (.isub, 1) := by decide +kernel
theorem d_SA_checkGroup_11 : decode b_SA_checkGroup 11 = .ok (.invokestatic 108, 3) := by decide +kernel
theorem d_SA_checkGroup_14 : decode b_SA_checkGroup 14 = .ok (.return_, 1) := by decide +kernel
theorem d_SA_checkCourse_0 : decode b_SA_checkCourse 0 = .ok (.iconst 0, 1) := by decide +kernel
theorem d_SA_checkCourse_1 : decode b_SA_checkCourse 1 = .ok (.iload_n 1, 1) := by decide +kernel
theorem d_SA_checkCourse_2 : decode b_SA_checkCourse 2 = .ok (.aload_n 0, 1) := by decide +kernel
theorem d_SA_checkCourse_3 : decode b_SA_checkCourse 3 = .ok (.getfield 10, 3) := by decide +kernel
theorem d_SA_checkCourse_6 : decode b_SA_checkCourse 6 = .ok (.getfield 76, 3) := by decide +kernel
theorem d_SA_checkCourse_9 : decode b_SA_checkCourse 9 = .ok (.iconst 1, 1) := by decide +kernel
theorem d_SA_checkCourse_10 : decode b_SA_checkCourse 10 = .ok (.isub, 1) := by decide +kernel
theorem d_SA_checkCourse_11 : decode b_SA_checkCourse 11 = .ok (.invokestatic 108, 3) := by decide +kernel
theorem d_SA_checkCourse_14 : decode b_SA_checkCourse 14 = .ok (.return_, 1) := by decide +kernel
theorem d_SA_checkProgramme_0 : decode b_SA_checkProgramme 0 = .ok (.iconst 0, 1) := by decide +kernel
theorem d_SA_checkProgramme_1 : decode b_SA_checkProgramme 1 = .ok (.iload_n 1, 1) := by decide +kernel
theorem d_SA_checkProgramme_2 : decode b_SA_checkProgramme 2 = .ok (.iconst 2, 1) := by decide +kernel
theorem d_SA_checkProgramme_3 : decode b_SA_checkProgramme 3 = .ok (.invokestatic 108, 3) := by decide +kernel
theorem d_SA_checkProgramme_6 : decode b_SA_checkProgramme 6 = .ok (.return_, 1) := by decide +kernel
theorem d_SA_checkRequirement_0 : decode b_SA_checkRequirement 0 = .ok (.iconst 1, 1) := by decide +kernel
theorem d_SA_checkRequirement_1 : decode b_SA_checkRequirement 1 = .ok (.iload_n 2, 1) := by decide +kernel
theorem d_SA_checkRequirement_2 : decode b_SA_checkRequirement 2 = .ok (.iload_n 1, 1) := by decide +kernel
theorem d_SA_checkRequirement_3 : decode b_SA_checkRequirement 3 = .ok (.iconst (-1), 1) := by decide +kernel
theorem d_SA_checkRequirement_4 : decode b_SA_checkRequirement 4 = .ok (.if_icmp .ne 7, 3) := by decide +kernel
theorem d_SA_checkRequirement_7 : decode b_SA_checkRequirement 7 = .ok (.iconst 0, 1) := by decide +kernel
theorem d_SA_checkRequirement_8 : decode b_SA_checkRequirement 8 = .ok (.goto 12, 3) := by decide +kernel
theorem d_SA_checkRequirement_11 : decode b_SA_checkRequirement 11 = .ok (.aload_n 0, 1) := by decide +kernel
theorem d_SA_checkRequirement_12 : decode b_SA_checkRequirement 12 = .ok (.getfield 18, 3) := by decide +kernel
theorem d_SA_checkRequirement_15 : decode b_SA_checkRequirement 15 = .ok (.iload_n 1, 1) := by decide +kernel
theorem d_SA_checkRequirement_16 : decode b_SA_checkRequirement 16 = .ok (.aaload, 1) := by decide +kernel
theorem d_SA_checkRequirement_17 : decode b_SA_checkRequirement 17 = .ok (.getfield 112, 3) := by decide +kernel
theorem d_SA_checkRequirement_20 : decode b_SA_checkRequirement 20 = .ok (.invokestatic 108, 3) := by decide +kernel
theorem d_SA_checkRequirement_23 : decode b_SA_checkRequirement 23 = .ok (.return_, 1) := by decide +kernel
theorem d_SA_checkStudent_0 : decode b_SA_checkStudent 0 = .ok (.iconst 0, 1) := by decide +kernel
theorem d_SA_checkStudent_1 : decode b_SA_checkStudent 1 = .ok (.iload_n 1, 1) := by decide +kernel
theorem d_SA_checkStudent_2 : decode b_SA_checkStudent 2 = .ok (.iconst 3, 1) := by decide +kernel
theorem d_SA_checkStudent_3 : decode b_SA_checkStudent 3 = .ok (.invokestatic 108, 3) := by decide +kernel
theorem d_SA_checkStudent_6 : decode b_SA_checkStudent 6 = .ok (.return_, 1) := by decide +kernel
theorem d_SA_checkQuestion_0 : decode b_SA_checkQuestion 0 = .ok (.aload_n 0, 1) := by decide +kernel
theorem d_SA_checkQuestion_1 : decode b_SA_checkQuestion 1 = .ok (.iload_n 1, 1) := by decide +kernel
theorem d_SA_checkQuestion_2 : decode b_SA_checkQuestion 2 = .ok (.invokevirtual 126, 3) := by decide +kernel
theorem d_SA_checkQuestion_5 : decode b_SA_checkQuestion 5 = .ok (.iconst 0, 1) := by decide +kernel
theorem d_SA_checkQuestion_6 : decode b_SA_checkQuestion 6 = .ok (.iload_n 2, 1) := by decide +kernel
theorem d_SA_checkQuestion_7 : decode b_SA_checkQuestion 7 = .ok (.bipush 99, 2) := by decide +kernel
theorem d_SA_checkQuestion_9 : decode b_SA_checkQuestion 9 = .ok (.invokestatic 108, 3) := by decide +kernel
theorem d_SA_checkQuestion_12 : decode b_SA_checkQuestion 12 = .ok (.aload_n 0, 1) := by decide +kernel
theorem d_SA_checkQuestion_13 : decode b_SA_checkQuestion 13 = .ok (.getfield 25, 3) := by decide +kernel
theorem d_SA_checkQuestion_16 : decode b_SA_checkQuestion 16 = .ok (.iload_n 1, 1) := by decide +kernel
theorem d_SA_checkQuestion_17 : decode b_SA_checkQuestion 17 = .ok (.aaload, 1) := by decide +kernel
theorem d_SA_checkQuestion_18 : decode b_SA_checkQuestion 18 = .ok (.getfield 129, 3) := by decide +kernel
theorem d_SA_checkQuestion_21 : decode b_SA_checkQuestion 21 = .ok (.iconst (-1), 1) := by decide +kernel
theorem d_SA_checkQuestion_22 : decode b_SA_checkQuestion 22 = .ok (.if_icmp .ne 13, 3) := by decide +kernel
theorem d_SA_checkQuestion_25 : decode b_SA_checkQuestion 25 = .ok (.new 63, 3) := by decide +kernel
theorem d_SA_checkQuestion_28 : decode b_SA_checkQuestion 28 = .ok (.dup, 1) := by decide +kernel
theorem d_SA_checkQuestion_29 : decode b_SA_checkQuestion 29 = .ok (.ldc 250, 2) := by decide +kernel
theorem d_SA_checkQuestion_31 : decode b_SA_checkQuestion 31 = .ok (.invokespecial 67, 3) := by decide +kernel
theorem d_SA_checkQuestion_34 : decode b_SA_checkQuestion 34 = .ok (.athrow, 1) := by decide +kernel
theorem d_SA_checkQuestion_35 : decode b_SA_checkQuestion 35 = .ok (.return_, 1) := by decide +kernel
theorem d_SA_checkReceipt_0 : decode b_SA_checkReceipt 0 = .ok (.aload_n 0, 1) := by decide +kernel
theorem d_SA_checkReceipt_1 : decode b_SA_checkReceipt 1 = .ok (.getfield 47, 3) := by decide +kernel
theorem d_SA_checkReceipt_4 : decode b_SA_checkReceipt 4 = .ok (.getfield 209, 3) := by decide +kernel
theorem d_SA_checkReceipt_7 : decode b_SA_checkReceipt 7 = .ok (.ifCond .ne 13, 3) := by decide +kernel
theorem d_SA_checkReceipt_10 : decode b_SA_checkReceipt 10 = .ok (.new 252, 3) := by decide +kernel
theorem d_SA_checkReceipt_13 : decode b_SA_checkReceipt 13 = .ok (.dup, 1) := by decide +kernel
theorem d_SA_checkReceipt_14 : decode b_SA_checkReceipt 14 = .ok (.ldc 254, 2) := by decide +kernel
theorem d_SA_checkReceipt_16 : decode b_SA_checkReceipt 16 = .ok (.invokespecial 256, 3) := by decide +kernel
theorem d_SA_checkReceipt_19 : decode b_SA_checkReceipt 19 = .ok (.athrow, 1) := by decide +kernel
theorem d_SA_checkReceipt_20 : decode b_SA_checkReceipt 20 = .ok (.return_, 1) := by decide +kernel
theorem d_SA_checkNoneOrUpTo_0 : decode b_SA_checkNoneOrUpTo 0 = .ok (.iload_n 0, 1) := by decide +kernel
theorem d_SA_checkNoneOrUpTo_1 : decode b_SA_checkNoneOrUpTo 1 = .ok (.iconst (-1), 1) := by decide +kernel
theorem d_SA_checkNoneOrUpTo_2 : decode b_SA_checkNoneOrUpTo 2 = .ok (.if_icmp .eq 9, 3) := by decide +kernel
theorem d_SA_checkNoneOrUpTo_5 : decode b_SA_checkNoneOrUpTo 5 = .ok (.iconst 0, 1) := by decide +kernel
theorem d_SA_checkNoneOrUpTo_6 : decode b_SA_checkNoneOrUpTo 6 = .ok (.iload_n 0, 1) := by decide +kernel
theorem d_SA_checkNoneOrUpTo_7 : decode b_SA_checkNoneOrUpTo 7 = .ok (.iload_n 1, 1) := by decide +kernel
theorem d_SA_checkNoneOrUpTo_8 : decode b_SA_checkNoneOrUpTo 8 = .ok (.invokestatic 108, 3) := by decide +kernel
theorem d_SA_checkNoneOrUpTo_11 : decode b_SA_checkNoneOrUpTo 11 = .ok (.return_, 1) := by decide +kernel
theorem d_SA_checkBetween_0 : decode b_SA_checkBetween 0 = .ok (.iload_n 1, 1) := by decide +kernel
theorem d_SA_checkBetween_1 : decode b_SA_checkBetween 1 = .ok (.iload_n 0, 1) := by decide +kernel
theorem d_SA_checkBetween_2 : decode b_SA_checkBetween 2 = .ok (.if_icmp .lt 8, 3) := by decide +kernel
theorem d_SA_checkBetween_5 : decode b_SA_checkBetween 5 = .ok (.iload_n 1, 1) := by decide +kernel
theorem d_SA_checkBetween_6 : decode b_SA_checkBetween 6 = .ok (.iload_n 2, 1) := by decide +kernel
theorem d_SA_checkBetween_7 : decode b_SA_checkBetween 7 = .ok (.if_icmp .le 14, 3) := by decide +kernel
theorem d_SA_checkBetween_10 : decode b_SA_checkBetween 10 = .ok (.new 257, 3) := by decide +kernel
theorem d_SA_checkBetween_13 : decode b_SA_checkBetween 13 = .ok (.dup, 1) := by decide +kernel
theorem d_SA_checkBetween_14 : decode b_SA_checkBetween 14 = .ok (.ldc_w 259, 3) := by decide +kernel
theorem d_SA_checkBetween_17 : decode b_SA_checkBetween 17 = .ok (.invokespecial 261, 3) := by decide +kernel
theorem d_SA_checkBetween_20 : decode b_SA_checkBetween 20 = .ok (.athrow, 1) := by decide +kernel
theorem d_SA_checkBetween_21 : decode b_SA_checkBetween 21 = .ok (.return_, 1) := by decide +kernel
theorem d_SA_has_0 : decode b_SA_has 0 = .ok (.iload_n 0, 1) := by decide +kernel
theorem d_SA_has_1 : decode b_SA_has 1 = .ok (.iload_n 1, 1) := by decide +kernel
theorem d_SA_has_2 : decode b_SA_has 2 = .ok (.ishr, 1) := by decide +kernel
theorem d_SA_has_3 : decode b_SA_has 3 = .ok (.iconst 1, 1) := by decide +kernel
theorem d_SA_has_4 : decode b_SA_has 4 = .ok (.iand, 1) := by decide +kernel
theorem d_SA_has_5 : decode b_SA_has 5 = .ok (.ifCond .eq 7, 3) := by decide +kernel
theorem d_SA_has_8 : decode b_SA_has 8 = .ok (.iconst 1, 1) := by decide +kernel
theorem d_SA_has_9 : decode b_SA_has 9 = .ok (.goto 4, 3) := by decide +kernel
theorem d_SA_has_12 : decode b_SA_has 12 = .ok (.iconst 0, 1) := by decide +kernel
theorem d_SA_has_13 : decode b_SA_has 13 = .ok (.ireturn, 1) := by decide +kernel
theorem d_SA_with_0 : decode b_SA_with 0 = .ok (.iload_n 0, 1) := by decide +kernel
theorem d_SA_with_1 : decode b_SA_with 1 = .ok (.iconst 1, 1) := by decide +kernel
theorem d_SA_with_2 : decode b_SA_with 2 = .ok (.iload_n 1, 1) := by decide +kernel
theorem d_SA_with_3 : decode b_SA_with 3 = .ok (.ishl, 1) := by decide +kernel
theorem d_SA_with_4 : decode b_SA_with 4 = .ok (.ior, 1) := by decide +kernel
theorem d_SA_with_5 : decode b_SA_with 5 = .ok (.ireturn, 1) := by decide +kernel
theorem d_SA_without_0 : decode b_SA_without 0 = .ok (.iload_n 0, 1) := by decide +kernel
theorem d_SA_without_1 : decode b_SA_without 1 = .ok (.iconst 1, 1) := by decide +kernel
theorem d_SA_without_2 : decode b_SA_without 2 = .ok (.iload_n 1, 1) := by decide +kernel
theorem d_SA_without_3 : decode b_SA_without 3 = .ok (.ishl, 1) := by decide +kernel
theorem d_SA_without_4 : decode b_SA_without 4 = .ok (.iconst (-1), 1) := by decide +kernel
theorem d_SA_without_5 : decode b_SA_without 5 = .ok (.ixor, 1) := by decide +kernel
theorem d_SA_without_6 : decode b_SA_without 6 = .ok (.iand, 1) := by decide +kernel
theorem d_SA_without_7 : decode b_SA_without 7 = .ok (.ireturn, 1) := by decide +kernel
theorem d_MO_init_0 : decode b_MO_init 0 = .ok (.aload_n 0, 1) := by decide +kernel
theorem d_MO_init_1 : decode b_MO_init 1 = .ok (.invokespecial 1, 3) := by decide +kernel
theorem d_MO_init_4 : decode b_MO_init 4 = .ok (.aload_n 0, 1) := by decide +kernel
theorem d_MO_init_5 : decode b_MO_init 5 = .ok (.bipush 6, 2) := by decide +kernel
theorem d_MO_init_7 : decode b_MO_init 7 = .ok (.newarray .int, 2) := by decide +kernel
theorem d_MO_init_9 : decode b_MO_init 9 = .ok (.putfield 7, 3) := by decide +kernel
theorem d_MO_init_12 : decode b_MO_init 12 = .ok (.aload_n 0, 1) := by decide +kernel
theorem d_MO_init_13 : decode b_MO_init 13 = .ok (.bipush 6, 2) := by decide +kernel
theorem d_MO_init_15 : decode b_MO_init 15 = .ok (.newarray .int, 2) := by decide +kernel
theorem d_MO_init_17 : decode b_MO_init 17 = .ok (.putfield 13, 3) := by decide +kernel
theorem d_MO_init_20 : decode b_MO_init 20 = .ok (.aload_n 0, 1) := by decide +kernel
theorem d_MO_init_21 : decode b_MO_init 21 = .ok (.bipush 12, 2) := by decide +kernel
theorem d_MO_init_23 : decode b_MO_init 23 = .ok (.newarray .int, 2) := by decide +kernel
theorem d_MO_init_25 : decode b_MO_init 25 = .ok (.putfield 16, 3) := by decide +kernel
theorem d_MO_init_28 : decode b_MO_init 28 = .ok (.aload_n 0, 1) := by decide +kernel
theorem d_MO_init_29 : decode b_MO_init 29 = .ok (.bipush 12, 2) := by decide +kernel
theorem d_MO_init_31 : decode b_MO_init 31 = .ok (.newarray .boolean, 2) := by decide +kernel
theorem d_MO_init_33 : decode b_MO_init 33 = .ok (.putfield 19, 3) := by decide +kernel
theorem d_MO_init_36 : decode b_MO_init 36 = .ok (.aload_n 0, 1) := by decide +kernel
theorem d_MO_init_37 : decode b_MO_init 37 = .ok (.bipush 12, 2) := by decide +kernel
theorem d_MO_init_39 : decode b_MO_init 39 = .ok (.newarray .int, 2) := by decide +kernel
theorem d_MO_init_41 : decode b_MO_init 41 = .ok (.putfield 23, 3) := by decide +kernel
theorem d_MO_init_44 : decode b_MO_init 44 = .ok (.aload_n 0, 1) := by decide +kernel
theorem d_MO_init_45 : decode b_MO_init 45 = .ok (.iconst 3, 1) := by decide +kernel
theorem d_MO_init_46 : decode b_MO_init 46 = .ok (.newarray .int, 2) := by decide +kernel
theorem d_MO_init_48 : decode b_MO_init 48 = .ok (.putfield 26, 3) := by decide +kernel
theorem d_MO_init_51 : decode b_MO_init 51 = .ok (.aload_n 0, 1) := by decide +kernel
theorem d_MO_init_52 : decode b_MO_init 52 = .ok (.bipush 18, 2) := by decide +kernel
theorem d_MO_init_54 : decode b_MO_init 54 = .ok (.newarray .int, 2) := by decide +kernel
theorem d_MO_init_56 : decode b_MO_init 56 = .ok (.putfield 29, 3) := by decide +kernel
theorem d_MO_init_59 : decode b_MO_init 59 = .ok (.aload_n 0, 1) := by decide +kernel
theorem d_MO_init_60 : decode b_MO_init 60 = .ok (.bipush 18, 2) := by decide +kernel
theorem d_MO_init_62 : decode b_MO_init 62 = .ok (.newarray .int, 2) := by decide +kernel
theorem d_MO_init_64 : decode b_MO_init 64 = .ok (.putfield 32, 3) := by decide +kernel
theorem d_MO_init_67 : decode b_MO_init 67 = .ok (.aload_n 0, 1) := by decide +kernel
theorem d_MO_init_68 : decode b_MO_init 68 = .ok (.iconst 4, 1) := by decide +kernel
theorem d_MO_init_69 : decode b_MO_init 69 = .ok (.newarray .int, 2) := by decide +kernel
theorem d_MO_init_71 : decode b_MO_init 71 = .ok (.dup, 1) := by decide +kernel
theorem d_MO_init_72 : decode b_MO_init 72 = .ok (.iconst 0, 1) := by decide +kernel
theorem d_MO_init_73 : decode b_MO_init 73 = .ok (.iconst (-1), 1) := by decide +kernel
theorem d_MO_init_74 : decode b_MO_init 74 = .ok (.iastore, 1) := by decide +kernel
theorem d_MO_init_75 : decode b_MO_init 75 = .ok (.dup, 1) := by decide +kernel
theorem d_MO_init_76 : decode b_MO_init 76 = .ok (.iconst 1, 1) := by decide +kernel
theorem d_MO_init_77 : decode b_MO_init 77 = .ok (.iconst (-1), 1) := by decide +kernel
theorem d_MO_init_78 : decode b_MO_init 78 = .ok (.iastore, 1) := by decide +kernel
theorem d_MO_init_79 : decode b_MO_init 79 = .ok (.dup, 1) := by decide +kernel
theorem d_MO_init_80 : decode b_MO_init 80 = .ok (.iconst 2, 1) := by decide +kernel
theorem d_MO_init_81 : decode b_MO_init 81 = .ok (.iconst (-1), 1) := by decide +kernel
theorem d_MO_init_82 : decode b_MO_init 82 = .ok (.iastore, 1) := by decide +kernel
theorem d_MO_init_83 : decode b_MO_init 83 = .ok (.dup, 1) := by decide +kernel
theorem d_MO_init_84 : decode b_MO_init 84 = .ok (.iconst 3, 1) := by decide +kernel
theorem d_MO_init_85 : decode b_MO_init 85 = .ok (.iconst (-1), 1) := by decide +kernel
theorem d_MO_init_86 : decode b_MO_init 86 = .ok (.iastore, 1) := by decide +kernel
theorem d_MO_init_87 : decode b_MO_init 87 = .ok (.putfield 35, 3) := by decide +kernel
theorem d_MO_init_90 : decode b_MO_init 90 = .ok (.aload_n 0, 1) := by decide +kernel
theorem d_MO_init_91 : decode b_MO_init 91 = .ok (.bipush 48, 2) := by decide +kernel
theorem d_MO_init_93 : decode b_MO_init 93 = .ok (.newarray .int, 2) := by decide +kernel
theorem d_MO_init_95 : decode b_MO_init 95 = .ok (.putfield 38, 3) := by decide +kernel
theorem d_MO_init_98 : decode b_MO_init 98 = .ok (.aload_n 0, 1) := by decide +kernel
theorem d_MO_init_99 : decode b_MO_init 99 = .ok (.iconst 4, 1) := by decide +kernel
theorem d_MO_init_100 : decode b_MO_init 100 = .ok (.newarray .int, 2) := by decide +kernel
theorem d_MO_init_102 : decode b_MO_init 102 = .ok (.putfield 41, 3) := by decide +kernel
theorem d_MO_init_105 : decode b_MO_init 105 = .ok (.aload_n 0, 1) := by decide +kernel
theorem d_MO_init_106 : decode b_MO_init 106 = .ok (.bipush 32, 2) := by decide +kernel
theorem d_MO_init_108 : decode b_MO_init 108 = .ok (.newarray .int, 2) := by decide +kernel
theorem d_MO_init_110 : decode b_MO_init 110 = .ok (.putfield 44, 3) := by decide +kernel
theorem d_MO_init_113 : decode b_MO_init 113 = .ok (.aload_n 0, 1) := by decide +kernel
theorem d_MO_init_114 : decode b_MO_init 114 = .ok (.bipush 32, 2) := by decide +kernel
theorem d_MO_init_116 : decode b_MO_init 116 = .ok (.newarray .int, 2) := by decide +kernel
theorem d_MO_init_118 : decode b_MO_init 118 = .ok (.putfield 47, 3) := by decide +kernel
theorem d_MO_init_121 : decode b_MO_init 121 = .ok (.aload_n 0, 1) := by decide +kernel
theorem d_MO_init_122 : decode b_MO_init 122 = .ok (.bipush 24, 2) := by decide +kernel
theorem d_MO_init_124 : decode b_MO_init 124 = .ok (.newarray .int, 2) := by decide +kernel
theorem d_MO_init_126 : decode b_MO_init 126 = .ok (.putfield 50, 3) := by decide +kernel
theorem d_MO_init_129 : decode b_MO_init 129 = .ok (.aload_n 0, 1) := by decide +kernel
theorem d_MO_init_130 : decode b_MO_init 130 = .ok (.bipush 6, 2) := by decide +kernel
theorem d_MO_init_132 : decode b_MO_init 132 = .ok (.newarray .int, 2) := by decide +kernel
theorem d_MO_init_134 : decode b_MO_init 134 = .ok (.putfield 53, 3) := by decide +kernel
theorem d_MO_init_137 : decode b_MO_init 137 = .ok (.aload_n 0, 1) := by decide +kernel
theorem d_MO_init_138 : decode b_MO_init 138 = .ok (.bipush 12, 2) := by decide +kernel
theorem d_MO_init_140 : decode b_MO_init 140 = .ok (.newarray .int, 2) := by decide +kernel
theorem d_MO_init_142 : decode b_MO_init 142 = .ok (.putfield 56, 3) := by decide +kernel
theorem d_MO_init_145 : decode b_MO_init 145 = .ok (.aload_n 0, 1) := by decide +kernel
theorem d_MO_init_146 : decode b_MO_init 146 = .ok (.bipush 6, 2) := by decide +kernel
theorem d_MO_init_148 : decode b_MO_init 148 = .ok (.newarray .int, 2) := by decide +kernel
theorem d_MO_init_150 : decode b_MO_init 150 = .ok (.putfield 59, 3) := by decide +kernel
theorem d_MO_init_153 : decode b_MO_init 153 = .ok (.aload_n 0, 1) := by decide +kernel
theorem d_MO_init_154 : decode b_MO_init 154 = .ok (.bipush 6, 2) := by decide +kernel
theorem d_MO_init_156 : decode b_MO_init 156 = .ok (.newarray .int, 2) := by decide +kernel
theorem d_MO_init_158 : decode b_MO_init 158 = .ok (.putfield 62, 3) := by decide +kernel
theorem d_MO_init_161 : decode b_MO_init 161 = .ok (.aload_n 0, 1) := by decide +kernel
theorem d_MO_init_162 : decode b_MO_init 162 = .ok (.bipush 6, 2) := by decide +kernel
theorem d_MO_init_164 : decode b_MO_init 164 = .ok (.newarray .int, 2) := by decide +kernel
theorem d_MO_init_166 : decode b_MO_init 166 = .ok (.putfield 65, 3) := by decide +kernel
theorem d_MO_init_169 : decode b_MO_init 169 = .ok (.aload_n 0, 1) := by decide +kernel
theorem d_MO_init_170 : decode b_MO_init 170 = .ok (.bipush 7, 2) := by decide +kernel
theorem d_MO_init_172 : decode b_MO_init 172 = .ok (.newarray .int, 2) := by decide +kernel
theorem d_MO_init_174 : decode b_MO_init 174 = .ok (.putfield 68, 3) := by decide +kernel
theorem d_MO_init_177 : decode b_MO_init 177 = .ok (.aload_n 0, 1) := by decide +kernel
theorem d_MO_init_178 : decode b_MO_init 178 = .ok (.bipush 12, 2) := by decide +kernel
theorem d_MO_init_180 : decode b_MO_init 180 = .ok (.newarray .int, 2) := by decide +kernel
theorem d_MO_init_182 : decode b_MO_init 182 = .ok (.putfield 71, 3) := by decide +kernel
theorem d_MO_init_185 : decode b_MO_init 185 = .ok (.iconst 0, 1) := by decide +kernel
theorem d_MO_init_186 : decode b_MO_init 186 = .ok (.istore_n 1, 1) := by decide +kernel
theorem d_MO_init_187 : decode b_MO_init 187 = .ok (.iload_n 1, 1) := by decide +kernel
theorem d_MO_init_188 : decode b_MO_init 188 = .ok (.bipush 48, 2) := by decide +kernel
theorem d_MO_init_190 : decode b_MO_init 190 = .ok (.if_icmp .ge 16, 3) := by decide +kernel
theorem d_MO_init_193 : decode b_MO_init 193 = .ok (.aload_n 0, 1) := by decide +kernel
theorem d_MO_init_194 : decode b_MO_init 194 = .ok (.getfield 38, 3) := by decide +kernel
theorem d_MO_init_197 : decode b_MO_init 197 = .ok (.iload_n 1, 1) := by decide +kernel
theorem d_MO_init_198 : decode b_MO_init 198 = .ok (.iconst (-1), 1) := by decide +kernel
theorem d_MO_init_199 : decode b_MO_init 199 = .ok (.iastore, 1) := by decide +kernel
theorem d_MO_init_200 : decode b_MO_init 200 = .ok (.iinc 1 1, 3) := by decide +kernel
theorem d_MO_init_203 : decode b_MO_init 203 = .ok (.goto (-16), 3) := by decide +kernel
theorem d_MO_init_206 : decode b_MO_init 206 = .ok (.return_, 1) := by decide +kernel
