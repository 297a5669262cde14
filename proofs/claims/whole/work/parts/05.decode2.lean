/-! decode rows (by program) -/
theorem d_MO_thrown_0 : decode b_MO_thrown 0 = .ok (.aload_n 0, 1) := by decide +kernel
theorem d_MO_thrown_1 : decode b_MO_thrown 1 = .ok (.getfield 74, 3) := by decide +kernel
theorem d_MO_thrown_4 : decode b_MO_thrown 4 = .ok (.ireturn, 1) := by decide +kernel
theorem d_MO_noGroup_0 : decode b_MO_noGroup 0 = .ok (.iload_n 1, 1) := by decide +kernel
theorem d_MO_noGroup_1 : decode b_MO_noGroup 1 = .ok (.ifCond .lt 11, 3) := by decide +kernel
theorem d_MO_noGroup_4 : decode b_MO_noGroup 4 = .ok (.iload_n 1, 1) := by decide +kernel
theorem d_MO_noGroup_5 : decode b_MO_noGroup 5 = .ok (.aload_n 0, 1) := by decide +kernel
theorem d_MO_noGroup_6 : decode b_MO_noGroup 6 = .ok (.getfield 78, 3) := by decide +kernel
theorem d_MO_noGroup_9 : decode b_MO_noGroup 9 = .ok (.if_icmp .lt 7, 3) := by decide +kernel
theorem d_MO_noGroup_12 : decode b_MO_noGroup 12 = .ok (.iconst 1, 1) := by decide +kernel
theorem d_MO_noGroup_13 : decode b_MO_noGroup 13 = .ok (.goto 4, 3) := by decide +kernel
theorem d_MO_noGroup_16 : decode b_MO_noGroup 16 = .ok (.iconst 0, 1) := by decide +kernel
theorem d_MO_noGroup_17 : decode b_MO_noGroup 17 = .ok (.ireturn, 1) := by decide +kernel
theorem d_MO_noCourse_0 : decode b_MO_noCourse 0 = .ok (.iload_n 1, 1) := by decide +kernel
theorem d_MO_noCourse_1 : decode b_MO_noCourse 1 = .ok (.ifCond .lt 11, 3) := by decide +kernel
theorem d_MO_noCourse_4 : decode b_MO_noCourse 4 = .ok (.iload_n 1, 1) := by decide +kernel
theorem d_MO_noCourse_5 : decode b_MO_noCourse 5 = .ok (.aload_n 0, 1) := by decide +kernel
theorem d_MO_noCourse_6 : decode b_MO_noCourse 6 = .ok (.getfield 81, 3) := by decide +kernel
theorem d_MO_noCourse_9 : decode b_MO_noCourse 9 = .ok (.if_icmp .lt 7, 3) := by decide +kernel
theorem d_MO_noCourse_12 : decode b_MO_noCourse 12 = .ok (.iconst 1, 1) := by decide +kernel
theorem d_MO_noCourse_13 : decode b_MO_noCourse 13 = .ok (.goto 4, 3) := by decide +kernel
theorem d_MO_noCourse_16 : decode b_MO_noCourse 16 = .ok (.iconst 0, 1) := by decide +kernel
theorem d_MO_noCourse_17 : decode b_MO_noCourse 17 = .ok (.ireturn, 1) := by decide +kernel
theorem d_MO_noProgramme_0 : decode b_MO_noProgramme 0 = .ok (.iload_n 0, 1) := by decide +kernel
theorem d_MO_noProgramme_1 : decode b_MO_noProgramme 1 = .ok (.ifCond .lt 8, 3) := by decide +kernel
theorem d_MO_noProgramme_4 : decode b_MO_noProgramme 4 = .ok (.iload_n 0, 1) := by decide +kernel
theorem d_MO_noProgramme_5 : decode b_MO_noProgramme 5 = .ok (.iconst 2, 1) := by decide +kernel
theorem d_MO_noProgramme_6 : decode b_MO_noProgramme 6 = .ok (.if_icmp .le 7, 3) := by decide +kernel
theorem d_MO_noProgramme_9 : decode b_MO_noProgramme 9 = .ok (.iconst 1, 1) := by decide +kernel
theorem d_MO_noProgramme_10 : decode b_MO_noProgramme 10 = .ok (.goto 4, 3) := by decide +kernel
theorem d_MO_noProgramme_13 : decode b_MO_noProgramme 13 = .ok (.iconst 0, 1) := by decide +kernel
theorem d_MO_noProgramme_14 : decode b_MO_noProgramme 14 = .ok (.ireturn, 1) := by decide +kernel
theorem d_MO_noStudent_0 : decode b_MO_noStudent 0 = .ok (.iload_n 0, 1) := by decide +kernel
theorem d_MO_noStudent_1 : decode b_MO_noStudent 1 = .ok (.ifCond .lt 8, 3) := by decide +kernel
theorem d_MO_noStudent_4 : decode b_MO_noStudent 4 = .ok (.iload_n 0, 1) := by decide +kernel
theorem d_MO_noStudent_5 : decode b_MO_noStudent 5 = .ok (.iconst 3, 1) := by decide +kernel
theorem d_MO_noStudent_6 : decode b_MO_noStudent 6 = .ok (.if_icmp .le 7, 3) := by decide +kernel
theorem d_MO_noStudent_9 : decode b_MO_noStudent 9 = .ok (.iconst 1, 1) := by decide +kernel
theorem d_MO_noStudent_10 : decode b_MO_noStudent 10 = .ok (.goto 4, 3) := by decide +kernel
theorem d_MO_noStudent_13 : decode b_MO_noStudent 13 = .ok (.iconst 0, 1) := by decide +kernel
theorem d_MO_noStudent_14 : decode b_MO_noStudent 14 = .ok (.ireturn, 1) := by decide +kernel
theorem d_MO_noRequirement_0 : decode b_MO_noRequirement 0 = .ok (.iload_n 1, 1) := by decide +kernel
theorem d_MO_noRequirement_1 : decode b_MO_noRequirement 1 = .ok (.invokestatic 84, 3) := by decide +kernel
theorem d_MO_noRequirement_4 : decode b_MO_noRequirement 4 = .ok (.ifCond .ne 18, 3) := by decide +kernel
theorem d_MO_noRequirement_7 : decode b_MO_noRequirement 7 = .ok (.iload_n 2, 1) := by decide +kernel
theorem d_MO_noRequirement_8 : decode b_MO_noRequirement 8 = .ok (.iconst 1, 1) := by decide +kernel
theorem d_MO_noRequirement_9 : decode b_MO_noRequirement 9 = .ok (.if_icmp .lt 13, 3) := by decide +kernel
theorem d_MO_noRequirement_12 : decode b_MO_noRequirement 12 = .ok (.iload_n 2, 1) := by decide +kernel
theorem d_MO_noRequirement_13 : decode b_MO_noRequirement 13 = .ok (.aload_n 0, 1) := by decide +kernel
theorem d_MO_noRequirement_14 : decode b_MO_noRequirement 14 = .ok (.getfield 26, 3) := by decide +kernel
theorem d_MO_noRequirement_17 : decode b_MO_noRequirement 17 = .ok (.iload_n 1, 1) := by decide +kernel
theorem d_MO_noRequirement_18 : decode b_MO_noRequirement 18 = .ok (.iaload, 1) := by decide +kernel
theorem d_MO_noRequirement_19 : decode b_MO_noRequirement 19 = .ok (.if_icmp .le 7, 3) := by decide +kernel
theorem d_MO_noRequirement_22 : decode b_MO_noRequirement 22 = .ok (.iconst 1, 1) := by decide +kernel
theorem d_MO_noRequirement_23 : decode b_MO_noRequirement 23 = .ok (.goto 4, 3) := by decide +kernel
theorem d_MO_noRequirement_26 : decode b_MO_noRequirement 26 = .ok (.iconst 0, 1) := by decide +kernel
theorem d_MO_noRequirement_27 : decode b_MO_noRequirement 27 = .ok (.ireturn, 1) := by decide +kernel
theorem d_MO_group_0 : decode b_MO_group 0 = .ok (.aload_n 0, 1) := by decide +kernel
theorem d_MO_group_1 : decode b_MO_group 1 = .ok (.iload_n 1, 1) := by decide +kernel
theorem d_MO_group_2 : decode b_MO_group 2 = .ok (.iconst (-1), 1) := by decide +kernel
theorem d_MO_group_3 : decode b_MO_group 3 = .ok (.if_icmp .eq 11, 3) := by decide +kernel
theorem d_MO_group_6 : decode b_MO_group 6 = .ok (.aload_n 0, 1) := by decide +kernel
theorem d_MO_group_7 : decode b_MO_group 7 = .ok (.iload_n 1, 1) := by decide +kernel
theorem d_MO_group_8 : decode b_MO_group 8 = .ok (.invokevirtual 88, 3) := by decide +kernel
theorem d_MO_group_11 : decode b_MO_group 11 = .ok (.ifCond .ne 14, 3) := by decide +kernel
theorem d_MO_group_14 : decode b_MO_group 14 = .ok (.iload_n 2, 1) := by decide +kernel
theorem d_MO_group_15 : decode b_MO_group 15 = .ok (.iconst (-1), 1) := by decide +kernel
theorem d_MO_group_16 : decode b_MO_group 16 = .ok (.if_icmp .lt 9, 3) := by decide +kernel
theorem d_MO_group_19 : decode b_MO_group 19 = .ok (.iload_n 2, 1) := by decide +kernel
theorem d_MO_group_20 : decode b_MO_group 20 = .ok (.bipush 12, 2) := by decide +kernel
theorem d_MO_group_22 : decode b_MO_group 22 = .ok (.if_icmp .le 7, 3) := by decide +kernel
theorem d_MO_group_25 : decode b_MO_group 25 = .ok (.iconst 1, 1) := by decide +kernel
theorem d_MO_group_26 : decode b_MO_group 26 = .ok (.goto 29, 3) := by decide +kernel
theorem d_MO_group_29 : decode b_MO_group 29 = .ok (.aload_n 0, 1) := by decide +kernel
theorem d_MO_group_30 : decode b_MO_group 30 = .ok (.getfield 78, 3) := by decide +kernel
theorem d_MO_group_33 : decode b_MO_group 33 = .ok (.bipush 6, 2) := by decide +kernel
theorem d_MO_group_35 : decode b_MO_group 35 = .ok (.if_icmp .eq 15, 3) := by decide +kernel
theorem d_MO_group_38 : decode b_MO_group 38 = .ok (.iload_n 1, 1) := by decide +kernel
theorem d_MO_group_39 : decode b_MO_group 39 = .ok (.iconst (-1), 1) := by decide +kernel
theorem d_MO_group_40 : decode b_MO_group 40 = .ok (.if_icmp .ne 14, 3) := by decide +kernel
theorem d_MO_group_43 : decode b_MO_group 43 = .ok (.aload_n 0, 1) := by decide +kernel
theorem d_MO_group_44 : decode b_MO_group 44 = .ok (.getfield 78, 3) := by decide +kernel
theorem d_MO_group_47 : decode b_MO_group 47 = .ok (.ifCond .le 7, 3) := by decide +kernel
theorem d_MO_group_50 : decode b_MO_group 50 = .ok (.iconst 2, 1) := by decide +kernel
theorem d_MO_group_51 : decode b_MO_group 51 = .ok (.goto 4, 3) := by decide +kernel
theorem d_MO_group_54 : decode b_MO_group 54 = .ok (.iconst 0, 1) := by decide +kernel
theorem d_MO_group_55 : decode b_MO_group 55 = .ok (.putfield 74, 3) := by decide +kernel
theorem d_MO_group_58 : decode b_MO_group 58 = .ok (.aload_n 0, 1) := by decide +kernel
theorem d_MO_group_59 : decode b_MO_group 59 = .ok (.getfield 74, 3) := by decide +kernel
theorem d_MO_group_62 : decode b_MO_group 62 = .ok (.ifCond .le 5, 3) := by decide +kernel
theorem d_MO_group_65 : decode b_MO_group 65 = .ok (.iconst 0, 1) := by decide +kernel
theorem d_MO_group_66 : decode b_MO_group 66 = .ok (.ireturn, 1) := by decide +kernel
theorem d_MO_group_67 : decode b_MO_group 67 = .ok (.aload_n 0, 1) := by decide +kernel
theorem d_MO_group_68 : decode b_MO_group 68 = .ok (.getfield 7, 3) := by decide +kernel
theorem d_MO_group_71 : decode b_MO_group 71 = .ok (.aload_n 0, 1) := by decide +kernel
theorem d_MO_group_72 : decode b_MO_group 72 = .ok (.getfield 78, 3) := by decide +kernel
theorem d_MO_group_75 : decode b_MO_group 75 = .ok (.iload_n 1, 1) := by decide +kernel
theorem d_MO_group_76 : decode b_MO_group 76 = .ok (.iastore, 1) := by decide +kernel
theorem d_MO_group_77 : decode b_MO_group 77 = .ok (.aload_n 0, 1) := by decide +kernel
theorem d_MO_group_78 : decode b_MO_group 78 = .ok (.getfield 13, 3) := by decide +kernel
theorem d_MO_group_81 : decode b_MO_group 81 = .ok (.aload_n 0, 1) := by decide +kernel
theorem d_MO_group_82 : decode b_MO_group 82 = .ok (.getfield 78, 3) := by decide +kernel
theorem d_MO_group_85 : decode b_MO_group 85 = .ok (.iload_n 2, 1) := by decide +kernel
theorem d_MO_group_86 : decode b_MO_group 86 = .ok (.iastore, 1) := by decide +kernel
theorem d_MO_group_87 : decode b_MO_group 87 = .ok (.aload_n 0, 1) := by decide +kernel
theorem d_MO_group_88 : decode b_MO_group 88 = .ok (.dup, 1) := by decide +kernel
theorem d_MO_group_89 : decode b_MO_group 89 = .ok (.getfield 78, 3) := by decide +kernel
theorem d_MO_group_92 : decode b_MO_group 92 = .ok (.iconst 1, 1) := by decide +kernel
theorem d_MO_group_93 : decode b_MO_group 93 = .ok (.iadd, 1) := by decide +kernel
theorem d_MO_group_94 : decode b_MO_group 94 = .ok (.putfield 78, 3) := by decide +kernel
theorem d_MO_group_97 : decode b_MO_group 97 = .ok (.aload_n 0, 1) := by decide +kernel
theorem d_MO_group_98 : decode b_MO_group 98 = .ok (.getfield 78, 3) := by decide +kernel
theorem d_MO_group_101 : decode b_MO_group 101 = .ok (.iconst 1, 1) := by decide +kernel
theorem d_MO_group_102 : decode b_MO_group 102 = .ok (.isub, 1) := by decide +kernel
theorem d_MO_group_103 : decode b_MO_group 103 = .ok (.ireturn, 1) := by decide +kernel
theorem d_MO_course_0 : decode b_MO_course 0 = .ok (.aload_n 0, 1) := by decide +kernel
theorem d_MO_course_1 : decode b_MO_course 1 = .ok (.aload_n 0, 1) := by decide +kernel
theorem d_MO_course_2 : decode b_MO_course 2 = .ok (.iload_n 1, 1) := by decide +kernel
theorem d_MO_course_3 : decode b_MO_course 3 = .ok (.invokevirtual 88, 3) := by decide +kernel
theorem d_MO_course_6 : decode b_MO_course 6 = .ok (.ifCond .eq 7, 3) := by decide +kernel
theorem d_MO_course_9 : decode b_MO_course 9 = .ok (.iconst 1, 1) := by decide +kernel
theorem d_MO_course_10 : decode b_MO_course 10 = .ok (.goto 17, 3) := by decide +kernel
theorem d_MO_course_13 : decode b_MO_course 13 = .ok (.aload_n 0, 1) := by decide +kernel
theorem d_MO_course_14 : decode b_MO_course 14 = .ok (.getfield 81, 3) := by decide +kernel
theorem d_MO_course_17 : decode b_MO_course 17 = .ok (.bipush 12, 2) := by decide +kernel
theorem d_MO_course_19 : decode b_MO_course 19 = .ok (.if_icmp .ne 7, 3) := by decide +kernel
theorem d_MO_course_22 : decode b_MO_course 22 = .ok (.iconst 2, 1) := by decide +kernel
theorem d_MO_course_23 : decode b_MO_course 23 = .ok (.goto 4, 3) := by decide +kernel
theorem d_MO_course_26 : decode b_MO_course 26 = .ok (.iconst 0, 1) := by decide +kernel
theorem d_MO_course_27 : decode b_MO_course 27 = .ok (.putfield 74, 3) := by decide +kernel
theorem d_MO_course_30 : decode b_MO_course 30 = .ok (.aload_n 0, 1) := by decide +kernel
theorem d_MO_course_31 : decode b_MO_course 31 = .ok (.getfield 74, 3) := by decide +kernel
theorem d_MO_course_34 : decode b_MO_course 34 = .ok (.ifCond .le 5, 3) := by decide +kernel
theorem d_MO_course_37 : decode b_MO_course 37 = .ok (.iconst 0, 1) := by decide +kernel
theorem d_MO_course_38 : decode b_MO_course 38 = .ok (.ireturn, 1) := by decide +kernel
theorem d_MO_course_39 : decode b_MO_course 39 = .ok (.aload_n 0, 1) := by decide +kernel
theorem d_MO_course_40 : decode b_MO_course 40 = .ok (.getfield 16, 3) := by decide +kernel
theorem d_MO_course_43 : decode b_MO_course 43 = .ok (.aload_n 0, 1) := by decide +kernel
theorem d_MO_course_44 : decode b_MO_course 44 = .ok (.getfield 81, 3) := by decide +kernel
theorem d_MO_course_47 : decode b_MO_course 47 = .ok (.iload_n 1, 1) := by decide +kernel
theorem d_MO_course_48 : decode b_MO_course 48 = .ok (.iastore, 1) := by decide +kernel
theorem d_MO_course_49 : decode b_MO_course 49 = .ok (.aload_n 0, 1) := by decide +kernel
theorem d_MO_course_50 : decode b_MO_course 50 = .ok (.getfield 19, 3) := by decide +kernel
theorem d_MO_course_53 : decode b_MO_course 53 = .ok (.aload_n 0, 1) := by decide +kernel
theorem d_MO_course_54 : decode b_MO_course 54 = .ok (.getfield 81, 3) := by decide +kernel
theorem d_MO_course_57 : decode b_MO_course 57 = .ok (.iconst 1, 1) := by decide +kernel
theorem d_MO_course_58 : decode b_MO_course 58 = .ok (.bastore, 1) := by decide +kernel
theorem d_MO_course_59 : decode b_MO_course 59 = .ok (.aload_n 0, 1) := by decide +kernel
theorem d_MO_course_60 : decode b_MO_course 60 = .ok (.getfield 23, 3) := by decide +kernel
theorem d_MO_course_63 : decode b_MO_course 63 = .ok (.aload_n 0, 1) := by decide +kernel
theorem d_MO_course_64 : decode b_MO_course 64 = .ok (.getfield 81, 3) := by decide +kernel
theorem d_MO_course_67 : decode b_MO_course 67 = .ok (.iconst (-1), 1) := by decide +kernel
theorem d_MO_course_68 : decode b_MO_course 68 = .ok (.iastore, 1) := by decide +kernel
theorem d_MO_course_69 : decode b_MO_course 69 = .ok (.aload_n 0, 1) := by decide +kernel
theorem d_MO_course_70 : decode b_MO_course 70 = .ok (.dup, 1) := by decide +kernel
theorem d_MO_course_71 : decode b_MO_course 71 = .ok (.getfield 81, 3) := by decide +kernel
theorem d_MO_course_74 : decode b_MO_course 74 = .ok (.iconst 1, 1) := by decide +kernel
theorem d_MO_course_75 : decode b_MO_course 75 = .ok (.iadd, 1) := by decide +kernel
theorem d_MO_course_76 : decode b_MO_course 76 = .ok (.putfield 81, 3) := by decide +kernel
theorem d_MO_course_79 : decode b_MO_course 79 = .ok (.aload_n 0, 1) := by decide +kernel
theorem d_MO_course_80 : decode b_MO_course 80 = .ok (.getfield 81, 3) := by decide +kernel
theorem d_MO_course_83 : decode b_MO_course 83 = .ok (.iconst 1, 1) := by decide +kernel
theorem d_MO_course_84 : decode b_MO_course 84 = .ok (.isub, 1) := by decide +kernel
theorem d_MO_course_85 : decode b_MO_course 85 = .ok (.ireturn, 1) := by decide +kernel
theorem d_MO_open_0 : decode b_MO_open 0 = .ok (.aload_n 0, 1) := by decide +kernel
theorem d_MO_open_1 : decode b_MO_open 1 = .ok (.aload_n 0, 1) := by decide +kernel
theorem d_MO_open_2 : decode b_MO_open 2 = .ok (.iload_n 1, 1) := by decide +kernel
theorem d_MO_open_3 : decode b_MO_open 3 = .ok (.invokevirtual 91, 3) := by decide +kernel
theorem d_MO_open_6 : decode b_MO_open 6 = .ok (.ifCond .eq 7, 3) := by decide +kernel
theorem d_MO_open_9 : decode b_MO_open 9 = .ok (.iconst 1, 1) := by decide +kernel
theorem d_MO_open_10 : decode b_MO_open 10 = .ok (.goto 4, 3) := by decide +kernel
theorem d_MO_open_13 : decode b_MO_open 13 = .ok (.iconst 0, 1) := by decide +kernel
theorem d_MO_open_14 : decode b_MO_open 14 = .ok (.putfield 74, 3) := by decide +kernel
theorem d_MO_open_17 : decode b_MO_open 17 = .ok (.aload_n 0, 1) := by decide +kernel
theorem d_MO_open_18 : decode b_MO_open 18 = .ok (.getfield 74, 3) := by decide +kernel
theorem d_MO_open_21 : decode b_MO_open 21 = .ok (.ifCond .le 5, 3) := by decide +kernel
theorem d_MO_open_24 : decode b_MO_open 24 = .ok (.iconst 0, 1) := by decide +kernel
theorem d_MO_open_25 : decode b_MO_open 25 = .ok (.ireturn, 1) := by decide +kernel
theorem d_MO_open_26 : decode b_MO_open 26 = .ok (.aload_n 0, 1) := by decide +kernel
theorem d_MO_open_27 : decode b_MO_open 27 = .ok (.getfield 19, 3) := by decide +kernel
theorem d_MO_open_30 : decode b_MO_open 30 = .ok (.iload_n 1, 1) := by decide +kernel
theorem d_MO_open_31 : decode b_MO_open 31 = .ok (.baload, 1) := by decide +kernel
theorem d_MO_open_32 : decode b_MO_open 32 = .ok (.istore_n 3, 1) := by decide +kernel
theorem d_MO_open_33 : decode b_MO_open 33 = .ok (.aload_n 0, 1) := by decide +kernel
theorem d_MO_open_34 : decode b_MO_open 34 = .ok (.getfield 19, 3) := by decide +kernel
theorem d_MO_open_37 : decode b_MO_open 37 = .ok (.iload_n 1, 1) := by decide +kernel
theorem d_MO_open_38 : decode b_MO_open 38 = .ok (.iload_n 2, 1) := by decide +kernel
theorem d_MO_open_39 : decode b_MO_open 39 = .ok (.bastore, 1) := by decide +kernel
theorem d_MO_open_40 : decode b_MO_open 40 = .ok (.iload_n 3, 1) := by decide +kernel
theorem d_MO_open_41 : decode b_MO_open 41 = .ok (.ireturn, 1) := by decide +kernel
theorem d_MO_expire_0 : decode b_MO_expire 0 = .ok (.aload_n 0, 1) := by decide +kernel
theorem d_MO_expire_1 : decode b_MO_expire 1 = .ok (.aload_n 0, 1) := by decide +kernel
theorem d_MO_expire_2 : decode b_MO_expire 2 = .ok (.iload_n 1, 1) := by decide +kernel
theorem d_MO_expire_3 : decode b_MO_expire 3 = .ok (.invokevirtual 91, 3) := by decide +kernel
theorem d_MO_expire_6 : decode b_MO_expire 6 = .ok (.ifCond .ne 14, 3) := by decide +kernel
theorem d_MO_expire_9 : decode b_MO_expire 9 = .ok (.iload_n 2, 1) := by decide +kernel
theorem d_MO_expire_10 : decode b_MO_expire 10 = .ok (.iconst (-1), 1) := by decide +kernel
theorem d_MO_expire_11 : decode b_MO_expire 11 = .ok (.if_icmp .lt 9, 3) := by decide +kernel
theorem d_MO_expire_14 : decode b_MO_expire 14 = .ok (.iload_n 2, 1) := by decide +kernel
theorem d_MO_expire_15 : decode b_MO_expire 15 = .ok (.bipush 40, 2) := by decide +kernel
theorem d_MO_expire_17 : decode b_MO_expire 17 = .ok (.if_icmp .le 7, 3) := by decide +kernel
theorem d_MO_expire_20 : decode b_MO_expire 20 = .ok (.iconst 1, 1) := by decide +kernel
theorem d_MO_expire_21 : decode b_MO_expire 21 = .ok (.goto 4, 3) := by decide +kernel
theorem d_MO_expire_24 : decode b_MO_expire 24 = .ok (.iconst 0, 1) := by decide +kernel
theorem d_MO_expire_25 : decode b_MO_expire 25 = .ok (.putfield 74, 3) := by decide +kernel
theorem d_MO_expire_28 : decode b_MO_expire 28 = .ok (.aload_n 0, 1) := by decide +kernel
theorem d_MO_expire_29 : decode b_MO_expire 29 = .ok (.getfield 74, 3) := by decide +kernel
theorem d_MO_expire_32 : decode b_MO_expire 32 = .ok (.ifCond .le 5, 3) := by decide +kernel
theorem d_MO_expire_35 : decode b_MO_expire 35 = .ok (.iconst 0, 1) := by decide +kernel
theorem d_MO_expire_36 : decode b_MO_expire 36 = .ok (.ireturn, 1) := by decide +kernel
theorem d_MO_expire_37 : decode b_MO_expire 37 = .ok (.aload_n 0, 1) := by decide +kernel
theorem d_MO_expire_38 : decode b_MO_expire 38 = .ok (.getfield 23, 3) := by decide +kernel
theorem d_MO_expire_41 : decode b_MO_expire 41 = .ok (.iload_n 1, 1) := by decide +kernel
theorem d_MO_expire_42 : decode b_MO_expire 42 = .ok (.iaload, 1) := by decide +kernel
theorem d_MO_expire_43 : decode b_MO_expire 43 = .ok (.istore_n 3, 1) := by decide +kernel
theorem d_MO_expire_44 : decode b_MO_expire 44 = .ok (.aload_n 0, 1) := by decide +kernel
theorem d_MO_expire_45 : decode b_MO_expire 45 = .ok (.getfield 23, 3) := by decide +kernel
theorem d_MO_expire_48 : decode b_MO_expire 48 = .ok (.iload_n 1, 1) := by decide +kernel
theorem d_MO_expire_49 : decode b_MO_expire 49 = .ok (.iload_n 2, 1) := by decide +kernel
theorem d_MO_expire_50 : decode b_MO_expire 50 = .ok (.iastore, 1) := by decide +kernel
theorem d_MO_expire_51 : decode b_MO_expire 51 = .ok (.iload_n 3, 1) := by decide +kernel
theorem d_MO_expire_52 : decode b_MO_expire 52 = .ok (.ireturn, 1) := by decide +kernel
theorem d_MO_requirement_0 : decode b_MO_requirement 0 = .ok (.aload_n 0, 1) := by decide +kernel
theorem d_MO_requirement_1 : decode b_MO_requirement 1 = .ok (.iload_n 1, 1) := by decide +kernel
theorem d_MO_requirement_2 : decode b_MO_requirement 2 = .ok (.invokestatic 84, 3) := by decide +kernel
theorem d_MO_requirement_5 : decode b_MO_requirement 5 = .ok (.ifCond .ne 14, 3) := by decide +kernel
theorem d_MO_requirement_8 : decode b_MO_requirement 8 = .ok (.iload_n 2, 1) := by decide +kernel
theorem d_MO_requirement_9 : decode b_MO_requirement 9 = .ok (.iconst 1, 1) := by decide +kernel
theorem d_MO_requirement_10 : decode b_MO_requirement 10 = .ok (.if_icmp .lt 9, 3) := by decide +kernel
theorem d_MO_requirement_13 : decode b_MO_requirement 13 = .ok (.iload_n 2, 1) := by decide +kernel
theorem d_MO_requirement_14 : decode b_MO_requirement 14 = .ok (.bipush 6, 2) := by decide +kernel
theorem d_MO_requirement_16 : decode b_MO_requirement 16 = .ok (.if_icmp .le 7, 3) := by decide +kernel
theorem d_MO_requirement_19 : decode b_MO_requirement 19 = .ok (.iconst 1, 1) := by decide +kernel
theorem d_MO_requirement_20 : decode b_MO_requirement 20 = .ok (.goto 18, 3) := by decide +kernel
theorem d_MO_requirement_23 : decode b_MO_requirement 23 = .ok (.aload_n 0, 1) := by decide +kernel
theorem d_MO_requirement_24 : decode b_MO_requirement 24 = .ok (.getfield 26, 3) := by decide +kernel
theorem d_MO_requirement_27 : decode b_MO_requirement 27 = .ok (.iload_n 1, 1) := by decide +kernel
theorem d_MO_requirement_28 : decode b_MO_requirement 28 = .ok (.iaload, 1) := by decide +kernel
theorem d_MO_requirement_29 : decode b_MO_requirement 29 = .ok (.iconst 5, 1) := by decide +kernel
theorem d_MO_requirement_30 : decode b_MO_requirement 30 = .ok (.if_icmp .ne 7, 3) := by decide +kernel
theorem d_MO_requirement_33 : decode b_MO_requirement 33 = .ok (.iconst 2, 1) := by decide +kernel
theorem d_MO_requirement_34 : decode b_MO_requirement 34 = .ok (.goto 4, 3) := by decide +kernel
theorem d_MO_requirement_37 : decode b_MO_requirement 37 = .ok (.iconst 0, 1) := by decide +kernel
theorem d_MO_requirement_38 : decode b_MO_requirement 38 = .ok (.putfield 74, 3) := by decide +kernel
theorem d_MO_requirement_41 : decode b_MO_requirement 41 = .ok (.aload_n 0, 1) := by decide +kernel
theorem d_MO_requirement_42 : decode b_MO_requirement 42 = .ok (.getfield 74, 3) := by decide +kernel
theorem d_MO_requirement_45 : decode b_MO_requirement 45 = .ok (.ifCond .le 5, 3) := by decide +kernel
theorem d_MO_requirement_48 : decode b_MO_requirement 48 = .ok (.iconst 0, 1) := by decide +kernel
theorem d_MO_requirement_49 : decode b_MO_requirement 49 = .ok (.ireturn, 1) := by decide +kernel
theorem d_MO_requirement_50 : decode b_MO_requirement 50 = .ok (.aload_n 0, 1) := by decide +kernel
theorem d_MO_requirement_51 : decode b_MO_requirement 51 = .ok (.getfield 26, 3) := by decide +kernel
theorem d_MO_requirement_54 : decode b_MO_requirement 54 = .ok (.iload_n 1, 1) := by decide +kernel
theorem d_MO_requirement_55 : decode b_MO_requirement 55 = .ok (.dup2, 1) := by decide +kernel
theorem d_MO_requirement_56 : decode b_MO_requirement 56 = .ok (.iaload, 1) := by decide +kernel
theorem d_MO_requirement_57 : decode b_MO_requirement 57 = .ok (.iconst 1, 1) := by decide +kernel
theorem d_MO_requirement_58 : decode b_MO_requirement 58 = .ok (.iadd, 1) := by decide +kernel
theorem d_MO_requirement_59 : decode b_MO_requirement 59 = .ok (.iastore, 1) := by decide +kernel
theorem d_MO_requirement_60 : decode b_MO_requirement 60 = .ok (.aload_n 0, 1) := by decide +kernel
theorem d_MO_requirement_61 : decode b_MO_requirement 61 = .ok (.getfield 29, 3) := by decide +kernel
theorem d_MO_requirement_64 : decode b_MO_requirement 64 = .ok (.bipush 6, 2) := by decide +kernel
theorem d_MO_requirement_66 : decode b_MO_requirement 66 = .ok (.iload_n 1, 1) := by decide +kernel
theorem d_MO_requirement_67 : decode b_MO_requirement 67 = .ok (.imul, 1) := by decide +kernel
theorem d_MO_requirement_68 : decode b_MO_requirement 68 = .ok (.aload_n 0, 1) := by decide +kernel
theorem d_MO_requirement_69 : decode b_MO_requirement 69 = .ok (.getfield 26, 3) := by decide +kernel
theorem d_MO_requirement_72 : decode b_MO_requirement 72 = .ok (.iload_n 1, 1) := by decide +kernel
theorem d_MO_requirement_73 : decode b_MO_requirement 73 = .ok (.iaload, 1) := by decide +kernel
theorem d_MO_requirement_74 : decode b_MO_requirement 74 = .ok (.iadd, 1) := by decide +kernel
theorem d_MO_requirement_75 : decode b_MO_requirement 75 = .ok (.iload_n 2, 1) := by decide +kernel
theorem d_MO_requirement_76 : decode b_MO_requirement 76 = .ok (.iastore, 1) := by decide +kernel
theorem d_MO_requirement_77 : decode b_MO_requirement 77 = .ok (.aload_n 0, 1) := by decide +kernel
theorem d_MO_requirement_78 : decode b_MO_requirement 78 = .ok (.getfield 26, 3) := by decide +kernel
theorem d_MO_requirement_81 : decode b_MO_requirement 81 = .ok (.iload_n 1, 1) := by decide +kernel
theorem d_MO_requirement_82 : decode b_MO_requirement 82 = .ok (.iaload, 1) := by decide +kernel
theorem d_MO_requirement_83 : decode b_MO_requirement 83 = .ok (.ireturn, 1) := by decide +kernel
theorem d_MO_allow_0 : decode b_MO_allow 0 = .ok (.aload_n 0, 1) := by decide +kernel
theorem d_MO_allow_1 : decode b_MO_allow 1 = .ok (.aload_n 0, 1) := by decide +kernel
theorem d_MO_allow_2 : decode b_MO_allow 2 = .ok (.iload_n 1, 1) := by decide +kernel
theorem d_MO_allow_3 : decode b_MO_allow 3 = .ok (.iload_n 2, 1) := by decide +kernel
theorem d_MO_allow_4 : decode b_MO_allow 4 = .ok (.invokevirtual 94, 3) := by decide +kernel
theorem d_MO_allow_7 : decode b_MO_allow 7 = .ok (.ifCond .ne 11, 3) := by decide +kernel
theorem d_MO_allow_10 : decode b_MO_allow 10 = .ok (.aload_n 0, 1) := by decide +kernel
theorem d_MO_allow_11 : decode b_MO_allow 11 = .ok (.iload_n 3, 1) := by decide +kernel
theorem d_MO_allow_12 : decode b_MO_allow 12 = .ok (.invokevirtual 91, 3) := by decide +kernel
theorem d_MO_allow_15 : decode b_MO_allow 15 = .ok (.ifCond .eq 7, 3) := by decide +kernel
theorem d_MO_allow_18 : decode b_MO_allow 18 = .ok (.iconst 1, 1) := by decide +kernel
theorem d_MO_allow_19 : decode b_MO_allow 19 = .ok (.goto 4, 3) := by decide +kernel
theorem d_MO_allow_22 : decode b_MO_allow 22 = .ok (.iconst 0, 1) := by decide +kernel
theorem d_MO_allow_23 : decode b_MO_allow 23 = .ok (.putfield 74, 3) := by decide +kernel
theorem d_MO_allow_26 : decode b_MO_allow 26 = .ok (.aload_n 0, 1) := by decide +kernel
theorem d_MO_allow_27 : decode b_MO_allow 27 = .ok (.getfield 74, 3) := by decide +kernel
theorem d_MO_allow_30 : decode b_MO_allow 30 = .ok (.ifCond .le 5, 3) := by decide +kernel
theorem d_MO_allow_33 : decode b_MO_allow 33 = .ok (.iconst 0, 1) := by decide +kernel
theorem d_MO_allow_34 : decode b_MO_allow 34 = .ok (.ireturn, 1) := by decide +kernel
theorem d_MO_allow_35 : decode b_MO_allow 35 = .ok (.bipush 6, 2) := by decide +kernel
theorem d_MO_allow_37 : decode b_MO_allow 37 = .ok (.iload_n 1, 1) := by decide +kernel
theorem d_MO_allow_38 : decode b_MO_allow 38 = .ok (.imul, 1) := by decide +kernel
theorem d_MO_allow_39 : decode b_MO_allow 39 = .ok (.iload_n 2, 1) := by decide +kernel
theorem d_MO_allow_40 : decode b_MO_allow 40 = .ok (.iadd, 1) := by decide +kernel
theorem d_MO_allow_41 : decode b_MO_allow 41 = .ok (.istore 4, 2) := by decide +kernel
theorem d_MO_allow_43 : decode b_MO_allow 43 = .ok (.aload_n 0, 1) := by decide +kernel
theorem d_MO_allow_44 : decode b_MO_allow 44 = .ok (.getfield 32, 3) := by decide +kernel
theorem d_MO_allow_47 : decode b_MO_allow 47 = .ok (.iload 4, 2) := by decide +kernel
theorem d_MO_allow_49 : decode b_MO_allow 49 = .ok (.iaload, 1) := by decide +kernel
theorem d_MO_allow_50 : decode b_MO_allow 50 = .ok (.iload_n 3, 1) := by decide +kernel
theorem d_MO_allow_51 : decode b_MO_allow 51 = .ok (.ishr, 1) := by decide +kernel
theorem d_MO_allow_52 : decode b_MO_allow 52 = .ok (.iconst 1, 1) := by decide +kernel
theorem d_MO_allow_53 : decode b_MO_allow 53 = .ok (.iand, 1) := by decide +kernel
theorem d_MO_allow_54 : decode b_MO_allow 54 = .ok (.ifCond .ne 7, 3) := by decide +kernel
theorem d_MO_allow_57 : decode b_MO_allow 57 = .ok (.iconst 1, 1) := by decide +kernel
theorem d_MO_allow_58 : decode b_MO_allow 58 = .ok (.goto 4, 3) := by decide +kernel
theorem d_MO_allow_61 : decode b_MO_allow 61 = .ok (.iconst 0, 1) := by decide +kernel
theorem d_MO_allow_62 : decode b_MO_allow 62 = .ok (.istore 5, 2) := by decide +kernel
theorem d_MO_allow_64 : decode b_MO_allow 64 = .ok (.aload_n 0, 1) := by decide +kernel
theorem d_MO_allow_65 : decode b_MO_allow 65 = .ok (.getfield 32, 3) := by decide +kernel
theorem d_MO_allow_68 : decode b_MO_allow 68 = .ok (.iload 4, 2) := by decide +kernel
theorem d_MO_allow_70 : decode b_MO_allow 70 = .ok (.aload_n 0, 1) := by decide +kernel
theorem d_MO_allow_71 : decode b_MO_allow 71 = .ok (.getfield 32, 3) := by decide +kernel
theorem d_MO_allow_74 : decode b_MO_allow 74 = .ok (.iload 4, 2) := by decide +kernel
theorem d_MO_allow_76 : decode b_MO_allow 76 = .ok (.iaload, 1) := by decide +kernel
theorem d_MO_allow_77 : decode b_MO_allow 77 = .ok (.iconst 1, 1) := by decide +kernel
theorem d_MO_allow_78 : decode b_MO_allow 78 = .ok (.iload_n 3, 1) := by decide +kernel
theorem d_MO_allow_79 : decode b_MO_allow 79 = .ok (.ishl, 1) := by decide +kernel
theorem d_MO_allow_80 : decode b_MO_allow 80 = .ok (.ior, 1) := by decide +kernel
theorem d_MO_allow_81 : decode b_MO_allow 81 = .ok (.iastore, 1) := by decide +kernel
theorem d_MO_allow_82 : decode b_MO_allow 82 = .ok (.iload 5, 2) := by decide +kernel
theorem d_MO_allow_84 : decode b_MO_allow 84 = .ok (.ireturn, 1) := by decide +kernel
theorem d_MO_student_0 : decode b_MO_student 0 = .ok (.aload_n 0, 1) := by decide +kernel
theorem d_MO_student_1 : decode b_MO_student 1 = .ok (.iload_n 1, 1) := by decide +kernel
theorem d_MO_student_2 : decode b_MO_student 2 = .ok (.invokestatic 98, 3) := by decide +kernel
theorem d_MO_student_5 : decode b_MO_student 5 = .ok (.ifCond .ne 10, 3) := by decide +kernel
theorem d_MO_student_8 : decode b_MO_student 8 = .ok (.iload_n 2, 1) := by decide +kernel
theorem d_MO_student_9 : decode b_MO_student 9 = .ok (.invokestatic 84, 3) := by decide +kernel
theorem d_MO_student_12 : decode b_MO_student 12 = .ok (.ifCond .eq 7, 3) := by decide +kernel
theorem d_MO_student_15 : decode b_MO_student 15 = .ok (.iconst 1, 1) := by decide +kernel
theorem d_MO_student_16 : decode b_MO_student 16 = .ok (.goto 4, 3) := by decide +kernel
theorem d_MO_student_19 : decode b_MO_student 19 = .ok (.iconst 0, 1) := by decide +kernel
theorem d_MO_student_20 : decode b_MO_student 20 = .ok (.putfield 74, 3) := by decide +kernel
theorem d_MO_student_23 : decode b_MO_student 23 = .ok (.aload_n 0, 1) := by decide +kernel
theorem d_MO_student_24 : decode b_MO_student 24 = .ok (.getfield 74, 3) := by decide +kernel
theorem d_MO_student_27 : decode b_MO_student 27 = .ok (.ifCond .le 5, 3) := by decide +kernel
theorem d_MO_student_30 : decode b_MO_student 30 = .ok (.iconst 0, 1) := by decide +kernel
theorem d_MO_student_31 : decode b_MO_student 31 = .ok (.ireturn, 1) := by decide +kernel
theorem d_MO_student_32 : decode b_MO_student 32 = .ok (.aload_n 0, 1) := by decide +kernel
theorem d_MO_student_33 : decode b_MO_student 33 = .ok (.getfield 35, 3) := by decide +kernel
theorem d_MO_student_36 : decode b_MO_student 36 = .ok (.iload_n 1, 1) := by decide +kernel
theorem d_MO_student_37 : decode b_MO_student 37 = .ok (.iaload, 1) := by decide +kernel
theorem d_MO_student_38 : decode b_MO_student 38 = .ok (.istore_n 3, 1) := by decide +kernel
theorem d_MO_student_39 : decode b_MO_student 39 = .ok (.aload_n 0, 1) := by decide +kernel
theorem d_MO_student_40 : decode b_MO_student 40 = .ok (.getfield 35, 3) := by decide +kernel
theorem d_MO_student_43 : decode b_MO_student 43 = .ok (.iload_n 1, 1) := by decide +kernel
theorem d_MO_student_44 : decode b_MO_student 44 = .ok (.iload_n 2, 1) := by decide +kernel
theorem d_MO_student_45 : decode b_MO_student 45 = .ok (.iastore, 1) := by decide +kernel
theorem d_MO_student_46 : decode b_MO_student 46 = .ok (.iconst 0, 1) := by decide +kernel
theorem d_MO_student_47 : decode b_MO_student 47 = .ok (.istore 4, 2) := by decide +kernel
theorem d_MO_student_49 : decode b_MO_student 49 = .ok (.iload 4, 2) := by decide +kernel
theorem d_MO_student_51 : decode b_MO_student 51 = .ok (.bipush 6, 2) := by decide +kernel
theorem d_MO_student_53 : decode b_MO_student 53 = .ok (.if_icmp .ge 22, 3) := by decide +kernel
theorem d_MO_student_56 : decode b_MO_student 56 = .ok (.aload_n 0, 1) := by decide +kernel
theorem d_MO_student_57 : decode b_MO_student 57 = .ok (.getfield 50, 3) := by decide +kernel
theorem d_MO_student_60 : decode b_MO_student 60 = .ok (.bipush 6, 2) := by decide +kernel
theorem d_MO_student_62 : decode b_MO_student 62 = .ok (.iload_n 1, 1) := by decide +kernel
theorem d_MO_student_63 : decode b_MO_student 63 = .ok (.imul, 1) := by decide +kernel
theorem d_MO_student_64 : decode b_MO_student 64 = .ok (.iload 4, 2) := by decide +kernel
theorem d_MO_student_66 : decode b_MO_student 66 = .ok (.iadd, 1) := by decide +kernel
theorem d_MO_student_67 : decode b_MO_student 67 = .ok (.iconst 0, 1) := by decide +kernel
theorem d_MO_student_68 : decode b_MO_student 68 = .ok (.iastore, 1) := by decide +kernel
theorem d_MO_student_69 : decode b_MO_student 69 = .ok (.iinc 4 1, 3) := by decide +kernel
theorem d_MO_student_72 : decode b_MO_student 72 = .ok (.goto (-23), 3) := by decide +kernel
theorem d_MO_student_75 : decode b_MO_student 75 = .ok (.iload_n 3, 1) := by decide +kernel
theorem d_MO_student_76 : decode b_MO_student 76 = .ok (.ireturn, 1) := by decide +kernel
theorem d_MO_pass_0 : decode b_MO_pass 0 = .ok (.aload_n 0, 1) := by decide +kernel
theorem d_MO_pass_1 : decode b_MO_pass 1 = .ok (.iload_n 1, 1) := by decide +kernel
theorem d_MO_pass_2 : decode b_MO_pass 2 = .ok (.invokestatic 98, 3) := by decide +kernel
theorem d_MO_pass_5 : decode b_MO_pass 5 = .ok (.ifCond .ne 21, 3) := by decide +kernel
theorem d_MO_pass_8 : decode b_MO_pass 8 = .ok (.aload_n 0, 1) := by decide +kernel
theorem d_MO_pass_9 : decode b_MO_pass 9 = .ok (.iload_n 2, 1) := by decide +kernel
theorem d_MO_pass_10 : decode b_MO_pass 10 = .ok (.invokevirtual 91, 3) := by decide +kernel
theorem d_MO_pass_13 : decode b_MO_pass 13 = .ok (.ifCond .ne 13, 3) := by decide +kernel
theorem d_MO_pass_16 : decode b_MO_pass 16 = .ok (.iload_n 3, 1) := by decide +kernel
theorem d_MO_pass_17 : decode b_MO_pass 17 = .ok (.ifCond .lt 9, 3) := by decide +kernel
theorem d_MO_pass_20 : decode b_MO_pass 20 = .ok (.iload_n 3, 1) := by decide +kernel
theorem d_MO_pass_21 : decode b_MO_pass 21 = .ok (.bipush 99, 2) := by decide +kernel
theorem d_MO_pass_23 : decode b_MO_pass 23 = .ok (.if_icmp .le 7, 3) := by decide +kernel
theorem d_MO_pass_26 : decode b_MO_pass 26 = .ok (.iconst 1, 1) := by decide +kernel
theorem d_MO_pass_27 : decode b_MO_pass 27 = .ok (.goto 4, 3) := by decide +kernel
theorem d_MO_pass_30 : decode b_MO_pass 30 = .ok (.iconst 0, 1) := by decide +kernel
theorem d_MO_pass_31 : decode b_MO_pass 31 = .ok (.putfield 74, 3) := by decide +kernel
theorem d_MO_pass_34 : decode b_MO_pass 34 = .ok (.aload_n 0, 1) := by decide +kernel
theorem d_MO_pass_35 : decode b_MO_pass 35 = .ok (.getfield 74, 3) := by decide +kernel
theorem d_MO_pass_38 : decode b_MO_pass 38 = .ok (.ifCond .le 5, 3) := by decide +kernel
theorem d_MO_pass_41 : decode b_MO_pass 41 = .ok (.iconst 0, 1) := by decide +kernel
theorem d_MO_pass_42 : decode b_MO_pass 42 = .ok (.ireturn, 1) := by decide +kernel
theorem d_MO_pass_43 : decode b_MO_pass 43 = .ok (.bipush 12, 2) := by decide +kernel
theorem d_MO_pass_45 : decode b_MO_pass 45 = .ok (.iload_n 1, 1) := by decide +kernel
theorem d_MO_pass_46 : decode b_MO_pass 46 = .ok (.imul, 1) := by decide +kernel
theorem d_MO_pass_47 : decode b_MO_pass 47 = .ok (.iload_n 2, 1) := by decide +kernel
theorem d_MO_pass_48 : decode b_MO_pass 48 = .ok (.iadd, 1) := by decide +kernel
theorem d_MO_pass_49 : decode b_MO_pass 49 = .ok (.istore 4, 2) := by decide +kernel
theorem d_MO_pass_51 : decode b_MO_pass 51 = .ok (.aload_n 0, 1) := by decide +kernel
theorem d_MO_pass_52 : decode b_MO_pass 52 = .ok (.getfield 38, 3) := by decide +kernel
theorem d_MO_pass_55 : decode b_MO_pass 55 = .ok (.iload 4, 2) := by decide +kernel
theorem d_MO_pass_57 : decode b_MO_pass 57 = .ok (.iload_n 3, 1) := by decide +kernel
theorem d_MO_pass_58 : decode b_MO_pass 58 = .ok (.aload_n 0, 1) := by decide +kernel
theorem d_MO_pass_59 : decode b_MO_pass 59 = .ok (.getfield 38, 3) := by decide +kernel
theorem d_MO_pass_62 : decode b_MO_pass 62 = .ok (.iload 4, 2) := by decide +kernel
theorem d_MO_pass_64 : decode b_MO_pass 64 = .ok (.iaload, 1) := by decide +kernel
theorem d_MO_pass_65 : decode b_MO_pass 65 = .ok (.if_icmp .le 7, 3) := by decide +kernel
theorem d_MO_pass_68 : decode b_MO_pass 68 = .ok (.iload_n 3, 1) := by decide +kernel
theorem d_MO_pass_69 : decode b_MO_pass 69 = .ok (.goto 10, 3) := by decide +kernel
theorem d_MO_pass_72 : decode b_MO_pass 72 = .ok (.aload_n 0, 1) := by decide +kernel
theorem d_MO_pass_73 : decode b_MO_pass 73 = .ok (.getfield 38, 3) := by decide +kernel
theorem d_MO_pass_76 : decode b_MO_pass 76 = .ok (.iload 4, 2) := by decide +kernel
theorem d_MO_pass_78 : decode b_MO_pass 78 = .ok (.iaload, 1) := by decide +kernel
theorem d_MO_pass_79 : decode b_MO_pass 79 = .ok (.iastore, 1) := by decide +kernel
theorem d_MO_pass_80 : decode b_MO_pass 80 = .ok (.aload_n 0, 1) := by decide +kernel
theorem d_MO_pass_81 : decode b_MO_pass 81 = .ok (.getfield 38, 3) := by decide +kernel
theorem d_MO_pass_84 : decode b_MO_pass 84 = .ok (.iload 4, 2) := by decide +kernel
theorem d_MO_pass_86 : decode b_MO_pass 86 = .ok (.iaload, 1) := by decide +kernel
theorem d_MO_pass_87 : decode b_MO_pass 87 = .ok (.ireturn, 1) := by decide +kernel
theorem d_MO_substitute_0 : decode b_MO_substitute 0 = .ok (.aload_n 0, 1) := by decide +kernel
theorem d_MO_substitute_1 : decode b_MO_substitute 1 = .ok (.iload_n 1, 1) := by decide +kernel
theorem d_MO_substitute_2 : decode b_MO_substitute 2 = .ok (.invokestatic 98, 3) := by decide +kernel
theorem d_MO_substitute_5 : decode b_MO_substitute 5 = .ok (.ifCond .ne 19, 3) := by decide +kernel
theorem d_MO_substitute_8 : decode b_MO_substitute 8 = .ok (.aload_n 0, 1) := by decide +kernel
theorem d_MO_substitute_9 : decode b_MO_substitute 9 = .ok (.iload_n 2, 1) := by decide +kernel
theorem d_MO_substitute_10 : decode b_MO_substitute 10 = .ok (.invokevirtual 91, 3) := by decide +kernel
theorem d_MO_substitute_13 : decode b_MO_substitute 13 = .ok (.ifCond .ne 11, 3) := by decide +kernel
theorem d_MO_substitute_16 : decode b_MO_substitute 16 = .ok (.aload_n 0, 1) := by decide +kernel
theorem d_MO_substitute_17 : decode b_MO_substitute 17 = .ok (.iload_n 3, 1) := by decide +kernel
theorem d_MO_substitute_18 : decode b_MO_substitute 18 = .ok (.invokevirtual 91, 3) := by decide +kernel
theorem d_MO_substitute_21 : decode b_MO_substitute 21 = .ok (.ifCond .eq 7, 3) := by decide +kernel
theorem d_MO_substitute_24 : decode b_MO_substitute 24 = .ok (.iconst 1, 1) := by decide +kernel
theorem d_MO_substitute_25 : decode b_MO_substitute 25 = .ok (.goto 4, 3) := by decide +kernel
theorem d_MO_substitute_28 : decode b_MO_substitute 28 = .ok (.iconst 0, 1) := by decide +kernel
theorem d_MO_substitute_29 : decode b_MO_substitute 29 = .ok (.putfield 74, 3) := by decide +kernel
theorem d_MO_substitute_32 : decode b_MO_substitute 32 = .ok (.aload_n 0, 1) := by decide +kernel
theorem d_MO_substitute_33 : decode b_MO_substitute 33 = .ok (.getfield 74, 3) := by decide +kernel
theorem d_MO_substitute_36 : decode b_MO_substitute 36 = .ok (.ifCond .gt 8, 3) := by decide +kernel
theorem d_MO_substitute_39 : decode b_MO_substitute 39 = .ok (.iload_n 2, 1) := by decide +kernel
theorem d_MO_substitute_40 : decode b_MO_substitute 40 = .ok (.iload_n 3, 1) := by decide +kernel
theorem d_MO_substitute_41 : decode b_MO_substitute 41 = .ok (.if_icmp .ne 5, 3) := by decide +kernel
theorem d_MO_substitute_44 : decode b_MO_substitute 44 = .ok (.iconst 0, 1) := by decide +kernel
theorem d_MO_substitute_45 : decode b_MO_substitute 45 = .ok (.ireturn, 1) := by decide +kernel
theorem d_MO_substitute_46 : decode b_MO_substitute 46 = .ok (.aload_n 0, 1) := by decide +kernel
theorem d_MO_substitute_47 : decode b_MO_substitute 47 = .ok (.getfield 41, 3) := by decide +kernel
theorem d_MO_substitute_50 : decode b_MO_substitute 50 = .ok (.iload_n 1, 1) := by decide +kernel
theorem d_MO_substitute_51 : decode b_MO_substitute 51 = .ok (.iaload, 1) := by decide +kernel
theorem d_MO_substitute_52 : decode b_MO_substitute 52 = .ok (.istore 4, 2) := by decide +kernel
theorem d_MO_substitute_54 : decode b_MO_substitute 54 = .ok (.iconst 0, 1) := by decide +kernel
theorem d_MO_substitute_55 : decode b_MO_substitute 55 = .ok (.istore 5, 2) := by decide +kernel
theorem d_MO_substitute_57 : decode b_MO_substitute 57 = .ok (.iload 5, 2) := by decide +kernel
theorem d_MO_substitute_59 : decode b_MO_substitute 59 = .ok (.iload 4, 2) := by decide +kernel
theorem d_MO_substitute_61 : decode b_MO_substitute 61 = .ok (.if_icmp .ge 43, 3) := by decide +kernel
theorem d_MO_substitute_64 : decode b_MO_substitute 64 = .ok (.aload_n 0, 1) := by decide +kernel
theorem d_MO_substitute_65 : decode b_MO_substitute 65 = .ok (.getfield 44, 3) := by decide +kernel
theorem d_MO_substitute_68 : decode b_MO_substitute 68 = .ok (.bipush 8, 2) := by decide +kernel
theorem d_MO_substitute_70 : decode b_MO_substitute 70 = .ok (.iload_n 1, 1) := by decide +kernel
theorem d_MO_substitute_71 : decode b_MO_substitute 71 = .ok (.imul, 1) := by decide +kernel
theorem d_MO_substitute_72 : decode b_MO_substitute 72 = .ok (.iload 5, 2) := by decide +kernel
theorem d_MO_substitute_74 : decode b_MO_substitute 74 = .ok (.iadd, 1) := by decide +kernel
theorem d_MO_substitute_75 : decode b_MO_substitute 75 = .ok (.iaload, 1) := by decide +kernel
theorem d_MO_substitute_76 : decode b_MO_substitute 76 = .ok (.iload_n 2, 1) := by decide +kernel
theorem d_MO_substitute_77 : decode b_MO_substitute 77 = .ok (.if_icmp .ne 21, 3) := by decide +kernel
theorem d_MO_substitute_80 : decode b_MO_substitute 80 = .ok (.aload_n 0, 1) := by decide +kernel
theorem d_MO_substitute_81 : decode b_MO_substitute 81 = .ok (.getfield 47, 3) := by decide +kernel
theorem d_MO_substitute_84 : decode b_MO_substitute 84 = .ok (.bipush 8, 2) := by decide +kernel
theorem d_MO_substitute_86 : decode b_MO_substitute 86 = .ok (.iload_n 1, 1) := by decide +kernel
theorem d_MO_substitute_87 : decode b_MO_substitute 87 = .ok (.imul, 1) := by decide +kernel
theorem d_MO_substitute_88 : decode b_MO_substitute 88 = .ok (.iload 5, 2) := by decide +kernel
theorem d_MO_substitute_90 : decode b_MO_substitute 90 = .ok (.iadd, 1) := by decide +kernel
theorem d_MO_substitute_91 : decode b_MO_substitute 91 = .ok (.iaload, 1) := by decide +kernel
theorem d_MO_substitute_92 : decode b_MO_substitute 92 = .ok (.iload_n 3, 1) := by decide +kernel
theorem d_MO_substitute_93 : decode b_MO_substitute 93 = .ok (.if_icmp .ne 5, 3) := by decide +kernel
theorem d_MO_substitute_96 : decode b_MO_substitute 96 = .ok (.iconst 0, 1) := by decide +kernel
theorem d_MO_substitute_97 : decode b_MO_substitute 97 = .ok (.ireturn, 1) := by decide +kernel
theorem d_MO_substitute_98 : decode b_MO_substitute 98 = .ok (.iinc 5 1, 3) := by decide +kernel
theorem d_MO_substitute_101 : decode b_MO_substitute 101 = .ok (.goto (-44), 3) := by decide +kernel
theorem d_MO_substitute_104 : decode b_MO_substitute 104 = .ok (.aload_n 0, 1) := by decide +kernel
theorem d_MO_substitute_105 : decode b_MO_substitute 105 = .ok (.iload 4, 2) := by decide +kernel
theorem d_MO_substitute_107 : decode b_MO_substitute 107 = .ok (.bipush 8, 2) := by decide +kernel
theorem d_MO_substitute_109 : decode b_MO_substitute 109 = .ok (.if_icmp .ne 7, 3) := by decide +kernel
theorem d_MO_substitute_112 : decode b_MO_substitute 112 = .ok (.iconst 2, 1) := by decide +kernel
theorem d_MO_substitute_113 : decode b_MO_substitute 113 = .ok (.goto 4, 3) := by decide +kernel
theorem d_MO_substitute_116 : decode b_MO_substitute 116 = .ok (.iconst 0, 1) := by decide +kernel
theorem d_MO_substitute_117 : decode b_MO_substitute 117 = .ok (.putfield 74, 3) := by decide +kernel
theorem d_MO_substitute_120 : decode b_MO_substitute 120 = .ok (.aload_n 0, 1) := by decide +kernel
theorem d_MO_substitute_121 : decode b_MO_substitute 121 = .ok (.getfield 74, 3) := by decide +kernel
theorem d_MO_substitute_124 : decode b_MO_substitute 124 = .ok (.ifCond .le 5, 3) := by decide +kernel
theorem d_MO_substitute_127 : decode b_MO_substitute 127 = .ok (.iconst 0, 1) := by decide +kernel
theorem d_MO_substitute_128 : decode b_MO_substitute 128 = .ok (.ireturn, 1) := by decide +kernel
theorem d_MO_substitute_129 : decode b_MO_substitute 129 = .ok (.aload_n 0, 1) := by decide +kernel
theorem d_MO_substitute_130 : decode b_MO_substitute 130 = .ok (.getfield 44, 3) := by decide +kernel
theorem d_MO_substitute_133 : decode b_MO_substitute 133 = .ok (.bipush 8, 2) := by decide +kernel
theorem d_MO_substitute_135 : decode b_MO_substitute 135 = .ok (.iload_n 1, 1) := by decide +kernel
theorem d_MO_substitute_136 : decode b_MO_substitute 136 = .ok (.imul, 1) := by decide +kernel
theorem d_MO_substitute_137 : decode b_MO_substitute 137 = .ok (.iload 4, 2) := by decide +kernel
theorem d_MO_substitute_139 : decode b_MO_substitute 139 = .ok (.iadd, 1) := by decide +kernel
theorem d_MO_substitute_140 : decode b_MO_substitute 140 = .ok (.iload_n 2, 1) := by decide +kernel
theorem d_MO_substitute_141 : decode b_MO_substitute 141 = .ok (.iastore, 1) := by decide +kernel
theorem d_MO_substitute_142 : decode b_MO_substitute 142 = .ok (.aload_n 0, 1) := by decide +kernel
theorem d_MO_substitute_143 : decode b_MO_substitute 143 = .ok (.getfield 47, 3) := by decide +kernel
theorem d_MO_substitute_146 : decode b_MO_substitute 146 = .ok (.bipush 8, 2) := by decide +kernel
theorem d_MO_substitute_148 : decode b_MO_substitute 148 = .ok (.iload_n 1, 1) := by decide +kernel
theorem d_MO_substitute_149 : decode b_MO_substitute 149 = .ok (.imul, 1) := by decide +kernel
theorem d_MO_substitute_150 : decode b_MO_substitute 150 = .ok (.iload 4, 2) := by decide +kernel
theorem d_MO_substitute_152 : decode b_MO_substitute 152 = .ok (.iadd, 1) := by decide +kernel
theorem d_MO_substitute_153 : decode b_MO_substitute 153 = .ok (.iload_n 3, 1) := by decide +kernel
theorem d_MO_substitute_154 : decode b_MO_substitute 154 = .ok (.iastore, 1) := by decide +kernel
theorem d_MO_substitute_155 : decode b_MO_substitute 155 = .ok (.aload_n 0, 1) := by decide +kernel
theorem d_MO_substitute_156 : decode b_MO_substitute 156 = .ok (.getfield 41, 3) := by decide +kernel
theorem d_MO_substitute_159 : decode b_MO_substitute 159 = .ok (.iload_n 1, 1) := by decide +kernel
theorem d_MO_substitute_160 : decode b_MO_substitute 160 = .ok (.dup2, 1) := by decide +kernel
theorem d_MO_substitute_161 : decode b_MO_substitute 161 = .ok (.iaload, 1) := by decide +kernel
theorem d_MO_substitute_162 : decode b_MO_substitute 162 = .ok (.iconst 1, 1) := by decide +kernel
theorem d_MO_substitute_163 : decode b_MO_substitute 163 = .ok (.iadd, 1) := by decide +kernel
theorem d_MO_substitute_164 : decode b_MO_substitute 164 = .ok (.iastore, 1) := by decide +kernel
theorem d_MO_substitute_165 : decode b_MO_substitute 165 = .ok (.iconst 1, 1) := by decide +kernel
theorem d_MO_substitute_166 : decode b_MO_substitute 166 = .ok (.ireturn, 1) := by decide +kernel
theorem d_MO_need_0 : decode b_MO_need 0 = .ok (.aload_n 0, 1) := by decide +kernel
theorem d_MO_need_1 : decode b_MO_need 1 = .ok (.getfield 29, 3) := by decide +kernel
theorem d_MO_need_4 : decode b_MO_need 4 = .ok (.bipush 6, 2) := by decide +kernel
theorem d_MO_need_6 : decode b_MO_need 6 = .ok (.aload_n 0, 1) := by decide +kernel
theorem d_MO_need_7 : decode b_MO_need 7 = .ok (.getfield 35, 3) := by decide +kernel
theorem d_MO_need_10 : decode b_MO_need 10 = .ok (.iload_n 1, 1) := by decide +kernel
theorem d_MO_need_11 : decode b_MO_need 11 = .ok (.iaload, 1) := by decide +kernel
theorem d_MO_need_12 : decode b_MO_need 12 = .ok (.imul, 1) := by decide +kernel
theorem d_MO_need_13 : decode b_MO_need 13 = .ok (.iload_n 2, 1) := by decide +kernel
theorem d_MO_need_14 : decode b_MO_need 14 = .ok (.iadd, 1) := by decide +kernel
theorem d_MO_need_15 : decode b_MO_need 15 = .ok (.iaload, 1) := by decide +kernel
theorem d_MO_need_16 : decode b_MO_need 16 = .ok (.aload_n 0, 1) := by decide +kernel
theorem d_MO_need_17 : decode b_MO_need 17 = .ok (.getfield 50, 3) := by decide +kernel
theorem d_MO_need_20 : decode b_MO_need 20 = .ok (.bipush 6, 2) := by decide +kernel
theorem d_MO_need_22 : decode b_MO_need 22 = .ok (.iload_n 1, 1) := by decide +kernel
theorem d_MO_need_23 : decode b_MO_need 23 = .ok (.imul, 1) := by decide +kernel
theorem d_MO_need_24 : decode b_MO_need 24 = .ok (.iload_n 2, 1) := by decide +kernel
theorem d_MO_need_25 : decode b_MO_need 25 = .ok (.iadd, 1) := by decide +kernel
theorem d_MO_need_26 : decode b_MO_need 26 = .ok (.iaload, 1) := by decide +kernel
theorem d_MO_need_27 : decode b_MO_need 27 = .ok (.isub, 1) := by decide +kernel
theorem d_MO_need_28 : decode b_MO_need 28 = .ok (.istore_n 3, 1) := by decide +kernel
theorem d_MO_need_29 : decode b_MO_need 29 = .ok (.iload_n 3, 1) := by decide +kernel
theorem d_MO_need_30 : decode b_MO_need 30 = .ok (.ifCond .ge 7, 3) := by decide +kernel
theorem d_MO_need_33 : decode b_MO_need 33 = .ok (.iconst 0, 1) := by decide +kernel
theorem d_MO_need_34 : decode b_MO_need 34 = .ok (.goto 4, 3) := by decide +kernel
theorem d_MO_need_37 : decode b_MO_need 37 = .ok (.iload_n 3, 1) := by decide +kernel
theorem d_MO_need_38 : decode b_MO_need 38 = .ok (.ireturn, 1) := by decide +kernel
theorem d_MO_exempt_0 : decode b_MO_exempt 0 = .ok (.aload_n 0, 1) := by decide +kernel
theorem d_MO_exempt_1 : decode b_MO_exempt 1 = .ok (.iload_n 1, 1) := by decide +kernel
theorem d_MO_exempt_2 : decode b_MO_exempt 2 = .ok (.invokestatic 98, 3) := by decide +kernel
theorem d_MO_exempt_5 : decode b_MO_exempt 5 = .ok (.ifCond .ne 36, 3) := by decide +kernel
theorem d_MO_exempt_8 : decode b_MO_exempt 8 = .ok (.aload_n 0, 1) := by decide +kernel
theorem d_MO_exempt_9 : decode b_MO_exempt 9 = .ok (.getfield 35, 3) := by decide +kernel
theorem d_MO_exempt_12 : decode b_MO_exempt 12 = .ok (.iload_n 1, 1) := by decide +kernel
theorem d_MO_exempt_13 : decode b_MO_exempt 13 = .ok (.iaload, 1) := by decide +kernel
theorem d_MO_exempt_14 : decode b_MO_exempt 14 = .ok (.ifCond .lt 27, 3) := by decide +kernel
theorem d_MO_exempt_17 : decode b_MO_exempt 17 = .ok (.aload_n 0, 1) := by decide +kernel
theorem d_MO_exempt_18 : decode b_MO_exempt 18 = .ok (.aload_n 0, 1) := by decide +kernel
theorem d_MO_exempt_19 : decode b_MO_exempt 19 = .ok (.getfield 35, 3) := by decide +kernel
theorem d_MO_exempt_22 : decode b_MO_exempt 22 = .ok (.iload_n 1, 1) := by decide +kernel
theorem d_MO_exempt_23 : decode b_MO_exempt 23 = .ok (.iaload, 1) := by decide +kernel
theorem d_MO_exempt_24 : decode b_MO_exempt 24 = .ok (.iload_n 2, 1) := by decide +kernel
theorem d_MO_exempt_25 : decode b_MO_exempt 25 = .ok (.invokevirtual 94, 3) := by decide +kernel
theorem d_MO_exempt_28 : decode b_MO_exempt 28 = .ok (.ifCond .ne 13, 3) := by decide +kernel
theorem d_MO_exempt_31 : decode b_MO_exempt 31 = .ok (.iload_n 3, 1) := by decide +kernel
theorem d_MO_exempt_32 : decode b_MO_exempt 32 = .ok (.ifCond .lt 9, 3) := by decide +kernel
theorem d_MO_exempt_35 : decode b_MO_exempt 35 = .ok (.iload_n 3, 1) := by decide +kernel
theorem d_MO_exempt_36 : decode b_MO_exempt 36 = .ok (.bipush 9, 2) := by decide +kernel
theorem d_MO_exempt_38 : decode b_MO_exempt 38 = .ok (.if_icmp .le 7, 3) := by decide +kernel
theorem d_MO_exempt_41 : decode b_MO_exempt 41 = .ok (.iconst 1, 1) := by decide +kernel
theorem d_MO_exempt_42 : decode b_MO_exempt 42 = .ok (.goto 4, 3) := by decide +kernel
theorem d_MO_exempt_45 : decode b_MO_exempt 45 = .ok (.iconst 0, 1) := by decide +kernel
theorem d_MO_exempt_46 : decode b_MO_exempt 46 = .ok (.putfield 74, 3) := by decide +kernel
theorem d_MO_exempt_49 : decode b_MO_exempt 49 = .ok (.aload_n 0, 1) := by decide +kernel
theorem d_MO_exempt_50 : decode b_MO_exempt 50 = .ok (.getfield 74, 3) := by decide +kernel
theorem d_MO_exempt_53 : decode b_MO_exempt 53 = .ok (.ifCond .le 5, 3) := by decide +kernel
theorem d_MO_exempt_56 : decode b_MO_exempt 56 = .ok (.iconst 0, 1) := by decide +kernel
theorem d_MO_exempt_57 : decode b_MO_exempt 57 = .ok (.ireturn, 1) := by decide +kernel
theorem d_MO_exempt_58 : decode b_MO_exempt 58 = .ok (.bipush 6, 2) := by decide +kernel
theorem d_MO_exempt_60 : decode b_MO_exempt 60 = .ok (.iload_n 1, 1) := by decide +kernel
theorem d_MO_exempt_61 : decode b_MO_exempt 61 = .ok (.imul, 1) := by decide +kernel
theorem d_MO_exempt_62 : decode b_MO_exempt 62 = .ok (.iload_n 2, 1) := by decide +kernel
theorem d_MO_exempt_63 : decode b_MO_exempt 63 = .ok (.iadd, 1) := by decide +kernel
theorem d_MO_exempt_64 : decode b_MO_exempt 64 = .ok (.istore 4, 2) := by decide +kernel
theorem d_MO_exempt_66 : decode b_MO_exempt 66 = .ok (.aload_n 0, 1) := by decide +kernel
theorem d_MO_exempt_67 : decode b_MO_exempt 67 = .ok (.getfield 50, 3) := by decide +kernel
theorem d_MO_exempt_70 : decode b_MO_exempt 70 = .ok (.iload 4, 2) := by decide +kernel
theorem d_MO_exempt_72 : decode b_MO_exempt 72 = .ok (.iaload, 1) := by decide +kernel
theorem d_MO_exempt_73 : decode b_MO_exempt 73 = .ok (.iload_n 3, 1) := by decide +kernel
theorem d_MO_exempt_74 : decode b_MO_exempt 74 = .ok (.iadd, 1) := by decide +kernel
theorem d_MO_exempt_75 : decode b_MO_exempt 75 = .ok (.istore 5, 2) := by decide +kernel
theorem d_MO_exempt_77 : decode b_MO_exempt 77 = .ok (.aload_n 0, 1) := by decide +kernel
theorem d_MO_exempt_78 : decode b_MO_exempt 78 = .ok (.getfield 50, 3) := by decide +kernel
theorem d_MO_exempt_81 : decode b_MO_exempt 81 = .ok (.iload 4, 2) := by decide +kernel
theorem d_MO_exempt_83 : decode b_MO_exempt 83 = .ok (.iload 5, 2) := by decide +kernel
theorem d_MO_exempt_85 : decode b_MO_exempt 85 = .ok (.bipush 9, 2) := by decide +kernel
theorem d_MO_exempt_87 : decode b_MO_exempt 87 = .ok (.if_icmp .le 8, 3) := by decide +kernel
theorem d_MO_exempt_90 : decode b_MO_exempt 90 = .ok (.bipush 9, 2) := by decide +kernel
theorem d_MO_exempt_92 : decode b_MO_exempt 92 = .ok (.goto 5, 3) := by decide +kernel
theorem d_MO_exempt_95 : decode b_MO_exempt 95 = .ok (.iload 5, 2) := by decide +kernel
theorem d_MO_exempt_97 : decode b_MO_exempt 97 = .ok (.iastore, 1) := by decide +kernel
theorem d_MO_exempt_98 : decode b_MO_exempt 98 = .ok (.aload_n 0, 1) := by decide +kernel
theorem d_MO_exempt_99 : decode b_MO_exempt 99 = .ok (.iload_n 1, 1) := by decide +kernel
theorem d_MO_exempt_100 : decode b_MO_exempt 100 = .ok (.iload_n 2, 1) := by decide +kernel
theorem d_MO_exempt_101 : decode b_MO_exempt 101 = .ok (.invokevirtual 101, 3) := by decide +kernel
theorem d_MO_exempt_104 : decode b_MO_exempt 104 = .ok (.ireturn, 1) := by decide +kernel
theorem d_MO_isLive_0 : decode b_MO_isLive 0 = .ok (.aload_n 0, 1) := by decide +kernel
theorem d_MO_isLive_1 : decode b_MO_isLive 1 = .ok (.getfield 38, 3) := by decide +kernel
theorem d_MO_isLive_4 : decode b_MO_isLive 4 = .ok (.bipush 12, 2) := by decide +kernel
theorem d_MO_isLive_6 : decode b_MO_isLive 6 = .ok (.iload_n 1, 1) := by decide +kernel
theorem d_MO_isLive_7 : decode b_MO_isLive 7 = .ok (.imul, 1) := by decide +kernel
theorem d_MO_isLive_8 : decode b_MO_isLive 8 = .ok (.iload_n 2, 1) := by decide +kernel
theorem d_MO_isLive_9 : decode b_MO_isLive 9 = .ok (.iadd, 1) := by decide +kernel
theorem d_MO_isLive_10 : decode b_MO_isLive 10 = .ok (.iaload, 1) := by decide +kernel
theorem d_MO_isLive_11 : decode b_MO_isLive 11 = .ok (.istore 4, 2) := by decide +kernel
theorem d_MO_isLive_13 : decode b_MO_isLive 13 = .ok (.iload 4, 2) := by decide +kernel
theorem d_MO_isLive_15 : decode b_MO_isLive 15 = .ok (.ifCond .lt 39, 3) := by decide +kernel
theorem d_MO_isLive_18 : decode b_MO_isLive 18 = .ok (.iload 4, 2) := by decide +kernel
theorem d_MO_isLive_20 : decode b_MO_isLive 20 = .ok (.iload_n 3, 1) := by decide +kernel
theorem d_MO_isLive_21 : decode b_MO_isLive 21 = .ok (.if_icmp .gt 33, 3) := by decide +kernel
theorem d_MO_isLive_24 : decode b_MO_isLive 24 = .ok (.aload_n 0, 1) := by decide +kernel
theorem d_MO_isLive_25 : decode b_MO_isLive 25 = .ok (.getfield 23, 3) := by decide +kernel
theorem d_MO_isLive_28 : decode b_MO_isLive 28 = .ok (.iload_n 2, 1) := by decide +kernel
theorem d_MO_isLive_29 : decode b_MO_isLive 29 = .ok (.iaload, 1) := by decide +kernel
theorem d_MO_isLive_30 : decode b_MO_isLive 30 = .ok (.ifCond .lt 20, 3) := by decide +kernel
theorem d_MO_isLive_33 : decode b_MO_isLive 33 = .ok (.iload_n 3, 1) := by decide +kernel
theorem d_MO_isLive_34 : decode b_MO_isLive 34 = .ok (.i2l, 1) := by decide +kernel
theorem d_MO_isLive_35 : decode b_MO_isLive 35 = .ok (.iload 4, 2) := by decide +kernel
theorem d_MO_isLive_37 : decode b_MO_isLive 37 = .ok (.i2l, 1) := by decide +kernel
theorem d_MO_isLive_38 : decode b_MO_isLive 38 = .ok (.lsub, 1) := by decide +kernel
theorem d_MO_isLive_39 : decode b_MO_isLive 39 = .ok (.aload_n 0, 1) := by decide +kernel
theorem d_MO_isLive_40 : decode b_MO_isLive 40 = .ok (.getfield 23, 3) := by decide +kernel
theorem d_MO_isLive_43 : decode b_MO_isLive 43 = .ok (.iload_n 2, 1) := by decide +kernel
theorem d_MO_isLive_44 : decode b_MO_isLive 44 = .ok (.iaload, 1) := by decide +kernel
theorem d_MO_isLive_45 : decode b_MO_isLive 45 = .ok (.i2l, 1) := by decide +kernel
theorem d_MO_isLive_46 : decode b_MO_isLive 46 = .ok (.lcmp, 1) := by decide +kernel
theorem d_MO_isLive_47 : decode b_MO_isLive 47 = .ok (.ifCond .gt 7, 3) := by decide +kernel
theorem d_MO_isLive_50 : decode b_MO_isLive 50 = .ok (.iconst 1, 1) := by decide +kernel
theorem d_MO_isLive_51 : decode b_MO_isLive 51 = .ok (.goto 4, 3) := by decide +kernel
theorem d_MO_isLive_54 : decode b_MO_isLive 54 = .ok (.iconst 0, 1) := by decide +kernel
theorem d_MO_isLive_55 : decode b_MO_isLive 55 = .ok (.ireturn, 1) := by decide +kernel
theorem d_MO_lives_0 : decode b_MO_lives 0 = .ok (.aload_n 0, 1) := by decide +kernel
theorem d_MO_lives_1 : decode b_MO_lives 1 = .ok (.iload_n 1, 1) := by decide +kernel
theorem d_MO_lives_2 : decode b_MO_lives 2 = .ok (.invokestatic 98, 3) := by decide +kernel
theorem d_MO_lives_5 : decode b_MO_lives 5 = .ok (.ifCond .ne 11, 3) := by decide +kernel
theorem d_MO_lives_8 : decode b_MO_lives 8 = .ok (.aload_n 0, 1) := by decide +kernel
theorem d_MO_lives_9 : decode b_MO_lives 9 = .ok (.iload_n 2, 1) := by decide +kernel
theorem d_MO_lives_10 : decode b_MO_lives 10 = .ok (.invokevirtual 91, 3) := by decide +kernel
theorem d_MO_lives_13 : decode b_MO_lives 13 = .ok (.ifCond .eq 7, 3) := by decide +kernel
theorem d_MO_lives_16 : decode b_MO_lives 16 = .ok (.iconst 1, 1) := by decide +kernel
theorem d_MO_lives_17 : decode b_MO_lives 17 = .ok (.goto 4, 3) := by decide +kernel
theorem d_MO_lives_20 : decode b_MO_lives 20 = .ok (.iconst 0, 1) := by decide +kernel
theorem d_MO_lives_21 : decode b_MO_lives 21 = .ok (.putfield 74, 3) := by decide +kernel
theorem d_MO_lives_24 : decode b_MO_lives 24 = .ok (.aload_n 0, 1) := by decide +kernel
theorem d_MO_lives_25 : decode b_MO_lives 25 = .ok (.getfield 74, 3) := by decide +kernel
theorem d_MO_lives_28 : decode b_MO_lives 28 = .ok (.ifCond .ne 17, 3) := by decide +kernel
theorem d_MO_lives_31 : decode b_MO_lives 31 = .ok (.aload_n 0, 1) := by decide +kernel
theorem d_MO_lives_32 : decode b_MO_lives 32 = .ok (.iload_n 1, 1) := by decide +kernel
theorem d_MO_lives_33 : decode b_MO_lives 33 = .ok (.iload_n 2, 1) := by decide +kernel
theorem d_MO_lives_34 : decode b_MO_lives 34 = .ok (.iload_n 3, 1) := by decide +kernel
theorem d_MO_lives_35 : decode b_MO_lives 35 = .ok (.invokevirtual 105, 3) := by decide +kernel
theorem d_MO_lives_38 : decode b_MO_lives 38 = .ok (.ifCond .eq 7, 3) := by decide +kernel
theorem d_MO_lives_41 : decode b_MO_lives 41 = .ok (.iconst 1, 1) := by decide +kernel
theorem d_MO_lives_42 : decode b_MO_lives 42 = .ok (.goto 4, 3) := by decide +kernel
theorem d_MO_lives_45 : decode b_MO_lives 45 = .ok (.iconst 0, 1) := by decide +kernel
theorem d_MO_lives_46 : decode b_MO_lives 46 = .ok (.ireturn, 1) := by decide +kernel
theorem d_MO_liveOnes_0 : decode b_MO_liveOnes 0 = .ok (.iconst 0, 1) := by decide +kernel
theorem d_MO_liveOnes_1 : decode b_MO_liveOnes 1 = .ok (.istore_n 3, 1) := by decide +kernel
theorem d_MO_liveOnes_2 : decode b_MO_liveOnes 2 = .ok (.iconst 0, 1) := by decide +kernel
theorem d_MO_liveOnes_3 : decode b_MO_liveOnes 3 = .ok (.istore 4, 2) := by decide +kernel
theorem d_MO_liveOnes_5 : decode b_MO_liveOnes 5 = .ok (.iload 4, 2) := by decide +kernel
theorem d_MO_liveOnes_7 : decode b_MO_liveOnes 7 = .ok (.aload_n 0, 1) := by decide +kernel
theorem d_MO_liveOnes_8 : decode b_MO_liveOnes 8 = .ok (.getfield 81, 3) := by decide +kernel
theorem d_MO_liveOnes_11 : decode b_MO_liveOnes 11 = .ok (.if_icmp .ge 31, 3) := by decide +kernel
theorem d_MO_liveOnes_14 : decode b_MO_liveOnes 14 = .ok (.aload_n 0, 1) := by decide +kernel
theorem d_MO_liveOnes_15 : decode b_MO_liveOnes 15 = .ok (.iload_n 1, 1) := by decide +kernel
theorem d_MO_liveOnes_16 : decode b_MO_liveOnes 16 = .ok (.iload 4, 2) := by decide +kernel
theorem d_MO_liveOnes_18 : decode b_MO_liveOnes 18 = .ok (.iload_n 2, 1) := by decide +kernel
theorem d_MO_liveOnes_19 : decode b_MO_liveOnes 19 = .ok (.invokevirtual 105, 3) := by decide +kernel
theorem d_MO_liveOnes_22 : decode b_MO_liveOnes 22 = .ok (.ifCond .eq 12, 3) := by decide +kernel
theorem d_MO_liveOnes_25 : decode b_MO_liveOnes 25 = .ok (.iload_n 3, 1) := by decide +kernel
theorem d_MO_liveOnes_26 : decode b_MO_liveOnes 26 = .ok (.iconst 1, 1) := by decide +kernel
theorem d_MO_liveOnes_27 : decode b_MO_liveOnes 27 = .ok (.iload 4, 2) := by decide +kernel
theorem d_MO_liveOnes_29 : decode b_MO_liveOnes 29 = .ok (.ishl, 1) := by decide +kernel
theorem d_MO_liveOnes_30 : decode b_MO_liveOnes 30 = .ok (.ior, 1) := by decide +kernel
theorem d_MO_liveOnes_31 : decode b_MO_liveOnes 31 = .ok (.goto 4, 3) := by decide +kernel
theorem d_MO_liveOnes_34 : decode b_MO_liveOnes 34 = .ok (.iload_n 3, 1) := by decide +kernel
theorem d_MO_liveOnes_35 : decode b_MO_liveOnes 35 = .ok (.istore_n 3, 1) := by decide +kernel
theorem d_MO_liveOnes_36 : decode b_MO_liveOnes 36 = .ok (.iinc 4 1, 3) := by decide +kernel
theorem d_MO_liveOnes_39 : decode b_MO_liveOnes 39 = .ok (.goto (-34), 3) := by decide +kernel
theorem d_MO_liveOnes_42 : decode b_MO_liveOnes 42 = .ok (.iload_n 3, 1) := by decide +kernel
theorem d_MO_liveOnes_43 : decode b_MO_liveOnes 43 = .ok (.ireturn, 1) := by decide +kernel
theorem d_MO_bits_0 : decode b_MO_bits 0 = .ok (.iconst 0, 1) := by decide +kernel
theorem d_MO_bits_1 : decode b_MO_bits 1 = .ok (.istore_n 1, 1) := by decide +kernel
theorem d_MO_bits_2 : decode b_MO_bits 2 = .ok (.iconst 0, 1) := by decide +kernel
theorem d_MO_bits_3 : decode b_MO_bits 3 = .ok (.istore_n 2, 1) := by decide +kernel
theorem d_MO_bits_4 : decode b_MO_bits 4 = .ok (.iload_n 2, 1) := by decide +kernel
theorem d_MO_bits_5 : decode b_MO_bits 5 = .ok (.bipush 12, 2) := by decide +kernel
theorem d_MO_bits_7 : decode b_MO_bits 7 = .ok (.if_icmp .ge 17, 3) := by decide +kernel
theorem d_MO_bits_10 : decode b_MO_bits 10 = .ok (.iload_n 1, 1) := by decide +kernel
theorem d_MO_bits_11 : decode b_MO_bits 11 = .ok (.iload_n 0, 1) := by decide +kernel
theorem d_MO_bits_12 : decode b_MO_bits 12 = .ok (.iload_n 2, 1) := by decide +kernel
theorem d_MO_bits_13 : decode b_MO_bits 13 = .ok (.ishr, 1) := by decide +kernel
theorem d_MO_bits_14 : decode b_MO_bits 14 = .ok (.iconst 1, 1) := by decide +kernel
theorem d_MO_bits_15 : decode b_MO_bits 15 = .ok (.iand, 1) := by decide +kernel
theorem d_MO_bits_16 : decode b_MO_bits 16 = .ok (.iadd, 1) := by decide +kernel
theorem d_MO_bits_17 : decode b_MO_bits 17 = .ok (.istore_n 1, 1) := by decide +kernel
theorem d_MO_bits_18 : decode b_MO_bits 18 = .ok (.iinc 2 1, 3) := by decide +kernel
theorem d_MO_bits_21 : decode b_MO_bits 21 = .ok (.goto (-17), 3) := by decide +kernel
theorem d_MO_bits_24 : decode b_MO_bits 24 = .ok (.iload_n 1, 1) := by decide +kernel
theorem d_MO_bits_25 : decode b_MO_bits 25 = .ok (.ireturn, 1) := by decide +kernel
