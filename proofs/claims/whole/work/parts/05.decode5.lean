/-! decode rows (by program) -/
theorem d_PL_init_0 : decode b_PL_init 0 = .ok (.aload_n 0, 1) := by decide +kernel
theorem d_PL_init_1 : decode b_PL_init 1 = .ok (.invokespecial 5, 3) := by decide +kernel
theorem d_PL_init_4 : decode b_PL_init 4 = .ok (.aload_n 0, 1) := by decide +kernel
theorem d_PL_init_5 : decode b_PL_init 5 = .ok (.new 11, 3) := by decide +kernel
theorem d_PL_init_8 : decode b_PL_init 8 = .ok (.dup, 1) := by decide +kernel
theorem d_PL_init_9 : decode b_PL_init 9 = .ok (.bipush 25, 2) := by decide +kernel
theorem d_PL_init_11 : decode b_PL_init 11 = .ok (.bipush 83, 2) := by decide +kernel
theorem d_PL_init_13 : decode b_PL_init 13 = .ok (.invokespecial 13, 3) := by decide +kernel
theorem d_PL_init_16 : decode b_PL_init 16 = .ok (.putfield 16, 3) := by decide +kernel
theorem d_PL_init_19 : decode b_PL_init 19 = .ok (.return_, 1) := by decide +kernel
theorem d_PL_assignBest_0 : decode b_PL_assignBest 0 = .ok (.aload_n 0, 1) := by decide +kernel
theorem d_PL_assignBest_1 : decode b_PL_assignBest 1 = .ok (.aload_n 1, 1) := by decide +kernel
theorem d_PL_assignBest_2 : decode b_PL_assignBest 2 = .ok (.invokevirtual 20, 3) := by decide +kernel
theorem d_PL_assignBest_5 : decode b_PL_assignBest 5 = .ok (.aload_n 0, 1) := by decide +kernel
theorem d_PL_assignBest_6 : decode b_PL_assignBest 6 = .ok (.aload_n 2, 1) := by decide +kernel
theorem d_PL_assignBest_7 : decode b_PL_assignBest 7 = .ok (.invokevirtual 24, 3) := by decide +kernel
theorem d_PL_assignBest_10 : decode b_PL_assignBest 10 = .ok (.bipush 6, 2) := by decide +kernel
theorem d_PL_assignBest_12 : decode b_PL_assignBest 12 = .ok (.istore 4, 2) := by decide +kernel
theorem d_PL_assignBest_14 : decode b_PL_assignBest 14 = .ok (.lconst 1, 1) := by decide +kernel
theorem d_PL_assignBest_15 : decode b_PL_assignBest 15 = .ok (.lstore 5, 2) := by decide +kernel
theorem d_PL_assignBest_17 : decode b_PL_assignBest 17 = .ok (.bipush 11, 2) := by decide +kernel
theorem d_PL_assignBest_19 : decode b_PL_assignBest 19 = .ok (.istore 7, 2) := by decide +kernel
theorem d_PL_assignBest_21 : decode b_PL_assignBest 21 = .ok (.iload 7, 2) := by decide +kernel
theorem d_PL_assignBest_23 : decode b_PL_assignBest 23 = .ok (.ifCond .lt 43, 3) := by decide +kernel
theorem d_PL_assignBest_26 : decode b_PL_assignBest 26 = .ok (.iload_n 3, 1) := by decide +kernel
theorem d_PL_assignBest_27 : decode b_PL_assignBest 27 = .ok (.iload 7, 2) := by decide +kernel
theorem d_PL_assignBest_29 : decode b_PL_assignBest 29 = .ok (.invokestatic 28, 3) := by decide +kernel
theorem d_PL_assignBest_32 : decode b_PL_assignBest 32 = .ok (.ifCond .eq 20, 3) := by decide +kernel
theorem d_PL_assignBest_35 : decode b_PL_assignBest 35 = .ok (.aload_n 0, 1) := by decide +kernel
theorem d_PL_assignBest_36 : decode b_PL_assignBest 36 = .ok (.aload_n 1, 1) := by decide +kernel
theorem d_PL_assignBest_37 : decode b_PL_assignBest 37 = .ok (.aload_n 2, 1) := by decide +kernel
theorem d_PL_assignBest_38 : decode b_PL_assignBest 38 = .ok (.iload 7, 2) := by decide +kernel
theorem d_PL_assignBest_40 : decode b_PL_assignBest 40 = .ok (.iload 4, 2) := by decide +kernel
theorem d_PL_assignBest_42 : decode b_PL_assignBest 42 = .ok (.ineg, 1) := by decide +kernel
theorem d_PL_assignBest_43 : decode b_PL_assignBest 43 = .ok (.i2l, 1) := by decide +kernel
theorem d_PL_assignBest_44 : decode b_PL_assignBest 44 = .ok (.lload 5, 2) := by decide +kernel
theorem d_PL_assignBest_46 : decode b_PL_assignBest 46 = .ok (.lmul, 1) := by decide +kernel
theorem d_PL_assignBest_47 : decode b_PL_assignBest 47 = .ok (.lload 5, 2) := by decide +kernel
theorem d_PL_assignBest_49 : decode b_PL_assignBest 49 = .ok (.invokevirtual 32, 3) := by decide +kernel
theorem d_PL_assignBest_52 : decode b_PL_assignBest 52 = .ok (.lload 5, 2) := by decide +kernel
theorem d_PL_assignBest_54 : decode b_PL_assignBest 54 = .ok (.iload 4, 2) := by decide +kernel
theorem d_PL_assignBest_56 : decode b_PL_assignBest 56 = .ok (.i2l, 1) := by decide +kernel
theorem d_PL_assignBest_57 : decode b_PL_assignBest 57 = .ok (.lmul, 1) := by decide +kernel
theorem d_PL_assignBest_58 : decode b_PL_assignBest 58 = .ok (.lstore 5, 2) := by decide +kernel
theorem d_PL_assignBest_60 : decode b_PL_assignBest 60 = .ok (.iinc 7 (-1), 3) := by decide +kernel
theorem d_PL_assignBest_63 : decode b_PL_assignBest 63 = .ok (.goto (-42), 3) := by decide +kernel
theorem d_PL_assignBest_66 : decode b_PL_assignBest 66 = .ok (.aload_n 0, 1) := by decide +kernel
theorem d_PL_assignBest_67 : decode b_PL_assignBest 67 = .ok (.getfield 16, 3) := by decide +kernel
theorem d_PL_assignBest_70 : decode b_PL_assignBest 70 = .ok (.iconst 0, 1) := by decide +kernel
theorem d_PL_assignBest_71 : decode b_PL_assignBest 71 = .ok (.iconst 1, 1) := by decide +kernel
theorem d_PL_assignBest_72 : decode b_PL_assignBest 72 = .ok (.bipush 12, 2) := by decide +kernel
theorem d_PL_assignBest_74 : decode b_PL_assignBest 74 = .ok (.invokevirtual 36, 3) := by decide +kernel
theorem d_PL_assignBest_77 : decode b_PL_assignBest 77 = .ok (.ireturn, 1) := by decide +kernel
theorem d_PL_fewestAdded_0 : decode b_PL_fewestAdded 0 = .ok (.aload_n 0, 1) := by decide +kernel
theorem d_PL_fewestAdded_1 : decode b_PL_fewestAdded 1 = .ok (.aload_n 1, 1) := by decide +kernel
theorem d_PL_fewestAdded_2 : decode b_PL_fewestAdded 2 = .ok (.invokevirtual 20, 3) := by decide +kernel
theorem d_PL_fewestAdded_5 : decode b_PL_fewestAdded 5 = .ok (.aload_n 0, 1) := by decide +kernel
theorem d_PL_fewestAdded_6 : decode b_PL_fewestAdded 6 = .ok (.aload_n 2, 1) := by decide +kernel
theorem d_PL_fewestAdded_7 : decode b_PL_fewestAdded 7 = .ok (.invokevirtual 24, 3) := by decide +kernel
theorem d_PL_fewestAdded_10 : decode b_PL_fewestAdded 10 = .ok (.iconst 0, 1) := by decide +kernel
theorem d_PL_fewestAdded_11 : decode b_PL_fewestAdded 11 = .ok (.istore 5, 2) := by decide +kernel
theorem d_PL_fewestAdded_13 : decode b_PL_fewestAdded 13 = .ok (.iload 5, 2) := by decide +kernel
theorem d_PL_fewestAdded_15 : decode b_PL_fewestAdded 15 = .ok (.aload_n 1, 1) := by decide +kernel
theorem d_PL_fewestAdded_16 : decode b_PL_fewestAdded 16 = .ok (.getfield 40, 3) := by decide +kernel
theorem d_PL_fewestAdded_19 : decode b_PL_fewestAdded 19 = .ok (.if_icmp .ge 45, 3) := by decide +kernel
theorem d_PL_fewestAdded_22 : decode b_PL_fewestAdded 22 = .ok (.iload_n 3, 1) := by decide +kernel
theorem d_PL_fewestAdded_23 : decode b_PL_fewestAdded 23 = .ok (.iload 4, 2) := by decide +kernel
theorem d_PL_fewestAdded_25 : decode b_PL_fewestAdded 25 = .ok (.ior, 1) := by decide +kernel
theorem d_PL_fewestAdded_26 : decode b_PL_fewestAdded 26 = .ok (.iload 5, 2) := by decide +kernel
theorem d_PL_fewestAdded_28 : decode b_PL_fewestAdded 28 = .ok (.invokestatic 28, 3) := by decide +kernel
theorem d_PL_fewestAdded_31 : decode b_PL_fewestAdded 31 = .ok (.ifCond .eq 27, 3) := by decide +kernel
theorem d_PL_fewestAdded_34 : decode b_PL_fewestAdded 34 = .ok (.aload_n 0, 1) := by decide +kernel
theorem d_PL_fewestAdded_35 : decode b_PL_fewestAdded 35 = .ok (.aload_n 1, 1) := by decide +kernel
theorem d_PL_fewestAdded_36 : decode b_PL_fewestAdded 36 = .ok (.aload_n 2, 1) := by decide +kernel
theorem d_PL_fewestAdded_37 : decode b_PL_fewestAdded 37 = .ok (.iload 5, 2) := by decide +kernel
theorem d_PL_fewestAdded_39 : decode b_PL_fewestAdded 39 = .ok (.iload 4, 2) := by decide +kernel
theorem d_PL_fewestAdded_41 : decode b_PL_fewestAdded 41 = .ok (.iload 5, 2) := by decide +kernel
theorem d_PL_fewestAdded_43 : decode b_PL_fewestAdded 43 = .ok (.invokestatic 28, 3) := by decide +kernel
theorem d_PL_fewestAdded_46 : decode b_PL_fewestAdded 46 = .ok (.ifCond .eq 7, 3) := by decide +kernel
theorem d_PL_fewestAdded_49 : decode b_PL_fewestAdded 49 = .ok (.lconst 1, 1) := by decide +kernel
theorem d_PL_fewestAdded_50 : decode b_PL_fewestAdded 50 = .ok (.goto 4, 3) := by decide +kernel
theorem d_PL_fewestAdded_53 : decode b_PL_fewestAdded 53 = .ok (.lconst 0, 1) := by decide +kernel
theorem d_PL_fewestAdded_54 : decode b_PL_fewestAdded 54 = .ok (.lconst 0, 1) := by decide +kernel
theorem d_PL_fewestAdded_55 : decode b_PL_fewestAdded 55 = .ok (.invokevirtual 32, 3) := by decide +kernel
theorem d_PL_fewestAdded_58 : decode b_PL_fewestAdded 58 = .ok (.iinc 5 1, 3) := by decide +kernel
theorem d_PL_fewestAdded_61 : decode b_PL_fewestAdded 61 = .ok (.goto (-48), 3) := by decide +kernel
theorem d_PL_fewestAdded_64 : decode b_PL_fewestAdded 64 = .ok (.aload_n 0, 1) := by decide +kernel
theorem d_PL_fewestAdded_65 : decode b_PL_fewestAdded 65 = .ok (.getfield 16, 3) := by decide +kernel
theorem d_PL_fewestAdded_68 : decode b_PL_fewestAdded 68 = .ok (.iconst 0, 1) := by decide +kernel
theorem d_PL_fewestAdded_69 : decode b_PL_fewestAdded 69 = .ok (.iconst 1, 1) := by decide +kernel
theorem d_PL_fewestAdded_70 : decode b_PL_fewestAdded 70 = .ok (.bipush 12, 2) := by decide +kernel
theorem d_PL_fewestAdded_72 : decode b_PL_fewestAdded 72 = .ok (.invokevirtual 36, 3) := by decide +kernel
theorem d_PL_fewestAdded_75 : decode b_PL_fewestAdded 75 = .ok (.istore 5, 2) := by decide +kernel
theorem d_PL_fewestAdded_77 : decode b_PL_fewestAdded 77 = .ok (.iload 5, 2) := by decide +kernel
theorem d_PL_fewestAdded_79 : decode b_PL_fewestAdded 79 = .ok (.aload_n 2, 1) := by decide +kernel
theorem d_PL_fewestAdded_80 : decode b_PL_fewestAdded 80 = .ok (.aload_n 2, 1) := by decide +kernel
theorem d_PL_fewestAdded_81 : decode b_PL_fewestAdded 81 = .ok (.invokevirtual 46, 3) := by decide +kernel
theorem d_PL_fewestAdded_84 : decode b_PL_fewestAdded 84 = .ok (.invokevirtual 52, 3) := by decide +kernel
theorem d_PL_fewestAdded_87 : decode b_PL_fewestAdded 87 = .ok (.if_icmp .ne 14, 3) := by decide +kernel
theorem d_PL_fewestAdded_90 : decode b_PL_fewestAdded 90 = .ok (.aload_n 0, 1) := by decide +kernel
theorem d_PL_fewestAdded_91 : decode b_PL_fewestAdded 91 = .ok (.getfield 16, 3) := by decide +kernel
theorem d_PL_fewestAdded_94 : decode b_PL_fewestAdded 94 = .ok (.getfield 56, 3) := by decide +kernel
theorem d_PL_fewestAdded_97 : decode b_PL_fewestAdded 97 = .ok (.l2i, 1) := by decide +kernel
theorem d_PL_fewestAdded_98 : decode b_PL_fewestAdded 98 = .ok (.goto 4, 3) := by decide +kernel
theorem d_PL_fewestAdded_101 : decode b_PL_fewestAdded 101 = .ok (.iconst (-1), 1) := by decide +kernel
theorem d_PL_fewestAdded_102 : decode b_PL_fewestAdded 102 = .ok (.ireturn, 1) := by decide +kernel
theorem d_PL_writeAssignment_0 : decode b_PL_writeAssignment 0 = .ok (.aload_n 1, 1) := by decide +kernel
theorem d_PL_writeAssignment_1 : decode b_PL_writeAssignment 1 = .ok (.iconst 0, 1) := by decide +kernel
theorem d_PL_writeAssignment_2 : decode b_PL_writeAssignment 2 = .ok (.invokestatic 60, 3) := by decide +kernel
theorem d_PL_writeAssignment_5 : decode b_PL_writeAssignment 5 = .ok (.iconst 0, 1) := by decide +kernel
theorem d_PL_writeAssignment_6 : decode b_PL_writeAssignment 6 = .ok (.istore_n 2, 1) := by decide +kernel
theorem d_PL_writeAssignment_7 : decode b_PL_writeAssignment 7 = .ok (.iload_n 2, 1) := by decide +kernel
theorem d_PL_writeAssignment_8 : decode b_PL_writeAssignment 8 = .ok (.aload_n 0, 1) := by decide +kernel
theorem d_PL_writeAssignment_9 : decode b_PL_writeAssignment 9 = .ok (.getfield 16, 3) := by decide +kernel
theorem d_PL_writeAssignment_12 : decode b_PL_writeAssignment 12 = .ok (.getfield 66, 3) := by decide +kernel
theorem d_PL_writeAssignment_15 : decode b_PL_writeAssignment 15 = .ok (.if_icmp .ge 61, 3) := by decide +kernel
theorem d_PL_writeAssignment_18 : decode b_PL_writeAssignment 18 = .ok (.aload_n 0, 1) := by decide +kernel
theorem d_PL_writeAssignment_19 : decode b_PL_writeAssignment 19 = .ok (.getfield 16, 3) := by decide +kernel
theorem d_PL_writeAssignment_22 : decode b_PL_writeAssignment 22 = .ok (.getfield 69, 3) := by decide +kernel
theorem d_PL_writeAssignment_25 : decode b_PL_writeAssignment 25 = .ok (.iload_n 2, 1) := by decide +kernel
theorem d_PL_writeAssignment_26 : decode b_PL_writeAssignment 26 = .ok (.iaload, 1) := by decide +kernel
theorem d_PL_writeAssignment_27 : decode b_PL_writeAssignment 27 = .ok (.bipush 19, 2) := by decide +kernel
theorem d_PL_writeAssignment_29 : decode b_PL_writeAssignment 29 = .ok (.if_icmp .le 41, 3) := by decide +kernel
theorem d_PL_writeAssignment_32 : decode b_PL_writeAssignment 32 = .ok (.aload_n 0, 1) := by decide +kernel
theorem d_PL_writeAssignment_33 : decode b_PL_writeAssignment 33 = .ok (.getfield 16, 3) := by decide +kernel
theorem d_PL_writeAssignment_36 : decode b_PL_writeAssignment 36 = .ok (.getfield 73, 3) := by decide +kernel
theorem d_PL_writeAssignment_39 : decode b_PL_writeAssignment 39 = .ok (.iload_n 2, 1) := by decide +kernel
theorem d_PL_writeAssignment_40 : decode b_PL_writeAssignment 40 = .ok (.iaload, 1) := by decide +kernel
theorem d_PL_writeAssignment_41 : decode b_PL_writeAssignment 41 = .ok (.ifCond .ne 29, 3) := by decide +kernel
theorem d_PL_writeAssignment_44 : decode b_PL_writeAssignment 44 = .ok (.aload_n 1, 1) := by decide +kernel
theorem d_PL_writeAssignment_45 : decode b_PL_writeAssignment 45 = .ok (.aload_n 0, 1) := by decide +kernel
theorem d_PL_writeAssignment_46 : decode b_PL_writeAssignment 46 = .ok (.getfield 16, 3) := by decide +kernel
theorem d_PL_writeAssignment_49 : decode b_PL_writeAssignment 49 = .ok (.getfield 76, 3) := by decide +kernel
theorem d_PL_writeAssignment_52 : decode b_PL_writeAssignment 52 = .ok (.iload_n 2, 1) := by decide +kernel
theorem d_PL_writeAssignment_53 : decode b_PL_writeAssignment 53 = .ok (.iaload, 1) := by decide +kernel
theorem d_PL_writeAssignment_54 : decode b_PL_writeAssignment 54 = .ok (.bipush 8, 2) := by decide +kernel
theorem d_PL_writeAssignment_56 : decode b_PL_writeAssignment 56 = .ok (.isub, 1) := by decide +kernel
theorem d_PL_writeAssignment_57 : decode b_PL_writeAssignment 57 = .ok (.aload_n 0, 1) := by decide +kernel
theorem d_PL_writeAssignment_58 : decode b_PL_writeAssignment 58 = .ok (.getfield 16, 3) := by decide +kernel
theorem d_PL_writeAssignment_61 : decode b_PL_writeAssignment 61 = .ok (.getfield 69, 3) := by decide +kernel
theorem d_PL_writeAssignment_64 : decode b_PL_writeAssignment 64 = .ok (.iload_n 2, 1) := by decide +kernel
theorem d_PL_writeAssignment_65 : decode b_PL_writeAssignment 65 = .ok (.iaload, 1) := by decide +kernel
theorem d_PL_writeAssignment_66 : decode b_PL_writeAssignment 66 = .ok (.bipush 19, 2) := by decide +kernel
theorem d_PL_writeAssignment_68 : decode b_PL_writeAssignment 68 = .ok (.isub, 1) := by decide +kernel
theorem d_PL_writeAssignment_69 : decode b_PL_writeAssignment 69 = .ok (.iastore, 1) := by decide +kernel
theorem d_PL_writeAssignment_70 : decode b_PL_writeAssignment 70 = .ok (.iinc 2 2, 3) := by decide +kernel
theorem d_PL_writeAssignment_73 : decode b_PL_writeAssignment 73 = .ok (.goto (-66), 3) := by decide +kernel
theorem d_PL_writeAssignment_76 : decode b_PL_writeAssignment 76 = .ok (.return_, 1) := by decide +kernel
theorem d_PL_layTree_0 : decode b_PL_layTree 0 = .ok (.aload_n 0, 1) := by decide +kernel
theorem d_PL_layTree_1 : decode b_PL_layTree 1 = .ok (.getfield 16, 3) := by decide +kernel
theorem d_PL_layTree_4 : decode b_PL_layTree 4 = .ok (.invokevirtual 79, 3) := by decide +kernel
theorem d_PL_layTree_7 : decode b_PL_layTree 7 = .ok (.iconst 0, 1) := by decide +kernel
theorem d_PL_layTree_8 : decode b_PL_layTree 8 = .ok (.istore_n 2, 1) := by decide +kernel
theorem d_PL_layTree_9 : decode b_PL_layTree 9 = .ok (.iload_n 2, 1) := by decide +kernel
theorem d_PL_layTree_10 : decode b_PL_layTree 10 = .ok (.aload_n 1, 1) := by decide +kernel
theorem d_PL_layTree_11 : decode b_PL_layTree 11 = .ok (.getfield 82, 3) := by decide +kernel
theorem d_PL_layTree_14 : decode b_PL_layTree 14 = .ok (.if_icmp .ge 43, 3) := by decide +kernel
theorem d_PL_layTree_17 : decode b_PL_layTree 17 = .ok (.iload_n 2, 1) := by decide +kernel
theorem d_PL_layTree_18 : decode b_PL_layTree 18 = .ok (.ifCond .ne 7, 3) := by decide +kernel
theorem d_PL_layTree_21 : decode b_PL_layTree 21 = .ok (.iconst 0, 1) := by decide +kernel
theorem d_PL_layTree_22 : decode b_PL_layTree 22 = .ok (.goto 11, 3) := by decide +kernel
theorem d_PL_layTree_25 : decode b_PL_layTree 25 = .ok (.iconst 2, 1) := by decide +kernel
theorem d_PL_layTree_26 : decode b_PL_layTree 26 = .ok (.aload_n 1, 1) := by decide +kernel
theorem d_PL_layTree_27 : decode b_PL_layTree 27 = .ok (.getfield 85, 3) := by decide +kernel
theorem d_PL_layTree_30 : decode b_PL_layTree 30 = .ok (.iload_n 2, 1) := by decide +kernel
theorem d_PL_layTree_31 : decode b_PL_layTree 31 = .ok (.iaload, 1) := by decide +kernel
theorem d_PL_layTree_32 : decode b_PL_layTree 32 = .ok (.iadd, 1) := by decide +kernel
theorem d_PL_layTree_33 : decode b_PL_layTree 33 = .ok (.istore_n 3, 1) := by decide +kernel
theorem d_PL_layTree_34 : decode b_PL_layTree 34 = .ok (.aload_n 0, 1) := by decide +kernel
theorem d_PL_layTree_35 : decode b_PL_layTree 35 = .ok (.getfield 16, 3) := by decide +kernel
theorem d_PL_layTree_38 : decode b_PL_layTree 38 = .ok (.iload_n 3, 1) := by decide +kernel
theorem d_PL_layTree_39 : decode b_PL_layTree 39 = .ok (.iconst 2, 1) := by decide +kernel
theorem d_PL_layTree_40 : decode b_PL_layTree 40 = .ok (.iload_n 2, 1) := by decide +kernel
theorem d_PL_layTree_41 : decode b_PL_layTree 41 = .ok (.iadd, 1) := by decide +kernel
theorem d_PL_layTree_42 : decode b_PL_layTree 42 = .ok (.aload_n 1, 1) := by decide +kernel
theorem d_PL_layTree_43 : decode b_PL_layTree 43 = .ok (.iload_n 2, 1) := by decide +kernel
theorem d_PL_layTree_44 : decode b_PL_layTree 44 = .ok (.invokevirtual 88, 3) := by decide +kernel
theorem d_PL_layTree_47 : decode b_PL_layTree 47 = .ok (.lconst 0, 1) := by decide +kernel
theorem d_PL_layTree_48 : decode b_PL_layTree 48 = .ok (.invokevirtual 90, 3) := by decide +kernel
theorem d_PL_layTree_51 : decode b_PL_layTree 51 = .ok (.iinc 2 1, 3) := by decide +kernel
theorem d_PL_layTree_54 : decode b_PL_layTree 54 = .ok (.goto (-45), 3) := by decide +kernel
theorem d_PL_layTree_57 : decode b_PL_layTree 57 = .ok (.return_, 1) := by decide +kernel
theorem d_PL_layRequirements_0 : decode b_PL_layRequirements 0 = .ok (.iconst 1, 1) := by decide +kernel
theorem d_PL_layRequirements_1 : decode b_PL_layRequirements 1 = .ok (.istore_n 2, 1) := by decide +kernel
theorem d_PL_layRequirements_2 : decode b_PL_layRequirements 2 = .ok (.iload_n 2, 1) := by decide +kernel
theorem d_PL_layRequirements_3 : decode b_PL_layRequirements 3 = .ok (.aload_n 1, 1) := by decide +kernel
theorem d_PL_layRequirements_4 : decode b_PL_layRequirements 4 = .ok (.getfield 94, 3) := by decide +kernel
theorem d_PL_layRequirements_7 : decode b_PL_layRequirements 7 = .ok (.if_icmp .gt 28, 3) := by decide +kernel
theorem d_PL_layRequirements_10 : decode b_PL_layRequirements 10 = .ok (.aload_n 0, 1) := by decide +kernel
theorem d_PL_layRequirements_11 : decode b_PL_layRequirements 11 = .ok (.getfield 16, 3) := by decide +kernel
theorem d_PL_layRequirements_14 : decode b_PL_layRequirements 14 = .ok (.bipush 19, 2) := by decide +kernel
theorem d_PL_layRequirements_16 : decode b_PL_layRequirements 16 = .ok (.iload_n 2, 1) := by decide +kernel
theorem d_PL_layRequirements_17 : decode b_PL_layRequirements 17 = .ok (.iadd, 1) := by decide +kernel
theorem d_PL_layRequirements_18 : decode b_PL_layRequirements 18 = .ok (.iconst 1, 1) := by decide +kernel
theorem d_PL_layRequirements_19 : decode b_PL_layRequirements 19 = .ok (.aload_n 1, 1) := by decide +kernel
theorem d_PL_layRequirements_20 : decode b_PL_layRequirements 20 = .ok (.getfield 97, 3) := by decide +kernel
theorem d_PL_layRequirements_23 : decode b_PL_layRequirements 23 = .ok (.iload_n 2, 1) := by decide +kernel
theorem d_PL_layRequirements_24 : decode b_PL_layRequirements 24 = .ok (.iaload, 1) := by decide +kernel
theorem d_PL_layRequirements_25 : decode b_PL_layRequirements 25 = .ok (.lconst 0, 1) := by decide +kernel
theorem d_PL_layRequirements_26 : decode b_PL_layRequirements 26 = .ok (.invokevirtual 90, 3) := by decide +kernel
theorem d_PL_layRequirements_29 : decode b_PL_layRequirements 29 = .ok (.iinc 2 1, 3) := by decide +kernel
theorem d_PL_layRequirements_32 : decode b_PL_layRequirements 32 = .ok (.goto (-30), 3) := by decide +kernel
theorem d_PL_layRequirements_35 : decode b_PL_layRequirements 35 = .ok (.return_, 1) := by decide +kernel
theorem d_PL_layCourse_0 : decode b_PL_layCourse 0 = .ok (.aload_n 0, 1) := by decide +kernel
theorem d_PL_layCourse_1 : decode b_PL_layCourse 1 = .ok (.getfield 16, 3) := by decide +kernel
theorem d_PL_layCourse_4 : decode b_PL_layCourse 4 = .ok (.iconst 2, 1) := by decide +kernel
theorem d_PL_layCourse_5 : decode b_PL_layCourse 5 = .ok (.aload_n 1, 1) := by decide +kernel
theorem d_PL_layCourse_6 : decode b_PL_layCourse 6 = .ok (.getfield 100, 3) := by decide +kernel
theorem d_PL_layCourse_9 : decode b_PL_layCourse 9 = .ok (.iload_n 3, 1) := by decide +kernel
theorem d_PL_layCourse_10 : decode b_PL_layCourse 10 = .ok (.iaload, 1) := by decide +kernel
theorem d_PL_layCourse_11 : decode b_PL_layCourse 11 = .ok (.iadd, 1) := by decide +kernel
theorem d_PL_layCourse_12 : decode b_PL_layCourse 12 = .ok (.bipush 8, 2) := by decide +kernel
theorem d_PL_layCourse_14 : decode b_PL_layCourse 14 = .ok (.iload_n 3, 1) := by decide +kernel
theorem d_PL_layCourse_15 : decode b_PL_layCourse 15 = .ok (.iadd, 1) := by decide +kernel
theorem d_PL_layCourse_16 : decode b_PL_layCourse 16 = .ok (.iconst 1, 1) := by decide +kernel
theorem d_PL_layCourse_17 : decode b_PL_layCourse 17 = .ok (.lconst 0, 1) := by decide +kernel
theorem d_PL_layCourse_18 : decode b_PL_layCourse 18 = .ok (.invokevirtual 90, 3) := by decide +kernel
theorem d_PL_layCourse_21 : decode b_PL_layCourse 21 = .ok (.iconst 1, 1) := by decide +kernel
theorem d_PL_layCourse_22 : decode b_PL_layCourse 22 = .ok (.istore 8, 2) := by decide +kernel
theorem d_PL_layCourse_24 : decode b_PL_layCourse 24 = .ok (.iload 8, 2) := by decide +kernel
theorem d_PL_layCourse_26 : decode b_PL_layCourse 26 = .ok (.aload_n 2, 1) := by decide +kernel
theorem d_PL_layCourse_27 : decode b_PL_layCourse 27 = .ok (.getfield 94, 3) := by decide +kernel
theorem d_PL_layCourse_30 : decode b_PL_layCourse 30 = .ok (.if_icmp .gt 49, 3) := by decide +kernel
theorem d_PL_layCourse_33 : decode b_PL_layCourse 33 = .ok (.aload_n 2, 1) := by decide +kernel
theorem d_PL_layCourse_34 : decode b_PL_layCourse 34 = .ok (.getfield 103, 3) := by decide +kernel
theorem d_PL_layCourse_37 : decode b_PL_layCourse 37 = .ok (.iload 8, 2) := by decide +kernel
theorem d_PL_layCourse_39 : decode b_PL_layCourse 39 = .ok (.iaload, 1) := by decide +kernel
theorem d_PL_layCourse_40 : decode b_PL_layCourse 40 = .ok (.iload_n 3, 1) := by decide +kernel
theorem d_PL_layCourse_41 : decode b_PL_layCourse 41 = .ok (.invokestatic 28, 3) := by decide +kernel
theorem d_PL_layCourse_44 : decode b_PL_layCourse 44 = .ok (.ifCond .eq 29, 3) := by decide +kernel
theorem d_PL_layCourse_47 : decode b_PL_layCourse 47 = .ok (.aload_n 0, 1) := by decide +kernel
theorem d_PL_layCourse_48 : decode b_PL_layCourse 48 = .ok (.getfield 16, 3) := by decide +kernel
theorem d_PL_layCourse_51 : decode b_PL_layCourse 51 = .ok (.bipush 8, 2) := by decide +kernel
theorem d_PL_layCourse_53 : decode b_PL_layCourse 53 = .ok (.iload_n 3, 1) := by decide +kernel
theorem d_PL_layCourse_54 : decode b_PL_layCourse 54 = .ok (.iadd, 1) := by decide +kernel
theorem d_PL_layCourse_55 : decode b_PL_layCourse 55 = .ok (.bipush 19, 2) := by decide +kernel
theorem d_PL_layCourse_57 : decode b_PL_layCourse 57 = .ok (.iload 8, 2) := by decide +kernel
theorem d_PL_layCourse_59 : decode b_PL_layCourse 59 = .ok (.iadd, 1) := by decide +kernel
theorem d_PL_layCourse_60 : decode b_PL_layCourse 60 = .ok (.iconst 1, 1) := by decide +kernel
theorem d_PL_layCourse_61 : decode b_PL_layCourse 61 = .ok (.lload 4, 2) := by decide +kernel
theorem d_PL_layCourse_63 : decode b_PL_layCourse 63 = .ok (.iload 8, 2) := by decide +kernel
theorem d_PL_layCourse_65 : decode b_PL_layCourse 65 = .ok (.i2l, 1) := by decide +kernel
theorem d_PL_layCourse_66 : decode b_PL_layCourse 66 = .ok (.lload 6, 2) := by decide +kernel
theorem d_PL_layCourse_68 : decode b_PL_layCourse 68 = .ok (.lmul, 1) := by decide +kernel
theorem d_PL_layCourse_69 : decode b_PL_layCourse 69 = .ok (.ladd, 1) := by decide +kernel
theorem d_PL_layCourse_70 : decode b_PL_layCourse 70 = .ok (.invokevirtual 90, 3) := by decide +kernel
theorem d_PL_layCourse_73 : decode b_PL_layCourse 73 = .ok (.iinc 8 1, 3) := by decide +kernel
theorem d_PL_layCourse_76 : decode b_PL_layCourse 76 = .ok (.goto (-52), 3) := by decide +kernel
theorem d_PL_layCourse_79 : decode b_PL_layCourse 79 = .ok (.return_, 1) := by decide +kernel
theorem d_PR_init_0 : decode b_PR_init 0 = .ok (.aload_n 0, 1) := by decide +kernel
theorem d_PR_init_1 : decode b_PR_init 1 = .ok (.invokespecial 3, 3) := by decide +kernel
theorem d_PR_init_4 : decode b_PR_init 4 = .ok (.aload_n 0, 1) := by decide +kernel
theorem d_PR_init_5 : decode b_PR_init 5 = .ok (.bipush 6, 2) := by decide +kernel
theorem d_PR_init_7 : decode b_PR_init 7 = .ok (.newarray .int, 2) := by decide +kernel
theorem d_PR_init_9 : decode b_PR_init 9 = .ok (.putfield 9, 3) := by decide +kernel
theorem d_PR_init_12 : decode b_PR_init 12 = .ok (.aload_n 0, 1) := by decide +kernel
theorem d_PR_init_13 : decode b_PR_init 13 = .ok (.bipush 6, 2) := by decide +kernel
theorem d_PR_init_15 : decode b_PR_init 15 = .ok (.newarray .int, 2) := by decide +kernel
theorem d_PR_init_17 : decode b_PR_init 17 = .ok (.putfield 15, 3) := by decide +kernel
theorem d_PR_init_20 : decode b_PR_init 20 = .ok (.return_, 1) := by decide +kernel
theorem d_PR_addRequirement_0 : decode b_PR_addRequirement 0 = .ok (.aload_n 0, 1) := by decide +kernel
theorem d_PR_addRequirement_1 : decode b_PR_addRequirement 1 = .ok (.dup, 1) := by decide +kernel
theorem d_PR_addRequirement_2 : decode b_PR_addRequirement 2 = .ok (.getfield 18, 3) := by decide +kernel
theorem d_PR_addRequirement_5 : decode b_PR_addRequirement 5 = .ok (.iconst 1, 1) := by decide +kernel
theorem d_PR_addRequirement_6 : decode b_PR_addRequirement 6 = .ok (.iadd, 1) := by decide +kernel
theorem d_PR_addRequirement_7 : decode b_PR_addRequirement 7 = .ok (.putfield 18, 3) := by decide +kernel
theorem d_PR_addRequirement_10 : decode b_PR_addRequirement 10 = .ok (.aload_n 0, 1) := by decide +kernel
theorem d_PR_addRequirement_11 : decode b_PR_addRequirement 11 = .ok (.getfield 9, 3) := by decide +kernel
theorem d_PR_addRequirement_14 : decode b_PR_addRequirement 14 = .ok (.aload_n 0, 1) := by decide +kernel
theorem d_PR_addRequirement_15 : decode b_PR_addRequirement 15 = .ok (.getfield 18, 3) := by decide +kernel
theorem d_PR_addRequirement_18 : decode b_PR_addRequirement 18 = .ok (.iload_n 1, 1) := by decide +kernel
theorem d_PR_addRequirement_19 : decode b_PR_addRequirement 19 = .ok (.iastore, 1) := by decide +kernel
theorem d_PR_addRequirement_20 : decode b_PR_addRequirement 20 = .ok (.aload_n 0, 1) := by decide +kernel
theorem d_PR_addRequirement_21 : decode b_PR_addRequirement 21 = .ok (.getfield 18, 3) := by decide +kernel
theorem d_PR_addRequirement_24 : decode b_PR_addRequirement 24 = .ok (.ireturn, 1) := by decide +kernel
theorem d_RE_init_0 : decode b_RE_init 0 = .ok (.aload_n 0, 1) := by decide +kernel
theorem d_RE_init_1 : decode b_RE_init 1 = .ok (.invokespecial 3, 3) := by decide +kernel
theorem d_RE_init_4 : decode b_RE_init 4 = .ok (.aload_n 0, 1) := by decide +kernel
theorem d_RE_init_5 : decode b_RE_init 5 = .ok (.bipush 12, 2) := by decide +kernel
theorem d_RE_init_7 : decode b_RE_init 7 = .ok (.newarray .int, 2) := by decide +kernel
theorem d_RE_init_9 : decode b_RE_init 9 = .ok (.putfield 9, 3) := by decide +kernel
theorem d_RE_init_12 : decode b_RE_init 12 = .ok (.return_, 1) := by decide +kernel
theorem d_RE_findUnmet_0 : decode b_RE_findUnmet 0 = .ok (.aload_n 0, 1) := by decide +kernel
theorem d_RE_findUnmet_1 : decode b_RE_findUnmet 1 = .ok (.iconst 0, 1) := by decide +kernel
theorem d_RE_findUnmet_2 : decode b_RE_findUnmet 2 = .ok (.putfield 15, 3) := by decide +kernel
theorem d_RE_findUnmet_5 : decode b_RE_findUnmet 5 = .ok (.aload_n 0, 1) := by decide +kernel
theorem d_RE_findUnmet_6 : decode b_RE_findUnmet 6 = .ok (.iconst 0, 1) := by decide +kernel
theorem d_RE_findUnmet_7 : decode b_RE_findUnmet 7 = .ok (.putfield 19, 3) := by decide +kernel
theorem d_RE_findUnmet_10 : decode b_RE_findUnmet 10 = .ok (.aload_n 0, 1) := by decide +kernel
theorem d_RE_findUnmet_11 : decode b_RE_findUnmet 11 = .ok (.iconst 0, 1) := by decide +kernel
theorem d_RE_findUnmet_12 : decode b_RE_findUnmet 12 = .ok (.putfield 22, 3) := by decide +kernel
theorem d_RE_findUnmet_15 : decode b_RE_findUnmet 15 = .ok (.iconst 2, 1) := by decide +kernel
theorem d_RE_findUnmet_16 : decode b_RE_findUnmet 16 = .ok (.istore 4, 2) := by decide +kernel
theorem d_RE_findUnmet_18 : decode b_RE_findUnmet 18 = .ok (.iload 4, 2) := by decide +kernel
theorem d_RE_findUnmet_20 : decode b_RE_findUnmet 20 = .ok (.aload_n 2, 1) := by decide +kernel
theorem d_RE_findUnmet_21 : decode b_RE_findUnmet 21 = .ok (.invokevirtual 25, 3) := by decide +kernel
theorem d_RE_findUnmet_24 : decode b_RE_findUnmet 24 = .ok (.if_icmp .gt 63, 3) := by decide +kernel
theorem d_RE_findUnmet_27 : decode b_RE_findUnmet 27 = .ok (.aload_n 2, 1) := by decide +kernel
theorem d_RE_findUnmet_28 : decode b_RE_findUnmet 28 = .ok (.iload 4, 2) := by decide +kernel
theorem d_RE_findUnmet_30 : decode b_RE_findUnmet 30 = .ok (.invokevirtual 31, 3) := by decide +kernel
theorem d_RE_findUnmet_33 : decode b_RE_findUnmet 33 = .ok (.istore 5, 2) := by decide +kernel
theorem d_RE_findUnmet_35 : decode b_RE_findUnmet 35 = .ok (.aload_n 1, 1) := by decide +kernel
theorem d_RE_findUnmet_36 : decode b_RE_findUnmet 36 = .ok (.iload_n 3, 1) := by decide +kernel
theorem d_RE_findUnmet_37 : decode b_RE_findUnmet 37 = .ok (.aload_n 2, 1) := by decide +kernel
theorem d_RE_findUnmet_38 : decode b_RE_findUnmet 38 = .ok (.iload 4, 2) := by decide +kernel
theorem d_RE_findUnmet_40 : decode b_RE_findUnmet 40 = .ok (.invokevirtual 35, 3) := by decide +kernel
theorem d_RE_findUnmet_43 : decode b_RE_findUnmet 43 = .ok (.iand, 1) := by decide +kernel
theorem d_RE_findUnmet_44 : decode b_RE_findUnmet 44 = .ok (.invokevirtual 38, 3) := by decide +kernel
theorem d_RE_findUnmet_47 : decode b_RE_findUnmet 47 = .ok (.istore 6, 2) := by decide +kernel
theorem d_RE_findUnmet_49 : decode b_RE_findUnmet 49 = .ok (.aload_n 0, 1) := by decide +kernel
theorem d_RE_findUnmet_50 : decode b_RE_findUnmet 50 = .ok (.iload 4, 2) := by decide +kernel
theorem d_RE_findUnmet_52 : decode b_RE_findUnmet 52 = .ok (.iload 5, 2) := by decide +kernel
theorem d_RE_findUnmet_54 : decode b_RE_findUnmet 54 = .ok (.iload 6, 2) := by decide +kernel
theorem d_RE_findUnmet_56 : decode b_RE_findUnmet 56 = .ok (.isub, 1) := by decide +kernel
theorem d_RE_findUnmet_57 : decode b_RE_findUnmet 57 = .ok (.invokevirtual 43, 3) := by decide +kernel
theorem d_RE_findUnmet_60 : decode b_RE_findUnmet 60 = .ok (.ifCond .eq 21, 3) := by decide +kernel
theorem d_RE_findUnmet_63 : decode b_RE_findUnmet 63 = .ok (.aload_n 0, 1) := by decide +kernel
theorem d_RE_findUnmet_64 : decode b_RE_findUnmet 64 = .ok (.iload 4, 2) := by decide +kernel
theorem d_RE_findUnmet_66 : decode b_RE_findUnmet 66 = .ok (.putfield 15, 3) := by decide +kernel
theorem d_RE_findUnmet_69 : decode b_RE_findUnmet 69 = .ok (.aload_n 0, 1) := by decide +kernel
theorem d_RE_findUnmet_70 : decode b_RE_findUnmet 70 = .ok (.iload 5, 2) := by decide +kernel
theorem d_RE_findUnmet_72 : decode b_RE_findUnmet 72 = .ok (.putfield 19, 3) := by decide +kernel
theorem d_RE_findUnmet_75 : decode b_RE_findUnmet 75 = .ok (.aload_n 0, 1) := by decide +kernel
theorem d_RE_findUnmet_76 : decode b_RE_findUnmet 76 = .ok (.iload 6, 2) := by decide +kernel
theorem d_RE_findUnmet_78 : decode b_RE_findUnmet 78 = .ok (.putfield 22, 3) := by decide +kernel
theorem d_RE_findUnmet_81 : decode b_RE_findUnmet 81 = .ok (.iinc 4 2, 3) := by decide +kernel
theorem d_RE_findUnmet_84 : decode b_RE_findUnmet 84 = .ok (.goto (-66), 3) := by decide +kernel
theorem d_RE_findUnmet_87 : decode b_RE_findUnmet 87 = .ok (.return_, 1) := by decide +kernel
theorem d_RE_isMoreUnmet_0 : decode b_RE_isMoreUnmet 0 = .ok (.aload_n 0, 1) := by decide +kernel
theorem d_RE_isMoreUnmet_1 : decode b_RE_isMoreUnmet 1 = .ok (.getfield 19, 3) := by decide +kernel
theorem d_RE_isMoreUnmet_4 : decode b_RE_isMoreUnmet 4 = .ok (.aload_n 0, 1) := by decide +kernel
theorem d_RE_isMoreUnmet_5 : decode b_RE_isMoreUnmet 5 = .ok (.getfield 22, 3) := by decide +kernel
theorem d_RE_isMoreUnmet_8 : decode b_RE_isMoreUnmet 8 = .ok (.isub, 1) := by decide +kernel
theorem d_RE_isMoreUnmet_9 : decode b_RE_isMoreUnmet 9 = .ok (.istore_n 3, 1) := by decide +kernel
theorem d_RE_isMoreUnmet_10 : decode b_RE_isMoreUnmet 10 = .ok (.iload_n 2, 1) := by decide +kernel
theorem d_RE_isMoreUnmet_11 : decode b_RE_isMoreUnmet 11 = .ok (.iload_n 3, 1) := by decide +kernel
theorem d_RE_isMoreUnmet_12 : decode b_RE_isMoreUnmet 12 = .ok (.if_icmp .gt 22, 3) := by decide +kernel
theorem d_RE_isMoreUnmet_15 : decode b_RE_isMoreUnmet 15 = .ok (.iload_n 2, 1) := by decide +kernel
theorem d_RE_isMoreUnmet_16 : decode b_RE_isMoreUnmet 16 = .ok (.iload_n 3, 1) := by decide +kernel
theorem d_RE_isMoreUnmet_17 : decode b_RE_isMoreUnmet 17 = .ok (.if_icmp .ne 21, 3) := by decide +kernel
theorem d_RE_isMoreUnmet_20 : decode b_RE_isMoreUnmet 20 = .ok (.iload_n 1, 1) := by decide +kernel
theorem d_RE_isMoreUnmet_21 : decode b_RE_isMoreUnmet 21 = .ok (.invokestatic 47, 3) := by decide +kernel
theorem d_RE_isMoreUnmet_24 : decode b_RE_isMoreUnmet 24 = .ok (.aload_n 0, 1) := by decide +kernel
theorem d_RE_isMoreUnmet_25 : decode b_RE_isMoreUnmet 25 = .ok (.getfield 15, 3) := by decide +kernel
theorem d_RE_isMoreUnmet_28 : decode b_RE_isMoreUnmet 28 = .ok (.invokestatic 47, 3) := by decide +kernel
theorem d_RE_isMoreUnmet_31 : decode b_RE_isMoreUnmet 31 = .ok (.if_icmp .ge 7, 3) := by decide +kernel
theorem d_RE_isMoreUnmet_34 : decode b_RE_isMoreUnmet 34 = .ok (.iconst 1, 1) := by decide +kernel
theorem d_RE_isMoreUnmet_35 : decode b_RE_isMoreUnmet 35 = .ok (.goto 4, 3) := by decide +kernel
theorem d_RE_isMoreUnmet_38 : decode b_RE_isMoreUnmet 38 = .ok (.iconst 0, 1) := by decide +kernel
theorem d_RE_isMoreUnmet_39 : decode b_RE_isMoreUnmet 39 = .ok (.ireturn, 1) := by decide +kernel
theorem d_RE_givenCourses_0 : decode b_RE_givenCourses 0 = .ok (.iconst 0, 1) := by decide +kernel
theorem d_RE_givenCourses_1 : decode b_RE_givenCourses 1 = .ok (.istore_n 1, 1) := by decide +kernel
theorem d_RE_givenCourses_2 : decode b_RE_givenCourses 2 = .ok (.iconst 0, 1) := by decide +kernel
theorem d_RE_givenCourses_3 : decode b_RE_givenCourses 3 = .ok (.istore_n 2, 1) := by decide +kernel
theorem d_RE_givenCourses_4 : decode b_RE_givenCourses 4 = .ok (.iload_n 2, 1) := by decide +kernel
theorem d_RE_givenCourses_5 : decode b_RE_givenCourses 5 = .ok (.bipush 12, 2) := by decide +kernel
theorem d_RE_givenCourses_7 : decode b_RE_givenCourses 7 = .ok (.if_icmp .ge 24, 3) := by decide +kernel
theorem d_RE_givenCourses_10 : decode b_RE_givenCourses 10 = .ok (.aload_n 0, 1) := by decide +kernel
theorem d_RE_givenCourses_11 : decode b_RE_givenCourses 11 = .ok (.getfield 9, 3) := by decide +kernel
theorem d_RE_givenCourses_14 : decode b_RE_givenCourses 14 = .ok (.iload_n 2, 1) := by decide +kernel
theorem d_RE_givenCourses_15 : decode b_RE_givenCourses 15 = .ok (.iaload, 1) := by decide +kernel
theorem d_RE_givenCourses_16 : decode b_RE_givenCourses 16 = .ok (.ifCond .eq 9, 3) := by decide +kernel
theorem d_RE_givenCourses_19 : decode b_RE_givenCourses 19 = .ok (.iload_n 1, 1) := by decide +kernel
theorem d_RE_givenCourses_20 : decode b_RE_givenCourses 20 = .ok (.iload_n 2, 1) := by decide +kernel
theorem d_RE_givenCourses_21 : decode b_RE_givenCourses 21 = .ok (.invokestatic 52, 3) := by decide +kernel
theorem d_RE_givenCourses_24 : decode b_RE_givenCourses 24 = .ok (.istore_n 1, 1) := by decide +kernel
theorem d_RE_givenCourses_25 : decode b_RE_givenCourses 25 = .ok (.iinc 2 1, 3) := by decide +kernel
theorem d_RE_givenCourses_28 : decode b_RE_givenCourses 28 = .ok (.goto (-24), 3) := by decide +kernel
theorem d_RE_givenCourses_31 : decode b_RE_givenCourses 31 = .ok (.iload_n 1, 1) := by decide +kernel
theorem d_RE_givenCourses_32 : decode b_RE_givenCourses 32 = .ok (.ireturn, 1) := by decide +kernel
theorem d_ST_init_0 : decode b_ST_init 0 = .ok (.aload_n 0, 1) := by decide +kernel
theorem d_ST_init_1 : decode b_ST_init 1 = .ok (.invokespecial 3, 3) := by decide +kernel
theorem d_ST_init_4 : decode b_ST_init 4 = .ok (.aload_n 0, 1) := by decide +kernel
theorem d_ST_init_5 : decode b_ST_init 5 = .ok (.iconst (-1), 1) := by decide +kernel
theorem d_ST_init_6 : decode b_ST_init 6 = .ok (.putfield 9, 3) := by decide +kernel
theorem d_ST_init_9 : decode b_ST_init 9 = .ok (.aload_n 0, 1) := by decide +kernel
theorem d_ST_init_10 : decode b_ST_init 10 = .ok (.bipush 12, 2) := by decide +kernel
theorem d_ST_init_12 : decode b_ST_init 12 = .ok (.newarray .int, 2) := by decide +kernel
theorem d_ST_init_14 : decode b_ST_init 14 = .ok (.putfield 15, 3) := by decide +kernel
theorem d_ST_init_17 : decode b_ST_init 17 = .ok (.aload_n 0, 1) := by decide +kernel
theorem d_ST_init_18 : decode b_ST_init 18 = .ok (.bipush 12, 2) := by decide +kernel
theorem d_ST_init_20 : decode b_ST_init 20 = .ok (.newarray .int, 2) := by decide +kernel
theorem d_ST_init_22 : decode b_ST_init 22 = .ok (.putfield 19, 3) := by decide +kernel
theorem d_ST_init_25 : decode b_ST_init 25 = .ok (.aload_n 0, 1) := by decide +kernel
theorem d_ST_init_26 : decode b_ST_init 26 = .ok (.bipush 6, 2) := by decide +kernel
theorem d_ST_init_28 : decode b_ST_init 28 = .ok (.newarray .int, 2) := by decide +kernel
theorem d_ST_init_30 : decode b_ST_init 30 = .ok (.putfield 22, 3) := by decide +kernel
theorem d_ST_init_33 : decode b_ST_init 33 = .ok (.aload_n 0, 1) := by decide +kernel
theorem d_ST_init_34 : decode b_ST_init 34 = .ok (.getfield 15, 3) := by decide +kernel
theorem d_ST_init_37 : decode b_ST_init 37 = .ok (.iconst (-1), 1) := by decide +kernel
theorem d_ST_init_38 : decode b_ST_init 38 = .ok (.invokestatic 25, 3) := by decide +kernel
theorem d_ST_init_41 : decode b_ST_init 41 = .ok (.return_, 1) := by decide +kernel
theorem d_ST_enter_0 : decode b_ST_enter 0 = .ok (.aload_n 0, 1) := by decide +kernel
theorem d_ST_enter_1 : decode b_ST_enter 1 = .ok (.iload_n 1, 1) := by decide +kernel
theorem d_ST_enter_2 : decode b_ST_enter 2 = .ok (.putfield 9, 3) := by decide +kernel
theorem d_ST_enter_5 : decode b_ST_enter 5 = .ok (.aload_n 0, 1) := by decide +kernel
theorem d_ST_enter_6 : decode b_ST_enter 6 = .ok (.getfield 22, 3) := by decide +kernel
theorem d_ST_enter_9 : decode b_ST_enter 9 = .ok (.iconst 0, 1) := by decide +kernel
theorem d_ST_enter_10 : decode b_ST_enter 10 = .ok (.invokestatic 25, 3) := by decide +kernel
theorem d_ST_enter_13 : decode b_ST_enter 13 = .ok (.return_, 1) := by decide +kernel
theorem d_ST_addPetition_0 : decode b_ST_addPetition 0 = .ok (.aload_n 0, 1) := by decide +kernel
theorem d_ST_addPetition_1 : decode b_ST_addPetition 1 = .ok (.getfield 19, 3) := by decide +kernel
theorem d_ST_addPetition_4 : decode b_ST_addPetition 4 = .ok (.iload_n 1, 1) := by decide +kernel
theorem d_ST_addPetition_5 : decode b_ST_addPetition 5 = .ok (.aload_n 0, 1) := by decide +kernel
theorem d_ST_addPetition_6 : decode b_ST_addPetition 6 = .ok (.getfield 19, 3) := by decide +kernel
theorem d_ST_addPetition_9 : decode b_ST_addPetition 9 = .ok (.iload_n 1, 1) := by decide +kernel
theorem d_ST_addPetition_10 : decode b_ST_addPetition 10 = .ok (.iaload, 1) := by decide +kernel
theorem d_ST_addPetition_11 : decode b_ST_addPetition 11 = .ok (.iload_n 2, 1) := by decide +kernel
theorem d_ST_addPetition_12 : decode b_ST_addPetition 12 = .ok (.invokestatic 31, 3) := by decide +kernel
theorem d_ST_addPetition_15 : decode b_ST_addPetition 15 = .ok (.iastore, 1) := by decide +kernel
theorem d_ST_addPetition_16 : decode b_ST_addPetition 16 = .ok (.aload_n 0, 1) := by decide +kernel
theorem d_ST_addPetition_17 : decode b_ST_addPetition 17 = .ok (.dup, 1) := by decide +kernel
theorem d_ST_addPetition_18 : decode b_ST_addPetition 18 = .ok (.getfield 35, 3) := by decide +kernel
theorem d_ST_addPetition_21 : decode b_ST_addPetition 21 = .ok (.iconst 1, 1) := by decide +kernel
theorem d_ST_addPetition_22 : decode b_ST_addPetition 22 = .ok (.iadd, 1) := by decide +kernel
theorem d_ST_addPetition_23 : decode b_ST_addPetition 23 = .ok (.putfield 35, 3) := by decide +kernel
theorem d_ST_addPetition_26 : decode b_ST_addPetition 26 = .ok (.return_, 1) := by decide +kernel
theorem d_ST_addExemption_0 : decode b_ST_addExemption 0 = .ok (.aload_n 0, 1) := by decide +kernel
theorem d_ST_addExemption_1 : decode b_ST_addExemption 1 = .ok (.getfield 22, 3) := by decide +kernel
theorem d_ST_addExemption_4 : decode b_ST_addExemption 4 = .ok (.iload_n 1, 1) := by decide +kernel
theorem d_ST_addExemption_5 : decode b_ST_addExemption 5 = .ok (.bipush 6, 2) := by decide +kernel
theorem d_ST_addExemption_7 : decode b_ST_addExemption 7 = .ok (.aload_n 0, 1) := by decide +kernel
theorem d_ST_addExemption_8 : decode b_ST_addExemption 8 = .ok (.getfield 22, 3) := by decide +kernel
theorem d_ST_addExemption_11 : decode b_ST_addExemption 11 = .ok (.iload_n 1, 1) := by decide +kernel
theorem d_ST_addExemption_12 : decode b_ST_addExemption 12 = .ok (.iaload, 1) := by decide +kernel
theorem d_ST_addExemption_13 : decode b_ST_addExemption 13 = .ok (.iload_n 2, 1) := by decide +kernel
theorem d_ST_addExemption_14 : decode b_ST_addExemption 14 = .ok (.iadd, 1) := by decide +kernel
theorem d_ST_addExemption_15 : decode b_ST_addExemption 15 = .ok (.invokestatic 38, 3) := by decide +kernel
theorem d_ST_addExemption_18 : decode b_ST_addExemption 18 = .ok (.iastore, 1) := by decide +kernel
theorem d_ST_addExemption_19 : decode b_ST_addExemption 19 = .ok (.return_, 1) := by decide +kernel
theorem d_ST_needOf_0 : decode b_ST_needOf 0 = .ok (.iconst 0, 1) := by decide +kernel
theorem d_ST_needOf_1 : decode b_ST_needOf 1 = .ok (.aload_n 1, 1) := by decide +kernel
theorem d_ST_needOf_2 : decode b_ST_needOf 2 = .ok (.getfield 43, 3) := by decide +kernel
theorem d_ST_needOf_5 : decode b_ST_needOf 5 = .ok (.iload_n 2, 1) := by decide +kernel
theorem d_ST_needOf_6 : decode b_ST_needOf 6 = .ok (.iaload, 1) := by decide +kernel
theorem d_ST_needOf_7 : decode b_ST_needOf 7 = .ok (.aload_n 0, 1) := by decide +kernel
theorem d_ST_needOf_8 : decode b_ST_needOf 8 = .ok (.getfield 22, 3) := by decide +kernel
theorem d_ST_needOf_11 : decode b_ST_needOf 11 = .ok (.iload_n 2, 1) := by decide +kernel
theorem d_ST_needOf_12 : decode b_ST_needOf 12 = .ok (.iaload, 1) := by decide +kernel
theorem d_ST_needOf_13 : decode b_ST_needOf 13 = .ok (.isub, 1) := by decide +kernel
theorem d_ST_needOf_14 : decode b_ST_needOf 14 = .ok (.invokestatic 48, 3) := by decide +kernel
theorem d_ST_needOf_17 : decode b_ST_needOf 17 = .ok (.ireturn, 1) := by decide +kernel
theorem d_ST_hasLiving_0 : decode b_ST_hasLiving 0 = .ok (.aload_n 0, 1) := by decide +kernel
theorem d_ST_hasLiving_1 : decode b_ST_hasLiving 1 = .ok (.getfield 15, 3) := by decide +kernel
theorem d_ST_hasLiving_4 : decode b_ST_hasLiving 4 = .ok (.iload_n 1, 1) := by decide +kernel
theorem d_ST_hasLiving_5 : decode b_ST_hasLiving 5 = .ok (.iaload, 1) := by decide +kernel
theorem d_ST_hasLiving_6 : decode b_ST_hasLiving 6 = .ok (.istore 4, 2) := by decide +kernel
theorem d_ST_hasLiving_8 : decode b_ST_hasLiving 8 = .ok (.iload 4, 2) := by decide +kernel
theorem d_ST_hasLiving_10 : decode b_ST_hasLiving 10 = .ok (.iconst (-1), 1) := by decide +kernel
theorem d_ST_hasLiving_11 : decode b_ST_hasLiving 11 = .ok (.if_icmp .eq 26, 3) := by decide +kernel
theorem d_ST_hasLiving_14 : decode b_ST_hasLiving 14 = .ok (.iload 4, 2) := by decide +kernel
theorem d_ST_hasLiving_16 : decode b_ST_hasLiving 16 = .ok (.iload_n 3, 1) := by decide +kernel
theorem d_ST_hasLiving_17 : decode b_ST_hasLiving 17 = .ok (.if_icmp .gt 20, 3) := by decide +kernel
theorem d_ST_hasLiving_20 : decode b_ST_hasLiving 20 = .ok (.iload_n 2, 1) := by decide +kernel
theorem d_ST_hasLiving_21 : decode b_ST_hasLiving 21 = .ok (.iconst (-1), 1) := by decide +kernel
theorem d_ST_hasLiving_22 : decode b_ST_hasLiving 22 = .ok (.if_icmp .eq 11, 3) := by decide +kernel
theorem d_ST_hasLiving_25 : decode b_ST_hasLiving 25 = .ok (.iload_n 3, 1) := by decide +kernel
theorem d_ST_hasLiving_26 : decode b_ST_hasLiving 26 = .ok (.iload 4, 2) := by decide +kernel
theorem d_ST_hasLiving_28 : decode b_ST_hasLiving 28 = .ok (.isub, 1) := by decide +kernel
theorem d_ST_hasLiving_29 : decode b_ST_hasLiving 29 = .ok (.iload_n 2, 1) := by decide +kernel
theorem d_ST_hasLiving_30 : decode b_ST_hasLiving 30 = .ok (.if_icmp .gt 7, 3) := by decide +kernel
theorem d_ST_hasLiving_33 : decode b_ST_hasLiving 33 = .ok (.iconst 1, 1) := by decide +kernel
theorem d_ST_hasLiving_34 : decode b_ST_hasLiving 34 = .ok (.goto 4, 3) := by decide +kernel
theorem d_ST_hasLiving_37 : decode b_ST_hasLiving 37 = .ok (.iconst 0, 1) := by decide +kernel
theorem d_ST_hasLiving_38 : decode b_ST_hasLiving 38 = .ok (.ireturn, 1) := by decide +kernel
theorem d_ST_livingCourses_0 : decode b_ST_livingCourses 0 = .ok (.iconst 0, 1) := by decide +kernel
theorem d_ST_livingCourses_1 : decode b_ST_livingCourses 1 = .ok (.istore_n 3, 1) := by decide +kernel
theorem d_ST_livingCourses_2 : decode b_ST_livingCourses 2 = .ok (.iconst 0, 1) := by decide +kernel
theorem d_ST_livingCourses_3 : decode b_ST_livingCourses 3 = .ok (.istore 4, 2) := by decide +kernel
theorem d_ST_livingCourses_5 : decode b_ST_livingCourses 5 = .ok (.iload 4, 2) := by decide +kernel
theorem d_ST_livingCourses_7 : decode b_ST_livingCourses 7 = .ok (.aload_n 1, 1) := by decide +kernel
theorem d_ST_livingCourses_8 : decode b_ST_livingCourses 8 = .ok (.getfield 51, 3) := by decide +kernel
theorem d_ST_livingCourses_11 : decode b_ST_livingCourses 11 = .ok (.if_icmp .ge 33, 3) := by decide +kernel
theorem d_ST_livingCourses_14 : decode b_ST_livingCourses 14 = .ok (.aload_n 0, 1) := by decide +kernel
theorem d_ST_livingCourses_15 : decode b_ST_livingCourses 15 = .ok (.iload 4, 2) := by decide +kernel
theorem d_ST_livingCourses_17 : decode b_ST_livingCourses 17 = .ok (.aload_n 1, 1) := by decide +kernel
theorem d_ST_livingCourses_18 : decode b_ST_livingCourses 18 = .ok (.getfield 56, 3) := by decide +kernel
theorem d_ST_livingCourses_21 : decode b_ST_livingCourses 21 = .ok (.iload 4, 2) := by decide +kernel
theorem d_ST_livingCourses_23 : decode b_ST_livingCourses 23 = .ok (.iaload, 1) := by decide +kernel
theorem d_ST_livingCourses_24 : decode b_ST_livingCourses 24 = .ok (.iload_n 2, 1) := by decide +kernel
theorem d_ST_livingCourses_25 : decode b_ST_livingCourses 25 = .ok (.invokevirtual 59, 3) := by decide +kernel
theorem d_ST_livingCourses_28 : decode b_ST_livingCourses 28 = .ok (.ifCond .eq 10, 3) := by decide +kernel
theorem d_ST_livingCourses_31 : decode b_ST_livingCourses 31 = .ok (.iload_n 3, 1) := by decide +kernel
theorem d_ST_livingCourses_32 : decode b_ST_livingCourses 32 = .ok (.iload 4, 2) := by decide +kernel
theorem d_ST_livingCourses_34 : decode b_ST_livingCourses 34 = .ok (.invokestatic 31, 3) := by decide +kernel
theorem d_ST_livingCourses_37 : decode b_ST_livingCourses 37 = .ok (.istore_n 3, 1) := by decide +kernel
theorem d_ST_livingCourses_38 : decode b_ST_livingCourses 38 = .ok (.iinc 4 1, 3) := by decide +kernel
theorem d_ST_livingCourses_41 : decode b_ST_livingCourses 41 = .ok (.goto (-36), 3) := by decide +kernel
theorem d_ST_livingCourses_44 : decode b_ST_livingCourses 44 = .ok (.iload_n 3, 1) := by decide +kernel
theorem d_ST_livingCourses_45 : decode b_ST_livingCourses 45 = .ok (.ireturn, 1) := by decide +kernel
theorem d_LA_group_0 : decode b_LA_group 0 = .ok (.aload_n 3, 1) := by decide +kernel
theorem d_LA_group_1 : decode b_LA_group 1 = .ok (.iconst 0, 1) := by decide +kernel
theorem d_LA_group_2 : decode b_LA_group 2 = .ok (.aload_n 0, 1) := by decide +kernel
theorem d_LA_group_3 : decode b_LA_group 3 = .ok (.iload_n 1, 1) := by decide +kernel
theorem d_LA_group_4 : decode b_LA_group 4 = .ok (.iload_n 2, 1) := by decide +kernel
theorem d_LA_group_5 : decode b_LA_group 5 = .ok (.invokevirtual 7, 3) := by decide +kernel
theorem d_LA_group_8 : decode b_LA_group 8 = .ok (.i2l, 1) := by decide +kernel
theorem d_LA_group_9 : decode b_LA_group 9 = .ok (.lastore, 1) := by decide +kernel
theorem d_LA_group_10 : decode b_LA_group 10 = .ok (.goto 11, 3) := by decide +kernel
theorem d_LA_group_13 : decode b_LA_group 13 = .ok (.astore 4, 2) := by decide +kernel
theorem d_LA_group_15 : decode b_LA_group 15 = .ok (.iconst 1, 1) := by decide +kernel
theorem d_LA_group_16 : decode b_LA_group 16 = .ok (.ireturn, 1) := by decide +kernel
theorem d_LA_group_17 : decode b_LA_group 17 = .ok (.astore 4, 2) := by decide +kernel
theorem d_LA_group_19 : decode b_LA_group 19 = .ok (.iconst 2, 1) := by decide +kernel
theorem d_LA_group_20 : decode b_LA_group 20 = .ok (.ireturn, 1) := by decide +kernel
theorem d_LA_group_21 : decode b_LA_group 21 = .ok (.iconst 0, 1) := by decide +kernel
theorem d_LA_group_22 : decode b_LA_group 22 = .ok (.ireturn, 1) := by decide +kernel
theorem d_LA_course_0 : decode b_LA_course 0 = .ok (.aload_n 2, 1) := by decide +kernel
theorem d_LA_course_1 : decode b_LA_course 1 = .ok (.iconst 0, 1) := by decide +kernel
theorem d_LA_course_2 : decode b_LA_course 2 = .ok (.aload_n 0, 1) := by decide +kernel
theorem d_LA_course_3 : decode b_LA_course 3 = .ok (.iload_n 1, 1) := by decide +kernel
theorem d_LA_course_4 : decode b_LA_course 4 = .ok (.invokevirtual 17, 3) := by decide +kernel
theorem d_LA_course_7 : decode b_LA_course 7 = .ok (.i2l, 1) := by decide +kernel
theorem d_LA_course_8 : decode b_LA_course 8 = .ok (.lastore, 1) := by decide +kernel
theorem d_LA_course_9 : decode b_LA_course 9 = .ok (.goto 9, 3) := by decide +kernel
theorem d_LA_course_12 : decode b_LA_course 12 = .ok (.astore_n 3, 1) := by decide +kernel
theorem d_LA_course_13 : decode b_LA_course 13 = .ok (.iconst 1, 1) := by decide +kernel
theorem d_LA_course_14 : decode b_LA_course 14 = .ok (.ireturn, 1) := by decide +kernel
theorem d_LA_course_15 : decode b_LA_course 15 = .ok (.astore_n 3, 1) := by decide +kernel
theorem d_LA_course_16 : decode b_LA_course 16 = .ok (.iconst 2, 1) := by decide +kernel
theorem d_LA_course_17 : decode b_LA_course 17 = .ok (.ireturn, 1) := by decide +kernel
theorem d_LA_course_18 : decode b_LA_course 18 = .ok (.iconst 0, 1) := by decide +kernel
theorem d_LA_course_19 : decode b_LA_course 19 = .ok (.ireturn, 1) := by decide +kernel
theorem d_LA_open_0 : decode b_LA_open 0 = .ok (.aload_n 3, 1) := by decide +kernel
theorem d_LA_open_1 : decode b_LA_open 1 = .ok (.iconst 0, 1) := by decide +kernel
theorem d_LA_open_2 : decode b_LA_open 2 = .ok (.aload_n 0, 1) := by decide +kernel
theorem d_LA_open_3 : decode b_LA_open 3 = .ok (.iload_n 1, 1) := by decide +kernel
theorem d_LA_open_4 : decode b_LA_open 4 = .ok (.iload_n 2, 1) := by decide +kernel
theorem d_LA_open_5 : decode b_LA_open 5 = .ok (.invokevirtual 21, 3) := by decide +kernel
theorem d_LA_open_8 : decode b_LA_open 8 = .ok (.ifCond .eq 7, 3) := by decide +kernel
theorem d_LA_open_11 : decode b_LA_open 11 = .ok (.lconst 1, 1) := by decide +kernel
theorem d_LA_open_12 : decode b_LA_open 12 = .ok (.goto 4, 3) := by decide +kernel
theorem d_LA_open_15 : decode b_LA_open 15 = .ok (.lconst 0, 1) := by decide +kernel
theorem d_LA_open_16 : decode b_LA_open 16 = .ok (.lastore, 1) := by decide +kernel
theorem d_LA_open_17 : decode b_LA_open 17 = .ok (.goto 7, 3) := by decide +kernel
theorem d_LA_open_20 : decode b_LA_open 20 = .ok (.astore 4, 2) := by decide +kernel
theorem d_LA_open_22 : decode b_LA_open 22 = .ok (.iconst 1, 1) := by decide +kernel
theorem d_LA_open_23 : decode b_LA_open 23 = .ok (.ireturn, 1) := by decide +kernel
theorem d_LA_open_24 : decode b_LA_open 24 = .ok (.iconst 0, 1) := by decide +kernel
theorem d_LA_open_25 : decode b_LA_open 25 = .ok (.ireturn, 1) := by decide +kernel
theorem d_LA_expire_0 : decode b_LA_expire 0 = .ok (.aload_n 3, 1) := by decide +kernel
theorem d_LA_expire_1 : decode b_LA_expire 1 = .ok (.iconst 0, 1) := by decide +kernel
theorem d_LA_expire_2 : decode b_LA_expire 2 = .ok (.aload_n 0, 1) := by decide +kernel
theorem d_LA_expire_3 : decode b_LA_expire 3 = .ok (.iload_n 1, 1) := by decide +kernel
theorem d_LA_expire_4 : decode b_LA_expire 4 = .ok (.iload_n 2, 1) := by decide +kernel
theorem d_LA_expire_5 : decode b_LA_expire 5 = .ok (.invokevirtual 25, 3) := by decide +kernel
theorem d_LA_expire_8 : decode b_LA_expire 8 = .ok (.i2l, 1) := by decide +kernel
theorem d_LA_expire_9 : decode b_LA_expire 9 = .ok (.lastore, 1) := by decide +kernel
theorem d_LA_expire_10 : decode b_LA_expire 10 = .ok (.goto 7, 3) := by decide +kernel
theorem d_LA_expire_13 : decode b_LA_expire 13 = .ok (.astore 4, 2) := by decide +kernel
theorem d_LA_expire_15 : decode b_LA_expire 15 = .ok (.iconst 1, 1) := by decide +kernel
theorem d_LA_expire_16 : decode b_LA_expire 16 = .ok (.ireturn, 1) := by decide +kernel
theorem d_LA_expire_17 : decode b_LA_expire 17 = .ok (.iconst 0, 1) := by decide +kernel
theorem d_LA_expire_18 : decode b_LA_expire 18 = .ok (.ireturn, 1) := by decide +kernel
theorem d_LA_requirement_0 : decode b_LA_requirement 0 = .ok (.aload_n 3, 1) := by decide +kernel
theorem d_LA_requirement_1 : decode b_LA_requirement 1 = .ok (.iconst 0, 1) := by decide +kernel
theorem d_LA_requirement_2 : decode b_LA_requirement 2 = .ok (.aload_n 0, 1) := by decide +kernel
theorem d_LA_requirement_3 : decode b_LA_requirement 3 = .ok (.iload_n 1, 1) := by decide +kernel
theorem d_LA_requirement_4 : decode b_LA_requirement 4 = .ok (.iload_n 2, 1) := by decide +kernel
theorem d_LA_requirement_5 : decode b_LA_requirement 5 = .ok (.invokevirtual 28, 3) := by decide +kernel
theorem d_LA_requirement_8 : decode b_LA_requirement 8 = .ok (.i2l, 1) := by decide +kernel
theorem d_LA_requirement_9 : decode b_LA_requirement 9 = .ok (.lastore, 1) := by decide +kernel
theorem d_LA_requirement_10 : decode b_LA_requirement 10 = .ok (.goto 11, 3) := by decide +kernel
theorem d_LA_requirement_13 : decode b_LA_requirement 13 = .ok (.astore 4, 2) := by decide +kernel
theorem d_LA_requirement_15 : decode b_LA_requirement 15 = .ok (.iconst 1, 1) := by decide +kernel
theorem d_LA_requirement_16 : decode b_LA_requirement 16 = .ok (.ireturn, 1) := by decide +kernel
theorem d_LA_requirement_17 : decode b_LA_requirement 17 = .ok (.astore 4, 2) := by decide +kernel
theorem d_LA_requirement_19 : decode b_LA_requirement 19 = .ok (.iconst 2, 1) := by decide +kernel
theorem d_LA_requirement_20 : decode b_LA_requirement 20 = .ok (.ireturn, 1) := by decide +kernel
theorem d_LA_requirement_21 : decode b_LA_requirement 21 = .ok (.iconst 0, 1) := by decide +kernel
theorem d_LA_requirement_22 : decode b_LA_requirement 22 = .ok (.ireturn, 1) := by decide +kernel
theorem d_LA_allow_0 : decode b_LA_allow 0 = .ok (.aload 4, 2) := by decide +kernel
theorem d_LA_allow_2 : decode b_LA_allow 2 = .ok (.iconst 0, 1) := by decide +kernel
theorem d_LA_allow_3 : decode b_LA_allow 3 = .ok (.aload_n 0, 1) := by decide +kernel
theorem d_LA_allow_4 : decode b_LA_allow 4 = .ok (.iload_n 1, 1) := by decide +kernel
theorem d_LA_allow_5 : decode b_LA_allow 5 = .ok (.iload_n 2, 1) := by decide +kernel
theorem d_LA_allow_6 : decode b_LA_allow 6 = .ok (.iload_n 3, 1) := by decide +kernel
theorem d_LA_allow_7 : decode b_LA_allow 7 = .ok (.invokevirtual 31, 3) := by decide +kernel
theorem d_LA_allow_10 : decode b_LA_allow 10 = .ok (.ifCond .eq 7, 3) := by decide +kernel
theorem d_LA_allow_13 : decode b_LA_allow 13 = .ok (.lconst 1, 1) := by decide +kernel
theorem d_LA_allow_14 : decode b_LA_allow 14 = .ok (.goto 4, 3) := by decide +kernel
theorem d_LA_allow_17 : decode b_LA_allow 17 = .ok (.lconst 0, 1) := by decide +kernel
theorem d_LA_allow_18 : decode b_LA_allow 18 = .ok (.lastore, 1) := by decide +kernel
theorem d_LA_allow_19 : decode b_LA_allow 19 = .ok (.goto 7, 3) := by decide +kernel
theorem d_LA_allow_22 : decode b_LA_allow 22 = .ok (.astore 5, 2) := by decide +kernel
theorem d_LA_allow_24 : decode b_LA_allow 24 = .ok (.iconst 1, 1) := by decide +kernel
theorem d_LA_allow_25 : decode b_LA_allow 25 = .ok (.ireturn, 1) := by decide +kernel
theorem d_LA_allow_26 : decode b_LA_allow 26 = .ok (.iconst 0, 1) := by decide +kernel
theorem d_LA_allow_27 : decode b_LA_allow 27 = .ok (.ireturn, 1) := by decide +kernel
theorem d_LA_student_0 : decode b_LA_student 0 = .ok (.aload_n 3, 1) := by decide +kernel
theorem d_LA_student_1 : decode b_LA_student 1 = .ok (.iconst 0, 1) := by decide +kernel
theorem d_LA_student_2 : decode b_LA_student 2 = .ok (.aload_n 0, 1) := by decide +kernel
theorem d_LA_student_3 : decode b_LA_student 3 = .ok (.iload_n 1, 1) := by decide +kernel
theorem d_LA_student_4 : decode b_LA_student 4 = .ok (.iload_n 2, 1) := by decide +kernel
theorem d_LA_student_5 : decode b_LA_student 5 = .ok (.invokevirtual 35, 3) := by decide +kernel
theorem d_LA_student_8 : decode b_LA_student 8 = .ok (.i2l, 1) := by decide +kernel
theorem d_LA_student_9 : decode b_LA_student 9 = .ok (.lastore, 1) := by decide +kernel
theorem d_LA_student_10 : decode b_LA_student 10 = .ok (.goto 7, 3) := by decide +kernel
theorem d_LA_student_13 : decode b_LA_student 13 = .ok (.astore 4, 2) := by decide +kernel
theorem d_LA_student_15 : decode b_LA_student 15 = .ok (.iconst 1, 1) := by decide +kernel
theorem d_LA_student_16 : decode b_LA_student 16 = .ok (.ireturn, 1) := by decide +kernel
theorem d_LA_student_17 : decode b_LA_student 17 = .ok (.iconst 0, 1) := by decide +kernel
theorem d_LA_student_18 : decode b_LA_student 18 = .ok (.ireturn, 1) := by decide +kernel
theorem d_LA_pass_0 : decode b_LA_pass 0 = .ok (.aload 4, 2) := by decide +kernel
theorem d_LA_pass_2 : decode b_LA_pass 2 = .ok (.iconst 0, 1) := by decide +kernel
theorem d_LA_pass_3 : decode b_LA_pass 3 = .ok (.aload_n 0, 1) := by decide +kernel
theorem d_LA_pass_4 : decode b_LA_pass 4 = .ok (.iload_n 1, 1) := by decide +kernel
theorem d_LA_pass_5 : decode b_LA_pass 5 = .ok (.iload_n 2, 1) := by decide +kernel
theorem d_LA_pass_6 : decode b_LA_pass 6 = .ok (.iload_n 3, 1) := by decide +kernel
theorem d_LA_pass_7 : decode b_LA_pass 7 = .ok (.invokevirtual 38, 3) := by decide +kernel
theorem d_LA_pass_10 : decode b_LA_pass 10 = .ok (.i2l, 1) := by decide +kernel
theorem d_LA_pass_11 : decode b_LA_pass 11 = .ok (.lastore, 1) := by decide +kernel
theorem d_LA_pass_12 : decode b_LA_pass 12 = .ok (.goto 7, 3) := by decide +kernel
theorem d_LA_pass_15 : decode b_LA_pass 15 = .ok (.astore 5, 2) := by decide +kernel
theorem d_LA_pass_17 : decode b_LA_pass 17 = .ok (.iconst 1, 1) := by decide +kernel
theorem d_LA_pass_18 : decode b_LA_pass 18 = .ok (.ireturn, 1) := by decide +kernel
theorem d_LA_pass_19 : decode b_LA_pass 19 = .ok (.iconst 0, 1) := by decide +kernel
theorem d_LA_pass_20 : decode b_LA_pass 20 = .ok (.ireturn, 1) := by decide +kernel
theorem d_LA_substitute_0 : decode b_LA_substitute 0 = .ok (.aload 4, 2) := by decide +kernel
theorem d_LA_substitute_2 : decode b_LA_substitute 2 = .ok (.iconst 0, 1) := by decide +kernel
theorem d_LA_substitute_3 : decode b_LA_substitute 3 = .ok (.aload_n 0, 1) := by decide +kernel
theorem d_LA_substitute_4 : decode b_LA_substitute 4 = .ok (.iload_n 1, 1) := by decide +kernel
theorem d_LA_substitute_5 : decode b_LA_substitute 5 = .ok (.iload_n 2, 1) := by decide +kernel
theorem d_LA_substitute_6 : decode b_LA_substitute 6 = .ok (.iload_n 3, 1) := by decide +kernel
theorem d_LA_substitute_7 : decode b_LA_substitute 7 = .ok (.invokevirtual 42, 3) := by decide +kernel
theorem d_LA_substitute_10 : decode b_LA_substitute 10 = .ok (.ifCond .eq 7, 3) := by decide +kernel
theorem d_LA_substitute_13 : decode b_LA_substitute 13 = .ok (.lconst 1, 1) := by decide +kernel
theorem d_LA_substitute_14 : decode b_LA_substitute 14 = .ok (.goto 4, 3) := by decide +kernel
theorem d_LA_substitute_17 : decode b_LA_substitute 17 = .ok (.lconst 0, 1) := by decide +kernel
theorem d_LA_substitute_18 : decode b_LA_substitute 18 = .ok (.lastore, 1) := by decide +kernel
theorem d_LA_substitute_19 : decode b_LA_substitute 19 = .ok (.goto 11, 3) := by decide +kernel
theorem d_LA_substitute_22 : decode b_LA_substitute 22 = .ok (.astore 5, 2) := by decide +kernel
theorem d_LA_substitute_24 : decode b_LA_substitute 24 = .ok (.iconst 1, 1) := by decide +kernel
theorem d_LA_substitute_25 : decode b_LA_substitute 25 = .ok (.ireturn, 1) := by decide +kernel
theorem d_LA_substitute_26 : decode b_LA_substitute 26 = .ok (.astore 5, 2) := by decide +kernel
theorem d_LA_substitute_28 : decode b_LA_substitute 28 = .ok (.iconst 2, 1) := by decide +kernel
theorem d_LA_substitute_29 : decode b_LA_substitute 29 = .ok (.ireturn, 1) := by decide +kernel
theorem d_LA_substitute_30 : decode b_LA_substitute 30 = .ok (.iconst 0, 1) := by decide +kernel
theorem d_LA_substitute_31 : decode b_LA_substitute 31 = .ok (.ireturn, 1) := by decide +kernel
theorem d_LA_exempt_0 : decode b_LA_exempt 0 = .ok (.aload 4, 2) := by decide +kernel
theorem d_LA_exempt_2 : decode b_LA_exempt 2 = .ok (.iconst 0, 1) := by decide +kernel
theorem d_LA_exempt_3 : decode b_LA_exempt 3 = .ok (.aload_n 0, 1) := by decide +kernel
theorem d_LA_exempt_4 : decode b_LA_exempt 4 = .ok (.iload_n 1, 1) := by decide +kernel
theorem d_LA_exempt_5 : decode b_LA_exempt 5 = .ok (.iload_n 2, 1) := by decide +kernel
theorem d_LA_exempt_6 : decode b_LA_exempt 6 = .ok (.iload_n 3, 1) := by decide +kernel
theorem d_LA_exempt_7 : decode b_LA_exempt 7 = .ok (.invokevirtual 45, 3) := by decide +kernel
theorem d_LA_exempt_10 : decode b_LA_exempt 10 = .ok (.i2l, 1) := by decide +kernel
theorem d_LA_exempt_11 : decode b_LA_exempt 11 = .ok (.lastore, 1) := by decide +kernel
theorem d_LA_exempt_12 : decode b_LA_exempt 12 = .ok (.goto 7, 3) := by decide +kernel
theorem d_LA_exempt_15 : decode b_LA_exempt 15 = .ok (.astore 5, 2) := by decide +kernel
theorem d_LA_exempt_17 : decode b_LA_exempt 17 = .ok (.iconst 1, 1) := by decide +kernel
theorem d_LA_exempt_18 : decode b_LA_exempt 18 = .ok (.ireturn, 1) := by decide +kernel
theorem d_LA_exempt_19 : decode b_LA_exempt 19 = .ok (.iconst 0, 1) := by decide +kernel
theorem d_LA_exempt_20 : decode b_LA_exempt 20 = .ok (.ireturn, 1) := by decide +kernel
theorem d_LA_lives_0 : decode b_LA_lives 0 = .ok (.aload 4, 2) := by decide +kernel
theorem d_LA_lives_2 : decode b_LA_lives 2 = .ok (.iconst 0, 1) := by decide +kernel
theorem d_LA_lives_3 : decode b_LA_lives 3 = .ok (.aload_n 0, 1) := by decide +kernel
theorem d_LA_lives_4 : decode b_LA_lives 4 = .ok (.iload_n 1, 1) := by decide +kernel
theorem d_LA_lives_5 : decode b_LA_lives 5 = .ok (.iload_n 2, 1) := by decide +kernel
theorem d_LA_lives_6 : decode b_LA_lives 6 = .ok (.iload_n 3, 1) := by decide +kernel
theorem d_LA_lives_7 : decode b_LA_lives 7 = .ok (.invokevirtual 48, 3) := by decide +kernel
theorem d_LA_lives_10 : decode b_LA_lives 10 = .ok (.ifCond .eq 7, 3) := by decide +kernel
theorem d_LA_lives_13 : decode b_LA_lives 13 = .ok (.lconst 1, 1) := by decide +kernel
theorem d_LA_lives_14 : decode b_LA_lives 14 = .ok (.goto 4, 3) := by decide +kernel
theorem d_LA_lives_17 : decode b_LA_lives 17 = .ok (.lconst 0, 1) := by decide +kernel
theorem d_LA_lives_18 : decode b_LA_lives 18 = .ok (.lastore, 1) := by decide +kernel
theorem d_LA_lives_19 : decode b_LA_lives 19 = .ok (.goto 7, 3) := by decide +kernel
theorem d_LA_lives_22 : decode b_LA_lives 22 = .ok (.astore 5, 2) := by decide +kernel
theorem d_LA_lives_24 : decode b_LA_lives 24 = .ok (.iconst 1, 1) := by decide +kernel
theorem d_LA_lives_25 : decode b_LA_lives 25 = .ok (.ireturn, 1) := by decide +kernel
theorem d_LA_lives_26 : decode b_LA_lives 26 = .ok (.iconst 0, 1) := by decide +kernel
theorem d_LA_lives_27 : decode b_LA_lives 27 = .ok (.ireturn, 1) := by decide +kernel
theorem d_LA_audit_0 : decode b_LA_audit 0 = .ok (.aload_n 3, 1) := by decide +kernel
theorem d_LA_audit_1 : decode b_LA_audit 1 = .ok (.iconst 0, 1) := by decide +kernel
theorem d_LA_audit_2 : decode b_LA_audit 2 = .ok (.aload_n 0, 1) := by decide +kernel
theorem d_LA_audit_3 : decode b_LA_audit 3 = .ok (.iload_n 1, 1) := by decide +kernel
theorem d_LA_audit_4 : decode b_LA_audit 4 = .ok (.iload_n 2, 1) := by decide +kernel
theorem d_LA_audit_5 : decode b_LA_audit 5 = .ok (.invokevirtual 51, 3) := by decide +kernel
theorem d_LA_audit_8 : decode b_LA_audit 8 = .ok (.i2l, 1) := by decide +kernel
theorem d_LA_audit_9 : decode b_LA_audit 9 = .ok (.lastore, 1) := by decide +kernel
theorem d_LA_audit_10 : decode b_LA_audit 10 = .ok (.goto 11, 3) := by decide +kernel
theorem d_LA_audit_13 : decode b_LA_audit 13 = .ok (.astore 4, 2) := by decide +kernel
theorem d_LA_audit_15 : decode b_LA_audit 15 = .ok (.iconst 1, 1) := by decide +kernel
theorem d_LA_audit_16 : decode b_LA_audit 16 = .ok (.ireturn, 1) := by decide +kernel
theorem d_LA_audit_17 : decode b_LA_audit 17 = .ok (.astore 4, 2) := by decide +kernel
theorem d_LA_audit_19 : decode b_LA_audit 19 = .ok (.iconst 2, 1) := by decide +kernel
theorem d_LA_audit_20 : decode b_LA_audit 20 = .ok (.ireturn, 1) := by decide +kernel
theorem d_LA_audit_21 : decode b_LA_audit 21 = .ok (.iconst 0, 1) := by decide +kernel
theorem d_LA_audit_22 : decode b_LA_audit 22 = .ok (.ireturn, 1) := by decide +kernel
theorem d_LA_assigned_0 : decode b_LA_assigned 0 = .ok (.aload_n 2, 1) := by decide +kernel
theorem d_LA_assigned_1 : decode b_LA_assigned 1 = .ok (.iconst 0, 1) := by decide +kernel
theorem d_LA_assigned_2 : decode b_LA_assigned 2 = .ok (.aload_n 0, 1) := by decide +kernel
theorem d_LA_assigned_3 : decode b_LA_assigned 3 = .ok (.iload_n 1, 1) := by decide +kernel
theorem d_LA_assigned_4 : decode b_LA_assigned 4 = .ok (.invokevirtual 54, 3) := by decide +kernel
theorem d_LA_assigned_7 : decode b_LA_assigned 7 = .ok (.i2l, 1) := by decide +kernel
theorem d_LA_assigned_8 : decode b_LA_assigned 8 = .ok (.lastore, 1) := by decide +kernel
theorem d_LA_assigned_9 : decode b_LA_assigned 9 = .ok (.goto 9, 3) := by decide +kernel
theorem d_LA_assigned_12 : decode b_LA_assigned 12 = .ok (.astore_n 3, 1) := by decide +kernel
theorem d_LA_assigned_13 : decode b_LA_assigned 13 = .ok (.iconst 1, 1) := by decide +kernel
theorem d_LA_assigned_14 : decode b_LA_assigned 14 = .ok (.ireturn, 1) := by decide +kernel
theorem d_LA_assigned_15 : decode b_LA_assigned 15 = .ok (.astore_n 3, 1) := by decide +kernel
theorem d_LA_assigned_16 : decode b_LA_assigned 16 = .ok (.iconst 2, 1) := by decide +kernel
theorem d_LA_assigned_17 : decode b_LA_assigned 17 = .ok (.ireturn, 1) := by decide +kernel
theorem d_LA_assigned_18 : decode b_LA_assigned 18 = .ok (.iconst 0, 1) := by decide +kernel
theorem d_LA_assigned_19 : decode b_LA_assigned 19 = .ok (.ireturn, 1) := by decide +kernel
