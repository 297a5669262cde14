/-! decode rows (by program) -/
theorem d_AR_filli_0 : decode b_AR_filli 0 = .ok (.iconst 0, 1) := by decide +kernel
theorem d_AR_filli_1 : decode b_AR_filli 1 = .ok (.istore_n 2, 1) := by decide +kernel
theorem d_AR_filli_2 : decode b_AR_filli 2 = .ok (.aload_n 0, 1) := by decide +kernel
theorem d_AR_filli_3 : decode b_AR_filli 3 = .ok (.arraylength, 1) := by decide +kernel
theorem d_AR_filli_4 : decode b_AR_filli 4 = .ok (.istore_n 3, 1) := by decide +kernel
theorem d_AR_filli_5 : decode b_AR_filli 5 = .ok (.iload_n 2, 1) := by decide +kernel
theorem d_AR_filli_6 : decode b_AR_filli 6 = .ok (.iload_n 3, 1) := by decide +kernel
theorem d_AR_filli_7 : decode b_AR_filli 7 = .ok (.if_icmp .ge 13, 3) := by decide +kernel
theorem d_AR_filli_10 : decode b_AR_filli 10 = .ok (.aload_n 0, 1) := by decide +kernel
theorem d_AR_filli_11 : decode b_AR_filli 11 = .ok (.iload_n 2, 1) := by decide +kernel
theorem d_AR_filli_12 : decode b_AR_filli 12 = .ok (.iload_n 1, 1) := by decide +kernel
theorem d_AR_filli_13 : decode b_AR_filli 13 = .ok (.iastore, 1) := by decide +kernel
theorem d_AR_filli_14 : decode b_AR_filli 14 = .ok (.iinc 2 1, 3) := by decide +kernel
theorem d_AR_filli_17 : decode b_AR_filli 17 = .ok (.goto (-12), 3) := by decide +kernel
theorem d_AR_filli_20 : decode b_AR_filli 20 = .ok (.return_, 1) := by decide +kernel
theorem d_AR_filll_0 : decode b_AR_filll 0 = .ok (.iconst 0, 1) := by decide +kernel
theorem d_AR_filll_1 : decode b_AR_filll 1 = .ok (.istore_n 3, 1) := by decide +kernel
theorem d_AR_filll_2 : decode b_AR_filll 2 = .ok (.aload_n 0, 1) := by decide +kernel
theorem d_AR_filll_3 : decode b_AR_filll 3 = .ok (.arraylength, 1) := by decide +kernel
theorem d_AR_filll_4 : decode b_AR_filll 4 = .ok (.istore 4, 2) := by decide +kernel
theorem d_AR_filll_6 : decode b_AR_filll 6 = .ok (.iload_n 3, 1) := by decide +kernel
theorem d_AR_filll_7 : decode b_AR_filll 7 = .ok (.iload 4, 2) := by decide +kernel
theorem d_AR_filll_9 : decode b_AR_filll 9 = .ok (.if_icmp .ge 13, 3) := by decide +kernel
theorem d_AR_filll_12 : decode b_AR_filll 12 = .ok (.aload_n 0, 1) := by decide +kernel
theorem d_AR_filll_13 : decode b_AR_filll 13 = .ok (.iload_n 3, 1) := by decide +kernel
theorem d_AR_filll_14 : decode b_AR_filll 14 = .ok (.lload_n 1, 1) := by decide +kernel
theorem d_AR_filll_15 : decode b_AR_filll 15 = .ok (.lastore, 1) := by decide +kernel
theorem d_AR_filll_16 : decode b_AR_filll 16 = .ok (.iinc 3 1, 3) := by decide +kernel
theorem d_AR_filll_19 : decode b_AR_filll 19 = .ok (.goto (-13), 3) := by decide +kernel
theorem d_AR_filll_22 : decode b_AR_filll 22 = .ok (.return_, 1) := by decide +kernel
theorem d_MA_max_0 : decode b_MA_max 0 = .ok (.iload_n 0, 1) := by decide +kernel
theorem d_MA_max_1 : decode b_MA_max 1 = .ok (.iload_n 1, 1) := by decide +kernel
theorem d_MA_max_2 : decode b_MA_max 2 = .ok (.if_icmp .lt 7, 3) := by decide +kernel
theorem d_MA_max_5 : decode b_MA_max 5 = .ok (.iload_n 0, 1) := by decide +kernel
theorem d_MA_max_6 : decode b_MA_max 6 = .ok (.goto 4, 3) := by decide +kernel
theorem d_MA_max_9 : decode b_MA_max 9 = .ok (.iload_n 1, 1) := by decide +kernel
theorem d_MA_max_10 : decode b_MA_max 10 = .ok (.ireturn, 1) := by decide +kernel
theorem d_MA_min_0 : decode b_MA_min 0 = .ok (.iload_n 0, 1) := by decide +kernel
theorem d_MA_min_1 : decode b_MA_min 1 = .ok (.iload_n 1, 1) := by decide +kernel
theorem d_MA_min_2 : decode b_MA_min 2 = .ok (.if_icmp .gt 7, 3) := by decide +kernel
theorem d_MA_min_5 : decode b_MA_min 5 = .ok (.iload_n 0, 1) := by decide +kernel
theorem d_MA_min_6 : decode b_MA_min 6 = .ok (.goto 4, 3) := by decide +kernel
theorem d_MA_min_9 : decode b_MA_min 9 = .ok (.iload_n 1, 1) := by decide +kernel
theorem d_MA_min_10 : decode b_MA_min 10 = .ok (.ireturn, 1) := by decide +kernel
theorem d_IN_bitCount_0 : decode b_IN_bitCount 0 = .ok (.iload_n 0, 1) := by decide +kernel
theorem d_IN_bitCount_1 : decode b_IN_bitCount 1 = .ok (.iload_n 0, 1) := by decide +kernel
theorem d_IN_bitCount_2 : decode b_IN_bitCount 2 = .ok (.iconst 1, 1) := by decide +kernel
theorem d_IN_bitCount_3 : decode b_IN_bitCount 3 = .ok (.iushr, 1) := by decide +kernel
theorem d_IN_bitCount_4 : decode b_IN_bitCount 4 = .ok (.ldc_w 265, 3) := by decide +kernel
theorem d_IN_bitCount_7 : decode b_IN_bitCount 7 = .ok (.iand, 1) := by decide +kernel
theorem d_IN_bitCount_8 : decode b_IN_bitCount 8 = .ok (.isub, 1) := by decide +kernel
theorem d_IN_bitCount_9 : decode b_IN_bitCount 9 = .ok (.istore_n 0, 1) := by decide +kernel
theorem d_IN_bitCount_10 : decode b_IN_bitCount 10 = .ok (.iload_n 0, 1) := by decide +kernel
theorem d_IN_bitCount_11 : decode b_IN_bitCount 11 = .ok (.ldc_w 266, 3) := by decide +kernel
theorem d_IN_bitCount_14 : decode b_IN_bitCount 14 = .ok (.iand, 1) := by decide +kernel
theorem d_IN_bitCount_15 : decode b_IN_bitCount 15 = .ok (.iload_n 0, 1) := by decide +kernel
theorem d_IN_bitCount_16 : decode b_IN_bitCount 16 = .ok (.iconst 2, 1) := by decide +kernel
theorem d_IN_bitCount_17 : decode b_IN_bitCount 17 = .ok (.iushr, 1) := by decide +kernel
theorem d_IN_bitCount_18 : decode b_IN_bitCount 18 = .ok (.ldc_w 266, 3) := by decide +kernel
theorem d_IN_bitCount_21 : decode b_IN_bitCount 21 = .ok (.iand, 1) := by decide +kernel
theorem d_IN_bitCount_22 : decode b_IN_bitCount 22 = .ok (.iadd, 1) := by decide +kernel
theorem d_IN_bitCount_23 : decode b_IN_bitCount 23 = .ok (.istore_n 0, 1) := by decide +kernel
theorem d_IN_bitCount_24 : decode b_IN_bitCount 24 = .ok (.iload_n 0, 1) := by decide +kernel
theorem d_IN_bitCount_25 : decode b_IN_bitCount 25 = .ok (.iload_n 0, 1) := by decide +kernel
theorem d_IN_bitCount_26 : decode b_IN_bitCount 26 = .ok (.iconst 4, 1) := by decide +kernel
theorem d_IN_bitCount_27 : decode b_IN_bitCount 27 = .ok (.iushr, 1) := by decide +kernel
theorem d_IN_bitCount_28 : decode b_IN_bitCount 28 = .ok (.iadd, 1) := by decide +kernel
theorem d_IN_bitCount_29 : decode b_IN_bitCount 29 = .ok (.ldc_w 267, 3) := by decide +kernel
theorem d_IN_bitCount_32 : decode b_IN_bitCount 32 = .ok (.iand, 1) := by decide +kernel
theorem d_IN_bitCount_33 : decode b_IN_bitCount 33 = .ok (.istore_n 0, 1) := by decide +kernel
theorem d_IN_bitCount_34 : decode b_IN_bitCount 34 = .ok (.iload_n 0, 1) := by decide +kernel
theorem d_IN_bitCount_35 : decode b_IN_bitCount 35 = .ok (.iload_n 0, 1) := by decide +kernel
theorem d_IN_bitCount_36 : decode b_IN_bitCount 36 = .ok (.bipush 8, 2) := by decide +kernel
theorem d_IN_bitCount_38 : decode b_IN_bitCount 38 = .ok (.iushr, 1) := by decide +kernel
theorem d_IN_bitCount_39 : decode b_IN_bitCount 39 = .ok (.iadd, 1) := by decide +kernel
theorem d_IN_bitCount_40 : decode b_IN_bitCount 40 = .ok (.istore_n 0, 1) := by decide +kernel
theorem d_IN_bitCount_41 : decode b_IN_bitCount 41 = .ok (.iload_n 0, 1) := by decide +kernel
theorem d_IN_bitCount_42 : decode b_IN_bitCount 42 = .ok (.iload_n 0, 1) := by decide +kernel
theorem d_IN_bitCount_43 : decode b_IN_bitCount 43 = .ok (.bipush 16, 2) := by decide +kernel
theorem d_IN_bitCount_45 : decode b_IN_bitCount 45 = .ok (.iushr, 1) := by decide +kernel
theorem d_IN_bitCount_46 : decode b_IN_bitCount 46 = .ok (.iadd, 1) := by decide +kernel
theorem d_IN_bitCount_47 : decode b_IN_bitCount 47 = .ok (.istore_n 0, 1) := by decide +kernel
theorem d_IN_bitCount_48 : decode b_IN_bitCount 48 = .ok (.iload_n 0, 1) := by decide +kernel
theorem d_IN_bitCount_49 : decode b_IN_bitCount 49 = .ok (.bipush 63, 2) := by decide +kernel
theorem d_IN_bitCount_51 : decode b_IN_bitCount 51 = .ok (.iand, 1) := by decide +kernel
theorem d_IN_bitCount_52 : decode b_IN_bitCount 52 = .ok (.ireturn, 1) := by decide +kernel
