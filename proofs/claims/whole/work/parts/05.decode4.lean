/-! decode rows (by program) -/
theorem d_MO_receipt_0 : decode b_MO_receipt 0 = .ok (.aload_n 0, 1) := by decide +kernel
theorem d_MO_receipt_1 : decode b_MO_receipt 1 = .ok (.iload_n 1, 1) := by decide +kernel
theorem d_MO_receipt_2 : decode b_MO_receipt 2 = .ok (.ifCond .lt 9, 3) := by decide +kernel
theorem d_MO_receipt_5 : decode b_MO_receipt 5 = .ok (.iload_n 1, 1) := by decide +kernel
theorem d_MO_receipt_6 : decode b_MO_receipt 6 = .ok (.bipush 6, 2) := by decide +kernel
theorem d_MO_receipt_8 : decode b_MO_receipt 8 = .ok (.if_icmp .le 7, 3) := by decide +kernel
theorem d_MO_receipt_11 : decode b_MO_receipt 11 = .ok (.iconst 1, 1) := by decide +kernel
theorem d_MO_receipt_12 : decode b_MO_receipt 12 = .ok (.goto 15, 3) := by decide +kernel
theorem d_MO_receipt_15 : decode b_MO_receipt 15 = .ok (.aload_n 0, 1) := by decide +kernel
theorem d_MO_receipt_16 : decode b_MO_receipt 16 = .ok (.getfield 139, 3) := by decide +kernel
theorem d_MO_receipt_19 : decode b_MO_receipt 19 = .ok (.ifCond .ne 7, 3) := by decide +kernel
theorem d_MO_receipt_22 : decode b_MO_receipt 22 = .ok (.iconst 2, 1) := by decide +kernel
theorem d_MO_receipt_23 : decode b_MO_receipt 23 = .ok (.goto 4, 3) := by decide +kernel
theorem d_MO_receipt_26 : decode b_MO_receipt 26 = .ok (.iconst 0, 1) := by decide +kernel
theorem d_MO_receipt_27 : decode b_MO_receipt 27 = .ok (.putfield 74, 3) := by decide +kernel
theorem d_MO_receipt_30 : decode b_MO_receipt 30 = .ok (.aload_n 0, 1) := by decide +kernel
theorem d_MO_receipt_31 : decode b_MO_receipt 31 = .ok (.getfield 74, 3) := by decide +kernel
theorem d_MO_receipt_34 : decode b_MO_receipt 34 = .ok (.ifCond .le 7, 3) := by decide +kernel
theorem d_MO_receipt_37 : decode b_MO_receipt 37 = .ok (.iconst 0, 1) := by decide +kernel
theorem d_MO_receipt_38 : decode b_MO_receipt 38 = .ok (.goto 9, 3) := by decide +kernel
theorem d_MO_receipt_41 : decode b_MO_receipt 41 = .ok (.aload_n 0, 1) := by decide +kernel
theorem d_MO_receipt_42 : decode b_MO_receipt 42 = .ok (.getfield 68, 3) := by decide +kernel
theorem d_MO_receipt_45 : decode b_MO_receipt 45 = .ok (.iload_n 1, 1) := by decide +kernel
theorem d_MO_receipt_46 : decode b_MO_receipt 46 = .ok (.iaload, 1) := by decide +kernel
theorem d_MO_receipt_47 : decode b_MO_receipt 47 = .ok (.ireturn, 1) := by decide +kernel
theorem d_MO_supply_0 : decode b_MO_supply 0 = .ok (.aload_n 0, 1) := by decide +kernel
theorem d_MO_supply_1 : decode b_MO_supply 1 = .ok (.aload_n 0, 1) := by decide +kernel
theorem d_MO_supply_2 : decode b_MO_supply 2 = .ok (.iload_n 1, 1) := by decide +kernel
theorem d_MO_supply_3 : decode b_MO_supply 3 = .ok (.iload_n 2, 1) := by decide +kernel
theorem d_MO_supply_4 : decode b_MO_supply 4 = .ok (.invokevirtual 126, 3) := by decide +kernel
theorem d_MO_supply_7 : decode b_MO_supply 7 = .ok (.putfield 74, 3) := by decide +kernel
theorem d_MO_supply_10 : decode b_MO_supply 10 = .ok (.aload_n 0, 1) := by decide +kernel
theorem d_MO_supply_11 : decode b_MO_supply 11 = .ok (.getfield 74, 3) := by decide +kernel
theorem d_MO_supply_14 : decode b_MO_supply 14 = .ok (.ifCond .le 5, 3) := by decide +kernel
theorem d_MO_supply_17 : decode b_MO_supply 17 = .ok (.iconst 0, 1) := by decide +kernel
theorem d_MO_supply_18 : decode b_MO_supply 18 = .ok (.ireturn, 1) := by decide +kernel
theorem d_MO_supply_19 : decode b_MO_supply 19 = .ok (.aload_n 0, 1) := by decide +kernel
theorem d_MO_supply_20 : decode b_MO_supply 20 = .ok (.iload_n 1, 1) := by decide +kernel
theorem d_MO_supply_21 : decode b_MO_supply 21 = .ok (.invokevirtual 129, 3) := by decide +kernel
theorem d_MO_supply_24 : decode b_MO_supply 24 = .ok (.aload_n 0, 1) := by decide +kernel
theorem d_MO_supply_25 : decode b_MO_supply 25 = .ok (.iload_n 3, 1) := by decide +kernel
theorem d_MO_supply_26 : decode b_MO_supply 26 = .ok (.aload_n 0, 1) := by decide +kernel
theorem d_MO_supply_27 : decode b_MO_supply 27 = .ok (.iload_n 1, 1) := by decide +kernel
theorem d_MO_supply_28 : decode b_MO_supply 28 = .ok (.iload_n 2, 1) := by decide +kernel
theorem d_MO_supply_29 : decode b_MO_supply 29 = .ok (.invokevirtual 133, 3) := by decide +kernel
theorem d_MO_supply_32 : decode b_MO_supply 32 = .ok (.invokevirtual 113, 3) := by decide +kernel
theorem d_MO_supply_35 : decode b_MO_supply 35 = .ok (.ireturn, 1) := by decide +kernel
theorem d_MO_fewestMore_0 : decode b_MO_fewestMore 0 = .ok (.aload_n 0, 1) := by decide +kernel
theorem d_MO_fewestMore_1 : decode b_MO_fewestMore 1 = .ok (.aload_n 0, 1) := by decide +kernel
theorem d_MO_fewestMore_2 : decode b_MO_fewestMore 2 = .ok (.iload_n 1, 1) := by decide +kernel
theorem d_MO_fewestMore_3 : decode b_MO_fewestMore 3 = .ok (.iload_n 2, 1) := by decide +kernel
theorem d_MO_fewestMore_4 : decode b_MO_fewestMore 4 = .ok (.invokevirtual 126, 3) := by decide +kernel
theorem d_MO_fewestMore_7 : decode b_MO_fewestMore 7 = .ok (.putfield 74, 3) := by decide +kernel
theorem d_MO_fewestMore_10 : decode b_MO_fewestMore 10 = .ok (.aload_n 0, 1) := by decide +kernel
theorem d_MO_fewestMore_11 : decode b_MO_fewestMore 11 = .ok (.getfield 74, 3) := by decide +kernel
theorem d_MO_fewestMore_14 : decode b_MO_fewestMore 14 = .ok (.ifCond .le 5, 3) := by decide +kernel
theorem d_MO_fewestMore_17 : decode b_MO_fewestMore 17 = .ok (.iconst 0, 1) := by decide +kernel
theorem d_MO_fewestMore_18 : decode b_MO_fewestMore 18 = .ok (.ireturn, 1) := by decide +kernel
theorem d_MO_fewestMore_19 : decode b_MO_fewestMore 19 = .ok (.aload_n 0, 1) := by decide +kernel
theorem d_MO_fewestMore_20 : decode b_MO_fewestMore 20 = .ok (.iload_n 1, 1) := by decide +kernel
theorem d_MO_fewestMore_21 : decode b_MO_fewestMore 21 = .ok (.invokevirtual 129, 3) := by decide +kernel
theorem d_MO_fewestMore_24 : decode b_MO_fewestMore 24 = .ok (.aload_n 0, 1) := by decide +kernel
theorem d_MO_fewestMore_25 : decode b_MO_fewestMore 25 = .ok (.iload_n 1, 1) := by decide +kernel
theorem d_MO_fewestMore_26 : decode b_MO_fewestMore 26 = .ok (.iload_n 2, 1) := by decide +kernel
theorem d_MO_fewestMore_27 : decode b_MO_fewestMore 27 = .ok (.invokevirtual 133, 3) := by decide +kernel
theorem d_MO_fewestMore_30 : decode b_MO_fewestMore 30 = .ok (.istore_n 3, 1) := by decide +kernel
theorem d_MO_fewestMore_31 : decode b_MO_fewestMore 31 = .ok (.aload_n 0, 1) := by decide +kernel
theorem d_MO_fewestMore_32 : decode b_MO_fewestMore 32 = .ok (.bipush 62, 2) := by decide +kernel
theorem d_MO_fewestMore_34 : decode b_MO_fewestMore 34 = .ok (.invokevirtual 109, 3) := by decide +kernel
theorem d_MO_fewestMore_37 : decode b_MO_fewestMore 37 = .ok (.istore 4, 2) := by decide +kernel
theorem d_MO_fewestMore_39 : decode b_MO_fewestMore 39 = .ok (.iconst 0, 1) := by decide +kernel
theorem d_MO_fewestMore_40 : decode b_MO_fewestMore 40 = .ok (.istore 5, 2) := by decide +kernel
theorem d_MO_fewestMore_42 : decode b_MO_fewestMore 42 = .ok (.iconst 0, 1) := by decide +kernel
theorem d_MO_fewestMore_43 : decode b_MO_fewestMore 43 = .ok (.istore 6, 2) := by decide +kernel
theorem d_MO_fewestMore_45 : decode b_MO_fewestMore 45 = .ok (.iload 6, 2) := by decide +kernel
theorem d_MO_fewestMore_47 : decode b_MO_fewestMore 47 = .ok (.aload_n 0, 1) := by decide +kernel
theorem d_MO_fewestMore_48 : decode b_MO_fewestMore 48 = .ok (.getfield 81, 3) := by decide +kernel
theorem d_MO_fewestMore_51 : decode b_MO_fewestMore 51 = .ok (.if_icmp .ge 42, 3) := by decide +kernel
theorem d_MO_fewestMore_54 : decode b_MO_fewestMore 54 = .ok (.aload_n 0, 1) := by decide +kernel
theorem d_MO_fewestMore_55 : decode b_MO_fewestMore 55 = .ok (.getfield 19, 3) := by decide +kernel
theorem d_MO_fewestMore_58 : decode b_MO_fewestMore 58 = .ok (.iload 6, 2) := by decide +kernel
theorem d_MO_fewestMore_60 : decode b_MO_fewestMore 60 = .ok (.baload, 1) := by decide +kernel
theorem d_MO_fewestMore_61 : decode b_MO_fewestMore 61 = .ok (.ifCond .eq 22, 3) := by decide +kernel
theorem d_MO_fewestMore_64 : decode b_MO_fewestMore 64 = .ok (.iload_n 3, 1) := by decide +kernel
theorem d_MO_fewestMore_65 : decode b_MO_fewestMore 65 = .ok (.iload 6, 2) := by decide +kernel
theorem d_MO_fewestMore_67 : decode b_MO_fewestMore 67 = .ok (.ishr, 1) := by decide +kernel
theorem d_MO_fewestMore_68 : decode b_MO_fewestMore 68 = .ok (.iconst 1, 1) := by decide +kernel
theorem d_MO_fewestMore_69 : decode b_MO_fewestMore 69 = .ok (.iand, 1) := by decide +kernel
theorem d_MO_fewestMore_70 : decode b_MO_fewestMore 70 = .ok (.ifCond .ne 13, 3) := by decide +kernel
theorem d_MO_fewestMore_73 : decode b_MO_fewestMore 73 = .ok (.iload 5, 2) := by decide +kernel
theorem d_MO_fewestMore_75 : decode b_MO_fewestMore 75 = .ok (.iconst 1, 1) := by decide +kernel
theorem d_MO_fewestMore_76 : decode b_MO_fewestMore 76 = .ok (.iload 6, 2) := by decide +kernel
theorem d_MO_fewestMore_78 : decode b_MO_fewestMore 78 = .ok (.ishl, 1) := by decide +kernel
theorem d_MO_fewestMore_79 : decode b_MO_fewestMore 79 = .ok (.ior, 1) := by decide +kernel
theorem d_MO_fewestMore_80 : decode b_MO_fewestMore 80 = .ok (.goto 5, 3) := by decide +kernel
theorem d_MO_fewestMore_83 : decode b_MO_fewestMore 83 = .ok (.iload 5, 2) := by decide +kernel
theorem d_MO_fewestMore_85 : decode b_MO_fewestMore 85 = .ok (.istore 5, 2) := by decide +kernel
theorem d_MO_fewestMore_87 : decode b_MO_fewestMore 87 = .ok (.iinc 6 1, 3) := by decide +kernel
theorem d_MO_fewestMore_90 : decode b_MO_fewestMore 90 = .ok (.goto (-45), 3) := by decide +kernel
theorem d_MO_fewestMore_93 : decode b_MO_fewestMore 93 = .ok (.iconst (-1), 1) := by decide +kernel
theorem d_MO_fewestMore_94 : decode b_MO_fewestMore 94 = .ok (.istore 6, 2) := by decide +kernel
theorem d_MO_fewestMore_96 : decode b_MO_fewestMore 96 = .ok (.iconst 0, 1) := by decide +kernel
theorem d_MO_fewestMore_97 : decode b_MO_fewestMore 97 = .ok (.istore 7, 2) := by decide +kernel
theorem d_MO_fewestMore_99 : decode b_MO_fewestMore 99 = .ok (.iload 7, 2) := by decide +kernel
theorem d_MO_fewestMore_101 : decode b_MO_fewestMore 101 = .ok (.sipush 4096, 3) := by decide +kernel
theorem d_MO_fewestMore_104 : decode b_MO_fewestMore 104 = .ok (.if_icmp .ge 55, 3) := by decide +kernel
theorem d_MO_fewestMore_107 : decode b_MO_fewestMore 107 = .ok (.iload 7, 2) := by decide +kernel
theorem d_MO_fewestMore_109 : decode b_MO_fewestMore 109 = .ok (.invokestatic 136, 3) := by decide +kernel
theorem d_MO_fewestMore_112 : decode b_MO_fewestMore 112 = .ok (.istore 8, 2) := by decide +kernel
theorem d_MO_fewestMore_114 : decode b_MO_fewestMore 114 = .ok (.iload 7, 2) := by decide +kernel
theorem d_MO_fewestMore_116 : decode b_MO_fewestMore 116 = .ok (.iload 5, 2) := by decide +kernel
theorem d_MO_fewestMore_118 : decode b_MO_fewestMore 118 = .ok (.iconst (-1), 1) := by decide +kernel
theorem d_MO_fewestMore_119 : decode b_MO_fewestMore 119 = .ok (.ixor, 1) := by decide +kernel
theorem d_MO_fewestMore_120 : decode b_MO_fewestMore 120 = .ok (.iand, 1) := by decide +kernel
theorem d_MO_fewestMore_121 : decode b_MO_fewestMore 121 = .ok (.ifCond .ne 32, 3) := by decide +kernel
theorem d_MO_fewestMore_124 : decode b_MO_fewestMore 124 = .ok (.iload 6, 2) := by decide +kernel
theorem d_MO_fewestMore_126 : decode b_MO_fewestMore 126 = .ok (.ifCond .lt 10, 3) := by decide +kernel
theorem d_MO_fewestMore_129 : decode b_MO_fewestMore 129 = .ok (.iload 8, 2) := by decide +kernel
theorem d_MO_fewestMore_131 : decode b_MO_fewestMore 131 = .ok (.iload 6, 2) := by decide +kernel
theorem d_MO_fewestMore_133 : decode b_MO_fewestMore 133 = .ok (.if_icmp .ge 20, 3) := by decide +kernel
theorem d_MO_fewestMore_136 : decode b_MO_fewestMore 136 = .ok (.aload_n 0, 1) := by decide +kernel
theorem d_MO_fewestMore_137 : decode b_MO_fewestMore 137 = .ok (.iload_n 3, 1) := by decide +kernel
theorem d_MO_fewestMore_138 : decode b_MO_fewestMore 138 = .ok (.iload 7, 2) := by decide +kernel
theorem d_MO_fewestMore_140 : decode b_MO_fewestMore 140 = .ok (.ior, 1) := by decide +kernel
theorem d_MO_fewestMore_141 : decode b_MO_fewestMore 141 = .ok (.invokevirtual 123, 3) := by decide +kernel
theorem d_MO_fewestMore_144 : decode b_MO_fewestMore 144 = .ok (.iload 4, 2) := by decide +kernel
theorem d_MO_fewestMore_146 : decode b_MO_fewestMore 146 = .ok (.if_icmp .ne 7, 3) := by decide +kernel
theorem d_MO_fewestMore_149 : decode b_MO_fewestMore 149 = .ok (.iload 8, 2) := by decide +kernel
theorem d_MO_fewestMore_151 : decode b_MO_fewestMore 151 = .ok (.istore 6, 2) := by decide +kernel
theorem d_MO_fewestMore_153 : decode b_MO_fewestMore 153 = .ok (.iinc 7 1, 3) := by decide +kernel
theorem d_MO_fewestMore_156 : decode b_MO_fewestMore 156 = .ok (.goto (-57), 3) := by decide +kernel
theorem d_MO_fewestMore_159 : decode b_MO_fewestMore 159 = .ok (.iload 6, 2) := by decide +kernel
theorem d_MO_fewestMore_161 : decode b_MO_fewestMore 161 = .ok (.ireturn, 1) := by decide +kernel
theorem d_CA_init_0 : decode b_CA_init 0 = .ok (.aload_n 0, 1) := by decide +kernel
theorem d_CA_init_1 : decode b_CA_init 1 = .ok (.invokespecial 3, 3) := by decide +kernel
theorem d_CA_init_4 : decode b_CA_init 4 = .ok (.aload_n 0, 1) := by decide +kernel
theorem d_CA_init_5 : decode b_CA_init 5 = .ok (.bipush 6, 2) := by decide +kernel
theorem d_CA_init_7 : decode b_CA_init 7 = .ok (.newarray .int, 2) := by decide +kernel
theorem d_CA_init_9 : decode b_CA_init 9 = .ok (.putfield 9, 3) := by decide +kernel
theorem d_CA_init_12 : decode b_CA_init 12 = .ok (.aload_n 0, 1) := by decide +kernel
theorem d_CA_init_13 : decode b_CA_init 13 = .ok (.bipush 6, 2) := by decide +kernel
theorem d_CA_init_15 : decode b_CA_init 15 = .ok (.newarray .int, 2) := by decide +kernel
theorem d_CA_init_17 : decode b_CA_init 17 = .ok (.putfield 15, 3) := by decide +kernel
theorem d_CA_init_20 : decode b_CA_init 20 = .ok (.aload_n 0, 1) := by decide +kernel
theorem d_CA_init_21 : decode b_CA_init 21 = .ok (.bipush 6, 2) := by decide +kernel
theorem d_CA_init_23 : decode b_CA_init 23 = .ok (.newarray .int, 2) := by decide +kernel
theorem d_CA_init_25 : decode b_CA_init 25 = .ok (.putfield 18, 3) := by decide +kernel
theorem d_CA_init_28 : decode b_CA_init 28 = .ok (.aload_n 0, 1) := by decide +kernel
theorem d_CA_init_29 : decode b_CA_init 29 = .ok (.bipush 12, 2) := by decide +kernel
theorem d_CA_init_31 : decode b_CA_init 31 = .ok (.newarray .int, 2) := by decide +kernel
theorem d_CA_init_33 : decode b_CA_init 33 = .ok (.putfield 21, 3) := by decide +kernel
theorem d_CA_init_36 : decode b_CA_init 36 = .ok (.aload_n 0, 1) := by decide +kernel
theorem d_CA_init_37 : decode b_CA_init 37 = .ok (.bipush 12, 2) := by decide +kernel
theorem d_CA_init_39 : decode b_CA_init 39 = .ok (.newarray .int, 2) := by decide +kernel
theorem d_CA_init_41 : decode b_CA_init 41 = .ok (.putfield 24, 3) := by decide +kernel
theorem d_CA_init_44 : decode b_CA_init 44 = .ok (.aload_n 0, 1) := by decide +kernel
theorem d_CA_init_45 : decode b_CA_init 45 = .ok (.bipush 6, 2) := by decide +kernel
theorem d_CA_init_47 : decode b_CA_init 47 = .ok (.newarray .int, 2) := by decide +kernel
theorem d_CA_init_49 : decode b_CA_init 49 = .ok (.putfield 27, 3) := by decide +kernel
theorem d_CA_init_52 : decode b_CA_init 52 = .ok (.return_, 1) := by decide +kernel
theorem d_CA_addGroup_0 : decode b_CA_addGroup 0 = .ok (.aload_n 0, 1) := by decide +kernel
theorem d_CA_addGroup_1 : decode b_CA_addGroup 1 = .ok (.getfield 30, 3) := by decide +kernel
theorem d_CA_addGroup_4 : decode b_CA_addGroup 4 = .ok (.istore_n 3, 1) := by decide +kernel
theorem d_CA_addGroup_5 : decode b_CA_addGroup 5 = .ok (.aload_n 0, 1) := by decide +kernel
theorem d_CA_addGroup_6 : decode b_CA_addGroup 6 = .ok (.getfield 9, 3) := by decide +kernel
theorem d_CA_addGroup_9 : decode b_CA_addGroup 9 = .ok (.iload_n 3, 1) := by decide +kernel
theorem d_CA_addGroup_10 : decode b_CA_addGroup 10 = .ok (.iload_n 1, 1) := by decide +kernel
theorem d_CA_addGroup_11 : decode b_CA_addGroup 11 = .ok (.iastore, 1) := by decide +kernel
theorem d_CA_addGroup_12 : decode b_CA_addGroup 12 = .ok (.aload_n 0, 1) := by decide +kernel
theorem d_CA_addGroup_13 : decode b_CA_addGroup 13 = .ok (.getfield 15, 3) := by decide +kernel
theorem d_CA_addGroup_16 : decode b_CA_addGroup 16 = .ok (.iload_n 3, 1) := by decide +kernel
theorem d_CA_addGroup_17 : decode b_CA_addGroup 17 = .ok (.iload_n 2, 1) := by decide +kernel
theorem d_CA_addGroup_18 : decode b_CA_addGroup 18 = .ok (.iastore, 1) := by decide +kernel
theorem d_CA_addGroup_19 : decode b_CA_addGroup 19 = .ok (.aload_n 0, 1) := by decide +kernel
theorem d_CA_addGroup_20 : decode b_CA_addGroup 20 = .ok (.dup, 1) := by decide +kernel
theorem d_CA_addGroup_21 : decode b_CA_addGroup 21 = .ok (.getfield 30, 3) := by decide +kernel
theorem d_CA_addGroup_24 : decode b_CA_addGroup 24 = .ok (.iconst 1, 1) := by decide +kernel
theorem d_CA_addGroup_25 : decode b_CA_addGroup 25 = .ok (.iadd, 1) := by decide +kernel
theorem d_CA_addGroup_26 : decode b_CA_addGroup 26 = .ok (.putfield 30, 3) := by decide +kernel
theorem d_CA_addGroup_29 : decode b_CA_addGroup 29 = .ok (.iload_n 3, 1) := by decide +kernel
theorem d_CA_addGroup_30 : decode b_CA_addGroup 30 = .ok (.ireturn, 1) := by decide +kernel
theorem d_CA_addCourse_0 : decode b_CA_addCourse 0 = .ok (.aload_n 0, 1) := by decide +kernel
theorem d_CA_addCourse_1 : decode b_CA_addCourse 1 = .ok (.getfield 34, 3) := by decide +kernel
theorem d_CA_addCourse_4 : decode b_CA_addCourse 4 = .ok (.istore_n 2, 1) := by decide +kernel
theorem d_CA_addCourse_5 : decode b_CA_addCourse 5 = .ok (.aload_n 0, 1) := by decide +kernel
theorem d_CA_addCourse_6 : decode b_CA_addCourse 6 = .ok (.getfield 21, 3) := by decide +kernel
theorem d_CA_addCourse_9 : decode b_CA_addCourse 9 = .ok (.iload_n 2, 1) := by decide +kernel
theorem d_CA_addCourse_10 : decode b_CA_addCourse 10 = .ok (.iload_n 1, 1) := by decide +kernel
theorem d_CA_addCourse_11 : decode b_CA_addCourse 11 = .ok (.iastore, 1) := by decide +kernel
theorem d_CA_addCourse_12 : decode b_CA_addCourse 12 = .ok (.aload_n 0, 1) := by decide +kernel
theorem d_CA_addCourse_13 : decode b_CA_addCourse 13 = .ok (.getfield 18, 3) := by decide +kernel
theorem d_CA_addCourse_16 : decode b_CA_addCourse 16 = .ok (.iload_n 1, 1) := by decide +kernel
theorem d_CA_addCourse_17 : decode b_CA_addCourse 17 = .ok (.aload_n 0, 1) := by decide +kernel
theorem d_CA_addCourse_18 : decode b_CA_addCourse 18 = .ok (.getfield 18, 3) := by decide +kernel
theorem d_CA_addCourse_21 : decode b_CA_addCourse 21 = .ok (.iload_n 1, 1) := by decide +kernel
theorem d_CA_addCourse_22 : decode b_CA_addCourse 22 = .ok (.iaload, 1) := by decide +kernel
theorem d_CA_addCourse_23 : decode b_CA_addCourse 23 = .ok (.iload_n 2, 1) := by decide +kernel
theorem d_CA_addCourse_24 : decode b_CA_addCourse 24 = .ok (.invokestatic 37, 3) := by decide +kernel
theorem d_CA_addCourse_27 : decode b_CA_addCourse 27 = .ok (.iastore, 1) := by decide +kernel
theorem d_CA_addCourse_28 : decode b_CA_addCourse 28 = .ok (.aload_n 0, 1) := by decide +kernel
theorem d_CA_addCourse_29 : decode b_CA_addCourse 29 = .ok (.getfield 24, 3) := by decide +kernel
theorem d_CA_addCourse_32 : decode b_CA_addCourse 32 = .ok (.iload_n 2, 1) := by decide +kernel
theorem d_CA_addCourse_33 : decode b_CA_addCourse 33 = .ok (.iconst (-1), 1) := by decide +kernel
theorem d_CA_addCourse_34 : decode b_CA_addCourse 34 = .ok (.iastore, 1) := by decide +kernel
theorem d_CA_addCourse_35 : decode b_CA_addCourse 35 = .ok (.aload_n 0, 1) := by decide +kernel
theorem d_CA_addCourse_36 : decode b_CA_addCourse 36 = .ok (.aload_n 0, 1) := by decide +kernel
theorem d_CA_addCourse_37 : decode b_CA_addCourse 37 = .ok (.getfield 41, 3) := by decide +kernel
theorem d_CA_addCourse_40 : decode b_CA_addCourse 40 = .ok (.iload_n 2, 1) := by decide +kernel
theorem d_CA_addCourse_41 : decode b_CA_addCourse 41 = .ok (.invokestatic 37, 3) := by decide +kernel
theorem d_CA_addCourse_44 : decode b_CA_addCourse 44 = .ok (.putfield 41, 3) := by decide +kernel
theorem d_CA_addCourse_47 : decode b_CA_addCourse 47 = .ok (.aload_n 0, 1) := by decide +kernel
theorem d_CA_addCourse_48 : decode b_CA_addCourse 48 = .ok (.dup, 1) := by decide +kernel
theorem d_CA_addCourse_49 : decode b_CA_addCourse 49 = .ok (.getfield 34, 3) := by decide +kernel
theorem d_CA_addCourse_52 : decode b_CA_addCourse 52 = .ok (.iconst 1, 1) := by decide +kernel
theorem d_CA_addCourse_53 : decode b_CA_addCourse 53 = .ok (.iadd, 1) := by decide +kernel
theorem d_CA_addCourse_54 : decode b_CA_addCourse 54 = .ok (.putfield 34, 3) := by decide +kernel
theorem d_CA_addCourse_57 : decode b_CA_addCourse 57 = .ok (.iload_n 2, 1) := by decide +kernel
theorem d_CA_addCourse_58 : decode b_CA_addCourse 58 = .ok (.ireturn, 1) := by decide +kernel
theorem d_CA_coursesWithin_0 : decode b_CA_coursesWithin 0 = .ok (.iconst 0, 1) := by decide +kernel
theorem d_CA_coursesWithin_1 : decode b_CA_coursesWithin 1 = .ok (.iload_n 1, 1) := by decide +kernel
theorem d_CA_coursesWithin_2 : decode b_CA_coursesWithin 2 = .ok (.invokestatic 37, 3) := by decide +kernel
theorem d_CA_coursesWithin_5 : decode b_CA_coursesWithin 5 = .ok (.istore_n 2, 1) := by decide +kernel
theorem d_CA_coursesWithin_6 : decode b_CA_coursesWithin 6 = .ok (.aload_n 0, 1) := by decide +kernel
theorem d_CA_coursesWithin_7 : decode b_CA_coursesWithin 7 = .ok (.getfield 18, 3) := by decide +kernel
theorem d_CA_coursesWithin_10 : decode b_CA_coursesWithin 10 = .ok (.iload_n 1, 1) := by decide +kernel
theorem d_CA_coursesWithin_11 : decode b_CA_coursesWithin 11 = .ok (.iaload, 1) := by decide +kernel
theorem d_CA_coursesWithin_12 : decode b_CA_coursesWithin 12 = .ok (.istore_n 3, 1) := by decide +kernel
theorem d_CA_coursesWithin_13 : decode b_CA_coursesWithin 13 = .ok (.iload_n 1, 1) := by decide +kernel
theorem d_CA_coursesWithin_14 : decode b_CA_coursesWithin 14 = .ok (.iconst 1, 1) := by decide +kernel
theorem d_CA_coursesWithin_15 : decode b_CA_coursesWithin 15 = .ok (.iadd, 1) := by decide +kernel
theorem d_CA_coursesWithin_16 : decode b_CA_coursesWithin 16 = .ok (.istore 4, 2) := by decide +kernel
theorem d_CA_coursesWithin_18 : decode b_CA_coursesWithin 18 = .ok (.iload 4, 2) := by decide +kernel
theorem d_CA_coursesWithin_20 : decode b_CA_coursesWithin 20 = .ok (.aload_n 0, 1) := by decide +kernel
theorem d_CA_coursesWithin_21 : decode b_CA_coursesWithin 21 = .ok (.getfield 30, 3) := by decide +kernel
theorem d_CA_coursesWithin_24 : decode b_CA_coursesWithin 24 = .ok (.if_icmp .ge 40, 3) := by decide +kernel
theorem d_CA_coursesWithin_27 : decode b_CA_coursesWithin 27 = .ok (.iload_n 2, 1) := by decide +kernel
theorem d_CA_coursesWithin_28 : decode b_CA_coursesWithin 28 = .ok (.aload_n 0, 1) := by decide +kernel
theorem d_CA_coursesWithin_29 : decode b_CA_coursesWithin 29 = .ok (.getfield 9, 3) := by decide +kernel
theorem d_CA_coursesWithin_32 : decode b_CA_coursesWithin 32 = .ok (.iload 4, 2) := by decide +kernel
theorem d_CA_coursesWithin_34 : decode b_CA_coursesWithin 34 = .ok (.iaload, 1) := by decide +kernel
theorem d_CA_coursesWithin_35 : decode b_CA_coursesWithin 35 = .ok (.invokestatic 44, 3) := by decide +kernel
theorem d_CA_coursesWithin_38 : decode b_CA_coursesWithin 38 = .ok (.ifCond .eq 20, 3) := by decide +kernel
theorem d_CA_coursesWithin_41 : decode b_CA_coursesWithin 41 = .ok (.iload_n 2, 1) := by decide +kernel
theorem d_CA_coursesWithin_42 : decode b_CA_coursesWithin 42 = .ok (.iload 4, 2) := by decide +kernel
theorem d_CA_coursesWithin_44 : decode b_CA_coursesWithin 44 = .ok (.invokestatic 37, 3) := by decide +kernel
theorem d_CA_coursesWithin_47 : decode b_CA_coursesWithin 47 = .ok (.istore_n 2, 1) := by decide +kernel
theorem d_CA_coursesWithin_48 : decode b_CA_coursesWithin 48 = .ok (.iload_n 3, 1) := by decide +kernel
theorem d_CA_coursesWithin_49 : decode b_CA_coursesWithin 49 = .ok (.aload_n 0, 1) := by decide +kernel
theorem d_CA_coursesWithin_50 : decode b_CA_coursesWithin 50 = .ok (.getfield 18, 3) := by decide +kernel
theorem d_CA_coursesWithin_53 : decode b_CA_coursesWithin 53 = .ok (.iload 4, 2) := by decide +kernel
theorem d_CA_coursesWithin_55 : decode b_CA_coursesWithin 55 = .ok (.iaload, 1) := by decide +kernel
theorem d_CA_coursesWithin_56 : decode b_CA_coursesWithin 56 = .ok (.ior, 1) := by decide +kernel
theorem d_CA_coursesWithin_57 : decode b_CA_coursesWithin 57 = .ok (.istore_n 3, 1) := by decide +kernel
theorem d_CA_coursesWithin_58 : decode b_CA_coursesWithin 58 = .ok (.iinc 4 1, 3) := by decide +kernel
theorem d_CA_coursesWithin_61 : decode b_CA_coursesWithin 61 = .ok (.goto (-43), 3) := by decide +kernel
theorem d_CA_coursesWithin_64 : decode b_CA_coursesWithin 64 = .ok (.iload_n 3, 1) := by decide +kernel
theorem d_CA_coursesWithin_65 : decode b_CA_coursesWithin 65 = .ok (.ireturn, 1) := by decide +kernel
theorem d_CA_mostWithinLimits_0 : decode b_CA_mostWithinLimits 0 = .ok (.aload_n 0, 1) := by decide +kernel
theorem d_CA_mostWithinLimits_1 : decode b_CA_mostWithinLimits 1 = .ok (.getfield 27, 3) := by decide +kernel
theorem d_CA_mostWithinLimits_4 : decode b_CA_mostWithinLimits 4 = .ok (.iconst 0, 1) := by decide +kernel
theorem d_CA_mostWithinLimits_5 : decode b_CA_mostWithinLimits 5 = .ok (.invokestatic 48, 3) := by decide +kernel
theorem d_CA_mostWithinLimits_8 : decode b_CA_mostWithinLimits 8 = .ok (.aload_n 0, 1) := by decide +kernel
theorem d_CA_mostWithinLimits_9 : decode b_CA_mostWithinLimits 9 = .ok (.getfield 30, 3) := by decide +kernel
theorem d_CA_mostWithinLimits_12 : decode b_CA_mostWithinLimits 12 = .ok (.iconst 1, 1) := by decide +kernel
theorem d_CA_mostWithinLimits_13 : decode b_CA_mostWithinLimits 13 = .ok (.isub, 1) := by decide +kernel
theorem d_CA_mostWithinLimits_14 : decode b_CA_mostWithinLimits 14 = .ok (.istore_n 2, 1) := by decide +kernel
theorem d_CA_mostWithinLimits_15 : decode b_CA_mostWithinLimits 15 = .ok (.iload_n 2, 1) := by decide +kernel
theorem d_CA_mostWithinLimits_16 : decode b_CA_mostWithinLimits 16 = .ok (.ifCond .le 29, 3) := by decide +kernel
theorem d_CA_mostWithinLimits_19 : decode b_CA_mostWithinLimits 19 = .ok (.aload_n 0, 1) := by decide +kernel
theorem d_CA_mostWithinLimits_20 : decode b_CA_mostWithinLimits 20 = .ok (.getfield 27, 3) := by decide +kernel
theorem d_CA_mostWithinLimits_23 : decode b_CA_mostWithinLimits 23 = .ok (.aload_n 0, 1) := by decide +kernel
theorem d_CA_mostWithinLimits_24 : decode b_CA_mostWithinLimits 24 = .ok (.getfield 9, 3) := by decide +kernel
theorem d_CA_mostWithinLimits_27 : decode b_CA_mostWithinLimits 27 = .ok (.iload_n 2, 1) := by decide +kernel
theorem d_CA_mostWithinLimits_28 : decode b_CA_mostWithinLimits 28 = .ok (.iaload, 1) := by decide +kernel
theorem d_CA_mostWithinLimits_29 : decode b_CA_mostWithinLimits 29 = .ok (.dup2, 1) := by decide +kernel
theorem d_CA_mostWithinLimits_30 : decode b_CA_mostWithinLimits 30 = .ok (.iaload, 1) := by decide +kernel
theorem d_CA_mostWithinLimits_31 : decode b_CA_mostWithinLimits 31 = .ok (.aload_n 0, 1) := by decide +kernel
theorem d_CA_mostWithinLimits_32 : decode b_CA_mostWithinLimits 32 = .ok (.iload_n 2, 1) := by decide +kernel
theorem d_CA_mostWithinLimits_33 : decode b_CA_mostWithinLimits 33 = .ok (.iload_n 1, 1) := by decide +kernel
theorem d_CA_mostWithinLimits_34 : decode b_CA_mostWithinLimits 34 = .ok (.invokevirtual 54, 3) := by decide +kernel
theorem d_CA_mostWithinLimits_37 : decode b_CA_mostWithinLimits 37 = .ok (.iadd, 1) := by decide +kernel
theorem d_CA_mostWithinLimits_38 : decode b_CA_mostWithinLimits 38 = .ok (.iastore, 1) := by decide +kernel
theorem d_CA_mostWithinLimits_39 : decode b_CA_mostWithinLimits 39 = .ok (.iinc 2 (-1), 3) := by decide +kernel
theorem d_CA_mostWithinLimits_42 : decode b_CA_mostWithinLimits 42 = .ok (.goto (-27), 3) := by decide +kernel
theorem d_CA_mostWithinLimits_45 : decode b_CA_mostWithinLimits 45 = .ok (.aload_n 0, 1) := by decide +kernel
theorem d_CA_mostWithinLimits_46 : decode b_CA_mostWithinLimits 46 = .ok (.getfield 30, 3) := by decide +kernel
theorem d_CA_mostWithinLimits_49 : decode b_CA_mostWithinLimits 49 = .ok (.ifCond .ne 7, 3) := by decide +kernel
theorem d_CA_mostWithinLimits_52 : decode b_CA_mostWithinLimits 52 = .ok (.iconst 0, 1) := by decide +kernel
theorem d_CA_mostWithinLimits_53 : decode b_CA_mostWithinLimits 53 = .ok (.goto 9, 3) := by decide +kernel
theorem d_CA_mostWithinLimits_56 : decode b_CA_mostWithinLimits 56 = .ok (.aload_n 0, 1) := by decide +kernel
theorem d_CA_mostWithinLimits_57 : decode b_CA_mostWithinLimits 57 = .ok (.iconst 0, 1) := by decide +kernel
theorem d_CA_mostWithinLimits_58 : decode b_CA_mostWithinLimits 58 = .ok (.iload_n 1, 1) := by decide +kernel
theorem d_CA_mostWithinLimits_59 : decode b_CA_mostWithinLimits 59 = .ok (.invokevirtual 54, 3) := by decide +kernel
theorem d_CA_mostWithinLimits_62 : decode b_CA_mostWithinLimits 62 = .ok (.ireturn, 1) := by decide +kernel
theorem d_CA_takenIn_0 : decode b_CA_takenIn 0 = .ok (.aload_n 0, 1) := by decide +kernel
theorem d_CA_takenIn_1 : decode b_CA_takenIn 1 = .ok (.iload_n 1, 1) := by decide +kernel
theorem d_CA_takenIn_2 : decode b_CA_takenIn 2 = .ok (.invokevirtual 57, 3) := by decide +kernel
theorem d_CA_takenIn_5 : decode b_CA_takenIn 5 = .ok (.aload_n 0, 1) := by decide +kernel
theorem d_CA_takenIn_6 : decode b_CA_takenIn 6 = .ok (.getfield 27, 3) := by decide +kernel
theorem d_CA_takenIn_9 : decode b_CA_takenIn 9 = .ok (.iload_n 1, 1) := by decide +kernel
theorem d_CA_takenIn_10 : decode b_CA_takenIn 10 = .ok (.iaload, 1) := by decide +kernel
theorem d_CA_takenIn_11 : decode b_CA_takenIn 11 = .ok (.iload_n 2, 1) := by decide +kernel
theorem d_CA_takenIn_12 : decode b_CA_takenIn 12 = .ok (.aload_n 0, 1) := by decide +kernel
theorem d_CA_takenIn_13 : decode b_CA_takenIn 13 = .ok (.getfield 18, 3) := by decide +kernel
theorem d_CA_takenIn_16 : decode b_CA_takenIn 16 = .ok (.iload_n 1, 1) := by decide +kernel
theorem d_CA_takenIn_17 : decode b_CA_takenIn 17 = .ok (.iaload, 1) := by decide +kernel
theorem d_CA_takenIn_18 : decode b_CA_takenIn 18 = .ok (.iand, 1) := by decide +kernel
theorem d_CA_takenIn_19 : decode b_CA_takenIn 19 = .ok (.invokestatic 61, 3) := by decide +kernel
theorem d_CA_takenIn_22 : decode b_CA_takenIn 22 = .ok (.iadd, 1) := by decide +kernel
theorem d_CA_takenIn_23 : decode b_CA_takenIn 23 = .ok (.invokestatic 66, 3) := by decide +kernel
theorem d_CA_takenIn_26 : decode b_CA_takenIn 26 = .ok (.ireturn, 1) := by decide +kernel
theorem d_CA_room_0 : decode b_CA_room 0 = .ok (.aload_n 0, 1) := by decide +kernel
theorem d_CA_room_1 : decode b_CA_room 1 = .ok (.getfield 15, 3) := by decide +kernel
theorem d_CA_room_4 : decode b_CA_room 4 = .ok (.iload_n 1, 1) := by decide +kernel
theorem d_CA_room_5 : decode b_CA_room 5 = .ok (.iaload, 1) := by decide +kernel
theorem d_CA_room_6 : decode b_CA_room 6 = .ok (.iconst (-1), 1) := by decide +kernel
theorem d_CA_room_7 : decode b_CA_room 7 = .ok (.if_icmp .ne 8, 3) := by decide +kernel
theorem d_CA_room_10 : decode b_CA_room 10 = .ok (.bipush 12, 2) := by decide +kernel
theorem d_CA_room_12 : decode b_CA_room 12 = .ok (.goto 9, 3) := by decide +kernel
theorem d_CA_room_15 : decode b_CA_room 15 = .ok (.aload_n 0, 1) := by decide +kernel
theorem d_CA_room_16 : decode b_CA_room 16 = .ok (.getfield 15, 3) := by decide +kernel
theorem d_CA_room_19 : decode b_CA_room 19 = .ok (.iload_n 1, 1) := by decide +kernel
theorem d_CA_room_20 : decode b_CA_room 20 = .ok (.iaload, 1) := by decide +kernel
theorem d_CA_room_21 : decode b_CA_room 21 = .ok (.ireturn, 1) := by decide +kernel
theorem d_CM_init_0 : decode b_CM_init 0 = .ok (.aload_n 0, 1) := by decide +kernel
theorem d_CM_init_1 : decode b_CM_init 1 = .ok (.invokespecial 3, 3) := by decide +kernel
theorem d_CM_init_4 : decode b_CM_init 4 = .ok (.aload_n 0, 1) := by decide +kernel
theorem d_CM_init_5 : decode b_CM_init 5 = .ok (.bipush 6, 2) := by decide +kernel
theorem d_CM_init_7 : decode b_CM_init 7 = .ok (.newarray .int, 2) := by decide +kernel
theorem d_CM_init_9 : decode b_CM_init 9 = .ok (.putfield 9, 3) := by decide +kernel
theorem d_CM_init_12 : decode b_CM_init 12 = .ok (.aload_n 0, 1) := by decide +kernel
theorem d_CM_init_13 : decode b_CM_init 13 = .ok (.bipush 6, 2) := by decide +kernel
theorem d_CM_init_15 : decode b_CM_init 15 = .ok (.newarray .int, 2) := by decide +kernel
theorem d_CM_init_17 : decode b_CM_init 17 = .ok (.putfield 15, 3) := by decide +kernel
theorem d_CM_init_20 : decode b_CM_init 20 = .ok (.return_, 1) := by decide +kernel
theorem d_CM_read_0 : decode b_CM_read 0 = .ok (.aload_n 0, 1) := by decide +kernel
theorem d_CM_read_1 : decode b_CM_read 1 = .ok (.aload_n 1, 1) := by decide +kernel
theorem d_CM_read_2 : decode b_CM_read 2 = .ok (.getfield 18, 3) := by decide +kernel
theorem d_CM_read_5 : decode b_CM_read 5 = .ok (.putfield 24, 3) := by decide +kernel
theorem d_CM_read_8 : decode b_CM_read 8 = .ok (.iconst 1, 1) := by decide +kernel
theorem d_CM_read_9 : decode b_CM_read 9 = .ok (.istore_n 3, 1) := by decide +kernel
theorem d_CM_read_10 : decode b_CM_read 10 = .ok (.iload_n 3, 1) := by decide +kernel
theorem d_CM_read_11 : decode b_CM_read 11 = .ok (.aload_n 0, 1) := by decide +kernel
theorem d_CM_read_12 : decode b_CM_read 12 = .ok (.getfield 24, 3) := by decide +kernel
theorem d_CM_read_15 : decode b_CM_read 15 = .ok (.if_icmp .gt 37, 3) := by decide +kernel
theorem d_CM_read_18 : decode b_CM_read 18 = .ok (.aload_n 0, 1) := by decide +kernel
theorem d_CM_read_19 : decode b_CM_read 19 = .ok (.getfield 9, 3) := by decide +kernel
theorem d_CM_read_22 : decode b_CM_read 22 = .ok (.iload_n 3, 1) := by decide +kernel
theorem d_CM_read_23 : decode b_CM_read 23 = .ok (.aload_n 2, 1) := by decide +kernel
theorem d_CM_read_24 : decode b_CM_read 24 = .ok (.aload_n 1, 1) := by decide +kernel
theorem d_CM_read_25 : decode b_CM_read 25 = .ok (.iload_n 3, 1) := by decide +kernel
theorem d_CM_read_26 : decode b_CM_read 26 = .ok (.invokevirtual 25, 3) := by decide +kernel
theorem d_CM_read_29 : decode b_CM_read 29 = .ok (.iastore, 1) := by decide +kernel
theorem d_CM_read_30 : decode b_CM_read 30 = .ok (.aload_n 0, 1) := by decide +kernel
theorem d_CM_read_31 : decode b_CM_read 31 = .ok (.getfield 15, 3) := by decide +kernel
theorem d_CM_read_34 : decode b_CM_read 34 = .ok (.iload_n 3, 1) := by decide +kernel
theorem d_CM_read_35 : decode b_CM_read 35 = .ok (.aload_n 1, 1) := by decide +kernel
theorem d_CM_read_36 : decode b_CM_read 36 = .ok (.getfield 31, 3) := by decide +kernel
theorem d_CM_read_39 : decode b_CM_read 39 = .ok (.iload_n 3, 1) := by decide +kernel
theorem d_CM_read_40 : decode b_CM_read 40 = .ok (.iaload, 1) := by decide +kernel
theorem d_CM_read_41 : decode b_CM_read 41 = .ok (.aload_n 2, 1) := by decide +kernel
theorem d_CM_read_42 : decode b_CM_read 42 = .ok (.invokestatic 34, 3) := by decide +kernel
theorem d_CM_read_45 : decode b_CM_read 45 = .ok (.iastore, 1) := by decide +kernel
theorem d_CM_read_46 : decode b_CM_read 46 = .ok (.iinc 3 1, 3) := by decide +kernel
theorem d_CM_read_49 : decode b_CM_read 49 = .ok (.goto (-39), 3) := by decide +kernel
theorem d_CM_read_52 : decode b_CM_read 52 = .ok (.return_, 1) := by decide +kernel
theorem d_CM_countingFor_0 : decode b_CM_countingFor 0 = .ok (.iload_n 0, 1) := by decide +kernel
theorem d_CM_countingFor_1 : decode b_CM_countingFor 1 = .ok (.istore_n 2, 1) := by decide +kernel
theorem d_CM_countingFor_2 : decode b_CM_countingFor 2 = .ok (.iconst 0, 1) := by decide +kernel
theorem d_CM_countingFor_3 : decode b_CM_countingFor 3 = .ok (.istore_n 3, 1) := by decide +kernel
theorem d_CM_countingFor_4 : decode b_CM_countingFor 4 = .ok (.iload_n 3, 1) := by decide +kernel
theorem d_CM_countingFor_5 : decode b_CM_countingFor 5 = .ok (.bipush 12, 2) := by decide +kernel
theorem d_CM_countingFor_7 : decode b_CM_countingFor 7 = .ok (.if_icmp .ge 26, 3) := by decide +kernel
theorem d_CM_countingFor_10 : decode b_CM_countingFor 10 = .ok (.aload_n 1, 1) := by decide +kernel
theorem d_CM_countingFor_11 : decode b_CM_countingFor 11 = .ok (.getfield 38, 3) := by decide +kernel
theorem d_CM_countingFor_14 : decode b_CM_countingFor 14 = .ok (.iload_n 3, 1) := by decide +kernel
theorem d_CM_countingFor_15 : decode b_CM_countingFor 15 = .ok (.iaload, 1) := by decide +kernel
theorem d_CM_countingFor_16 : decode b_CM_countingFor 16 = .ok (.iload_n 0, 1) := by decide +kernel
theorem d_CM_countingFor_17 : decode b_CM_countingFor 17 = .ok (.iand, 1) := by decide +kernel
theorem d_CM_countingFor_18 : decode b_CM_countingFor 18 = .ok (.ifCond .eq 9, 3) := by decide +kernel
theorem d_CM_countingFor_21 : decode b_CM_countingFor 21 = .ok (.iload_n 2, 1) := by decide +kernel
theorem d_CM_countingFor_22 : decode b_CM_countingFor 22 = .ok (.iload_n 3, 1) := by decide +kernel
theorem d_CM_countingFor_23 : decode b_CM_countingFor 23 = .ok (.invokestatic 41, 3) := by decide +kernel
theorem d_CM_countingFor_26 : decode b_CM_countingFor 26 = .ok (.istore_n 2, 1) := by decide +kernel
theorem d_CM_countingFor_27 : decode b_CM_countingFor 27 = .ok (.iinc 3 1, 3) := by decide +kernel
theorem d_CM_countingFor_30 : decode b_CM_countingFor 30 = .ok (.goto (-26), 3) := by decide +kernel
theorem d_CM_countingFor_33 : decode b_CM_countingFor 33 = .ok (.iload_n 2, 1) := by decide +kernel
theorem d_CM_countingFor_34 : decode b_CM_countingFor 34 = .ok (.ireturn, 1) := by decide +kernel
theorem d_CM_all_0 : decode b_CM_all 0 = .ok (.iconst 2, 1) := by decide +kernel
theorem d_CM_all_1 : decode b_CM_all 1 = .ok (.aload_n 0, 1) := by decide +kernel
theorem d_CM_all_2 : decode b_CM_all 2 = .ok (.getfield 24, 3) := by decide +kernel
theorem d_CM_all_5 : decode b_CM_all 5 = .ok (.ishl, 1) := by decide +kernel
theorem d_CM_all_6 : decode b_CM_all 6 = .ok (.iconst 2, 1) := by decide +kernel
theorem d_CM_all_7 : decode b_CM_all 7 = .ok (.isub, 1) := by decide +kernel
theorem d_CM_all_8 : decode b_CM_all 8 = .ok (.ireturn, 1) := by decide +kernel
theorem d_CM_needOfSet_0 : decode b_CM_needOfSet 0 = .ok (.iconst 0, 1) := by decide +kernel
theorem d_CM_needOfSet_1 : decode b_CM_needOfSet 1 = .ok (.istore_n 2, 1) := by decide +kernel
theorem d_CM_needOfSet_2 : decode b_CM_needOfSet 2 = .ok (.iconst 1, 1) := by decide +kernel
theorem d_CM_needOfSet_3 : decode b_CM_needOfSet 3 = .ok (.istore_n 3, 1) := by decide +kernel
theorem d_CM_needOfSet_4 : decode b_CM_needOfSet 4 = .ok (.iload_n 3, 1) := by decide +kernel
theorem d_CM_needOfSet_5 : decode b_CM_needOfSet 5 = .ok (.aload_n 0, 1) := by decide +kernel
theorem d_CM_needOfSet_6 : decode b_CM_needOfSet 6 = .ok (.getfield 24, 3) := by decide +kernel
theorem d_CM_needOfSet_9 : decode b_CM_needOfSet 9 = .ok (.if_icmp .gt 26, 3) := by decide +kernel
theorem d_CM_needOfSet_12 : decode b_CM_needOfSet 12 = .ok (.iload_n 1, 1) := by decide +kernel
theorem d_CM_needOfSet_13 : decode b_CM_needOfSet 13 = .ok (.iload_n 3, 1) := by decide +kernel
theorem d_CM_needOfSet_14 : decode b_CM_needOfSet 14 = .ok (.invokestatic 45, 3) := by decide +kernel
theorem d_CM_needOfSet_17 : decode b_CM_needOfSet 17 = .ok (.ifCond .eq 12, 3) := by decide +kernel
theorem d_CM_needOfSet_20 : decode b_CM_needOfSet 20 = .ok (.iload_n 2, 1) := by decide +kernel
theorem d_CM_needOfSet_21 : decode b_CM_needOfSet 21 = .ok (.aload_n 0, 1) := by decide +kernel
theorem d_CM_needOfSet_22 : decode b_CM_needOfSet 22 = .ok (.getfield 9, 3) := by decide +kernel
theorem d_CM_needOfSet_25 : decode b_CM_needOfSet 25 = .ok (.iload_n 3, 1) := by decide +kernel
theorem d_CM_needOfSet_26 : decode b_CM_needOfSet 26 = .ok (.iaload, 1) := by decide +kernel
theorem d_CM_needOfSet_27 : decode b_CM_needOfSet 27 = .ok (.iadd, 1) := by decide +kernel
theorem d_CM_needOfSet_28 : decode b_CM_needOfSet 28 = .ok (.istore_n 2, 1) := by decide +kernel
theorem d_CM_needOfSet_29 : decode b_CM_needOfSet 29 = .ok (.iinc 3 1, 3) := by decide +kernel
theorem d_CM_needOfSet_32 : decode b_CM_needOfSet 32 = .ok (.goto (-28), 3) := by decide +kernel
theorem d_CM_needOfSet_35 : decode b_CM_needOfSet 35 = .ok (.iload_n 2, 1) := by decide +kernel
theorem d_CM_needOfSet_36 : decode b_CM_needOfSet 36 = .ok (.ireturn, 1) := by decide +kernel
theorem d_CM_countingForSet_0 : decode b_CM_countingForSet 0 = .ok (.iconst 0, 1) := by decide +kernel
theorem d_CM_countingForSet_1 : decode b_CM_countingForSet 1 = .ok (.istore_n 2, 1) := by decide +kernel
theorem d_CM_countingForSet_2 : decode b_CM_countingForSet 2 = .ok (.iconst 1, 1) := by decide +kernel
theorem d_CM_countingForSet_3 : decode b_CM_countingForSet 3 = .ok (.istore_n 3, 1) := by decide +kernel
theorem d_CM_countingForSet_4 : decode b_CM_countingForSet 4 = .ok (.iload_n 3, 1) := by decide +kernel
theorem d_CM_countingForSet_5 : decode b_CM_countingForSet 5 = .ok (.aload_n 0, 1) := by decide +kernel
theorem d_CM_countingForSet_6 : decode b_CM_countingForSet 6 = .ok (.getfield 24, 3) := by decide +kernel
theorem d_CM_countingForSet_9 : decode b_CM_countingForSet 9 = .ok (.if_icmp .gt 26, 3) := by decide +kernel
theorem d_CM_countingForSet_12 : decode b_CM_countingForSet 12 = .ok (.iload_n 1, 1) := by decide +kernel
theorem d_CM_countingForSet_13 : decode b_CM_countingForSet 13 = .ok (.iload_n 3, 1) := by decide +kernel
theorem d_CM_countingForSet_14 : decode b_CM_countingForSet 14 = .ok (.invokestatic 45, 3) := by decide +kernel
theorem d_CM_countingForSet_17 : decode b_CM_countingForSet 17 = .ok (.ifCond .eq 12, 3) := by decide +kernel
theorem d_CM_countingForSet_20 : decode b_CM_countingForSet 20 = .ok (.iload_n 2, 1) := by decide +kernel
theorem d_CM_countingForSet_21 : decode b_CM_countingForSet 21 = .ok (.aload_n 0, 1) := by decide +kernel
theorem d_CM_countingForSet_22 : decode b_CM_countingForSet 22 = .ok (.getfield 15, 3) := by decide +kernel
theorem d_CM_countingForSet_25 : decode b_CM_countingForSet 25 = .ok (.iload_n 3, 1) := by decide +kernel
theorem d_CM_countingForSet_26 : decode b_CM_countingForSet 26 = .ok (.iaload, 1) := by decide +kernel
theorem d_CM_countingForSet_27 : decode b_CM_countingForSet 27 = .ok (.ior, 1) := by decide +kernel
theorem d_CM_countingForSet_28 : decode b_CM_countingForSet 28 = .ok (.istore_n 2, 1) := by decide +kernel
theorem d_CM_countingForSet_29 : decode b_CM_countingForSet 29 = .ok (.iinc 3 1, 3) := by decide +kernel
theorem d_CM_countingForSet_32 : decode b_CM_countingForSet 32 = .ok (.goto (-28), 3) := by decide +kernel
theorem d_CM_countingForSet_35 : decode b_CM_countingForSet 35 = .ok (.iload_n 2, 1) := by decide +kernel
theorem d_CM_countingForSet_36 : decode b_CM_countingForSet 36 = .ok (.ireturn, 1) := by decide +kernel
theorem d_NE_init_0 : decode b_NE_init 0 = .ok (.aload_n 0, 1) := by decide +kernel
theorem d_NE_init_1 : decode b_NE_init 1 = .ok (.invokespecial 1, 3) := by decide +kernel
theorem d_NE_init_4 : decode b_NE_init 4 = .ok (.aload_n 0, 1) := by decide +kernel
theorem d_NE_init_5 : decode b_NE_init 5 = .ok (.iconst 2, 1) := by decide +kernel
theorem d_NE_init_6 : decode b_NE_init 6 = .ok (.iload_n 2, 1) := by decide +kernel
theorem d_NE_init_7 : decode b_NE_init 7 = .ok (.imul, 1) := by decide +kernel
theorem d_NE_init_8 : decode b_NE_init 8 = .ok (.newarray .int, 2) := by decide +kernel
theorem d_NE_init_10 : decode b_NE_init 10 = .ok (.putfield 7, 3) := by decide +kernel
theorem d_NE_init_13 : decode b_NE_init 13 = .ok (.aload_n 0, 1) := by decide +kernel
theorem d_NE_init_14 : decode b_NE_init 14 = .ok (.iconst 2, 1) := by decide +kernel
theorem d_NE_init_15 : decode b_NE_init 15 = .ok (.iload_n 2, 1) := by decide +kernel
theorem d_NE_init_16 : decode b_NE_init 16 = .ok (.imul, 1) := by decide +kernel
theorem d_NE_init_17 : decode b_NE_init 17 = .ok (.newarray .int, 2) := by decide +kernel
theorem d_NE_init_19 : decode b_NE_init 19 = .ok (.putfield 13, 3) := by decide +kernel
theorem d_NE_init_22 : decode b_NE_init 22 = .ok (.aload_n 0, 1) := by decide +kernel
theorem d_NE_init_23 : decode b_NE_init 23 = .ok (.iconst 2, 1) := by decide +kernel
theorem d_NE_init_24 : decode b_NE_init 24 = .ok (.iload_n 2, 1) := by decide +kernel
theorem d_NE_init_25 : decode b_NE_init 25 = .ok (.imul, 1) := by decide +kernel
theorem d_NE_init_26 : decode b_NE_init 26 = .ok (.newarray .int, 2) := by decide +kernel
theorem d_NE_init_28 : decode b_NE_init 28 = .ok (.putfield 16, 3) := by decide +kernel
theorem d_NE_init_31 : decode b_NE_init 31 = .ok (.aload_n 0, 1) := by decide +kernel
theorem d_NE_init_32 : decode b_NE_init 32 = .ok (.iconst 2, 1) := by decide +kernel
theorem d_NE_init_33 : decode b_NE_init 33 = .ok (.iload_n 2, 1) := by decide +kernel
theorem d_NE_init_34 : decode b_NE_init 34 = .ok (.imul, 1) := by decide +kernel
theorem d_NE_init_35 : decode b_NE_init 35 = .ok (.newarray .long, 2) := by decide +kernel
theorem d_NE_init_37 : decode b_NE_init 37 = .ok (.putfield 19, 3) := by decide +kernel
theorem d_NE_init_40 : decode b_NE_init 40 = .ok (.aload_n 0, 1) := by decide +kernel
theorem d_NE_init_41 : decode b_NE_init 41 = .ok (.iload_n 1, 1) := by decide +kernel
theorem d_NE_init_42 : decode b_NE_init 42 = .ok (.newarray .long, 2) := by decide +kernel
theorem d_NE_init_44 : decode b_NE_init 44 = .ok (.putfield 23, 3) := by decide +kernel
theorem d_NE_init_47 : decode b_NE_init 47 = .ok (.aload_n 0, 1) := by decide +kernel
theorem d_NE_init_48 : decode b_NE_init 48 = .ok (.iload_n 1, 1) := by decide +kernel
theorem d_NE_init_49 : decode b_NE_init 49 = .ok (.newarray .int, 2) := by decide +kernel
theorem d_NE_init_51 : decode b_NE_init 51 = .ok (.putfield 26, 3) := by decide +kernel
theorem d_NE_init_54 : decode b_NE_init 54 = .ok (.return_, 1) := by decide +kernel
theorem d_NE_clear_0 : decode b_NE_clear 0 = .ok (.aload_n 0, 1) := by decide +kernel
theorem d_NE_clear_1 : decode b_NE_clear 1 = .ok (.iconst 0, 1) := by decide +kernel
theorem d_NE_clear_2 : decode b_NE_clear 2 = .ok (.putfield 29, 3) := by decide +kernel
theorem d_NE_clear_5 : decode b_NE_clear 5 = .ok (.aload_n 0, 1) := by decide +kernel
theorem d_NE_clear_6 : decode b_NE_clear 6 = .ok (.lconst 0, 1) := by decide +kernel
theorem d_NE_clear_7 : decode b_NE_clear 7 = .ok (.putfield 33, 3) := by decide +kernel
theorem d_NE_clear_10 : decode b_NE_clear 10 = .ok (.return_, 1) := by decide +kernel
theorem d_NE_lay_0 : decode b_NE_lay 0 = .ok (.aload_n 0, 1) := by decide +kernel
theorem d_NE_lay_1 : decode b_NE_lay 1 = .ok (.iload_n 1, 1) := by decide +kernel
theorem d_NE_lay_2 : decode b_NE_lay 2 = .ok (.iload_n 2, 1) := by decide +kernel
theorem d_NE_lay_3 : decode b_NE_lay 3 = .ok (.iload_n 3, 1) := by decide +kernel
theorem d_NE_lay_4 : decode b_NE_lay 4 = .ok (.lload 4, 2) := by decide +kernel
theorem d_NE_lay_6 : decode b_NE_lay 6 = .ok (.invokevirtual 37, 3) := by decide +kernel
theorem d_NE_lay_9 : decode b_NE_lay 9 = .ok (.aload_n 0, 1) := by decide +kernel
theorem d_NE_lay_10 : decode b_NE_lay 10 = .ok (.iload_n 2, 1) := by decide +kernel
theorem d_NE_lay_11 : decode b_NE_lay 11 = .ok (.iload_n 1, 1) := by decide +kernel
theorem d_NE_lay_12 : decode b_NE_lay 12 = .ok (.iconst 0, 1) := by decide +kernel
theorem d_NE_lay_13 : decode b_NE_lay 13 = .ok (.lload 4, 2) := by decide +kernel
theorem d_NE_lay_15 : decode b_NE_lay 15 = .ok (.lneg, 1) := by decide +kernel
theorem d_NE_lay_16 : decode b_NE_lay 16 = .ok (.invokevirtual 37, 3) := by decide +kernel
theorem d_NE_lay_19 : decode b_NE_lay 19 = .ok (.return_, 1) := by decide +kernel
theorem d_NE_addArc_0 : decode b_NE_addArc 0 = .ok (.aload_n 0, 1) := by decide +kernel
theorem d_NE_addArc_1 : decode b_NE_addArc 1 = .ok (.getfield 7, 3) := by decide +kernel
theorem d_NE_addArc_4 : decode b_NE_addArc 4 = .ok (.aload_n 0, 1) := by decide +kernel
theorem d_NE_addArc_5 : decode b_NE_addArc 5 = .ok (.getfield 29, 3) := by decide +kernel
theorem d_NE_addArc_8 : decode b_NE_addArc 8 = .ok (.iload_n 1, 1) := by decide +kernel
theorem d_NE_addArc_9 : decode b_NE_addArc 9 = .ok (.iastore, 1) := by decide +kernel
theorem d_NE_addArc_10 : decode b_NE_addArc 10 = .ok (.aload_n 0, 1) := by decide +kernel
theorem d_NE_addArc_11 : decode b_NE_addArc 11 = .ok (.getfield 13, 3) := by decide +kernel
theorem d_NE_addArc_14 : decode b_NE_addArc 14 = .ok (.aload_n 0, 1) := by decide +kernel
theorem d_NE_addArc_15 : decode b_NE_addArc 15 = .ok (.getfield 29, 3) := by decide +kernel
theorem d_NE_addArc_18 : decode b_NE_addArc 18 = .ok (.iload_n 2, 1) := by decide +kernel
theorem d_NE_addArc_19 : decode b_NE_addArc 19 = .ok (.iastore, 1) := by decide +kernel
theorem d_NE_addArc_20 : decode b_NE_addArc 20 = .ok (.aload_n 0, 1) := by decide +kernel
theorem d_NE_addArc_21 : decode b_NE_addArc 21 = .ok (.getfield 16, 3) := by decide +kernel
theorem d_NE_addArc_24 : decode b_NE_addArc 24 = .ok (.aload_n 0, 1) := by decide +kernel
theorem d_NE_addArc_25 : decode b_NE_addArc 25 = .ok (.getfield 29, 3) := by decide +kernel
theorem d_NE_addArc_28 : decode b_NE_addArc 28 = .ok (.iload_n 3, 1) := by decide +kernel
theorem d_NE_addArc_29 : decode b_NE_addArc 29 = .ok (.iastore, 1) := by decide +kernel
theorem d_NE_addArc_30 : decode b_NE_addArc 30 = .ok (.aload_n 0, 1) := by decide +kernel
theorem d_NE_addArc_31 : decode b_NE_addArc 31 = .ok (.getfield 19, 3) := by decide +kernel
theorem d_NE_addArc_34 : decode b_NE_addArc 34 = .ok (.aload_n 0, 1) := by decide +kernel
theorem d_NE_addArc_35 : decode b_NE_addArc 35 = .ok (.getfield 29, 3) := by decide +kernel
theorem d_NE_addArc_38 : decode b_NE_addArc 38 = .ok (.lload 4, 2) := by decide +kernel
theorem d_NE_addArc_40 : decode b_NE_addArc 40 = .ok (.lastore, 1) := by decide +kernel
theorem d_NE_addArc_41 : decode b_NE_addArc 41 = .ok (.aload_n 0, 1) := by decide +kernel
theorem d_NE_addArc_42 : decode b_NE_addArc 42 = .ok (.dup, 1) := by decide +kernel
theorem d_NE_addArc_43 : decode b_NE_addArc 43 = .ok (.getfield 29, 3) := by decide +kernel
theorem d_NE_addArc_46 : decode b_NE_addArc 46 = .ok (.iconst 1, 1) := by decide +kernel
theorem d_NE_addArc_47 : decode b_NE_addArc 47 = .ok (.iadd, 1) := by decide +kernel
theorem d_NE_addArc_48 : decode b_NE_addArc 48 = .ok (.putfield 29, 3) := by decide +kernel
theorem d_NE_addArc_51 : decode b_NE_addArc 51 = .ok (.return_, 1) := by decide +kernel
theorem d_NE_send_0 : decode b_NE_send 0 = .ok (.iconst 0, 1) := by decide +kernel
theorem d_NE_send_1 : decode b_NE_send 1 = .ok (.istore 4, 2) := by decide +kernel
theorem d_NE_send_3 : decode b_NE_send 3 = .ok (.iload 4, 2) := by decide +kernel
theorem d_NE_send_5 : decode b_NE_send 5 = .ok (.iload_n 3, 1) := by decide +kernel
theorem d_NE_send_6 : decode b_NE_send 6 = .ok (.if_icmp .ge 24, 3) := by decide +kernel
theorem d_NE_send_9 : decode b_NE_send 9 = .ok (.aload_n 0, 1) := by decide +kernel
theorem d_NE_send_10 : decode b_NE_send 10 = .ok (.iload_n 1, 1) := by decide +kernel
theorem d_NE_send_11 : decode b_NE_send 11 = .ok (.iload_n 2, 1) := by decide +kernel
theorem d_NE_send_12 : decode b_NE_send 12 = .ok (.invokevirtual 41, 3) := by decide +kernel
theorem d_NE_send_15 : decode b_NE_send 15 = .ok (.ifCond .eq 15, 3) := by decide +kernel
theorem d_NE_send_18 : decode b_NE_send 18 = .ok (.aload_n 0, 1) := by decide +kernel
theorem d_NE_send_19 : decode b_NE_send 19 = .ok (.iload_n 1, 1) := by decide +kernel
theorem d_NE_send_20 : decode b_NE_send 20 = .ok (.iload_n 2, 1) := by decide +kernel
theorem d_NE_send_21 : decode b_NE_send 21 = .ok (.invokevirtual 45, 3) := by decide +kernel
theorem d_NE_send_24 : decode b_NE_send 24 = .ok (.iinc 4 1, 3) := by decide +kernel
theorem d_NE_send_27 : decode b_NE_send 27 = .ok (.goto (-24), 3) := by decide +kernel
theorem d_NE_send_30 : decode b_NE_send 30 = .ok (.iload 4, 2) := by decide +kernel
theorem d_NE_send_32 : decode b_NE_send 32 = .ok (.ireturn, 1) := by decide +kernel
theorem d_NE_findCheapestWay_0 : decode b_NE_findCheapestWay 0 = .ok (.aload_n 0, 1) := by decide +kernel
theorem d_NE_findCheapestWay_1 : decode b_NE_findCheapestWay 1 = .ok (.getfield 23, 3) := by decide +kernel
theorem d_NE_findCheapestWay_4 : decode b_NE_findCheapestWay 4 = .ok (.ldc2_w 49, 3) := by decide +kernel
theorem d_NE_findCheapestWay_7 : decode b_NE_findCheapestWay 7 = .ok (.invokestatic 51, 3) := by decide +kernel
theorem d_NE_findCheapestWay_10 : decode b_NE_findCheapestWay 10 = .ok (.aload_n 0, 1) := by decide +kernel
theorem d_NE_findCheapestWay_11 : decode b_NE_findCheapestWay 11 = .ok (.getfield 23, 3) := by decide +kernel
theorem d_NE_findCheapestWay_14 : decode b_NE_findCheapestWay 14 = .ok (.iload_n 1, 1) := by decide +kernel
theorem d_NE_findCheapestWay_15 : decode b_NE_findCheapestWay 15 = .ok (.lconst 0, 1) := by decide +kernel
theorem d_NE_findCheapestWay_16 : decode b_NE_findCheapestWay 16 = .ok (.lastore, 1) := by decide +kernel
theorem d_NE_findCheapestWay_17 : decode b_NE_findCheapestWay 17 = .ok (.iconst 1, 1) := by decide +kernel
theorem d_NE_findCheapestWay_18 : decode b_NE_findCheapestWay 18 = .ok (.istore_n 3, 1) := by decide +kernel
theorem d_NE_findCheapestWay_19 : decode b_NE_findCheapestWay 19 = .ok (.iconst 0, 1) := by decide +kernel
theorem d_NE_findCheapestWay_20 : decode b_NE_findCheapestWay 20 = .ok (.istore 4, 2) := by decide +kernel
theorem d_NE_findCheapestWay_22 : decode b_NE_findCheapestWay 22 = .ok (.iload 4, 2) := by decide +kernel
theorem d_NE_findCheapestWay_24 : decode b_NE_findCheapestWay 24 = .ok (.aload_n 0, 1) := by decide +kernel
theorem d_NE_findCheapestWay_25 : decode b_NE_findCheapestWay 25 = .ok (.getfield 23, 3) := by decide +kernel
theorem d_NE_findCheapestWay_28 : decode b_NE_findCheapestWay 28 = .ok (.arraylength, 1) := by decide +kernel
theorem d_NE_findCheapestWay_29 : decode b_NE_findCheapestWay 29 = .ok (.if_icmp .ge 18, 3) := by decide +kernel
theorem d_NE_findCheapestWay_32 : decode b_NE_findCheapestWay 32 = .ok (.iload_n 3, 1) := by decide +kernel
theorem d_NE_findCheapestWay_33 : decode b_NE_findCheapestWay 33 = .ok (.ifCond .eq 14, 3) := by decide +kernel
theorem d_NE_findCheapestWay_36 : decode b_NE_findCheapestWay 36 = .ok (.aload_n 0, 1) := by decide +kernel
theorem d_NE_findCheapestWay_37 : decode b_NE_findCheapestWay 37 = .ok (.invokevirtual 57, 3) := by decide +kernel
theorem d_NE_findCheapestWay_40 : decode b_NE_findCheapestWay 40 = .ok (.istore_n 3, 1) := by decide +kernel
theorem d_NE_findCheapestWay_41 : decode b_NE_findCheapestWay 41 = .ok (.iinc 4 1, 3) := by decide +kernel
theorem d_NE_findCheapestWay_44 : decode b_NE_findCheapestWay 44 = .ok (.goto (-22), 3) := by decide +kernel
theorem d_NE_findCheapestWay_47 : decode b_NE_findCheapestWay 47 = .ok (.aload_n 0, 1) := by decide +kernel
theorem d_NE_findCheapestWay_48 : decode b_NE_findCheapestWay 48 = .ok (.getfield 23, 3) := by decide +kernel
theorem d_NE_findCheapestWay_51 : decode b_NE_findCheapestWay 51 = .ok (.iload_n 2, 1) := by decide +kernel
theorem d_NE_findCheapestWay_52 : decode b_NE_findCheapestWay 52 = .ok (.laload, 1) := by decide +kernel
theorem d_NE_findCheapestWay_53 : decode b_NE_findCheapestWay 53 = .ok (.ldc2_w 49, 3) := by decide +kernel
theorem d_NE_findCheapestWay_56 : decode b_NE_findCheapestWay 56 = .ok (.lcmp, 1) := by decide +kernel
theorem d_NE_findCheapestWay_57 : decode b_NE_findCheapestWay 57 = .ok (.ifCond .eq 7, 3) := by decide +kernel
theorem d_NE_findCheapestWay_60 : decode b_NE_findCheapestWay 60 = .ok (.iconst 1, 1) := by decide +kernel
theorem d_NE_findCheapestWay_61 : decode b_NE_findCheapestWay 61 = .ok (.goto 4, 3) := by decide +kernel
theorem d_NE_findCheapestWay_64 : decode b_NE_findCheapestWay 64 = .ok (.iconst 0, 1) := by decide +kernel
theorem d_NE_findCheapestWay_65 : decode b_NE_findCheapestWay 65 = .ok (.ireturn, 1) := by decide +kernel
theorem d_NE_shortenOnce_0 : decode b_NE_shortenOnce 0 = .ok (.iconst 0, 1) := by decide +kernel
theorem d_NE_shortenOnce_1 : decode b_NE_shortenOnce 1 = .ok (.istore_n 1, 1) := by decide +kernel
theorem d_NE_shortenOnce_2 : decode b_NE_shortenOnce 2 = .ok (.iconst 0, 1) := by decide +kernel
theorem d_NE_shortenOnce_3 : decode b_NE_shortenOnce 3 = .ok (.istore_n 2, 1) := by decide +kernel
theorem d_NE_shortenOnce_4 : decode b_NE_shortenOnce 4 = .ok (.iload_n 2, 1) := by decide +kernel
theorem d_NE_shortenOnce_5 : decode b_NE_shortenOnce 5 = .ok (.aload_n 0, 1) := by decide +kernel
theorem d_NE_shortenOnce_6 : decode b_NE_shortenOnce 6 = .ok (.getfield 29, 3) := by decide +kernel
theorem d_NE_shortenOnce_9 : decode b_NE_shortenOnce 9 = .ok (.if_icmp .ge 69, 3) := by decide +kernel
theorem d_NE_shortenOnce_12 : decode b_NE_shortenOnce 12 = .ok (.aload_n 0, 1) := by decide +kernel
theorem d_NE_shortenOnce_13 : decode b_NE_shortenOnce 13 = .ok (.getfield 16, 3) := by decide +kernel
theorem d_NE_shortenOnce_16 : decode b_NE_shortenOnce 16 = .ok (.iload_n 2, 1) := by decide +kernel
theorem d_NE_shortenOnce_17 : decode b_NE_shortenOnce 17 = .ok (.iaload, 1) := by decide +kernel
theorem d_NE_shortenOnce_18 : decode b_NE_shortenOnce 18 = .ok (.ifCond .le 54, 3) := by decide +kernel
theorem d_NE_shortenOnce_21 : decode b_NE_shortenOnce 21 = .ok (.aload_n 0, 1) := by decide +kernel
theorem d_NE_shortenOnce_22 : decode b_NE_shortenOnce 22 = .ok (.iload_n 2, 1) := by decide +kernel
theorem d_NE_shortenOnce_23 : decode b_NE_shortenOnce 23 = .ok (.invokevirtual 61, 3) := by decide +kernel
theorem d_NE_shortenOnce_26 : decode b_NE_shortenOnce 26 = .ok (.ifCond .eq 46, 3) := by decide +kernel
theorem d_NE_shortenOnce_29 : decode b_NE_shortenOnce 29 = .ok (.aload_n 0, 1) := by decide +kernel
theorem d_NE_shortenOnce_30 : decode b_NE_shortenOnce 30 = .ok (.getfield 23, 3) := by decide +kernel
theorem d_NE_shortenOnce_33 : decode b_NE_shortenOnce 33 = .ok (.aload_n 0, 1) := by decide +kernel
theorem d_NE_shortenOnce_34 : decode b_NE_shortenOnce 34 = .ok (.getfield 13, 3) := by decide +kernel
theorem d_NE_shortenOnce_37 : decode b_NE_shortenOnce 37 = .ok (.iload_n 2, 1) := by decide +kernel
theorem d_NE_shortenOnce_38 : decode b_NE_shortenOnce 38 = .ok (.iaload, 1) := by decide +kernel
theorem d_NE_shortenOnce_39 : decode b_NE_shortenOnce 39 = .ok (.aload_n 0, 1) := by decide +kernel
theorem d_NE_shortenOnce_40 : decode b_NE_shortenOnce 40 = .ok (.getfield 23, 3) := by decide +kernel
theorem d_NE_shortenOnce_43 : decode b_NE_shortenOnce 43 = .ok (.aload_n 0, 1) := by decide +kernel
theorem d_NE_shortenOnce_44 : decode b_NE_shortenOnce 44 = .ok (.getfield 7, 3) := by decide +kernel
theorem d_NE_shortenOnce_47 : decode b_NE_shortenOnce 47 = .ok (.iload_n 2, 1) := by decide +kernel
theorem d_NE_shortenOnce_48 : decode b_NE_shortenOnce 48 = .ok (.iaload, 1) := by decide +kernel
theorem d_NE_shortenOnce_49 : decode b_NE_shortenOnce 49 = .ok (.laload, 1) := by decide +kernel
theorem d_NE_shortenOnce_50 : decode b_NE_shortenOnce 50 = .ok (.aload_n 0, 1) := by decide +kernel
theorem d_NE_shortenOnce_51 : decode b_NE_shortenOnce 51 = .ok (.getfield 19, 3) := by decide +kernel
theorem d_NE_shortenOnce_54 : decode b_NE_shortenOnce 54 = .ok (.iload_n 2, 1) := by decide +kernel
theorem d_NE_shortenOnce_55 : decode b_NE_shortenOnce 55 = .ok (.laload, 1) := by decide +kernel
theorem d_NE_shortenOnce_56 : decode b_NE_shortenOnce 56 = .ok (.ladd, 1) := by decide +kernel
theorem d_NE_shortenOnce_57 : decode b_NE_shortenOnce 57 = .ok (.lastore, 1) := by decide +kernel
theorem d_NE_shortenOnce_58 : decode b_NE_shortenOnce 58 = .ok (.aload_n 0, 1) := by decide +kernel
theorem d_NE_shortenOnce_59 : decode b_NE_shortenOnce 59 = .ok (.getfield 26, 3) := by decide +kernel
theorem d_NE_shortenOnce_62 : decode b_NE_shortenOnce 62 = .ok (.aload_n 0, 1) := by decide +kernel
theorem d_NE_shortenOnce_63 : decode b_NE_shortenOnce 63 = .ok (.getfield 13, 3) := by decide +kernel
theorem d_NE_shortenOnce_66 : decode b_NE_shortenOnce 66 = .ok (.iload_n 2, 1) := by decide +kernel
theorem d_NE_shortenOnce_67 : decode b_NE_shortenOnce 67 = .ok (.iaload, 1) := by decide +kernel
theorem d_NE_shortenOnce_68 : decode b_NE_shortenOnce 68 = .ok (.iload_n 2, 1) := by decide +kernel
theorem d_NE_shortenOnce_69 : decode b_NE_shortenOnce 69 = .ok (.iastore, 1) := by decide +kernel
theorem d_NE_shortenOnce_70 : decode b_NE_shortenOnce 70 = .ok (.iconst 1, 1) := by decide +kernel
theorem d_NE_shortenOnce_71 : decode b_NE_shortenOnce 71 = .ok (.istore_n 1, 1) := by decide +kernel
theorem d_NE_shortenOnce_72 : decode b_NE_shortenOnce 72 = .ok (.iinc 2 1, 3) := by decide +kernel
theorem d_NE_shortenOnce_75 : decode b_NE_shortenOnce 75 = .ok (.goto (-71), 3) := by decide +kernel
theorem d_NE_shortenOnce_78 : decode b_NE_shortenOnce 78 = .ok (.iload_n 1, 1) := by decide +kernel
theorem d_NE_shortenOnce_79 : decode b_NE_shortenOnce 79 = .ok (.ireturn, 1) := by decide +kernel
theorem d_NE_isShortcut_0 : decode b_NE_isShortcut 0 = .ok (.aload_n 0, 1) := by decide +kernel
theorem d_NE_isShortcut_1 : decode b_NE_isShortcut 1 = .ok (.getfield 23, 3) := by decide +kernel
theorem d_NE_isShortcut_4 : decode b_NE_isShortcut 4 = .ok (.aload_n 0, 1) := by decide +kernel
theorem d_NE_isShortcut_5 : decode b_NE_isShortcut 5 = .ok (.getfield 7, 3) := by decide +kernel
theorem d_NE_isShortcut_8 : decode b_NE_isShortcut 8 = .ok (.iload_n 1, 1) := by decide +kernel
theorem d_NE_isShortcut_9 : decode b_NE_isShortcut 9 = .ok (.iaload, 1) := by decide +kernel
theorem d_NE_isShortcut_10 : decode b_NE_isShortcut 10 = .ok (.laload, 1) := by decide +kernel
theorem d_NE_isShortcut_11 : decode b_NE_isShortcut 11 = .ok (.lstore_n 2, 1) := by decide +kernel
theorem d_NE_isShortcut_12 : decode b_NE_isShortcut 12 = .ok (.lload_n 2, 1) := by decide +kernel
theorem d_NE_isShortcut_13 : decode b_NE_isShortcut 13 = .ok (.ldc2_w 49, 3) := by decide +kernel
theorem d_NE_isShortcut_16 : decode b_NE_isShortcut 16 = .ok (.lcmp, 1) := by decide +kernel
theorem d_NE_isShortcut_17 : decode b_NE_isShortcut 17 = .ok (.ifCond .eq 30, 3) := by decide +kernel
theorem d_NE_isShortcut_20 : decode b_NE_isShortcut 20 = .ok (.lload_n 2, 1) := by decide +kernel
theorem d_NE_isShortcut_21 : decode b_NE_isShortcut 21 = .ok (.aload_n 0, 1) := by decide +kernel
theorem d_NE_isShortcut_22 : decode b_NE_isShortcut 22 = .ok (.getfield 19, 3) := by decide +kernel
theorem d_NE_isShortcut_25 : decode b_NE_isShortcut 25 = .ok (.iload_n 1, 1) := by decide +kernel
theorem d_NE_isShortcut_26 : decode b_NE_isShortcut 26 = .ok (.laload, 1) := by decide +kernel
theorem d_NE_isShortcut_27 : decode b_NE_isShortcut 27 = .ok (.ladd, 1) := by decide +kernel
theorem d_NE_isShortcut_28 : decode b_NE_isShortcut 28 = .ok (.aload_n 0, 1) := by decide +kernel
theorem d_NE_isShortcut_29 : decode b_NE_isShortcut 29 = .ok (.getfield 23, 3) := by decide +kernel
theorem d_NE_isShortcut_32 : decode b_NE_isShortcut 32 = .ok (.aload_n 0, 1) := by decide +kernel
theorem d_NE_isShortcut_33 : decode b_NE_isShortcut 33 = .ok (.getfield 13, 3) := by decide +kernel
theorem d_NE_isShortcut_36 : decode b_NE_isShortcut 36 = .ok (.iload_n 1, 1) := by decide +kernel
theorem d_NE_isShortcut_37 : decode b_NE_isShortcut 37 = .ok (.iaload, 1) := by decide +kernel
theorem d_NE_isShortcut_38 : decode b_NE_isShortcut 38 = .ok (.laload, 1) := by decide +kernel
theorem d_NE_isShortcut_39 : decode b_NE_isShortcut 39 = .ok (.lcmp, 1) := by decide +kernel
theorem d_NE_isShortcut_40 : decode b_NE_isShortcut 40 = .ok (.ifCond .ge 7, 3) := by decide +kernel
theorem d_NE_isShortcut_43 : decode b_NE_isShortcut 43 = .ok (.iconst 1, 1) := by decide +kernel
theorem d_NE_isShortcut_44 : decode b_NE_isShortcut 44 = .ok (.goto 4, 3) := by decide +kernel
theorem d_NE_isShortcut_47 : decode b_NE_isShortcut 47 = .ok (.iconst 0, 1) := by decide +kernel
theorem d_NE_isShortcut_48 : decode b_NE_isShortcut 48 = .ok (.ireturn, 1) := by decide +kernel
theorem d_NE_takeWay_0 : decode b_NE_takeWay 0 = .ok (.aload_n 0, 1) := by decide +kernel
theorem d_NE_takeWay_1 : decode b_NE_takeWay 1 = .ok (.dup, 1) := by decide +kernel
theorem d_NE_takeWay_2 : decode b_NE_takeWay 2 = .ok (.getfield 33, 3) := by decide +kernel
theorem d_NE_takeWay_5 : decode b_NE_takeWay 5 = .ok (.aload_n 0, 1) := by decide +kernel
theorem d_NE_takeWay_6 : decode b_NE_takeWay 6 = .ok (.getfield 23, 3) := by decide +kernel
theorem d_NE_takeWay_9 : decode b_NE_takeWay 9 = .ok (.iload_n 2, 1) := by decide +kernel
theorem d_NE_takeWay_10 : decode b_NE_takeWay 10 = .ok (.laload, 1) := by decide +kernel
theorem d_NE_takeWay_11 : decode b_NE_takeWay 11 = .ok (.ladd, 1) := by decide +kernel
theorem d_NE_takeWay_12 : decode b_NE_takeWay 12 = .ok (.putfield 33, 3) := by decide +kernel
theorem d_NE_takeWay_15 : decode b_NE_takeWay 15 = .ok (.iload_n 2, 1) := by decide +kernel
theorem d_NE_takeWay_16 : decode b_NE_takeWay 16 = .ok (.istore_n 3, 1) := by decide +kernel
theorem d_NE_takeWay_17 : decode b_NE_takeWay 17 = .ok (.iconst 0, 1) := by decide +kernel
theorem d_NE_takeWay_18 : decode b_NE_takeWay 18 = .ok (.istore 4, 2) := by decide +kernel
theorem d_NE_takeWay_20 : decode b_NE_takeWay 20 = .ok (.iload 4, 2) := by decide +kernel
theorem d_NE_takeWay_22 : decode b_NE_takeWay 22 = .ok (.aload_n 0, 1) := by decide +kernel
theorem d_NE_takeWay_23 : decode b_NE_takeWay 23 = .ok (.getfield 23, 3) := by decide +kernel
theorem d_NE_takeWay_26 : decode b_NE_takeWay 26 = .ok (.arraylength, 1) := by decide +kernel
theorem d_NE_takeWay_27 : decode b_NE_takeWay 27 = .ok (.if_icmp .ge 54, 3) := by decide +kernel
theorem d_NE_takeWay_30 : decode b_NE_takeWay 30 = .ok (.iload_n 3, 1) := by decide +kernel
theorem d_NE_takeWay_31 : decode b_NE_takeWay 31 = .ok (.iload_n 1, 1) := by decide +kernel
theorem d_NE_takeWay_32 : decode b_NE_takeWay 32 = .ok (.if_icmp .eq 49, 3) := by decide +kernel
theorem d_NE_takeWay_35 : decode b_NE_takeWay 35 = .ok (.aload_n 0, 1) := by decide +kernel
theorem d_NE_takeWay_36 : decode b_NE_takeWay 36 = .ok (.getfield 26, 3) := by decide +kernel
theorem d_NE_takeWay_39 : decode b_NE_takeWay 39 = .ok (.iload_n 3, 1) := by decide +kernel
theorem d_NE_takeWay_40 : decode b_NE_takeWay 40 = .ok (.iaload, 1) := by decide +kernel
theorem d_NE_takeWay_41 : decode b_NE_takeWay 41 = .ok (.istore 5, 2) := by decide +kernel
theorem d_NE_takeWay_43 : decode b_NE_takeWay 43 = .ok (.aload_n 0, 1) := by decide +kernel
theorem d_NE_takeWay_44 : decode b_NE_takeWay 44 = .ok (.getfield 16, 3) := by decide +kernel
theorem d_NE_takeWay_47 : decode b_NE_takeWay 47 = .ok (.iload 5, 2) := by decide +kernel
theorem d_NE_takeWay_49 : decode b_NE_takeWay 49 = .ok (.dup2, 1) := by decide +kernel
theorem d_NE_takeWay_50 : decode b_NE_takeWay 50 = .ok (.iaload, 1) := by decide +kernel
theorem d_NE_takeWay_51 : decode b_NE_takeWay 51 = .ok (.iconst 1, 1) := by decide +kernel
theorem d_NE_takeWay_52 : decode b_NE_takeWay 52 = .ok (.isub, 1) := by decide +kernel
theorem d_NE_takeWay_53 : decode b_NE_takeWay 53 = .ok (.iastore, 1) := by decide +kernel
theorem d_NE_takeWay_54 : decode b_NE_takeWay 54 = .ok (.aload_n 0, 1) := by decide +kernel
theorem d_NE_takeWay_55 : decode b_NE_takeWay 55 = .ok (.getfield 16, 3) := by decide +kernel
theorem d_NE_takeWay_58 : decode b_NE_takeWay 58 = .ok (.iload 5, 2) := by decide +kernel
theorem d_NE_takeWay_60 : decode b_NE_takeWay 60 = .ok (.iconst 1, 1) := by decide +kernel
theorem d_NE_takeWay_61 : decode b_NE_takeWay 61 = .ok (.ixor, 1) := by decide +kernel
theorem d_NE_takeWay_62 : decode b_NE_takeWay 62 = .ok (.dup2, 1) := by decide +kernel
theorem d_NE_takeWay_63 : decode b_NE_takeWay 63 = .ok (.iaload, 1) := by decide +kernel
theorem d_NE_takeWay_64 : decode b_NE_takeWay 64 = .ok (.iconst 1, 1) := by decide +kernel
theorem d_NE_takeWay_65 : decode b_NE_takeWay 65 = .ok (.iadd, 1) := by decide +kernel
theorem d_NE_takeWay_66 : decode b_NE_takeWay 66 = .ok (.iastore, 1) := by decide +kernel
theorem d_NE_takeWay_67 : decode b_NE_takeWay 67 = .ok (.aload_n 0, 1) := by decide +kernel
theorem d_NE_takeWay_68 : decode b_NE_takeWay 68 = .ok (.getfield 7, 3) := by decide +kernel
theorem d_NE_takeWay_71 : decode b_NE_takeWay 71 = .ok (.iload 5, 2) := by decide +kernel
theorem d_NE_takeWay_73 : decode b_NE_takeWay 73 = .ok (.iaload, 1) := by decide +kernel
theorem d_NE_takeWay_74 : decode b_NE_takeWay 74 = .ok (.istore_n 3, 1) := by decide +kernel
theorem d_NE_takeWay_75 : decode b_NE_takeWay 75 = .ok (.iinc 4 1, 3) := by decide +kernel
theorem d_NE_takeWay_78 : decode b_NE_takeWay 78 = .ok (.goto (-58), 3) := by decide +kernel
theorem d_NE_takeWay_81 : decode b_NE_takeWay 81 = .ok (.return_, 1) := by decide +kernel
