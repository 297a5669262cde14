/-! decode rows (by program) -/
theorem d_MO_prepare_0 : decode b_MO_prepare 0 = .ok (.aload_n 0, 1) := by decide +kernel
theorem d_MO_prepare_1 : decode b_MO_prepare 1 = .ok (.getfield 35, 3) := by decide +kernel
theorem d_MO_prepare_4 : decode b_MO_prepare 4 = .ok (.iload_n 1, 1) := by decide +kernel
theorem d_MO_prepare_5 : decode b_MO_prepare 5 = .ok (.iaload, 1) := by decide +kernel
theorem d_MO_prepare_6 : decode b_MO_prepare 6 = .ok (.istore_n 2, 1) := by decide +kernel
theorem d_MO_prepare_7 : decode b_MO_prepare 7 = .ok (.iconst 0, 1) := by decide +kernel
theorem d_MO_prepare_8 : decode b_MO_prepare 8 = .ok (.istore_n 3, 1) := by decide +kernel
theorem d_MO_prepare_9 : decode b_MO_prepare 9 = .ok (.iload_n 3, 1) := by decide +kernel
theorem d_MO_prepare_10 : decode b_MO_prepare 10 = .ok (.bipush 6, 2) := by decide +kernel
theorem d_MO_prepare_12 : decode b_MO_prepare 12 = .ok (.if_icmp .ge 53, 3) := by decide +kernel
theorem d_MO_prepare_15 : decode b_MO_prepare 15 = .ok (.aload_n 0, 1) := by decide +kernel
theorem d_MO_prepare_16 : decode b_MO_prepare 16 = .ok (.getfield 53, 3) := by decide +kernel
theorem d_MO_prepare_19 : decode b_MO_prepare 19 = .ok (.iload_n 3, 1) := by decide +kernel
theorem d_MO_prepare_20 : decode b_MO_prepare 20 = .ok (.iload_n 3, 1) := by decide +kernel
theorem d_MO_prepare_21 : decode b_MO_prepare 21 = .ok (.ifCond .le 22, 3) := by decide +kernel
theorem d_MO_prepare_24 : decode b_MO_prepare 24 = .ok (.iload_n 3, 1) := by decide +kernel
theorem d_MO_prepare_25 : decode b_MO_prepare 25 = .ok (.aload_n 0, 1) := by decide +kernel
theorem d_MO_prepare_26 : decode b_MO_prepare 26 = .ok (.getfield 26, 3) := by decide +kernel
theorem d_MO_prepare_29 : decode b_MO_prepare 29 = .ok (.iload_n 2, 1) := by decide +kernel
theorem d_MO_prepare_30 : decode b_MO_prepare 30 = .ok (.iaload, 1) := by decide +kernel
theorem d_MO_prepare_31 : decode b_MO_prepare 31 = .ok (.if_icmp .gt 12, 3) := by decide +kernel
theorem d_MO_prepare_34 : decode b_MO_prepare 34 = .ok (.aload_n 0, 1) := by decide +kernel
theorem d_MO_prepare_35 : decode b_MO_prepare 35 = .ok (.iload_n 1, 1) := by decide +kernel
theorem d_MO_prepare_36 : decode b_MO_prepare 36 = .ok (.iload_n 3, 1) := by decide +kernel
theorem d_MO_prepare_37 : decode b_MO_prepare 37 = .ok (.invokevirtual 101, 3) := by decide +kernel
theorem d_MO_prepare_40 : decode b_MO_prepare 40 = .ok (.goto 4, 3) := by decide +kernel
theorem d_MO_prepare_43 : decode b_MO_prepare 43 = .ok (.iconst 0, 1) := by decide +kernel
theorem d_MO_prepare_44 : decode b_MO_prepare 44 = .ok (.iastore, 1) := by decide +kernel
theorem d_MO_prepare_45 : decode b_MO_prepare 45 = .ok (.aload_n 0, 1) := by decide +kernel
theorem d_MO_prepare_46 : decode b_MO_prepare 46 = .ok (.getfield 59, 3) := by decide +kernel
theorem d_MO_prepare_49 : decode b_MO_prepare 49 = .ok (.iload_n 3, 1) := by decide +kernel
theorem d_MO_prepare_50 : decode b_MO_prepare 50 = .ok (.iconst 0, 1) := by decide +kernel
theorem d_MO_prepare_51 : decode b_MO_prepare 51 = .ok (.iastore, 1) := by decide +kernel
theorem d_MO_prepare_52 : decode b_MO_prepare 52 = .ok (.aload_n 0, 1) := by decide +kernel
theorem d_MO_prepare_53 : decode b_MO_prepare 53 = .ok (.getfield 62, 3) := by decide +kernel
theorem d_MO_prepare_56 : decode b_MO_prepare 56 = .ok (.iload_n 3, 1) := by decide +kernel
theorem d_MO_prepare_57 : decode b_MO_prepare 57 = .ok (.iconst 0, 1) := by decide +kernel
theorem d_MO_prepare_58 : decode b_MO_prepare 58 = .ok (.iastore, 1) := by decide +kernel
theorem d_MO_prepare_59 : decode b_MO_prepare 59 = .ok (.iinc 3 1, 3) := by decide +kernel
theorem d_MO_prepare_62 : decode b_MO_prepare 62 = .ok (.goto (-53), 3) := by decide +kernel
theorem d_MO_prepare_65 : decode b_MO_prepare 65 = .ok (.iconst 0, 1) := by decide +kernel
theorem d_MO_prepare_66 : decode b_MO_prepare 66 = .ok (.istore_n 3, 1) := by decide +kernel
theorem d_MO_prepare_67 : decode b_MO_prepare 67 = .ok (.iload_n 3, 1) := by decide +kernel
theorem d_MO_prepare_68 : decode b_MO_prepare 68 = .ok (.aload_n 0, 1) := by decide +kernel
theorem d_MO_prepare_69 : decode b_MO_prepare 69 = .ok (.getfield 81, 3) := by decide +kernel
theorem d_MO_prepare_72 : decode b_MO_prepare 72 = .ok (.if_icmp .ge 145, 3) := by decide +kernel
theorem d_MO_prepare_75 : decode b_MO_prepare 75 = .ok (.iconst 1, 1) := by decide +kernel
theorem d_MO_prepare_76 : decode b_MO_prepare 76 = .ok (.iload_n 3, 1) := by decide +kernel
theorem d_MO_prepare_77 : decode b_MO_prepare 77 = .ok (.ishl, 1) := by decide +kernel
theorem d_MO_prepare_78 : decode b_MO_prepare 78 = .ok (.istore 4, 2) := by decide +kernel
theorem d_MO_prepare_80 : decode b_MO_prepare 80 = .ok (.iconst 0, 1) := by decide +kernel
theorem d_MO_prepare_81 : decode b_MO_prepare 81 = .ok (.istore 5, 2) := by decide +kernel
theorem d_MO_prepare_83 : decode b_MO_prepare 83 = .ok (.iload 5, 2) := by decide +kernel
theorem d_MO_prepare_85 : decode b_MO_prepare 85 = .ok (.aload_n 0, 1) := by decide +kernel
theorem d_MO_prepare_86 : decode b_MO_prepare 86 = .ok (.getfield 41, 3) := by decide +kernel
theorem d_MO_prepare_89 : decode b_MO_prepare 89 = .ok (.iload_n 1, 1) := by decide +kernel
theorem d_MO_prepare_90 : decode b_MO_prepare 90 = .ok (.iaload, 1) := by decide +kernel
theorem d_MO_prepare_91 : decode b_MO_prepare 91 = .ok (.if_icmp .ge 49, 3) := by decide +kernel
theorem d_MO_prepare_94 : decode b_MO_prepare 94 = .ok (.aload_n 0, 1) := by decide +kernel
theorem d_MO_prepare_95 : decode b_MO_prepare 95 = .ok (.getfield 44, 3) := by decide +kernel
theorem d_MO_prepare_98 : decode b_MO_prepare 98 = .ok (.bipush 8, 2) := by decide +kernel
theorem d_MO_prepare_100 : decode b_MO_prepare 100 = .ok (.iload_n 1, 1) := by decide +kernel
theorem d_MO_prepare_101 : decode b_MO_prepare 101 = .ok (.imul, 1) := by decide +kernel
theorem d_MO_prepare_102 : decode b_MO_prepare 102 = .ok (.iload 5, 2) := by decide +kernel
theorem d_MO_prepare_104 : decode b_MO_prepare 104 = .ok (.iadd, 1) := by decide +kernel
theorem d_MO_prepare_105 : decode b_MO_prepare 105 = .ok (.iaload, 1) := by decide +kernel
theorem d_MO_prepare_106 : decode b_MO_prepare 106 = .ok (.iload_n 3, 1) := by decide +kernel
theorem d_MO_prepare_107 : decode b_MO_prepare 107 = .ok (.if_icmp .ne 23, 3) := by decide +kernel
theorem d_MO_prepare_110 : decode b_MO_prepare 110 = .ok (.iload 4, 2) := by decide +kernel
theorem d_MO_prepare_112 : decode b_MO_prepare 112 = .ok (.iconst 1, 1) := by decide +kernel
theorem d_MO_prepare_113 : decode b_MO_prepare 113 = .ok (.aload_n 0, 1) := by decide +kernel
theorem d_MO_prepare_114 : decode b_MO_prepare 114 = .ok (.getfield 47, 3) := by decide +kernel
theorem d_MO_prepare_117 : decode b_MO_prepare 117 = .ok (.bipush 8, 2) := by decide +kernel
theorem d_MO_prepare_119 : decode b_MO_prepare 119 = .ok (.iload_n 1, 1) := by decide +kernel
theorem d_MO_prepare_120 : decode b_MO_prepare 120 = .ok (.imul, 1) := by decide +kernel
theorem d_MO_prepare_121 : decode b_MO_prepare 121 = .ok (.iload 5, 2) := by decide +kernel
theorem d_MO_prepare_123 : decode b_MO_prepare 123 = .ok (.iadd, 1) := by decide +kernel
theorem d_MO_prepare_124 : decode b_MO_prepare 124 = .ok (.iaload, 1) := by decide +kernel
theorem d_MO_prepare_125 : decode b_MO_prepare 125 = .ok (.ishl, 1) := by decide +kernel
theorem d_MO_prepare_126 : decode b_MO_prepare 126 = .ok (.ior, 1) := by decide +kernel
theorem d_MO_prepare_127 : decode b_MO_prepare 127 = .ok (.goto 5, 3) := by decide +kernel
theorem d_MO_prepare_130 : decode b_MO_prepare 130 = .ok (.iload 4, 2) := by decide +kernel
theorem d_MO_prepare_132 : decode b_MO_prepare 132 = .ok (.istore 4, 2) := by decide +kernel
theorem d_MO_prepare_134 : decode b_MO_prepare 134 = .ok (.iinc 5 1, 3) := by decide +kernel
theorem d_MO_prepare_137 : decode b_MO_prepare 137 = .ok (.goto (-54), 3) := by decide +kernel
theorem d_MO_prepare_140 : decode b_MO_prepare 140 = .ok (.aload_n 0, 1) := by decide +kernel
theorem d_MO_prepare_141 : decode b_MO_prepare 141 = .ok (.getfield 56, 3) := by decide +kernel
theorem d_MO_prepare_144 : decode b_MO_prepare 144 = .ok (.iload_n 3, 1) := by decide +kernel
theorem d_MO_prepare_145 : decode b_MO_prepare 145 = .ok (.iconst 0, 1) := by decide +kernel
theorem d_MO_prepare_146 : decode b_MO_prepare 146 = .ok (.iastore, 1) := by decide +kernel
theorem d_MO_prepare_147 : decode b_MO_prepare 147 = .ok (.iconst 1, 1) := by decide +kernel
theorem d_MO_prepare_148 : decode b_MO_prepare 148 = .ok (.istore 5, 2) := by decide +kernel
theorem d_MO_prepare_150 : decode b_MO_prepare 150 = .ok (.iload 5, 2) := by decide +kernel
theorem d_MO_prepare_152 : decode b_MO_prepare 152 = .ok (.aload_n 0, 1) := by decide +kernel
theorem d_MO_prepare_153 : decode b_MO_prepare 153 = .ok (.getfield 26, 3) := by decide +kernel
theorem d_MO_prepare_156 : decode b_MO_prepare 156 = .ok (.iload_n 2, 1) := by decide +kernel
theorem d_MO_prepare_157 : decode b_MO_prepare 157 = .ok (.iaload, 1) := by decide +kernel
theorem d_MO_prepare_158 : decode b_MO_prepare 158 = .ok (.if_icmp .gt 53, 3) := by decide +kernel
theorem d_MO_prepare_161 : decode b_MO_prepare 161 = .ok (.aload_n 0, 1) := by decide +kernel
theorem d_MO_prepare_162 : decode b_MO_prepare 162 = .ok (.getfield 56, 3) := by decide +kernel
theorem d_MO_prepare_165 : decode b_MO_prepare 165 = .ok (.iload_n 3, 1) := by decide +kernel
theorem d_MO_prepare_166 : decode b_MO_prepare 166 = .ok (.aload_n 0, 1) := by decide +kernel
theorem d_MO_prepare_167 : decode b_MO_prepare 167 = .ok (.getfield 32, 3) := by decide +kernel
theorem d_MO_prepare_170 : decode b_MO_prepare 170 = .ok (.bipush 6, 2) := by decide +kernel
theorem d_MO_prepare_172 : decode b_MO_prepare 172 = .ok (.iload_n 2, 1) := by decide +kernel
theorem d_MO_prepare_173 : decode b_MO_prepare 173 = .ok (.imul, 1) := by decide +kernel
theorem d_MO_prepare_174 : decode b_MO_prepare 174 = .ok (.iload 5, 2) := by decide +kernel
theorem d_MO_prepare_176 : decode b_MO_prepare 176 = .ok (.iadd, 1) := by decide +kernel
theorem d_MO_prepare_177 : decode b_MO_prepare 177 = .ok (.iaload, 1) := by decide +kernel
theorem d_MO_prepare_178 : decode b_MO_prepare 178 = .ok (.iload 4, 2) := by decide +kernel
theorem d_MO_prepare_180 : decode b_MO_prepare 180 = .ok (.iand, 1) := by decide +kernel
theorem d_MO_prepare_181 : decode b_MO_prepare 181 = .ok (.ifCond .eq 17, 3) := by decide +kernel
theorem d_MO_prepare_184 : decode b_MO_prepare 184 = .ok (.aload_n 0, 1) := by decide +kernel
theorem d_MO_prepare_185 : decode b_MO_prepare 185 = .ok (.getfield 56, 3) := by decide +kernel
theorem d_MO_prepare_188 : decode b_MO_prepare 188 = .ok (.iload_n 3, 1) := by decide +kernel
theorem d_MO_prepare_189 : decode b_MO_prepare 189 = .ok (.iaload, 1) := by decide +kernel
theorem d_MO_prepare_190 : decode b_MO_prepare 190 = .ok (.iconst 1, 1) := by decide +kernel
theorem d_MO_prepare_191 : decode b_MO_prepare 191 = .ok (.iload 5, 2) := by decide +kernel
theorem d_MO_prepare_193 : decode b_MO_prepare 193 = .ok (.ishl, 1) := by decide +kernel
theorem d_MO_prepare_194 : decode b_MO_prepare 194 = .ok (.ior, 1) := by decide +kernel
theorem d_MO_prepare_195 : decode b_MO_prepare 195 = .ok (.goto 9, 3) := by decide +kernel
theorem d_MO_prepare_198 : decode b_MO_prepare 198 = .ok (.aload_n 0, 1) := by decide +kernel
theorem d_MO_prepare_199 : decode b_MO_prepare 199 = .ok (.getfield 56, 3) := by decide +kernel
theorem d_MO_prepare_202 : decode b_MO_prepare 202 = .ok (.iload_n 3, 1) := by decide +kernel
theorem d_MO_prepare_203 : decode b_MO_prepare 203 = .ok (.iaload, 1) := by decide +kernel
theorem d_MO_prepare_204 : decode b_MO_prepare 204 = .ok (.iastore, 1) := by decide +kernel
theorem d_MO_prepare_205 : decode b_MO_prepare 205 = .ok (.iinc 5 1, 3) := by decide +kernel
theorem d_MO_prepare_208 : decode b_MO_prepare 208 = .ok (.goto (-58), 3) := by decide +kernel
theorem d_MO_prepare_211 : decode b_MO_prepare 211 = .ok (.iinc 3 1, 3) := by decide +kernel
theorem d_MO_prepare_214 : decode b_MO_prepare 214 = .ok (.goto (-147), 3) := by decide +kernel
theorem d_MO_prepare_217 : decode b_MO_prepare 217 = .ok (.return_, 1) := by decide +kernel
theorem d_MO_supplyOf_0 : decode b_MO_supplyOf 0 = .ok (.iconst 0, 1) := by decide +kernel
theorem d_MO_supplyOf_1 : decode b_MO_supplyOf 1 = .ok (.istore_n 3, 1) := by decide +kernel
theorem d_MO_supplyOf_2 : decode b_MO_supplyOf 2 = .ok (.iload_n 3, 1) := by decide +kernel
theorem d_MO_supplyOf_3 : decode b_MO_supplyOf 3 = .ok (.bipush 6, 2) := by decide +kernel
theorem d_MO_supplyOf_5 : decode b_MO_supplyOf 5 = .ok (.if_icmp .ge 16, 3) := by decide +kernel
theorem d_MO_supplyOf_8 : decode b_MO_supplyOf 8 = .ok (.aload_n 0, 1) := by decide +kernel
theorem d_MO_supplyOf_9 : decode b_MO_supplyOf 9 = .ok (.getfield 65, 3) := by decide +kernel
theorem d_MO_supplyOf_12 : decode b_MO_supplyOf 12 = .ok (.iload_n 3, 1) := by decide +kernel
theorem d_MO_supplyOf_13 : decode b_MO_supplyOf 13 = .ok (.iconst 0, 1) := by decide +kernel
theorem d_MO_supplyOf_14 : decode b_MO_supplyOf 14 = .ok (.iastore, 1) := by decide +kernel
theorem d_MO_supplyOf_15 : decode b_MO_supplyOf 15 = .ok (.iinc 3 1, 3) := by decide +kernel
theorem d_MO_supplyOf_18 : decode b_MO_supplyOf 18 = .ok (.goto (-16), 3) := by decide +kernel
theorem d_MO_supplyOf_21 : decode b_MO_supplyOf 21 = .ok (.iconst 0, 1) := by decide +kernel
theorem d_MO_supplyOf_22 : decode b_MO_supplyOf 22 = .ok (.istore_n 3, 1) := by decide +kernel
theorem d_MO_supplyOf_23 : decode b_MO_supplyOf 23 = .ok (.iload_n 3, 1) := by decide +kernel
theorem d_MO_supplyOf_24 : decode b_MO_supplyOf 24 = .ok (.aload_n 0, 1) := by decide +kernel
theorem d_MO_supplyOf_25 : decode b_MO_supplyOf 25 = .ok (.getfield 81, 3) := by decide +kernel
theorem d_MO_supplyOf_28 : decode b_MO_supplyOf 28 = .ok (.if_icmp .ge 44, 3) := by decide +kernel
theorem d_MO_supplyOf_31 : decode b_MO_supplyOf 31 = .ok (.iload_n 2, 1) := by decide +kernel
theorem d_MO_supplyOf_32 : decode b_MO_supplyOf 32 = .ok (.iload_n 3, 1) := by decide +kernel
theorem d_MO_supplyOf_33 : decode b_MO_supplyOf 33 = .ok (.ishr, 1) := by decide +kernel
theorem d_MO_supplyOf_34 : decode b_MO_supplyOf 34 = .ok (.iconst 1, 1) := by decide +kernel
theorem d_MO_supplyOf_35 : decode b_MO_supplyOf 35 = .ok (.iand, 1) := by decide +kernel
theorem d_MO_supplyOf_36 : decode b_MO_supplyOf 36 = .ok (.iconst 1, 1) := by decide +kernel
theorem d_MO_supplyOf_37 : decode b_MO_supplyOf 37 = .ok (.if_icmp .ne 29, 3) := by decide +kernel
theorem d_MO_supplyOf_40 : decode b_MO_supplyOf 40 = .ok (.aload_n 0, 1) := by decide +kernel
theorem d_MO_supplyOf_41 : decode b_MO_supplyOf 41 = .ok (.getfield 56, 3) := by decide +kernel
theorem d_MO_supplyOf_44 : decode b_MO_supplyOf 44 = .ok (.iload_n 3, 1) := by decide +kernel
theorem d_MO_supplyOf_45 : decode b_MO_supplyOf 45 = .ok (.iaload, 1) := by decide +kernel
theorem d_MO_supplyOf_46 : decode b_MO_supplyOf 46 = .ok (.iload_n 1, 1) := by decide +kernel
theorem d_MO_supplyOf_47 : decode b_MO_supplyOf 47 = .ok (.iand, 1) := by decide +kernel
theorem d_MO_supplyOf_48 : decode b_MO_supplyOf 48 = .ok (.ifCond .eq 18, 3) := by decide +kernel
theorem d_MO_supplyOf_51 : decode b_MO_supplyOf 51 = .ok (.aload_n 0, 1) := by decide +kernel
theorem d_MO_supplyOf_52 : decode b_MO_supplyOf 52 = .ok (.getfield 65, 3) := by decide +kernel
theorem d_MO_supplyOf_55 : decode b_MO_supplyOf 55 = .ok (.aload_n 0, 1) := by decide +kernel
theorem d_MO_supplyOf_56 : decode b_MO_supplyOf 56 = .ok (.getfield 16, 3) := by decide +kernel
theorem d_MO_supplyOf_59 : decode b_MO_supplyOf 59 = .ok (.iload_n 3, 1) := by decide +kernel
theorem d_MO_supplyOf_60 : decode b_MO_supplyOf 60 = .ok (.iaload, 1) := by decide +kernel
theorem d_MO_supplyOf_61 : decode b_MO_supplyOf 61 = .ok (.dup2, 1) := by decide +kernel
theorem d_MO_supplyOf_62 : decode b_MO_supplyOf 62 = .ok (.iaload, 1) := by decide +kernel
theorem d_MO_supplyOf_63 : decode b_MO_supplyOf 63 = .ok (.iconst 1, 1) := by decide +kernel
theorem d_MO_supplyOf_64 : decode b_MO_supplyOf 64 = .ok (.iadd, 1) := by decide +kernel
theorem d_MO_supplyOf_65 : decode b_MO_supplyOf 65 = .ok (.iastore, 1) := by decide +kernel
theorem d_MO_supplyOf_66 : decode b_MO_supplyOf 66 = .ok (.iinc 3 1, 3) := by decide +kernel
theorem d_MO_supplyOf_69 : decode b_MO_supplyOf 69 = .ok (.goto (-46), 3) := by decide +kernel
theorem d_MO_supplyOf_72 : decode b_MO_supplyOf 72 = .ok (.aload_n 0, 1) := by decide +kernel
theorem d_MO_supplyOf_73 : decode b_MO_supplyOf 73 = .ok (.getfield 78, 3) := by decide +kernel
theorem d_MO_supplyOf_76 : decode b_MO_supplyOf 76 = .ok (.iconst 1, 1) := by decide +kernel
theorem d_MO_supplyOf_77 : decode b_MO_supplyOf 77 = .ok (.isub, 1) := by decide +kernel
theorem d_MO_supplyOf_78 : decode b_MO_supplyOf 78 = .ok (.istore_n 3, 1) := by decide +kernel
theorem d_MO_supplyOf_79 : decode b_MO_supplyOf 79 = .ok (.iload_n 3, 1) := by decide +kernel
theorem d_MO_supplyOf_80 : decode b_MO_supplyOf 80 = .ok (.ifCond .lt 94, 3) := by decide +kernel
theorem d_MO_supplyOf_83 : decode b_MO_supplyOf 83 = .ok (.aload_n 0, 1) := by decide +kernel
theorem d_MO_supplyOf_84 : decode b_MO_supplyOf 84 = .ok (.getfield 13, 3) := by decide +kernel
theorem d_MO_supplyOf_87 : decode b_MO_supplyOf 87 = .ok (.iload_n 3, 1) := by decide +kernel
theorem d_MO_supplyOf_88 : decode b_MO_supplyOf 88 = .ok (.iaload, 1) := by decide +kernel
theorem d_MO_supplyOf_89 : decode b_MO_supplyOf 89 = .ok (.aload_n 0, 1) := by decide +kernel
theorem d_MO_supplyOf_90 : decode b_MO_supplyOf 90 = .ok (.getfield 62, 3) := by decide +kernel
theorem d_MO_supplyOf_93 : decode b_MO_supplyOf 93 = .ok (.iload_n 3, 1) := by decide +kernel
theorem d_MO_supplyOf_94 : decode b_MO_supplyOf 94 = .ok (.iaload, 1) := by decide +kernel
theorem d_MO_supplyOf_95 : decode b_MO_supplyOf 95 = .ok (.isub, 1) := by decide +kernel
theorem d_MO_supplyOf_96 : decode b_MO_supplyOf 96 = .ok (.istore 4, 2) := by decide +kernel
theorem d_MO_supplyOf_98 : decode b_MO_supplyOf 98 = .ok (.aload_n 0, 1) := by decide +kernel
theorem d_MO_supplyOf_99 : decode b_MO_supplyOf 99 = .ok (.getfield 65, 3) := by decide +kernel
theorem d_MO_supplyOf_102 : decode b_MO_supplyOf 102 = .ok (.iload_n 3, 1) := by decide +kernel
theorem d_MO_supplyOf_103 : decode b_MO_supplyOf 103 = .ok (.aload_n 0, 1) := by decide +kernel
theorem d_MO_supplyOf_104 : decode b_MO_supplyOf 104 = .ok (.getfield 13, 3) := by decide +kernel
theorem d_MO_supplyOf_107 : decode b_MO_supplyOf 107 = .ok (.iload_n 3, 1) := by decide +kernel
theorem d_MO_supplyOf_108 : decode b_MO_supplyOf 108 = .ok (.iaload, 1) := by decide +kernel
theorem d_MO_supplyOf_109 : decode b_MO_supplyOf 109 = .ok (.ifCond .lt 19, 3) := by decide +kernel
theorem d_MO_supplyOf_112 : decode b_MO_supplyOf 112 = .ok (.iload 4, 2) := by decide +kernel
theorem d_MO_supplyOf_114 : decode b_MO_supplyOf 114 = .ok (.aload_n 0, 1) := by decide +kernel
theorem d_MO_supplyOf_115 : decode b_MO_supplyOf 115 = .ok (.getfield 65, 3) := by decide +kernel
theorem d_MO_supplyOf_118 : decode b_MO_supplyOf 118 = .ok (.iload_n 3, 1) := by decide +kernel
theorem d_MO_supplyOf_119 : decode b_MO_supplyOf 119 = .ok (.iaload, 1) := by decide +kernel
theorem d_MO_supplyOf_120 : decode b_MO_supplyOf 120 = .ok (.if_icmp .ge 8, 3) := by decide +kernel
theorem d_MO_supplyOf_123 : decode b_MO_supplyOf 123 = .ok (.iload 4, 2) := by decide +kernel
theorem d_MO_supplyOf_125 : decode b_MO_supplyOf 125 = .ok (.goto 9, 3) := by decide +kernel
theorem d_MO_supplyOf_128 : decode b_MO_supplyOf 128 = .ok (.aload_n 0, 1) := by decide +kernel
theorem d_MO_supplyOf_129 : decode b_MO_supplyOf 129 = .ok (.getfield 65, 3) := by decide +kernel
theorem d_MO_supplyOf_132 : decode b_MO_supplyOf 132 = .ok (.iload_n 3, 1) := by decide +kernel
theorem d_MO_supplyOf_133 : decode b_MO_supplyOf 133 = .ok (.iaload, 1) := by decide +kernel
theorem d_MO_supplyOf_134 : decode b_MO_supplyOf 134 = .ok (.iastore, 1) := by decide +kernel
theorem d_MO_supplyOf_135 : decode b_MO_supplyOf 135 = .ok (.iload_n 3, 1) := by decide +kernel
theorem d_MO_supplyOf_136 : decode b_MO_supplyOf 136 = .ok (.ifCond .le 32, 3) := by decide +kernel
theorem d_MO_supplyOf_139 : decode b_MO_supplyOf 139 = .ok (.aload_n 0, 1) := by decide +kernel
theorem d_MO_supplyOf_140 : decode b_MO_supplyOf 140 = .ok (.getfield 65, 3) := by decide +kernel
theorem d_MO_supplyOf_143 : decode b_MO_supplyOf 143 = .ok (.aload_n 0, 1) := by decide +kernel
theorem d_MO_supplyOf_144 : decode b_MO_supplyOf 144 = .ok (.getfield 7, 3) := by decide +kernel
theorem d_MO_supplyOf_147 : decode b_MO_supplyOf 147 = .ok (.iload_n 3, 1) := by decide +kernel
theorem d_MO_supplyOf_148 : decode b_MO_supplyOf 148 = .ok (.iaload, 1) := by decide +kernel
theorem d_MO_supplyOf_149 : decode b_MO_supplyOf 149 = .ok (.aload_n 0, 1) := by decide +kernel
theorem d_MO_supplyOf_150 : decode b_MO_supplyOf 150 = .ok (.getfield 65, 3) := by decide +kernel
theorem d_MO_supplyOf_153 : decode b_MO_supplyOf 153 = .ok (.aload_n 0, 1) := by decide +kernel
theorem d_MO_supplyOf_154 : decode b_MO_supplyOf 154 = .ok (.getfield 7, 3) := by decide +kernel
theorem d_MO_supplyOf_157 : decode b_MO_supplyOf 157 = .ok (.iload_n 3, 1) := by decide +kernel
theorem d_MO_supplyOf_158 : decode b_MO_supplyOf 158 = .ok (.iaload, 1) := by decide +kernel
theorem d_MO_supplyOf_159 : decode b_MO_supplyOf 159 = .ok (.iaload, 1) := by decide +kernel
theorem d_MO_supplyOf_160 : decode b_MO_supplyOf 160 = .ok (.aload_n 0, 1) := by decide +kernel
theorem d_MO_supplyOf_161 : decode b_MO_supplyOf 161 = .ok (.getfield 65, 3) := by decide +kernel
theorem d_MO_supplyOf_164 : decode b_MO_supplyOf 164 = .ok (.iload_n 3, 1) := by decide +kernel
theorem d_MO_supplyOf_165 : decode b_MO_supplyOf 165 = .ok (.iaload, 1) := by decide +kernel
theorem d_MO_supplyOf_166 : decode b_MO_supplyOf 166 = .ok (.iadd, 1) := by decide +kernel
theorem d_MO_supplyOf_167 : decode b_MO_supplyOf 167 = .ok (.iastore, 1) := by decide +kernel
theorem d_MO_supplyOf_168 : decode b_MO_supplyOf 168 = .ok (.iinc 3 (-1), 3) := by decide +kernel
theorem d_MO_supplyOf_171 : decode b_MO_supplyOf 171 = .ok (.goto (-92), 3) := by decide +kernel
theorem d_MO_supplyOf_174 : decode b_MO_supplyOf 174 = .ok (.aload_n 0, 1) := by decide +kernel
theorem d_MO_supplyOf_175 : decode b_MO_supplyOf 175 = .ok (.getfield 65, 3) := by decide +kernel
theorem d_MO_supplyOf_178 : decode b_MO_supplyOf 178 = .ok (.iconst 0, 1) := by decide +kernel
theorem d_MO_supplyOf_179 : decode b_MO_supplyOf 179 = .ok (.iaload, 1) := by decide +kernel
theorem d_MO_supplyOf_180 : decode b_MO_supplyOf 180 = .ok (.ireturn, 1) := by decide +kernel
theorem d_MO_needOf_0 : decode b_MO_needOf 0 = .ok (.iconst 0, 1) := by decide +kernel
theorem d_MO_needOf_1 : decode b_MO_needOf 1 = .ok (.istore_n 2, 1) := by decide +kernel
theorem d_MO_needOf_2 : decode b_MO_needOf 2 = .ok (.iconst 1, 1) := by decide +kernel
theorem d_MO_needOf_3 : decode b_MO_needOf 3 = .ok (.istore_n 3, 1) := by decide +kernel
theorem d_MO_needOf_4 : decode b_MO_needOf 4 = .ok (.iload_n 3, 1) := by decide +kernel
theorem d_MO_needOf_5 : decode b_MO_needOf 5 = .ok (.bipush 6, 2) := by decide +kernel
theorem d_MO_needOf_7 : decode b_MO_needOf 7 = .ok (.if_icmp .ge 38, 3) := by decide +kernel
theorem d_MO_needOf_10 : decode b_MO_needOf 10 = .ok (.iload_n 1, 1) := by decide +kernel
theorem d_MO_needOf_11 : decode b_MO_needOf 11 = .ok (.iload_n 3, 1) := by decide +kernel
theorem d_MO_needOf_12 : decode b_MO_needOf 12 = .ok (.ishr, 1) := by decide +kernel
theorem d_MO_needOf_13 : decode b_MO_needOf 13 = .ok (.iconst 1, 1) := by decide +kernel
theorem d_MO_needOf_14 : decode b_MO_needOf 14 = .ok (.iand, 1) := by decide +kernel
theorem d_MO_needOf_15 : decode b_MO_needOf 15 = .ok (.iconst 1, 1) := by decide +kernel
theorem d_MO_needOf_16 : decode b_MO_needOf 16 = .ok (.if_icmp .ne 21, 3) := by decide +kernel
theorem d_MO_needOf_19 : decode b_MO_needOf 19 = .ok (.iload_n 2, 1) := by decide +kernel
theorem d_MO_needOf_20 : decode b_MO_needOf 20 = .ok (.aload_n 0, 1) := by decide +kernel
theorem d_MO_needOf_21 : decode b_MO_needOf 21 = .ok (.getfield 53, 3) := by decide +kernel
theorem d_MO_needOf_24 : decode b_MO_needOf 24 = .ok (.iload_n 3, 1) := by decide +kernel
theorem d_MO_needOf_25 : decode b_MO_needOf 25 = .ok (.iaload, 1) := by decide +kernel
theorem d_MO_needOf_26 : decode b_MO_needOf 26 = .ok (.iadd, 1) := by decide +kernel
theorem d_MO_needOf_27 : decode b_MO_needOf 27 = .ok (.aload_n 0, 1) := by decide +kernel
theorem d_MO_needOf_28 : decode b_MO_needOf 28 = .ok (.getfield 59, 3) := by decide +kernel
theorem d_MO_needOf_31 : decode b_MO_needOf 31 = .ok (.iload_n 3, 1) := by decide +kernel
theorem d_MO_needOf_32 : decode b_MO_needOf 32 = .ok (.iaload, 1) := by decide +kernel
theorem d_MO_needOf_33 : decode b_MO_needOf 33 = .ok (.isub, 1) := by decide +kernel
theorem d_MO_needOf_34 : decode b_MO_needOf 34 = .ok (.goto 4, 3) := by decide +kernel
theorem d_MO_needOf_37 : decode b_MO_needOf 37 = .ok (.iload_n 2, 1) := by decide +kernel
theorem d_MO_needOf_38 : decode b_MO_needOf 38 = .ok (.istore_n 2, 1) := by decide +kernel
theorem d_MO_needOf_39 : decode b_MO_needOf 39 = .ok (.iinc 3 1, 3) := by decide +kernel
theorem d_MO_needOf_42 : decode b_MO_needOf 42 = .ok (.goto (-38), 3) := by decide +kernel
theorem d_MO_needOf_45 : decode b_MO_needOf 45 = .ok (.iload_n 2, 1) := by decide +kernel
theorem d_MO_needOf_46 : decode b_MO_needOf 46 = .ok (.ireturn, 1) := by decide +kernel
theorem d_MO_most_0 : decode b_MO_most 0 = .ok (.aload_n 0, 1) := by decide +kernel
theorem d_MO_most_1 : decode b_MO_most 1 = .ok (.bipush 62, 2) := by decide +kernel
theorem d_MO_most_3 : decode b_MO_most 3 = .ok (.invokevirtual 109, 3) := by decide +kernel
theorem d_MO_most_6 : decode b_MO_most 6 = .ok (.istore_n 2, 1) := by decide +kernel
theorem d_MO_most_7 : decode b_MO_most 7 = .ok (.iconst 2, 1) := by decide +kernel
theorem d_MO_most_8 : decode b_MO_most 8 = .ok (.istore_n 3, 1) := by decide +kernel
theorem d_MO_most_9 : decode b_MO_most 9 = .ok (.iload_n 3, 1) := by decide +kernel
theorem d_MO_most_10 : decode b_MO_most 10 = .ok (.bipush 64, 2) := by decide +kernel
theorem d_MO_most_12 : decode b_MO_most 12 = .ok (.if_icmp .ge 42, 3) := by decide +kernel
theorem d_MO_most_15 : decode b_MO_most 15 = .ok (.aload_n 0, 1) := by decide +kernel
theorem d_MO_most_16 : decode b_MO_most 16 = .ok (.bipush 62, 2) := by decide +kernel
theorem d_MO_most_18 : decode b_MO_most 18 = .ok (.iload_n 3, 1) := by decide +kernel
theorem d_MO_most_19 : decode b_MO_most 19 = .ok (.iconst (-1), 1) := by decide +kernel
theorem d_MO_most_20 : decode b_MO_most 20 = .ok (.ixor, 1) := by decide +kernel
theorem d_MO_most_21 : decode b_MO_most 21 = .ok (.iand, 1) := by decide +kernel
theorem d_MO_most_22 : decode b_MO_most 22 = .ok (.invokevirtual 109, 3) := by decide +kernel
theorem d_MO_most_25 : decode b_MO_most 25 = .ok (.aload_n 0, 1) := by decide +kernel
theorem d_MO_most_26 : decode b_MO_most 26 = .ok (.iload_n 3, 1) := by decide +kernel
theorem d_MO_most_27 : decode b_MO_most 27 = .ok (.iload_n 1, 1) := by decide +kernel
theorem d_MO_most_28 : decode b_MO_most 28 = .ok (.invokevirtual 113, 3) := by decide +kernel
theorem d_MO_most_31 : decode b_MO_most 31 = .ok (.iadd, 1) := by decide +kernel
theorem d_MO_most_32 : decode b_MO_most 32 = .ok (.istore 4, 2) := by decide +kernel
theorem d_MO_most_34 : decode b_MO_most 34 = .ok (.iload 4, 2) := by decide +kernel
theorem d_MO_most_36 : decode b_MO_most 36 = .ok (.iload_n 2, 1) := by decide +kernel
theorem d_MO_most_37 : decode b_MO_most 37 = .ok (.if_icmp .ge 8, 3) := by decide +kernel
theorem d_MO_most_40 : decode b_MO_most 40 = .ok (.iload 4, 2) := by decide +kernel
theorem d_MO_most_42 : decode b_MO_most 42 = .ok (.goto 4, 3) := by decide +kernel
theorem d_MO_most_45 : decode b_MO_most 45 = .ok (.iload_n 2, 1) := by decide +kernel
theorem d_MO_most_46 : decode b_MO_most 46 = .ok (.istore_n 2, 1) := by decide +kernel
theorem d_MO_most_47 : decode b_MO_most 47 = .ok (.iload_n 3, 1) := by decide +kernel
theorem d_MO_most_48 : decode b_MO_most 48 = .ok (.iconst 2, 1) := by decide +kernel
theorem d_MO_most_49 : decode b_MO_most 49 = .ok (.iadd, 1) := by decide +kernel
theorem d_MO_most_50 : decode b_MO_most 50 = .ok (.istore_n 3, 1) := by decide +kernel
theorem d_MO_most_51 : decode b_MO_most 51 = .ok (.goto (-42), 3) := by decide +kernel
theorem d_MO_most_54 : decode b_MO_most 54 = .ok (.iload_n 2, 1) := by decide +kernel
theorem d_MO_most_55 : decode b_MO_most 55 = .ok (.ireturn, 1) := by decide +kernel
theorem d_MO_fits_0 : decode b_MO_fits 0 = .ok (.iconst 1, 1) := by decide +kernel
theorem d_MO_fits_1 : decode b_MO_fits 1 = .ok (.istore_n 2, 1) := by decide +kernel
theorem d_MO_fits_2 : decode b_MO_fits 2 = .ok (.aload_n 0, 1) := by decide +kernel
theorem d_MO_fits_3 : decode b_MO_fits 3 = .ok (.getfield 16, 3) := by decide +kernel
theorem d_MO_fits_6 : decode b_MO_fits 6 = .ok (.iload_n 1, 1) := by decide +kernel
theorem d_MO_fits_7 : decode b_MO_fits 7 = .ok (.iaload, 1) := by decide +kernel
theorem d_MO_fits_8 : decode b_MO_fits 8 = .ok (.istore_n 3, 1) := by decide +kernel
theorem d_MO_fits_9 : decode b_MO_fits 9 = .ok (.iload_n 3, 1) := by decide +kernel
theorem d_MO_fits_10 : decode b_MO_fits 10 = .ok (.ifCond .lt 47, 3) := by decide +kernel
theorem d_MO_fits_13 : decode b_MO_fits 13 = .ok (.iload_n 2, 1) := by decide +kernel
theorem d_MO_fits_14 : decode b_MO_fits 14 = .ok (.ifCond .eq 31, 3) := by decide +kernel
theorem d_MO_fits_17 : decode b_MO_fits 17 = .ok (.aload_n 0, 1) := by decide +kernel
theorem d_MO_fits_18 : decode b_MO_fits 18 = .ok (.getfield 13, 3) := by decide +kernel
theorem d_MO_fits_21 : decode b_MO_fits 21 = .ok (.iload_n 3, 1) := by decide +kernel
theorem d_MO_fits_22 : decode b_MO_fits 22 = .ok (.iaload, 1) := by decide +kernel
theorem d_MO_fits_23 : decode b_MO_fits 23 = .ok (.ifCond .lt 18, 3) := by decide +kernel
theorem d_MO_fits_26 : decode b_MO_fits 26 = .ok (.aload_n 0, 1) := by decide +kernel
theorem d_MO_fits_27 : decode b_MO_fits 27 = .ok (.getfield 62, 3) := by decide +kernel
theorem d_MO_fits_30 : decode b_MO_fits 30 = .ok (.iload_n 3, 1) := by decide +kernel
theorem d_MO_fits_31 : decode b_MO_fits 31 = .ok (.iaload, 1) := by decide +kernel
theorem d_MO_fits_32 : decode b_MO_fits 32 = .ok (.aload_n 0, 1) := by decide +kernel
theorem d_MO_fits_33 : decode b_MO_fits 33 = .ok (.getfield 13, 3) := by decide +kernel
theorem d_MO_fits_36 : decode b_MO_fits 36 = .ok (.iload_n 3, 1) := by decide +kernel
theorem d_MO_fits_37 : decode b_MO_fits 37 = .ok (.iaload, 1) := by decide +kernel
theorem d_MO_fits_38 : decode b_MO_fits 38 = .ok (.if_icmp .ge 7, 3) := by decide +kernel
theorem d_MO_fits_41 : decode b_MO_fits 41 = .ok (.iconst 1, 1) := by decide +kernel
theorem d_MO_fits_42 : decode b_MO_fits 42 = .ok (.goto 4, 3) := by decide +kernel
theorem d_MO_fits_45 : decode b_MO_fits 45 = .ok (.iconst 0, 1) := by decide +kernel
theorem d_MO_fits_46 : decode b_MO_fits 46 = .ok (.istore_n 2, 1) := by decide +kernel
theorem d_MO_fits_47 : decode b_MO_fits 47 = .ok (.aload_n 0, 1) := by decide +kernel
theorem d_MO_fits_48 : decode b_MO_fits 48 = .ok (.getfield 7, 3) := by decide +kernel
theorem d_MO_fits_51 : decode b_MO_fits 51 = .ok (.iload_n 3, 1) := by decide +kernel
theorem d_MO_fits_52 : decode b_MO_fits 52 = .ok (.iaload, 1) := by decide +kernel
theorem d_MO_fits_53 : decode b_MO_fits 53 = .ok (.istore_n 3, 1) := by decide +kernel
theorem d_MO_fits_54 : decode b_MO_fits 54 = .ok (.goto (-45), 3) := by decide +kernel
theorem d_MO_fits_57 : decode b_MO_fits 57 = .ok (.iload_n 2, 1) := by decide +kernel
theorem d_MO_fits_58 : decode b_MO_fits 58 = .ok (.ireturn, 1) := by decide +kernel
theorem d_MO_fix_0 : decode b_MO_fix 0 = .ok (.aload_n 0, 1) := by decide +kernel
theorem d_MO_fix_1 : decode b_MO_fix 1 = .ok (.getfield 59, 3) := by decide +kernel
theorem d_MO_fix_4 : decode b_MO_fix 4 = .ok (.iload_n 2, 1) := by decide +kernel
theorem d_MO_fix_5 : decode b_MO_fix 5 = .ok (.aload_n 0, 1) := by decide +kernel
theorem d_MO_fix_6 : decode b_MO_fix 6 = .ok (.getfield 59, 3) := by decide +kernel
theorem d_MO_fix_9 : decode b_MO_fix 9 = .ok (.iload_n 2, 1) := by decide +kernel
theorem d_MO_fix_10 : decode b_MO_fix 10 = .ok (.iaload, 1) := by decide +kernel
theorem d_MO_fix_11 : decode b_MO_fix 11 = .ok (.iload_n 3, 1) := by decide +kernel
theorem d_MO_fix_12 : decode b_MO_fix 12 = .ok (.iadd, 1) := by decide +kernel
theorem d_MO_fix_13 : decode b_MO_fix 13 = .ok (.iastore, 1) := by decide +kernel
theorem d_MO_fix_14 : decode b_MO_fix 14 = .ok (.aload_n 0, 1) := by decide +kernel
theorem d_MO_fix_15 : decode b_MO_fix 15 = .ok (.getfield 16, 3) := by decide +kernel
theorem d_MO_fix_18 : decode b_MO_fix 18 = .ok (.iload_n 1, 1) := by decide +kernel
theorem d_MO_fix_19 : decode b_MO_fix 19 = .ok (.iaload, 1) := by decide +kernel
theorem d_MO_fix_20 : decode b_MO_fix 20 = .ok (.istore 4, 2) := by decide +kernel
theorem d_MO_fix_22 : decode b_MO_fix 22 = .ok (.iload 4, 2) := by decide +kernel
theorem d_MO_fix_24 : decode b_MO_fix 24 = .ok (.ifCond .lt 31, 3) := by decide +kernel
theorem d_MO_fix_27 : decode b_MO_fix 27 = .ok (.aload_n 0, 1) := by decide +kernel
theorem d_MO_fix_28 : decode b_MO_fix 28 = .ok (.getfield 62, 3) := by decide +kernel
theorem d_MO_fix_31 : decode b_MO_fix 31 = .ok (.iload 4, 2) := by decide +kernel
theorem d_MO_fix_33 : decode b_MO_fix 33 = .ok (.aload_n 0, 1) := by decide +kernel
theorem d_MO_fix_34 : decode b_MO_fix 34 = .ok (.getfield 62, 3) := by decide +kernel
theorem d_MO_fix_37 : decode b_MO_fix 37 = .ok (.iload 4, 2) := by decide +kernel
theorem d_MO_fix_39 : decode b_MO_fix 39 = .ok (.iaload, 1) := by decide +kernel
theorem d_MO_fix_40 : decode b_MO_fix 40 = .ok (.iload_n 3, 1) := by decide +kernel
theorem d_MO_fix_41 : decode b_MO_fix 41 = .ok (.iadd, 1) := by decide +kernel
theorem d_MO_fix_42 : decode b_MO_fix 42 = .ok (.iastore, 1) := by decide +kernel
theorem d_MO_fix_43 : decode b_MO_fix 43 = .ok (.aload_n 0, 1) := by decide +kernel
theorem d_MO_fix_44 : decode b_MO_fix 44 = .ok (.getfield 7, 3) := by decide +kernel
theorem d_MO_fix_47 : decode b_MO_fix 47 = .ok (.iload 4, 2) := by decide +kernel
theorem d_MO_fix_49 : decode b_MO_fix 49 = .ok (.iaload, 1) := by decide +kernel
theorem d_MO_fix_50 : decode b_MO_fix 50 = .ok (.istore 4, 2) := by decide +kernel
theorem d_MO_fix_52 : decode b_MO_fix 52 = .ok (.goto (-30), 3) := by decide +kernel
theorem d_MO_fix_55 : decode b_MO_fix 55 = .ok (.return_, 1) := by decide +kernel
theorem d_MO_choice_0 : decode b_MO_choice 0 = .ok (.iconst 1, 1) := by decide +kernel
theorem d_MO_choice_1 : decode b_MO_choice 1 = .ok (.istore 4, 2) := by decide +kernel
theorem d_MO_choice_3 : decode b_MO_choice 3 = .ok (.iload 4, 2) := by decide +kernel
theorem d_MO_choice_5 : decode b_MO_choice 5 = .ok (.bipush 6, 2) := by decide +kernel
theorem d_MO_choice_7 : decode b_MO_choice 7 = .ok (.if_icmp .ge 91, 3) := by decide +kernel
theorem d_MO_choice_10 : decode b_MO_choice 10 = .ok (.aload_n 0, 1) := by decide +kernel
theorem d_MO_choice_11 : decode b_MO_choice 11 = .ok (.getfield 56, 3) := by decide +kernel
theorem d_MO_choice_14 : decode b_MO_choice 14 = .ok (.iload_n 1, 1) := by decide +kernel
theorem d_MO_choice_15 : decode b_MO_choice 15 = .ok (.iaload, 1) := by decide +kernel
theorem d_MO_choice_16 : decode b_MO_choice 16 = .ok (.iload 4, 2) := by decide +kernel
theorem d_MO_choice_18 : decode b_MO_choice 18 = .ok (.ishr, 1) := by decide +kernel
theorem d_MO_choice_19 : decode b_MO_choice 19 = .ok (.iconst 1, 1) := by decide +kernel
theorem d_MO_choice_20 : decode b_MO_choice 20 = .ok (.iand, 1) := by decide +kernel
theorem d_MO_choice_21 : decode b_MO_choice 21 = .ok (.iconst 1, 1) := by decide +kernel
theorem d_MO_choice_22 : decode b_MO_choice 22 = .ok (.if_icmp .ne 70, 3) := by decide +kernel
theorem d_MO_choice_25 : decode b_MO_choice 25 = .ok (.aload_n 0, 1) := by decide +kernel
theorem d_MO_choice_26 : decode b_MO_choice 26 = .ok (.getfield 59, 3) := by decide +kernel
theorem d_MO_choice_29 : decode b_MO_choice 29 = .ok (.iload 4, 2) := by decide +kernel
theorem d_MO_choice_31 : decode b_MO_choice 31 = .ok (.iaload, 1) := by decide +kernel
theorem d_MO_choice_32 : decode b_MO_choice 32 = .ok (.aload_n 0, 1) := by decide +kernel
theorem d_MO_choice_33 : decode b_MO_choice 33 = .ok (.getfield 53, 3) := by decide +kernel
theorem d_MO_choice_36 : decode b_MO_choice 36 = .ok (.iload 4, 2) := by decide +kernel
theorem d_MO_choice_38 : decode b_MO_choice 38 = .ok (.iaload, 1) := by decide +kernel
theorem d_MO_choice_39 : decode b_MO_choice 39 = .ok (.if_icmp .ge 53, 3) := by decide +kernel
theorem d_MO_choice_42 : decode b_MO_choice 42 = .ok (.aload_n 0, 1) := by decide +kernel
theorem d_MO_choice_43 : decode b_MO_choice 43 = .ok (.iload_n 1, 1) := by decide +kernel
theorem d_MO_choice_44 : decode b_MO_choice 44 = .ok (.invokevirtual 116, 3) := by decide +kernel
theorem d_MO_choice_47 : decode b_MO_choice 47 = .ok (.ifCond .eq 45, 3) := by decide +kernel
theorem d_MO_choice_50 : decode b_MO_choice 50 = .ok (.aload_n 0, 1) := by decide +kernel
theorem d_MO_choice_51 : decode b_MO_choice 51 = .ok (.iload_n 1, 1) := by decide +kernel
theorem d_MO_choice_52 : decode b_MO_choice 52 = .ok (.iload 4, 2) := by decide +kernel
theorem d_MO_choice_54 : decode b_MO_choice 54 = .ok (.iconst 1, 1) := by decide +kernel
theorem d_MO_choice_55 : decode b_MO_choice 55 = .ok (.invokevirtual 119, 3) := by decide +kernel
theorem d_MO_choice_58 : decode b_MO_choice 58 = .ok (.aload_n 0, 1) := by decide +kernel
theorem d_MO_choice_59 : decode b_MO_choice 59 = .ok (.iload_n 2, 1) := by decide +kernel
theorem d_MO_choice_60 : decode b_MO_choice 60 = .ok (.invokevirtual 123, 3) := by decide +kernel
theorem d_MO_choice_63 : decode b_MO_choice 63 = .ok (.iconst 1, 1) := by decide +kernel
theorem d_MO_choice_64 : decode b_MO_choice 64 = .ok (.iadd, 1) := by decide +kernel
theorem d_MO_choice_65 : decode b_MO_choice 65 = .ok (.iload_n 3, 1) := by decide +kernel
theorem d_MO_choice_66 : decode b_MO_choice 66 = .ok (.if_icmp .ne 7, 3) := by decide +kernel
theorem d_MO_choice_69 : decode b_MO_choice 69 = .ok (.iconst 1, 1) := by decide +kernel
theorem d_MO_choice_70 : decode b_MO_choice 70 = .ok (.goto 4, 3) := by decide +kernel
theorem d_MO_choice_73 : decode b_MO_choice 73 = .ok (.iconst 0, 1) := by decide +kernel
theorem d_MO_choice_74 : decode b_MO_choice 74 = .ok (.istore 5, 2) := by decide +kernel
theorem d_MO_choice_76 : decode b_MO_choice 76 = .ok (.aload_n 0, 1) := by decide +kernel
theorem d_MO_choice_77 : decode b_MO_choice 77 = .ok (.iload_n 1, 1) := by decide +kernel
theorem d_MO_choice_78 : decode b_MO_choice 78 = .ok (.iload 4, 2) := by decide +kernel
theorem d_MO_choice_80 : decode b_MO_choice 80 = .ok (.iconst (-1), 1) := by decide +kernel
theorem d_MO_choice_81 : decode b_MO_choice 81 = .ok (.invokevirtual 119, 3) := by decide +kernel
theorem d_MO_choice_84 : decode b_MO_choice 84 = .ok (.iload 5, 2) := by decide +kernel
theorem d_MO_choice_86 : decode b_MO_choice 86 = .ok (.ifCond .eq 6, 3) := by decide +kernel
theorem d_MO_choice_89 : decode b_MO_choice 89 = .ok (.iload 4, 2) := by decide +kernel
theorem d_MO_choice_91 : decode b_MO_choice 91 = .ok (.ireturn, 1) := by decide +kernel
theorem d_MO_choice_92 : decode b_MO_choice 92 = .ok (.iinc 4 1, 3) := by decide +kernel
theorem d_MO_choice_95 : decode b_MO_choice 95 = .ok (.goto (-92), 3) := by decide +kernel
theorem d_MO_choice_98 : decode b_MO_choice 98 = .ok (.iconst 0, 1) := by decide +kernel
theorem d_MO_choice_99 : decode b_MO_choice 99 = .ok (.ireturn, 1) := by decide +kernel
theorem d_MO_lacks_0 : decode b_MO_lacks 0 = .ok (.iload_n 1, 1) := by decide +kernel
theorem d_MO_lacks_1 : decode b_MO_lacks 1 = .ok (.invokestatic 98, 3) := by decide +kernel
theorem d_MO_lacks_4 : decode b_MO_lacks 4 = .ok (.ifCond .ne 13, 3) := by decide +kernel
theorem d_MO_lacks_7 : decode b_MO_lacks 7 = .ok (.iload_n 2, 1) := by decide +kernel
theorem d_MO_lacks_8 : decode b_MO_lacks 8 = .ok (.ifCond .lt 9, 3) := by decide +kernel
theorem d_MO_lacks_11 : decode b_MO_lacks 11 = .ok (.iload_n 2, 1) := by decide +kernel
theorem d_MO_lacks_12 : decode b_MO_lacks 12 = .ok (.bipush 99, 2) := by decide +kernel
theorem d_MO_lacks_14 : decode b_MO_lacks 14 = .ok (.if_icmp .le 7, 3) := by decide +kernel
theorem d_MO_lacks_17 : decode b_MO_lacks 17 = .ok (.iconst 1, 1) := by decide +kernel
theorem d_MO_lacks_18 : decode b_MO_lacks 18 = .ok (.goto 17, 3) := by decide +kernel
theorem d_MO_lacks_21 : decode b_MO_lacks 21 = .ok (.aload_n 0, 1) := by decide +kernel
theorem d_MO_lacks_22 : decode b_MO_lacks 22 = .ok (.getfield 35, 3) := by decide +kernel
theorem d_MO_lacks_25 : decode b_MO_lacks 25 = .ok (.iload_n 1, 1) := by decide +kernel
theorem d_MO_lacks_26 : decode b_MO_lacks 26 = .ok (.iaload, 1) := by decide +kernel
theorem d_MO_lacks_27 : decode b_MO_lacks 27 = .ok (.ifCond .ge 7, 3) := by decide +kernel
theorem d_MO_lacks_30 : decode b_MO_lacks 30 = .ok (.iconst 2, 1) := by decide +kernel
theorem d_MO_lacks_31 : decode b_MO_lacks 31 = .ok (.goto 4, 3) := by decide +kernel
theorem d_MO_lacks_34 : decode b_MO_lacks 34 = .ok (.iconst 0, 1) := by decide +kernel
theorem d_MO_lacks_35 : decode b_MO_lacks 35 = .ok (.ireturn, 1) := by decide +kernel
theorem d_MO_audit_0 : decode b_MO_audit 0 = .ok (.aload_n 0, 1) := by decide +kernel
theorem d_MO_audit_1 : decode b_MO_audit 1 = .ok (.aload_n 0, 1) := by decide +kernel
theorem d_MO_audit_2 : decode b_MO_audit 2 = .ok (.iload_n 1, 1) := by decide +kernel
theorem d_MO_audit_3 : decode b_MO_audit 3 = .ok (.iload_n 2, 1) := by decide +kernel
theorem d_MO_audit_4 : decode b_MO_audit 4 = .ok (.invokevirtual 126, 3) := by decide +kernel
theorem d_MO_audit_7 : decode b_MO_audit 7 = .ok (.putfield 74, 3) := by decide +kernel
theorem d_MO_audit_10 : decode b_MO_audit 10 = .ok (.aload_n 0, 1) := by decide +kernel
theorem d_MO_audit_11 : decode b_MO_audit 11 = .ok (.getfield 74, 3) := by decide +kernel
theorem d_MO_audit_14 : decode b_MO_audit 14 = .ok (.ifCond .le 5, 3) := by decide +kernel
theorem d_MO_audit_17 : decode b_MO_audit 17 = .ok (.iconst 0, 1) := by decide +kernel
theorem d_MO_audit_18 : decode b_MO_audit 18 = .ok (.ireturn, 1) := by decide +kernel
theorem d_MO_audit_19 : decode b_MO_audit 19 = .ok (.aload_n 0, 1) := by decide +kernel
theorem d_MO_audit_20 : decode b_MO_audit 20 = .ok (.iload_n 1, 1) := by decide +kernel
theorem d_MO_audit_21 : decode b_MO_audit 21 = .ok (.invokevirtual 129, 3) := by decide +kernel
theorem d_MO_audit_24 : decode b_MO_audit 24 = .ok (.aload_n 0, 1) := by decide +kernel
theorem d_MO_audit_25 : decode b_MO_audit 25 = .ok (.iload_n 1, 1) := by decide +kernel
theorem d_MO_audit_26 : decode b_MO_audit 26 = .ok (.iload_n 2, 1) := by decide +kernel
theorem d_MO_audit_27 : decode b_MO_audit 27 = .ok (.invokevirtual 133, 3) := by decide +kernel
theorem d_MO_audit_30 : decode b_MO_audit 30 = .ok (.istore_n 3, 1) := by decide +kernel
theorem d_MO_audit_31 : decode b_MO_audit 31 = .ok (.aload_n 0, 1) := by decide +kernel
theorem d_MO_audit_32 : decode b_MO_audit 32 = .ok (.bipush 62, 2) := by decide +kernel
theorem d_MO_audit_34 : decode b_MO_audit 34 = .ok (.invokevirtual 109, 3) := by decide +kernel
theorem d_MO_audit_37 : decode b_MO_audit 37 = .ok (.istore 4, 2) := by decide +kernel
theorem d_MO_audit_39 : decode b_MO_audit 39 = .ok (.aload_n 0, 1) := by decide +kernel
theorem d_MO_audit_40 : decode b_MO_audit 40 = .ok (.iload_n 3, 1) := by decide +kernel
theorem d_MO_audit_41 : decode b_MO_audit 41 = .ok (.invokevirtual 123, 3) := by decide +kernel
theorem d_MO_audit_44 : decode b_MO_audit 44 = .ok (.istore 5, 2) := by decide +kernel
theorem d_MO_audit_46 : decode b_MO_audit 46 = .ok (.iconst 0, 1) := by decide +kernel
theorem d_MO_audit_47 : decode b_MO_audit 47 = .ok (.istore 6, 2) := by decide +kernel
theorem d_MO_audit_49 : decode b_MO_audit 49 = .ok (.iconst 2, 1) := by decide +kernel
theorem d_MO_audit_50 : decode b_MO_audit 50 = .ok (.istore 7, 2) := by decide +kernel
theorem d_MO_audit_52 : decode b_MO_audit 52 = .ok (.iload 7, 2) := by decide +kernel
theorem d_MO_audit_54 : decode b_MO_audit 54 = .ok (.bipush 64, 2) := by decide +kernel
theorem d_MO_audit_56 : decode b_MO_audit 56 = .ok (.if_icmp .ge 75, 3) := by decide +kernel
theorem d_MO_audit_59 : decode b_MO_audit 59 = .ok (.aload_n 0, 1) := by decide +kernel
theorem d_MO_audit_60 : decode b_MO_audit 60 = .ok (.iload 7, 2) := by decide +kernel
theorem d_MO_audit_62 : decode b_MO_audit 62 = .ok (.invokevirtual 109, 3) := by decide +kernel
theorem d_MO_audit_65 : decode b_MO_audit 65 = .ok (.aload_n 0, 1) := by decide +kernel
theorem d_MO_audit_66 : decode b_MO_audit 66 = .ok (.iload 7, 2) := by decide +kernel
theorem d_MO_audit_68 : decode b_MO_audit 68 = .ok (.iload_n 3, 1) := by decide +kernel
theorem d_MO_audit_69 : decode b_MO_audit 69 = .ok (.invokevirtual 113, 3) := by decide +kernel
theorem d_MO_audit_72 : decode b_MO_audit 72 = .ok (.isub, 1) := by decide +kernel
theorem d_MO_audit_73 : decode b_MO_audit 73 = .ok (.aload_n 0, 1) := by decide +kernel
theorem d_MO_audit_74 : decode b_MO_audit 74 = .ok (.iload 6, 2) := by decide +kernel
theorem d_MO_audit_76 : decode b_MO_audit 76 = .ok (.invokevirtual 109, 3) := by decide +kernel
theorem d_MO_audit_79 : decode b_MO_audit 79 = .ok (.isub, 1) := by decide +kernel
theorem d_MO_audit_80 : decode b_MO_audit 80 = .ok (.aload_n 0, 1) := by decide +kernel
theorem d_MO_audit_81 : decode b_MO_audit 81 = .ok (.iload 6, 2) := by decide +kernel
theorem d_MO_audit_83 : decode b_MO_audit 83 = .ok (.iload_n 3, 1) := by decide +kernel
theorem d_MO_audit_84 : decode b_MO_audit 84 = .ok (.invokevirtual 113, 3) := by decide +kernel
theorem d_MO_audit_87 : decode b_MO_audit 87 = .ok (.iadd, 1) := by decide +kernel
theorem d_MO_audit_88 : decode b_MO_audit 88 = .ok (.istore 8, 2) := by decide +kernel
theorem d_MO_audit_90 : decode b_MO_audit 90 = .ok (.iload 8, 2) := by decide +kernel
theorem d_MO_audit_92 : decode b_MO_audit 92 = .ok (.ifCond .gt 21, 3) := by decide +kernel
theorem d_MO_audit_95 : decode b_MO_audit 95 = .ok (.iload 8, 2) := by decide +kernel
theorem d_MO_audit_97 : decode b_MO_audit 97 = .ok (.ifCond .ne 21, 3) := by decide +kernel
theorem d_MO_audit_100 : decode b_MO_audit 100 = .ok (.iload 7, 2) := by decide +kernel
theorem d_MO_audit_102 : decode b_MO_audit 102 = .ok (.invokestatic 136, 3) := by decide +kernel
theorem d_MO_audit_105 : decode b_MO_audit 105 = .ok (.iload 6, 2) := by decide +kernel
theorem d_MO_audit_107 : decode b_MO_audit 107 = .ok (.invokestatic 136, 3) := by decide +kernel
theorem d_MO_audit_110 : decode b_MO_audit 110 = .ok (.if_icmp .ge 8, 3) := by decide +kernel
theorem d_MO_audit_113 : decode b_MO_audit 113 = .ok (.iload 7, 2) := by decide +kernel
theorem d_MO_audit_115 : decode b_MO_audit 115 = .ok (.goto 5, 3) := by decide +kernel
theorem d_MO_audit_118 : decode b_MO_audit 118 = .ok (.iload 6, 2) := by decide +kernel
theorem d_MO_audit_120 : decode b_MO_audit 120 = .ok (.istore 6, 2) := by decide +kernel
theorem d_MO_audit_122 : decode b_MO_audit 122 = .ok (.iload 7, 2) := by decide +kernel
theorem d_MO_audit_124 : decode b_MO_audit 124 = .ok (.iconst 2, 1) := by decide +kernel
theorem d_MO_audit_125 : decode b_MO_audit 125 = .ok (.iadd, 1) := by decide +kernel
theorem d_MO_audit_126 : decode b_MO_audit 126 = .ok (.istore 7, 2) := by decide +kernel
theorem d_MO_audit_128 : decode b_MO_audit 128 = .ok (.goto (-76), 3) := by decide +kernel
theorem d_MO_audit_131 : decode b_MO_audit 131 = .ok (.aload_n 0, 1) := by decide +kernel
theorem d_MO_audit_132 : decode b_MO_audit 132 = .ok (.iconst 1, 1) := by decide +kernel
theorem d_MO_audit_133 : decode b_MO_audit 133 = .ok (.putfield 139, 3) := by decide +kernel
theorem d_MO_audit_136 : decode b_MO_audit 136 = .ok (.aload_n 0, 1) := by decide +kernel
theorem d_MO_audit_137 : decode b_MO_audit 137 = .ok (.getfield 68, 3) := by decide +kernel
theorem d_MO_audit_140 : decode b_MO_audit 140 = .ok (.iconst 0, 1) := by decide +kernel
theorem d_MO_audit_141 : decode b_MO_audit 141 = .ok (.iload 4, 2) := by decide +kernel
theorem d_MO_audit_143 : decode b_MO_audit 143 = .ok (.iastore, 1) := by decide +kernel
theorem d_MO_audit_144 : decode b_MO_audit 144 = .ok (.aload_n 0, 1) := by decide +kernel
theorem d_MO_audit_145 : decode b_MO_audit 145 = .ok (.getfield 68, 3) := by decide +kernel
theorem d_MO_audit_148 : decode b_MO_audit 148 = .ok (.iconst 1, 1) := by decide +kernel
theorem d_MO_audit_149 : decode b_MO_audit 149 = .ok (.iload 5, 2) := by decide +kernel
theorem d_MO_audit_151 : decode b_MO_audit 151 = .ok (.iastore, 1) := by decide +kernel
theorem d_MO_audit_152 : decode b_MO_audit 152 = .ok (.aload_n 0, 1) := by decide +kernel
theorem d_MO_audit_153 : decode b_MO_audit 153 = .ok (.getfield 68, 3) := by decide +kernel
theorem d_MO_audit_156 : decode b_MO_audit 156 = .ok (.iconst 2, 1) := by decide +kernel
theorem d_MO_audit_157 : decode b_MO_audit 157 = .ok (.iload 6, 2) := by decide +kernel
theorem d_MO_audit_159 : decode b_MO_audit 159 = .ok (.iastore, 1) := by decide +kernel
theorem d_MO_audit_160 : decode b_MO_audit 160 = .ok (.aload_n 0, 1) := by decide +kernel
theorem d_MO_audit_161 : decode b_MO_audit 161 = .ok (.getfield 68, 3) := by decide +kernel
theorem d_MO_audit_164 : decode b_MO_audit 164 = .ok (.iconst 3, 1) := by decide +kernel
theorem d_MO_audit_165 : decode b_MO_audit 165 = .ok (.aload_n 0, 1) := by decide +kernel
theorem d_MO_audit_166 : decode b_MO_audit 166 = .ok (.iload 6, 2) := by decide +kernel
theorem d_MO_audit_168 : decode b_MO_audit 168 = .ok (.invokevirtual 109, 3) := by decide +kernel
theorem d_MO_audit_171 : decode b_MO_audit 171 = .ok (.iastore, 1) := by decide +kernel
theorem d_MO_audit_172 : decode b_MO_audit 172 = .ok (.aload_n 0, 1) := by decide +kernel
theorem d_MO_audit_173 : decode b_MO_audit 173 = .ok (.getfield 68, 3) := by decide +kernel
theorem d_MO_audit_176 : decode b_MO_audit 176 = .ok (.iconst 4, 1) := by decide +kernel
theorem d_MO_audit_177 : decode b_MO_audit 177 = .ok (.aload_n 0, 1) := by decide +kernel
theorem d_MO_audit_178 : decode b_MO_audit 178 = .ok (.iload 6, 2) := by decide +kernel
theorem d_MO_audit_180 : decode b_MO_audit 180 = .ok (.iload_n 3, 1) := by decide +kernel
theorem d_MO_audit_181 : decode b_MO_audit 181 = .ok (.invokevirtual 113, 3) := by decide +kernel
theorem d_MO_audit_184 : decode b_MO_audit 184 = .ok (.iastore, 1) := by decide +kernel
theorem d_MO_audit_185 : decode b_MO_audit 185 = .ok (.aload_n 0, 1) := by decide +kernel
theorem d_MO_audit_186 : decode b_MO_audit 186 = .ok (.getfield 68, 3) := by decide +kernel
theorem d_MO_audit_189 : decode b_MO_audit 189 = .ok (.iconst 5, 1) := by decide +kernel
theorem d_MO_audit_190 : decode b_MO_audit 190 = .ok (.iload_n 1, 1) := by decide +kernel
theorem d_MO_audit_191 : decode b_MO_audit 191 = .ok (.iastore, 1) := by decide +kernel
theorem d_MO_audit_192 : decode b_MO_audit 192 = .ok (.aload_n 0, 1) := by decide +kernel
theorem d_MO_audit_193 : decode b_MO_audit 193 = .ok (.getfield 68, 3) := by decide +kernel
theorem d_MO_audit_196 : decode b_MO_audit 196 = .ok (.bipush 6, 2) := by decide +kernel
theorem d_MO_audit_198 : decode b_MO_audit 198 = .ok (.iload_n 2, 1) := by decide +kernel
theorem d_MO_audit_199 : decode b_MO_audit 199 = .ok (.iastore, 1) := by decide +kernel
theorem d_MO_audit_200 : decode b_MO_audit 200 = .ok (.iload 5, 2) := by decide +kernel
theorem d_MO_audit_202 : decode b_MO_audit 202 = .ok (.istore 7, 2) := by decide +kernel
theorem d_MO_audit_204 : decode b_MO_audit 204 = .ok (.iconst 0, 1) := by decide +kernel
theorem d_MO_audit_205 : decode b_MO_audit 205 = .ok (.istore 8, 2) := by decide +kernel
theorem d_MO_audit_207 : decode b_MO_audit 207 = .ok (.iload 8, 2) := by decide +kernel
theorem d_MO_audit_209 : decode b_MO_audit 209 = .ok (.bipush 12, 2) := by decide +kernel
theorem d_MO_audit_211 : decode b_MO_audit 211 = .ok (.if_icmp .ge 80, 3) := by decide +kernel
theorem d_MO_audit_214 : decode b_MO_audit 214 = .ok (.aload_n 0, 1) := by decide +kernel
theorem d_MO_audit_215 : decode b_MO_audit 215 = .ok (.getfield 71, 3) := by decide +kernel
theorem d_MO_audit_218 : decode b_MO_audit 218 = .ok (.iload 8, 2) := by decide +kernel
theorem d_MO_audit_220 : decode b_MO_audit 220 = .ok (.iconst 0, 1) := by decide +kernel
theorem d_MO_audit_221 : decode b_MO_audit 221 = .ok (.iastore, 1) := by decide +kernel
theorem d_MO_audit_222 : decode b_MO_audit 222 = .ok (.iload_n 3, 1) := by decide +kernel
theorem d_MO_audit_223 : decode b_MO_audit 223 = .ok (.iload 8, 2) := by decide +kernel
theorem d_MO_audit_225 : decode b_MO_audit 225 = .ok (.ishr, 1) := by decide +kernel
theorem d_MO_audit_226 : decode b_MO_audit 226 = .ok (.iconst 1, 1) := by decide +kernel
theorem d_MO_audit_227 : decode b_MO_audit 227 = .ok (.iand, 1) := by decide +kernel
theorem d_MO_audit_228 : decode b_MO_audit 228 = .ok (.iconst 1, 1) := by decide +kernel
theorem d_MO_audit_229 : decode b_MO_audit 229 = .ok (.if_icmp .ne 56, 3) := by decide +kernel
theorem d_MO_audit_232 : decode b_MO_audit 232 = .ok (.aload_n 0, 1) := by decide +kernel
theorem d_MO_audit_233 : decode b_MO_audit 233 = .ok (.getfield 71, 3) := by decide +kernel
theorem d_MO_audit_236 : decode b_MO_audit 236 = .ok (.iload 8, 2) := by decide +kernel
theorem d_MO_audit_238 : decode b_MO_audit 238 = .ok (.aload_n 0, 1) := by decide +kernel
theorem d_MO_audit_239 : decode b_MO_audit 239 = .ok (.iload 8, 2) := by decide +kernel
theorem d_MO_audit_241 : decode b_MO_audit 241 = .ok (.iload_n 3, 1) := by decide +kernel
theorem d_MO_audit_242 : decode b_MO_audit 242 = .ok (.iload 8, 2) := by decide +kernel
theorem d_MO_audit_244 : decode b_MO_audit 244 = .ok (.iconst 1, 1) := by decide +kernel
theorem d_MO_audit_245 : decode b_MO_audit 245 = .ok (.iadd, 1) := by decide +kernel
theorem d_MO_audit_246 : decode b_MO_audit 246 = .ok (.ishr, 1) := by decide +kernel
theorem d_MO_audit_247 : decode b_MO_audit 247 = .ok (.iload 8, 2) := by decide +kernel
theorem d_MO_audit_249 : decode b_MO_audit 249 = .ok (.iconst 1, 1) := by decide +kernel
theorem d_MO_audit_250 : decode b_MO_audit 250 = .ok (.iadd, 1) := by decide +kernel
theorem d_MO_audit_251 : decode b_MO_audit 251 = .ok (.ishl, 1) := by decide +kernel
theorem d_MO_audit_252 : decode b_MO_audit 252 = .ok (.iload 7, 2) := by decide +kernel
theorem d_MO_audit_254 : decode b_MO_audit 254 = .ok (.invokevirtual 143, 3) := by decide +kernel
theorem d_MO_audit_257 : decode b_MO_audit 257 = .ok (.iastore, 1) := by decide +kernel
theorem d_MO_audit_258 : decode b_MO_audit 258 = .ok (.aload_n 0, 1) := by decide +kernel
theorem d_MO_audit_259 : decode b_MO_audit 259 = .ok (.getfield 71, 3) := by decide +kernel
theorem d_MO_audit_262 : decode b_MO_audit 262 = .ok (.iload 8, 2) := by decide +kernel
theorem d_MO_audit_264 : decode b_MO_audit 264 = .ok (.iaload, 1) := by decide +kernel
theorem d_MO_audit_265 : decode b_MO_audit 265 = .ok (.ifCond .le 20, 3) := by decide +kernel
theorem d_MO_audit_268 : decode b_MO_audit 268 = .ok (.aload_n 0, 1) := by decide +kernel
theorem d_MO_audit_269 : decode b_MO_audit 269 = .ok (.iload 8, 2) := by decide +kernel
theorem d_MO_audit_271 : decode b_MO_audit 271 = .ok (.aload_n 0, 1) := by decide +kernel
theorem d_MO_audit_272 : decode b_MO_audit 272 = .ok (.getfield 71, 3) := by decide +kernel
theorem d_MO_audit_275 : decode b_MO_audit 275 = .ok (.iload 8, 2) := by decide +kernel
theorem d_MO_audit_277 : decode b_MO_audit 277 = .ok (.iaload, 1) := by decide +kernel
theorem d_MO_audit_278 : decode b_MO_audit 278 = .ok (.iconst 1, 1) := by decide +kernel
theorem d_MO_audit_279 : decode b_MO_audit 279 = .ok (.invokevirtual 119, 3) := by decide +kernel
theorem d_MO_audit_282 : decode b_MO_audit 282 = .ok (.iinc 7 (-1), 3) := by decide +kernel
theorem d_MO_audit_285 : decode b_MO_audit 285 = .ok (.iinc 8 1, 3) := by decide +kernel
theorem d_MO_audit_288 : decode b_MO_audit 288 = .ok (.goto (-81), 3) := by decide +kernel
theorem d_MO_audit_291 : decode b_MO_audit 291 = .ok (.iload 4, 2) := by decide +kernel
theorem d_MO_audit_293 : decode b_MO_audit 293 = .ok (.iload 5, 2) := by decide +kernel
theorem d_MO_audit_295 : decode b_MO_audit 295 = .ok (.isub, 1) := by decide +kernel
theorem d_MO_audit_296 : decode b_MO_audit 296 = .ok (.ireturn, 1) := by decide +kernel
theorem d_MO_assigned_0 : decode b_MO_assigned 0 = .ok (.aload_n 0, 1) := by decide +kernel
theorem d_MO_assigned_1 : decode b_MO_assigned 1 = .ok (.aload_n 0, 1) := by decide +kernel
theorem d_MO_assigned_2 : decode b_MO_assigned 2 = .ok (.iload_n 1, 1) := by decide +kernel
theorem d_MO_assigned_3 : decode b_MO_assigned 3 = .ok (.invokevirtual 91, 3) := by decide +kernel
theorem d_MO_assigned_6 : decode b_MO_assigned 6 = .ok (.ifCond .eq 7, 3) := by decide +kernel
theorem d_MO_assigned_9 : decode b_MO_assigned 9 = .ok (.iconst 1, 1) := by decide +kernel
theorem d_MO_assigned_10 : decode b_MO_assigned 10 = .ok (.goto 15, 3) := by decide +kernel
theorem d_MO_assigned_13 : decode b_MO_assigned 13 = .ok (.aload_n 0, 1) := by decide +kernel
theorem d_MO_assigned_14 : decode b_MO_assigned 14 = .ok (.getfield 139, 3) := by decide +kernel
theorem d_MO_assigned_17 : decode b_MO_assigned 17 = .ok (.ifCond .ne 7, 3) := by decide +kernel
theorem d_MO_assigned_20 : decode b_MO_assigned 20 = .ok (.iconst 2, 1) := by decide +kernel
theorem d_MO_assigned_21 : decode b_MO_assigned 21 = .ok (.goto 4, 3) := by decide +kernel
theorem d_MO_assigned_24 : decode b_MO_assigned 24 = .ok (.iconst 0, 1) := by decide +kernel
theorem d_MO_assigned_25 : decode b_MO_assigned 25 = .ok (.putfield 74, 3) := by decide +kernel
theorem d_MO_assigned_28 : decode b_MO_assigned 28 = .ok (.aload_n 0, 1) := by decide +kernel
theorem d_MO_assigned_29 : decode b_MO_assigned 29 = .ok (.getfield 74, 3) := by decide +kernel
theorem d_MO_assigned_32 : decode b_MO_assigned 32 = .ok (.ifCond .le 7, 3) := by decide +kernel
theorem d_MO_assigned_35 : decode b_MO_assigned 35 = .ok (.iconst 0, 1) := by decide +kernel
theorem d_MO_assigned_36 : decode b_MO_assigned 36 = .ok (.goto 9, 3) := by decide +kernel
theorem d_MO_assigned_39 : decode b_MO_assigned 39 = .ok (.aload_n 0, 1) := by decide +kernel
theorem d_MO_assigned_40 : decode b_MO_assigned 40 = .ok (.getfield 71, 3) := by decide +kernel
theorem d_MO_assigned_43 : decode b_MO_assigned 43 = .ok (.iload_n 1, 1) := by decide +kernel
theorem d_MO_assigned_44 : decode b_MO_assigned 44 = .ok (.iaload, 1) := by decide +kernel
theorem d_MO_assigned_45 : decode b_MO_assigned 45 = .ok (.ireturn, 1) := by decide +kernel
theorem d_MO_used_0 : decode b_MO_used 0 = .ok (.aload_n 0, 1) := by decide +kernel
theorem d_MO_used_1 : decode b_MO_used 1 = .ok (.aload_n 0, 1) := by decide +kernel
theorem d_MO_used_2 : decode b_MO_used 2 = .ok (.iload_n 1, 1) := by decide +kernel
theorem d_MO_used_3 : decode b_MO_used 3 = .ok (.invokevirtual 88, 3) := by decide +kernel
theorem d_MO_used_6 : decode b_MO_used 6 = .ok (.ifCond .eq 7, 3) := by decide +kernel
theorem d_MO_used_9 : decode b_MO_used 9 = .ok (.iconst 1, 1) := by decide +kernel
theorem d_MO_used_10 : decode b_MO_used 10 = .ok (.goto 15, 3) := by decide +kernel
theorem d_MO_used_13 : decode b_MO_used 13 = .ok (.aload_n 0, 1) := by decide +kernel
theorem d_MO_used_14 : decode b_MO_used 14 = .ok (.getfield 139, 3) := by decide +kernel
theorem d_MO_used_17 : decode b_MO_used 17 = .ok (.ifCond .ne 7, 3) := by decide +kernel
theorem d_MO_used_20 : decode b_MO_used 20 = .ok (.iconst 2, 1) := by decide +kernel
theorem d_MO_used_21 : decode b_MO_used 21 = .ok (.goto 4, 3) := by decide +kernel
theorem d_MO_used_24 : decode b_MO_used 24 = .ok (.iconst 0, 1) := by decide +kernel
theorem d_MO_used_25 : decode b_MO_used 25 = .ok (.putfield 74, 3) := by decide +kernel
theorem d_MO_used_28 : decode b_MO_used 28 = .ok (.iconst 0, 1) := by decide +kernel
theorem d_MO_used_29 : decode b_MO_used 29 = .ok (.istore_n 2, 1) := by decide +kernel
theorem d_MO_used_30 : decode b_MO_used 30 = .ok (.iconst 0, 1) := by decide +kernel
theorem d_MO_used_31 : decode b_MO_used 31 = .ok (.istore_n 3, 1) := by decide +kernel
theorem d_MO_used_32 : decode b_MO_used 32 = .ok (.iload_n 3, 1) := by decide +kernel
theorem d_MO_used_33 : decode b_MO_used 33 = .ok (.aload_n 0, 1) := by decide +kernel
theorem d_MO_used_34 : decode b_MO_used 34 = .ok (.getfield 81, 3) := by decide +kernel
theorem d_MO_used_37 : decode b_MO_used 37 = .ok (.if_icmp .ge 84, 3) := by decide +kernel
theorem d_MO_used_40 : decode b_MO_used 40 = .ok (.aload_n 0, 1) := by decide +kernel
theorem d_MO_used_41 : decode b_MO_used 41 = .ok (.getfield 74, 3) := by decide +kernel
theorem d_MO_used_44 : decode b_MO_used 44 = .ok (.ifCond .ne 77, 3) := by decide +kernel
theorem d_MO_used_47 : decode b_MO_used 47 = .ok (.iconst 0, 1) := by decide +kernel
theorem d_MO_used_48 : decode b_MO_used 48 = .ok (.istore 4, 2) := by decide +kernel
theorem d_MO_used_50 : decode b_MO_used 50 = .ok (.aload_n 0, 1) := by decide +kernel
theorem d_MO_used_51 : decode b_MO_used 51 = .ok (.getfield 16, 3) := by decide +kernel
theorem d_MO_used_54 : decode b_MO_used 54 = .ok (.iload_n 3, 1) := by decide +kernel
theorem d_MO_used_55 : decode b_MO_used 55 = .ok (.iaload, 1) := by decide +kernel
theorem d_MO_used_56 : decode b_MO_used 56 = .ok (.istore 5, 2) := by decide +kernel
theorem d_MO_used_58 : decode b_MO_used 58 = .ok (.iload 5, 2) := by decide +kernel
theorem d_MO_used_60 : decode b_MO_used 60 = .ok (.ifCond .lt 33, 3) := by decide +kernel
theorem d_MO_used_63 : decode b_MO_used 63 = .ok (.iload 4, 2) := by decide +kernel
theorem d_MO_used_65 : decode b_MO_used 65 = .ok (.ifCond .ne 9, 3) := by decide +kernel
theorem d_MO_used_68 : decode b_MO_used 68 = .ok (.iload 5, 2) := by decide +kernel
theorem d_MO_used_70 : decode b_MO_used 70 = .ok (.iload_n 1, 1) := by decide +kernel
theorem d_MO_used_71 : decode b_MO_used 71 = .ok (.if_icmp .ne 7, 3) := by decide +kernel
theorem d_MO_used_74 : decode b_MO_used 74 = .ok (.iconst 1, 1) := by decide +kernel
theorem d_MO_used_75 : decode b_MO_used 75 = .ok (.goto 4, 3) := by decide +kernel
theorem d_MO_used_78 : decode b_MO_used 78 = .ok (.iconst 0, 1) := by decide +kernel
theorem d_MO_used_79 : decode b_MO_used 79 = .ok (.istore 4, 2) := by decide +kernel
theorem d_MO_used_81 : decode b_MO_used 81 = .ok (.aload_n 0, 1) := by decide +kernel
theorem d_MO_used_82 : decode b_MO_used 82 = .ok (.getfield 7, 3) := by decide +kernel
theorem d_MO_used_85 : decode b_MO_used 85 = .ok (.iload 5, 2) := by decide +kernel
theorem d_MO_used_87 : decode b_MO_used 87 = .ok (.iaload, 1) := by decide +kernel
theorem d_MO_used_88 : decode b_MO_used 88 = .ok (.istore 5, 2) := by decide +kernel
theorem d_MO_used_90 : decode b_MO_used 90 = .ok (.goto (-32), 3) := by decide +kernel
theorem d_MO_used_93 : decode b_MO_used 93 = .ok (.iload 4, 2) := by decide +kernel
theorem d_MO_used_95 : decode b_MO_used 95 = .ok (.ifCond .eq 18, 3) := by decide +kernel
theorem d_MO_used_98 : decode b_MO_used 98 = .ok (.aload_n 0, 1) := by decide +kernel
theorem d_MO_used_99 : decode b_MO_used 99 = .ok (.getfield 71, 3) := by decide +kernel
theorem d_MO_used_102 : decode b_MO_used 102 = .ok (.iload_n 3, 1) := by decide +kernel
theorem d_MO_used_103 : decode b_MO_used 103 = .ok (.iaload, 1) := by decide +kernel
theorem d_MO_used_104 : decode b_MO_used 104 = .ok (.ifCond .le 9, 3) := by decide +kernel
theorem d_MO_used_107 : decode b_MO_used 107 = .ok (.iload_n 2, 1) := by decide +kernel
theorem d_MO_used_108 : decode b_MO_used 108 = .ok (.iconst 1, 1) := by decide +kernel
theorem d_MO_used_109 : decode b_MO_used 109 = .ok (.iadd, 1) := by decide +kernel
theorem d_MO_used_110 : decode b_MO_used 110 = .ok (.goto 4, 3) := by decide +kernel
theorem d_MO_used_113 : decode b_MO_used 113 = .ok (.iload_n 2, 1) := by decide +kernel
theorem d_MO_used_114 : decode b_MO_used 114 = .ok (.istore_n 2, 1) := by decide +kernel
theorem d_MO_used_115 : decode b_MO_used 115 = .ok (.iinc 3 1, 3) := by decide +kernel
theorem d_MO_used_118 : decode b_MO_used 118 = .ok (.goto (-86), 3) := by decide +kernel
theorem d_MO_used_121 : decode b_MO_used 121 = .ok (.iload_n 2, 1) := by decide +kernel
theorem d_MO_used_122 : decode b_MO_used 122 = .ok (.ireturn, 1) := by decide +kernel
