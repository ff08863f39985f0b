theorem dX10_mayRaiseSo_8 : decode cX10_mayRaiseSo 8 = .ok (.iload_n 1, 1) := by decide +kernel
theorem dX10_mayRaiseSo_9 : decode cX10_mayRaiseSo 9 = .ok (.invokestatic 187, 3) := by decide +kernel
theorem dX10_mayRaiseSo_12 : decode cX10_mayRaiseSo 12 = .ok (.invokevirtual 211, 3) := by decide +kernel
theorem dX10_mayRaiseSo_15 : decode cX10_mayRaiseSo 15 = .ok (.ifCond .eq 26, 3) := by decide +kernel
theorem dX10_mayRaiseSo_18 : decode cX10_mayRaiseSo 18 = .ok (.aload_n 0, 1) := by decide +kernel
theorem dX10_mayRaiseSo_19 : decode cX10_mayRaiseSo 19 = .ok (.iload_n 2, 1) := by decide +kernel
theorem dX10_mayRaiseSo_20 : decode cX10_mayRaiseSo 20 = .ok (.iload_n 3, 1) := by decide +kernel
theorem dX10_mayRaiseSo_21 : decode cX10_mayRaiseSo 21 = .ok (.invokevirtual 214, 3) := by decide +kernel
theorem dX10_mayRaiseSo_24 : decode cX10_mayRaiseSo 24 = .ok (.ifCond .ne 13, 3) := by decide +kernel
theorem dX10_mayRaiseSo_27 : decode cX10_mayRaiseSo 27 = .ok (.aload_n 0, 1) := by decide +kernel
theorem dX10_mayRaiseSo_28 : decode cX10_mayRaiseSo 28 = .ok (.iload_n 2, 1) := by decide +kernel
theorem dX10_mayRaiseSo_29 : decode cX10_mayRaiseSo 29 = .ok (.iload 4, 2) := by decide +kernel
theorem dX10_mayRaiseSo_31 : decode cX10_mayRaiseSo 31 = .ok (.invokevirtual 214, 3) := by decide +kernel
theorem dX10_mayRaiseSo_34 : decode cX10_mayRaiseSo 34 = .ok (.ifCond .eq 7, 3) := by decide +kernel
theorem dX10_mayRaiseSo_37 : decode cX10_mayRaiseSo 37 = .ok (.iconst 1, 1) := by decide +kernel
theorem dX10_mayRaiseSo_38 : decode cX10_mayRaiseSo 38 = .ok (.goto 4, 3) := by decide +kernel
theorem dX10_mayRaiseSo_41 : decode cX10_mayRaiseSo 41 = .ok (.iconst 0, 1) := by decide +kernel
theorem dX10_mayRaiseSo_42 : decode cX10_mayRaiseSo 42 = .ok (.ireturn, 1) := by decide +kernel
theorem dX10_mayStay_0 : decode cX10_mayStay 0 = .ok (.iload_n 1, 1) := by decide +kernel
theorem dX10_mayStay_1 : decode cX10_mayStay 1 = .ok (.invokestatic 190, 3) := by decide +kernel
theorem dX10_mayStay_4 : decode cX10_mayStay 4 = .ok (.ifCond .ne 16, 3) := by decide +kernel
theorem dX10_mayStay_7 : decode cX10_mayStay 7 = .ok (.aload_n 0, 1) := by decide +kernel
theorem dX10_mayStay_8 : decode cX10_mayStay 8 = .ok (.iload_n 1, 1) := by decide +kernel
theorem dX10_mayStay_9 : decode cX10_mayStay 9 = .ok (.invokestatic 187, 3) := by decide +kernel
theorem dX10_mayStay_12 : decode cX10_mayStay 12 = .ok (.iload_n 2, 1) := by decide +kernel
theorem dX10_mayStay_13 : decode cX10_mayStay 13 = .ok (.iload_n 3, 1) := by decide +kernel
theorem dX10_mayStay_14 : decode cX10_mayStay 14 = .ok (.invokevirtual 218, 3) := by decide +kernel
theorem dX10_mayStay_17 : decode cX10_mayStay 17 = .ok (.ifCond .eq 7, 3) := by decide +kernel
theorem dX10_mayStay_20 : decode cX10_mayStay 20 = .ok (.iconst 1, 1) := by decide +kernel
theorem dX10_mayStay_21 : decode cX10_mayStay 21 = .ok (.goto 4, 3) := by decide +kernel
theorem dX10_mayStay_24 : decode cX10_mayStay 24 = .ok (.iconst 0, 1) := by decide +kernel
theorem dX10_mayStay_25 : decode cX10_mayStay 25 = .ok (.ireturn, 1) := by decide +kernel
theorem dX10_inColumn_0 : decode cX10_inColumn 0 = .ok (.iconst 0, 1) := by decide +kernel
theorem dX10_inColumn_1 : decode cX10_inColumn 1 = .ok (.istore 5, 2) := by decide +kernel
theorem dX10_inColumn_3 : decode cX10_inColumn 3 = .ok (.iload 4, 2) := by decide +kernel
theorem dX10_inColumn_5 : decode cX10_inColumn 5 = .ok (.aload_n 0, 1) := by decide +kernel
theorem dX10_inColumn_6 : decode cX10_inColumn 6 = .ok (.getfield 143, 3) := by decide +kernel
theorem dX10_inColumn_9 : decode cX10_inColumn 9 = .ok (.irem, 1) := by decide +kernel
theorem dX10_inColumn_10 : decode cX10_inColumn 10 = .ok (.istore 6, 2) := by decide +kernel
theorem dX10_inColumn_12 : decode cX10_inColumn 12 = .ok (.iload 6, 2) := by decide +kernel
theorem dX10_inColumn_14 : decode cX10_inColumn 14 = .ok (.aload_n 0, 1) := by decide +kernel
theorem dX10_inColumn_15 : decode cX10_inColumn 15 = .ok (.getfield 143, 3) := by decide +kernel
theorem dX10_inColumn_18 : decode cX10_inColumn 18 = .ok (.aload_n 0, 1) := by decide +kernel
theorem dX10_inColumn_19 : decode cX10_inColumn 19 = .ok (.getfield 143, 3) := by decide +kernel
theorem dX10_inColumn_22 : decode cX10_inColumn 22 = .ok (.imul, 1) := by decide +kernel
theorem dX10_inColumn_23 : decode cX10_inColumn 23 = .ok (.if_icmp .ge 50, 3) := by decide +kernel
theorem dX10_inColumn_26 : decode cX10_inColumn 26 = .ok (.iload 5, 2) := by decide +kernel
theorem dX10_inColumn_28 : decode cX10_inColumn 28 = .ok (.ifCond .ne 26, 3) := by decide +kernel
theorem dX10_inColumn_31 : decode cX10_inColumn 31 = .ok (.aload_n 0, 1) := by decide +kernel
theorem dX10_inColumn_32 : decode cX10_inColumn 32 = .ok (.getfield 31, 3) := by decide +kernel
theorem dX10_inColumn_35 : decode cX10_inColumn 35 = .ok (.bipush 49, 2) := by decide +kernel
theorem dX10_inColumn_37 : decode cX10_inColumn 37 = .ok (.iload_n 1, 1) := by decide +kernel
theorem dX10_inColumn_38 : decode cX10_inColumn 38 = .ok (.imul, 1) := by decide +kernel
theorem dX10_inColumn_39 : decode cX10_inColumn 39 = .ok (.iload 6, 2) := by decide +kernel
theorem dX10_inColumn_41 : decode cX10_inColumn 41 = .ok (.iadd, 1) := by decide +kernel
theorem dX10_inColumn_42 : decode cX10_inColumn 42 = .ok (.iaload, 1) := by decide +kernel
theorem dX10_inColumn_43 : decode cX10_inColumn 43 = .ok (.iconst 1, 1) := by decide +kernel
theorem dX10_inColumn_44 : decode cX10_inColumn 44 = .ok (.iload_n 3, 1) := by decide +kernel
theorem dX10_inColumn_45 : decode cX10_inColumn 45 = .ok (.iadd, 1) := by decide +kernel
theorem dX10_inColumn_46 : decode cX10_inColumn 46 = .ok (.bipush 16, 2) := by decide +kernel
theorem dX10_inColumn_48 : decode cX10_inColumn 48 = .ok (.iload_n 2, 1) := by decide +kernel
theorem dX10_inColumn_49 : decode cX10_inColumn 49 = .ok (.imul, 1) := by decide +kernel
theorem dX10_inColumn_50 : decode cX10_inColumn 50 = .ok (.iadd, 1) := by decide +kernel
theorem dX10_inColumn_51 : decode cX10_inColumn 51 = .ok (.if_icmp .ne 7, 3) := by decide +kernel
theorem dX10_inColumn_54 : decode cX10_inColumn 54 = .ok (.iconst 1, 1) := by decide +kernel
theorem dX10_inColumn_55 : decode cX10_inColumn 55 = .ok (.goto 4, 3) := by decide +kernel
theorem dX10_inColumn_58 : decode cX10_inColumn 58 = .ok (.iconst 0, 1) := by decide +kernel
theorem dX10_inColumn_59 : decode cX10_inColumn 59 = .ok (.istore 5, 2) := by decide +kernel
theorem dX10_inColumn_61 : decode cX10_inColumn 61 = .ok (.iload 6, 2) := by decide +kernel
theorem dX10_inColumn_63 : decode cX10_inColumn 63 = .ok (.aload_n 0, 1) := by decide +kernel
theorem dX10_inColumn_64 : decode cX10_inColumn 64 = .ok (.getfield 143, 3) := by decide +kernel
theorem dX10_inColumn_67 : decode cX10_inColumn 67 = .ok (.iadd, 1) := by decide +kernel
theorem dX10_inColumn_68 : decode cX10_inColumn 68 = .ok (.istore 6, 2) := by decide +kernel
theorem dX10_inColumn_70 : decode cX10_inColumn 70 = .ok (.goto (-58), 3) := by decide +kernel
theorem dX10_inColumn_73 : decode cX10_inColumn 73 = .ok (.iload 5, 2) := by decide +kernel
theorem dX10_inColumn_75 : decode cX10_inColumn 75 = .ok (.ireturn, 1) := by decide +kernel
theorem dX10_findTries_0 : decode cX10_findTries 0 = .ok (.aload_n 0, 1) := by decide +kernel
theorem dX10_findTries_1 : decode cX10_findTries 1 = .ok (.getfield 37, 3) := by decide +kernel
theorem dX10_findTries_4 : decode cX10_findTries 4 = .ok (.iload_n 1, 1) := by decide +kernel
theorem dX10_findTries_5 : decode cX10_findTries 5 = .ok (.iaload, 1) := by decide +kernel
theorem dX10_findTries_6 : decode cX10_findTries 6 = .ok (.istore_n 2, 1) := by decide +kernel
theorem dX10_findTries_7 : decode cX10_findTries 7 = .ok (.aload_n 0, 1) := by decide +kernel
theorem dX10_findTries_8 : decode cX10_findTries 8 = .ok (.getfield 55, 3) := by decide +kernel
theorem dX10_findTries_11 : decode cX10_findTries 11 = .ok (.iload_n 1, 1) := by decide +kernel
theorem dX10_findTries_12 : decode cX10_findTries 12 = .ok (.iconst 0, 1) := by decide +kernel
theorem dX10_findTries_13 : decode cX10_findTries 13 = .ok (.iastore, 1) := by decide +kernel
theorem dX10_findTries_14 : decode cX10_findTries 14 = .ok (.iconst 0, 1) := by decide +kernel
theorem dX10_findTries_15 : decode cX10_findTries 15 = .ok (.istore_n 3, 1) := by decide +kernel
theorem dX10_findTries_16 : decode cX10_findTries 16 = .ok (.iload_n 3, 1) := by decide +kernel
theorem dX10_findTries_17 : decode cX10_findTries 17 = .ok (.aload_n 0, 1) := by decide +kernel
theorem dX10_findTries_18 : decode cX10_findTries 18 = .ok (.getfield 143, 3) := by decide +kernel
theorem dX10_findTries_21 : decode cX10_findTries 21 = .ok (.aload_n 0, 1) := by decide +kernel
theorem dX10_findTries_22 : decode cX10_findTries 22 = .ok (.getfield 143, 3) := by decide +kernel
theorem dX10_findTries_25 : decode cX10_findTries 25 = .ok (.imul, 1) := by decide +kernel
theorem dX10_findTries_26 : decode cX10_findTries 26 = .ok (.if_icmp .ge 161, 3) := by decide +kernel
theorem dX10_findTries_29 : decode cX10_findTries 29 = .ok (.aload_n 0, 1) := by decide +kernel
theorem dX10_findTries_30 : decode cX10_findTries 30 = .ok (.getfield 31, 3) := by decide +kernel
theorem dX10_findTries_33 : decode cX10_findTries 33 = .ok (.bipush 49, 2) := by decide +kernel
theorem dX10_findTries_35 : decode cX10_findTries 35 = .ok (.iload_n 1, 1) := by decide +kernel
theorem dX10_findTries_36 : decode cX10_findTries 36 = .ok (.imul, 1) := by decide +kernel
theorem dX10_findTries_37 : decode cX10_findTries 37 = .ok (.iload_n 3, 1) := by decide +kernel
theorem dX10_findTries_38 : decode cX10_findTries 38 = .ok (.iadd, 1) := by decide +kernel
theorem dX10_findTries_39 : decode cX10_findTries 39 = .ok (.iaload, 1) := by decide +kernel
theorem dX10_findTries_40 : decode cX10_findTries 40 = .ok (.istore 4, 2) := by decide +kernel
theorem dX10_findTries_42 : decode cX10_findTries 42 = .ok (.iload 4, 2) := by decide +kernel
theorem dX10_findTries_44 : decode cX10_findTries 44 = .ok (.ifCond .eq 137, 3) := by decide +kernel
theorem dX10_findTries_47 : decode cX10_findTries 47 = .ok (.iload 4, 2) := by decide +kernel
theorem dX10_findTries_49 : decode cX10_findTries 49 = .ok (.invokestatic 193, 3) := by decide +kernel
theorem dX10_findTries_52 : decode cX10_findTries 52 = .ok (.iload_n 2, 1) := by decide +kernel
theorem dX10_findTries_53 : decode cX10_findTries 53 = .ok (.if_icmp .ne 128, 3) := by decide +kernel
theorem dX10_findTries_56 : decode cX10_findTries 56 = .ok (.aload_n 0, 1) := by decide +kernel
theorem dX10_findTries_57 : decode cX10_findTries 57 = .ok (.iload_n 1, 1) := by decide +kernel
theorem dX10_findTries_58 : decode cX10_findTries 58 = .ok (.iload_n 3, 1) := by decide +kernel
theorem dX10_findTries_59 : decode cX10_findTries 59 = .ok (.iload 4, 2) := by decide +kernel
theorem dX10_findTries_61 : decode cX10_findTries 61 = .ok (.invokevirtual 203, 3) := by decide +kernel
theorem dX10_findTries_64 : decode cX10_findTries 64 = .ok (.iconst 0, 1) := by decide +kernel
theorem dX10_findTries_65 : decode cX10_findTries 65 = .ok (.istore 5, 2) := by decide +kernel
theorem dX10_findTries_67 : decode cX10_findTries 67 = .ok (.iload 5, 2) := by decide +kernel
theorem dX10_findTries_69 : decode cX10_findTries 69 = .ok (.aload_n 0, 1) := by decide +kernel
theorem dX10_findTries_70 : decode cX10_findTries 70 = .ok (.getfield 184, 3) := by decide +kernel
theorem dX10_findTries_73 : decode cX10_findTries 73 = .ok (.if_icmp .ge 108, 3) := by decide +kernel
theorem dX10_findTries_76 : decode cX10_findTries 76 = .ok (.aload_n 0, 1) := by decide +kernel
theorem dX10_findTries_77 : decode cX10_findTries 77 = .ok (.getfield 70, 3) := by decide +kernel
theorem dX10_findTries_80 : decode cX10_findTries 80 = .ok (.iload 5, 2) := by decide +kernel
theorem dX10_findTries_82 : decode cX10_findTries 82 = .ok (.iaload, 1) := by decide +kernel
theorem dX10_findTries_83 : decode cX10_findTries 83 = .ok (.istore 6, 2) := by decide +kernel
theorem dX10_findTries_85 : decode cX10_findTries 85 = .ok (.aload_n 0, 1) := by decide +kernel
theorem dX10_findTries_86 : decode cX10_findTries 86 = .ok (.getfield 31, 3) := by decide +kernel
theorem dX10_findTries_89 : decode cX10_findTries 89 = .ok (.bipush 49, 2) := by decide +kernel
theorem dX10_findTries_91 : decode cX10_findTries 91 = .ok (.iload_n 1, 1) := by decide +kernel
theorem dX10_findTries_92 : decode cX10_findTries 92 = .ok (.imul, 1) := by decide +kernel
theorem dX10_findTries_93 : decode cX10_findTries 93 = .ok (.iload 6, 2) := by decide +kernel
theorem dX10_findTries_95 : decode cX10_findTries 95 = .ok (.iadd, 1) := by decide +kernel
theorem dX10_findTries_96 : decode cX10_findTries 96 = .ok (.iaload, 1) := by decide +kernel
theorem dX10_findTries_97 : decode cX10_findTries 97 = .ok (.istore 7, 2) := by decide +kernel
theorem dX10_findTries_99 : decode cX10_findTries 99 = .ok (.iload 7, 2) := by decide +kernel
theorem dX10_findTries_101 : decode cX10_findTries 101 = .ok (.ifCond .eq 12, 3) := by decide +kernel
theorem dX10_findTries_104 : decode cX10_findTries 104 = .ok (.iload 7, 2) := by decide +kernel
theorem dX10_findTries_106 : decode cX10_findTries 106 = .ok (.invokestatic 193, 3) := by decide +kernel
theorem dX10_findTries_109 : decode cX10_findTries 109 = .ok (.iload_n 2, 1) := by decide +kernel
theorem dX10_findTries_110 : decode cX10_findTries 110 = .ok (.if_icmp .eq 7, 3) := by decide +kernel
theorem dX10_findTries_113 : decode cX10_findTries 113 = .ok (.iconst 1, 1) := by decide +kernel
theorem dX10_findTries_114 : decode cX10_findTries 114 = .ok (.goto 4, 3) := by decide +kernel
theorem dX10_findTries_117 : decode cX10_findTries 117 = .ok (.iconst 0, 1) := by decide +kernel
theorem dX10_findTries_118 : decode cX10_findTries 118 = .ok (.istore 8, 2) := by decide +kernel
theorem dX10_findTries_120 : decode cX10_findTries 120 = .ok (.iload 8, 2) := by decide +kernel
theorem dX10_findTries_122 : decode cX10_findTries 122 = .ok (.ifCond .eq 25, 3) := by decide +kernel
theorem dX10_findTries_125 : decode cX10_findTries 125 = .ok (.aload_n 0, 1) := by decide +kernel
theorem dX10_findTries_126 : decode cX10_findTries 126 = .ok (.iload 4, 2) := by decide +kernel
theorem dX10_findTries_128 : decode cX10_findTries 128 = .ok (.iload_n 2, 1) := by decide +kernel
theorem dX10_findTries_129 : decode cX10_findTries 129 = .ok (.iload 6, 2) := by decide +kernel
theorem dX10_findTries_131 : decode cX10_findTries 131 = .ok (.invokevirtual 221, 3) := by decide +kernel
theorem dX10_findTries_134 : decode cX10_findTries 134 = .ok (.ifCond .eq 13, 3) := by decide +kernel
theorem dX10_findTries_137 : decode cX10_findTries 137 = .ok (.aload_n 0, 1) := by decide +kernel
theorem dX10_findTries_138 : decode cX10_findTries 138 = .ok (.iload_n 1, 1) := by decide +kernel
theorem dX10_findTries_139 : decode cX10_findTries 139 = .ok (.iload_n 3, 1) := by decide +kernel
theorem dX10_findTries_140 : decode cX10_findTries 140 = .ok (.iload 6, 2) := by decide +kernel
theorem dX10_findTries_142 : decode cX10_findTries 142 = .ok (.iconst 0, 1) := by decide +kernel
theorem dX10_findTries_143 : decode cX10_findTries 143 = .ok (.iconst (-1), 1) := by decide +kernel
theorem dX10_findTries_144 : decode cX10_findTries 144 = .ok (.invokevirtual 224, 3) := by decide +kernel
theorem dX10_findTries_147 : decode cX10_findTries 147 = .ok (.iload 8, 2) := by decide +kernel
theorem dX10_findTries_149 : decode cX10_findTries 149 = .ok (.ifCond .eq 26, 3) := by decide +kernel
theorem dX10_findTries_152 : decode cX10_findTries 152 = .ok (.aload_n 0, 1) := by decide +kernel
theorem dX10_findTries_153 : decode cX10_findTries 153 = .ok (.iload 4, 2) := by decide +kernel
theorem dX10_findTries_155 : decode cX10_findTries 155 = .ok (.iload_n 2, 1) := by decide +kernel
theorem dX10_findTries_156 : decode cX10_findTries 156 = .ok (.iload_n 3, 1) := by decide +kernel
theorem dX10_findTries_157 : decode cX10_findTries 157 = .ok (.iload 6, 2) := by decide +kernel
theorem dX10_findTries_159 : decode cX10_findTries 159 = .ok (.invokevirtual 228, 3) := by decide +kernel
theorem dX10_findTries_162 : decode cX10_findTries 162 = .ok (.ifCond .eq 13, 3) := by decide +kernel
theorem dX10_findTries_165 : decode cX10_findTries 165 = .ok (.aload_n 0, 1) := by decide +kernel
theorem dX10_findTries_166 : decode cX10_findTries 166 = .ok (.iload_n 1, 1) := by decide +kernel
theorem dX10_findTries_167 : decode cX10_findTries 167 = .ok (.iload_n 3, 1) := by decide +kernel
theorem dX10_findTries_168 : decode cX10_findTries 168 = .ok (.iload 6, 2) := by decide +kernel
theorem dX10_findTries_170 : decode cX10_findTries 170 = .ok (.iconst 1, 1) := by decide +kernel
theorem dX10_findTries_171 : decode cX10_findTries 171 = .ok (.iconst (-1), 1) := by decide +kernel
theorem dX10_findTries_172 : decode cX10_findTries 172 = .ok (.invokevirtual 224, 3) := by decide +kernel
theorem dX10_findTries_175 : decode cX10_findTries 175 = .ok (.iinc 5 1, 3) := by decide +kernel
theorem dX10_findTries_178 : decode cX10_findTries 178 = .ok (.goto (-111), 3) := by decide +kernel
theorem dX10_findTries_181 : decode cX10_findTries 181 = .ok (.iinc 3 1, 3) := by decide +kernel
theorem dX10_findTries_184 : decode cX10_findTries 184 = .ok (.goto (-168), 3) := by decide +kernel
theorem dX10_findTries_187 : decode cX10_findTries 187 = .ok (.iconst 1, 1) := by decide +kernel
theorem dX10_findTries_188 : decode cX10_findTries 188 = .ok (.istore_n 3, 1) := by decide +kernel
theorem dX10_findTries_189 : decode cX10_findTries 189 = .ok (.iload_n 3, 1) := by decide +kernel
theorem dX10_findTries_190 : decode cX10_findTries 190 = .ok (.bipush 8, 2) := by decide +kernel
theorem dX10_findTries_192 : decode cX10_findTries 192 = .ok (.if_icmp .ge 122, 3) := by decide +kernel
theorem dX10_findTries_195 : decode cX10_findTries 195 = .ok (.iconst 0, 1) := by decide +kernel
theorem dX10_findTries_196 : decode cX10_findTries 196 = .ok (.istore 4, 2) := by decide +kernel
theorem dX10_findTries_198 : decode cX10_findTries 198 = .ok (.iload 4, 2) := by decide +kernel
theorem dX10_findTries_200 : decode cX10_findTries 200 = .ok (.aload_n 0, 1) := by decide +kernel
theorem dX10_findTries_201 : decode cX10_findTries 201 = .ok (.getfield 143, 3) := by decide +kernel
theorem dX10_findTries_204 : decode cX10_findTries 204 = .ok (.aload_n 0, 1) := by decide +kernel
theorem dX10_findTries_205 : decode cX10_findTries 205 = .ok (.getfield 143, 3) := by decide +kernel
theorem dX10_findTries_208 : decode cX10_findTries 208 = .ok (.imul, 1) := by decide +kernel
theorem dX10_findTries_209 : decode cX10_findTries 209 = .ok (.if_icmp .ge 99, 3) := by decide +kernel
theorem dX10_findTries_212 : decode cX10_findTries 212 = .ok (.aload_n 0, 1) := by decide +kernel
theorem dX10_findTries_213 : decode cX10_findTries 213 = .ok (.getfield 34, 3) := by decide +kernel
theorem dX10_findTries_216 : decode cX10_findTries 216 = .ok (.bipush 16, 2) := by decide +kernel
theorem dX10_findTries_218 : decode cX10_findTries 218 = .ok (.iload_n 1, 1) := by decide +kernel
theorem dX10_findTries_219 : decode cX10_findTries 219 = .ok (.imul, 1) := by decide +kernel
theorem dX10_findTries_220 : decode cX10_findTries 220 = .ok (.bipush 8, 2) := by decide +kernel
theorem dX10_findTries_222 : decode cX10_findTries 222 = .ok (.iload_n 2, 1) := by decide +kernel
theorem dX10_findTries_223 : decode cX10_findTries 223 = .ok (.imul, 1) := by decide +kernel
theorem dX10_findTries_224 : decode cX10_findTries 224 = .ok (.iadd, 1) := by decide +kernel
theorem dX10_findTries_225 : decode cX10_findTries 225 = .ok (.iload_n 3, 1) := by decide +kernel
theorem dX10_findTries_226 : decode cX10_findTries 226 = .ok (.iadd, 1) := by decide +kernel
theorem dX10_findTries_227 : decode cX10_findTries 227 = .ok (.iaload, 1) := by decide +kernel
theorem dX10_findTries_228 : decode cX10_findTries 228 = .ok (.ifCond .le 80, 3) := by decide +kernel
theorem dX10_findTries_231 : decode cX10_findTries 231 = .ok (.aload_n 0, 1) := by decide +kernel
theorem dX10_findTries_232 : decode cX10_findTries 232 = .ok (.getfield 31, 3) := by decide +kernel
theorem dX10_findTries_235 : decode cX10_findTries 235 = .ok (.bipush 49, 2) := by decide +kernel
theorem dX10_findTries_237 : decode cX10_findTries 237 = .ok (.iload_n 1, 1) := by decide +kernel
theorem dX10_findTries_238 : decode cX10_findTries 238 = .ok (.imul, 1) := by decide +kernel
theorem dX10_findTries_239 : decode cX10_findTries 239 = .ok (.iload 4, 2) := by decide +kernel
theorem dX10_findTries_241 : decode cX10_findTries 241 = .ok (.iadd, 1) := by decide +kernel
theorem dX10_findTries_242 : decode cX10_findTries 242 = .ok (.iaload, 1) := by decide +kernel
theorem dX10_findTries_243 : decode cX10_findTries 243 = .ok (.ifCond .ne 41, 3) := by decide +kernel
theorem dX10_findTries_246 : decode cX10_findTries 246 = .ok (.aload_n 0, 1) := by decide +kernel
theorem dX10_findTries_247 : decode cX10_findTries 247 = .ok (.iload_n 3, 1) := by decide +kernel
theorem dX10_findTries_248 : decode cX10_findTries 248 = .ok (.iload_n 2, 1) := by decide +kernel
theorem dX10_findTries_249 : decode cX10_findTries 249 = .ok (.iload 4, 2) := by decide +kernel
theorem dX10_findTries_251 : decode cX10_findTries 251 = .ok (.invokevirtual 218, 3) := by decide +kernel
theorem dX10_findTries_254 : decode cX10_findTries 254 = .ok (.ifCond .eq 30, 3) := by decide +kernel
theorem dX10_findTries_257 : decode cX10_findTries 257 = .ok (.aload_n 0, 1) := by decide +kernel
theorem dX10_findTries_258 : decode cX10_findTries 258 = .ok (.getfield 16, 3) := by decide +kernel
theorem dX10_findTries_261 : decode cX10_findTries 261 = .ok (.iload_n 3, 1) := by decide +kernel
theorem dX10_findTries_262 : decode cX10_findTries 262 = .ok (.iaload, 1) := by decide +kernel
theorem dX10_findTries_263 : decode cX10_findTries 263 = .ok (.iconst 1, 1) := by decide +kernel
theorem dX10_findTries_264 : decode cX10_findTries 264 = .ok (.iand, 1) := by decide +kernel
theorem dX10_findTries_265 : decode cX10_findTries 265 = .ok (.ifCond .eq 15, 3) := by decide +kernel
theorem dX10_findTries_268 : decode cX10_findTries 268 = .ok (.aload_n 0, 1) := by decide +kernel
theorem dX10_findTries_269 : decode cX10_findTries 269 = .ok (.iload_n 1, 1) := by decide +kernel
theorem dX10_findTries_270 : decode cX10_findTries 270 = .ok (.iload_n 2, 1) := by decide +kernel
theorem dX10_findTries_271 : decode cX10_findTries 271 = .ok (.iload_n 3, 1) := by decide +kernel
theorem dX10_findTries_272 : decode cX10_findTries 272 = .ok (.iload 4, 2) := by decide +kernel
theorem dX10_findTries_274 : decode cX10_findTries 274 = .ok (.invokevirtual 232, 3) := by decide +kernel
theorem dX10_findTries_277 : decode cX10_findTries 277 = .ok (.ifCond .ne 7, 3) := by decide +kernel
theorem dX10_findTries_280 : decode cX10_findTries 280 = .ok (.iconst 1, 1) := by decide +kernel
theorem dX10_findTries_281 : decode cX10_findTries 281 = .ok (.goto 4, 3) := by decide +kernel
theorem dX10_findTries_284 : decode cX10_findTries 284 = .ok (.iconst 0, 1) := by decide +kernel
theorem dX10_findTries_285 : decode cX10_findTries 285 = .ok (.istore 5, 2) := by decide +kernel
theorem dX10_findTries_287 : decode cX10_findTries 287 = .ok (.iload 5, 2) := by decide +kernel
theorem dX10_findTries_289 : decode cX10_findTries 289 = .ok (.ifCond .eq 13, 3) := by decide +kernel
theorem dX10_findTries_292 : decode cX10_findTries 292 = .ok (.aload_n 0, 1) := by decide +kernel
theorem dX10_findTries_293 : decode cX10_findTries 293 = .ok (.iload_n 1, 1) := by decide +kernel
theorem dX10_findTries_294 : decode cX10_findTries 294 = .ok (.iconst (-1), 1) := by decide +kernel
theorem dX10_findTries_295 : decode cX10_findTries 295 = .ok (.iload 4, 2) := by decide +kernel
theorem dX10_findTries_297 : decode cX10_findTries 297 = .ok (.iconst 0, 1) := by decide +kernel
theorem dX10_findTries_298 : decode cX10_findTries 298 = .ok (.iload_n 3, 1) := by decide +kernel
theorem dX10_findTries_299 : decode cX10_findTries 299 = .ok (.invokevirtual 224, 3) := by decide +kernel
theorem dX10_findTries_302 : decode cX10_findTries 302 = .ok (.iinc 4 1, 3) := by decide +kernel
theorem dX10_findTries_305 : decode cX10_findTries 305 = .ok (.goto (-107), 3) := by decide +kernel
theorem dX10_findTries_308 : decode cX10_findTries 308 = .ok (.iinc 3 1, 3) := by decide +kernel
theorem dX10_findTries_311 : decode cX10_findTries 311 = .ok (.goto (-122), 3) := by decide +kernel
theorem dX10_findTries_314 : decode cX10_findTries 314 = .ok (.return_, 1) := by decide +kernel
theorem dX10_hasAny_0 : decode cX10_hasAny 0 = .ok (.aload_n 0, 1) := by decide +kernel
theorem dX10_hasAny_1 : decode cX10_hasAny 1 = .ok (.iload_n 1, 1) := by decide +kernel
theorem dX10_hasAny_2 : decode cX10_hasAny 2 = .ok (.invokevirtual 235, 3) := by decide +kernel
theorem dX10_hasAny_5 : decode cX10_hasAny 5 = .ok (.sipush 2000, 3) := by decide +kernel
theorem dX10_hasAny_8 : decode cX10_hasAny 8 = .ok (.iload_n 1, 1) := by decide +kernel
theorem dX10_hasAny_9 : decode cX10_hasAny 9 = .ok (.imul, 1) := by decide +kernel
theorem dX10_hasAny_10 : decode cX10_hasAny 10 = .ok (.istore_n 2, 1) := by decide +kernel
theorem dX10_hasAny_11 : decode cX10_hasAny 11 = .ok (.iload_n 2, 1) := by decide +kernel
theorem dX10_hasAny_12 : decode cX10_hasAny 12 = .ok (.sipush 2000, 3) := by decide +kernel
theorem dX10_hasAny_15 : decode cX10_hasAny 15 = .ok (.iload_n 1, 1) := by decide +kernel
theorem dX10_hasAny_16 : decode cX10_hasAny 16 = .ok (.imul, 1) := by decide +kernel
theorem dX10_hasAny_17 : decode cX10_hasAny 17 = .ok (.aload_n 0, 1) := by decide +kernel
theorem dX10_hasAny_18 : decode cX10_hasAny 18 = .ok (.getfield 55, 3) := by decide +kernel
theorem dX10_hasAny_21 : decode cX10_hasAny 21 = .ok (.iload_n 1, 1) := by decide +kernel
theorem dX10_hasAny_22 : decode cX10_hasAny 22 = .ok (.iaload, 1) := by decide +kernel
theorem dX10_hasAny_23 : decode cX10_hasAny 23 = .ok (.iadd, 1) := by decide +kernel
theorem dX10_hasAny_24 : decode cX10_hasAny 24 = .ok (.if_icmp .ge 56, 3) := by decide +kernel
theorem dX10_hasAny_27 : decode cX10_hasAny 27 = .ok (.aload_n 0, 1) := by decide +kernel
theorem dX10_hasAny_28 : decode cX10_hasAny 28 = .ok (.iload_n 1, 1) := by decide +kernel
theorem dX10_hasAny_29 : decode cX10_hasAny 29 = .ok (.aload_n 0, 1) := by decide +kernel
theorem dX10_hasAny_30 : decode cX10_hasAny 30 = .ok (.getfield 58, 3) := by decide +kernel
theorem dX10_hasAny_33 : decode cX10_hasAny 33 = .ok (.iload_n 2, 1) := by decide +kernel
theorem dX10_hasAny_34 : decode cX10_hasAny 34 = .ok (.iaload, 1) := by decide +kernel
theorem dX10_hasAny_35 : decode cX10_hasAny 35 = .ok (.aload_n 0, 1) := by decide +kernel
theorem dX10_hasAny_36 : decode cX10_hasAny 36 = .ok (.getfield 61, 3) := by decide +kernel
theorem dX10_hasAny_39 : decode cX10_hasAny 39 = .ok (.iload_n 2, 1) := by decide +kernel
theorem dX10_hasAny_40 : decode cX10_hasAny 40 = .ok (.iaload, 1) := by decide +kernel
theorem dX10_hasAny_41 : decode cX10_hasAny 41 = .ok (.aload_n 0, 1) := by decide +kernel
theorem dX10_hasAny_42 : decode cX10_hasAny 42 = .ok (.getfield 64, 3) := by decide +kernel
theorem dX10_hasAny_45 : decode cX10_hasAny 45 = .ok (.iload_n 2, 1) := by decide +kernel
theorem dX10_hasAny_46 : decode cX10_hasAny 46 = .ok (.iaload, 1) := by decide +kernel
theorem dX10_hasAny_47 : decode cX10_hasAny 47 = .ok (.aload_n 0, 1) := by decide +kernel
theorem dX10_hasAny_48 : decode cX10_hasAny 48 = .ok (.getfield 67, 3) := by decide +kernel
theorem dX10_hasAny_51 : decode cX10_hasAny 51 = .ok (.iload_n 2, 1) := by decide +kernel
theorem dX10_hasAny_52 : decode cX10_hasAny 52 = .ok (.iaload, 1) := by decide +kernel
theorem dX10_hasAny_53 : decode cX10_hasAny 53 = .ok (.invokevirtual 238, 3) := by decide +kernel
theorem dX10_hasAny_56 : decode cX10_hasAny 56 = .ok (.aload_n 0, 1) := by decide +kernel
theorem dX10_hasAny_57 : decode cX10_hasAny 57 = .ok (.iload_n 1, 1) := by decide +kernel
theorem dX10_hasAny_58 : decode cX10_hasAny 58 = .ok (.iconst 1, 1) := by decide +kernel
theorem dX10_hasAny_59 : decode cX10_hasAny 59 = .ok (.iadd, 1) := by decide +kernel
theorem dX10_hasAny_60 : decode cX10_hasAny 60 = .ok (.aload_n 0, 1) := by decide +kernel
theorem dX10_hasAny_61 : decode cX10_hasAny 61 = .ok (.getfield 37, 3) := by decide +kernel
theorem dX10_hasAny_64 : decode cX10_hasAny 64 = .ok (.iload_n 1, 1) := by decide +kernel
theorem dX10_hasAny_65 : decode cX10_hasAny 65 = .ok (.iaload, 1) := by decide +kernel
theorem dX10_hasAny_66 : decode cX10_hasAny 66 = .ok (.invokevirtual 241, 3) := by decide +kernel
theorem dX10_hasAny_69 : decode cX10_hasAny 69 = .ok (.ifCond .ne 5, 3) := by decide +kernel
theorem dX10_hasAny_72 : decode cX10_hasAny 72 = .ok (.iconst 1, 1) := by decide +kernel
theorem dX10_hasAny_73 : decode cX10_hasAny 73 = .ok (.ireturn, 1) := by decide +kernel
theorem dX10_hasAny_74 : decode cX10_hasAny 74 = .ok (.iinc 2 1, 3) := by decide +kernel
theorem dX10_hasAny_77 : decode cX10_hasAny 77 = .ok (.goto (-66), 3) := by decide +kernel
theorem dX10_hasAny_80 : decode cX10_hasAny 80 = .ok (.iconst 0, 1) := by decide +kernel
theorem dX10_hasAny_81 : decode cX10_hasAny 81 = .ok (.ireturn, 1) := by decide +kernel
theorem dX10_isMate_0 : decode cX10_isMate 0 = .ok (.aload_n 0, 1) := by decide +kernel
theorem dX10_isMate_1 : decode cX10_isMate 1 = .ok (.iload_n 1, 1) := by decide +kernel
theorem dX10_isMate_2 : decode cX10_isMate 2 = .ok (.aload_n 0, 1) := by decide +kernel
theorem dX10_isMate_3 : decode cX10_isMate 3 = .ok (.getfield 37, 3) := by decide +kernel
theorem dX10_isMate_6 : decode cX10_isMate 6 = .ok (.iload_n 1, 1) := by decide +kernel
theorem dX10_isMate_7 : decode cX10_isMate 7 = .ok (.iaload, 1) := by decide +kernel
theorem dX10_isMate_8 : decode cX10_isMate 8 = .ok (.invokevirtual 241, 3) := by decide +kernel
theorem dX10_isMate_11 : decode cX10_isMate 11 = .ok (.ifCond .eq 15, 3) := by decide +kernel
theorem dX10_isMate_14 : decode cX10_isMate 14 = .ok (.aload_n 0, 1) := by decide +kernel
theorem dX10_isMate_15 : decode cX10_isMate 15 = .ok (.iload_n 1, 1) := by decide +kernel
theorem dX10_isMate_16 : decode cX10_isMate 16 = .ok (.invokevirtual 244, 3) := by decide +kernel
theorem dX10_isMate_19 : decode cX10_isMate 19 = .ok (.ifCond .ne 7, 3) := by decide +kernel
theorem dX10_isMate_22 : decode cX10_isMate 22 = .ok (.iconst 1, 1) := by decide +kernel
theorem dX10_isMate_23 : decode cX10_isMate 23 = .ok (.goto 4, 3) := by decide +kernel
theorem dX10_isMate_26 : decode cX10_isMate 26 = .ok (.iconst 0, 1) := by decide +kernel
theorem dX10_isMate_27 : decode cX10_isMate 27 = .ok (.ireturn, 1) := by decide +kernel
theorem dX10_findMoves_0 : decode cX10_findMoves 0 = .ok (.aload_n 0, 1) := by decide +kernel
theorem dX10_findMoves_1 : decode cX10_findMoves 1 = .ok (.iload_n 1, 1) := by decide +kernel
theorem dX10_findMoves_2 : decode cX10_findMoves 2 = .ok (.invokevirtual 235, 3) := by decide +kernel
theorem dX10_findMoves_5 : decode cX10_findMoves 5 = .ok (.aload_n 0, 1) := by decide +kernel
theorem dX10_findMoves_6 : decode cX10_findMoves 6 = .ok (.getfield 40, 3) := by decide +kernel
theorem dX10_findMoves_9 : decode cX10_findMoves 9 = .ok (.iload_n 1, 1) := by decide +kernel
theorem dX10_findMoves_10 : decode cX10_findMoves 10 = .ok (.iconst 0, 1) := by decide +kernel
theorem dX10_findMoves_11 : decode cX10_findMoves 11 = .ok (.iastore, 1) := by decide +kernel
theorem dX10_findMoves_12 : decode cX10_findMoves 12 = .ok (.sipush 2000, 3) := by decide +kernel
theorem dX10_findMoves_15 : decode cX10_findMoves 15 = .ok (.iload_n 1, 1) := by decide +kernel
theorem dX10_findMoves_16 : decode cX10_findMoves 16 = .ok (.imul, 1) := by decide +kernel
theorem dX10_findMoves_17 : decode cX10_findMoves 17 = .ok (.istore_n 2, 1) := by decide +kernel
theorem dX10_findMoves_18 : decode cX10_findMoves 18 = .ok (.iload_n 2, 1) := by decide +kernel
theorem dX10_findMoves_19 : decode cX10_findMoves 19 = .ok (.sipush 2000, 3) := by decide +kernel
theorem dX10_findMoves_22 : decode cX10_findMoves 22 = .ok (.iload_n 1, 1) := by decide +kernel
theorem dX10_findMoves_23 : decode cX10_findMoves 23 = .ok (.imul, 1) := by decide +kernel
theorem dX10_findMoves_24 : decode cX10_findMoves 24 = .ok (.aload_n 0, 1) := by decide +kernel
theorem dX10_findMoves_25 : decode cX10_findMoves 25 = .ok (.getfield 55, 3) := by decide +kernel
theorem dX10_findMoves_28 : decode cX10_findMoves 28 = .ok (.iload_n 1, 1) := by decide +kernel
theorem dX10_findMoves_29 : decode cX10_findMoves 29 = .ok (.iaload, 1) := by decide +kernel
theorem dX10_findMoves_30 : decode cX10_findMoves 30 = .ok (.iadd, 1) := by decide +kernel
theorem dX10_findMoves_31 : decode cX10_findMoves 31 = .ok (.if_icmp .ge 185, 3) := by decide +kernel
theorem dX10_findMoves_34 : decode cX10_findMoves 34 = .ok (.aload_n 0, 1) := by decide +kernel
theorem dX10_findMoves_35 : decode cX10_findMoves 35 = .ok (.iload_n 1, 1) := by decide +kernel
theorem dX10_findMoves_36 : decode cX10_findMoves 36 = .ok (.aload_n 0, 1) := by decide +kernel
theorem dX10_findMoves_37 : decode cX10_findMoves 37 = .ok (.getfield 58, 3) := by decide +kernel
theorem dX10_findMoves_40 : decode cX10_findMoves 40 = .ok (.iload_n 2, 1) := by decide +kernel
theorem dX10_findMoves_41 : decode cX10_findMoves 41 = .ok (.iaload, 1) := by decide +kernel
theorem dX10_findMoves_42 : decode cX10_findMoves 42 = .ok (.aload_n 0, 1) := by decide +kernel
theorem dX10_findMoves_43 : decode cX10_findMoves 43 = .ok (.getfield 61, 3) := by decide +kernel
theorem dX10_findMoves_46 : decode cX10_findMoves 46 = .ok (.iload_n 2, 1) := by decide +kernel
theorem dX10_findMoves_47 : decode cX10_findMoves 47 = .ok (.iaload, 1) := by decide +kernel
theorem dX10_findMoves_48 : decode cX10_findMoves 48 = .ok (.aload_n 0, 1) := by decide +kernel
theorem dX10_findMoves_49 : decode cX10_findMoves 49 = .ok (.getfield 64, 3) := by decide +kernel
theorem dX10_findMoves_52 : decode cX10_findMoves 52 = .ok (.iload_n 2, 1) := by decide +kernel
theorem dX10_findMoves_53 : decode cX10_findMoves 53 = .ok (.iaload, 1) := by decide +kernel
theorem dX10_findMoves_54 : decode cX10_findMoves 54 = .ok (.aload_n 0, 1) := by decide +kernel
theorem dX10_findMoves_55 : decode cX10_findMoves 55 = .ok (.getfield 67, 3) := by decide +kernel
theorem dX10_findMoves_58 : decode cX10_findMoves 58 = .ok (.iload_n 2, 1) := by decide +kernel
theorem dX10_findMoves_59 : decode cX10_findMoves 59 = .ok (.iaload, 1) := by decide +kernel
theorem dX10_findMoves_60 : decode cX10_findMoves 60 = .ok (.invokevirtual 238, 3) := by decide +kernel
theorem dX10_findMoves_63 : decode cX10_findMoves 63 = .ok (.aload_n 0, 1) := by decide +kernel
theorem dX10_findMoves_64 : decode cX10_findMoves 64 = .ok (.iload_n 1, 1) := by decide +kernel
theorem dX10_findMoves_65 : decode cX10_findMoves 65 = .ok (.iconst 1, 1) := by decide +kernel
theorem dX10_findMoves_66 : decode cX10_findMoves 66 = .ok (.iadd, 1) := by decide +kernel
theorem dX10_findMoves_67 : decode cX10_findMoves 67 = .ok (.aload_n 0, 1) := by decide +kernel
theorem dX10_findMoves_68 : decode cX10_findMoves 68 = .ok (.getfield 37, 3) := by decide +kernel
theorem dX10_findMoves_71 : decode cX10_findMoves 71 = .ok (.iload_n 1, 1) := by decide +kernel
theorem dX10_findMoves_72 : decode cX10_findMoves 72 = .ok (.iaload, 1) := by decide +kernel
theorem dX10_findMoves_73 : decode cX10_findMoves 73 = .ok (.invokevirtual 241, 3) := by decide +kernel
theorem dX10_findMoves_76 : decode cX10_findMoves 76 = .ok (.ifCond .ne 7, 3) := by decide +kernel
theorem dX10_findMoves_79 : decode cX10_findMoves 79 = .ok (.iconst 1, 1) := by decide +kernel
theorem dX10_findMoves_80 : decode cX10_findMoves 80 = .ok (.goto 4, 3) := by decide +kernel
theorem dX10_findMoves_83 : decode cX10_findMoves 83 = .ok (.iconst 0, 1) := by decide +kernel
theorem dX10_findMoves_84 : decode cX10_findMoves 84 = .ok (.istore_n 3, 1) := by decide +kernel
theorem dX10_findMoves_85 : decode cX10_findMoves 85 = .ok (.iload_n 3, 1) := by decide +kernel
theorem dX10_findMoves_86 : decode cX10_findMoves 86 = .ok (.ifCond .eq 42, 3) := by decide +kernel
theorem dX10_findMoves_89 : decode cX10_findMoves 89 = .ok (.aload_n 0, 1) := by decide +kernel
theorem dX10_findMoves_90 : decode cX10_findMoves 90 = .ok (.getfield 58, 3) := by decide +kernel
theorem dX10_findMoves_93 : decode cX10_findMoves 93 = .ok (.iload_n 2, 1) := by decide +kernel
theorem dX10_findMoves_94 : decode cX10_findMoves 94 = .ok (.iaload, 1) := by decide +kernel
theorem dX10_findMoves_95 : decode cX10_findMoves 95 = .ok (.ifCond .ge 29, 3) := by decide +kernel
theorem dX10_findMoves_98 : decode cX10_findMoves 98 = .ok (.aload_n 0, 1) := by decide +kernel
theorem dX10_findMoves_99 : decode cX10_findMoves 99 = .ok (.getfield 16, 3) := by decide +kernel
theorem dX10_findMoves_102 : decode cX10_findMoves 102 = .ok (.aload_n 0, 1) := by decide +kernel
theorem dX10_findMoves_103 : decode cX10_findMoves 103 = .ok (.getfield 67, 3) := by decide +kernel
theorem dX10_findMoves_106 : decode cX10_findMoves 106 = .ok (.iload_n 2, 1) := by decide +kernel
theorem dX10_findMoves_107 : decode cX10_findMoves 107 = .ok (.iaload, 1) := by decide +kernel
theorem dX10_findMoves_108 : decode cX10_findMoves 108 = .ok (.iaload, 1) := by decide +kernel
theorem dX10_findMoves_109 : decode cX10_findMoves 109 = .ok (.iconst 2, 1) := by decide +kernel
theorem dX10_findMoves_110 : decode cX10_findMoves 110 = .ok (.iand, 1) := by decide +kernel
theorem dX10_findMoves_111 : decode cX10_findMoves 111 = .ok (.ifCond .eq 13, 3) := by decide +kernel
theorem dX10_findMoves_114 : decode cX10_findMoves 114 = .ok (.aload_n 0, 1) := by decide +kernel
theorem dX10_findMoves_115 : decode cX10_findMoves 115 = .ok (.iload_n 1, 1) := by decide +kernel
theorem dX10_findMoves_116 : decode cX10_findMoves 116 = .ok (.iconst 1, 1) := by decide +kernel
theorem dX10_findMoves_117 : decode cX10_findMoves 117 = .ok (.iadd, 1) := by decide +kernel
theorem dX10_findMoves_118 : decode cX10_findMoves 118 = .ok (.invokevirtual 247, 3) := by decide +kernel
theorem dX10_findMoves_121 : decode cX10_findMoves 121 = .ok (.ifCond .ne 7, 3) := by decide +kernel
theorem dX10_findMoves_124 : decode cX10_findMoves 124 = .ok (.iconst 1, 1) := by decide +kernel
theorem dX10_findMoves_125 : decode cX10_findMoves 125 = .ok (.goto 4, 3) := by decide +kernel
theorem dX10_findMoves_128 : decode cX10_findMoves 128 = .ok (.iconst 0, 1) := by decide +kernel
theorem dX10_findMoves_129 : decode cX10_findMoves 129 = .ok (.istore_n 3, 1) := by decide +kernel
theorem dX10_findMoves_130 : decode cX10_findMoves 130 = .ok (.iload_n 3, 1) := by decide +kernel
theorem dX10_findMoves_131 : decode cX10_findMoves 131 = .ok (.ifCond .eq 79, 3) := by decide +kernel
theorem dX10_findMoves_134 : decode cX10_findMoves 134 = .ok (.sipush 2000, 3) := by decide +kernel
theorem dX10_findMoves_137 : decode cX10_findMoves 137 = .ok (.iload_n 1, 1) := by decide +kernel
theorem dX10_findMoves_138 : decode cX10_findMoves 138 = .ok (.imul, 1) := by decide +kernel
theorem dX10_findMoves_139 : decode cX10_findMoves 139 = .ok (.aload_n 0, 1) := by decide +kernel
theorem dX10_findMoves_140 : decode cX10_findMoves 140 = .ok (.getfield 40, 3) := by decide +kernel
theorem dX10_findMoves_143 : decode cX10_findMoves 143 = .ok (.iload_n 1, 1) := by decide +kernel
theorem dX10_findMoves_144 : decode cX10_findMoves 144 = .ok (.iaload, 1) := by decide +kernel
theorem dX10_findMoves_145 : decode cX10_findMoves 145 = .ok (.iadd, 1) := by decide +kernel
theorem dX10_findMoves_146 : decode cX10_findMoves 146 = .ok (.istore 4, 2) := by decide +kernel
theorem dX10_findMoves_148 : decode cX10_findMoves 148 = .ok (.aload_n 0, 1) := by decide +kernel
theorem dX10_findMoves_149 : decode cX10_findMoves 149 = .ok (.getfield 43, 3) := by decide +kernel
theorem dX10_findMoves_152 : decode cX10_findMoves 152 = .ok (.iload 4, 2) := by decide +kernel
theorem dX10_findMoves_154 : decode cX10_findMoves 154 = .ok (.aload_n 0, 1) := by decide +kernel
theorem dX10_findMoves_155 : decode cX10_findMoves 155 = .ok (.getfield 58, 3) := by decide +kernel
theorem dX10_findMoves_158 : decode cX10_findMoves 158 = .ok (.iload_n 2, 1) := by decide +kernel
theorem dX10_findMoves_159 : decode cX10_findMoves 159 = .ok (.iaload, 1) := by decide +kernel
theorem dX10_findMoves_160 : decode cX10_findMoves 160 = .ok (.iastore, 1) := by decide +kernel
theorem dX10_findMoves_161 : decode cX10_findMoves 161 = .ok (.aload_n 0, 1) := by decide +kernel
theorem dX10_findMoves_162 : decode cX10_findMoves 162 = .ok (.getfield 46, 3) := by decide +kernel
theorem dX10_findMoves_165 : decode cX10_findMoves 165 = .ok (.iload 4, 2) := by decide +kernel
theorem dX10_findMoves_167 : decode cX10_findMoves 167 = .ok (.aload_n 0, 1) := by decide +kernel
theorem dX10_findMoves_168 : decode cX10_findMoves 168 = .ok (.getfield 61, 3) := by decide +kernel
theorem dX10_findMoves_171 : decode cX10_findMoves 171 = .ok (.iload_n 2, 1) := by decide +kernel
theorem dX10_findMoves_172 : decode cX10_findMoves 172 = .ok (.iaload, 1) := by decide +kernel
theorem dX10_findMoves_173 : decode cX10_findMoves 173 = .ok (.iastore, 1) := by decide +kernel
theorem dX10_findMoves_174 : decode cX10_findMoves 174 = .ok (.aload_n 0, 1) := by decide +kernel
theorem dX10_findMoves_175 : decode cX10_findMoves 175 = .ok (.getfield 49, 3) := by decide +kernel
theorem dX10_findMoves_178 : decode cX10_findMoves 178 = .ok (.iload 4, 2) := by decide +kernel
theorem dX10_findMoves_180 : decode cX10_findMoves 180 = .ok (.aload_n 0, 1) := by decide +kernel
theorem dX10_findMoves_181 : decode cX10_findMoves 181 = .ok (.getfield 64, 3) := by decide +kernel
theorem dX10_findMoves_184 : decode cX10_findMoves 184 = .ok (.iload_n 2, 1) := by decide +kernel
theorem dX10_findMoves_185 : decode cX10_findMoves 185 = .ok (.iaload, 1) := by decide +kernel
theorem dX10_findMoves_186 : decode cX10_findMoves 186 = .ok (.iastore, 1) := by decide +kernel
theorem dX10_findMoves_187 : decode cX10_findMoves 187 = .ok (.aload_n 0, 1) := by decide +kernel
theorem dX10_findMoves_188 : decode cX10_findMoves 188 = .ok (.getfield 52, 3) := by decide +kernel
theorem dX10_findMoves_191 : decode cX10_findMoves 191 = .ok (.iload 4, 2) := by decide +kernel
theorem dX10_findMoves_193 : decode cX10_findMoves 193 = .ok (.aload_n 0, 1) := by decide +kernel
theorem dX10_findMoves_194 : decode cX10_findMoves 194 = .ok (.getfield 67, 3) := by decide +kernel
theorem dX10_findMoves_197 : decode cX10_findMoves 197 = .ok (.iload_n 2, 1) := by decide +kernel
theorem dX10_findMoves_198 : decode cX10_findMoves 198 = .ok (.iaload, 1) := by decide +kernel
theorem dX10_findMoves_199 : decode cX10_findMoves 199 = .ok (.iastore, 1) := by decide +kernel
theorem dX10_findMoves_200 : decode cX10_findMoves 200 = .ok (.aload_n 0, 1) := by decide +kernel
theorem dX10_findMoves_201 : decode cX10_findMoves 201 = .ok (.getfield 40, 3) := by decide +kernel
theorem dX10_findMoves_204 : decode cX10_findMoves 204 = .ok (.iload_n 1, 1) := by decide +kernel
theorem dX10_findMoves_205 : decode cX10_findMoves 205 = .ok (.dup2, 1) := by decide +kernel
theorem dX10_findMoves_206 : decode cX10_findMoves 206 = .ok (.iaload, 1) := by decide +kernel
theorem dX10_findMoves_207 : decode cX10_findMoves 207 = .ok (.iconst 1, 1) := by decide +kernel
theorem dX10_findMoves_208 : decode cX10_findMoves 208 = .ok (.iadd, 1) := by decide +kernel
theorem dX10_findMoves_209 : decode cX10_findMoves 209 = .ok (.iastore, 1) := by decide +kernel
theorem dX10_findMoves_210 : decode cX10_findMoves 210 = .ok (.iinc 2 1, 3) := by decide +kernel
theorem dX10_findMoves_213 : decode cX10_findMoves 213 = .ok (.goto (-195), 3) := by decide +kernel
theorem dX10_findMoves_216 : decode cX10_findMoves 216 = .ok (.return_, 1) := by decide +kernel
theorem dX10_makeMove_0 : decode cX10_makeMove 0 = .ok (.sipush 2000, 3) := by decide +kernel
theorem dX10_makeMove_3 : decode cX10_makeMove 3 = .ok (.iload_n 1, 1) := by decide +kernel
theorem dX10_makeMove_4 : decode cX10_makeMove 4 = .ok (.imul, 1) := by decide +kernel
theorem dX10_makeMove_5 : decode cX10_makeMove 5 = .ok (.iload_n 2, 1) := by decide +kernel
theorem dX10_makeMove_6 : decode cX10_makeMove 6 = .ok (.iadd, 1) := by decide +kernel
theorem dX10_makeMove_7 : decode cX10_makeMove 7 = .ok (.istore_n 3, 1) := by decide +kernel
theorem dX10_makeMove_8 : decode cX10_makeMove 8 = .ok (.aload_n 0, 1) := by decide +kernel
theorem dX10_makeMove_9 : decode cX10_makeMove 9 = .ok (.iload_n 1, 1) := by decide +kernel
theorem dX10_makeMove_10 : decode cX10_makeMove 10 = .ok (.aload_n 0, 1) := by decide +kernel
theorem dX10_makeMove_11 : decode cX10_makeMove 11 = .ok (.getfield 43, 3) := by decide +kernel
theorem dX10_makeMove_14 : decode cX10_makeMove 14 = .ok (.iload_n 3, 1) := by decide +kernel
theorem dX10_makeMove_15 : decode cX10_makeMove 15 = .ok (.iaload, 1) := by decide +kernel
theorem dX10_makeMove_16 : decode cX10_makeMove 16 = .ok (.aload_n 0, 1) := by decide +kernel
theorem dX10_makeMove_17 : decode cX10_makeMove 17 = .ok (.getfield 46, 3) := by decide +kernel
theorem dX10_makeMove_20 : decode cX10_makeMove 20 = .ok (.iload_n 3, 1) := by decide +kernel
theorem dX10_makeMove_21 : decode cX10_makeMove 21 = .ok (.iaload, 1) := by decide +kernel
theorem dX10_makeMove_22 : decode cX10_makeMove 22 = .ok (.aload_n 0, 1) := by decide +kernel
theorem dX10_makeMove_23 : decode cX10_makeMove 23 = .ok (.getfield 49, 3) := by decide +kernel
theorem dX10_makeMove_26 : decode cX10_makeMove 26 = .ok (.iload_n 3, 1) := by decide +kernel
theorem dX10_makeMove_27 : decode cX10_makeMove 27 = .ok (.iaload, 1) := by decide +kernel
theorem dX10_makeMove_28 : decode cX10_makeMove 28 = .ok (.aload_n 0, 1) := by decide +kernel
theorem dX10_makeMove_29 : decode cX10_makeMove 29 = .ok (.getfield 52, 3) := by decide +kernel
theorem dX10_makeMove_32 : decode cX10_makeMove 32 = .ok (.iload_n 3, 1) := by decide +kernel
theorem dX10_makeMove_33 : decode cX10_makeMove 33 = .ok (.iaload, 1) := by decide +kernel
theorem dX10_makeMove_34 : decode cX10_makeMove 34 = .ok (.invokevirtual 238, 3) := by decide +kernel
theorem dX10_makeMove_37 : decode cX10_makeMove 37 = .ok (.return_, 1) := by decide +kernel
theorem dX10_indexOf_0 : decode cX10_indexOf 0 = .ok (.iconst 0, 1) := by decide +kernel
theorem dX10_indexOf_1 : decode cX10_indexOf 1 = .ok (.istore 6, 2) := by decide +kernel
theorem dX10_indexOf_3 : decode cX10_indexOf 3 = .ok (.iload 6, 2) := by decide +kernel
theorem dX10_indexOf_5 : decode cX10_indexOf 5 = .ok (.aload_n 0, 1) := by decide +kernel
theorem dX10_indexOf_6 : decode cX10_indexOf 6 = .ok (.getfield 40, 3) := by decide +kernel
theorem dX10_indexOf_9 : decode cX10_indexOf 9 = .ok (.iload_n 1, 1) := by decide +kernel
theorem dX10_indexOf_10 : decode cX10_indexOf 10 = .ok (.iaload, 1) := by decide +kernel
theorem dX10_indexOf_11 : decode cX10_indexOf 11 = .ok (.if_icmp .ge 68, 3) := by decide +kernel
theorem dX10_indexOf_14 : decode cX10_indexOf 14 = .ok (.sipush 2000, 3) := by decide +kernel
theorem dX10_indexOf_17 : decode cX10_indexOf 17 = .ok (.iload_n 1, 1) := by decide +kernel
theorem dX10_indexOf_18 : decode cX10_indexOf 18 = .ok (.imul, 1) := by decide +kernel
theorem dX10_indexOf_19 : decode cX10_indexOf 19 = .ok (.iload 6, 2) := by decide +kernel
theorem dX10_indexOf_21 : decode cX10_indexOf 21 = .ok (.iadd, 1) := by decide +kernel
theorem dX10_indexOf_22 : decode cX10_indexOf 22 = .ok (.istore 7, 2) := by decide +kernel
theorem dX10_indexOf_24 : decode cX10_indexOf 24 = .ok (.aload_n 0, 1) := by decide +kernel
theorem dX10_indexOf_25 : decode cX10_indexOf 25 = .ok (.getfield 43, 3) := by decide +kernel
theorem dX10_indexOf_28 : decode cX10_indexOf 28 = .ok (.iload 7, 2) := by decide +kernel
theorem dX10_indexOf_30 : decode cX10_indexOf 30 = .ok (.iaload, 1) := by decide +kernel
theorem dX10_indexOf_31 : decode cX10_indexOf 31 = .ok (.iload_n 2, 1) := by decide +kernel
theorem dX10_indexOf_32 : decode cX10_indexOf 32 = .ok (.if_icmp .ne 41, 3) := by decide +kernel
theorem dX10_indexOf_35 : decode cX10_indexOf 35 = .ok (.aload_n 0, 1) := by decide +kernel
theorem dX10_indexOf_36 : decode cX10_indexOf 36 = .ok (.getfield 46, 3) := by decide +kernel
theorem dX10_indexOf_39 : decode cX10_indexOf 39 = .ok (.iload 7, 2) := by decide +kernel
theorem dX10_indexOf_41 : decode cX10_indexOf 41 = .ok (.iaload, 1) := by decide +kernel
theorem dX10_indexOf_42 : decode cX10_indexOf 42 = .ok (.iload_n 3, 1) := by decide +kernel
theorem dX10_indexOf_43 : decode cX10_indexOf 43 = .ok (.if_icmp .ne 30, 3) := by decide +kernel
theorem dX10_indexOf_46 : decode cX10_indexOf 46 = .ok (.aload_n 0, 1) := by decide +kernel
theorem dX10_indexOf_47 : decode cX10_indexOf 47 = .ok (.getfield 49, 3) := by decide +kernel
theorem dX10_indexOf_50 : decode cX10_indexOf 50 = .ok (.iload 7, 2) := by decide +kernel
theorem dX10_indexOf_52 : decode cX10_indexOf 52 = .ok (.iaload, 1) := by decide +kernel
theorem dX10_indexOf_53 : decode cX10_indexOf 53 = .ok (.iload 4, 2) := by decide +kernel
theorem dX10_indexOf_55 : decode cX10_indexOf 55 = .ok (.if_icmp .ne 18, 3) := by decide +kernel
theorem dX10_indexOf_58 : decode cX10_indexOf 58 = .ok (.aload_n 0, 1) := by decide +kernel
theorem dX10_indexOf_59 : decode cX10_indexOf 59 = .ok (.getfield 52, 3) := by decide +kernel
theorem dX10_indexOf_62 : decode cX10_indexOf 62 = .ok (.iload 7, 2) := by decide +kernel
theorem dX10_indexOf_64 : decode cX10_indexOf 64 = .ok (.iaload, 1) := by decide +kernel
theorem dX10_indexOf_65 : decode cX10_indexOf 65 = .ok (.iload 5, 2) := by decide +kernel
theorem dX10_indexOf_67 : decode cX10_indexOf 67 = .ok (.if_icmp .ne 6, 3) := by decide +kernel
theorem dX10_indexOf_70 : decode cX10_indexOf 70 = .ok (.iload 6, 2) := by decide +kernel
theorem dX10_indexOf_72 : decode cX10_indexOf 72 = .ok (.ireturn, 1) := by decide +kernel
theorem dX10_indexOf_73 : decode cX10_indexOf 73 = .ok (.iinc 6 1, 3) := by decide +kernel
theorem dX10_indexOf_76 : decode cX10_indexOf 76 = .ok (.goto (-73), 3) := by decide +kernel
theorem dX10_indexOf_79 : decode cX10_indexOf 79 = .ok (.iconst (-1), 1) := by decide +kernel
theorem dX10_indexOf_80 : decode cX10_indexOf 80 = .ok (.ireturn, 1) := by decide +kernel
theorem dX10_hand_0 : decode cX10_hand 0 = .ok (.iload_n 1, 1) := by decide +kernel
theorem dX10_hand_1 : decode cX10_hand 1 = .ok (.i2l, 1) := by decide +kernel
theorem dX10_hand_2 : decode cX10_hand 2 = .ok (.lconst 0, 1) := by decide +kernel
theorem dX10_hand_3 : decode cX10_hand 3 = .ok (.lconst 1, 1) := by decide +kernel
theorem dX10_hand_4 : decode cX10_hand 4 = .ok (.invokestatic 139, 3) := by decide +kernel
theorem dX10_hand_7 : decode cX10_hand 7 = .ok (.ifCond .eq 27, 3) := by decide +kernel
theorem dX10_hand_10 : decode cX10_hand 10 = .ok (.iload_n 2, 1) := by decide +kernel
theorem dX10_hand_11 : decode cX10_hand 11 = .ok (.i2l, 1) := by decide +kernel
theorem dX10_hand_12 : decode cX10_hand 12 = .ok (.lconst 1, 1) := by decide +kernel
theorem dX10_hand_13 : decode cX10_hand 13 = .ok (.ldc2_w 137, 3) := by decide +kernel
theorem dX10_hand_16 : decode cX10_hand 16 = .ok (.invokestatic 139, 3) := by decide +kernel
theorem dX10_hand_19 : decode cX10_hand 19 = .ok (.ifCond .eq 15, 3) := by decide +kernel
theorem dX10_hand_22 : decode cX10_hand 22 = .ok (.iload_n 3, 1) := by decide +kernel
theorem dX10_hand_23 : decode cX10_hand 23 = .ok (.i2l, 1) := by decide +kernel
theorem dX10_hand_24 : decode cX10_hand 24 = .ok (.lconst 0, 1) := by decide +kernel
theorem dX10_hand_25 : decode cX10_hand 25 = .ok (.ldc2_w 250, 3) := by decide +kernel
theorem dX10_hand_28 : decode cX10_hand 28 = .ok (.invokestatic 139, 3) := by decide +kernel
theorem dX10_hand_31 : decode cX10_hand 31 = .ok (.ifCond .ne 6, 3) := by decide +kernel
theorem dX10_hand_34 : decode cX10_hand 34 = .ok (.bipush (-2), 2) := by decide +kernel
theorem dX10_hand_36 : decode cX10_hand 36 = .ok (.ireturn, 1) := by decide +kernel
theorem dX10_hand_37 : decode cX10_hand 37 = .ok (.aload_n 0, 1) := by decide +kernel
theorem dX10_hand_38 : decode cX10_hand 38 = .ok (.getfield 159, 3) := by decide +kernel
theorem dX10_hand_41 : decode cX10_hand 41 = .ok (.ifCond .eq 6, 3) := by decide +kernel
theorem dX10_hand_44 : decode cX10_hand 44 = .ok (.bipush (-3), 2) := by decide +kernel
theorem dX10_hand_46 : decode cX10_hand 46 = .ok (.ireturn, 1) := by decide +kernel
theorem dX10_hand_47 : decode cX10_hand 47 = .ok (.aload_n 0, 1) := by decide +kernel
theorem dX10_hand_48 : decode cX10_hand 48 = .ok (.getfield 77, 3) := by decide +kernel
theorem dX10_hand_51 : decode cX10_hand 51 = .ok (.bipush 8, 2) := by decide +kernel
theorem dX10_hand_53 : decode cX10_hand 53 = .ok (.iload_n 1, 1) := by decide +kernel
theorem dX10_hand_54 : decode cX10_hand 54 = .ok (.imul, 1) := by decide +kernel
theorem dX10_hand_55 : decode cX10_hand 55 = .ok (.iload_n 2, 1) := by decide +kernel
theorem dX10_hand_56 : decode cX10_hand 56 = .ok (.iadd, 1) := by decide +kernel
theorem dX10_hand_57 : decode cX10_hand 57 = .ok (.iaload, 1) := by decide +kernel
theorem dX10_hand_58 : decode cX10_hand 58 = .ok (.istore 4, 2) := by decide +kernel
theorem dX10_hand_60 : decode cX10_hand 60 = .ok (.aload_n 0, 1) := by decide +kernel
theorem dX10_hand_61 : decode cX10_hand 61 = .ok (.getfield 77, 3) := by decide +kernel
theorem dX10_hand_64 : decode cX10_hand 64 = .ok (.bipush 8, 2) := by decide +kernel
theorem dX10_hand_66 : decode cX10_hand 66 = .ok (.iload_n 1, 1) := by decide +kernel
theorem dX10_hand_67 : decode cX10_hand 67 = .ok (.imul, 1) := by decide +kernel
theorem dX10_hand_68 : decode cX10_hand 68 = .ok (.iload_n 2, 1) := by decide +kernel
theorem dX10_hand_69 : decode cX10_hand 69 = .ok (.iadd, 1) := by decide +kernel
theorem dX10_hand_70 : decode cX10_hand 70 = .ok (.iload_n 3, 1) := by decide +kernel
theorem dX10_hand_71 : decode cX10_hand 71 = .ok (.iastore, 1) := by decide +kernel
theorem dX10_hand_72 : decode cX10_hand 72 = .ok (.iload 4, 2) := by decide +kernel
theorem dX10_hand_74 : decode cX10_hand 74 = .ok (.ireturn, 1) := by decide +kernel
theorem dX10_keepStand_0 : decode cX10_keepStand 0 = .ok (.sipush 301, 3) := by decide +kernel
theorem dX10_keepStand_3 : decode cX10_keepStand 3 = .ok (.iload_n 1, 1) := by decide +kernel
theorem dX10_keepStand_4 : decode cX10_keepStand 4 = .ok (.imul, 1) := by decide +kernel
theorem dX10_keepStand_5 : decode cX10_keepStand 5 = .ok (.iload_n 2, 1) := by decide +kernel
theorem dX10_keepStand_6 : decode cX10_keepStand 6 = .ok (.iadd, 1) := by decide +kernel
theorem dX10_keepStand_7 : decode cX10_keepStand 7 = .ok (.istore_n 3, 1) := by decide +kernel
theorem dX10_keepStand_8 : decode cX10_keepStand 8 = .ok (.iconst 0, 1) := by decide +kernel
theorem dX10_keepStand_9 : decode cX10_keepStand 9 = .ok (.istore 4, 2) := by decide +kernel
theorem dX10_keepStand_11 : decode cX10_keepStand 11 = .ok (.iload 4, 2) := by decide +kernel
theorem dX10_keepStand_13 : decode cX10_keepStand 13 = .ok (.bipush 49, 2) := by decide +kernel
theorem dX10_keepStand_15 : decode cX10_keepStand 15 = .ok (.if_icmp .ge 28, 3) := by decide +kernel
theorem dX10_keepStand_18 : decode cX10_keepStand 18 = .ok (.aload_n 0, 1) := by decide +kernel
theorem dX10_keepStand_19 : decode cX10_keepStand 19 = .ok (.getfield 80, 3) := by decide +kernel
theorem dX10_keepStand_22 : decode cX10_keepStand 22 = .ok (.bipush 49, 2) := by decide +kernel
theorem dX10_keepStand_24 : decode cX10_keepStand 24 = .ok (.iload_n 3, 1) := by decide +kernel
theorem dX10_keepStand_25 : decode cX10_keepStand 25 = .ok (.imul, 1) := by decide +kernel
theorem dX10_keepStand_26 : decode cX10_keepStand 26 = .ok (.iload 4, 2) := by decide +kernel
theorem dX10_keepStand_28 : decode cX10_keepStand 28 = .ok (.iadd, 1) := by decide +kernel
theorem dX10_keepStand_29 : decode cX10_keepStand 29 = .ok (.aload_n 0, 1) := by decide +kernel
theorem dX10_keepStand_30 : decode cX10_keepStand 30 = .ok (.getfield 31, 3) := by decide +kernel
theorem dX10_keepStand_33 : decode cX10_keepStand 33 = .ok (.iload 4, 2) := by decide +kernel
theorem dX10_keepStand_35 : decode cX10_keepStand 35 = .ok (.iaload, 1) := by decide +kernel
theorem dX10_keepStand_36 : decode cX10_keepStand 36 = .ok (.iastore, 1) := by decide +kernel
theorem dX10_keepStand_37 : decode cX10_keepStand 37 = .ok (.iinc 4 1, 3) := by decide +kernel
theorem dX10_keepStand_40 : decode cX10_keepStand 40 = .ok (.goto (-29), 3) := by decide +kernel
theorem dX10_keepStand_43 : decode cX10_keepStand 43 = .ok (.iconst 0, 1) := by decide +kernel
theorem dX10_keepStand_44 : decode cX10_keepStand 44 = .ok (.istore 4, 2) := by decide +kernel
theorem dX10_keepStand_46 : decode cX10_keepStand 46 = .ok (.iload 4, 2) := by decide +kernel
theorem dX10_keepStand_48 : decode cX10_keepStand 48 = .ok (.bipush 16, 2) := by decide +kernel
theorem dX10_keepStand_50 : decode cX10_keepStand 50 = .ok (.if_icmp .ge 28, 3) := by decide +kernel
theorem dX10_keepStand_53 : decode cX10_keepStand 53 = .ok (.aload_n 0, 1) := by decide +kernel
theorem dX10_keepStand_54 : decode cX10_keepStand 54 = .ok (.getfield 83, 3) := by decide +kernel
theorem dX10_keepStand_57 : decode cX10_keepStand 57 = .ok (.bipush 16, 2) := by decide +kernel
theorem dX10_keepStand_59 : decode cX10_keepStand 59 = .ok (.iload_n 3, 1) := by decide +kernel
theorem dX10_keepStand_60 : decode cX10_keepStand 60 = .ok (.imul, 1) := by decide +kernel
theorem dX10_keepStand_61 : decode cX10_keepStand 61 = .ok (.iload 4, 2) := by decide +kernel
theorem dX10_keepStand_63 : decode cX10_keepStand 63 = .ok (.iadd, 1) := by decide +kernel
theorem dX10_keepStand_64 : decode cX10_keepStand 64 = .ok (.aload_n 0, 1) := by decide +kernel
theorem dX10_keepStand_65 : decode cX10_keepStand 65 = .ok (.getfield 34, 3) := by decide +kernel
theorem dX10_keepStand_68 : decode cX10_keepStand 68 = .ok (.iload 4, 2) := by decide +kernel
theorem dX10_keepStand_70 : decode cX10_keepStand 70 = .ok (.iaload, 1) := by decide +kernel
theorem dX10_keepStand_71 : decode cX10_keepStand 71 = .ok (.iastore, 1) := by decide +kernel
theorem dX10_keepStand_72 : decode cX10_keepStand 72 = .ok (.iinc 4 1, 3) := by decide +kernel
theorem dX10_keepStand_75 : decode cX10_keepStand 75 = .ok (.goto (-29), 3) := by decide +kernel
theorem dX10_keepStand_78 : decode cX10_keepStand 78 = .ok (.aload_n 0, 1) := by decide +kernel
theorem dX10_keepStand_79 : decode cX10_keepStand 79 = .ok (.getfield 86, 3) := by decide +kernel
theorem dX10_keepStand_82 : decode cX10_keepStand 82 = .ok (.iload_n 3, 1) := by decide +kernel
theorem dX10_keepStand_83 : decode cX10_keepStand 83 = .ok (.aload_n 0, 1) := by decide +kernel
theorem dX10_keepStand_84 : decode cX10_keepStand 84 = .ok (.getfield 37, 3) := by decide +kernel
theorem dX10_keepStand_87 : decode cX10_keepStand 87 = .ok (.iconst 0, 1) := by decide +kernel
theorem dX10_keepStand_88 : decode cX10_keepStand 88 = .ok (.iaload, 1) := by decide +kernel
theorem dX10_keepStand_89 : decode cX10_keepStand 89 = .ok (.iastore, 1) := by decide +kernel
theorem dX10_keepStand_90 : decode cX10_keepStand 90 = .ok (.return_, 1) := by decide +kernel
theorem dX10_layStand_0 : decode cX10_layStand 0 = .ok (.sipush 301, 3) := by decide +kernel
theorem dX10_layStand_3 : decode cX10_layStand 3 = .ok (.iload_n 1, 1) := by decide +kernel
theorem dX10_layStand_4 : decode cX10_layStand 4 = .ok (.imul, 1) := by decide +kernel
theorem dX10_layStand_5 : decode cX10_layStand 5 = .ok (.iload_n 2, 1) := by decide +kernel
theorem dX10_layStand_6 : decode cX10_layStand 6 = .ok (.iadd, 1) := by decide +kernel
theorem dX10_layStand_7 : decode cX10_layStand 7 = .ok (.istore_n 3, 1) := by decide +kernel
theorem dX10_layStand_8 : decode cX10_layStand 8 = .ok (.iconst 0, 1) := by decide +kernel
theorem dX10_layStand_9 : decode cX10_layStand 9 = .ok (.istore 4, 2) := by decide +kernel
theorem dX10_layStand_11 : decode cX10_layStand 11 = .ok (.iload 4, 2) := by decide +kernel
theorem dX10_layStand_13 : decode cX10_layStand 13 = .ok (.bipush 49, 2) := by decide +kernel
theorem dX10_layStand_15 : decode cX10_layStand 15 = .ok (.if_icmp .ge 28, 3) := by decide +kernel
theorem dX10_layStand_18 : decode cX10_layStand 18 = .ok (.aload_n 0, 1) := by decide +kernel
theorem dX10_layStand_19 : decode cX10_layStand 19 = .ok (.getfield 31, 3) := by decide +kernel
theorem dX10_layStand_22 : decode cX10_layStand 22 = .ok (.iload 4, 2) := by decide +kernel
theorem dX10_layStand_24 : decode cX10_layStand 24 = .ok (.aload_n 0, 1) := by decide +kernel
theorem dX10_layStand_25 : decode cX10_layStand 25 = .ok (.getfield 80, 3) := by decide +kernel
theorem dX10_layStand_28 : decode cX10_layStand 28 = .ok (.bipush 49, 2) := by decide +kernel
theorem dX10_layStand_30 : decode cX10_layStand 30 = .ok (.iload_n 3, 1) := by decide +kernel
theorem dX10_layStand_31 : decode cX10_layStand 31 = .ok (.imul, 1) := by decide +kernel
theorem dX10_layStand_32 : decode cX10_layStand 32 = .ok (.iload 4, 2) := by decide +kernel
theorem dX10_layStand_34 : decode cX10_layStand 34 = .ok (.iadd, 1) := by decide +kernel
theorem dX10_layStand_35 : decode cX10_layStand 35 = .ok (.iaload, 1) := by decide +kernel
theorem dX10_layStand_36 : decode cX10_layStand 36 = .ok (.iastore, 1) := by decide +kernel
theorem dX10_layStand_37 : decode cX10_layStand 37 = .ok (.iinc 4 1, 3) := by decide +kernel
theorem dX10_layStand_40 : decode cX10_layStand 40 = .ok (.goto (-29), 3) := by decide +kernel
theorem dX10_layStand_43 : decode cX10_layStand 43 = .ok (.iconst 0, 1) := by decide +kernel
theorem dX10_layStand_44 : decode cX10_layStand 44 = .ok (.istore 4, 2) := by decide +kernel
theorem dX10_layStand_46 : decode cX10_layStand 46 = .ok (.iload 4, 2) := by decide +kernel
theorem dX10_layStand_48 : decode cX10_layStand 48 = .ok (.bipush 16, 2) := by decide +kernel
theorem dX10_layStand_50 : decode cX10_layStand 50 = .ok (.if_icmp .ge 28, 3) := by decide +kernel
theorem dX10_layStand_53 : decode cX10_layStand 53 = .ok (.aload_n 0, 1) := by decide +kernel
theorem dX10_layStand_54 : decode cX10_layStand 54 = .ok (.getfield 34, 3) := by decide +kernel
theorem dX10_layStand_57 : decode cX10_layStand 57 = .ok (.iload 4, 2) := by decide +kernel
theorem dX10_layStand_59 : decode cX10_layStand 59 = .ok (.aload_n 0, 1) := by decide +kernel
theorem dX10_layStand_60 : decode cX10_layStand 60 = .ok (.getfield 83, 3) := by decide +kernel
theorem dX10_layStand_63 : decode cX10_layStand 63 = .ok (.bipush 16, 2) := by decide +kernel
theorem dX10_layStand_65 : decode cX10_layStand 65 = .ok (.iload_n 3, 1) := by decide +kernel
theorem dX10_layStand_66 : decode cX10_layStand 66 = .ok (.imul, 1) := by decide +kernel
theorem dX10_layStand_67 : decode cX10_layStand 67 = .ok (.iload 4, 2) := by decide +kernel
theorem dX10_layStand_69 : decode cX10_layStand 69 = .ok (.iadd, 1) := by decide +kernel
theorem dX10_layStand_70 : decode cX10_layStand 70 = .ok (.iaload, 1) := by decide +kernel
theorem dX10_layStand_71 : decode cX10_layStand 71 = .ok (.iastore, 1) := by decide +kernel
theorem dX10_layStand_72 : decode cX10_layStand 72 = .ok (.iinc 4 1, 3) := by decide +kernel
theorem dX10_layStand_75 : decode cX10_layStand 75 = .ok (.goto (-29), 3) := by decide +kernel
theorem dX10_layStand_78 : decode cX10_layStand 78 = .ok (.aload_n 0, 1) := by decide +kernel
theorem dX10_layStand_79 : decode cX10_layStand 79 = .ok (.getfield 37, 3) := by decide +kernel
theorem dX10_layStand_82 : decode cX10_layStand 82 = .ok (.iconst 0, 1) := by decide +kernel
theorem dX10_layStand_83 : decode cX10_layStand 83 = .ok (.aload_n 0, 1) := by decide +kernel
theorem dX10_layStand_84 : decode cX10_layStand 84 = .ok (.getfield 86, 3) := by decide +kernel
theorem dX10_layStand_87 : decode cX10_layStand 87 = .ok (.iload_n 3, 1) := by decide +kernel
theorem dX10_layStand_88 : decode cX10_layStand 88 = .ok (.iaload, 1) := by decide +kernel
theorem dX10_layStand_89 : decode cX10_layStand 89 = .ok (.iastore, 1) := by decide +kernel
theorem dX10_layStand_90 : decode cX10_layStand 90 = .ok (.return_, 1) := by decide +kernel
theorem dX10_areSame_0 : decode cX10_areSame 0 = .ok (.aload_n 0, 1) := by decide +kernel
theorem dX10_areSame_1 : decode cX10_areSame 1 = .ok (.getfield 86, 3) := by decide +kernel
theorem dX10_areSame_4 : decode cX10_areSame 4 = .ok (.iload_n 1, 1) := by decide +kernel
theorem dX10_areSame_5 : decode cX10_areSame 5 = .ok (.iaload, 1) := by decide +kernel
theorem dX10_areSame_6 : decode cX10_areSame 6 = .ok (.aload_n 0, 1) := by decide +kernel
theorem dX10_areSame_7 : decode cX10_areSame 7 = .ok (.getfield 86, 3) := by decide +kernel
theorem dX10_areSame_10 : decode cX10_areSame 10 = .ok (.iload_n 2, 1) := by decide +kernel
theorem dX10_areSame_11 : decode cX10_areSame 11 = .ok (.iaload, 1) := by decide +kernel
theorem dX10_areSame_12 : decode cX10_areSame 12 = .ok (.if_icmp .ne 7, 3) := by decide +kernel
theorem dX10_areSame_15 : decode cX10_areSame 15 = .ok (.iconst 1, 1) := by decide +kernel
theorem dX10_areSame_16 : decode cX10_areSame 16 = .ok (.goto 4, 3) := by decide +kernel
theorem dX10_areSame_19 : decode cX10_areSame 19 = .ok (.iconst 0, 1) := by decide +kernel
theorem dX10_areSame_20 : decode cX10_areSame 20 = .ok (.istore_n 3, 1) := by decide +kernel
theorem dX10_areSame_21 : decode cX10_areSame 21 = .ok (.iconst 0, 1) := by decide +kernel
theorem dX10_areSame_22 : decode cX10_areSame 22 = .ok (.istore 4, 2) := by decide +kernel
theorem dX10_areSame_24 : decode cX10_areSame 24 = .ok (.iload 4, 2) := by decide +kernel
theorem dX10_areSame_26 : decode cX10_areSame 26 = .ok (.bipush 49, 2) := by decide +kernel
theorem dX10_areSame_28 : decode cX10_areSame 28 = .ok (.if_icmp .ge 46, 3) := by decide +kernel
theorem dX10_areSame_31 : decode cX10_areSame 31 = .ok (.iload_n 3, 1) := by decide +kernel
theorem dX10_areSame_32 : decode cX10_areSame 32 = .ok (.ifCond .eq 42, 3) := by decide +kernel
theorem dX10_areSame_35 : decode cX10_areSame 35 = .ok (.aload_n 0, 1) := by decide +kernel
theorem dX10_areSame_36 : decode cX10_areSame 36 = .ok (.getfield 80, 3) := by decide +kernel
theorem dX10_areSame_39 : decode cX10_areSame 39 = .ok (.bipush 49, 2) := by decide +kernel
theorem dX10_areSame_41 : decode cX10_areSame 41 = .ok (.iload_n 1, 1) := by decide +kernel
theorem dX10_areSame_42 : decode cX10_areSame 42 = .ok (.imul, 1) := by decide +kernel
theorem dX10_areSame_43 : decode cX10_areSame 43 = .ok (.iload 4, 2) := by decide +kernel
theorem dX10_areSame_45 : decode cX10_areSame 45 = .ok (.iadd, 1) := by decide +kernel
theorem dX10_areSame_46 : decode cX10_areSame 46 = .ok (.iaload, 1) := by decide +kernel
theorem dX10_areSame_47 : decode cX10_areSame 47 = .ok (.aload_n 0, 1) := by decide +kernel
theorem dX10_areSame_48 : decode cX10_areSame 48 = .ok (.getfield 80, 3) := by decide +kernel
theorem dX10_areSame_51 : decode cX10_areSame 51 = .ok (.bipush 49, 2) := by decide +kernel
theorem dX10_areSame_53 : decode cX10_areSame 53 = .ok (.iload_n 2, 1) := by decide +kernel
theorem dX10_areSame_54 : decode cX10_areSame 54 = .ok (.imul, 1) := by decide +kernel
theorem dX10_areSame_55 : decode cX10_areSame 55 = .ok (.iload 4, 2) := by decide +kernel
theorem dX10_areSame_57 : decode cX10_areSame 57 = .ok (.iadd, 1) := by decide +kernel
theorem dX10_areSame_58 : decode cX10_areSame 58 = .ok (.iaload, 1) := by decide +kernel
theorem dX10_areSame_59 : decode cX10_areSame 59 = .ok (.if_icmp .ne 7, 3) := by decide +kernel
theorem dX10_areSame_62 : decode cX10_areSame 62 = .ok (.iconst 1, 1) := by decide +kernel
theorem dX10_areSame_63 : decode cX10_areSame 63 = .ok (.goto 4, 3) := by decide +kernel
theorem dX10_areSame_66 : decode cX10_areSame 66 = .ok (.iconst 0, 1) := by decide +kernel
theorem dX10_areSame_67 : decode cX10_areSame 67 = .ok (.istore_n 3, 1) := by decide +kernel
theorem dX10_areSame_68 : decode cX10_areSame 68 = .ok (.iinc 4 1, 3) := by decide +kernel
theorem dX10_areSame_71 : decode cX10_areSame 71 = .ok (.goto (-47), 3) := by decide +kernel
theorem dX10_areSame_74 : decode cX10_areSame 74 = .ok (.iconst 0, 1) := by decide +kernel
theorem dX10_areSame_75 : decode cX10_areSame 75 = .ok (.istore 4, 2) := by decide +kernel
theorem dX10_areSame_77 : decode cX10_areSame 77 = .ok (.iload 4, 2) := by decide +kernel
theorem dX10_areSame_79 : decode cX10_areSame 79 = .ok (.bipush 16, 2) := by decide +kernel
theorem dX10_areSame_81 : decode cX10_areSame 81 = .ok (.if_icmp .ge 46, 3) := by decide +kernel
theorem dX10_areSame_84 : decode cX10_areSame 84 = .ok (.iload_n 3, 1) := by decide +kernel
theorem dX10_areSame_85 : decode cX10_areSame 85 = .ok (.ifCond .eq 42, 3) := by decide +kernel
theorem dX10_areSame_88 : decode cX10_areSame 88 = .ok (.aload_n 0, 1) := by decide +kernel
theorem dX10_areSame_89 : decode cX10_areSame 89 = .ok (.getfield 83, 3) := by decide +kernel
theorem dX10_areSame_92 : decode cX10_areSame 92 = .ok (.bipush 16, 2) := by decide +kernel
theorem dX10_areSame_94 : decode cX10_areSame 94 = .ok (.iload_n 1, 1) := by decide +kernel
theorem dX10_areSame_95 : decode cX10_areSame 95 = .ok (.imul, 1) := by decide +kernel
theorem dX10_areSame_96 : decode cX10_areSame 96 = .ok (.iload 4, 2) := by decide +kernel
theorem dX10_areSame_98 : decode cX10_areSame 98 = .ok (.iadd, 1) := by decide +kernel
theorem dX10_areSame_99 : decode cX10_areSame 99 = .ok (.iaload, 1) := by decide +kernel
theorem dX10_areSame_100 : decode cX10_areSame 100 = .ok (.aload_n 0, 1) := by decide +kernel
theorem dX10_areSame_101 : decode cX10_areSame 101 = .ok (.getfield 83, 3) := by decide +kernel
theorem dX10_areSame_104 : decode cX10_areSame 104 = .ok (.bipush 16, 2) := by decide +kernel
theorem dX10_areSame_106 : decode cX10_areSame 106 = .ok (.iload_n 2, 1) := by decide +kernel
theorem dX10_areSame_107 : decode cX10_areSame 107 = .ok (.imul, 1) := by decide +kernel
theorem dX10_areSame_108 : decode cX10_areSame 108 = .ok (.iload 4, 2) := by decide +kernel
theorem dX10_areSame_110 : decode cX10_areSame 110 = .ok (.iadd, 1) := by decide +kernel
theorem dX10_areSame_111 : decode cX10_areSame 111 = .ok (.iaload, 1) := by decide +kernel
theorem dX10_areSame_112 : decode cX10_areSame 112 = .ok (.if_icmp .ne 7, 3) := by decide +kernel
theorem dX10_areSame_115 : decode cX10_areSame 115 = .ok (.iconst 1, 1) := by decide +kernel
theorem dX10_areSame_116 : decode cX10_areSame 116 = .ok (.goto 4, 3) := by decide +kernel
theorem dX10_areSame_119 : decode cX10_areSame 119 = .ok (.iconst 0, 1) := by decide +kernel
theorem dX10_areSame_120 : decode cX10_areSame 120 = .ok (.istore_n 3, 1) := by decide +kernel
theorem dX10_areSame_121 : decode cX10_areSame 121 = .ok (.iinc 4 1, 3) := by decide +kernel
theorem dX10_areSame_124 : decode cX10_areSame 124 = .ok (.goto (-47), 3) := by decide +kernel
theorem dX10_areSame_127 : decode cX10_areSame 127 = .ok (.iload_n 3, 1) := by decide +kernel
theorem dX10_areSame_128 : decode cX10_areSame 128 = .ok (.ireturn, 1) := by decide +kernel
theorem dX10_comes_0 : decode cX10_comes 0 = .ok (.iconst 0, 1) := by decide +kernel
theorem dX10_comes_1 : decode cX10_comes 1 = .ok (.istore_n 3, 1) := by decide +kernel
theorem dX10_comes_2 : decode cX10_comes 2 = .ok (.iconst 0, 1) := by decide +kernel
theorem dX10_comes_3 : decode cX10_comes 3 = .ok (.istore 4, 2) := by decide +kernel
theorem dX10_comes_5 : decode cX10_comes 5 = .ok (.iload 4, 2) := by decide +kernel
theorem dX10_comes_7 : decode cX10_comes 7 = .ok (.iload_n 2, 1) := by decide +kernel
theorem dX10_comes_8 : decode cX10_comes 8 = .ok (.if_icmp .gt 39, 3) := by decide +kernel
theorem dX10_comes_11 : decode cX10_comes 11 = .ok (.iload_n 3, 1) := by decide +kernel
theorem dX10_comes_12 : decode cX10_comes 12 = .ok (.aload_n 0, 1) := by decide +kernel
theorem dX10_comes_13 : decode cX10_comes 13 = .ok (.sipush 301, 3) := by decide +kernel
theorem dX10_comes_16 : decode cX10_comes 16 = .ok (.iload_n 1, 1) := by decide +kernel
theorem dX10_comes_17 : decode cX10_comes 17 = .ok (.imul, 1) := by decide +kernel
theorem dX10_comes_18 : decode cX10_comes 18 = .ok (.iload 4, 2) := by decide +kernel
theorem dX10_comes_20 : decode cX10_comes 20 = .ok (.iadd, 1) := by decide +kernel
theorem dX10_comes_21 : decode cX10_comes 21 = .ok (.sipush 301, 3) := by decide +kernel
theorem dX10_comes_24 : decode cX10_comes 24 = .ok (.iload_n 1, 1) := by decide +kernel
theorem dX10_comes_25 : decode cX10_comes 25 = .ok (.imul, 1) := by decide +kernel
theorem dX10_comes_26 : decode cX10_comes 26 = .ok (.iload_n 2, 1) := by decide +kernel
theorem dX10_comes_27 : decode cX10_comes 27 = .ok (.iadd, 1) := by decide +kernel
theorem dX10_comes_28 : decode cX10_comes 28 = .ok (.invokevirtual 252, 3) := by decide +kernel
theorem dX10_comes_31 : decode cX10_comes 31 = .ok (.ifCond .eq 7, 3) := by decide +kernel
theorem dX10_comes_34 : decode cX10_comes 34 = .ok (.iconst 1, 1) := by decide +kernel
theorem dX10_comes_35 : decode cX10_comes 35 = .ok (.goto 4, 3) := by decide +kernel
theorem dX10_comes_38 : decode cX10_comes 38 = .ok (.iconst 0, 1) := by decide +kernel
theorem dX10_comes_39 : decode cX10_comes 39 = .ok (.iadd, 1) := by decide +kernel
theorem dX10_comes_40 : decode cX10_comes 40 = .ok (.istore_n 3, 1) := by decide +kernel
theorem dX10_comes_41 : decode cX10_comes 41 = .ok (.iinc 4 1, 3) := by decide +kernel
theorem dX10_comes_44 : decode cX10_comes 44 = .ok (.goto (-39), 3) := by decide +kernel
theorem dX10_comes_47 : decode cX10_comes 47 = .ok (.iload_n 3, 1) := by decide +kernel
theorem dX10_comes_48 : decode cX10_comes 48 = .ok (.ireturn, 1) := by decide +kernel
theorem dX10_firstOf_0 : decode cX10_firstOf 0 = .ok (.iconst 0, 1) := by decide +kernel
theorem dX10_firstOf_1 : decode cX10_firstOf 1 = .ok (.istore_n 3, 1) := by decide +kernel
theorem dX10_firstOf_2 : decode cX10_firstOf 2 = .ok (.aload_n 0, 1) := by decide +kernel
theorem dX10_firstOf_3 : decode cX10_firstOf 3 = .ok (.sipush 301, 3) := by decide +kernel
theorem dX10_firstOf_6 : decode cX10_firstOf 6 = .ok (.iload_n 1, 1) := by decide +kernel
theorem dX10_firstOf_7 : decode cX10_firstOf 7 = .ok (.imul, 1) := by decide +kernel
theorem dX10_firstOf_8 : decode cX10_firstOf 8 = .ok (.iload_n 3, 1) := by decide +kernel
theorem dX10_firstOf_9 : decode cX10_firstOf 9 = .ok (.iadd, 1) := by decide +kernel
theorem dX10_firstOf_10 : decode cX10_firstOf 10 = .ok (.sipush 301, 3) := by decide +kernel
theorem dX10_firstOf_13 : decode cX10_firstOf 13 = .ok (.iload_n 1, 1) := by decide +kernel
theorem dX10_firstOf_14 : decode cX10_firstOf 14 = .ok (.imul, 1) := by decide +kernel
theorem dX10_firstOf_15 : decode cX10_firstOf 15 = .ok (.iload_n 2, 1) := by decide +kernel
theorem dX10_firstOf_16 : decode cX10_firstOf 16 = .ok (.iadd, 1) := by decide +kernel
theorem dX10_firstOf_17 : decode cX10_firstOf 17 = .ok (.invokevirtual 252, 3) := by decide +kernel
theorem dX10_firstOf_20 : decode cX10_firstOf 20 = .ok (.ifCond .ne 9, 3) := by decide +kernel
theorem dX10_firstOf_23 : decode cX10_firstOf 23 = .ok (.iinc 3 1, 3) := by decide +kernel
