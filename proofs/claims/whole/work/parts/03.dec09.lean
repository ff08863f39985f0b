theorem dX10_firstOf_26 : decode cX10_firstOf 26 = .ok (.goto (-24), 3) := by decide +kernel
theorem dX10_firstOf_29 : decode cX10_firstOf 29 = .ok (.iload_n 3, 1) := by decide +kernel
theorem dX10_firstOf_30 : decode cX10_firstOf 30 = .ok (.ireturn, 1) := by decide +kernel
theorem dX10_chased_0 : decode cX10_chased 0 = .ok (.iconst 1, 1) := by decide +kernel
theorem dX10_chased_1 : decode cX10_chased 1 = .ok (.istore 5, 2) := by decide +kernel
theorem dX10_chased_3 : decode cX10_chased 3 = .ok (.iload_n 2, 1) := by decide +kernel
theorem dX10_chased_4 : decode cX10_chased 4 = .ok (.istore 6, 2) := by decide +kernel
theorem dX10_chased_6 : decode cX10_chased 6 = .ok (.iload 6, 2) := by decide +kernel
theorem dX10_chased_8 : decode cX10_chased 8 = .ok (.iload_n 3, 1) := by decide +kernel
theorem dX10_chased_9 : decode cX10_chased 9 = .ok (.if_icmp .ge 55, 3) := by decide +kernel
theorem dX10_chased_12 : decode cX10_chased 12 = .ok (.iload 5, 2) := by decide +kernel
theorem dX10_chased_14 : decode cX10_chased 14 = .ok (.ifCond .eq 41, 3) := by decide +kernel
theorem dX10_chased_17 : decode cX10_chased 17 = .ok (.aload_n 0, 1) := by decide +kernel
theorem dX10_chased_18 : decode cX10_chased 18 = .ok (.getfield 86, 3) := by decide +kernel
theorem dX10_chased_21 : decode cX10_chased 21 = .ok (.sipush 301, 3) := by decide +kernel
theorem dX10_chased_24 : decode cX10_chased 24 = .ok (.iload_n 1, 1) := by decide +kernel
theorem dX10_chased_25 : decode cX10_chased 25 = .ok (.imul, 1) := by decide +kernel
theorem dX10_chased_26 : decode cX10_chased 26 = .ok (.iload 6, 2) := by decide +kernel
theorem dX10_chased_28 : decode cX10_chased 28 = .ok (.iadd, 1) := by decide +kernel
theorem dX10_chased_29 : decode cX10_chased 29 = .ok (.iaload, 1) := by decide +kernel
theorem dX10_chased_30 : decode cX10_chased 30 = .ok (.iload 4, 2) := by decide +kernel
theorem dX10_chased_32 : decode cX10_chased 32 = .ok (.if_icmp .ne 19, 3) := by decide +kernel
theorem dX10_chased_35 : decode cX10_chased 35 = .ok (.aload_n 0, 1) := by decide +kernel
theorem dX10_chased_36 : decode cX10_chased 36 = .ok (.getfield 101, 3) := by decide +kernel
theorem dX10_chased_39 : decode cX10_chased 39 = .ok (.sipush 300, 3) := by decide +kernel
theorem dX10_chased_42 : decode cX10_chased 42 = .ok (.iload_n 1, 1) := by decide +kernel
theorem dX10_chased_43 : decode cX10_chased 43 = .ok (.imul, 1) := by decide +kernel
theorem dX10_chased_44 : decode cX10_chased 44 = .ok (.iload 6, 2) := by decide +kernel
theorem dX10_chased_46 : decode cX10_chased 46 = .ok (.iadd, 1) := by decide +kernel
theorem dX10_chased_47 : decode cX10_chased 47 = .ok (.baload, 1) := by decide +kernel
theorem dX10_chased_48 : decode cX10_chased 48 = .ok (.ifCond .eq 7, 3) := by decide +kernel
theorem dX10_chased_51 : decode cX10_chased 51 = .ok (.iconst 1, 1) := by decide +kernel
theorem dX10_chased_52 : decode cX10_chased 52 = .ok (.goto 4, 3) := by decide +kernel
theorem dX10_chased_55 : decode cX10_chased 55 = .ok (.iconst 0, 1) := by decide +kernel
theorem dX10_chased_56 : decode cX10_chased 56 = .ok (.istore 5, 2) := by decide +kernel
theorem dX10_chased_58 : decode cX10_chased 58 = .ok (.iinc 6 1, 3) := by decide +kernel
theorem dX10_chased_61 : decode cX10_chased 61 = .ok (.goto (-55), 3) := by decide +kernel
theorem dX10_chased_64 : decode cX10_chased 64 = .ok (.iload 5, 2) := by decide +kernel
theorem dX10_chased_66 : decode cX10_chased 66 = .ok (.ireturn, 1) := by decide +kernel
theorem dX10_stateOf_0 : decode cX10_stateOf 0 = .ok (.aload_n 0, 1) := by decide +kernel
theorem dX10_stateOf_1 : decode cX10_stateOf 1 = .ok (.iconst 0, 1) := by decide +kernel
theorem dX10_stateOf_2 : decode cX10_stateOf 2 = .ok (.invokevirtual 255, 3) := by decide +kernel
theorem dX10_stateOf_5 : decode cX10_stateOf 5 = .ok (.aload_n 0, 1) := by decide +kernel
theorem dX10_stateOf_6 : decode cX10_stateOf 6 = .ok (.getfield 40, 3) := by decide +kernel
theorem dX10_stateOf_9 : decode cX10_stateOf 9 = .ok (.iconst 0, 1) := by decide +kernel
theorem dX10_stateOf_10 : decode cX10_stateOf 10 = .ok (.iaload, 1) := by decide +kernel
theorem dX10_stateOf_11 : decode cX10_stateOf 11 = .ok (.ifCond .ne 5, 3) := by decide +kernel
theorem dX10_stateOf_14 : decode cX10_stateOf 14 = .ok (.iconst 1, 1) := by decide +kernel
theorem dX10_stateOf_15 : decode cX10_stateOf 15 = .ok (.ireturn, 1) := by decide +kernel
theorem dX10_stateOf_16 : decode cX10_stateOf 16 = .ok (.aload_n 0, 1) := by decide +kernel
theorem dX10_stateOf_17 : decode cX10_stateOf 17 = .ok (.iload_n 1, 1) := by decide +kernel
theorem dX10_stateOf_18 : decode cX10_stateOf 18 = .ok (.iload_n 2, 1) := by decide +kernel
theorem dX10_stateOf_19 : decode cX10_stateOf 19 = .ok (.invokevirtual 258, 3) := by decide +kernel
theorem dX10_stateOf_22 : decode cX10_stateOf 22 = .ok (.iconst 4, 1) := by decide +kernel
theorem dX10_stateOf_23 : decode cX10_stateOf 23 = .ok (.if_icmp .ge 5, 3) := by decide +kernel
theorem dX10_stateOf_26 : decode cX10_stateOf 26 = .ok (.iconst 0, 1) := by decide +kernel
theorem dX10_stateOf_27 : decode cX10_stateOf 27 = .ok (.ireturn, 1) := by decide +kernel
theorem dX10_stateOf_28 : decode cX10_stateOf 28 = .ok (.aload_n 0, 1) := by decide +kernel
theorem dX10_stateOf_29 : decode cX10_stateOf 29 = .ok (.iload_n 1, 1) := by decide +kernel
theorem dX10_stateOf_30 : decode cX10_stateOf 30 = .ok (.iload_n 2, 1) := by decide +kernel
theorem dX10_stateOf_31 : decode cX10_stateOf 31 = .ok (.invokevirtual 262, 3) := by decide +kernel
theorem dX10_stateOf_34 : decode cX10_stateOf 34 = .ok (.istore_n 3, 1) := by decide +kernel
theorem dX10_stateOf_35 : decode cX10_stateOf 35 = .ok (.aload_n 0, 1) := by decide +kernel
theorem dX10_stateOf_36 : decode cX10_stateOf 36 = .ok (.iload_n 1, 1) := by decide +kernel
theorem dX10_stateOf_37 : decode cX10_stateOf 37 = .ok (.iload_n 3, 1) := by decide +kernel
theorem dX10_stateOf_38 : decode cX10_stateOf 38 = .ok (.iload_n 2, 1) := by decide +kernel
theorem dX10_stateOf_39 : decode cX10_stateOf 39 = .ok (.iconst 0, 1) := by decide +kernel
theorem dX10_stateOf_40 : decode cX10_stateOf 40 = .ok (.invokevirtual 265, 3) := by decide +kernel
theorem dX10_stateOf_43 : decode cX10_stateOf 43 = .ok (.ifCond .eq 7, 3) := by decide +kernel
theorem dX10_stateOf_46 : decode cX10_stateOf 46 = .ok (.iconst 3, 1) := by decide +kernel
theorem dX10_stateOf_47 : decode cX10_stateOf 47 = .ok (.goto 19, 3) := by decide +kernel
theorem dX10_stateOf_50 : decode cX10_stateOf 50 = .ok (.aload_n 0, 1) := by decide +kernel
theorem dX10_stateOf_51 : decode cX10_stateOf 51 = .ok (.iload_n 1, 1) := by decide +kernel
theorem dX10_stateOf_52 : decode cX10_stateOf 52 = .ok (.iload_n 3, 1) := by decide +kernel
theorem dX10_stateOf_53 : decode cX10_stateOf 53 = .ok (.iload_n 2, 1) := by decide +kernel
theorem dX10_stateOf_54 : decode cX10_stateOf 54 = .ok (.iconst 1, 1) := by decide +kernel
theorem dX10_stateOf_55 : decode cX10_stateOf 55 = .ok (.invokevirtual 265, 3) := by decide +kernel
theorem dX10_stateOf_58 : decode cX10_stateOf 58 = .ok (.ifCond .eq 7, 3) := by decide +kernel
theorem dX10_stateOf_61 : decode cX10_stateOf 61 = .ok (.iconst 4, 1) := by decide +kernel
theorem dX10_stateOf_62 : decode cX10_stateOf 62 = .ok (.goto 4, 3) := by decide +kernel
theorem dX10_stateOf_65 : decode cX10_stateOf 65 = .ok (.iconst 2, 1) := by decide +kernel
theorem dX10_stateOf_66 : decode cX10_stateOf 66 = .ok (.ireturn, 1) := by decide +kernel
theorem dX10_stand_0 : decode cX10_stand 0 = .ok (.iload_n 1, 1) := by decide +kernel
theorem dX10_stand_1 : decode cX10_stand 1 = .ok (.i2l, 1) := by decide +kernel
theorem dX10_stand_2 : decode cX10_stand 2 = .ok (.lconst 0, 1) := by decide +kernel
theorem dX10_stand_3 : decode cX10_stand 3 = .ok (.lconst 1, 1) := by decide +kernel
theorem dX10_stand_4 : decode cX10_stand 4 = .ok (.invokestatic 139, 3) := by decide +kernel
theorem dX10_stand_7 : decode cX10_stand 7 = .ok (.ifCond .ne 6, 3) := by decide +kernel
theorem dX10_stand_10 : decode cX10_stand 10 = .ok (.bipush (-2), 2) := by decide +kernel
theorem dX10_stand_12 : decode cX10_stand 12 = .ok (.ireturn, 1) := by decide +kernel
theorem dX10_stand_13 : decode cX10_stand 13 = .ok (.aload_n 0, 1) := by decide +kernel
theorem dX10_stand_14 : decode cX10_stand 14 = .ok (.getfield 159, 3) := by decide +kernel
theorem dX10_stand_17 : decode cX10_stand 17 = .ok (.ifCond .eq 6, 3) := by decide +kernel
theorem dX10_stand_20 : decode cX10_stand 20 = .ok (.bipush (-3), 2) := by decide +kernel
theorem dX10_stand_22 : decode cX10_stand 22 = .ok (.ireturn, 1) := by decide +kernel
theorem dX10_stand_23 : decode cX10_stand 23 = .ok (.iconst 0, 1) := by decide +kernel
theorem dX10_stand_24 : decode cX10_stand 24 = .ok (.istore_n 2, 1) := by decide +kernel
theorem dX10_stand_25 : decode cX10_stand 25 = .ok (.iload_n 2, 1) := by decide +kernel
theorem dX10_stand_26 : decode cX10_stand 26 = .ok (.aload_n 0, 1) := by decide +kernel
theorem dX10_stand_27 : decode cX10_stand 27 = .ok (.getfield 143, 3) := by decide +kernel
theorem dX10_stand_30 : decode cX10_stand 30 = .ok (.if_icmp .ge 37, 3) := by decide +kernel
theorem dX10_stand_33 : decode cX10_stand 33 = .ok (.aload_n 0, 1) := by decide +kernel
theorem dX10_stand_34 : decode cX10_stand 34 = .ok (.getfield 19, 3) := by decide +kernel
theorem dX10_stand_37 : decode cX10_stand 37 = .ok (.iload_n 2, 1) := by decide +kernel
theorem dX10_stand_38 : decode cX10_stand 38 = .ok (.iaload, 1) := by decide +kernel
theorem dX10_stand_39 : decode cX10_stand 39 = .ok (.ifCond .lt 22, 3) := by decide +kernel
theorem dX10_stand_42 : decode cX10_stand 42 = .ok (.aload_n 0, 1) := by decide +kernel
theorem dX10_stand_43 : decode cX10_stand 43 = .ok (.getfield 22, 3) := by decide +kernel
theorem dX10_stand_46 : decode cX10_stand 46 = .ok (.iload_n 2, 1) := by decide +kernel
theorem dX10_stand_47 : decode cX10_stand 47 = .ok (.iaload, 1) := by decide +kernel
theorem dX10_stand_48 : decode cX10_stand 48 = .ok (.aload_n 0, 1) := by decide +kernel
theorem dX10_stand_49 : decode cX10_stand 49 = .ok (.getfield 143, 3) := by decide +kernel
theorem dX10_stand_52 : decode cX10_stand 52 = .ok (.if_icmp .ge 9, 3) := by decide +kernel
theorem dX10_stand_55 : decode cX10_stand 55 = .ok (.aload_n 0, 1) := by decide +kernel
theorem dX10_stand_56 : decode cX10_stand 56 = .ok (.iconst 2, 1) := by decide +kernel
theorem dX10_stand_57 : decode cX10_stand 57 = .ok (.invokevirtual 169, 3) := by decide +kernel
theorem dX10_stand_60 : decode cX10_stand 60 = .ok (.ireturn, 1) := by decide +kernel
theorem dX10_stand_61 : decode cX10_stand 61 = .ok (.iinc 2 1, 3) := by decide +kernel
theorem dX10_stand_64 : decode cX10_stand 64 = .ok (.goto (-39), 3) := by decide +kernel
theorem dX10_stand_67 : decode cX10_stand 67 = .ok (.iconst 0, 1) := by decide +kernel
theorem dX10_stand_68 : decode cX10_stand 68 = .ok (.istore_n 2, 1) := by decide +kernel
theorem dX10_stand_69 : decode cX10_stand 69 = .ok (.iconst 0, 1) := by decide +kernel
theorem dX10_stand_70 : decode cX10_stand 70 = .ok (.istore_n 3, 1) := by decide +kernel
theorem dX10_stand_71 : decode cX10_stand 71 = .ok (.iconst 0, 1) := by decide +kernel
theorem dX10_stand_72 : decode cX10_stand 72 = .ok (.istore 4, 2) := by decide +kernel
theorem dX10_stand_74 : decode cX10_stand 74 = .ok (.iload 4, 2) := by decide +kernel
theorem dX10_stand_76 : decode cX10_stand 76 = .ok (.bipush 49, 2) := by decide +kernel
theorem dX10_stand_78 : decode cX10_stand 78 = .ok (.if_icmp .ge 17, 3) := by decide +kernel
theorem dX10_stand_81 : decode cX10_stand 81 = .ok (.aload_n 0, 1) := by decide +kernel
theorem dX10_stand_82 : decode cX10_stand 82 = .ok (.getfield 31, 3) := by decide +kernel
theorem dX10_stand_85 : decode cX10_stand 85 = .ok (.iload 4, 2) := by decide +kernel
theorem dX10_stand_87 : decode cX10_stand 87 = .ok (.iconst 0, 1) := by decide +kernel
theorem dX10_stand_88 : decode cX10_stand 88 = .ok (.iastore, 1) := by decide +kernel
theorem dX10_stand_89 : decode cX10_stand 89 = .ok (.iinc 4 1, 3) := by decide +kernel
theorem dX10_stand_92 : decode cX10_stand 92 = .ok (.goto (-18), 3) := by decide +kernel
theorem dX10_stand_95 : decode cX10_stand 95 = .ok (.iconst 0, 1) := by decide +kernel
theorem dX10_stand_96 : decode cX10_stand 96 = .ok (.istore 4, 2) := by decide +kernel
theorem dX10_stand_98 : decode cX10_stand 98 = .ok (.iload 4, 2) := by decide +kernel
theorem dX10_stand_100 : decode cX10_stand 100 = .ok (.aload_n 0, 1) := by decide +kernel
theorem dX10_stand_101 : decode cX10_stand 101 = .ok (.getfield 143, 3) := by decide +kernel
theorem dX10_stand_104 : decode cX10_stand 104 = .ok (.aload_n 0, 1) := by decide +kernel
theorem dX10_stand_105 : decode cX10_stand 105 = .ok (.getfield 143, 3) := by decide +kernel
theorem dX10_stand_108 : decode cX10_stand 108 = .ok (.imul, 1) := by decide +kernel
theorem dX10_stand_109 : decode cX10_stand 109 = .ok (.if_icmp .ge 150, 3) := by decide +kernel
theorem dX10_stand_112 : decode cX10_stand 112 = .ok (.aload_n 0, 1) := by decide +kernel
theorem dX10_stand_113 : decode cX10_stand 113 = .ok (.getfield 19, 3) := by decide +kernel
theorem dX10_stand_116 : decode cX10_stand 116 = .ok (.iload 4, 2) := by decide +kernel
theorem dX10_stand_118 : decode cX10_stand 118 = .ok (.aload_n 0, 1) := by decide +kernel
theorem dX10_stand_119 : decode cX10_stand 119 = .ok (.getfield 143, 3) := by decide +kernel
theorem dX10_stand_122 : decode cX10_stand 122 = .ok (.idiv, 1) := by decide +kernel
theorem dX10_stand_123 : decode cX10_stand 123 = .ok (.iaload, 1) := by decide +kernel
theorem dX10_stand_124 : decode cX10_stand 124 = .ok (.ifCond .ge 7, 3) := by decide +kernel
theorem dX10_stand_127 : decode cX10_stand 127 = .ok (.iconst 0, 1) := by decide +kernel
theorem dX10_stand_128 : decode cX10_stand 128 = .ok (.goto 26, 3) := by decide +kernel
theorem dX10_stand_131 : decode cX10_stand 131 = .ok (.aload_n 0, 1) := by decide +kernel
theorem dX10_stand_132 : decode cX10_stand 132 = .ok (.getfield 25, 3) := by decide +kernel
theorem dX10_stand_135 : decode cX10_stand 135 = .ok (.bipush 12, 2) := by decide +kernel
theorem dX10_stand_137 : decode cX10_stand 137 = .ok (.iload 4, 2) := by decide +kernel
theorem dX10_stand_139 : decode cX10_stand 139 = .ok (.aload_n 0, 1) := by decide +kernel
theorem dX10_stand_140 : decode cX10_stand 140 = .ok (.getfield 143, 3) := by decide +kernel
theorem dX10_stand_143 : decode cX10_stand 143 = .ok (.idiv, 1) := by decide +kernel
theorem dX10_stand_144 : decode cX10_stand 144 = .ok (.imul, 1) := by decide +kernel
theorem dX10_stand_145 : decode cX10_stand 145 = .ok (.iload 4, 2) := by decide +kernel
theorem dX10_stand_147 : decode cX10_stand 147 = .ok (.aload_n 0, 1) := by decide +kernel
theorem dX10_stand_148 : decode cX10_stand 148 = .ok (.getfield 143, 3) := by decide +kernel
theorem dX10_stand_151 : decode cX10_stand 151 = .ok (.irem, 1) := by decide +kernel
theorem dX10_stand_152 : decode cX10_stand 152 = .ok (.iadd, 1) := by decide +kernel
theorem dX10_stand_153 : decode cX10_stand 153 = .ok (.iaload, 1) := by decide +kernel
theorem dX10_stand_154 : decode cX10_stand 154 = .ok (.istore 5, 2) := by decide +kernel
theorem dX10_stand_156 : decode cX10_stand 156 = .ok (.iload 5, 2) := by decide +kernel
theorem dX10_stand_158 : decode cX10_stand 158 = .ok (.i2l, 1) := by decide +kernel
theorem dX10_stand_159 : decode cX10_stand 159 = .ok (.lconst 0, 1) := by decide +kernel
theorem dX10_stand_160 : decode cX10_stand 160 = .ok (.ldc2_w 268, 3) := by decide +kernel
theorem dX10_stand_163 : decode cX10_stand 163 = .ok (.invokestatic 139, 3) := by decide +kernel
theorem dX10_stand_166 : decode cX10_stand 166 = .ok (.ifCond .eq 28, 3) := by decide +kernel
theorem dX10_stand_169 : decode cX10_stand 169 = .ok (.iload 5, 2) := by decide +kernel
theorem dX10_stand_171 : decode cX10_stand 171 = .ok (.ifCond .le 26, 3) := by decide +kernel
theorem dX10_stand_174 : decode cX10_stand 174 = .ok (.iload 5, 2) := by decide +kernel
theorem dX10_stand_176 : decode cX10_stand 176 = .ok (.invokestatic 190, 3) := by decide +kernel
theorem dX10_stand_179 : decode cX10_stand 179 = .ok (.ifCond .eq 18, 3) := by decide +kernel
theorem dX10_stand_182 : decode cX10_stand 182 = .ok (.aload_n 0, 1) := by decide +kernel
theorem dX10_stand_183 : decode cX10_stand 183 = .ok (.iload 5, 2) := by decide +kernel
theorem dX10_stand_185 : decode cX10_stand 185 = .ok (.invokestatic 187, 3) := by decide +kernel
theorem dX10_stand_188 : decode cX10_stand 188 = .ok (.invokevirtual 211, 3) := by decide +kernel
theorem dX10_stand_191 : decode cX10_stand 191 = .ok (.ifCond .ne 6, 3) := by decide +kernel
theorem dX10_stand_194 : decode cX10_stand 194 = .ok (.bipush (-2), 2) := by decide +kernel
theorem dX10_stand_196 : decode cX10_stand 196 = .ok (.ireturn, 1) := by decide +kernel
theorem dX10_stand_197 : decode cX10_stand 197 = .ok (.aload_n 0, 1) := by decide +kernel
theorem dX10_stand_198 : decode cX10_stand 198 = .ok (.getfield 31, 3) := by decide +kernel
theorem dX10_stand_201 : decode cX10_stand 201 = .ok (.iload 4, 2) := by decide +kernel
theorem dX10_stand_203 : decode cX10_stand 203 = .ok (.iload 5, 2) := by decide +kernel
theorem dX10_stand_205 : decode cX10_stand 205 = .ok (.iastore, 1) := by decide +kernel
theorem dX10_stand_206 : decode cX10_stand 206 = .ok (.iload_n 3, 1) := by decide +kernel
theorem dX10_stand_207 : decode cX10_stand 207 = .ok (.iload 5, 2) := by decide +kernel
theorem dX10_stand_209 : decode cX10_stand 209 = .ok (.ifCond .le 7, 3) := by decide +kernel
theorem dX10_stand_212 : decode cX10_stand 212 = .ok (.iconst 1, 1) := by decide +kernel
theorem dX10_stand_213 : decode cX10_stand 213 = .ok (.goto 4, 3) := by decide +kernel
theorem dX10_stand_216 : decode cX10_stand 216 = .ok (.iconst 0, 1) := by decide +kernel
theorem dX10_stand_217 : decode cX10_stand 217 = .ok (.iadd, 1) := by decide +kernel
theorem dX10_stand_218 : decode cX10_stand 218 = .ok (.istore_n 3, 1) := by decide +kernel
theorem dX10_stand_219 : decode cX10_stand 219 = .ok (.iload_n 2, 1) := by decide +kernel
theorem dX10_stand_220 : decode cX10_stand 220 = .ok (.iload 5, 2) := by decide +kernel
theorem dX10_stand_222 : decode cX10_stand 222 = .ok (.ifCond .le 28, 3) := by decide +kernel
theorem dX10_stand_225 : decode cX10_stand 225 = .ok (.iload 5, 2) := by decide +kernel
theorem dX10_stand_227 : decode cX10_stand 227 = .ok (.invokestatic 187, 3) := by decide +kernel
theorem dX10_stand_230 : decode cX10_stand 230 = .ok (.ifCond .ne 20, 3) := by decide +kernel
theorem dX10_stand_233 : decode cX10_stand 233 = .ok (.iload 5, 2) := by decide +kernel
theorem dX10_stand_235 : decode cX10_stand 235 = .ok (.invokestatic 193, 3) := by decide +kernel
theorem dX10_stand_238 : decode cX10_stand 238 = .ok (.ifCond .ne 7, 3) := by decide +kernel
theorem dX10_stand_241 : decode cX10_stand 241 = .ok (.iconst 1, 1) := by decide +kernel
theorem dX10_stand_242 : decode cX10_stand 242 = .ok (.goto 9, 3) := by decide +kernel
theorem dX10_stand_245 : decode cX10_stand 245 = .ok (.bipush 100, 2) := by decide +kernel
theorem dX10_stand_247 : decode cX10_stand 247 = .ok (.goto 4, 3) := by decide +kernel
theorem dX10_stand_250 : decode cX10_stand 250 = .ok (.iconst 0, 1) := by decide +kernel
theorem dX10_stand_251 : decode cX10_stand 251 = .ok (.iadd, 1) := by decide +kernel
theorem dX10_stand_252 : decode cX10_stand 252 = .ok (.istore_n 2, 1) := by decide +kernel
theorem dX10_stand_253 : decode cX10_stand 253 = .ok (.iinc 4 1, 3) := by decide +kernel
theorem dX10_stand_256 : decode cX10_stand 256 = .ok (.goto (-158), 3) := by decide +kernel
theorem dX10_stand_259 : decode cX10_stand 259 = .ok (.iconst 0, 1) := by decide +kernel
theorem dX10_stand_260 : decode cX10_stand 260 = .ok (.istore 4, 2) := by decide +kernel
theorem dX10_stand_262 : decode cX10_stand 262 = .ok (.iload 4, 2) := by decide +kernel
theorem dX10_stand_264 : decode cX10_stand 264 = .ok (.bipush 16, 2) := by decide +kernel
theorem dX10_stand_266 : decode cX10_stand 266 = .ok (.if_icmp .ge 23, 3) := by decide +kernel
theorem dX10_stand_269 : decode cX10_stand 269 = .ok (.aload_n 0, 1) := by decide +kernel
theorem dX10_stand_270 : decode cX10_stand 270 = .ok (.getfield 34, 3) := by decide +kernel
theorem dX10_stand_273 : decode cX10_stand 273 = .ok (.iload 4, 2) := by decide +kernel
theorem dX10_stand_275 : decode cX10_stand 275 = .ok (.aload_n 0, 1) := by decide +kernel
theorem dX10_stand_276 : decode cX10_stand 276 = .ok (.getfield 77, 3) := by decide +kernel
theorem dX10_stand_279 : decode cX10_stand 279 = .ok (.iload 4, 2) := by decide +kernel
theorem dX10_stand_281 : decode cX10_stand 281 = .ok (.iaload, 1) := by decide +kernel
theorem dX10_stand_282 : decode cX10_stand 282 = .ok (.iastore, 1) := by decide +kernel
theorem dX10_stand_283 : decode cX10_stand 283 = .ok (.iinc 4 1, 3) := by decide +kernel
theorem dX10_stand_286 : decode cX10_stand 286 = .ok (.goto (-24), 3) := by decide +kernel
theorem dX10_stand_289 : decode cX10_stand 289 = .ok (.aload_n 0, 1) := by decide +kernel
theorem dX10_stand_290 : decode cX10_stand 290 = .ok (.getfield 37, 3) := by decide +kernel
theorem dX10_stand_293 : decode cX10_stand 293 = .ok (.iconst 0, 1) := by decide +kernel
theorem dX10_stand_294 : decode cX10_stand 294 = .ok (.iload_n 1, 1) := by decide +kernel
theorem dX10_stand_295 : decode cX10_stand 295 = .ok (.iastore, 1) := by decide +kernel
theorem dX10_stand_296 : decode cX10_stand 296 = .ok (.iload_n 2, 1) := by decide +kernel
theorem dX10_stand_297 : decode cX10_stand 297 = .ok (.bipush 101, 2) := by decide +kernel
theorem dX10_stand_299 : decode cX10_stand 299 = .ok (.if_icmp .ne 14, 3) := by decide +kernel
theorem dX10_stand_302 : decode cX10_stand 302 = .ok (.aload_n 0, 1) := by decide +kernel
theorem dX10_stand_303 : decode cX10_stand 303 = .ok (.iconst 0, 1) := by decide +kernel
theorem dX10_stand_304 : decode cX10_stand 304 = .ok (.iconst 1, 1) := by decide +kernel
theorem dX10_stand_305 : decode cX10_stand 305 = .ok (.iload_n 1, 1) := by decide +kernel
theorem dX10_stand_306 : decode cX10_stand 306 = .ok (.isub, 1) := by decide +kernel
theorem dX10_stand_307 : decode cX10_stand 307 = .ok (.invokevirtual 241, 3) := by decide +kernel
theorem dX10_stand_310 : decode cX10_stand 310 = .ok (.ifCond .eq 6, 3) := by decide +kernel
theorem dX10_stand_313 : decode cX10_stand 313 = .ok (.bipush (-2), 2) := by decide +kernel
theorem dX10_stand_315 : decode cX10_stand 315 = .ok (.ireturn, 1) := by decide +kernel
theorem dX10_stand_316 : decode cX10_stand 316 = .ok (.aload_n 0, 1) := by decide +kernel
theorem dX10_stand_317 : decode cX10_stand 317 = .ok (.iconst 1, 1) := by decide +kernel
theorem dX10_stand_318 : decode cX10_stand 318 = .ok (.putfield 159, 3) := by decide +kernel
theorem dX10_stand_321 : decode cX10_stand 321 = .ok (.aload_n 0, 1) := by decide +kernel
theorem dX10_stand_322 : decode cX10_stand 322 = .ok (.iconst 0, 1) := by decide +kernel
theorem dX10_stand_323 : decode cX10_stand 323 = .ok (.putfield 270, 3) := by decide +kernel
theorem dX10_stand_326 : decode cX10_stand 326 = .ok (.aload_n 0, 1) := by decide +kernel
theorem dX10_stand_327 : decode cX10_stand 327 = .ok (.iconst 0, 1) := by decide +kernel
theorem dX10_stand_328 : decode cX10_stand 328 = .ok (.putfield 273, 3) := by decide +kernel
theorem dX10_stand_331 : decode cX10_stand 331 = .ok (.aload_n 0, 1) := by decide +kernel
theorem dX10_stand_332 : decode cX10_stand 332 = .ok (.iconst 0, 1) := by decide +kernel
theorem dX10_stand_333 : decode cX10_stand 333 = .ok (.putfield 276, 3) := by decide +kernel
theorem dX10_stand_336 : decode cX10_stand 336 = .ok (.aload_n 0, 1) := by decide +kernel
theorem dX10_stand_337 : decode cX10_stand 337 = .ok (.iconst 0, 1) := by decide +kernel
theorem dX10_stand_338 : decode cX10_stand 338 = .ok (.iconst 0, 1) := by decide +kernel
theorem dX10_stand_339 : decode cX10_stand 339 = .ok (.invokevirtual 279, 3) := by decide +kernel
theorem dX10_stand_342 : decode cX10_stand 342 = .ok (.aload_n 0, 1) := by decide +kernel
theorem dX10_stand_343 : decode cX10_stand 343 = .ok (.aload_n 0, 1) := by decide +kernel
theorem dX10_stand_344 : decode cX10_stand 344 = .ok (.iconst 0, 1) := by decide +kernel
theorem dX10_stand_345 : decode cX10_stand 345 = .ok (.iconst 0, 1) := by decide +kernel
theorem dX10_stand_346 : decode cX10_stand 346 = .ok (.invokevirtual 283, 3) := by decide +kernel
theorem dX10_stand_349 : decode cX10_stand 349 = .ok (.putfield 286, 3) := by decide +kernel
theorem dX10_stand_352 : decode cX10_stand 352 = .ok (.iload_n 3, 1) := by decide +kernel
theorem dX10_stand_353 : decode cX10_stand 353 = .ok (.ireturn, 1) := by decide +kernel
theorem dX10_clear_0 : decode cX10_clear 0 = .ok (.aload_n 0, 1) := by decide +kernel
theorem dX10_clear_1 : decode cX10_clear 1 = .ok (.getfield 159, 3) := by decide +kernel
theorem dX10_clear_4 : decode cX10_clear 4 = .ok (.ifCond .ne 6, 3) := by decide +kernel
theorem dX10_clear_7 : decode cX10_clear 7 = .ok (.bipush (-3), 2) := by decide +kernel
theorem dX10_clear_9 : decode cX10_clear 9 = .ok (.ireturn, 1) := by decide +kernel
theorem dX10_clear_10 : decode cX10_clear 10 = .ok (.aload_n 0, 1) := by decide +kernel
theorem dX10_clear_11 : decode cX10_clear 11 = .ok (.iconst 0, 1) := by decide +kernel
theorem dX10_clear_12 : decode cX10_clear 12 = .ok (.putfield 159, 3) := by decide +kernel
theorem dX10_clear_15 : decode cX10_clear 15 = .ok (.aload_n 0, 1) := by decide +kernel
theorem dX10_clear_16 : decode cX10_clear 16 = .ok (.iconst 0, 1) := by decide +kernel
theorem dX10_clear_17 : decode cX10_clear 17 = .ok (.putfield 289, 3) := by decide +kernel
theorem dX10_clear_20 : decode cX10_clear 20 = .ok (.aload_n 0, 1) := by decide +kernel
theorem dX10_clear_21 : decode cX10_clear 21 = .ok (.getfield 273, 3) := by decide +kernel
theorem dX10_clear_24 : decode cX10_clear 24 = .ok (.ireturn, 1) := by decide +kernel
theorem dX10_isField_0 : decode cX10_isField 0 = .ok (.iload_n 1, 1) := by decide +kernel
theorem dX10_isField_1 : decode cX10_isField 1 = .ok (.i2l, 1) := by decide +kernel
theorem dX10_isField_2 : decode cX10_isField 2 = .ok (.lconst 0, 1) := by decide +kernel
theorem dX10_isField_3 : decode cX10_isField 3 = .ok (.aload_n 0, 1) := by decide +kernel
theorem dX10_isField_4 : decode cX10_isField 4 = .ok (.getfield 143, 3) := by decide +kernel
theorem dX10_isField_7 : decode cX10_isField 7 = .ok (.aload_n 0, 1) := by decide +kernel
theorem dX10_isField_8 : decode cX10_isField 8 = .ok (.getfield 143, 3) := by decide +kernel
theorem dX10_isField_11 : decode cX10_isField 11 = .ok (.imul, 1) := by decide +kernel
theorem dX10_isField_12 : decode cX10_isField 12 = .ok (.iconst 1, 1) := by decide +kernel
theorem dX10_isField_13 : decode cX10_isField 13 = .ok (.isub, 1) := by decide +kernel
theorem dX10_isField_14 : decode cX10_isField 14 = .ok (.i2l, 1) := by decide +kernel
theorem dX10_isField_15 : decode cX10_isField 15 = .ok (.invokestatic 139, 3) := by decide +kernel
theorem dX10_isField_18 : decode cX10_isField 18 = .ok (.ireturn, 1) := by decide +kernel
theorem dX10_field_0 : decode cX10_field 0 = .ok (.aload_n 0, 1) := by decide +kernel
theorem dX10_field_1 : decode cX10_field 1 = .ok (.iload_n 1, 1) := by decide +kernel
theorem dX10_field_2 : decode cX10_field 2 = .ok (.invokevirtual 292, 3) := by decide +kernel
theorem dX10_field_5 : decode cX10_field 5 = .ok (.ifCond .eq 19, 3) := by decide +kernel
theorem dX10_field_8 : decode cX10_field 8 = .ok (.aload_n 0, 1) := by decide +kernel
theorem dX10_field_9 : decode cX10_field 9 = .ok (.getfield 159, 3) := by decide +kernel
theorem dX10_field_12 : decode cX10_field 12 = .ok (.ifCond .eq 12, 3) := by decide +kernel
theorem dX10_field_15 : decode cX10_field 15 = .ok (.aload_n 0, 1) := by decide +kernel
theorem dX10_field_16 : decode cX10_field 16 = .ok (.getfield 31, 3) := by decide +kernel
theorem dX10_field_19 : decode cX10_field 19 = .ok (.iload_n 1, 1) := by decide +kernel
theorem dX10_field_20 : decode cX10_field 20 = .ok (.iaload, 1) := by decide +kernel
theorem dX10_field_21 : decode cX10_field 21 = .ok (.goto 5, 3) := by decide +kernel
theorem dX10_field_24 : decode cX10_field 24 = .ok (.bipush (-2), 2) := by decide +kernel
theorem dX10_field_26 : decode cX10_field 26 = .ok (.ireturn, 1) := by decide +kernel
theorem dX10_has_0 : decode cX10_has 0 = .ok (.iload_n 1, 1) := by decide +kernel
theorem dX10_has_1 : decode cX10_has 1 = .ok (.i2l, 1) := by decide +kernel
theorem dX10_has_2 : decode cX10_has 2 = .ok (.lconst 0, 1) := by decide +kernel
theorem dX10_has_3 : decode cX10_has 3 = .ok (.lconst 1, 1) := by decide +kernel
theorem dX10_has_4 : decode cX10_has 4 = .ok (.invokestatic 139, 3) := by decide +kernel
theorem dX10_has_7 : decode cX10_has 7 = .ok (.ifCond .eq 15, 3) := by decide +kernel
theorem dX10_has_10 : decode cX10_has 10 = .ok (.iload_n 2, 1) := by decide +kernel
theorem dX10_has_11 : decode cX10_has 11 = .ok (.i2l, 1) := by decide +kernel
theorem dX10_has_12 : decode cX10_has 12 = .ok (.lconst 1, 1) := by decide +kernel
theorem dX10_has_13 : decode cX10_has 13 = .ok (.ldc2_w 137, 3) := by decide +kernel
theorem dX10_has_16 : decode cX10_has 16 = .ok (.invokestatic 139, 3) := by decide +kernel
theorem dX10_has_19 : decode cX10_has 19 = .ok (.ifCond .ne 6, 3) := by decide +kernel
theorem dX10_has_22 : decode cX10_has 22 = .ok (.bipush (-2), 2) := by decide +kernel
theorem dX10_has_24 : decode cX10_has 24 = .ok (.ireturn, 1) := by decide +kernel
theorem dX10_has_25 : decode cX10_has 25 = .ok (.aload_n 0, 1) := by decide +kernel
theorem dX10_has_26 : decode cX10_has 26 = .ok (.getfield 159, 3) := by decide +kernel
theorem dX10_has_29 : decode cX10_has 29 = .ok (.ifCond .eq 17, 3) := by decide +kernel
theorem dX10_has_32 : decode cX10_has 32 = .ok (.aload_n 0, 1) := by decide +kernel
theorem dX10_has_33 : decode cX10_has 33 = .ok (.getfield 34, 3) := by decide +kernel
theorem dX10_has_36 : decode cX10_has 36 = .ok (.bipush 8, 2) := by decide +kernel
theorem dX10_has_38 : decode cX10_has 38 = .ok (.iload_n 1, 1) := by decide +kernel
theorem dX10_has_39 : decode cX10_has 39 = .ok (.imul, 1) := by decide +kernel
theorem dX10_has_40 : decode cX10_has 40 = .ok (.iload_n 2, 1) := by decide +kernel
theorem dX10_has_41 : decode cX10_has 41 = .ok (.iadd, 1) := by decide +kernel
theorem dX10_has_42 : decode cX10_has 42 = .ok (.iaload, 1) := by decide +kernel
theorem dX10_has_43 : decode cX10_has 43 = .ok (.goto 14, 3) := by decide +kernel
theorem dX10_has_46 : decode cX10_has 46 = .ok (.aload_n 0, 1) := by decide +kernel
theorem dX10_has_47 : decode cX10_has 47 = .ok (.getfield 77, 3) := by decide +kernel
theorem dX10_has_50 : decode cX10_has 50 = .ok (.bipush 8, 2) := by decide +kernel
theorem dX10_has_52 : decode cX10_has 52 = .ok (.iload_n 1, 1) := by decide +kernel
theorem dX10_has_53 : decode cX10_has 53 = .ok (.imul, 1) := by decide +kernel
theorem dX10_has_54 : decode cX10_has 54 = .ok (.iload_n 2, 1) := by decide +kernel
theorem dX10_has_55 : decode cX10_has 55 = .ok (.iadd, 1) := by decide +kernel
theorem dX10_has_56 : decode cX10_has 56 = .ok (.iaload, 1) := by decide +kernel
theorem dX10_has_57 : decode cX10_has 57 = .ok (.ireturn, 1) := by decide +kernel
theorem dX10_attacks_0 : decode cX10_attacks 0 = .ok (.iload_n 1, 1) := by decide +kernel
theorem dX10_attacks_1 : decode cX10_attacks 1 = .ok (.i2l, 1) := by decide +kernel
theorem dX10_attacks_2 : decode cX10_attacks 2 = .ok (.lconst 0, 1) := by decide +kernel
theorem dX10_attacks_3 : decode cX10_attacks 3 = .ok (.lconst 1, 1) := by decide +kernel
theorem dX10_attacks_4 : decode cX10_attacks 4 = .ok (.invokestatic 139, 3) := by decide +kernel
theorem dX10_attacks_7 : decode cX10_attacks 7 = .ok (.ifCond .eq 11, 3) := by decide +kernel
theorem dX10_attacks_10 : decode cX10_attacks 10 = .ok (.aload_n 0, 1) := by decide +kernel
theorem dX10_attacks_11 : decode cX10_attacks 11 = .ok (.iload_n 2, 1) := by decide +kernel
theorem dX10_attacks_12 : decode cX10_attacks 12 = .ok (.invokevirtual 292, 3) := by decide +kernel
theorem dX10_attacks_15 : decode cX10_attacks 15 = .ok (.ifCond .ne 6, 3) := by decide +kernel
theorem dX10_attacks_18 : decode cX10_attacks 18 = .ok (.bipush (-2), 2) := by decide +kernel
theorem dX10_attacks_20 : decode cX10_attacks 20 = .ok (.ireturn, 1) := by decide +kernel
theorem dX10_attacks_21 : decode cX10_attacks 21 = .ok (.aload_n 0, 1) := by decide +kernel
theorem dX10_attacks_22 : decode cX10_attacks 22 = .ok (.getfield 159, 3) := by decide +kernel
theorem dX10_attacks_25 : decode cX10_attacks 25 = .ok (.ifCond .ne 8, 3) := by decide +kernel
theorem dX10_attacks_28 : decode cX10_attacks 28 = .ok (.bipush (-3), 2) := by decide +kernel
theorem dX10_attacks_30 : decode cX10_attacks 30 = .ok (.goto 18, 3) := by decide +kernel
theorem dX10_attacks_33 : decode cX10_attacks 33 = .ok (.aload_n 0, 1) := by decide +kernel
theorem dX10_attacks_34 : decode cX10_attacks 34 = .ok (.iconst 0, 1) := by decide +kernel
theorem dX10_attacks_35 : decode cX10_attacks 35 = .ok (.iload_n 1, 1) := by decide +kernel
theorem dX10_attacks_36 : decode cX10_attacks 36 = .ok (.iload_n 2, 1) := by decide +kernel
theorem dX10_attacks_37 : decode cX10_attacks 37 = .ok (.invokevirtual 207, 3) := by decide +kernel
theorem dX10_attacks_40 : decode cX10_attacks 40 = .ok (.ifCond .eq 7, 3) := by decide +kernel
theorem dX10_attacks_43 : decode cX10_attacks 43 = .ok (.iconst 1, 1) := by decide +kernel
theorem dX10_attacks_44 : decode cX10_attacks 44 = .ok (.goto 4, 3) := by decide +kernel
theorem dX10_attacks_47 : decode cX10_attacks 47 = .ok (.iconst 0, 1) := by decide +kernel
theorem dX10_attacks_48 : decode cX10_attacks 48 = .ok (.ireturn, 1) := by decide +kernel
theorem dX10_check_0 : decode cX10_check 0 = .ok (.iload_n 1, 1) := by decide +kernel
theorem dX10_check_1 : decode cX10_check 1 = .ok (.i2l, 1) := by decide +kernel
theorem dX10_check_2 : decode cX10_check 2 = .ok (.lconst 0, 1) := by decide +kernel
theorem dX10_check_3 : decode cX10_check 3 = .ok (.lconst 1, 1) := by decide +kernel
theorem dX10_check_4 : decode cX10_check 4 = .ok (.invokestatic 139, 3) := by decide +kernel
theorem dX10_check_7 : decode cX10_check 7 = .ok (.ifCond .ne 6, 3) := by decide +kernel
theorem dX10_check_10 : decode cX10_check 10 = .ok (.bipush (-2), 2) := by decide +kernel
theorem dX10_check_12 : decode cX10_check 12 = .ok (.ireturn, 1) := by decide +kernel
theorem dX10_check_13 : decode cX10_check 13 = .ok (.aload_n 0, 1) := by decide +kernel
theorem dX10_check_14 : decode cX10_check 14 = .ok (.getfield 159, 3) := by decide +kernel
theorem dX10_check_17 : decode cX10_check 17 = .ok (.ifCond .ne 8, 3) := by decide +kernel
theorem dX10_check_20 : decode cX10_check 20 = .ok (.bipush (-3), 2) := by decide +kernel
theorem dX10_check_22 : decode cX10_check 22 = .ok (.goto 17, 3) := by decide +kernel
theorem dX10_check_25 : decode cX10_check 25 = .ok (.aload_n 0, 1) := by decide +kernel
theorem dX10_check_26 : decode cX10_check 26 = .ok (.iconst 0, 1) := by decide +kernel
theorem dX10_check_27 : decode cX10_check 27 = .ok (.iload_n 1, 1) := by decide +kernel
theorem dX10_check_28 : decode cX10_check 28 = .ok (.invokevirtual 241, 3) := by decide +kernel
theorem dX10_check_31 : decode cX10_check 31 = .ok (.ifCond .eq 7, 3) := by decide +kernel
theorem dX10_check_34 : decode cX10_check 34 = .ok (.iconst 1, 1) := by decide +kernel
theorem dX10_check_35 : decode cX10_check 35 = .ok (.goto 4, 3) := by decide +kernel
theorem dX10_check_38 : decode cX10_check 38 = .ok (.iconst 0, 1) := by decide +kernel
theorem dX10_check_39 : decode cX10_check 39 = .ok (.ireturn, 1) := by decide +kernel
theorem dX10_moves_0 : decode cX10_moves 0 = .ok (.aload_n 0, 1) := by decide +kernel
theorem dX10_moves_1 : decode cX10_moves 1 = .ok (.getfield 159, 3) := by decide +kernel
theorem dX10_moves_4 : decode cX10_moves 4 = .ok (.ifCond .ne 6, 3) := by decide +kernel
theorem dX10_moves_7 : decode cX10_moves 7 = .ok (.bipush (-3), 2) := by decide +kernel
theorem dX10_moves_9 : decode cX10_moves 9 = .ok (.ireturn, 1) := by decide +kernel
theorem dX10_moves_10 : decode cX10_moves 10 = .ok (.aload_n 0, 1) := by decide +kernel
theorem dX10_moves_11 : decode cX10_moves 11 = .ok (.iconst 0, 1) := by decide +kernel
theorem dX10_moves_12 : decode cX10_moves 12 = .ok (.invokevirtual 255, 3) := by decide +kernel
theorem dX10_moves_15 : decode cX10_moves 15 = .ok (.aload_n 0, 1) := by decide +kernel
theorem dX10_moves_16 : decode cX10_moves 16 = .ok (.getfield 40, 3) := by decide +kernel
theorem dX10_moves_19 : decode cX10_moves 19 = .ok (.iconst 0, 1) := by decide +kernel
theorem dX10_moves_20 : decode cX10_moves 20 = .ok (.iaload, 1) := by decide +kernel
theorem dX10_moves_21 : decode cX10_moves 21 = .ok (.ireturn, 1) := by decide +kernel
theorem dX10_move_0 : decode cX10_move 0 = .ok (.aload_n 0, 1) := by decide +kernel
theorem dX10_move_1 : decode cX10_move 1 = .ok (.getfield 159, 3) := by decide +kernel
theorem dX10_move_4 : decode cX10_move 4 = .ok (.ifCond .ne 6, 3) := by decide +kernel
theorem dX10_move_7 : decode cX10_move 7 = .ok (.bipush (-3), 2) := by decide +kernel
theorem dX10_move_9 : decode cX10_move 9 = .ok (.ireturn, 1) := by decide +kernel
theorem dX10_move_10 : decode cX10_move 10 = .ok (.aload_n 0, 1) := by decide +kernel
theorem dX10_move_11 : decode cX10_move 11 = .ok (.iconst 0, 1) := by decide +kernel
theorem dX10_move_12 : decode cX10_move 12 = .ok (.invokevirtual 255, 3) := by decide +kernel
theorem dX10_move_15 : decode cX10_move 15 = .ok (.iload_n 1, 1) := by decide +kernel
theorem dX10_move_16 : decode cX10_move 16 = .ok (.i2l, 1) := by decide +kernel
theorem dX10_move_17 : decode cX10_move 17 = .ok (.lconst 0, 1) := by decide +kernel
theorem dX10_move_18 : decode cX10_move 18 = .ok (.aload_n 0, 1) := by decide +kernel
theorem dX10_move_19 : decode cX10_move 19 = .ok (.getfield 40, 3) := by decide +kernel
theorem dX10_move_22 : decode cX10_move 22 = .ok (.iconst 0, 1) := by decide +kernel
theorem dX10_move_23 : decode cX10_move 23 = .ok (.iaload, 1) := by decide +kernel
theorem dX10_move_24 : decode cX10_move 24 = .ok (.iconst 1, 1) := by decide +kernel
theorem dX10_move_25 : decode cX10_move 25 = .ok (.isub, 1) := by decide +kernel
theorem dX10_move_26 : decode cX10_move 26 = .ok (.i2l, 1) := by decide +kernel
theorem dX10_move_27 : decode cX10_move 27 = .ok (.invokestatic 139, 3) := by decide +kernel
theorem dX10_move_30 : decode cX10_move 30 = .ok (.ifCond .eq 15, 3) := by decide +kernel
theorem dX10_move_33 : decode cX10_move 33 = .ok (.iload_n 2, 1) := by decide +kernel
theorem dX10_move_34 : decode cX10_move 34 = .ok (.i2l, 1) := by decide +kernel
theorem dX10_move_35 : decode cX10_move 35 = .ok (.lconst 0, 1) := by decide +kernel
theorem dX10_move_36 : decode cX10_move 36 = .ok (.ldc2_w 295, 3) := by decide +kernel
theorem dX10_move_39 : decode cX10_move 39 = .ok (.invokestatic 139, 3) := by decide +kernel
theorem dX10_move_42 : decode cX10_move 42 = .ok (.ifCond .ne 6, 3) := by decide +kernel
theorem dX10_move_45 : decode cX10_move 45 = .ok (.bipush (-2), 2) := by decide +kernel
theorem dX10_move_47 : decode cX10_move 47 = .ok (.ireturn, 1) := by decide +kernel
theorem dX10_move_48 : decode cX10_move 48 = .ok (.iload_n 2, 1) := by decide +kernel
theorem dX10_move_49 : decode cX10_move 49 = .ok (.tableswitch 85 0 3 #[31, 38, 45, 52], 31) := by decide +kernel
theorem dX10_move_80 : decode cX10_move 80 = .ok (.aload_n 0, 1) := by decide +kernel
theorem dX10_move_81 : decode cX10_move 81 = .ok (.getfield 43, 3) := by decide +kernel
theorem dX10_move_84 : decode cX10_move 84 = .ok (.iload_n 1, 1) := by decide +kernel
theorem dX10_move_85 : decode cX10_move 85 = .ok (.iaload, 1) := by decide +kernel
theorem dX10_move_86 : decode cX10_move 86 = .ok (.ireturn, 1) := by decide +kernel
theorem dX10_move_87 : decode cX10_move 87 = .ok (.aload_n 0, 1) := by decide +kernel
theorem dX10_move_88 : decode cX10_move 88 = .ok (.getfield 46, 3) := by decide +kernel
theorem dX10_move_91 : decode cX10_move 91 = .ok (.iload_n 1, 1) := by decide +kernel
theorem dX10_move_92 : decode cX10_move 92 = .ok (.iaload, 1) := by decide +kernel
theorem dX10_move_93 : decode cX10_move 93 = .ok (.ireturn, 1) := by decide +kernel
theorem dX10_move_94 : decode cX10_move 94 = .ok (.aload_n 0, 1) := by decide +kernel
theorem dX10_move_95 : decode cX10_move 95 = .ok (.getfield 49, 3) := by decide +kernel
theorem dX10_move_98 : decode cX10_move 98 = .ok (.iload_n 1, 1) := by decide +kernel
theorem dX10_move_99 : decode cX10_move 99 = .ok (.iaload, 1) := by decide +kernel
theorem dX10_move_100 : decode cX10_move 100 = .ok (.ireturn, 1) := by decide +kernel
theorem dX10_move_101 : decode cX10_move 101 = .ok (.aload_n 0, 1) := by decide +kernel
theorem dX10_move_102 : decode cX10_move 102 = .ok (.getfield 43, 3) := by decide +kernel
theorem dX10_move_105 : decode cX10_move 105 = .ok (.iload_n 1, 1) := by decide +kernel
theorem dX10_move_106 : decode cX10_move 106 = .ok (.iaload, 1) := by decide +kernel
theorem dX10_move_107 : decode cX10_move 107 = .ok (.ifCond .ge 12, 3) := by decide +kernel
theorem dX10_move_110 : decode cX10_move 110 = .ok (.aload_n 0, 1) := by decide +kernel
theorem dX10_move_111 : decode cX10_move 111 = .ok (.getfield 52, 3) := by decide +kernel
theorem dX10_move_114 : decode cX10_move 114 = .ok (.iload_n 1, 1) := by decide +kernel
theorem dX10_move_115 : decode cX10_move 115 = .ok (.iaload, 1) := by decide +kernel
theorem dX10_move_116 : decode cX10_move 116 = .ok (.goto 17, 3) := by decide +kernel
theorem dX10_move_119 : decode cX10_move 119 = .ok (.aload_n 0, 1) := by decide +kernel
theorem dX10_move_120 : decode cX10_move 120 = .ok (.getfield 31, 3) := by decide +kernel
theorem dX10_move_123 : decode cX10_move 123 = .ok (.aload_n 0, 1) := by decide +kernel
theorem dX10_move_124 : decode cX10_move 124 = .ok (.getfield 43, 3) := by decide +kernel
theorem dX10_move_127 : decode cX10_move 127 = .ok (.iload_n 1, 1) := by decide +kernel
theorem dX10_move_128 : decode cX10_move 128 = .ok (.iaload, 1) := by decide +kernel
theorem dX10_move_129 : decode cX10_move 129 = .ok (.iaload, 1) := by decide +kernel
theorem dX10_move_130 : decode cX10_move 130 = .ok (.invokestatic 187, 3) := by decide +kernel
theorem dX10_move_133 : decode cX10_move 133 = .ok (.ireturn, 1) := by decide +kernel
theorem dX10_move_134 : decode cX10_move 134 = .ok (.aload_n 0, 1) := by decide +kernel
theorem dX10_move_135 : decode cX10_move 135 = .ok (.getfield 43, 3) := by decide +kernel
theorem dX10_move_138 : decode cX10_move 138 = .ok (.iload_n 1, 1) := by decide +kernel
theorem dX10_move_139 : decode cX10_move 139 = .ok (.iaload, 1) := by decide +kernel
theorem dX10_move_140 : decode cX10_move 140 = .ok (.ifCond .lt 17, 3) := by decide +kernel
theorem dX10_move_143 : decode cX10_move 143 = .ok (.aload_n 0, 1) := by decide +kernel
theorem dX10_move_144 : decode cX10_move 144 = .ok (.getfield 31, 3) := by decide +kernel
theorem dX10_move_147 : decode cX10_move 147 = .ok (.aload_n 0, 1) := by decide +kernel
theorem dX10_move_148 : decode cX10_move 148 = .ok (.getfield 46, 3) := by decide +kernel
theorem dX10_move_151 : decode cX10_move 151 = .ok (.iload_n 1, 1) := by decide +kernel
theorem dX10_move_152 : decode cX10_move 152 = .ok (.iaload, 1) := by decide +kernel
theorem dX10_move_153 : decode cX10_move 153 = .ok (.iaload, 1) := by decide +kernel
theorem dX10_move_154 : decode cX10_move 154 = .ok (.ifCond .ne 7, 3) := by decide +kernel
theorem dX10_move_157 : decode cX10_move 157 = .ok (.iconst (-1), 1) := by decide +kernel
theorem dX10_move_158 : decode cX10_move 158 = .ok (.goto 17, 3) := by decide +kernel
theorem dX10_move_161 : decode cX10_move 161 = .ok (.aload_n 0, 1) := by decide +kernel
theorem dX10_move_162 : decode cX10_move 162 = .ok (.getfield 31, 3) := by decide +kernel
theorem dX10_move_165 : decode cX10_move 165 = .ok (.aload_n 0, 1) := by decide +kernel
theorem dX10_move_166 : decode cX10_move 166 = .ok (.getfield 46, 3) := by decide +kernel
theorem dX10_move_169 : decode cX10_move 169 = .ok (.iload_n 1, 1) := by decide +kernel
theorem dX10_move_170 : decode cX10_move 170 = .ok (.iaload, 1) := by decide +kernel
theorem dX10_move_171 : decode cX10_move 171 = .ok (.iaload, 1) := by decide +kernel
theorem dX10_move_172 : decode cX10_move 172 = .ok (.invokestatic 187, 3) := by decide +kernel
theorem dX10_move_175 : decode cX10_move 175 = .ok (.ireturn, 1) := by decide +kernel
theorem dX10_why_0 : decode cX10_why 0 = .ok (.aload_n 0, 1) := by decide +kernel
theorem dX10_why_1 : decode cX10_why 1 = .ok (.iload_n 1, 1) := by decide +kernel
theorem dX10_why_2 : decode cX10_why 2 = .ok (.invokevirtual 292, 3) := by decide +kernel
theorem dX10_why_5 : decode cX10_why 5 = .ok (.ifCond .eq 11, 3) := by decide +kernel
theorem dX10_why_8 : decode cX10_why 8 = .ok (.aload_n 0, 1) := by decide +kernel
theorem dX10_why_9 : decode cX10_why 9 = .ok (.iload_n 2, 1) := by decide +kernel
theorem dX10_why_10 : decode cX10_why 10 = .ok (.invokevirtual 292, 3) := by decide +kernel
theorem dX10_why_13 : decode cX10_why 13 = .ok (.ifCond .ne 6, 3) := by decide +kernel
theorem dX10_why_16 : decode cX10_why 16 = .ok (.bipush (-2), 2) := by decide +kernel
theorem dX10_why_18 : decode cX10_why 18 = .ok (.ireturn, 1) := by decide +kernel
theorem dX10_why_19 : decode cX10_why 19 = .ok (.aload_n 0, 1) := by decide +kernel
theorem dX10_why_20 : decode cX10_why 20 = .ok (.getfield 159, 3) := by decide +kernel
theorem dX10_why_23 : decode cX10_why 23 = .ok (.ifCond .ne 6, 3) := by decide +kernel
theorem dX10_why_26 : decode cX10_why 26 = .ok (.bipush (-3), 2) := by decide +kernel
theorem dX10_why_28 : decode cX10_why 28 = .ok (.ireturn, 1) := by decide +kernel
theorem dX10_why_29 : decode cX10_why 29 = .ok (.aload_n 0, 1) := by decide +kernel
theorem dX10_why_30 : decode cX10_why 30 = .ok (.getfield 37, 3) := by decide +kernel
theorem dX10_why_33 : decode cX10_why 33 = .ok (.iconst 0, 1) := by decide +kernel
theorem dX10_why_34 : decode cX10_why 34 = .ok (.iaload, 1) := by decide +kernel
theorem dX10_why_35 : decode cX10_why 35 = .ok (.istore 4, 2) := by decide +kernel
theorem dX10_why_37 : decode cX10_why 37 = .ok (.aload_n 0, 1) := by decide +kernel
theorem dX10_why_38 : decode cX10_why 38 = .ok (.getfield 31, 3) := by decide +kernel
theorem dX10_why_41 : decode cX10_why 41 = .ok (.iload_n 1, 1) := by decide +kernel
theorem dX10_why_42 : decode cX10_why 42 = .ok (.iaload, 1) := by decide +kernel
theorem dX10_why_43 : decode cX10_why 43 = .ok (.istore 5, 2) := by decide +kernel
theorem dX10_why_45 : decode cX10_why 45 = .ok (.iload 5, 2) := by decide +kernel
theorem dX10_why_47 : decode cX10_why 47 = .ok (.ifCond .eq 13, 3) := by decide +kernel
theorem dX10_why_50 : decode cX10_why 50 = .ok (.iload 5, 2) := by decide +kernel
theorem dX10_why_52 : decode cX10_why 52 = .ok (.invokestatic 193, 3) := by decide +kernel
theorem dX10_why_55 : decode cX10_why 55 = .ok (.iload 4, 2) := by decide +kernel
theorem dX10_why_57 : decode cX10_why 57 = .ok (.if_icmp .eq 5, 3) := by decide +kernel
theorem dX10_why_60 : decode cX10_why 60 = .ok (.iconst 1, 1) := by decide +kernel
theorem dX10_why_61 : decode cX10_why 61 = .ok (.ireturn, 1) := by decide +kernel
theorem dX10_why_62 : decode cX10_why 62 = .ok (.aload_n 0, 1) := by decide +kernel
theorem dX10_why_63 : decode cX10_why 63 = .ok (.iconst 0, 1) := by decide +kernel
theorem dX10_why_64 : decode cX10_why 64 = .ok (.iload_n 1, 1) := by decide +kernel
theorem dX10_why_65 : decode cX10_why 65 = .ok (.iload 5, 2) := by decide +kernel
theorem dX10_why_67 : decode cX10_why 67 = .ok (.invokevirtual 203, 3) := by decide +kernel
theorem dX10_why_70 : decode cX10_why 70 = .ok (.aload_n 0, 1) := by decide +kernel
theorem dX10_why_71 : decode cX10_why 71 = .ok (.getfield 73, 3) := by decide +kernel
theorem dX10_why_74 : decode cX10_why 74 = .ok (.iload_n 2, 1) := by decide +kernel
theorem dX10_why_75 : decode cX10_why 75 = .ok (.baload, 1) := by decide +kernel
theorem dX10_why_76 : decode cX10_why 76 = .ok (.ifCond .ne 5, 3) := by decide +kernel
theorem dX10_why_79 : decode cX10_why 79 = .ok (.iconst 2, 1) := by decide +kernel
theorem dX10_why_80 : decode cX10_why 80 = .ok (.ireturn, 1) := by decide +kernel
theorem dX10_why_81 : decode cX10_why 81 = .ok (.aload_n 0, 1) := by decide +kernel
theorem dX10_why_82 : decode cX10_why 82 = .ok (.getfield 31, 3) := by decide +kernel
theorem dX10_why_85 : decode cX10_why 85 = .ok (.iload_n 2, 1) := by decide +kernel
theorem dX10_why_86 : decode cX10_why 86 = .ok (.iaload, 1) := by decide +kernel
theorem dX10_why_87 : decode cX10_why 87 = .ok (.ifCond .eq 19, 3) := by decide +kernel
theorem dX10_why_90 : decode cX10_why 90 = .ok (.aload_n 0, 1) := by decide +kernel
theorem dX10_why_91 : decode cX10_why 91 = .ok (.getfield 31, 3) := by decide +kernel
theorem dX10_why_94 : decode cX10_why 94 = .ok (.iload_n 2, 1) := by decide +kernel
theorem dX10_why_95 : decode cX10_why 95 = .ok (.iaload, 1) := by decide +kernel
theorem dX10_why_96 : decode cX10_why 96 = .ok (.invokestatic 193, 3) := by decide +kernel
theorem dX10_why_99 : decode cX10_why 99 = .ok (.iload 4, 2) := by decide +kernel
theorem dX10_why_101 : decode cX10_why 101 = .ok (.if_icmp .ne 5, 3) := by decide +kernel
theorem dX10_why_104 : decode cX10_why 104 = .ok (.iconst 3, 1) := by decide +kernel
theorem dX10_why_105 : decode cX10_why 105 = .ok (.ireturn, 1) := by decide +kernel
theorem dX10_why_106 : decode cX10_why 106 = .ok (.iload_n 3, 1) := by decide +kernel
theorem dX10_why_107 : decode cX10_why 107 = .ok (.ifCond .eq 18, 3) := by decide +kernel
theorem dX10_why_110 : decode cX10_why 110 = .ok (.aload_n 0, 1) := by decide +kernel
theorem dX10_why_111 : decode cX10_why 111 = .ok (.iload 5, 2) := by decide +kernel
theorem dX10_why_113 : decode cX10_why 113 = .ok (.iload 4, 2) := by decide +kernel
theorem dX10_why_115 : decode cX10_why 115 = .ok (.iload_n 1, 1) := by decide +kernel
theorem dX10_why_116 : decode cX10_why 116 = .ok (.iload_n 2, 1) := by decide +kernel
theorem dX10_why_117 : decode cX10_why 117 = .ok (.invokevirtual 228, 3) := by decide +kernel
theorem dX10_why_120 : decode cX10_why 120 = .ok (.ifCond .ne 5, 3) := by decide +kernel
theorem dX10_why_123 : decode cX10_why 123 = .ok (.iconst 4, 1) := by decide +kernel
theorem dX10_why_124 : decode cX10_why 124 = .ok (.ireturn, 1) := by decide +kernel
theorem dX10_why_125 : decode cX10_why 125 = .ok (.iload_n 3, 1) := by decide +kernel
theorem dX10_why_126 : decode cX10_why 126 = .ok (.ifCond .ne 17, 3) := by decide +kernel
theorem dX10_why_129 : decode cX10_why 129 = .ok (.aload_n 0, 1) := by decide +kernel
theorem dX10_why_130 : decode cX10_why 130 = .ok (.iload 5, 2) := by decide +kernel
theorem dX10_why_132 : decode cX10_why 132 = .ok (.iload 4, 2) := by decide +kernel
theorem dX10_why_134 : decode cX10_why 134 = .ok (.iload_n 2, 1) := by decide +kernel
theorem dX10_why_135 : decode cX10_why 135 = .ok (.invokevirtual 221, 3) := by decide +kernel
theorem dX10_why_138 : decode cX10_why 138 = .ok (.ifCond .ne 5, 3) := by decide +kernel
theorem dX10_why_141 : decode cX10_why 141 = .ok (.iconst 5, 1) := by decide +kernel
theorem dX10_why_142 : decode cX10_why 142 = .ok (.ireturn, 1) := by decide +kernel
theorem dX10_why_143 : decode cX10_why 143 = .ok (.aload_n 0, 1) := by decide +kernel
theorem dX10_why_144 : decode cX10_why 144 = .ok (.iconst 0, 1) := by decide +kernel
theorem dX10_why_145 : decode cX10_why 145 = .ok (.iload_n 1, 1) := by decide +kernel
theorem dX10_why_146 : decode cX10_why 146 = .ok (.iload_n 2, 1) := by decide +kernel
theorem dX10_why_147 : decode cX10_why 147 = .ok (.iload_n 3, 1) := by decide +kernel
theorem dX10_why_148 : decode cX10_why 148 = .ok (.ifCond .eq 7, 3) := by decide +kernel
theorem dX10_why_151 : decode cX10_why 151 = .ok (.iconst 1, 1) := by decide +kernel
theorem dX10_why_152 : decode cX10_why 152 = .ok (.goto 4, 3) := by decide +kernel
theorem dX10_why_155 : decode cX10_why 155 = .ok (.iconst 0, 1) := by decide +kernel
theorem dX10_why_156 : decode cX10_why 156 = .ok (.iconst (-1), 1) := by decide +kernel
theorem dX10_why_157 : decode cX10_why 157 = .ok (.invokevirtual 238, 3) := by decide +kernel
theorem dX10_why_160 : decode cX10_why 160 = .ok (.aload_n 0, 1) := by decide +kernel
theorem dX10_why_161 : decode cX10_why 161 = .ok (.iconst 1, 1) := by decide +kernel
theorem dX10_why_162 : decode cX10_why 162 = .ok (.iload 4, 2) := by decide +kernel
theorem dX10_why_164 : decode cX10_why 164 = .ok (.invokevirtual 241, 3) := by decide +kernel
theorem dX10_why_167 : decode cX10_why 167 = .ok (.ifCond .eq 8, 3) := by decide +kernel
theorem dX10_why_170 : decode cX10_why 170 = .ok (.bipush 6, 2) := by decide +kernel
theorem dX10_why_172 : decode cX10_why 172 = .ok (.goto 4, 3) := by decide +kernel
theorem dX10_why_175 : decode cX10_why 175 = .ok (.iconst 0, 1) := by decide +kernel
theorem dX10_why_176 : decode cX10_why 176 = .ok (.ireturn, 1) := by decide +kernel
theorem dX10_whySet_0 : decode cX10_whySet 0 = .ok (.iload_n 1, 1) := by decide +kernel
theorem dX10_whySet_1 : decode cX10_whySet 1 = .ok (.i2l, 1) := by decide +kernel
theorem dX10_whySet_2 : decode cX10_whySet 2 = .ok (.lconst 1, 1) := by decide +kernel
theorem dX10_whySet_3 : decode cX10_whySet 3 = .ok (.ldc2_w 137, 3) := by decide +kernel
theorem dX10_whySet_6 : decode cX10_whySet 6 = .ok (.invokestatic 139, 3) := by decide +kernel
theorem dX10_whySet_9 : decode cX10_whySet 9 = .ok (.ifCond .eq 11, 3) := by decide +kernel
theorem dX10_whySet_12 : decode cX10_whySet 12 = .ok (.aload_n 0, 1) := by decide +kernel
theorem dX10_whySet_13 : decode cX10_whySet 13 = .ok (.iload_n 2, 1) := by decide +kernel
theorem dX10_whySet_14 : decode cX10_whySet 14 = .ok (.invokevirtual 292, 3) := by decide +kernel
theorem dX10_whySet_17 : decode cX10_whySet 17 = .ok (.ifCond .ne 6, 3) := by decide +kernel
theorem dX10_whySet_20 : decode cX10_whySet 20 = .ok (.bipush (-2), 2) := by decide +kernel
theorem dX10_whySet_22 : decode cX10_whySet 22 = .ok (.ireturn, 1) := by decide +kernel
theorem dX10_whySet_23 : decode cX10_whySet 23 = .ok (.aload_n 0, 1) := by decide +kernel
theorem dX10_whySet_24 : decode cX10_whySet 24 = .ok (.getfield 159, 3) := by decide +kernel
theorem dX10_whySet_27 : decode cX10_whySet 27 = .ok (.ifCond .ne 6, 3) := by decide +kernel
theorem dX10_whySet_30 : decode cX10_whySet 30 = .ok (.bipush (-3), 2) := by decide +kernel
theorem dX10_whySet_32 : decode cX10_whySet 32 = .ok (.ireturn, 1) := by decide +kernel
theorem dX10_whySet_33 : decode cX10_whySet 33 = .ok (.aload_n 0, 1) := by decide +kernel
theorem dX10_whySet_34 : decode cX10_whySet 34 = .ok (.getfield 37, 3) := by decide +kernel
theorem dX10_whySet_37 : decode cX10_whySet 37 = .ok (.iconst 0, 1) := by decide +kernel
theorem dX10_whySet_38 : decode cX10_whySet 38 = .ok (.iaload, 1) := by decide +kernel
theorem dX10_whySet_39 : decode cX10_whySet 39 = .ok (.istore_n 3, 1) := by decide +kernel
theorem dX10_whySet_40 : decode cX10_whySet 40 = .ok (.aload_n 0, 1) := by decide +kernel
theorem dX10_whySet_41 : decode cX10_whySet 41 = .ok (.getfield 34, 3) := by decide +kernel
theorem dX10_whySet_44 : decode cX10_whySet 44 = .ok (.bipush 8, 2) := by decide +kernel
theorem dX10_whySet_46 : decode cX10_whySet 46 = .ok (.iload_n 3, 1) := by decide +kernel
theorem dX10_whySet_47 : decode cX10_whySet 47 = .ok (.imul, 1) := by decide +kernel
theorem dX10_whySet_48 : decode cX10_whySet 48 = .ok (.iload_n 1, 1) := by decide +kernel
theorem dX10_whySet_49 : decode cX10_whySet 49 = .ok (.iadd, 1) := by decide +kernel
theorem dX10_whySet_50 : decode cX10_whySet 50 = .ok (.iaload, 1) := by decide +kernel
theorem dX10_whySet_51 : decode cX10_whySet 51 = .ok (.ifCond .ne 5, 3) := by decide +kernel
theorem dX10_whySet_54 : decode cX10_whySet 54 = .ok (.iconst 1, 1) := by decide +kernel
theorem dX10_whySet_55 : decode cX10_whySet 55 = .ok (.ireturn, 1) := by decide +kernel
theorem dX10_whySet_56 : decode cX10_whySet 56 = .ok (.aload_n 0, 1) := by decide +kernel
theorem dX10_whySet_57 : decode cX10_whySet 57 = .ok (.getfield 31, 3) := by decide +kernel
theorem dX10_whySet_60 : decode cX10_whySet 60 = .ok (.iload_n 2, 1) := by decide +kernel
theorem dX10_whySet_61 : decode cX10_whySet 61 = .ok (.iaload, 1) := by decide +kernel
theorem dX10_whySet_62 : decode cX10_whySet 62 = .ok (.ifCond .eq 5, 3) := by decide +kernel
theorem dX10_whySet_65 : decode cX10_whySet 65 = .ok (.iconst 2, 1) := by decide +kernel
theorem dX10_whySet_66 : decode cX10_whySet 66 = .ok (.ireturn, 1) := by decide +kernel
theorem dX10_whySet_67 : decode cX10_whySet 67 = .ok (.aload_n 0, 1) := by decide +kernel
theorem dX10_whySet_68 : decode cX10_whySet 68 = .ok (.iload_n 1, 1) := by decide +kernel
theorem dX10_whySet_69 : decode cX10_whySet 69 = .ok (.iload_n 3, 1) := by decide +kernel
theorem dX10_whySet_70 : decode cX10_whySet 70 = .ok (.iload_n 2, 1) := by decide +kernel
theorem dX10_whySet_71 : decode cX10_whySet 71 = .ok (.invokevirtual 218, 3) := by decide +kernel
theorem dX10_whySet_74 : decode cX10_whySet 74 = .ok (.ifCond .ne 5, 3) := by decide +kernel
theorem dX10_whySet_77 : decode cX10_whySet 77 = .ok (.iconst 3, 1) := by decide +kernel
theorem dX10_whySet_78 : decode cX10_whySet 78 = .ok (.ireturn, 1) := by decide +kernel
theorem dX10_whySet_79 : decode cX10_whySet 79 = .ok (.aload_n 0, 1) := by decide +kernel
theorem dX10_whySet_80 : decode cX10_whySet 80 = .ok (.getfield 16, 3) := by decide +kernel
theorem dX10_whySet_83 : decode cX10_whySet 83 = .ok (.iload_n 1, 1) := by decide +kernel
theorem dX10_whySet_84 : decode cX10_whySet 84 = .ok (.iaload, 1) := by decide +kernel
theorem dX10_whySet_85 : decode cX10_whySet 85 = .ok (.iconst 1, 1) := by decide +kernel
theorem dX10_whySet_86 : decode cX10_whySet 86 = .ok (.iand, 1) := by decide +kernel
theorem dX10_whySet_87 : decode cX10_whySet 87 = .ok (.ifCond .eq 16, 3) := by decide +kernel
theorem dX10_whySet_90 : decode cX10_whySet 90 = .ok (.aload_n 0, 1) := by decide +kernel
theorem dX10_whySet_91 : decode cX10_whySet 91 = .ok (.iconst 0, 1) := by decide +kernel
theorem dX10_whySet_92 : decode cX10_whySet 92 = .ok (.iload_n 3, 1) := by decide +kernel
theorem dX10_whySet_93 : decode cX10_whySet 93 = .ok (.iload_n 1, 1) := by decide +kernel
theorem dX10_whySet_94 : decode cX10_whySet 94 = .ok (.iload_n 2, 1) := by decide +kernel
theorem dX10_whySet_95 : decode cX10_whySet 95 = .ok (.invokevirtual 232, 3) := by decide +kernel
theorem dX10_whySet_98 : decode cX10_whySet 98 = .ok (.ifCond .eq 5, 3) := by decide +kernel
theorem dX10_whySet_101 : decode cX10_whySet 101 = .ok (.iconst 4, 1) := by decide +kernel
theorem dX10_whySet_102 : decode cX10_whySet 102 = .ok (.ireturn, 1) := by decide +kernel
theorem dX10_whySet_103 : decode cX10_whySet 103 = .ok (.aload_n 0, 1) := by decide +kernel
theorem dX10_whySet_104 : decode cX10_whySet 104 = .ok (.iconst 0, 1) := by decide +kernel
theorem dX10_whySet_105 : decode cX10_whySet 105 = .ok (.iconst (-1), 1) := by decide +kernel
theorem dX10_whySet_106 : decode cX10_whySet 106 = .ok (.iload_n 2, 1) := by decide +kernel
theorem dX10_whySet_107 : decode cX10_whySet 107 = .ok (.iconst 0, 1) := by decide +kernel
theorem dX10_whySet_108 : decode cX10_whySet 108 = .ok (.iload_n 1, 1) := by decide +kernel
theorem dX10_whySet_109 : decode cX10_whySet 109 = .ok (.invokevirtual 238, 3) := by decide +kernel
theorem dX10_whySet_112 : decode cX10_whySet 112 = .ok (.aload_n 0, 1) := by decide +kernel
theorem dX10_whySet_113 : decode cX10_whySet 113 = .ok (.iconst 1, 1) := by decide +kernel
theorem dX10_whySet_114 : decode cX10_whySet 114 = .ok (.iload_n 3, 1) := by decide +kernel
theorem dX10_whySet_115 : decode cX10_whySet 115 = .ok (.invokevirtual 241, 3) := by decide +kernel
theorem dX10_whySet_118 : decode cX10_whySet 118 = .ok (.ifCond .eq 5, 3) := by decide +kernel
theorem dX10_whySet_121 : decode cX10_whySet 121 = .ok (.iconst 5, 1) := by decide +kernel
theorem dX10_whySet_122 : decode cX10_whySet 122 = .ok (.ireturn, 1) := by decide +kernel
theorem dX10_whySet_123 : decode cX10_whySet 123 = .ok (.aload_n 0, 1) := by decide +kernel
theorem dX10_whySet_124 : decode cX10_whySet 124 = .ok (.getfield 16, 3) := by decide +kernel
theorem dX10_whySet_127 : decode cX10_whySet 127 = .ok (.iload_n 1, 1) := by decide +kernel
theorem dX10_whySet_128 : decode cX10_whySet 128 = .ok (.iaload, 1) := by decide +kernel
theorem dX10_whySet_129 : decode cX10_whySet 129 = .ok (.iconst 2, 1) := by decide +kernel
theorem dX10_whySet_130 : decode cX10_whySet 130 = .ok (.iand, 1) := by decide +kernel
theorem dX10_whySet_131 : decode cX10_whySet 131 = .ok (.ifCond .eq 16, 3) := by decide +kernel
theorem dX10_whySet_134 : decode cX10_whySet 134 = .ok (.aload_n 0, 1) := by decide +kernel
theorem dX10_whySet_135 : decode cX10_whySet 135 = .ok (.iconst 1, 1) := by decide +kernel
theorem dX10_whySet_136 : decode cX10_whySet 136 = .ok (.invokevirtual 247, 3) := by decide +kernel
theorem dX10_whySet_139 : decode cX10_whySet 139 = .ok (.ifCond .eq 8, 3) := by decide +kernel
theorem dX10_whySet_142 : decode cX10_whySet 142 = .ok (.bipush 6, 2) := by decide +kernel
theorem dX10_whySet_144 : decode cX10_whySet 144 = .ok (.goto 4, 3) := by decide +kernel
theorem dX10_whySet_147 : decode cX10_whySet 147 = .ok (.iconst 0, 1) := by decide +kernel
theorem dX10_whySet_148 : decode cX10_whySet 148 = .ok (.ireturn, 1) := by decide +kernel
theorem dX10_rows_0 : decode cX10_rows 0 = .ok (.iload_n 1, 1) := by decide +kernel
theorem dX10_rows_1 : decode cX10_rows 1 = .ok (.i2l, 1) := by decide +kernel
theorem dX10_rows_2 : decode cX10_rows 2 = .ok (.lconst 1, 1) := by decide +kernel
theorem dX10_rows_3 : decode cX10_rows 3 = .ok (.ldc2_w 157, 3) := by decide +kernel
theorem dX10_rows_6 : decode cX10_rows 6 = .ok (.invokestatic 139, 3) := by decide +kernel
theorem dX10_rows_9 : decode cX10_rows 9 = .ok (.ifCond .ne 6, 3) := by decide +kernel
theorem dX10_rows_12 : decode cX10_rows 12 = .ok (.bipush (-2), 2) := by decide +kernel
theorem dX10_rows_14 : decode cX10_rows 14 = .ok (.ireturn, 1) := by decide +kernel
theorem dX10_rows_15 : decode cX10_rows 15 = .ok (.aload_n 0, 1) := by decide +kernel
theorem dX10_rows_16 : decode cX10_rows 16 = .ok (.getfield 159, 3) := by decide +kernel
theorem dX10_rows_19 : decode cX10_rows 19 = .ok (.ifCond .ne 6, 3) := by decide +kernel
theorem dX10_rows_22 : decode cX10_rows 22 = .ok (.bipush (-3), 2) := by decide +kernel
theorem dX10_rows_24 : decode cX10_rows 24 = .ok (.ireturn, 1) := by decide +kernel
theorem dX10_rows_25 : decode cX10_rows 25 = .ok (.iconst 0, 1) := by decide +kernel
theorem dX10_rows_26 : decode cX10_rows 26 = .ok (.istore_n 2, 1) := by decide +kernel
theorem dX10_rows_27 : decode cX10_rows 27 = .ok (.aload_n 0, 1) := by decide +kernel
theorem dX10_rows_28 : decode cX10_rows 28 = .ok (.iconst 0, 1) := by decide +kernel
theorem dX10_rows_29 : decode cX10_rows 29 = .ok (.invokevirtual 255, 3) := by decide +kernel
theorem dX10_rows_32 : decode cX10_rows 32 = .ok (.iload_n 1, 1) := by decide +kernel
theorem dX10_rows_33 : decode cX10_rows 33 = .ok (.iconst 1, 1) := by decide +kernel
theorem dX10_rows_34 : decode cX10_rows 34 = .ok (.if_icmp .ne 27, 3) := by decide +kernel
theorem dX10_rows_37 : decode cX10_rows 37 = .ok (.aload_n 0, 1) := by decide +kernel
theorem dX10_rows_38 : decode cX10_rows 38 = .ok (.getfield 40, 3) := by decide +kernel
theorem dX10_rows_41 : decode cX10_rows 41 = .ok (.iconst 0, 1) := by decide +kernel
theorem dX10_rows_42 : decode cX10_rows 42 = .ok (.iaload, 1) := by decide +kernel
theorem dX10_rows_43 : decode cX10_rows 43 = .ok (.sipush 20000, 3) := by decide +kernel
theorem dX10_rows_46 : decode cX10_rows 46 = .ok (.if_icmp .le 8, 3) := by decide +kernel
theorem dX10_rows_49 : decode cX10_rows 49 = .ok (.bipush (-5), 2) := by decide +kernel
theorem dX10_rows_51 : decode cX10_rows 51 = .ok (.goto 9, 3) := by decide +kernel
theorem dX10_rows_54 : decode cX10_rows 54 = .ok (.aload_n 0, 1) := by decide +kernel
theorem dX10_rows_55 : decode cX10_rows 55 = .ok (.getfield 40, 3) := by decide +kernel
theorem dX10_rows_58 : decode cX10_rows 58 = .ok (.iconst 0, 1) := by decide +kernel
theorem dX10_rows_59 : decode cX10_rows 59 = .ok (.iaload, 1) := by decide +kernel
theorem dX10_rows_60 : decode cX10_rows 60 = .ok (.ireturn, 1) := by decide +kernel
theorem dX10_rows_61 : decode cX10_rows 61 = .ok (.iconst 0, 1) := by decide +kernel
theorem dX10_rows_62 : decode cX10_rows 62 = .ok (.istore_n 3, 1) := by decide +kernel
theorem dX10_rows_63 : decode cX10_rows 63 = .ok (.iload_n 3, 1) := by decide +kernel
theorem dX10_rows_64 : decode cX10_rows 64 = .ok (.aload_n 0, 1) := by decide +kernel
theorem dX10_rows_65 : decode cX10_rows 65 = .ok (.getfield 40, 3) := by decide +kernel
theorem dX10_rows_68 : decode cX10_rows 68 = .ok (.iconst 0, 1) := by decide +kernel
theorem dX10_rows_69 : decode cX10_rows 69 = .ok (.iaload, 1) := by decide +kernel
theorem dX10_rows_70 : decode cX10_rows 70 = .ok (.if_icmp .ge 100, 3) := by decide +kernel
theorem dX10_rows_73 : decode cX10_rows 73 = .ok (.aload_n 0, 1) := by decide +kernel
theorem dX10_rows_74 : decode cX10_rows 74 = .ok (.iconst 0, 1) := by decide +kernel
theorem dX10_rows_75 : decode cX10_rows 75 = .ok (.iload_n 3, 1) := by decide +kernel
theorem dX10_rows_76 : decode cX10_rows 76 = .ok (.invokevirtual 297, 3) := by decide +kernel
theorem dX10_rows_79 : decode cX10_rows 79 = .ok (.aload_n 0, 1) := by decide +kernel
theorem dX10_rows_80 : decode cX10_rows 80 = .ok (.iconst 1, 1) := by decide +kernel
theorem dX10_rows_81 : decode cX10_rows 81 = .ok (.invokevirtual 255, 3) := by decide +kernel
theorem dX10_rows_84 : decode cX10_rows 84 = .ok (.iload_n 1, 1) := by decide +kernel
theorem dX10_rows_85 : decode cX10_rows 85 = .ok (.iconst 2, 1) := by decide +kernel
theorem dX10_rows_86 : decode cX10_rows 86 = .ok (.if_icmp .ne 12, 3) := by decide +kernel
theorem dX10_rows_89 : decode cX10_rows 89 = .ok (.iload_n 2, 1) := by decide +kernel
theorem dX10_rows_90 : decode cX10_rows 90 = .ok (.aload_n 0, 1) := by decide +kernel
theorem dX10_rows_91 : decode cX10_rows 91 = .ok (.getfield 40, 3) := by decide +kernel
theorem dX10_rows_94 : decode cX10_rows 94 = .ok (.iconst 1, 1) := by decide +kernel
theorem dX10_rows_95 : decode cX10_rows 95 = .ok (.iaload, 1) := by decide +kernel
theorem dX10_rows_96 : decode cX10_rows 96 = .ok (.iadd, 1) := by decide +kernel
theorem dX10_rows_97 : decode cX10_rows 97 = .ok (.istore_n 2, 1) := by decide +kernel
theorem dX10_rows_98 : decode cX10_rows 98 = .ok (.iconst 0, 1) := by decide +kernel
theorem dX10_rows_99 : decode cX10_rows 99 = .ok (.istore 4, 2) := by decide +kernel
theorem dX10_rows_101 : decode cX10_rows 101 = .ok (.iload 4, 2) := by decide +kernel
theorem dX10_rows_103 : decode cX10_rows 103 = .ok (.aload_n 0, 1) := by decide +kernel
theorem dX10_rows_104 : decode cX10_rows 104 = .ok (.getfield 40, 3) := by decide +kernel
theorem dX10_rows_107 : decode cX10_rows 107 = .ok (.iconst 1, 1) := by decide +kernel
theorem dX10_rows_108 : decode cX10_rows 108 = .ok (.iaload, 1) := by decide +kernel
theorem dX10_rows_109 : decode cX10_rows 109 = .ok (.if_icmp .ge 45, 3) := by decide +kernel
theorem dX10_rows_112 : decode cX10_rows 112 = .ok (.iload_n 1, 1) := by decide +kernel
theorem dX10_rows_113 : decode cX10_rows 113 = .ok (.iconst 3, 1) := by decide +kernel
theorem dX10_rows_114 : decode cX10_rows 114 = .ok (.if_icmp .ne 40, 3) := by decide +kernel
theorem dX10_rows_117 : decode cX10_rows 117 = .ok (.aload_n 0, 1) := by decide +kernel
theorem dX10_rows_118 : decode cX10_rows 118 = .ok (.iconst 1, 1) := by decide +kernel
theorem dX10_rows_119 : decode cX10_rows 119 = .ok (.iload 4, 2) := by decide +kernel
theorem dX10_rows_121 : decode cX10_rows 121 = .ok (.invokevirtual 297, 3) := by decide +kernel
theorem dX10_rows_124 : decode cX10_rows 124 = .ok (.aload_n 0, 1) := by decide +kernel
theorem dX10_rows_125 : decode cX10_rows 125 = .ok (.iconst 2, 1) := by decide +kernel
theorem dX10_rows_126 : decode cX10_rows 126 = .ok (.invokevirtual 255, 3) := by decide +kernel
theorem dX10_rows_129 : decode cX10_rows 129 = .ok (.iload_n 2, 1) := by decide +kernel
theorem dX10_rows_130 : decode cX10_rows 130 = .ok (.aload_n 0, 1) := by decide +kernel
theorem dX10_rows_131 : decode cX10_rows 131 = .ok (.getfield 40, 3) := by decide +kernel
theorem dX10_rows_134 : decode cX10_rows 134 = .ok (.iconst 2, 1) := by decide +kernel
theorem dX10_rows_135 : decode cX10_rows 135 = .ok (.iaload, 1) := by decide +kernel
theorem dX10_rows_136 : decode cX10_rows 136 = .ok (.iadd, 1) := by decide +kernel
theorem dX10_rows_137 : decode cX10_rows 137 = .ok (.istore_n 2, 1) := by decide +kernel
theorem dX10_rows_138 : decode cX10_rows 138 = .ok (.iload_n 2, 1) := by decide +kernel
theorem dX10_rows_139 : decode cX10_rows 139 = .ok (.sipush 20000, 3) := by decide +kernel
theorem dX10_rows_142 : decode cX10_rows 142 = .ok (.if_icmp .le 6, 3) := by decide +kernel
theorem dX10_rows_145 : decode cX10_rows 145 = .ok (.bipush (-5), 2) := by decide +kernel
theorem dX10_rows_147 : decode cX10_rows 147 = .ok (.ireturn, 1) := by decide +kernel
theorem dX10_rows_148 : decode cX10_rows 148 = .ok (.iinc 4 1, 3) := by decide +kernel
theorem dX10_rows_151 : decode cX10_rows 151 = .ok (.goto (-50), 3) := by decide +kernel
theorem dX10_rows_154 : decode cX10_rows 154 = .ok (.iload_n 2, 1) := by decide +kernel
theorem dX10_rows_155 : decode cX10_rows 155 = .ok (.sipush 20000, 3) := by decide +kernel
theorem dX10_rows_158 : decode cX10_rows 158 = .ok (.if_icmp .le 6, 3) := by decide +kernel
theorem dX10_rows_161 : decode cX10_rows 161 = .ok (.bipush (-5), 2) := by decide +kernel
theorem dX10_rows_163 : decode cX10_rows 163 = .ok (.ireturn, 1) := by decide +kernel
theorem dX10_rows_164 : decode cX10_rows 164 = .ok (.iinc 3 1, 3) := by decide +kernel
theorem dX10_rows_167 : decode cX10_rows 167 = .ok (.goto (-104), 3) := by decide +kernel
theorem dX10_rows_170 : decode cX10_rows 170 = .ok (.iload_n 2, 1) := by decide +kernel
theorem dX10_rows_171 : decode cX10_rows 171 = .ok (.ireturn, 1) := by decide +kernel
theorem dX10_doMove_0 : decode cX10_doMove 0 = .ok (.sipush 300, 3) := by decide +kernel
theorem dX10_doMove_3 : decode cX10_doMove 3 = .ok (.iload_n 1, 1) := by decide +kernel
theorem dX10_doMove_4 : decode cX10_doMove 4 = .ok (.imul, 1) := by decide +kernel
theorem dX10_doMove_5 : decode cX10_doMove 5 = .ok (.iload_n 2, 1) := by decide +kernel
theorem dX10_doMove_6 : decode cX10_doMove 6 = .ok (.iadd, 1) := by decide +kernel
theorem dX10_doMove_7 : decode cX10_doMove 7 = .ok (.istore 4, 2) := by decide +kernel
theorem dX10_doMove_9 : decode cX10_doMove 9 = .ok (.aload_n 0, 1) := by decide +kernel
