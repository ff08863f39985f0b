theorem dX6_reach_173 : decode cX6_reach 173 = .ok (.istore 9, 2) := by decide +kernel
theorem dX6_reach_175 : decode cX6_reach 175 = .ok (.iconst 1, 1) := by decide +kernel
theorem dX6_reach_176 : decode cX6_reach 176 = .ok (.istore 10, 2) := by decide +kernel
theorem dX6_reach_178 : decode cX6_reach 178 = .ok (.iload 10, 2) := by decide +kernel
theorem dX6_reach_180 : decode cX6_reach 180 = .ok (.aload_n 0, 1) := by decide +kernel
theorem dX6_reach_181 : decode cX6_reach 181 = .ok (.getfield 28, 3) := by decide +kernel
theorem dX6_reach_184 : decode cX6_reach 184 = .ok (.if_icmp .ge 73, 3) := by decide +kernel
theorem dX6_reach_187 : decode cX6_reach 187 = .ok (.aload_n 0, 1) := by decide +kernel
theorem dX6_reach_188 : decode cX6_reach 188 = .ok (.getfield 18, 3) := by decide +kernel
theorem dX6_reach_191 : decode cX6_reach 191 = .ok (.getfield 85, 3) := by decide +kernel
theorem dX6_reach_194 : decode cX6_reach 194 = .ok (.iload 8, 2) := by decide +kernel
theorem dX6_reach_196 : decode cX6_reach 196 = .ok (.iload 9, 2) := by decide +kernel
theorem dX6_reach_198 : decode cX6_reach 198 = .ok (.iadd, 1) := by decide +kernel
theorem dX6_reach_199 : decode cX6_reach 199 = .ok (.iaload, 1) := by decide +kernel
theorem dX6_reach_200 : decode cX6_reach 200 = .ok (.istore 9, 2) := by decide +kernel
theorem dX6_reach_202 : decode cX6_reach 202 = .ok (.iload 9, 2) := by decide +kernel
theorem dX6_reach_204 : decode cX6_reach 204 = .ok (.ifCond .ge 6, 3) := by decide +kernel
theorem dX6_reach_207 : decode cX6_reach 207 = .ok (.goto 50, 3) := by decide +kernel
theorem dX6_reach_210 : decode cX6_reach 210 = .ok (.iload 10, 2) := by decide +kernel
theorem dX6_reach_212 : decode cX6_reach 212 = .ok (.iconst 1, 1) := by decide +kernel
theorem dX6_reach_213 : decode cX6_reach 213 = .ok (.if_icmp .gt 13, 3) := by decide +kernel
theorem dX6_reach_216 : decode cX6_reach 216 = .ok (.iload 4, 2) := by decide +kernel
theorem dX6_reach_218 : decode cX6_reach 218 = .ok (.iload 7, 2) := by decide +kernel
theorem dX6_reach_220 : decode cX6_reach 220 = .ok (.ishr, 1) := by decide +kernel
theorem dX6_reach_221 : decode cX6_reach 221 = .ok (.iconst 1, 1) := by decide +kernel
theorem dX6_reach_222 : decode cX6_reach 222 = .ok (.iand, 1) := by decide +kernel
theorem dX6_reach_223 : decode cX6_reach 223 = .ok (.ifCond .ne 15, 3) := by decide +kernel
theorem dX6_reach_226 : decode cX6_reach 226 = .ok (.aload_n 0, 1) := by decide +kernel
theorem dX6_reach_227 : decode cX6_reach 227 = .ok (.getfield 36, 3) := by decide +kernel
theorem dX6_reach_230 : decode cX6_reach 230 = .ok (.iload 6, 2) := by decide +kernel
theorem dX6_reach_232 : decode cX6_reach 232 = .ok (.iinc 6 1, 3) := by decide +kernel
theorem dX6_reach_235 : decode cX6_reach 235 = .ok (.iload 9, 2) := by decide +kernel
theorem dX6_reach_237 : decode cX6_reach 237 = .ok (.iastore, 1) := by decide +kernel
theorem dX6_reach_238 : decode cX6_reach 238 = .ok (.aload_n 0, 1) := by decide +kernel
theorem dX6_reach_239 : decode cX6_reach 239 = .ok (.getfield 33, 3) := by decide +kernel
theorem dX6_reach_242 : decode cX6_reach 242 = .ok (.iload 9, 2) := by decide +kernel
theorem dX6_reach_244 : decode cX6_reach 244 = .ok (.iaload, 1) := by decide +kernel
theorem dX6_reach_245 : decode cX6_reach 245 = .ok (.ifCond .eq 6, 3) := by decide +kernel
theorem dX6_reach_248 : decode cX6_reach 248 = .ok (.goto 9, 3) := by decide +kernel
theorem dX6_reach_251 : decode cX6_reach 251 = .ok (.iinc 10 1, 3) := by decide +kernel
theorem dX6_reach_254 : decode cX6_reach 254 = .ok (.goto (-76), 3) := by decide +kernel
theorem dX6_reach_257 : decode cX6_reach 257 = .ok (.iinc 7 1, 3) := by decide +kernel
theorem dX6_reach_260 : decode cX6_reach 260 = .ok (.goto (-130), 3) := by decide +kernel
theorem dX6_reach_263 : decode cX6_reach 263 = .ok (.iload 6, 2) := by decide +kernel
theorem dX6_reach_265 : decode cX6_reach 265 = .ok (.ireturn, 1) := by decide +kernel
theorem dX7_init_0 : decode cX7_init 0 = .ok (.aload_n 0, 1) := by decide +kernel
theorem dX7_init_1 : decode cX7_init 1 = .ok (.invokespecial 3, 3) := by decide +kernel
theorem dX7_init_4 : decode cX7_init 4 = .ok (.aload_n 0, 1) := by decide +kernel
theorem dX7_init_5 : decode cX7_init 5 = .ok (.sipush 2000, 3) := by decide +kernel
theorem dX7_init_8 : decode cX7_init 8 = .ok (.newarray .int, 2) := by decide +kernel
theorem dX7_init_10 : decode cX7_init 10 = .ok (.putfield 11, 3) := by decide +kernel
theorem dX7_init_13 : decode cX7_init 13 = .ok (.aload_n 0, 1) := by decide +kernel
theorem dX7_init_14 : decode cX7_init 14 = .ok (.iload_n 1, 1) := by decide +kernel
theorem dX7_init_15 : decode cX7_init 15 = .ok (.putfield 15, 3) := by decide +kernel
theorem dX7_init_18 : decode cX7_init 18 = .ok (.return_, 1) := by decide +kernel
theorem dX7_add_0 : decode cX7_add 0 = .ok (.aload_n 0, 1) := by decide +kernel
theorem dX7_add_1 : decode cX7_add 1 = .ok (.getfield 19, 3) := by decide +kernel
theorem dX7_add_4 : decode cX7_add 4 = .ok (.sipush 2000, 3) := by decide +kernel
theorem dX7_add_7 : decode cX7_add 7 = .ok (.if_icmp .ge 20, 3) := by decide +kernel
theorem dX7_add_10 : decode cX7_add 10 = .ok (.aload_n 0, 1) := by decide +kernel
theorem dX7_add_11 : decode cX7_add 11 = .ok (.getfield 11, 3) := by decide +kernel
theorem dX7_add_14 : decode cX7_add 14 = .ok (.aload_n 0, 1) := by decide +kernel
theorem dX7_add_15 : decode cX7_add 15 = .ok (.dup, 1) := by decide +kernel
theorem dX7_add_16 : decode cX7_add 16 = .ok (.getfield 19, 3) := by decide +kernel
theorem dX7_add_19 : decode cX7_add 19 = .ok (.dup_x1, 1) := by decide +kernel
theorem dX7_add_20 : decode cX7_add 20 = .ok (.iconst 1, 1) := by decide +kernel
theorem dX7_add_21 : decode cX7_add 21 = .ok (.iadd, 1) := by decide +kernel
theorem dX7_add_22 : decode cX7_add 22 = .ok (.putfield 19, 3) := by decide +kernel
theorem dX7_add_25 : decode cX7_add 25 = .ok (.iload_n 1, 1) := by decide +kernel
theorem dX7_add_26 : decode cX7_add 26 = .ok (.iastore, 1) := by decide +kernel
theorem dX7_add_27 : decode cX7_add 27 = .ok (.return_, 1) := by decide +kernel
theorem dX7_setDown_0 : decode cX7_setDown 0 = .ok (.aload_n 0, 1) := by decide +kernel
theorem dX7_setDown_1 : decode cX7_setDown 1 = .ok (.iconst 0, 1) := by decide +kernel
theorem dX7_setDown_2 : decode cX7_setDown 2 = .ok (.putfield 19, 3) := by decide +kernel
theorem dX7_setDown_5 : decode cX7_setDown 5 = .ok (.iconst 0, 1) := by decide +kernel
theorem dX7_setDown_6 : decode cX7_setDown 6 = .ok (.istore_n 2, 1) := by decide +kernel
theorem dX7_setDown_7 : decode cX7_setDown 7 = .ok (.iload_n 2, 1) := by decide +kernel
theorem dX7_setDown_8 : decode cX7_setDown 8 = .ok (.aload_n 1, 1) := by decide +kernel
theorem dX7_setDown_9 : decode cX7_setDown 9 = .ok (.getfield 22, 3) := by decide +kernel
theorem dX7_setDown_12 : decode cX7_setDown 12 = .ok (.if_icmp .ge 28, 3) := by decide +kernel
theorem dX7_setDown_15 : decode cX7_setDown 15 = .ok (.iload_n 2, 1) := by decide +kernel
theorem dX7_setDown_16 : decode cX7_setDown 16 = .ok (.ifCond .le 9, 3) := by decide +kernel
theorem dX7_setDown_19 : decode cX7_setDown 19 = .ok (.aload_n 0, 1) := by decide +kernel
theorem dX7_setDown_20 : decode cX7_setDown 20 = .ok (.bipush 32, 2) := by decide +kernel
theorem dX7_setDown_22 : decode cX7_setDown 22 = .ok (.invokevirtual 27, 3) := by decide +kernel
theorem dX7_setDown_25 : decode cX7_setDown 25 = .ok (.aload_n 0, 1) := by decide +kernel
theorem dX7_setDown_26 : decode cX7_setDown 26 = .ok (.aload_n 1, 1) := by decide +kernel
theorem dX7_setDown_27 : decode cX7_setDown 27 = .ok (.iload_n 2, 1) := by decide +kernel
theorem dX7_setDown_28 : decode cX7_setDown 28 = .ok (.invokevirtual 31, 3) := by decide +kernel
theorem dX7_setDown_31 : decode cX7_setDown 31 = .ok (.invokevirtual 35, 3) := by decide +kernel
theorem dX7_setDown_34 : decode cX7_setDown 34 = .ok (.iinc 2 1, 3) := by decide +kernel
theorem dX7_setDown_37 : decode cX7_setDown 37 = .ok (.goto (-30), 3) := by decide +kernel
theorem dX7_setDown_40 : decode cX7_setDown 40 = .ok (.return_, 1) := by decide +kernel
theorem dX7_addMove_0 : decode cX7_addMove 0 = .ok (.iload_n 1, 1) := by decide +kernel
theorem dX7_addMove_1 : decode cX7_addMove 1 = .ok (.invokestatic 38, 3) := by decide +kernel
theorem dX7_addMove_4 : decode cX7_addMove 4 = .ok (.ifCond .eq 23, 3) := by decide +kernel
theorem dX7_addMove_7 : decode cX7_addMove 7 = .ok (.aload_n 0, 1) := by decide +kernel
theorem dX7_addMove_8 : decode cX7_addMove 8 = .ok (.bipush 48, 2) := by decide +kernel
theorem dX7_addMove_10 : decode cX7_addMove 10 = .ok (.iload_n 1, 1) := by decide +kernel
theorem dX7_addMove_11 : decode cX7_addMove 11 = .ok (.invokestatic 44, 3) := by decide +kernel
theorem dX7_addMove_14 : decode cX7_addMove 14 = .ok (.iadd, 1) := by decide +kernel
theorem dX7_addMove_15 : decode cX7_addMove 15 = .ok (.invokevirtual 27, 3) := by decide +kernel
theorem dX7_addMove_18 : decode cX7_addMove 18 = .ok (.aload_n 0, 1) := by decide +kernel
theorem dX7_addMove_19 : decode cX7_addMove 19 = .ok (.bipush 42, 2) := by decide +kernel
theorem dX7_addMove_21 : decode cX7_addMove 21 = .ok (.invokevirtual 27, 3) := by decide +kernel
theorem dX7_addMove_24 : decode cX7_addMove 24 = .ok (.goto 11, 3) := by decide +kernel
theorem dX7_addMove_27 : decode cX7_addMove 27 = .ok (.aload_n 0, 1) := by decide +kernel
theorem dX7_addMove_28 : decode cX7_addMove 28 = .ok (.iload_n 1, 1) := by decide +kernel
theorem dX7_addMove_29 : decode cX7_addMove 29 = .ok (.invokestatic 47, 3) := by decide +kernel
theorem dX7_addMove_32 : decode cX7_addMove 32 = .ok (.invokevirtual 50, 3) := by decide +kernel
theorem dX7_addMove_35 : decode cX7_addMove 35 = .ok (.aload_n 0, 1) := by decide +kernel
theorem dX7_addMove_36 : decode cX7_addMove 36 = .ok (.iload_n 1, 1) := by decide +kernel
theorem dX7_addMove_37 : decode cX7_addMove 37 = .ok (.invokestatic 53, 3) := by decide +kernel
theorem dX7_addMove_40 : decode cX7_addMove 40 = .ok (.invokevirtual 50, 3) := by decide +kernel
theorem dX7_addMove_43 : decode cX7_addMove 43 = .ok (.iload_n 1, 1) := by decide +kernel
theorem dX7_addMove_44 : decode cX7_addMove 44 = .ok (.invokestatic 56, 3) := by decide +kernel
theorem dX7_addMove_47 : decode cX7_addMove 47 = .ok (.ifCond .eq 9, 3) := by decide +kernel
theorem dX7_addMove_50 : decode cX7_addMove 50 = .ok (.aload_n 0, 1) := by decide +kernel
theorem dX7_addMove_51 : decode cX7_addMove 51 = .ok (.bipush 43, 2) := by decide +kernel
theorem dX7_addMove_53 : decode cX7_addMove 53 = .ok (.invokevirtual 27, 3) := by decide +kernel
theorem dX7_addMove_56 : decode cX7_addMove 56 = .ok (.return_, 1) := by decide +kernel
theorem dX7_addField_0 : decode cX7_addField 0 = .ok (.aload_n 0, 1) := by decide +kernel
theorem dX7_addField_1 : decode cX7_addField 1 = .ok (.bipush 97, 2) := by decide +kernel
theorem dX7_addField_3 : decode cX7_addField 3 = .ok (.iload_n 1, 1) := by decide +kernel
theorem dX7_addField_4 : decode cX7_addField 4 = .ok (.aload_n 0, 1) := by decide +kernel
theorem dX7_addField_5 : decode cX7_addField 5 = .ok (.getfield 15, 3) := by decide +kernel
theorem dX7_addField_8 : decode cX7_addField 8 = .ok (.irem, 1) := by decide +kernel
theorem dX7_addField_9 : decode cX7_addField 9 = .ok (.iadd, 1) := by decide +kernel
theorem dX7_addField_10 : decode cX7_addField 10 = .ok (.invokevirtual 27, 3) := by decide +kernel
theorem dX7_addField_13 : decode cX7_addField 13 = .ok (.aload_n 0, 1) := by decide +kernel
theorem dX7_addField_14 : decode cX7_addField 14 = .ok (.bipush 49, 2) := by decide +kernel
theorem dX7_addField_16 : decode cX7_addField 16 = .ok (.iload_n 1, 1) := by decide +kernel
theorem dX7_addField_17 : decode cX7_addField 17 = .ok (.aload_n 0, 1) := by decide +kernel
theorem dX7_addField_18 : decode cX7_addField 18 = .ok (.getfield 15, 3) := by decide +kernel
theorem dX7_addField_21 : decode cX7_addField 21 = .ok (.idiv, 1) := by decide +kernel
theorem dX7_addField_22 : decode cX7_addField 22 = .ok (.iadd, 1) := by decide +kernel
theorem dX7_addField_23 : decode cX7_addField 23 = .ok (.invokevirtual 27, 3) := by decide +kernel
theorem dX7_addField_26 : decode cX7_addField 26 = .ok (.return_, 1) := by decide +kernel
theorem dX7_moveBetween_0 : decode cX7_moveBetween 0 = .ok (.iload_n 2, 1) := by decide +kernel
theorem dX7_moveBetween_1 : decode cX7_moveBetween 1 = .ok (.iload_n 1, 1) := by decide +kernel
theorem dX7_moveBetween_2 : decode cX7_moveBetween 2 = .ok (.isub, 1) := by decide +kernel
theorem dX7_moveBetween_3 : decode cX7_moveBetween 3 = .ok (.istore_n 3, 1) := by decide +kernel
theorem dX7_moveBetween_4 : decode cX7_moveBetween 4 = .ok (.iload_n 3, 1) := by decide +kernel
theorem dX7_moveBetween_5 : decode cX7_moveBetween 5 = .ok (.iconst 4, 1) := by decide +kernel
theorem dX7_moveBetween_6 : decode cX7_moveBetween 6 = .ok (.if_icmp .lt 8, 3) := by decide +kernel
theorem dX7_moveBetween_9 : decode cX7_moveBetween 9 = .ok (.iload_n 3, 1) := by decide +kernel
theorem dX7_moveBetween_10 : decode cX7_moveBetween 10 = .ok (.iconst 5, 1) := by decide +kernel
theorem dX7_moveBetween_11 : decode cX7_moveBetween 11 = .ok (.if_icmp .le 5, 3) := by decide +kernel
theorem dX7_moveBetween_14 : decode cX7_moveBetween 14 = .ok (.iconst (-1), 1) := by decide +kernel
theorem dX7_moveBetween_15 : decode cX7_moveBetween 15 = .ok (.ireturn, 1) := by decide +kernel
theorem dX7_moveBetween_16 : decode cX7_moveBetween 16 = .ok (.aload_n 0, 1) := by decide +kernel
theorem dX7_moveBetween_17 : decode cX7_moveBetween 17 = .ok (.iload_n 1, 1) := by decide +kernel
theorem dX7_moveBetween_18 : decode cX7_moveBetween 18 = .ok (.iconst 2, 1) := by decide +kernel
theorem dX7_moveBetween_19 : decode cX7_moveBetween 19 = .ok (.iadd, 1) := by decide +kernel
theorem dX7_moveBetween_20 : decode cX7_moveBetween 20 = .ok (.invokevirtual 59, 3) := by decide +kernel
theorem dX7_moveBetween_23 : decode cX7_moveBetween 23 = .ok (.istore 4, 2) := by decide +kernel
theorem dX7_moveBetween_25 : decode cX7_moveBetween 25 = .ok (.iload 4, 2) := by decide +kernel
theorem dX7_moveBetween_27 : decode cX7_moveBetween 27 = .ok (.ifCond .ge 5, 3) := by decide +kernel
theorem dX7_moveBetween_30 : decode cX7_moveBetween 30 = .ok (.iconst (-1), 1) := by decide +kernel
theorem dX7_moveBetween_31 : decode cX7_moveBetween 31 = .ok (.ireturn, 1) := by decide +kernel
theorem dX7_moveBetween_32 : decode cX7_moveBetween 32 = .ok (.aload_n 0, 1) := by decide +kernel
theorem dX7_moveBetween_33 : decode cX7_moveBetween 33 = .ok (.getfield 11, 3) := by decide +kernel
theorem dX7_moveBetween_36 : decode cX7_moveBetween 36 = .ok (.iload_n 1, 1) := by decide +kernel
theorem dX7_moveBetween_37 : decode cX7_moveBetween 37 = .ok (.iconst 1, 1) := by decide +kernel
theorem dX7_moveBetween_38 : decode cX7_moveBetween 38 = .ok (.iadd, 1) := by decide +kernel
theorem dX7_moveBetween_39 : decode cX7_moveBetween 39 = .ok (.iaload, 1) := by decide +kernel
theorem dX7_moveBetween_40 : decode cX7_moveBetween 40 = .ok (.bipush 42, 2) := by decide +kernel
theorem dX7_moveBetween_42 : decode cX7_moveBetween 42 = .ok (.if_icmp .ne 39, 3) := by decide +kernel
theorem dX7_moveBetween_45 : decode cX7_moveBetween 45 = .ok (.aload_n 0, 1) := by decide +kernel
theorem dX7_moveBetween_46 : decode cX7_moveBetween 46 = .ok (.getfield 11, 3) := by decide +kernel
theorem dX7_moveBetween_49 : decode cX7_moveBetween 49 = .ok (.iload_n 1, 1) := by decide +kernel
theorem dX7_moveBetween_50 : decode cX7_moveBetween 50 = .ok (.iaload, 1) := by decide +kernel
theorem dX7_moveBetween_51 : decode cX7_moveBetween 51 = .ok (.bipush 48, 2) := by decide +kernel
theorem dX7_moveBetween_53 : decode cX7_moveBetween 53 = .ok (.isub, 1) := by decide +kernel
theorem dX7_moveBetween_54 : decode cX7_moveBetween 54 = .ok (.istore 5, 2) := by decide +kernel
theorem dX7_moveBetween_56 : decode cX7_moveBetween 56 = .ok (.iload_n 3, 1) := by decide +kernel
theorem dX7_moveBetween_57 : decode cX7_moveBetween 57 = .ok (.iconst 4, 1) := by decide +kernel
theorem dX7_moveBetween_58 : decode cX7_moveBetween 58 = .ok (.if_icmp .ne 21, 3) := by decide +kernel
theorem dX7_moveBetween_61 : decode cX7_moveBetween 61 = .ok (.iload 5, 2) := by decide +kernel
theorem dX7_moveBetween_63 : decode cX7_moveBetween 63 = .ok (.invokestatic 62, 3) := by decide +kernel
theorem dX7_moveBetween_66 : decode cX7_moveBetween 66 = .ok (.ifCond .eq 13, 3) := by decide +kernel
theorem dX7_moveBetween_69 : decode cX7_moveBetween 69 = .ok (.iload 5, 2) := by decide +kernel
theorem dX7_moveBetween_71 : decode cX7_moveBetween 71 = .ok (.iload 4, 2) := by decide +kernel
theorem dX7_moveBetween_73 : decode cX7_moveBetween 73 = .ok (.invokestatic 65, 3) := by decide +kernel
theorem dX7_moveBetween_76 : decode cX7_moveBetween 76 = .ok (.goto 4, 3) := by decide +kernel
theorem dX7_moveBetween_79 : decode cX7_moveBetween 79 = .ok (.iconst (-1), 1) := by decide +kernel
theorem dX7_moveBetween_80 : decode cX7_moveBetween 80 = .ok (.ireturn, 1) := by decide +kernel
theorem dX7_moveBetween_81 : decode cX7_moveBetween 81 = .ok (.aload_n 0, 1) := by decide +kernel
theorem dX7_moveBetween_82 : decode cX7_moveBetween 82 = .ok (.iload_n 1, 1) := by decide +kernel
theorem dX7_moveBetween_83 : decode cX7_moveBetween 83 = .ok (.invokevirtual 59, 3) := by decide +kernel
theorem dX7_moveBetween_86 : decode cX7_moveBetween 86 = .ok (.istore 5, 2) := by decide +kernel
theorem dX7_moveBetween_88 : decode cX7_moveBetween 88 = .ok (.iload 5, 2) := by decide +kernel
theorem dX7_moveBetween_90 : decode cX7_moveBetween 90 = .ok (.ifCond .lt 21, 3) := by decide +kernel
theorem dX7_moveBetween_93 : decode cX7_moveBetween 93 = .ok (.iload_n 3, 1) := by decide +kernel
theorem dX7_moveBetween_94 : decode cX7_moveBetween 94 = .ok (.iconst 5, 1) := by decide +kernel
theorem dX7_moveBetween_95 : decode cX7_moveBetween 95 = .ok (.if_icmp .ne 18, 3) := by decide +kernel
theorem dX7_moveBetween_98 : decode cX7_moveBetween 98 = .ok (.aload_n 0, 1) := by decide +kernel
theorem dX7_moveBetween_99 : decode cX7_moveBetween 99 = .ok (.getfield 11, 3) := by decide +kernel
theorem dX7_moveBetween_102 : decode cX7_moveBetween 102 = .ok (.iload_n 1, 1) := by decide +kernel
theorem dX7_moveBetween_103 : decode cX7_moveBetween 103 = .ok (.iconst 4, 1) := by decide +kernel
theorem dX7_moveBetween_104 : decode cX7_moveBetween 104 = .ok (.iadd, 1) := by decide +kernel
theorem dX7_moveBetween_105 : decode cX7_moveBetween 105 = .ok (.iaload, 1) := by decide +kernel
theorem dX7_moveBetween_106 : decode cX7_moveBetween 106 = .ok (.bipush 43, 2) := by decide +kernel
theorem dX7_moveBetween_108 : decode cX7_moveBetween 108 = .ok (.if_icmp .eq 5, 3) := by decide +kernel
theorem dX7_moveBetween_111 : decode cX7_moveBetween 111 = .ok (.iconst (-1), 1) := by decide +kernel
theorem dX7_moveBetween_112 : decode cX7_moveBetween 112 = .ok (.ireturn, 1) := by decide +kernel
theorem dX7_moveBetween_113 : decode cX7_moveBetween 113 = .ok (.iload 5, 2) := by decide +kernel
theorem dX7_moveBetween_115 : decode cX7_moveBetween 115 = .ok (.iload 4, 2) := by decide +kernel
theorem dX7_moveBetween_117 : decode cX7_moveBetween 117 = .ok (.iload_n 3, 1) := by decide +kernel
theorem dX7_moveBetween_118 : decode cX7_moveBetween 118 = .ok (.iconst 5, 1) := by decide +kernel
theorem dX7_moveBetween_119 : decode cX7_moveBetween 119 = .ok (.if_icmp .ne 7, 3) := by decide +kernel
theorem dX7_moveBetween_122 : decode cX7_moveBetween 122 = .ok (.iconst 1, 1) := by decide +kernel
theorem dX7_moveBetween_123 : decode cX7_moveBetween 123 = .ok (.goto 4, 3) := by decide +kernel
theorem dX7_moveBetween_126 : decode cX7_moveBetween 126 = .ok (.iconst 0, 1) := by decide +kernel
theorem dX7_moveBetween_127 : decode cX7_moveBetween 127 = .ok (.invokestatic 69, 3) := by decide +kernel
theorem dX7_moveBetween_130 : decode cX7_moveBetween 130 = .ok (.ireturn, 1) := by decide +kernel
theorem dX7_fieldAt_0 : decode cX7_fieldAt 0 = .ok (.aload_n 0, 1) := by decide +kernel
theorem dX7_fieldAt_1 : decode cX7_fieldAt 1 = .ok (.getfield 11, 3) := by decide +kernel
theorem dX7_fieldAt_4 : decode cX7_fieldAt 4 = .ok (.iload_n 1, 1) := by decide +kernel
theorem dX7_fieldAt_5 : decode cX7_fieldAt 5 = .ok (.iaload, 1) := by decide +kernel
theorem dX7_fieldAt_6 : decode cX7_fieldAt 6 = .ok (.bipush 97, 2) := by decide +kernel
theorem dX7_fieldAt_8 : decode cX7_fieldAt 8 = .ok (.isub, 1) := by decide +kernel
theorem dX7_fieldAt_9 : decode cX7_fieldAt 9 = .ok (.istore_n 2, 1) := by decide +kernel
theorem dX7_fieldAt_10 : decode cX7_fieldAt 10 = .ok (.aload_n 0, 1) := by decide +kernel
theorem dX7_fieldAt_11 : decode cX7_fieldAt 11 = .ok (.getfield 11, 3) := by decide +kernel
theorem dX7_fieldAt_14 : decode cX7_fieldAt 14 = .ok (.iload_n 1, 1) := by decide +kernel
theorem dX7_fieldAt_15 : decode cX7_fieldAt 15 = .ok (.iconst 1, 1) := by decide +kernel
theorem dX7_fieldAt_16 : decode cX7_fieldAt 16 = .ok (.iadd, 1) := by decide +kernel
theorem dX7_fieldAt_17 : decode cX7_fieldAt 17 = .ok (.iaload, 1) := by decide +kernel
theorem dX7_fieldAt_18 : decode cX7_fieldAt 18 = .ok (.bipush 49, 2) := by decide +kernel
theorem dX7_fieldAt_20 : decode cX7_fieldAt 20 = .ok (.isub, 1) := by decide +kernel
theorem dX7_fieldAt_21 : decode cX7_fieldAt 21 = .ok (.istore_n 3, 1) := by decide +kernel
theorem dX7_fieldAt_22 : decode cX7_fieldAt 22 = .ok (.iload_n 2, 1) := by decide +kernel
theorem dX7_fieldAt_23 : decode cX7_fieldAt 23 = .ok (.ifCond .lt 23, 3) := by decide +kernel
theorem dX7_fieldAt_26 : decode cX7_fieldAt 26 = .ok (.iload_n 2, 1) := by decide +kernel
theorem dX7_fieldAt_27 : decode cX7_fieldAt 27 = .ok (.aload_n 0, 1) := by decide +kernel
theorem dX7_fieldAt_28 : decode cX7_fieldAt 28 = .ok (.getfield 15, 3) := by decide +kernel
theorem dX7_fieldAt_31 : decode cX7_fieldAt 31 = .ok (.if_icmp .ge 15, 3) := by decide +kernel
theorem dX7_fieldAt_34 : decode cX7_fieldAt 34 = .ok (.iload_n 3, 1) := by decide +kernel
theorem dX7_fieldAt_35 : decode cX7_fieldAt 35 = .ok (.ifCond .lt 11, 3) := by decide +kernel
theorem dX7_fieldAt_38 : decode cX7_fieldAt 38 = .ok (.iload_n 3, 1) := by decide +kernel
theorem dX7_fieldAt_39 : decode cX7_fieldAt 39 = .ok (.aload_n 0, 1) := by decide +kernel
theorem dX7_fieldAt_40 : decode cX7_fieldAt 40 = .ok (.getfield 15, 3) := by decide +kernel
theorem dX7_fieldAt_43 : decode cX7_fieldAt 43 = .ok (.if_icmp .lt 7, 3) := by decide +kernel
theorem dX7_fieldAt_46 : decode cX7_fieldAt 46 = .ok (.iconst (-1), 1) := by decide +kernel
theorem dX7_fieldAt_47 : decode cX7_fieldAt 47 = .ok (.goto 11, 3) := by decide +kernel
theorem dX7_fieldAt_50 : decode cX7_fieldAt 50 = .ok (.aload_n 0, 1) := by decide +kernel
theorem dX7_fieldAt_51 : decode cX7_fieldAt 51 = .ok (.getfield 15, 3) := by decide +kernel
theorem dX7_fieldAt_54 : decode cX7_fieldAt 54 = .ok (.iload_n 3, 1) := by decide +kernel
theorem dX7_fieldAt_55 : decode cX7_fieldAt 55 = .ok (.imul, 1) := by decide +kernel
theorem dX7_fieldAt_56 : decode cX7_fieldAt 56 = .ok (.iload_n 2, 1) := by decide +kernel
theorem dX7_fieldAt_57 : decode cX7_fieldAt 57 = .ok (.iadd, 1) := by decide +kernel
theorem dX7_fieldAt_58 : decode cX7_fieldAt 58 = .ok (.ireturn, 1) := by decide +kernel
theorem dX8_init_0 : decode cX8_init 0 = .ok (.aload_n 0, 1) := by decide +kernel
theorem dX8_init_1 : decode cX8_init 1 = .ok (.invokespecial 3, 3) := by decide +kernel
theorem dX8_init_4 : decode cX8_init 4 = .ok (.aload_n 0, 1) := by decide +kernel
theorem dX8_init_5 : decode cX8_init 5 = .ok (.bipush 16, 2) := by decide +kernel
theorem dX8_init_7 : decode cX8_init 7 = .ok (.newarray .int, 2) := by decide +kernel
theorem dX8_init_9 : decode cX8_init 9 = .ok (.putfield 9, 3) := by decide +kernel
theorem dX8_init_12 : decode cX8_init 12 = .ok (.aload_n 0, 1) := by decide +kernel
theorem dX8_init_13 : decode cX8_init 13 = .ok (.bipush 16, 2) := by decide +kernel
theorem dX8_init_15 : decode cX8_init 15 = .ok (.newarray .int, 2) := by decide +kernel
theorem dX8_init_17 : decode cX8_init 17 = .ok (.putfield 15, 3) := by decide +kernel
theorem dX8_init_20 : decode cX8_init 20 = .ok (.aload_n 0, 1) := by decide +kernel
theorem dX8_init_21 : decode cX8_init 21 = .ok (.bipush 33, 2) := by decide +kernel
theorem dX8_init_23 : decode cX8_init 23 = .ok (.newarray .int, 2) := by decide +kernel
theorem dX8_init_25 : decode cX8_init 25 = .ok (.putfield 18, 3) := by decide +kernel
theorem dX8_init_28 : decode cX8_init 28 = .ok (.aload_n 0, 1) := by decide +kernel
theorem dX8_init_29 : decode cX8_init 29 = .ok (.bipush 33, 2) := by decide +kernel
theorem dX8_init_31 : decode cX8_init 31 = .ok (.newarray .int, 2) := by decide +kernel
theorem dX8_init_33 : decode cX8_init 33 = .ok (.putfield 21, 3) := by decide +kernel
theorem dX8_init_36 : decode cX8_init 36 = .ok (.aload_n 0, 1) := by decide +kernel
theorem dX8_init_37 : decode cX8_init 37 = .ok (.bipush 8, 2) := by decide +kernel
theorem dX8_init_39 : decode cX8_init 39 = .ok (.newarray .int, 2) := by decide +kernel
theorem dX8_init_41 : decode cX8_init 41 = .ok (.putfield 24, 3) := by decide +kernel
theorem dX8_init_44 : decode cX8_init 44 = .ok (.aload_n 0, 1) := by decide +kernel
theorem dX8_init_45 : decode cX8_init 45 = .ok (.iload_n 1, 1) := by decide +kernel
theorem dX8_init_46 : decode cX8_init 46 = .ok (.putfield 27, 3) := by decide +kernel
theorem dX8_init_49 : decode cX8_init 49 = .ok (.aload_n 0, 1) := by decide +kernel
theorem dX8_init_50 : decode cX8_init 50 = .ok (.iload_n 1, 1) := by decide +kernel
theorem dX8_init_51 : decode cX8_init 51 = .ok (.iload_n 1, 1) := by decide +kernel
theorem dX8_init_52 : decode cX8_init 52 = .ok (.imul, 1) := by decide +kernel
theorem dX8_init_53 : decode cX8_init 53 = .ok (.putfield 31, 3) := by decide +kernel
theorem dX8_init_56 : decode cX8_init 56 = .ok (.aload_n 0, 1) := by decide +kernel
theorem dX8_init_57 : decode cX8_init 57 = .ok (.bipush 12, 2) := by decide +kernel
theorem dX8_init_59 : decode cX8_init 59 = .ok (.aload_n 0, 1) := by decide +kernel
theorem dX8_init_60 : decode cX8_init 60 = .ok (.getfield 31, 3) := by decide +kernel
theorem dX8_init_63 : decode cX8_init 63 = .ok (.imul, 1) := by decide +kernel
theorem dX8_init_64 : decode cX8_init 64 = .ok (.newarray .int, 2) := by decide +kernel
theorem dX8_init_66 : decode cX8_init 66 = .ok (.putfield 34, 3) := by decide +kernel
theorem dX8_init_69 : decode cX8_init 69 = .ok (.aload_n 0, 1) := by decide +kernel
theorem dX8_init_70 : decode cX8_init 70 = .ok (.aload_n 0, 1) := by decide +kernel
theorem dX8_init_71 : decode cX8_init 71 = .ok (.getfield 31, 3) := by decide +kernel
theorem dX8_init_74 : decode cX8_init 74 = .ok (.newarray .int, 2) := by decide +kernel
theorem dX8_init_76 : decode cX8_init 76 = .ok (.putfield 37, 3) := by decide +kernel
theorem dX8_init_79 : decode cX8_init 79 = .ok (.aload_n 0, 1) := by decide +kernel
theorem dX8_init_80 : decode cX8_init 80 = .ok (.iconst 2, 1) := by decide +kernel
theorem dX8_init_81 : decode cX8_init 81 = .ok (.aload_n 0, 1) := by decide +kernel
theorem dX8_init_82 : decode cX8_init 82 = .ok (.getfield 31, 3) := by decide +kernel
theorem dX8_init_85 : decode cX8_init 85 = .ok (.imul, 1) := by decide +kernel
theorem dX8_init_86 : decode cX8_init 86 = .ok (.newarray .boolean, 2) := by decide +kernel
theorem dX8_init_88 : decode cX8_init 88 = .ok (.putfield 40, 3) := by decide +kernel
theorem dX8_init_91 : decode cX8_init 91 = .ok (.iconst 0, 1) := by decide +kernel
theorem dX8_init_92 : decode cX8_init 92 = .ok (.istore_n 2, 1) := by decide +kernel
theorem dX8_init_93 : decode cX8_init 93 = .ok (.iload_n 2, 1) := by decide +kernel
theorem dX8_init_94 : decode cX8_init 94 = .ok (.aload_n 0, 1) := by decide +kernel
theorem dX8_init_95 : decode cX8_init 95 = .ok (.getfield 31, 3) := by decide +kernel
theorem dX8_init_98 : decode cX8_init 98 = .ok (.if_icmp .ge 19, 3) := by decide +kernel
theorem dX8_init_101 : decode cX8_init 101 = .ok (.aload_n 0, 1) := by decide +kernel
theorem dX8_init_102 : decode cX8_init 102 = .ok (.iload_n 2, 1) := by decide +kernel
theorem dX8_init_103 : decode cX8_init 103 = .ok (.invokevirtual 44, 3) := by decide +kernel
theorem dX8_init_106 : decode cX8_init 106 = .ok (.aload_n 0, 1) := by decide +kernel
theorem dX8_init_107 : decode cX8_init 107 = .ok (.iload_n 2, 1) := by decide +kernel
theorem dX8_init_108 : decode cX8_init 108 = .ok (.invokevirtual 48, 3) := by decide +kernel
theorem dX8_init_111 : decode cX8_init 111 = .ok (.iinc 2 1, 3) := by decide +kernel
theorem dX8_init_114 : decode cX8_init 114 = .ok (.goto (-21), 3) := by decide +kernel
theorem dX8_init_117 : decode cX8_init 117 = .ok (.iconst 0, 1) := by decide +kernel
theorem dX8_init_118 : decode cX8_init 118 = .ok (.istore_n 2, 1) := by decide +kernel
theorem dX8_init_119 : decode cX8_init 119 = .ok (.iload_n 2, 1) := by decide +kernel
theorem dX8_init_120 : decode cX8_init 120 = .ok (.bipush 16, 2) := by decide +kernel
theorem dX8_init_122 : decode cX8_init 122 = .ok (.if_icmp .ge 24, 3) := by decide +kernel
theorem dX8_init_125 : decode cX8_init 125 = .ok (.aload_n 0, 1) := by decide +kernel
theorem dX8_init_126 : decode cX8_init 126 = .ok (.iload_n 2, 1) := by decide +kernel
theorem dX8_init_127 : decode cX8_init 127 = .ok (.getstatic 51, 3) := by decide +kernel
theorem dX8_init_130 : decode cX8_init 130 = .ok (.iload_n 2, 1) := by decide +kernel
theorem dX8_init_131 : decode cX8_init 131 = .ok (.iaload, 1) := by decide +kernel
theorem dX8_init_132 : decode cX8_init 132 = .ok (.getstatic 54, 3) := by decide +kernel
theorem dX8_init_135 : decode cX8_init 135 = .ok (.iload_n 2, 1) := by decide +kernel
theorem dX8_init_136 : decode cX8_init 136 = .ok (.iaload, 1) := by decide +kernel
theorem dX8_init_137 : decode cX8_init 137 = .ok (.invokevirtual 57, 3) := by decide +kernel
theorem dX8_init_140 : decode cX8_init 140 = .ok (.iinc 2 1, 3) := by decide +kernel
theorem dX8_init_143 : decode cX8_init 143 = .ok (.goto (-24), 3) := by decide +kernel
theorem dX8_init_146 : decode cX8_init 146 = .ok (.aload_n 0, 1) := by decide +kernel
theorem dX8_init_147 : decode cX8_init 147 = .ok (.getfield 24, 3) := by decide +kernel
theorem dX8_init_150 : decode cX8_init 150 = .ok (.iconst 1, 1) := by decide +kernel
theorem dX8_init_151 : decode cX8_init 151 = .ok (.iconst 3, 1) := by decide +kernel
theorem dX8_init_152 : decode cX8_init 152 = .ok (.iastore, 1) := by decide +kernel
theorem dX8_init_153 : decode cX8_init 153 = .ok (.return_, 1) := by decide +kernel
theorem dX8_areSteps_0 : decode cX8_areSteps 0 = .ok (.iload_n 0, 1) := by decide +kernel
theorem dX8_areSteps_1 : decode cX8_areSteps 1 = .ok (.ifCond .lt 14, 3) := by decide +kernel
theorem dX8_areSteps_4 : decode cX8_areSteps 4 = .ok (.iload_n 0, 1) := by decide +kernel
theorem dX8_areSteps_5 : decode cX8_areSteps 5 = .ok (.sipush 1024, 3) := by decide +kernel
theorem dX8_areSteps_8 : decode cX8_areSteps 8 = .ok (.if_icmp .ge 7, 3) := by decide +kernel
theorem dX8_areSteps_11 : decode cX8_areSteps 11 = .ok (.iconst 1, 1) := by decide +kernel
theorem dX8_areSteps_12 : decode cX8_areSteps 12 = .ok (.goto 4, 3) := by decide +kernel
theorem dX8_areSteps_15 : decode cX8_areSteps 15 = .ok (.iconst 0, 1) := by decide +kernel
theorem dX8_areSteps_16 : decode cX8_areSteps 16 = .ok (.ireturn, 1) := by decide +kernel
theorem dX8_areRuns_0 : decode cX8_areRuns 0 = .ok (.iload_n 0, 1) := by decide +kernel
theorem dX8_areRuns_1 : decode cX8_areRuns 1 = .ok (.ifCond .lt 14, 3) := by decide +kernel
theorem dX8_areRuns_4 : decode cX8_areRuns 4 = .ok (.iload_n 0, 1) := by decide +kernel
theorem dX8_areRuns_5 : decode cX8_areRuns 5 = .ok (.sipush 256, 3) := by decide +kernel
theorem dX8_areRuns_8 : decode cX8_areRuns 8 = .ok (.if_icmp .ge 7, 3) := by decide +kernel
theorem dX8_areRuns_11 : decode cX8_areRuns 11 = .ok (.iconst 1, 1) := by decide +kernel
theorem dX8_areRuns_12 : decode cX8_areRuns 12 = .ok (.goto 4, 3) := by decide +kernel
theorem dX8_areRuns_15 : decode cX8_areRuns 15 = .ok (.iconst 0, 1) := by decide +kernel
theorem dX8_areRuns_16 : decode cX8_areRuns 16 = .ok (.ireturn, 1) := by decide +kernel
theorem dX8_linkField_0 : decode cX8_linkField 0 = .ok (.iconst 0, 1) := by decide +kernel
theorem dX8_linkField_1 : decode cX8_linkField 1 = .ok (.istore_n 2, 1) := by decide +kernel
theorem dX8_linkField_2 : decode cX8_linkField 2 = .ok (.iload_n 2, 1) := by decide +kernel
theorem dX8_linkField_3 : decode cX8_linkField 3 = .ok (.bipush 12, 2) := by decide +kernel
theorem dX8_linkField_5 : decode cX8_linkField 5 = .ok (.if_icmp .ge 117, 3) := by decide +kernel
theorem dX8_linkField_8 : decode cX8_linkField 8 = .ok (.iload_n 1, 1) := by decide +kernel
theorem dX8_linkField_9 : decode cX8_linkField 9 = .ok (.aload_n 0, 1) := by decide +kernel
theorem dX8_linkField_10 : decode cX8_linkField 10 = .ok (.getfield 27, 3) := by decide +kernel
theorem dX8_linkField_13 : decode cX8_linkField 13 = .ok (.idiv, 1) := by decide +kernel
theorem dX8_linkField_14 : decode cX8_linkField 14 = .ok (.getstatic 61, 3) := by decide +kernel
theorem dX8_linkField_17 : decode cX8_linkField 17 = .ok (.iload_n 2, 1) := by decide +kernel
theorem dX8_linkField_18 : decode cX8_linkField 18 = .ok (.iaload, 1) := by decide +kernel
theorem dX8_linkField_19 : decode cX8_linkField 19 = .ok (.iadd, 1) := by decide +kernel
theorem dX8_linkField_20 : decode cX8_linkField 20 = .ok (.istore_n 3, 1) := by decide +kernel
theorem dX8_linkField_21 : decode cX8_linkField 21 = .ok (.iload_n 1, 1) := by decide +kernel
theorem dX8_linkField_22 : decode cX8_linkField 22 = .ok (.aload_n 0, 1) := by decide +kernel
theorem dX8_linkField_23 : decode cX8_linkField 23 = .ok (.getfield 27, 3) := by decide +kernel
theorem dX8_linkField_26 : decode cX8_linkField 26 = .ok (.irem, 1) := by decide +kernel
theorem dX8_linkField_27 : decode cX8_linkField 27 = .ok (.getstatic 64, 3) := by decide +kernel
theorem dX8_linkField_30 : decode cX8_linkField 30 = .ok (.iload_n 2, 1) := by decide +kernel
theorem dX8_linkField_31 : decode cX8_linkField 31 = .ok (.iaload, 1) := by decide +kernel
theorem dX8_linkField_32 : decode cX8_linkField 32 = .ok (.iadd, 1) := by decide +kernel
theorem dX8_linkField_33 : decode cX8_linkField 33 = .ok (.istore 4, 2) := by decide +kernel
theorem dX8_linkField_35 : decode cX8_linkField 35 = .ok (.iload_n 3, 1) := by decide +kernel
theorem dX8_linkField_36 : decode cX8_linkField 36 = .ok (.ifCond .lt 29, 3) := by decide +kernel
theorem dX8_linkField_39 : decode cX8_linkField 39 = .ok (.iload_n 3, 1) := by decide +kernel
theorem dX8_linkField_40 : decode cX8_linkField 40 = .ok (.aload_n 0, 1) := by decide +kernel
theorem dX8_linkField_41 : decode cX8_linkField 41 = .ok (.getfield 27, 3) := by decide +kernel
theorem dX8_linkField_44 : decode cX8_linkField 44 = .ok (.if_icmp .ge 21, 3) := by decide +kernel
theorem dX8_linkField_47 : decode cX8_linkField 47 = .ok (.iload 4, 2) := by decide +kernel
theorem dX8_linkField_49 : decode cX8_linkField 49 = .ok (.ifCond .lt 16, 3) := by decide +kernel
theorem dX8_linkField_52 : decode cX8_linkField 52 = .ok (.iload 4, 2) := by decide +kernel
theorem dX8_linkField_54 : decode cX8_linkField 54 = .ok (.aload_n 0, 1) := by decide +kernel
theorem dX8_linkField_55 : decode cX8_linkField 55 = .ok (.getfield 27, 3) := by decide +kernel
theorem dX8_linkField_58 : decode cX8_linkField 58 = .ok (.if_icmp .ge 7, 3) := by decide +kernel
theorem dX8_linkField_61 : decode cX8_linkField 61 = .ok (.iconst 1, 1) := by decide +kernel
theorem dX8_linkField_62 : decode cX8_linkField 62 = .ok (.goto 4, 3) := by decide +kernel
theorem dX8_linkField_65 : decode cX8_linkField 65 = .ok (.iconst 0, 1) := by decide +kernel
theorem dX8_linkField_66 : decode cX8_linkField 66 = .ok (.istore 5, 2) := by decide +kernel
theorem dX8_linkField_68 : decode cX8_linkField 68 = .ok (.aload_n 0, 1) := by decide +kernel
theorem dX8_linkField_69 : decode cX8_linkField 69 = .ok (.getfield 34, 3) := by decide +kernel
theorem dX8_linkField_72 : decode cX8_linkField 72 = .ok (.iload_n 2, 1) := by decide +kernel
theorem dX8_linkField_73 : decode cX8_linkField 73 = .ok (.aload_n 0, 1) := by decide +kernel
theorem dX8_linkField_74 : decode cX8_linkField 74 = .ok (.getfield 31, 3) := by decide +kernel
theorem dX8_linkField_77 : decode cX8_linkField 77 = .ok (.imul, 1) := by decide +kernel
theorem dX8_linkField_78 : decode cX8_linkField 78 = .ok (.iload_n 1, 1) := by decide +kernel
theorem dX8_linkField_79 : decode cX8_linkField 79 = .ok (.iadd, 1) := by decide +kernel
theorem dX8_linkField_80 : decode cX8_linkField 80 = .ok (.iload 5, 2) := by decide +kernel
theorem dX8_linkField_82 : decode cX8_linkField 82 = .ok (.ifCond .eq 15, 3) := by decide +kernel
theorem dX8_linkField_85 : decode cX8_linkField 85 = .ok (.iload_n 3, 1) := by decide +kernel
theorem dX8_linkField_86 : decode cX8_linkField 86 = .ok (.aload_n 0, 1) := by decide +kernel
theorem dX8_linkField_87 : decode cX8_linkField 87 = .ok (.getfield 27, 3) := by decide +kernel
theorem dX8_linkField_90 : decode cX8_linkField 90 = .ok (.imul, 1) := by decide +kernel
theorem dX8_linkField_91 : decode cX8_linkField 91 = .ok (.iload 4, 2) := by decide +kernel
theorem dX8_linkField_93 : decode cX8_linkField 93 = .ok (.iadd, 1) := by decide +kernel
theorem dX8_linkField_94 : decode cX8_linkField 94 = .ok (.goto 4, 3) := by decide +kernel
theorem dX8_linkField_97 : decode cX8_linkField 97 = .ok (.iconst (-1), 1) := by decide +kernel
theorem dX8_linkField_98 : decode cX8_linkField 98 = .ok (.iastore, 1) := by decide +kernel
theorem dX8_linkField_99 : decode cX8_linkField 99 = .ok (.iload 5, 2) := by decide +kernel
theorem dX8_linkField_101 : decode cX8_linkField 101 = .ok (.ifCond .eq 15, 3) := by decide +kernel
theorem dX8_linkField_104 : decode cX8_linkField 104 = .ok (.aload_n 0, 1) := by decide +kernel
theorem dX8_linkField_105 : decode cX8_linkField 105 = .ok (.getfield 37, 3) := by decide +kernel
theorem dX8_linkField_108 : decode cX8_linkField 108 = .ok (.iload_n 1, 1) := by decide +kernel
theorem dX8_linkField_109 : decode cX8_linkField 109 = .ok (.dup2, 1) := by decide +kernel
theorem dX8_linkField_110 : decode cX8_linkField 110 = .ok (.iaload, 1) := by decide +kernel
theorem dX8_linkField_111 : decode cX8_linkField 111 = .ok (.iconst 1, 1) := by decide +kernel
theorem dX8_linkField_112 : decode cX8_linkField 112 = .ok (.iload_n 2, 1) := by decide +kernel
theorem dX8_linkField_113 : decode cX8_linkField 113 = .ok (.ishl, 1) := by decide +kernel
theorem dX8_linkField_114 : decode cX8_linkField 114 = .ok (.ior, 1) := by decide +kernel
theorem dX8_linkField_115 : decode cX8_linkField 115 = .ok (.iastore, 1) := by decide +kernel
theorem dX8_linkField_116 : decode cX8_linkField 116 = .ok (.iinc 2 1, 3) := by decide +kernel
theorem dX8_linkField_119 : decode cX8_linkField 119 = .ok (.goto (-117), 3) := by decide +kernel
theorem dX8_linkField_122 : decode cX8_linkField 122 = .ok (.return_, 1) := by decide +kernel
theorem dX8_markZones_0 : decode cX8_markZones 0 = .ok (.aload_n 0, 1) := by decide +kernel
theorem dX8_markZones_1 : decode cX8_markZones 1 = .ok (.getfield 27, 3) := by decide +kernel
theorem dX8_markZones_4 : decode cX8_markZones 4 = .ok (.iconst 5, 1) := by decide +kernel
theorem dX8_markZones_5 : decode cX8_markZones 5 = .ok (.if_icmp .ne 7, 3) := by decide +kernel
theorem dX8_markZones_8 : decode cX8_markZones 8 = .ok (.iconst 1, 1) := by decide +kernel
theorem dX8_markZones_9 : decode cX8_markZones 9 = .ok (.goto 4, 3) := by decide +kernel
theorem dX8_markZones_12 : decode cX8_markZones 12 = .ok (.iconst 2, 1) := by decide +kernel
theorem dX8_markZones_13 : decode cX8_markZones 13 = .ok (.istore_n 2, 1) := by decide +kernel
theorem dX8_markZones_14 : decode cX8_markZones 14 = .ok (.aload_n 0, 1) := by decide +kernel
theorem dX8_markZones_15 : decode cX8_markZones 15 = .ok (.getfield 40, 3) := by decide +kernel
theorem dX8_markZones_18 : decode cX8_markZones 18 = .ok (.iload_n 1, 1) := by decide +kernel
theorem dX8_markZones_19 : decode cX8_markZones 19 = .ok (.iload_n 1, 1) := by decide +kernel
theorem dX8_markZones_20 : decode cX8_markZones 20 = .ok (.aload_n 0, 1) := by decide +kernel
theorem dX8_markZones_21 : decode cX8_markZones 21 = .ok (.getfield 27, 3) := by decide +kernel
theorem dX8_markZones_24 : decode cX8_markZones 24 = .ok (.idiv, 1) := by decide +kernel
theorem dX8_markZones_25 : decode cX8_markZones 25 = .ok (.iload_n 2, 1) := by decide +kernel
theorem dX8_markZones_26 : decode cX8_markZones 26 = .ok (.if_icmp .ge 7, 3) := by decide +kernel
theorem dX8_markZones_29 : decode cX8_markZones 29 = .ok (.iconst 1, 1) := by decide +kernel
theorem dX8_markZones_30 : decode cX8_markZones 30 = .ok (.goto 4, 3) := by decide +kernel
theorem dX8_markZones_33 : decode cX8_markZones 33 = .ok (.iconst 0, 1) := by decide +kernel
theorem dX8_markZones_34 : decode cX8_markZones 34 = .ok (.bastore, 1) := by decide +kernel
theorem dX8_markZones_35 : decode cX8_markZones 35 = .ok (.aload_n 0, 1) := by decide +kernel
theorem dX8_markZones_36 : decode cX8_markZones 36 = .ok (.getfield 40, 3) := by decide +kernel
theorem dX8_markZones_39 : decode cX8_markZones 39 = .ok (.aload_n 0, 1) := by decide +kernel
theorem dX8_markZones_40 : decode cX8_markZones 40 = .ok (.getfield 31, 3) := by decide +kernel
theorem dX8_markZones_43 : decode cX8_markZones 43 = .ok (.iload_n 1, 1) := by decide +kernel
theorem dX8_markZones_44 : decode cX8_markZones 44 = .ok (.iadd, 1) := by decide +kernel
theorem dX8_markZones_45 : decode cX8_markZones 45 = .ok (.iload_n 1, 1) := by decide +kernel
theorem dX8_markZones_46 : decode cX8_markZones 46 = .ok (.aload_n 0, 1) := by decide +kernel
theorem dX8_markZones_47 : decode cX8_markZones 47 = .ok (.getfield 27, 3) := by decide +kernel
theorem dX8_markZones_50 : decode cX8_markZones 50 = .ok (.idiv, 1) := by decide +kernel
theorem dX8_markZones_51 : decode cX8_markZones 51 = .ok (.aload_n 0, 1) := by decide +kernel
theorem dX8_markZones_52 : decode cX8_markZones 52 = .ok (.getfield 27, 3) := by decide +kernel
theorem dX8_markZones_55 : decode cX8_markZones 55 = .ok (.iload_n 2, 1) := by decide +kernel
theorem dX8_markZones_56 : decode cX8_markZones 56 = .ok (.isub, 1) := by decide +kernel
theorem dX8_markZones_57 : decode cX8_markZones 57 = .ok (.if_icmp .lt 7, 3) := by decide +kernel
theorem dX8_markZones_60 : decode cX8_markZones 60 = .ok (.iconst 1, 1) := by decide +kernel
theorem dX8_markZones_61 : decode cX8_markZones 61 = .ok (.goto 4, 3) := by decide +kernel
theorem dX8_markZones_64 : decode cX8_markZones 64 = .ok (.iconst 0, 1) := by decide +kernel
theorem dX8_markZones_65 : decode cX8_markZones 65 = .ok (.bastore, 1) := by decide +kernel
theorem dX8_markZones_66 : decode cX8_markZones 66 = .ok (.return_, 1) := by decide +kernel
theorem dX8_tell_0 : decode cX8_tell 0 = .ok (.aload_n 0, 1) := by decide +kernel
theorem dX8_tell_1 : decode cX8_tell 1 = .ok (.getfield 9, 3) := by decide +kernel
theorem dX8_tell_4 : decode cX8_tell 4 = .ok (.iload_n 1, 1) := by decide +kernel
theorem dX8_tell_5 : decode cX8_tell 5 = .ok (.iload_n 2, 1) := by decide +kernel
theorem dX8_tell_6 : decode cX8_tell 6 = .ok (.iastore, 1) := by decide +kernel
theorem dX8_tell_7 : decode cX8_tell 7 = .ok (.aload_n 0, 1) := by decide +kernel
theorem dX8_tell_8 : decode cX8_tell 8 = .ok (.getfield 15, 3) := by decide +kernel
theorem dX8_tell_11 : decode cX8_tell 11 = .ok (.iload_n 1, 1) := by decide +kernel
theorem dX8_tell_12 : decode cX8_tell 12 = .ok (.iload_n 3, 1) := by decide +kernel
theorem dX8_tell_13 : decode cX8_tell 13 = .ok (.iastore, 1) := by decide +kernel
theorem dX8_tell_14 : decode cX8_tell 14 = .ok (.aload_n 0, 1) := by decide +kernel
theorem dX8_tell_15 : decode cX8_tell 15 = .ok (.getfield 18, 3) := by decide +kernel
theorem dX8_tell_18 : decode cX8_tell 18 = .ok (.iconst 1, 1) := by decide +kernel
theorem dX8_tell_19 : decode cX8_tell 19 = .ok (.iload_n 1, 1) := by decide +kernel
theorem dX8_tell_20 : decode cX8_tell 20 = .ok (.iadd, 1) := by decide +kernel
theorem dX8_tell_21 : decode cX8_tell 21 = .ok (.iload_n 2, 1) := by decide +kernel
theorem dX8_tell_22 : decode cX8_tell 22 = .ok (.iastore, 1) := by decide +kernel
theorem dX8_tell_23 : decode cX8_tell 23 = .ok (.aload_n 0, 1) := by decide +kernel
theorem dX8_tell_24 : decode cX8_tell 24 = .ok (.getfield 21, 3) := by decide +kernel
theorem dX8_tell_27 : decode cX8_tell 27 = .ok (.iconst 1, 1) := by decide +kernel
theorem dX8_tell_28 : decode cX8_tell 28 = .ok (.iload_n 1, 1) := by decide +kernel
theorem dX8_tell_29 : decode cX8_tell 29 = .ok (.iadd, 1) := by decide +kernel
theorem dX8_tell_30 : decode cX8_tell 30 = .ok (.iload_n 3, 1) := by decide +kernel
theorem dX8_tell_31 : decode cX8_tell 31 = .ok (.iastore, 1) := by decide +kernel
theorem dX8_tell_32 : decode cX8_tell 32 = .ok (.aload_n 0, 1) := by decide +kernel
theorem dX8_tell_33 : decode cX8_tell 33 = .ok (.getfield 18, 3) := by decide +kernel
theorem dX8_tell_36 : decode cX8_tell 36 = .ok (.bipush 17, 2) := by decide +kernel
theorem dX8_tell_38 : decode cX8_tell 38 = .ok (.iload_n 1, 1) := by decide +kernel
theorem dX8_tell_39 : decode cX8_tell 39 = .ok (.iadd, 1) := by decide +kernel
theorem dX8_tell_40 : decode cX8_tell 40 = .ok (.iload_n 2, 1) := by decide +kernel
theorem dX8_tell_41 : decode cX8_tell 41 = .ok (.invokestatic 67, 3) := by decide +kernel
theorem dX8_tell_44 : decode cX8_tell 44 = .ok (.iastore, 1) := by decide +kernel
theorem dX8_tell_45 : decode cX8_tell 45 = .ok (.aload_n 0, 1) := by decide +kernel
theorem dX8_tell_46 : decode cX8_tell 46 = .ok (.getfield 21, 3) := by decide +kernel
theorem dX8_tell_49 : decode cX8_tell 49 = .ok (.bipush 17, 2) := by decide +kernel
theorem dX8_tell_51 : decode cX8_tell 51 = .ok (.iload_n 1, 1) := by decide +kernel
theorem dX8_tell_52 : decode cX8_tell 52 = .ok (.iadd, 1) := by decide +kernel
theorem dX8_tell_53 : decode cX8_tell 53 = .ok (.iload_n 3, 1) := by decide +kernel
theorem dX8_tell_54 : decode cX8_tell 54 = .ok (.invokestatic 67, 3) := by decide +kernel
theorem dX8_tell_57 : decode cX8_tell 57 = .ok (.iastore, 1) := by decide +kernel
theorem dX8_tell_58 : decode cX8_tell 58 = .ok (.return_, 1) := by decide +kernel
theorem dX8_turnedBits_0 : decode cX8_turnedBits 0 = .ok (.iconst 0, 1) := by decide +kernel
theorem dX8_turnedBits_1 : decode cX8_turnedBits 1 = .ok (.istore_n 1, 1) := by decide +kernel
theorem dX8_turnedBits_2 : decode cX8_turnedBits 2 = .ok (.iconst 0, 1) := by decide +kernel
theorem dX8_turnedBits_3 : decode cX8_turnedBits 3 = .ok (.istore_n 2, 1) := by decide +kernel
theorem dX8_turnedBits_4 : decode cX8_turnedBits 4 = .ok (.iload_n 2, 1) := by decide +kernel
theorem dX8_turnedBits_5 : decode cX8_turnedBits 5 = .ok (.bipush 10, 2) := by decide +kernel
theorem dX8_turnedBits_7 : decode cX8_turnedBits 7 = .ok (.if_icmp .ge 27, 3) := by decide +kernel
theorem dX8_turnedBits_10 : decode cX8_turnedBits 10 = .ok (.iload_n 0, 1) := by decide +kernel
theorem dX8_turnedBits_11 : decode cX8_turnedBits 11 = .ok (.iload_n 2, 1) := by decide +kernel
theorem dX8_turnedBits_12 : decode cX8_turnedBits 12 = .ok (.ishr, 1) := by decide +kernel
theorem dX8_turnedBits_13 : decode cX8_turnedBits 13 = .ok (.iconst 1, 1) := by decide +kernel
theorem dX8_turnedBits_14 : decode cX8_turnedBits 14 = .ok (.iand, 1) := by decide +kernel
theorem dX8_turnedBits_15 : decode cX8_turnedBits 15 = .ok (.ifCond .eq 13, 3) := by decide +kernel
theorem dX8_turnedBits_18 : decode cX8_turnedBits 18 = .ok (.iload_n 1, 1) := by decide +kernel
theorem dX8_turnedBits_19 : decode cX8_turnedBits 19 = .ok (.iconst 1, 1) := by decide +kernel
theorem dX8_turnedBits_20 : decode cX8_turnedBits 20 = .ok (.getstatic 71, 3) := by decide +kernel
theorem dX8_turnedBits_23 : decode cX8_turnedBits 23 = .ok (.iload_n 2, 1) := by decide +kernel
theorem dX8_turnedBits_24 : decode cX8_turnedBits 24 = .ok (.iaload, 1) := by decide +kernel
theorem dX8_turnedBits_25 : decode cX8_turnedBits 25 = .ok (.ishl, 1) := by decide +kernel
theorem dX8_turnedBits_26 : decode cX8_turnedBits 26 = .ok (.ior, 1) := by decide +kernel
theorem dX8_turnedBits_27 : decode cX8_turnedBits 27 = .ok (.istore_n 1, 1) := by decide +kernel
theorem dX8_turnedBits_28 : decode cX8_turnedBits 28 = .ok (.iinc 2 1, 3) := by decide +kernel
theorem dX8_turnedBits_31 : decode cX8_turnedBits 31 = .ok (.goto (-27), 3) := by decide +kernel
theorem dX8_turnedBits_34 : decode cX8_turnedBits 34 = .ok (.iload_n 1, 1) := by decide +kernel
theorem dX8_turnedBits_35 : decode cX8_turnedBits 35 = .ok (.ireturn, 1) := by decide +kernel
theorem dX8_hasRaised_0 : decode cX8_hasRaised 0 = .ok (.aload_n 0, 1) := by decide +kernel
theorem dX8_hasRaised_1 : decode cX8_hasRaised 1 = .ok (.getfield 9, 3) := by decide +kernel
theorem dX8_hasRaised_4 : decode cX8_hasRaised 4 = .ok (.iload_n 1, 1) := by decide +kernel
theorem dX8_hasRaised_5 : decode cX8_hasRaised 5 = .ok (.bipush 8, 2) := by decide +kernel
theorem dX8_hasRaised_7 : decode cX8_hasRaised 7 = .ok (.iadd, 1) := by decide +kernel
theorem dX8_hasRaised_8 : decode cX8_hasRaised 8 = .ok (.iaload, 1) := by decide +kernel
theorem dX8_hasRaised_9 : decode cX8_hasRaised 9 = .ok (.aload_n 0, 1) := by decide +kernel
theorem dX8_hasRaised_10 : decode cX8_hasRaised 10 = .ok (.getfield 15, 3) := by decide +kernel
theorem dX8_hasRaised_13 : decode cX8_hasRaised 13 = .ok (.iload_n 1, 1) := by decide +kernel
theorem dX8_hasRaised_14 : decode cX8_hasRaised 14 = .ok (.bipush 8, 2) := by decide +kernel
theorem dX8_hasRaised_16 : decode cX8_hasRaised 16 = .ok (.iadd, 1) := by decide +kernel
theorem dX8_hasRaised_17 : decode cX8_hasRaised 17 = .ok (.iaload, 1) := by decide +kernel
theorem dX8_hasRaised_18 : decode cX8_hasRaised 18 = .ok (.ior, 1) := by decide +kernel
theorem dX8_hasRaised_19 : decode cX8_hasRaised 19 = .ok (.ifCond .eq 7, 3) := by decide +kernel
theorem dX8_hasRaised_22 : decode cX8_hasRaised 22 = .ok (.iconst 1, 1) := by decide +kernel
theorem dX8_hasRaised_23 : decode cX8_hasRaised 23 = .ok (.goto 4, 3) := by decide +kernel
theorem dX8_hasRaised_26 : decode cX8_hasRaised 26 = .ok (.iconst 0, 1) := by decide +kernel
theorem dX8_hasRaised_27 : decode cX8_hasRaised 27 = .ok (.ireturn, 1) := by decide +kernel
theorem dX8_goesOn_0 : decode cX8_goesOn 0 = .ok (.aload_n 0, 1) := by decide +kernel
theorem dX8_goesOn_1 : decode cX8_goesOn 1 = .ok (.getfield 18, 3) := by decide +kernel
theorem dX8_goesOn_4 : decode cX8_goesOn 4 = .ok (.iload_n 1, 1) := by decide +kernel
theorem dX8_goesOn_5 : decode cX8_goesOn 5 = .ok (.iaload, 1) := by decide +kernel
theorem dX8_goesOn_6 : decode cX8_goesOn 6 = .ok (.aload_n 0, 1) := by decide +kernel
theorem dX8_goesOn_7 : decode cX8_goesOn 7 = .ok (.getfield 21, 3) := by decide +kernel
theorem dX8_goesOn_10 : decode cX8_goesOn 10 = .ok (.iload_n 1, 1) := by decide +kernel
theorem dX8_goesOn_11 : decode cX8_goesOn 11 = .ok (.iaload, 1) := by decide +kernel
theorem dX8_goesOn_12 : decode cX8_goesOn 12 = .ok (.ior, 1) := by decide +kernel
theorem dX8_goesOn_13 : decode cX8_goesOn 13 = .ok (.aload_n 0, 1) := by decide +kernel
theorem dX8_goesOn_14 : decode cX8_goesOn 14 = .ok (.getfield 37, 3) := by decide +kernel
theorem dX8_goesOn_17 : decode cX8_goesOn 17 = .ok (.iload_n 2, 1) := by decide +kernel
theorem dX8_goesOn_18 : decode cX8_goesOn 18 = .ok (.iaload, 1) := by decide +kernel
theorem dX8_goesOn_19 : decode cX8_goesOn 19 = .ok (.iand, 1) := by decide +kernel
theorem dX8_goesOn_20 : decode cX8_goesOn 20 = .ok (.ifCond .eq 7, 3) := by decide +kernel
theorem dX8_goesOn_23 : decode cX8_goesOn 23 = .ok (.iconst 1, 1) := by decide +kernel
theorem dX8_goesOn_24 : decode cX8_goesOn 24 = .ok (.goto 4, 3) := by decide +kernel
theorem dX8_goesOn_27 : decode cX8_goesOn 27 = .ok (.iconst 0, 1) := by decide +kernel
theorem dX8_goesOn_28 : decode cX8_goesOn 28 = .ok (.ireturn, 1) := by decide +kernel
theorem dX8_canBeRaised_0 : decode cX8_canBeRaised 0 = .ok (.iload_n 1, 1) := by decide +kernel
theorem dX8_canBeRaised_1 : decode cX8_canBeRaised 1 = .ok (.iconst 1, 1) := by decide +kernel
theorem dX8_canBeRaised_2 : decode cX8_canBeRaised 2 = .ok (.isub, 1) := by decide +kernel
theorem dX8_canBeRaised_3 : decode cX8_canBeRaised 3 = .ok (.bipush 15, 2) := by decide +kernel
theorem dX8_canBeRaised_5 : decode cX8_canBeRaised 5 = .ok (.iand, 1) := by decide +kernel
theorem dX8_canBeRaised_6 : decode cX8_canBeRaised 6 = .ok (.istore 4, 2) := by decide +kernel
theorem dX8_canBeRaised_8 : decode cX8_canBeRaised 8 = .ok (.iload_n 1, 1) := by decide +kernel
theorem dX8_canBeRaised_9 : decode cX8_canBeRaised 9 = .ok (.bipush 16, 2) := by decide +kernel
theorem dX8_canBeRaised_11 : decode cX8_canBeRaised 11 = .ok (.if_icmp .le 10, 3) := by decide +kernel
theorem dX8_canBeRaised_14 : decode cX8_canBeRaised 14 = .ok (.aload_n 0, 1) := by decide +kernel
theorem dX8_canBeRaised_15 : decode cX8_canBeRaised 15 = .ok (.getfield 31, 3) := by decide +kernel
theorem dX8_canBeRaised_18 : decode cX8_canBeRaised 18 = .ok (.goto 4, 3) := by decide +kernel
theorem dX8_canBeRaised_21 : decode cX8_canBeRaised 21 = .ok (.iconst 0, 1) := by decide +kernel
theorem dX8_canBeRaised_22 : decode cX8_canBeRaised 22 = .ok (.istore 5, 2) := by decide +kernel
theorem dX8_canBeRaised_24 : decode cX8_canBeRaised 24 = .ok (.iload 4, 2) := by decide +kernel
theorem dX8_canBeRaised_26 : decode cX8_canBeRaised 26 = .ok (.bipush 8, 2) := by decide +kernel
theorem dX8_canBeRaised_28 : decode cX8_canBeRaised 28 = .ok (.if_icmp .ge 55, 3) := by decide +kernel
theorem dX8_canBeRaised_31 : decode cX8_canBeRaised 31 = .ok (.aload_n 0, 1) := by decide +kernel
theorem dX8_canBeRaised_32 : decode cX8_canBeRaised 32 = .ok (.getfield 9, 3) := by decide +kernel
theorem dX8_canBeRaised_35 : decode cX8_canBeRaised 35 = .ok (.iload 4, 2) := by decide +kernel
theorem dX8_canBeRaised_37 : decode cX8_canBeRaised 37 = .ok (.bipush 8, 2) := by decide +kernel
theorem dX8_canBeRaised_39 : decode cX8_canBeRaised 39 = .ok (.iadd, 1) := by decide +kernel
theorem dX8_canBeRaised_40 : decode cX8_canBeRaised 40 = .ok (.iaload, 1) := by decide +kernel
theorem dX8_canBeRaised_41 : decode cX8_canBeRaised 41 = .ok (.aload_n 0, 1) := by decide +kernel
theorem dX8_canBeRaised_42 : decode cX8_canBeRaised 42 = .ok (.getfield 15, 3) := by decide +kernel
theorem dX8_canBeRaised_45 : decode cX8_canBeRaised 45 = .ok (.iload 4, 2) := by decide +kernel
theorem dX8_canBeRaised_47 : decode cX8_canBeRaised 47 = .ok (.bipush 8, 2) := by decide +kernel
theorem dX8_canBeRaised_49 : decode cX8_canBeRaised 49 = .ok (.iadd, 1) := by decide +kernel
theorem dX8_canBeRaised_50 : decode cX8_canBeRaised 50 = .ok (.iaload, 1) := by decide +kernel
theorem dX8_canBeRaised_51 : decode cX8_canBeRaised 51 = .ok (.ior, 1) := by decide +kernel
theorem dX8_canBeRaised_52 : decode cX8_canBeRaised 52 = .ok (.ifCond .eq 31, 3) := by decide +kernel
theorem dX8_canBeRaised_55 : decode cX8_canBeRaised 55 = .ok (.aload_n 0, 1) := by decide +kernel
theorem dX8_canBeRaised_56 : decode cX8_canBeRaised 56 = .ok (.getfield 40, 3) := by decide +kernel
theorem dX8_canBeRaised_59 : decode cX8_canBeRaised 59 = .ok (.iload 5, 2) := by decide +kernel
theorem dX8_canBeRaised_61 : decode cX8_canBeRaised 61 = .ok (.iload_n 2, 1) := by decide +kernel
theorem dX8_canBeRaised_62 : decode cX8_canBeRaised 62 = .ok (.iadd, 1) := by decide +kernel
theorem dX8_canBeRaised_63 : decode cX8_canBeRaised 63 = .ok (.baload, 1) := by decide +kernel
theorem dX8_canBeRaised_64 : decode cX8_canBeRaised 64 = .ok (.ifCond .ne 15, 3) := by decide +kernel
theorem dX8_canBeRaised_67 : decode cX8_canBeRaised 67 = .ok (.aload_n 0, 1) := by decide +kernel
theorem dX8_canBeRaised_68 : decode cX8_canBeRaised 68 = .ok (.getfield 40, 3) := by decide +kernel
theorem dX8_canBeRaised_71 : decode cX8_canBeRaised 71 = .ok (.iload 5, 2) := by decide +kernel
theorem dX8_canBeRaised_73 : decode cX8_canBeRaised 73 = .ok (.iload_n 3, 1) := by decide +kernel
theorem dX8_canBeRaised_74 : decode cX8_canBeRaised 74 = .ok (.iadd, 1) := by decide +kernel
theorem dX8_canBeRaised_75 : decode cX8_canBeRaised 75 = .ok (.baload, 1) := by decide +kernel
theorem dX8_canBeRaised_76 : decode cX8_canBeRaised 76 = .ok (.ifCond .eq 7, 3) := by decide +kernel
theorem dX8_canBeRaised_79 : decode cX8_canBeRaised 79 = .ok (.iconst 1, 1) := by decide +kernel
theorem dX8_canBeRaised_80 : decode cX8_canBeRaised 80 = .ok (.goto 4, 3) := by decide +kernel
theorem dX8_canBeRaised_83 : decode cX8_canBeRaised 83 = .ok (.iconst 0, 1) := by decide +kernel
theorem dX8_canBeRaised_84 : decode cX8_canBeRaised 84 = .ok (.ireturn, 1) := by decide +kernel
theorem dX9_init_0 : decode cX9_init 0 = .ok (.aload_n 0, 1) := by decide +kernel
theorem dX9_init_1 : decode cX9_init 1 = .ok (.invokespecial 1, 3) := by decide +kernel
theorem dX9_init_4 : decode cX9_init 4 = .ok (.aload_n 0, 1) := by decide +kernel
theorem dX9_init_5 : decode cX9_init 5 = .ok (.bipush 16, 2) := by decide +kernel
theorem dX9_init_7 : decode cX9_init 7 = .ok (.newarray .int, 2) := by decide +kernel
theorem dX9_init_9 : decode cX9_init 9 = .ok (.putfield 7, 3) := by decide +kernel
theorem dX9_init_12 : decode cX9_init 12 = .ok (.iload_n 1, 1) := by decide +kernel
theorem dX9_init_13 : decode cX9_init 13 = .ok (.iconst 5, 1) := by decide +kernel
theorem dX9_init_14 : decode cX9_init 14 = .ok (.if_icmp .lt 9, 3) := by decide +kernel
theorem dX9_init_17 : decode cX9_init 17 = .ok (.iload_n 1, 1) := by decide +kernel
theorem dX9_init_18 : decode cX9_init 18 = .ok (.bipush 7, 2) := by decide +kernel
theorem dX9_init_20 : decode cX9_init 20 = .ok (.if_icmp .le 7, 3) := by decide +kernel
theorem dX9_init_23 : decode cX9_init 23 = .ok (.iconst 5, 1) := by decide +kernel
theorem dX9_init_24 : decode cX9_init 24 = .ok (.goto 4, 3) := by decide +kernel
theorem dX9_init_27 : decode cX9_init 27 = .ok (.iload_n 1, 1) := by decide +kernel
theorem dX9_init_28 : decode cX9_init 28 = .ok (.istore_n 2, 1) := by decide +kernel
theorem dX9_init_29 : decode cX9_init 29 = .ok (.aload_n 0, 1) := by decide +kernel
theorem dX9_init_30 : decode cX9_init 30 = .ok (.iload_n 2, 1) := by decide +kernel
theorem dX9_init_31 : decode cX9_init 31 = .ok (.iload_n 2, 1) := by decide +kernel
theorem dX9_init_32 : decode cX9_init 32 = .ok (.imul, 1) := by decide +kernel
theorem dX9_init_33 : decode cX9_init 33 = .ok (.putfield 13, 3) := by decide +kernel
theorem dX9_init_36 : decode cX9_init 36 = .ok (.aload_n 0, 1) := by decide +kernel
theorem dX9_init_37 : decode cX9_init 37 = .ok (.new 17, 3) := by decide +kernel
theorem dX9_init_40 : decode cX9_init 40 = .ok (.dup, 1) := by decide +kernel
theorem dX9_init_41 : decode cX9_init 41 = .ok (.iload_n 2, 1) := by decide +kernel
theorem dX9_init_42 : decode cX9_init 42 = .ok (.invokespecial 19, 3) := by decide +kernel
theorem dX9_init_45 : decode cX9_init 45 = .ok (.putfield 22, 3) := by decide +kernel
theorem dX9_init_48 : decode cX9_init 48 = .ok (.aload_n 0, 1) := by decide +kernel
theorem dX9_init_49 : decode cX9_init 49 = .ok (.new 26, 3) := by decide +kernel
theorem dX9_init_52 : decode cX9_init 52 = .ok (.dup, 1) := by decide +kernel
theorem dX9_init_53 : decode cX9_init 53 = .ok (.iload_n 2, 1) := by decide +kernel
theorem dX9_init_54 : decode cX9_init 54 = .ok (.invokespecial 28, 3) := by decide +kernel
theorem dX9_init_57 : decode cX9_init 57 = .ok (.putfield 29, 3) := by decide +kernel
theorem dX9_init_60 : decode cX9_init 60 = .ok (.aload_n 0, 1) := by decide +kernel
theorem dX9_init_61 : decode cX9_init 61 = .ok (.new 33, 3) := by decide +kernel
theorem dX9_init_64 : decode cX9_init 64 = .ok (.dup, 1) := by decide +kernel
theorem dX9_init_65 : decode cX9_init 65 = .ok (.aload_n 0, 1) := by decide +kernel
theorem dX9_init_66 : decode cX9_init 66 = .ok (.getfield 22, 3) := by decide +kernel
theorem dX9_init_69 : decode cX9_init 69 = .ok (.invokespecial 35, 3) := by decide +kernel
theorem dX9_init_72 : decode cX9_init 72 = .ok (.putfield 38, 3) := by decide +kernel
theorem dX9_init_75 : decode cX9_init 75 = .ok (.aload_n 0, 1) := by decide +kernel
theorem dX9_init_76 : decode cX9_init 76 = .ok (.new 42, 3) := by decide +kernel
theorem dX9_init_79 : decode cX9_init 79 = .ok (.dup, 1) := by decide +kernel
theorem dX9_init_80 : decode cX9_init 80 = .ok (.aload_n 0, 1) := by decide +kernel
theorem dX9_init_81 : decode cX9_init 81 = .ok (.getfield 22, 3) := by decide +kernel
theorem dX9_init_84 : decode cX9_init 84 = .ok (.aload_n 0, 1) := by decide +kernel
theorem dX9_init_85 : decode cX9_init 85 = .ok (.getfield 38, 3) := by decide +kernel
theorem dX9_init_88 : decode cX9_init 88 = .ok (.invokespecial 44, 3) := by decide +kernel
theorem dX9_init_91 : decode cX9_init 91 = .ok (.putfield 47, 3) := by decide +kernel
theorem dX9_init_94 : decode cX9_init 94 = .ok (.aload_n 0, 1) := by decide +kernel
theorem dX9_init_95 : decode cX9_init 95 = .ok (.new 51, 3) := by decide +kernel
theorem dX9_init_98 : decode cX9_init 98 = .ok (.dup, 1) := by decide +kernel
theorem dX9_init_99 : decode cX9_init 99 = .ok (.aload_n 0, 1) := by decide +kernel
theorem dX9_init_100 : decode cX9_init 100 = .ok (.getfield 47, 3) := by decide +kernel
theorem dX9_init_103 : decode cX9_init 103 = .ok (.aload_n 0, 1) := by decide +kernel
theorem dX9_init_104 : decode cX9_init 104 = .ok (.getfield 38, 3) := by decide +kernel
theorem dX9_init_107 : decode cX9_init 107 = .ok (.invokespecial 53, 3) := by decide +kernel
theorem dX9_init_110 : decode cX9_init 110 = .ok (.putfield 56, 3) := by decide +kernel
theorem dX9_init_113 : decode cX9_init 113 = .ok (.aload_n 0, 1) := by decide +kernel
theorem dX9_init_114 : decode cX9_init 114 = .ok (.new 60, 3) := by decide +kernel
theorem dX9_init_117 : decode cX9_init 117 = .ok (.dup, 1) := by decide +kernel
theorem dX9_init_118 : decode cX9_init 118 = .ok (.iload_n 2, 1) := by decide +kernel
theorem dX9_init_119 : decode cX9_init 119 = .ok (.invokespecial 62, 3) := by decide +kernel
theorem dX9_init_122 : decode cX9_init 122 = .ok (.putfield 63, 3) := by decide +kernel
theorem dX9_init_125 : decode cX9_init 125 = .ok (.aload_n 0, 1) := by decide +kernel
theorem dX9_init_126 : decode cX9_init 126 = .ok (.new 67, 3) := by decide +kernel
theorem dX9_init_129 : decode cX9_init 129 = .ok (.dup, 1) := by decide +kernel
theorem dX9_init_130 : decode cX9_init 130 = .ok (.aload_n 0, 1) := by decide +kernel
theorem dX9_init_131 : decode cX9_init 131 = .ok (.getfield 38, 3) := by decide +kernel
theorem dX9_init_134 : decode cX9_init 134 = .ok (.invokespecial 69, 3) := by decide +kernel
theorem dX9_init_137 : decode cX9_init 137 = .ok (.putfield 72, 3) := by decide +kernel
theorem dX9_init_140 : decode cX9_init 140 = .ok (.aload_n 0, 1) := by decide +kernel
theorem dX9_init_141 : decode cX9_init 141 = .ok (.new 67, 3) := by decide +kernel
theorem dX9_init_144 : decode cX9_init 144 = .ok (.dup, 1) := by decide +kernel
theorem dX9_init_145 : decode cX9_init 145 = .ok (.aload_n 0, 1) := by decide +kernel
theorem dX9_init_146 : decode cX9_init 146 = .ok (.getfield 38, 3) := by decide +kernel
theorem dX9_init_149 : decode cX9_init 149 = .ok (.invokespecial 69, 3) := by decide +kernel
theorem dX9_init_152 : decode cX9_init 152 = .ok (.putfield 76, 3) := by decide +kernel
theorem dX9_init_155 : decode cX9_init 155 = .ok (.return_, 1) := by decide +kernel
theorem dX9_kind_0 : decode cX9_kind 0 = .ok (.iload_n 1, 1) := by decide +kernel
theorem dX9_kind_1 : decode cX9_kind 1 = .ok (.ifCond .lt 23, 3) := by decide +kernel
theorem dX9_kind_4 : decode cX9_kind 4 = .ok (.iload_n 1, 1) := by decide +kernel
theorem dX9_kind_5 : decode cX9_kind 5 = .ok (.bipush 7, 2) := by decide +kernel
theorem dX9_kind_7 : decode cX9_kind 7 = .ok (.if_icmp .gt 17, 3) := by decide +kernel
theorem dX9_kind_10 : decode cX9_kind 10 = .ok (.iload_n 2, 1) := by decide +kernel
theorem dX9_kind_11 : decode cX9_kind 11 = .ok (.invokestatic 79, 3) := by decide +kernel
theorem dX9_kind_14 : decode cX9_kind 14 = .ok (.ifCond .eq 10, 3) := by decide +kernel
theorem dX9_kind_17 : decode cX9_kind 17 = .ok (.iload_n 3, 1) := by decide +kernel
theorem dX9_kind_18 : decode cX9_kind 18 = .ok (.invokestatic 83, 3) := by decide +kernel
theorem dX9_kind_21 : decode cX9_kind 21 = .ok (.ifCond .ne 6, 3) := by decide +kernel
theorem dX9_kind_24 : decode cX9_kind 24 = .ok (.bipush (-2), 2) := by decide +kernel
theorem dX9_kind_26 : decode cX9_kind 26 = .ok (.ireturn, 1) := by decide +kernel
theorem dX9_kind_27 : decode cX9_kind 27 = .ok (.iload 4, 2) := by decide +kernel
theorem dX9_kind_29 : decode cX9_kind 29 = .ok (.invokestatic 79, 3) := by decide +kernel
theorem dX9_kind_32 : decode cX9_kind 32 = .ok (.ifCond .eq 22, 3) := by decide +kernel
theorem dX9_kind_35 : decode cX9_kind 35 = .ok (.iload 5, 2) := by decide +kernel
theorem dX9_kind_37 : decode cX9_kind 37 = .ok (.invokestatic 83, 3) := by decide +kernel
theorem dX9_kind_40 : decode cX9_kind 40 = .ok (.ifCond .eq 14, 3) := by decide +kernel
theorem dX9_kind_43 : decode cX9_kind 43 = .ok (.iload 6, 2) := by decide +kernel
theorem dX9_kind_45 : decode cX9_kind 45 = .ok (.ifCond .lt 9, 3) := by decide +kernel
theorem dX9_kind_48 : decode cX9_kind 48 = .ok (.iload 6, 2) := by decide +kernel
theorem dX9_kind_50 : decode cX9_kind 50 = .ok (.iconst 3, 1) := by decide +kernel
theorem dX9_kind_51 : decode cX9_kind 51 = .ok (.if_icmp .le 6, 3) := by decide +kernel
theorem dX9_kind_54 : decode cX9_kind 54 = .ok (.bipush (-2), 2) := by decide +kernel
theorem dX9_kind_56 : decode cX9_kind 56 = .ok (.ireturn, 1) := by decide +kernel
theorem dX9_kind_57 : decode cX9_kind 57 = .ok (.iload_n 1, 1) := by decide +kernel
theorem dX9_kind_58 : decode cX9_kind 58 = .ok (.ifCond .ne 17, 3) := by decide +kernel
theorem dX9_kind_61 : decode cX9_kind 61 = .ok (.iload 4, 2) := by decide +kernel
theorem dX9_kind_63 : decode cX9_kind 63 = .ok (.iload 5, 2) := by decide +kernel
theorem dX9_kind_65 : decode cX9_kind 65 = .ok (.ior, 1) := by decide +kernel
theorem dX9_kind_66 : decode cX9_kind 66 = .ok (.iload 6, 2) := by decide +kernel
theorem dX9_kind_68 : decode cX9_kind 68 = .ok (.ior, 1) := by decide +kernel
theorem dX9_kind_69 : decode cX9_kind 69 = .ok (.ifCond .eq 6, 3) := by decide +kernel
theorem dX9_kind_72 : decode cX9_kind 72 = .ok (.bipush (-2), 2) := by decide +kernel
theorem dX9_kind_74 : decode cX9_kind 74 = .ok (.ireturn, 1) := by decide +kernel
theorem dX9_kind_75 : decode cX9_kind 75 = .ok (.aload_n 0, 1) := by decide +kernel
theorem dX9_kind_76 : decode cX9_kind 76 = .ok (.getfield 86, 3) := by decide +kernel
theorem dX9_kind_79 : decode cX9_kind 79 = .ok (.ifCond .eq 6, 3) := by decide +kernel
theorem dX9_kind_82 : decode cX9_kind 82 = .ok (.bipush (-3), 2) := by decide +kernel
theorem dX9_kind_84 : decode cX9_kind 84 = .ok (.ireturn, 1) := by decide +kernel
theorem dX9_kind_85 : decode cX9_kind 85 = .ok (.aload_n 0, 1) := by decide +kernel
theorem dX9_kind_86 : decode cX9_kind 86 = .ok (.getfield 22, 3) := by decide +kernel
theorem dX9_kind_89 : decode cX9_kind 89 = .ok (.iload_n 1, 1) := by decide +kernel
theorem dX9_kind_90 : decode cX9_kind 90 = .ok (.iload_n 2, 1) := by decide +kernel
theorem dX9_kind_91 : decode cX9_kind 91 = .ok (.iload_n 3, 1) := by decide +kernel
theorem dX9_kind_92 : decode cX9_kind 92 = .ok (.invokevirtual 90, 3) := by decide +kernel
theorem dX9_kind_95 : decode cX9_kind 95 = .ok (.aload_n 0, 1) := by decide +kernel
theorem dX9_kind_96 : decode cX9_kind 96 = .ok (.getfield 22, 3) := by decide +kernel
theorem dX9_kind_99 : decode cX9_kind 99 = .ok (.iload_n 1, 1) := by decide +kernel
theorem dX9_kind_100 : decode cX9_kind 100 = .ok (.bipush 8, 2) := by decide +kernel
theorem dX9_kind_102 : decode cX9_kind 102 = .ok (.iadd, 1) := by decide +kernel
theorem dX9_kind_103 : decode cX9_kind 103 = .ok (.iload 4, 2) := by decide +kernel
theorem dX9_kind_105 : decode cX9_kind 105 = .ok (.iload 5, 2) := by decide +kernel
theorem dX9_kind_107 : decode cX9_kind 107 = .ok (.invokevirtual 90, 3) := by decide +kernel
theorem dX9_kind_110 : decode cX9_kind 110 = .ok (.aload_n 0, 1) := by decide +kernel
theorem dX9_kind_111 : decode cX9_kind 111 = .ok (.getfield 22, 3) := by decide +kernel
theorem dX9_kind_114 : decode cX9_kind 114 = .ok (.getfield 94, 3) := by decide +kernel
theorem dX9_kind_117 : decode cX9_kind 117 = .ok (.iload_n 1, 1) := by decide +kernel
theorem dX9_kind_118 : decode cX9_kind 118 = .ok (.iload 6, 2) := by decide +kernel
theorem dX9_kind_120 : decode cX9_kind 120 = .ok (.iastore, 1) := by decide +kernel
theorem dX9_kind_121 : decode cX9_kind 121 = .ok (.iconst 1, 1) := by decide +kernel
theorem dX9_kind_122 : decode cX9_kind 122 = .ok (.ireturn, 1) := by decide +kernel
theorem dX9_line_0 : decode cX9_line 0 = .ok (.aload_n 0, 1) := by decide +kernel
theorem dX9_line_1 : decode cX9_line 1 = .ok (.getfield 29, 3) := by decide +kernel
theorem dX9_line_4 : decode cX9_line 4 = .ok (.iload_n 1, 1) := by decide +kernel
theorem dX9_line_5 : decode cX9_line 5 = .ok (.invokevirtual 97, 3) := by decide +kernel
theorem dX9_line_8 : decode cX9_line 8 = .ok (.ifCond .eq 16, 3) := by decide +kernel
theorem dX9_line_11 : decode cX9_line 11 = .ok (.iload_n 2, 1) := by decide +kernel
theorem dX9_line_12 : decode cX9_line 12 = .ok (.invokestatic 100, 3) := by decide +kernel
theorem dX9_line_15 : decode cX9_line 15 = .ok (.ifCond .eq 9, 3) := by decide +kernel
theorem dX9_line_18 : decode cX9_line 18 = .ok (.iload_n 3, 1) := by decide +kernel
theorem dX9_line_19 : decode cX9_line 19 = .ok (.bipush 12, 2) := by decide +kernel
theorem dX9_line_21 : decode cX9_line 21 = .ok (.if_icmp .le 6, 3) := by decide +kernel
theorem dX9_line_24 : decode cX9_line 24 = .ok (.bipush (-2), 2) := by decide +kernel
theorem dX9_line_26 : decode cX9_line 26 = .ok (.ireturn, 1) := by decide +kernel
theorem dX9_line_27 : decode cX9_line 27 = .ok (.iload_n 3, 1) := by decide +kernel
theorem dX9_line_28 : decode cX9_line 28 = .ok (.ifCond .ge 9, 3) := by decide +kernel
theorem dX9_line_31 : decode cX9_line 31 = .ok (.aload_n 0, 1) := by decide +kernel
theorem dX9_line_32 : decode cX9_line 32 = .ok (.iconst 5, 1) := by decide +kernel
theorem dX9_line_33 : decode cX9_line 33 = .ok (.invokevirtual 103, 3) := by decide +kernel
theorem dX9_line_36 : decode cX9_line 36 = .ok (.ireturn, 1) := by decide +kernel
theorem dX9_line_37 : decode cX9_line 37 = .ok (.aload_n 0, 1) := by decide +kernel
theorem dX9_line_38 : decode cX9_line 38 = .ok (.getfield 29, 3) := by decide +kernel
theorem dX9_line_41 : decode cX9_line 41 = .ok (.iload_n 1, 1) := by decide +kernel
theorem dX9_line_42 : decode cX9_line 42 = .ok (.iload_n 2, 1) := by decide +kernel
theorem dX9_line_43 : decode cX9_line 43 = .ok (.iload_n 3, 1) := by decide +kernel
theorem dX9_line_44 : decode cX9_line 44 = .ok (.invokevirtual 107, 3) := by decide +kernel
theorem dX9_line_47 : decode cX9_line 47 = .ok (.iload_n 3, 1) := by decide +kernel
theorem dX9_line_48 : decode cX9_line 48 = .ok (.ireturn, 1) := by decide +kernel
theorem dX9_lose_0 : decode cX9_lose 0 = .ok (.aload_n 0, 1) := by decide +kernel
theorem dX9_lose_1 : decode cX9_lose 1 = .ok (.getfield 29, 3) := by decide +kernel
theorem dX9_lose_4 : decode cX9_lose 4 = .ok (.iload_n 1, 1) := by decide +kernel
theorem dX9_lose_5 : decode cX9_lose 5 = .ok (.invokevirtual 97, 3) := by decide +kernel
theorem dX9_lose_8 : decode cX9_lose 8 = .ok (.ifCond .ne 6, 3) := by decide +kernel
theorem dX9_lose_11 : decode cX9_lose 11 = .ok (.bipush (-2), 2) := by decide +kernel
theorem dX9_lose_13 : decode cX9_lose 13 = .ok (.ireturn, 1) := by decide +kernel
theorem dX9_lose_14 : decode cX9_lose 14 = .ok (.aload_n 0, 1) := by decide +kernel
theorem dX9_lose_15 : decode cX9_lose 15 = .ok (.getfield 29, 3) := by decide +kernel
