theorem dX10_manyIn_16 : decode cX10_manyIn 16 = .ok (.getfield 108, 3) := by decide +kernel
theorem dX10_manyIn_19 : decode cX10_manyIn 19 = .ok (.iload_n 3, 1) := by decide +kernel
theorem dX10_manyIn_20 : decode cX10_manyIn 20 = .ok (.iaload, 1) := by decide +kernel
theorem dX10_manyIn_21 : decode cX10_manyIn 21 = .ok (.iload_n 1, 1) := by decide +kernel
theorem dX10_manyIn_22 : decode cX10_manyIn 22 = .ok (.if_icmp .ne 7, 3) := by decide +kernel
theorem dX10_manyIn_25 : decode cX10_manyIn 25 = .ok (.iconst 1, 1) := by decide +kernel
theorem dX10_manyIn_26 : decode cX10_manyIn 26 = .ok (.goto 4, 3) := by decide +kernel
theorem dX10_manyIn_29 : decode cX10_manyIn 29 = .ok (.iconst 0, 1) := by decide +kernel
theorem dX10_manyIn_30 : decode cX10_manyIn 30 = .ok (.iadd, 1) := by decide +kernel
theorem dX10_manyIn_31 : decode cX10_manyIn 31 = .ok (.istore_n 2, 1) := by decide +kernel
theorem dX10_manyIn_32 : decode cX10_manyIn 32 = .ok (.iinc 3 1, 3) := by decide +kernel
theorem dX10_manyIn_35 : decode cX10_manyIn 35 = .ok (.goto (-29), 3) := by decide +kernel
theorem dX10_manyIn_38 : decode cX10_manyIn 38 = .ok (.iload_n 2, 1) := by decide +kernel
theorem dX10_manyIn_39 : decode cX10_manyIn 39 = .ok (.ireturn, 1) := by decide +kernel
theorem dX10_verify_0 : decode cX10_verify 0 = .ok (.aload_n 0, 1) := by decide +kernel
theorem dX10_verify_1 : decode cX10_verify 1 = .ok (.getfield 159, 3) := by decide +kernel
theorem dX10_verify_4 : decode cX10_verify 4 = .ok (.ifCond .eq 10, 3) := by decide +kernel
theorem dX10_verify_7 : decode cX10_verify 7 = .ok (.aload_n 0, 1) := by decide +kernel
theorem dX10_verify_8 : decode cX10_verify 8 = .ok (.getfield 289, 3) := by decide +kernel
theorem dX10_verify_11 : decode cX10_verify 11 = .ok (.ifCond .ne 6, 3) := by decide +kernel
theorem dX10_verify_14 : decode cX10_verify 14 = .ok (.bipush (-3), 2) := by decide +kernel
theorem dX10_verify_16 : decode cX10_verify 16 = .ok (.ireturn, 1) := by decide +kernel
theorem dX10_verify_17 : decode cX10_verify 17 = .ok (.aload_n 0, 1) := by decide +kernel
theorem dX10_verify_18 : decode cX10_verify 18 = .ok (.iconst 0, 1) := by decide +kernel
theorem dX10_verify_19 : decode cX10_verify 19 = .ok (.invokevirtual 255, 3) := by decide +kernel
theorem dX10_verify_22 : decode cX10_verify 22 = .ok (.iconst 0, 1) := by decide +kernel
theorem dX10_verify_23 : decode cX10_verify 23 = .ok (.istore_n 1, 1) := by decide +kernel
theorem dX10_verify_24 : decode cX10_verify 24 = .ok (.iload_n 1, 1) := by decide +kernel
theorem dX10_verify_25 : decode cX10_verify 25 = .ok (.aload_n 0, 1) := by decide +kernel
theorem dX10_verify_26 : decode cX10_verify 26 = .ok (.getfield 289, 3) := by decide +kernel
theorem dX10_verify_29 : decode cX10_verify 29 = .ok (.if_icmp .ge 172, 3) := by decide +kernel
theorem dX10_verify_32 : decode cX10_verify 32 = .ok (.aload_n 0, 1) := by decide +kernel
theorem dX10_verify_33 : decode cX10_verify 33 = .ok (.getfield 123, 3) := by decide +kernel
theorem dX10_verify_36 : decode cX10_verify 36 = .ok (.iload_n 1, 1) := by decide +kernel
theorem dX10_verify_37 : decode cX10_verify 37 = .ok (.iaload, 1) := by decide +kernel
theorem dX10_verify_38 : decode cX10_verify 38 = .ok (.istore_n 2, 1) := by decide +kernel
theorem dX10_verify_39 : decode cX10_verify 39 = .ok (.aload_n 0, 1) := by decide +kernel
theorem dX10_verify_40 : decode cX10_verify 40 = .ok (.iload_n 2, 1) := by decide +kernel
theorem dX10_verify_41 : decode cX10_verify 41 = .ok (.aload_n 0, 1) := by decide +kernel
theorem dX10_verify_42 : decode cX10_verify 42 = .ok (.getfield 111, 3) := by decide +kernel
theorem dX10_verify_45 : decode cX10_verify 45 = .ok (.iload_n 1, 1) := by decide +kernel
theorem dX10_verify_46 : decode cX10_verify 46 = .ok (.iaload, 1) := by decide +kernel
theorem dX10_verify_47 : decode cX10_verify 47 = .ok (.aload_n 0, 1) := by decide +kernel
theorem dX10_verify_48 : decode cX10_verify 48 = .ok (.getfield 114, 3) := by decide +kernel
theorem dX10_verify_51 : decode cX10_verify 51 = .ok (.iload_n 1, 1) := by decide +kernel
theorem dX10_verify_52 : decode cX10_verify 52 = .ok (.iaload, 1) := by decide +kernel
theorem dX10_verify_53 : decode cX10_verify 53 = .ok (.aload_n 0, 1) := by decide +kernel
theorem dX10_verify_54 : decode cX10_verify 54 = .ok (.getfield 117, 3) := by decide +kernel
theorem dX10_verify_57 : decode cX10_verify 57 = .ok (.iload_n 1, 1) := by decide +kernel
theorem dX10_verify_58 : decode cX10_verify 58 = .ok (.iaload, 1) := by decide +kernel
theorem dX10_verify_59 : decode cX10_verify 59 = .ok (.aload_n 0, 1) := by decide +kernel
theorem dX10_verify_60 : decode cX10_verify 60 = .ok (.getfield 120, 3) := by decide +kernel
theorem dX10_verify_63 : decode cX10_verify 63 = .ok (.iload_n 1, 1) := by decide +kernel
theorem dX10_verify_64 : decode cX10_verify 64 = .ok (.iaload, 1) := by decide +kernel
theorem dX10_verify_65 : decode cX10_verify 65 = .ok (.invokevirtual 323, 3) := by decide +kernel
theorem dX10_verify_68 : decode cX10_verify 68 = .ok (.istore_n 3, 1) := by decide +kernel
theorem dX10_verify_69 : decode cX10_verify 69 = .ok (.iload_n 2, 1) := by decide +kernel
theorem dX10_verify_70 : decode cX10_verify 70 = .ok (.iconst 2, 1) := by decide +kernel
theorem dX10_verify_71 : decode cX10_verify 71 = .ok (.irem, 1) := by decide +kernel
theorem dX10_verify_72 : decode cX10_verify 72 = .ok (.iconst 1, 1) := by decide +kernel
theorem dX10_verify_73 : decode cX10_verify 73 = .ok (.if_icmp .ne 63, 3) := by decide +kernel
theorem dX10_verify_76 : decode cX10_verify 76 = .ok (.aload_n 0, 1) := by decide +kernel
theorem dX10_verify_77 : decode cX10_verify 77 = .ok (.getfield 126, 3) := by decide +kernel
theorem dX10_verify_80 : decode cX10_verify 80 = .ok (.iload_n 2, 1) := by decide +kernel
theorem dX10_verify_81 : decode cX10_verify 81 = .ok (.aload_n 0, 1) := by decide +kernel
theorem dX10_verify_82 : decode cX10_verify 82 = .ok (.getfield 108, 3) := by decide +kernel
theorem dX10_verify_85 : decode cX10_verify 85 = .ok (.iload_n 1, 1) := by decide +kernel
theorem dX10_verify_86 : decode cX10_verify 86 = .ok (.iaload, 1) := by decide +kernel
theorem dX10_verify_87 : decode cX10_verify 87 = .ok (.iload_n 1, 1) := by decide +kernel
theorem dX10_verify_88 : decode cX10_verify 88 = .ok (.iconst 1, 1) := by decide +kernel
theorem dX10_verify_89 : decode cX10_verify 89 = .ok (.isub, 1) := by decide +kernel
theorem dX10_verify_90 : decode cX10_verify 90 = .ok (.if_icmp .ne 7, 3) := by decide +kernel
theorem dX10_verify_93 : decode cX10_verify 93 = .ok (.iconst 0, 1) := by decide +kernel
theorem dX10_verify_94 : decode cX10_verify 94 = .ok (.goto 11, 3) := by decide +kernel
theorem dX10_verify_97 : decode cX10_verify 97 = .ok (.aload_n 0, 1) := by decide +kernel
theorem dX10_verify_98 : decode cX10_verify 98 = .ok (.getfield 126, 3) := by decide +kernel
theorem dX10_verify_101 : decode cX10_verify 101 = .ok (.iload_n 2, 1) := by decide +kernel
theorem dX10_verify_102 : decode cX10_verify 102 = .ok (.iaload, 1) := by decide +kernel
theorem dX10_verify_103 : decode cX10_verify 103 = .ok (.iconst 1, 1) := by decide +kernel
theorem dX10_verify_104 : decode cX10_verify 104 = .ok (.iadd, 1) := by decide +kernel
theorem dX10_verify_105 : decode cX10_verify 105 = .ok (.iastore, 1) := by decide +kernel
theorem dX10_verify_106 : decode cX10_verify 106 = .ok (.iload_n 3, 1) := by decide +kernel
theorem dX10_verify_107 : decode cX10_verify 107 = .ok (.aload_n 0, 1) := by decide +kernel
theorem dX10_verify_108 : decode cX10_verify 108 = .ok (.getfield 126, 3) := by decide +kernel
theorem dX10_verify_111 : decode cX10_verify 111 = .ok (.iload_n 2, 1) := by decide +kernel
theorem dX10_verify_112 : decode cX10_verify 112 = .ok (.iaload, 1) := by decide +kernel
theorem dX10_verify_113 : decode cX10_verify 113 = .ok (.if_icmp .eq 7, 3) := by decide +kernel
theorem dX10_verify_116 : decode cX10_verify 116 = .ok (.iload_n 1, 1) := by decide +kernel
theorem dX10_verify_117 : decode cX10_verify 117 = .ok (.iconst 1, 1) := by decide +kernel
theorem dX10_verify_118 : decode cX10_verify 118 = .ok (.iadd, 1) := by decide +kernel
theorem dX10_verify_119 : decode cX10_verify 119 = .ok (.ireturn, 1) := by decide +kernel
theorem dX10_verify_120 : decode cX10_verify 120 = .ok (.aload_n 0, 1) := by decide +kernel
theorem dX10_verify_121 : decode cX10_verify 121 = .ok (.iload_n 2, 1) := by decide +kernel
theorem dX10_verify_122 : decode cX10_verify 122 = .ok (.iload_n 3, 1) := by decide +kernel
theorem dX10_verify_123 : decode cX10_verify 123 = .ok (.invokevirtual 297, 3) := by decide +kernel
theorem dX10_verify_126 : decode cX10_verify 126 = .ok (.aload_n 0, 1) := by decide +kernel
theorem dX10_verify_127 : decode cX10_verify 127 = .ok (.iload_n 2, 1) := by decide +kernel
theorem dX10_verify_128 : decode cX10_verify 128 = .ok (.iconst 1, 1) := by decide +kernel
theorem dX10_verify_129 : decode cX10_verify 129 = .ok (.iadd, 1) := by decide +kernel
theorem dX10_verify_130 : decode cX10_verify 130 = .ok (.invokevirtual 255, 3) := by decide +kernel
theorem dX10_verify_133 : decode cX10_verify 133 = .ok (.goto 62, 3) := by decide +kernel
theorem dX10_verify_136 : decode cX10_verify 136 = .ok (.iload_n 3, 1) := by decide +kernel
theorem dX10_verify_137 : decode cX10_verify 137 = .ok (.ifCond .ge 7, 3) := by decide +kernel
theorem dX10_verify_140 : decode cX10_verify 140 = .ok (.iload_n 1, 1) := by decide +kernel
theorem dX10_verify_141 : decode cX10_verify 141 = .ok (.iconst 1, 1) := by decide +kernel
theorem dX10_verify_142 : decode cX10_verify 142 = .ok (.iadd, 1) := by decide +kernel
theorem dX10_verify_143 : decode cX10_verify 143 = .ok (.ireturn, 1) := by decide +kernel
theorem dX10_verify_144 : decode cX10_verify 144 = .ok (.aload_n 0, 1) := by decide +kernel
theorem dX10_verify_145 : decode cX10_verify 145 = .ok (.iload_n 2, 1) := by decide +kernel
theorem dX10_verify_146 : decode cX10_verify 146 = .ok (.iload_n 3, 1) := by decide +kernel
theorem dX10_verify_147 : decode cX10_verify 147 = .ok (.invokevirtual 297, 3) := by decide +kernel
theorem dX10_verify_150 : decode cX10_verify 150 = .ok (.aload_n 0, 1) := by decide +kernel
theorem dX10_verify_151 : decode cX10_verify 151 = .ok (.iload_n 2, 1) := by decide +kernel
theorem dX10_verify_152 : decode cX10_verify 152 = .ok (.iconst 1, 1) := by decide +kernel
theorem dX10_verify_153 : decode cX10_verify 153 = .ok (.iadd, 1) := by decide +kernel
theorem dX10_verify_154 : decode cX10_verify 154 = .ok (.invokevirtual 255, 3) := by decide +kernel
theorem dX10_verify_157 : decode cX10_verify 157 = .ok (.aload_n 0, 1) := by decide +kernel
theorem dX10_verify_158 : decode cX10_verify 158 = .ok (.iload_n 2, 1) := by decide +kernel
theorem dX10_verify_159 : decode cX10_verify 159 = .ok (.iconst 1, 1) := by decide +kernel
theorem dX10_verify_160 : decode cX10_verify 160 = .ok (.iadd, 1) := by decide +kernel
theorem dX10_verify_161 : decode cX10_verify 161 = .ok (.aload_n 0, 1) := by decide +kernel
theorem dX10_verify_162 : decode cX10_verify 162 = .ok (.getfield 37, 3) := by decide +kernel
theorem dX10_verify_165 : decode cX10_verify 165 = .ok (.iload_n 2, 1) := by decide +kernel
theorem dX10_verify_166 : decode cX10_verify 166 = .ok (.iconst 1, 1) := by decide +kernel
theorem dX10_verify_167 : decode cX10_verify 167 = .ok (.iadd, 1) := by decide +kernel
theorem dX10_verify_168 : decode cX10_verify 168 = .ok (.iaload, 1) := by decide +kernel
theorem dX10_verify_169 : decode cX10_verify 169 = .ok (.invokevirtual 241, 3) := by decide +kernel
theorem dX10_verify_172 : decode cX10_verify 172 = .ok (.ifCond .eq 19, 3) := by decide +kernel
theorem dX10_verify_175 : decode cX10_verify 175 = .ok (.aload_n 0, 1) := by decide +kernel
theorem dX10_verify_176 : decode cX10_verify 176 = .ok (.getfield 40, 3) := by decide +kernel
theorem dX10_verify_179 : decode cX10_verify 179 = .ok (.iload_n 2, 1) := by decide +kernel
theorem dX10_verify_180 : decode cX10_verify 180 = .ok (.iconst 1, 1) := by decide +kernel
theorem dX10_verify_181 : decode cX10_verify 181 = .ok (.iadd, 1) := by decide +kernel
theorem dX10_verify_182 : decode cX10_verify 182 = .ok (.iaload, 1) := by decide +kernel
theorem dX10_verify_183 : decode cX10_verify 183 = .ok (.aload_n 0, 1) := by decide +kernel
theorem dX10_verify_184 : decode cX10_verify 184 = .ok (.iload_n 1, 1) := by decide +kernel
theorem dX10_verify_185 : decode cX10_verify 185 = .ok (.invokevirtual 327, 3) := by decide +kernel
theorem dX10_verify_188 : decode cX10_verify 188 = .ok (.if_icmp .eq 7, 3) := by decide +kernel
theorem dX10_verify_191 : decode cX10_verify 191 = .ok (.iload_n 1, 1) := by decide +kernel
theorem dX10_verify_192 : decode cX10_verify 192 = .ok (.iconst 1, 1) := by decide +kernel
theorem dX10_verify_193 : decode cX10_verify 193 = .ok (.iadd, 1) := by decide +kernel
theorem dX10_verify_194 : decode cX10_verify 194 = .ok (.ireturn, 1) := by decide +kernel
theorem dX10_verify_195 : decode cX10_verify 195 = .ok (.iinc 1 1, 3) := by decide +kernel
theorem dX10_verify_198 : decode cX10_verify 198 = .ok (.goto (-174), 3) := by decide +kernel
theorem dX10_verify_201 : decode cX10_verify 201 = .ok (.iconst 0, 1) := by decide +kernel
theorem dX10_verify_202 : decode cX10_verify 202 = .ok (.ireturn, 1) := by decide +kernel
theorem dX10_say_0 : decode cX10_say 0 = .ok (.aload_n 0, 1) := by decide +kernel
theorem dX10_say_1 : decode cX10_say 1 = .ok (.getfield 330, 3) := by decide +kernel
theorem dX10_say_4 : decode cX10_say 4 = .ok (.sipush 2000, 3) := by decide +kernel
theorem dX10_say_7 : decode cX10_say 7 = .ok (.if_icmp .ge 13, 3) := by decide +kernel
theorem dX10_say_10 : decode cX10_say 10 = .ok (.aload_n 0, 1) := by decide +kernel
theorem dX10_say_11 : decode cX10_say 11 = .ok (.getfield 132, 3) := by decide +kernel
theorem dX10_say_14 : decode cX10_say 14 = .ok (.aload_n 0, 1) := by decide +kernel
theorem dX10_say_15 : decode cX10_say 15 = .ok (.getfield 330, 3) := by decide +kernel
theorem dX10_say_18 : decode cX10_say 18 = .ok (.iload_n 1, 1) := by decide +kernel
theorem dX10_say_19 : decode cX10_say 19 = .ok (.iastore, 1) := by decide +kernel
theorem dX10_say_20 : decode cX10_say 20 = .ok (.aload_n 0, 1) := by decide +kernel
theorem dX10_say_21 : decode cX10_say 21 = .ok (.dup, 1) := by decide +kernel
theorem dX10_say_22 : decode cX10_say 22 = .ok (.getfield 330, 3) := by decide +kernel
theorem dX10_say_25 : decode cX10_say 25 = .ok (.iconst 1, 1) := by decide +kernel
theorem dX10_say_26 : decode cX10_say 26 = .ok (.iadd, 1) := by decide +kernel
theorem dX10_say_27 : decode cX10_say 27 = .ok (.putfield 330, 3) := by decide +kernel
theorem dX10_say_30 : decode cX10_say 30 = .ok (.return_, 1) := by decide +kernel
theorem dX10_sayField_0 : decode cX10_sayField 0 = .ok (.aload_n 0, 1) := by decide +kernel
theorem dX10_sayField_1 : decode cX10_sayField 1 = .ok (.bipush 97, 2) := by decide +kernel
theorem dX10_sayField_3 : decode cX10_sayField 3 = .ok (.iload_n 1, 1) := by decide +kernel
theorem dX10_sayField_4 : decode cX10_sayField 4 = .ok (.aload_n 0, 1) := by decide +kernel
theorem dX10_sayField_5 : decode cX10_sayField 5 = .ok (.getfield 143, 3) := by decide +kernel
theorem dX10_sayField_8 : decode cX10_sayField 8 = .ok (.irem, 1) := by decide +kernel
theorem dX10_sayField_9 : decode cX10_sayField 9 = .ok (.iadd, 1) := by decide +kernel
theorem dX10_sayField_10 : decode cX10_sayField 10 = .ok (.invokevirtual 333, 3) := by decide +kernel
theorem dX10_sayField_13 : decode cX10_sayField 13 = .ok (.aload_n 0, 1) := by decide +kernel
theorem dX10_sayField_14 : decode cX10_sayField 14 = .ok (.bipush 49, 2) := by decide +kernel
theorem dX10_sayField_16 : decode cX10_sayField 16 = .ok (.iload_n 1, 1) := by decide +kernel
theorem dX10_sayField_17 : decode cX10_sayField 17 = .ok (.aload_n 0, 1) := by decide +kernel
theorem dX10_sayField_18 : decode cX10_sayField 18 = .ok (.getfield 143, 3) := by decide +kernel
theorem dX10_sayField_21 : decode cX10_sayField 21 = .ok (.idiv, 1) := by decide +kernel
theorem dX10_sayField_22 : decode cX10_sayField 22 = .ok (.iadd, 1) := by decide +kernel
theorem dX10_sayField_23 : decode cX10_sayField 23 = .ok (.invokevirtual 333, 3) := by decide +kernel
theorem dX10_sayField_26 : decode cX10_sayField 26 = .ok (.return_, 1) := by decide +kernel
theorem dX10_write_0 : decode cX10_write 0 = .ok (.aload_n 0, 1) := by decide +kernel
theorem dX10_write_1 : decode cX10_write 1 = .ok (.getfield 159, 3) := by decide +kernel
theorem dX10_write_4 : decode cX10_write 4 = .ok (.ifCond .ne 6, 3) := by decide +kernel
theorem dX10_write_7 : decode cX10_write 7 = .ok (.bipush (-3), 2) := by decide +kernel
theorem dX10_write_9 : decode cX10_write 9 = .ok (.ireturn, 1) := by decide +kernel
theorem dX10_write_10 : decode cX10_write 10 = .ok (.aload_n 0, 1) := by decide +kernel
theorem dX10_write_11 : decode cX10_write 11 = .ok (.iconst 0, 1) := by decide +kernel
theorem dX10_write_12 : decode cX10_write 12 = .ok (.putfield 330, 3) := by decide +kernel
theorem dX10_write_15 : decode cX10_write 15 = .ok (.iconst 0, 1) := by decide +kernel
theorem dX10_write_16 : decode cX10_write 16 = .ok (.istore_n 1, 1) := by decide +kernel
theorem dX10_write_17 : decode cX10_write 17 = .ok (.iload_n 1, 1) := by decide +kernel
theorem dX10_write_18 : decode cX10_write 18 = .ok (.aload_n 0, 1) := by decide +kernel
theorem dX10_write_19 : decode cX10_write 19 = .ok (.getfield 273, 3) := by decide +kernel
theorem dX10_write_22 : decode cX10_write 22 = .ok (.if_icmp .ge 97, 3) := by decide +kernel
theorem dX10_write_25 : decode cX10_write 25 = .ok (.sipush 300, 3) := by decide +kernel
theorem dX10_write_28 : decode cX10_write 28 = .ok (.aload_n 0, 1) := by decide +kernel
theorem dX10_write_29 : decode cX10_write 29 = .ok (.getfield 270, 3) := by decide +kernel
theorem dX10_write_32 : decode cX10_write 32 = .ok (.imul, 1) := by decide +kernel
theorem dX10_write_33 : decode cX10_write 33 = .ok (.iload_n 1, 1) := by decide +kernel
theorem dX10_write_34 : decode cX10_write 34 = .ok (.iadd, 1) := by decide +kernel
theorem dX10_write_35 : decode cX10_write 35 = .ok (.istore_n 2, 1) := by decide +kernel
theorem dX10_write_36 : decode cX10_write 36 = .ok (.iload_n 1, 1) := by decide +kernel
theorem dX10_write_37 : decode cX10_write 37 = .ok (.ifCond .le 9, 3) := by decide +kernel
theorem dX10_write_40 : decode cX10_write 40 = .ok (.aload_n 0, 1) := by decide +kernel
theorem dX10_write_41 : decode cX10_write 41 = .ok (.bipush 32, 2) := by decide +kernel
theorem dX10_write_43 : decode cX10_write 43 = .ok (.invokevirtual 333, 3) := by decide +kernel
theorem dX10_write_46 : decode cX10_write 46 = .ok (.aload_n 0, 1) := by decide +kernel
theorem dX10_write_47 : decode cX10_write 47 = .ok (.getfield 89, 3) := by decide +kernel
theorem dX10_write_50 : decode cX10_write 50 = .ok (.iload_n 2, 1) := by decide +kernel
theorem dX10_write_51 : decode cX10_write 51 = .ok (.iaload, 1) := by decide +kernel
theorem dX10_write_52 : decode cX10_write 52 = .ok (.ifCond .ge 25, 3) := by decide +kernel
theorem dX10_write_55 : decode cX10_write 55 = .ok (.aload_n 0, 1) := by decide +kernel
theorem dX10_write_56 : decode cX10_write 56 = .ok (.bipush 48, 2) := by decide +kernel
theorem dX10_write_58 : decode cX10_write 58 = .ok (.aload_n 0, 1) := by decide +kernel
theorem dX10_write_59 : decode cX10_write 59 = .ok (.getfield 98, 3) := by decide +kernel
theorem dX10_write_62 : decode cX10_write 62 = .ok (.iload_n 2, 1) := by decide +kernel
theorem dX10_write_63 : decode cX10_write 63 = .ok (.iaload, 1) := by decide +kernel
theorem dX10_write_64 : decode cX10_write 64 = .ok (.iadd, 1) := by decide +kernel
theorem dX10_write_65 : decode cX10_write 65 = .ok (.invokevirtual 333, 3) := by decide +kernel
theorem dX10_write_68 : decode cX10_write 68 = .ok (.aload_n 0, 1) := by decide +kernel
theorem dX10_write_69 : decode cX10_write 69 = .ok (.bipush 42, 2) := by decide +kernel
theorem dX10_write_71 : decode cX10_write 71 = .ok (.invokevirtual 333, 3) := by decide +kernel
theorem dX10_write_74 : decode cX10_write 74 = .ok (.goto 13, 3) := by decide +kernel
theorem dX10_write_77 : decode cX10_write 77 = .ok (.aload_n 0, 1) := by decide +kernel
theorem dX10_write_78 : decode cX10_write 78 = .ok (.aload_n 0, 1) := by decide +kernel
theorem dX10_write_79 : decode cX10_write 79 = .ok (.getfield 89, 3) := by decide +kernel
theorem dX10_write_82 : decode cX10_write 82 = .ok (.iload_n 2, 1) := by decide +kernel
theorem dX10_write_83 : decode cX10_write 83 = .ok (.iaload, 1) := by decide +kernel
theorem dX10_write_84 : decode cX10_write 84 = .ok (.invokevirtual 336, 3) := by decide +kernel
theorem dX10_write_87 : decode cX10_write 87 = .ok (.aload_n 0, 1) := by decide +kernel
theorem dX10_write_88 : decode cX10_write 88 = .ok (.aload_n 0, 1) := by decide +kernel
theorem dX10_write_89 : decode cX10_write 89 = .ok (.getfield 92, 3) := by decide +kernel
theorem dX10_write_92 : decode cX10_write 92 = .ok (.iload_n 2, 1) := by decide +kernel
theorem dX10_write_93 : decode cX10_write 93 = .ok (.iaload, 1) := by decide +kernel
theorem dX10_write_94 : decode cX10_write 94 = .ok (.invokevirtual 336, 3) := by decide +kernel
theorem dX10_write_97 : decode cX10_write 97 = .ok (.aload_n 0, 1) := by decide +kernel
theorem dX10_write_98 : decode cX10_write 98 = .ok (.getfield 95, 3) := by decide +kernel
theorem dX10_write_101 : decode cX10_write 101 = .ok (.iload_n 2, 1) := by decide +kernel
theorem dX10_write_102 : decode cX10_write 102 = .ok (.iaload, 1) := by decide +kernel
theorem dX10_write_103 : decode cX10_write 103 = .ok (.iconst 1, 1) := by decide +kernel
theorem dX10_write_104 : decode cX10_write 104 = .ok (.if_icmp .ne 9, 3) := by decide +kernel
theorem dX10_write_107 : decode cX10_write 107 = .ok (.aload_n 0, 1) := by decide +kernel
theorem dX10_write_108 : decode cX10_write 108 = .ok (.bipush 43, 2) := by decide +kernel
theorem dX10_write_110 : decode cX10_write 110 = .ok (.invokevirtual 333, 3) := by decide +kernel
theorem dX10_write_113 : decode cX10_write 113 = .ok (.iinc 1 1, 3) := by decide +kernel
theorem dX10_write_116 : decode cX10_write 116 = .ok (.goto (-99), 3) := by decide +kernel
theorem dX10_write_119 : decode cX10_write 119 = .ok (.aload_n 0, 1) := by decide +kernel
theorem dX10_write_120 : decode cX10_write 120 = .ok (.getfield 330, 3) := by decide +kernel
theorem dX10_write_123 : decode cX10_write 123 = .ok (.ireturn, 1) := by decide +kernel
theorem dX10_type_0 : decode cX10_type 0 = .ok (.iload_n 1, 1) := by decide +kernel
theorem dX10_type_1 : decode cX10_type 1 = .ok (.i2l, 1) := by decide +kernel
theorem dX10_type_2 : decode cX10_type 2 = .ok (.lconst 0, 1) := by decide +kernel
theorem dX10_type_3 : decode cX10_type 3 = .ok (.ldc2_w 155, 3) := by decide +kernel
theorem dX10_type_6 : decode cX10_type 6 = .ok (.invokestatic 139, 3) := by decide +kernel
theorem dX10_type_9 : decode cX10_type 9 = .ok (.ifCond .ne 6, 3) := by decide +kernel
theorem dX10_type_12 : decode cX10_type 12 = .ok (.bipush (-2), 2) := by decide +kernel
theorem dX10_type_14 : decode cX10_type 14 = .ok (.ireturn, 1) := by decide +kernel
theorem dX10_type_15 : decode cX10_type 15 = .ok (.aload_n 0, 1) := by decide +kernel
theorem dX10_type_16 : decode cX10_type 16 = .ok (.getfield 330, 3) := by decide +kernel
theorem dX10_type_19 : decode cX10_type 19 = .ok (.sipush 2000, 3) := by decide +kernel
theorem dX10_type_22 : decode cX10_type 22 = .ok (.if_icmp .ne 6, 3) := by decide +kernel
theorem dX10_type_25 : decode cX10_type 25 = .ok (.bipush (-4), 2) := by decide +kernel
theorem dX10_type_27 : decode cX10_type 27 = .ok (.ireturn, 1) := by decide +kernel
theorem dX10_type_28 : decode cX10_type 28 = .ok (.aload_n 0, 1) := by decide +kernel
theorem dX10_type_29 : decode cX10_type 29 = .ok (.getfield 132, 3) := by decide +kernel
theorem dX10_type_32 : decode cX10_type 32 = .ok (.aload_n 0, 1) := by decide +kernel
theorem dX10_type_33 : decode cX10_type 33 = .ok (.getfield 330, 3) := by decide +kernel
theorem dX10_type_36 : decode cX10_type 36 = .ok (.iload_n 1, 1) := by decide +kernel
theorem dX10_type_37 : decode cX10_type 37 = .ok (.iastore, 1) := by decide +kernel
theorem dX10_type_38 : decode cX10_type 38 = .ok (.aload_n 0, 1) := by decide +kernel
theorem dX10_type_39 : decode cX10_type 39 = .ok (.dup, 1) := by decide +kernel
theorem dX10_type_40 : decode cX10_type 40 = .ok (.getfield 330, 3) := by decide +kernel
theorem dX10_type_43 : decode cX10_type 43 = .ok (.iconst 1, 1) := by decide +kernel
theorem dX10_type_44 : decode cX10_type 44 = .ok (.iadd, 1) := by decide +kernel
theorem dX10_type_45 : decode cX10_type 45 = .ok (.putfield 330, 3) := by decide +kernel
theorem dX10_type_48 : decode cX10_type 48 = .ok (.aload_n 0, 1) := by decide +kernel
theorem dX10_type_49 : decode cX10_type 49 = .ok (.getfield 330, 3) := by decide +kernel
theorem dX10_type_52 : decode cX10_type 52 = .ok (.ireturn, 1) := by decide +kernel
theorem dX10_wipe_0 : decode cX10_wipe 0 = .ok (.aload_n 0, 1) := by decide +kernel
theorem dX10_wipe_1 : decode cX10_wipe 1 = .ok (.getfield 330, 3) := by decide +kernel
theorem dX10_wipe_4 : decode cX10_wipe 4 = .ok (.istore_n 1, 1) := by decide +kernel
theorem dX10_wipe_5 : decode cX10_wipe 5 = .ok (.aload_n 0, 1) := by decide +kernel
theorem dX10_wipe_6 : decode cX10_wipe 6 = .ok (.iconst 0, 1) := by decide +kernel
theorem dX10_wipe_7 : decode cX10_wipe 7 = .ok (.putfield 330, 3) := by decide +kernel
theorem dX10_wipe_10 : decode cX10_wipe 10 = .ok (.iload_n 1, 1) := by decide +kernel
theorem dX10_wipe_11 : decode cX10_wipe 11 = .ok (.ireturn, 1) := by decide +kernel
theorem dX10_letter_0 : decode cX10_letter 0 = .ok (.iload_n 1, 1) := by decide +kernel
theorem dX10_letter_1 : decode cX10_letter 1 = .ok (.i2l, 1) := by decide +kernel
theorem dX10_letter_2 : decode cX10_letter 2 = .ok (.lconst 0, 1) := by decide +kernel
theorem dX10_letter_3 : decode cX10_letter 3 = .ok (.aload_n 0, 1) := by decide +kernel
theorem dX10_letter_4 : decode cX10_letter 4 = .ok (.getfield 330, 3) := by decide +kernel
theorem dX10_letter_7 : decode cX10_letter 7 = .ok (.iconst 1, 1) := by decide +kernel
theorem dX10_letter_8 : decode cX10_letter 8 = .ok (.isub, 1) := by decide +kernel
theorem dX10_letter_9 : decode cX10_letter 9 = .ok (.i2l, 1) := by decide +kernel
theorem dX10_letter_10 : decode cX10_letter 10 = .ok (.invokestatic 139, 3) := by decide +kernel
theorem dX10_letter_13 : decode cX10_letter 13 = .ok (.ifCond .eq 12, 3) := by decide +kernel
theorem dX10_letter_16 : decode cX10_letter 16 = .ok (.aload_n 0, 1) := by decide +kernel
theorem dX10_letter_17 : decode cX10_letter 17 = .ok (.getfield 132, 3) := by decide +kernel
theorem dX10_letter_20 : decode cX10_letter 20 = .ok (.iload_n 1, 1) := by decide +kernel
theorem dX10_letter_21 : decode cX10_letter 21 = .ok (.iaload, 1) := by decide +kernel
theorem dX10_letter_22 : decode cX10_letter 22 = .ok (.goto 4, 3) := by decide +kernel
theorem dX10_letter_25 : decode cX10_letter 25 = .ok (.iconst (-1), 1) := by decide +kernel
theorem dX10_letter_26 : decode cX10_letter 26 = .ok (.ireturn, 1) := by decide +kernel
theorem dX10_fieldAt_0 : decode cX10_fieldAt 0 = .ok (.aload_n 0, 1) := by decide +kernel
theorem dX10_fieldAt_1 : decode cX10_fieldAt 1 = .ok (.getfield 132, 3) := by decide +kernel
theorem dX10_fieldAt_4 : decode cX10_fieldAt 4 = .ok (.iload_n 1, 1) := by decide +kernel
theorem dX10_fieldAt_5 : decode cX10_fieldAt 5 = .ok (.iaload, 1) := by decide +kernel
theorem dX10_fieldAt_6 : decode cX10_fieldAt 6 = .ok (.bipush 97, 2) := by decide +kernel
theorem dX10_fieldAt_8 : decode cX10_fieldAt 8 = .ok (.isub, 1) := by decide +kernel
theorem dX10_fieldAt_9 : decode cX10_fieldAt 9 = .ok (.istore_n 2, 1) := by decide +kernel
theorem dX10_fieldAt_10 : decode cX10_fieldAt 10 = .ok (.aload_n 0, 1) := by decide +kernel
theorem dX10_fieldAt_11 : decode cX10_fieldAt 11 = .ok (.getfield 132, 3) := by decide +kernel
theorem dX10_fieldAt_14 : decode cX10_fieldAt 14 = .ok (.iload_n 1, 1) := by decide +kernel
theorem dX10_fieldAt_15 : decode cX10_fieldAt 15 = .ok (.iconst 1, 1) := by decide +kernel
theorem dX10_fieldAt_16 : decode cX10_fieldAt 16 = .ok (.iadd, 1) := by decide +kernel
theorem dX10_fieldAt_17 : decode cX10_fieldAt 17 = .ok (.iaload, 1) := by decide +kernel
theorem dX10_fieldAt_18 : decode cX10_fieldAt 18 = .ok (.bipush 49, 2) := by decide +kernel
theorem dX10_fieldAt_20 : decode cX10_fieldAt 20 = .ok (.isub, 1) := by decide +kernel
theorem dX10_fieldAt_21 : decode cX10_fieldAt 21 = .ok (.istore_n 3, 1) := by decide +kernel
theorem dX10_fieldAt_22 : decode cX10_fieldAt 22 = .ok (.iload_n 2, 1) := by decide +kernel
theorem dX10_fieldAt_23 : decode cX10_fieldAt 23 = .ok (.i2l, 1) := by decide +kernel
theorem dX10_fieldAt_24 : decode cX10_fieldAt 24 = .ok (.lconst 0, 1) := by decide +kernel
theorem dX10_fieldAt_25 : decode cX10_fieldAt 25 = .ok (.aload_n 0, 1) := by decide +kernel
theorem dX10_fieldAt_26 : decode cX10_fieldAt 26 = .ok (.getfield 143, 3) := by decide +kernel
theorem dX10_fieldAt_29 : decode cX10_fieldAt 29 = .ok (.iconst 1, 1) := by decide +kernel
theorem dX10_fieldAt_30 : decode cX10_fieldAt 30 = .ok (.isub, 1) := by decide +kernel
theorem dX10_fieldAt_31 : decode cX10_fieldAt 31 = .ok (.i2l, 1) := by decide +kernel
theorem dX10_fieldAt_32 : decode cX10_fieldAt 32 = .ok (.invokestatic 139, 3) := by decide +kernel
theorem dX10_fieldAt_35 : decode cX10_fieldAt 35 = .ok (.ifCond .eq 30, 3) := by decide +kernel
theorem dX10_fieldAt_38 : decode cX10_fieldAt 38 = .ok (.iload_n 3, 1) := by decide +kernel
theorem dX10_fieldAt_39 : decode cX10_fieldAt 39 = .ok (.i2l, 1) := by decide +kernel
theorem dX10_fieldAt_40 : decode cX10_fieldAt 40 = .ok (.lconst 0, 1) := by decide +kernel
theorem dX10_fieldAt_41 : decode cX10_fieldAt 41 = .ok (.aload_n 0, 1) := by decide +kernel
theorem dX10_fieldAt_42 : decode cX10_fieldAt 42 = .ok (.getfield 143, 3) := by decide +kernel
theorem dX10_fieldAt_45 : decode cX10_fieldAt 45 = .ok (.iconst 1, 1) := by decide +kernel
theorem dX10_fieldAt_46 : decode cX10_fieldAt 46 = .ok (.isub, 1) := by decide +kernel
theorem dX10_fieldAt_47 : decode cX10_fieldAt 47 = .ok (.i2l, 1) := by decide +kernel
theorem dX10_fieldAt_48 : decode cX10_fieldAt 48 = .ok (.invokestatic 139, 3) := by decide +kernel
theorem dX10_fieldAt_51 : decode cX10_fieldAt 51 = .ok (.ifCond .eq 14, 3) := by decide +kernel
theorem dX10_fieldAt_54 : decode cX10_fieldAt 54 = .ok (.aload_n 0, 1) := by decide +kernel
theorem dX10_fieldAt_55 : decode cX10_fieldAt 55 = .ok (.getfield 143, 3) := by decide +kernel
theorem dX10_fieldAt_58 : decode cX10_fieldAt 58 = .ok (.iload_n 3, 1) := by decide +kernel
theorem dX10_fieldAt_59 : decode cX10_fieldAt 59 = .ok (.imul, 1) := by decide +kernel
theorem dX10_fieldAt_60 : decode cX10_fieldAt 60 = .ok (.iload_n 2, 1) := by decide +kernel
theorem dX10_fieldAt_61 : decode cX10_fieldAt 61 = .ok (.iadd, 1) := by decide +kernel
theorem dX10_fieldAt_62 : decode cX10_fieldAt 62 = .ok (.goto 4, 3) := by decide +kernel
theorem dX10_fieldAt_65 : decode cX10_fieldAt 65 = .ok (.iconst (-1), 1) := by decide +kernel
theorem dX10_fieldAt_66 : decode cX10_fieldAt 66 = .ok (.ireturn, 1) := by decide +kernel
theorem dX10_told_0 : decode cX10_told 0 = .ok (.iload_n 2, 1) := by decide +kernel
theorem dX10_told_1 : decode cX10_told 1 = .ok (.iload_n 1, 1) := by decide +kernel
theorem dX10_told_2 : decode cX10_told 2 = .ok (.isub, 1) := by decide +kernel
theorem dX10_told_3 : decode cX10_told 3 = .ok (.istore_n 3, 1) := by decide +kernel
theorem dX10_told_4 : decode cX10_told 4 = .ok (.iload_n 3, 1) := by decide +kernel
theorem dX10_told_5 : decode cX10_told 5 = .ok (.iconst 5, 1) := by decide +kernel
theorem dX10_told_6 : decode cX10_told 6 = .ok (.if_icmp .ne 20, 3) := by decide +kernel
theorem dX10_told_9 : decode cX10_told 9 = .ok (.aload_n 0, 1) := by decide +kernel
theorem dX10_told_10 : decode cX10_told 10 = .ok (.getfield 132, 3) := by decide +kernel
theorem dX10_told_13 : decode cX10_told 13 = .ok (.iload_n 2, 1) := by decide +kernel
theorem dX10_told_14 : decode cX10_told 14 = .ok (.iconst 1, 1) := by decide +kernel
theorem dX10_told_15 : decode cX10_told 15 = .ok (.isub, 1) := by decide +kernel
theorem dX10_told_16 : decode cX10_told 16 = .ok (.iaload, 1) := by decide +kernel
theorem dX10_told_17 : decode cX10_told 17 = .ok (.bipush 43, 2) := by decide +kernel
theorem dX10_told_19 : decode cX10_told 19 = .ok (.if_icmp .ne 7, 3) := by decide +kernel
theorem dX10_told_22 : decode cX10_told 22 = .ok (.iconst 1, 1) := by decide +kernel
theorem dX10_told_23 : decode cX10_told 23 = .ok (.goto 4, 3) := by decide +kernel
theorem dX10_told_26 : decode cX10_told 26 = .ok (.iconst 0, 1) := by decide +kernel
theorem dX10_told_27 : decode cX10_told 27 = .ok (.istore 4, 2) := by decide +kernel
theorem dX10_told_29 : decode cX10_told 29 = .ok (.iload_n 3, 1) := by decide +kernel
theorem dX10_told_30 : decode cX10_told 30 = .ok (.iconst 4, 1) := by decide +kernel
theorem dX10_told_31 : decode cX10_told 31 = .ok (.if_icmp .eq 10, 3) := by decide +kernel
theorem dX10_told_34 : decode cX10_told 34 = .ok (.iload 4, 2) := by decide +kernel
theorem dX10_told_36 : decode cX10_told 36 = .ok (.ifCond .ne 5, 3) := by decide +kernel
theorem dX10_told_39 : decode cX10_told 39 = .ok (.iconst (-1), 1) := by decide +kernel
theorem dX10_told_40 : decode cX10_told 40 = .ok (.ireturn, 1) := by decide +kernel
theorem dX10_told_41 : decode cX10_told 41 = .ok (.aload_n 0, 1) := by decide +kernel
theorem dX10_told_42 : decode cX10_told 42 = .ok (.iload_n 1, 1) := by decide +kernel
theorem dX10_told_43 : decode cX10_told 43 = .ok (.iconst 2, 1) := by decide +kernel
theorem dX10_told_44 : decode cX10_told 44 = .ok (.iadd, 1) := by decide +kernel
theorem dX10_told_45 : decode cX10_told 45 = .ok (.invokevirtual 339, 3) := by decide +kernel
theorem dX10_told_48 : decode cX10_told 48 = .ok (.istore 5, 2) := by decide +kernel
theorem dX10_told_50 : decode cX10_told 50 = .ok (.iload 5, 2) := by decide +kernel
theorem dX10_told_52 : decode cX10_told 52 = .ok (.ifCond .ge 5, 3) := by decide +kernel
theorem dX10_told_55 : decode cX10_told 55 = .ok (.iconst (-1), 1) := by decide +kernel
theorem dX10_told_56 : decode cX10_told 56 = .ok (.ireturn, 1) := by decide +kernel
theorem dX10_told_57 : decode cX10_told 57 = .ok (.aload_n 0, 1) := by decide +kernel
theorem dX10_told_58 : decode cX10_told 58 = .ok (.getfield 132, 3) := by decide +kernel
theorem dX10_told_61 : decode cX10_told 61 = .ok (.iload_n 1, 1) := by decide +kernel
theorem dX10_told_62 : decode cX10_told 62 = .ok (.iaload, 1) := by decide +kernel
theorem dX10_told_63 : decode cX10_told 63 = .ok (.i2l, 1) := by decide +kernel
theorem dX10_told_64 : decode cX10_told 64 = .ok (.ldc2_w 342, 3) := by decide +kernel
theorem dX10_told_67 : decode cX10_told 67 = .ok (.ldc2_w 344, 3) := by decide +kernel
theorem dX10_told_70 : decode cX10_told 70 = .ok (.invokestatic 139, 3) := by decide +kernel
theorem dX10_told_73 : decode cX10_told 73 = .ok (.ifCond .eq 44, 3) := by decide +kernel
theorem dX10_told_76 : decode cX10_told 76 = .ok (.iload 4, 2) := by decide +kernel
theorem dX10_told_78 : decode cX10_told 78 = .ok (.ifCond .ne 16, 3) := by decide +kernel
theorem dX10_told_81 : decode cX10_told 81 = .ok (.aload_n 0, 1) := by decide +kernel
theorem dX10_told_82 : decode cX10_told 82 = .ok (.getfield 132, 3) := by decide +kernel
theorem dX10_told_85 : decode cX10_told 85 = .ok (.iload_n 1, 1) := by decide +kernel
theorem dX10_told_86 : decode cX10_told 86 = .ok (.iconst 1, 1) := by decide +kernel
theorem dX10_told_87 : decode cX10_told 87 = .ok (.iadd, 1) := by decide +kernel
theorem dX10_told_88 : decode cX10_told 88 = .ok (.iaload, 1) := by decide +kernel
theorem dX10_told_89 : decode cX10_told 89 = .ok (.bipush 42, 2) := by decide +kernel
theorem dX10_told_91 : decode cX10_told 91 = .ok (.if_icmp .eq 7, 3) := by decide +kernel
theorem dX10_told_94 : decode cX10_told 94 = .ok (.iconst (-1), 1) := by decide +kernel
theorem dX10_told_95 : decode cX10_told 95 = .ok (.goto 21, 3) := by decide +kernel
theorem dX10_told_98 : decode cX10_told 98 = .ok (.aload_n 0, 1) := by decide +kernel
theorem dX10_told_99 : decode cX10_told 99 = .ok (.iconst 0, 1) := by decide +kernel
theorem dX10_told_100 : decode cX10_told 100 = .ok (.iconst (-1), 1) := by decide +kernel
theorem dX10_told_101 : decode cX10_told 101 = .ok (.iload 5, 2) := by decide +kernel
theorem dX10_told_103 : decode cX10_told 103 = .ok (.iconst 0, 1) := by decide +kernel
theorem dX10_told_104 : decode cX10_told 104 = .ok (.aload_n 0, 1) := by decide +kernel
theorem dX10_told_105 : decode cX10_told 105 = .ok (.getfield 132, 3) := by decide +kernel
theorem dX10_told_108 : decode cX10_told 108 = .ok (.iload_n 1, 1) := by decide +kernel
theorem dX10_told_109 : decode cX10_told 109 = .ok (.iaload, 1) := by decide +kernel
theorem dX10_told_110 : decode cX10_told 110 = .ok (.bipush 48, 2) := by decide +kernel
theorem dX10_told_112 : decode cX10_told 112 = .ok (.isub, 1) := by decide +kernel
theorem dX10_told_113 : decode cX10_told 113 = .ok (.invokevirtual 323, 3) := by decide +kernel
theorem dX10_told_116 : decode cX10_told 116 = .ok (.ireturn, 1) := by decide +kernel
theorem dX10_told_117 : decode cX10_told 117 = .ok (.aload_n 0, 1) := by decide +kernel
theorem dX10_told_118 : decode cX10_told 118 = .ok (.iload_n 1, 1) := by decide +kernel
theorem dX10_told_119 : decode cX10_told 119 = .ok (.invokevirtual 339, 3) := by decide +kernel
theorem dX10_told_122 : decode cX10_told 122 = .ok (.istore 6, 2) := by decide +kernel
theorem dX10_told_124 : decode cX10_told 124 = .ok (.iload 6, 2) := by decide +kernel
theorem dX10_told_126 : decode cX10_told 126 = .ok (.ifCond .ge 7, 3) := by decide +kernel
theorem dX10_told_129 : decode cX10_told 129 = .ok (.iconst (-1), 1) := by decide +kernel
theorem dX10_told_130 : decode cX10_told 130 = .ok (.goto 23, 3) := by decide +kernel
theorem dX10_told_133 : decode cX10_told 133 = .ok (.aload_n 0, 1) := by decide +kernel
theorem dX10_told_134 : decode cX10_told 134 = .ok (.iconst 0, 1) := by decide +kernel
theorem dX10_told_135 : decode cX10_told 135 = .ok (.iload 6, 2) := by decide +kernel
theorem dX10_told_137 : decode cX10_told 137 = .ok (.iload 5, 2) := by decide +kernel
theorem dX10_told_139 : decode cX10_told 139 = .ok (.iload 4, 2) := by decide +kernel
theorem dX10_told_141 : decode cX10_told 141 = .ok (.ifCond .eq 7, 3) := by decide +kernel
theorem dX10_told_144 : decode cX10_told 144 = .ok (.iconst 1, 1) := by decide +kernel
theorem dX10_told_145 : decode cX10_told 145 = .ok (.goto 4, 3) := by decide +kernel
theorem dX10_told_148 : decode cX10_told 148 = .ok (.iconst 0, 1) := by decide +kernel
theorem dX10_told_149 : decode cX10_told 149 = .ok (.iconst (-1), 1) := by decide +kernel
theorem dX10_told_150 : decode cX10_told 150 = .ok (.invokevirtual 323, 3) := by decide +kernel
theorem dX10_told_153 : decode cX10_told 153 = .ok (.ireturn, 1) := by decide +kernel
theorem dX10_read_0 : decode cX10_read 0 = .ok (.aload_n 0, 1) := by decide +kernel
theorem dX10_read_1 : decode cX10_read 1 = .ok (.getfield 159, 3) := by decide +kernel
theorem dX10_read_4 : decode cX10_read 4 = .ok (.ifCond .ne 6, 3) := by decide +kernel
theorem dX10_read_7 : decode cX10_read 7 = .ok (.bipush (-3), 2) := by decide +kernel
theorem dX10_read_9 : decode cX10_read 9 = .ok (.ireturn, 1) := by decide +kernel
theorem dX10_read_10 : decode cX10_read 10 = .ok (.iconst 1, 1) := by decide +kernel
theorem dX10_read_11 : decode cX10_read 11 = .ok (.aload_n 0, 1) := by decide +kernel
theorem dX10_read_12 : decode cX10_read 12 = .ok (.getfield 270, 3) := by decide +kernel
theorem dX10_read_15 : decode cX10_read 15 = .ok (.isub, 1) := by decide +kernel
theorem dX10_read_16 : decode cX10_read 16 = .ok (.istore_n 1, 1) := by decide +kernel
theorem dX10_read_17 : decode cX10_read 17 = .ok (.aload_n 0, 1) := by decide +kernel
theorem dX10_read_18 : decode cX10_read 18 = .ok (.aload_n 0, 1) := by decide +kernel
theorem dX10_read_19 : decode cX10_read 19 = .ok (.getfield 270, 3) := by decide +kernel
theorem dX10_read_22 : decode cX10_read 22 = .ok (.iconst 0, 1) := by decide +kernel
theorem dX10_read_23 : decode cX10_read 23 = .ok (.invokevirtual 303, 3) := by decide +kernel
theorem dX10_read_26 : decode cX10_read 26 = .ok (.aload_n 0, 1) := by decide +kernel
theorem dX10_read_27 : decode cX10_read 27 = .ok (.iload_n 1, 1) := by decide +kernel
theorem dX10_read_28 : decode cX10_read 28 = .ok (.iconst 0, 1) := by decide +kernel
theorem dX10_read_29 : decode cX10_read 29 = .ok (.invokevirtual 279, 3) := by decide +kernel
theorem dX10_read_32 : decode cX10_read 32 = .ok (.aload_n 0, 1) := by decide +kernel
theorem dX10_read_33 : decode cX10_read 33 = .ok (.iload_n 1, 1) := by decide +kernel
theorem dX10_read_34 : decode cX10_read 34 = .ok (.iconst 0, 1) := by decide +kernel
theorem dX10_read_35 : decode cX10_read 35 = .ok (.invokevirtual 283, 3) := by decide +kernel
theorem dX10_read_38 : decode cX10_read 38 = .ok (.istore_n 2, 1) := by decide +kernel
theorem dX10_read_39 : decode cX10_read 39 = .ok (.iconst 0, 1) := by decide +kernel
theorem dX10_read_40 : decode cX10_read 40 = .ok (.istore_n 3, 1) := by decide +kernel
theorem dX10_read_41 : decode cX10_read 41 = .ok (.iconst 0, 1) := by decide +kernel
theorem dX10_read_42 : decode cX10_read 42 = .ok (.istore 4, 2) := by decide +kernel
theorem dX10_read_44 : decode cX10_read 44 = .ok (.aload_n 0, 1) := by decide +kernel
theorem dX10_read_45 : decode cX10_read 45 = .ok (.getfield 330, 3) := by decide +kernel
theorem dX10_read_48 : decode cX10_read 48 = .ok (.ifCond .le 7, 3) := by decide +kernel
theorem dX10_read_51 : decode cX10_read 51 = .ok (.iconst 1, 1) := by decide +kernel
theorem dX10_read_52 : decode cX10_read 52 = .ok (.goto 4, 3) := by decide +kernel
theorem dX10_read_55 : decode cX10_read 55 = .ok (.iconst 0, 1) := by decide +kernel
theorem dX10_read_56 : decode cX10_read 56 = .ok (.istore 5, 2) := by decide +kernel
theorem dX10_read_58 : decode cX10_read 58 = .ok (.iload 5, 2) := by decide +kernel
theorem dX10_read_60 : decode cX10_read 60 = .ok (.ifCond .eq 125, 3) := by decide +kernel
theorem dX10_read_63 : decode cX10_read 63 = .ok (.iload 4, 2) := by decide +kernel
theorem dX10_read_65 : decode cX10_read 65 = .ok (.istore 6, 2) := by decide +kernel
theorem dX10_read_67 : decode cX10_read 67 = .ok (.iload 6, 2) := by decide +kernel
theorem dX10_read_69 : decode cX10_read 69 = .ok (.aload_n 0, 1) := by decide +kernel
theorem dX10_read_70 : decode cX10_read 70 = .ok (.getfield 330, 3) := by decide +kernel
theorem dX10_read_73 : decode cX10_read 73 = .ok (.if_icmp .ge 21, 3) := by decide +kernel
theorem dX10_read_76 : decode cX10_read 76 = .ok (.aload_n 0, 1) := by decide +kernel
theorem dX10_read_77 : decode cX10_read 77 = .ok (.getfield 132, 3) := by decide +kernel
theorem dX10_read_80 : decode cX10_read 80 = .ok (.iload 6, 2) := by decide +kernel
theorem dX10_read_82 : decode cX10_read 82 = .ok (.iaload, 1) := by decide +kernel
theorem dX10_read_83 : decode cX10_read 83 = .ok (.bipush 32, 2) := by decide +kernel
theorem dX10_read_85 : decode cX10_read 85 = .ok (.if_icmp .eq 9, 3) := by decide +kernel
theorem dX10_read_88 : decode cX10_read 88 = .ok (.iinc 6 1, 3) := by decide +kernel
theorem dX10_read_91 : decode cX10_read 91 = .ok (.goto (-24), 3) := by decide +kernel
theorem dX10_read_94 : decode cX10_read 94 = .ok (.iload_n 2, 1) := by decide +kernel
theorem dX10_read_95 : decode cX10_read 95 = .ok (.ifCond .ne 21, 3) := by decide +kernel
theorem dX10_read_98 : decode cX10_read 98 = .ok (.iload_n 3, 1) := by decide +kernel
theorem dX10_read_99 : decode cX10_read 99 = .ok (.sipush 300, 3) := by decide +kernel
theorem dX10_read_102 : decode cX10_read 102 = .ok (.if_icmp .ge 14, 3) := by decide +kernel
theorem dX10_read_105 : decode cX10_read 105 = .ok (.aload_n 0, 1) := by decide +kernel
theorem dX10_read_106 : decode cX10_read 106 = .ok (.iload 4, 2) := by decide +kernel
theorem dX10_read_108 : decode cX10_read 108 = .ok (.iload 6, 2) := by decide +kernel
theorem dX10_read_110 : decode cX10_read 110 = .ok (.invokevirtual 346, 3) := by decide +kernel
theorem dX10_read_113 : decode cX10_read 113 = .ok (.goto 4, 3) := by decide +kernel
theorem dX10_read_116 : decode cX10_read 116 = .ok (.iconst (-1), 1) := by decide +kernel
theorem dX10_read_117 : decode cX10_read 117 = .ok (.istore 7, 2) := by decide +kernel
theorem dX10_read_119 : decode cX10_read 119 = .ok (.iload 7, 2) := by decide +kernel
theorem dX10_read_121 : decode cX10_read 121 = .ok (.ifCond .ge 21, 3) := by decide +kernel
theorem dX10_read_124 : decode cX10_read 124 = .ok (.aload_n 0, 1) := by decide +kernel
theorem dX10_read_125 : decode cX10_read 125 = .ok (.aload_n 0, 1) := by decide +kernel
theorem dX10_read_126 : decode cX10_read 126 = .ok (.getfield 270, 3) := by decide +kernel
theorem dX10_read_129 : decode cX10_read 129 = .ok (.aload_n 0, 1) := by decide +kernel
theorem dX10_read_130 : decode cX10_read 130 = .ok (.getfield 273, 3) := by decide +kernel
theorem dX10_read_133 : decode cX10_read 133 = .ok (.invokevirtual 303, 3) := by decide +kernel
theorem dX10_read_136 : decode cX10_read 136 = .ok (.bipush (-100), 2) := by decide +kernel
theorem dX10_read_138 : decode cX10_read 138 = .ok (.iload 4, 2) := by decide +kernel
theorem dX10_read_140 : decode cX10_read 140 = .ok (.isub, 1) := by decide +kernel
theorem dX10_read_141 : decode cX10_read 141 = .ok (.ireturn, 1) := by decide +kernel
theorem dX10_read_142 : decode cX10_read 142 = .ok (.aload_n 0, 1) := by decide +kernel
theorem dX10_read_143 : decode cX10_read 143 = .ok (.iload_n 1, 1) := by decide +kernel
theorem dX10_read_144 : decode cX10_read 144 = .ok (.iload_n 3, 1) := by decide +kernel
theorem dX10_read_145 : decode cX10_read 145 = .ok (.iload 7, 2) := by decide +kernel
theorem dX10_read_147 : decode cX10_read 147 = .ok (.invokevirtual 300, 3) := by decide +kernel
theorem dX10_read_150 : decode cX10_read 150 = .ok (.iinc 3 1, 3) := by decide +kernel
theorem dX10_read_153 : decode cX10_read 153 = .ok (.aload_n 0, 1) := by decide +kernel
theorem dX10_read_154 : decode cX10_read 154 = .ok (.iload_n 1, 1) := by decide +kernel
theorem dX10_read_155 : decode cX10_read 155 = .ok (.iload_n 3, 1) := by decide +kernel
theorem dX10_read_156 : decode cX10_read 156 = .ok (.invokevirtual 283, 3) := by decide +kernel
theorem dX10_read_159 : decode cX10_read 159 = .ok (.istore_n 2, 1) := by decide +kernel
theorem dX10_read_160 : decode cX10_read 160 = .ok (.iload 6, 2) := by decide +kernel
theorem dX10_read_162 : decode cX10_read 162 = .ok (.aload_n 0, 1) := by decide +kernel
theorem dX10_read_163 : decode cX10_read 163 = .ok (.getfield 330, 3) := by decide +kernel
theorem dX10_read_166 : decode cX10_read 166 = .ok (.if_icmp .ge 7, 3) := by decide +kernel
theorem dX10_read_169 : decode cX10_read 169 = .ok (.iconst 1, 1) := by decide +kernel
theorem dX10_read_170 : decode cX10_read 170 = .ok (.goto 4, 3) := by decide +kernel
theorem dX10_read_173 : decode cX10_read 173 = .ok (.iconst 0, 1) := by decide +kernel
theorem dX10_read_174 : decode cX10_read 174 = .ok (.istore 5, 2) := by decide +kernel
theorem dX10_read_176 : decode cX10_read 176 = .ok (.iload 6, 2) := by decide +kernel
theorem dX10_read_178 : decode cX10_read 178 = .ok (.iconst 1, 1) := by decide +kernel
theorem dX10_read_179 : decode cX10_read 179 = .ok (.iadd, 1) := by decide +kernel
theorem dX10_read_180 : decode cX10_read 180 = .ok (.istore 4, 2) := by decide +kernel
theorem dX10_read_182 : decode cX10_read 182 = .ok (.goto (-124), 3) := by decide +kernel
theorem dX10_read_185 : decode cX10_read 185 = .ok (.aload_n 0, 1) := by decide +kernel
theorem dX10_read_186 : decode cX10_read 186 = .ok (.iload_n 1, 1) := by decide +kernel
theorem dX10_read_187 : decode cX10_read 187 = .ok (.putfield 270, 3) := by decide +kernel
theorem dX10_read_190 : decode cX10_read 190 = .ok (.aload_n 0, 1) := by decide +kernel
theorem dX10_read_191 : decode cX10_read 191 = .ok (.iload_n 3, 1) := by decide +kernel
theorem dX10_read_192 : decode cX10_read 192 = .ok (.putfield 273, 3) := by decide +kernel
theorem dX10_read_195 : decode cX10_read 195 = .ok (.aload_n 0, 1) := by decide +kernel
theorem dX10_read_196 : decode cX10_read 196 = .ok (.iload_n 3, 1) := by decide +kernel
theorem dX10_read_197 : decode cX10_read 197 = .ok (.putfield 276, 3) := by decide +kernel
theorem dX10_read_200 : decode cX10_read 200 = .ok (.aload_n 0, 1) := by decide +kernel
theorem dX10_read_201 : decode cX10_read 201 = .ok (.iload_n 2, 1) := by decide +kernel
theorem dX10_read_202 : decode cX10_read 202 = .ok (.putfield 286, 3) := by decide +kernel
theorem dX10_read_205 : decode cX10_read 205 = .ok (.iload_n 3, 1) := by decide +kernel
theorem dX10_read_206 : decode cX10_read 206 = .ok (.ireturn, 1) := by decide +kernel
theorem dX10_digest_0 : decode cX10_digest 0 = .ok (.ldc2_w 349, 3) := by decide +kernel
theorem dX10_digest_3 : decode cX10_digest 3 = .ok (.lstore_n 1, 1) := by decide +kernel
theorem dX10_digest_4 : decode cX10_digest 4 = .ok (.iconst 0, 1) := by decide +kernel
theorem dX10_digest_5 : decode cX10_digest 5 = .ok (.istore_n 3, 1) := by decide +kernel
theorem dX10_digest_6 : decode cX10_digest 6 = .ok (.iload_n 3, 1) := by decide +kernel
theorem dX10_digest_7 : decode cX10_digest 7 = .ok (.aload_n 0, 1) := by decide +kernel
theorem dX10_digest_8 : decode cX10_digest 8 = .ok (.getfield 143, 3) := by decide +kernel
theorem dX10_digest_11 : decode cX10_digest 11 = .ok (.aload_n 0, 1) := by decide +kernel
theorem dX10_digest_12 : decode cX10_digest 12 = .ok (.getfield 143, 3) := by decide +kernel
theorem dX10_digest_15 : decode cX10_digest 15 = .ok (.imul, 1) := by decide +kernel
theorem dX10_digest_16 : decode cX10_digest 16 = .ok (.if_icmp .ge 34, 3) := by decide +kernel
theorem dX10_digest_19 : decode cX10_digest 19 = .ok (.ldc2_w 351, 3) := by decide +kernel
theorem dX10_digest_22 : decode cX10_digest 22 = .ok (.lload_n 1, 1) := by decide +kernel
theorem dX10_digest_23 : decode cX10_digest 23 = .ok (.lmul, 1) := by decide +kernel
theorem dX10_digest_24 : decode cX10_digest 24 = .ok (.aload_n 0, 1) := by decide +kernel
theorem dX10_digest_25 : decode cX10_digest 25 = .ok (.getfield 159, 3) := by decide +kernel
theorem dX10_digest_28 : decode cX10_digest 28 = .ok (.ifCond .eq 12, 3) := by decide +kernel
theorem dX10_digest_31 : decode cX10_digest 31 = .ok (.aload_n 0, 1) := by decide +kernel
theorem dX10_digest_32 : decode cX10_digest 32 = .ok (.getfield 31, 3) := by decide +kernel
theorem dX10_digest_35 : decode cX10_digest 35 = .ok (.iload_n 3, 1) := by decide +kernel
theorem dX10_digest_36 : decode cX10_digest 36 = .ok (.iaload, 1) := by decide +kernel
theorem dX10_digest_37 : decode cX10_digest 37 = .ok (.goto 4, 3) := by decide +kernel
theorem dX10_digest_40 : decode cX10_digest 40 = .ok (.iconst 0, 1) := by decide +kernel
theorem dX10_digest_41 : decode cX10_digest 41 = .ok (.i2l, 1) := by decide +kernel
theorem dX10_digest_42 : decode cX10_digest 42 = .ok (.ladd, 1) := by decide +kernel
theorem dX10_digest_43 : decode cX10_digest 43 = .ok (.lstore_n 1, 1) := by decide +kernel
theorem dX10_digest_44 : decode cX10_digest 44 = .ok (.iinc 3 1, 3) := by decide +kernel
theorem dX10_digest_47 : decode cX10_digest 47 = .ok (.goto (-41), 3) := by decide +kernel
theorem dX10_digest_50 : decode cX10_digest 50 = .ok (.iconst 0, 1) := by decide +kernel
theorem dX10_digest_51 : decode cX10_digest 51 = .ok (.istore_n 3, 1) := by decide +kernel
theorem dX10_digest_52 : decode cX10_digest 52 = .ok (.iload_n 3, 1) := by decide +kernel
theorem dX10_digest_53 : decode cX10_digest 53 = .ok (.iconst 2, 1) := by decide +kernel
theorem dX10_digest_54 : decode cX10_digest 54 = .ok (.if_icmp .ge 40, 3) := by decide +kernel
theorem dX10_digest_57 : decode cX10_digest 57 = .ok (.iconst 1, 1) := by decide +kernel
theorem dX10_digest_58 : decode cX10_digest 58 = .ok (.istore 4, 2) := by decide +kernel
theorem dX10_digest_60 : decode cX10_digest 60 = .ok (.iload 4, 2) := by decide +kernel
theorem dX10_digest_62 : decode cX10_digest 62 = .ok (.bipush 8, 2) := by decide +kernel
theorem dX10_digest_64 : decode cX10_digest 64 = .ok (.if_icmp .ge 24, 3) := by decide +kernel
theorem dX10_digest_67 : decode cX10_digest 67 = .ok (.ldc2_w 351, 3) := by decide +kernel
theorem dX10_digest_70 : decode cX10_digest 70 = .ok (.lload_n 1, 1) := by decide +kernel
theorem dX10_digest_71 : decode cX10_digest 71 = .ok (.lmul, 1) := by decide +kernel
theorem dX10_digest_72 : decode cX10_digest 72 = .ok (.aload_n 0, 1) := by decide +kernel
theorem dX10_digest_73 : decode cX10_digest 73 = .ok (.iload_n 3, 1) := by decide +kernel
theorem dX10_digest_74 : decode cX10_digest 74 = .ok (.iload 4, 2) := by decide +kernel
theorem dX10_digest_76 : decode cX10_digest 76 = .ok (.invokevirtual 353, 3) := by decide +kernel
theorem dX10_digest_79 : decode cX10_digest 79 = .ok (.i2l, 1) := by decide +kernel
theorem dX10_digest_80 : decode cX10_digest 80 = .ok (.ladd, 1) := by decide +kernel
theorem dX10_digest_81 : decode cX10_digest 81 = .ok (.lstore_n 1, 1) := by decide +kernel
theorem dX10_digest_82 : decode cX10_digest 82 = .ok (.iinc 4 1, 3) := by decide +kernel
theorem dX10_digest_85 : decode cX10_digest 85 = .ok (.goto (-25), 3) := by decide +kernel
theorem dX10_digest_88 : decode cX10_digest 88 = .ok (.iinc 3 1, 3) := by decide +kernel
theorem dX10_digest_91 : decode cX10_digest 91 = .ok (.goto (-39), 3) := by decide +kernel
theorem dX10_digest_94 : decode cX10_digest 94 = .ok (.iconst 0, 1) := by decide +kernel
theorem dX10_digest_95 : decode cX10_digest 95 = .ok (.istore_n 3, 1) := by decide +kernel
theorem dX10_digest_96 : decode cX10_digest 96 = .ok (.iload_n 3, 1) := by decide +kernel
theorem dX10_digest_97 : decode cX10_digest 97 = .ok (.iconst 5, 1) := by decide +kernel
theorem dX10_digest_98 : decode cX10_digest 98 = .ok (.if_icmp .ge 33, 3) := by decide +kernel
theorem dX10_digest_101 : decode cX10_digest 101 = .ok (.ldc2_w 351, 3) := by decide +kernel
theorem dX10_digest_104 : decode cX10_digest 104 = .ok (.lload_n 1, 1) := by decide +kernel
theorem dX10_digest_105 : decode cX10_digest 105 = .ok (.lmul, 1) := by decide +kernel
theorem dX10_digest_106 : decode cX10_digest 106 = .ok (.aload_n 0, 1) := by decide +kernel
theorem dX10_digest_107 : decode cX10_digest 107 = .ok (.getfield 159, 3) := by decide +kernel
theorem dX10_digest_110 : decode cX10_digest 110 = .ok (.ifCond .eq 11, 3) := by decide +kernel
theorem dX10_digest_113 : decode cX10_digest 113 = .ok (.aload_n 0, 1) := by decide +kernel
theorem dX10_digest_114 : decode cX10_digest 114 = .ok (.iload_n 3, 1) := by decide +kernel
theorem dX10_digest_115 : decode cX10_digest 115 = .ok (.invokevirtual 356, 3) := by decide +kernel
theorem dX10_digest_118 : decode cX10_digest 118 = .ok (.goto 4, 3) := by decide +kernel
theorem dX10_digest_121 : decode cX10_digest 121 = .ok (.iconst 0, 1) := by decide +kernel
theorem dX10_digest_122 : decode cX10_digest 122 = .ok (.i2l, 1) := by decide +kernel
theorem dX10_digest_123 : decode cX10_digest 123 = .ok (.ladd, 1) := by decide +kernel
theorem dX10_digest_124 : decode cX10_digest 124 = .ok (.lstore_n 1, 1) := by decide +kernel
theorem dX10_digest_125 : decode cX10_digest 125 = .ok (.iinc 3 1, 3) := by decide +kernel
theorem dX10_digest_128 : decode cX10_digest 128 = .ok (.goto (-32), 3) := by decide +kernel
theorem dX10_digest_131 : decode cX10_digest 131 = .ok (.lload_n 1, 1) := by decide +kernel
theorem dX10_digest_132 : decode cX10_digest 132 = .ok (.lreturn, 1) := by decide +kernel
theorem dL_cell_0 : decode cL_cell 0 = .ok (.iload_n 1, 1) := by decide +kernel
theorem dL_cell_1 : decode cL_cell 1 = .ok (.aload_n 0, 1) := by decide +kernel
theorem dL_cell_2 : decode cL_cell 2 = .ok (.arraylength, 1) := by decide +kernel
theorem dL_cell_3 : decode cL_cell 3 = .ok (.if_icmp .ge 9, 3) := by decide +kernel
theorem dL_cell_6 : decode cL_cell 6 = .ok (.aload_n 0, 1) := by decide +kernel
theorem dL_cell_7 : decode cL_cell 7 = .ok (.iload_n 1, 1) := by decide +kernel
theorem dL_cell_8 : decode cL_cell 8 = .ok (.iaload, 1) := by decide +kernel
theorem dL_cell_9 : decode cL_cell 9 = .ok (.goto 4, 3) := by decide +kernel
theorem dL_cell_12 : decode cL_cell 12 = .ok (.iconst 0, 1) := by decide +kernel
theorem dL_cell_13 : decode cL_cell 13 = .ok (.ireturn, 1) := by decide +kernel
theorem dL_law_0 : decode cL_law 0 = .ok (.new 7, 3) := by decide +kernel
theorem dL_law_3 : decode cL_law 3 = .ok (.dup, 1) := by decide +kernel
theorem dL_law_4 : decode cL_law 4 = .ok (.aload_n 0, 1) := by decide +kernel
theorem dL_law_5 : decode cL_law 5 = .ok (.iconst 0, 1) := by decide +kernel
theorem dL_law_6 : decode cL_law 6 = .ok (.invokestatic 9, 3) := by decide +kernel
theorem dL_law_9 : decode cL_law 9 = .ok (.invokespecial 15, 3) := by decide +kernel
theorem dL_law_12 : decode cL_law 12 = .ok (.astore_n 1, 1) := by decide +kernel
theorem dL_law_13 : decode cL_law 13 = .ok (.new 18, 3) := by decide +kernel
theorem dL_law_16 : decode cL_law 16 = .ok (.dup, 1) := by decide +kernel
theorem dL_law_17 : decode cL_law 17 = .ok (.aload_n 0, 1) := by decide +kernel
theorem dL_law_18 : decode cL_law 18 = .ok (.iconst 0, 1) := by decide +kernel
theorem dL_law_19 : decode cL_law 19 = .ok (.invokestatic 9, 3) := by decide +kernel
theorem dL_law_22 : decode cL_law 22 = .ok (.invokespecial 20, 3) := by decide +kernel
theorem dL_law_25 : decode cL_law 25 = .ok (.astore_n 2, 1) := by decide +kernel
theorem dL_law_26 : decode cL_law 26 = .ok (.iconst 1, 1) := by decide +kernel
theorem dL_law_27 : decode cL_law 27 = .ok (.istore_n 3, 1) := by decide +kernel
theorem dL_law_28 : decode cL_law 28 = .ok (.iload_n 3, 1) := by decide +kernel
theorem dL_law_29 : decode cL_law 29 = .ok (.aload_n 0, 1) := by decide +kernel
theorem dL_law_30 : decode cL_law 30 = .ok (.arraylength, 1) := by decide +kernel
theorem dL_law_31 : decode cL_law 31 = .ok (.bipush 7, 2) := by decide +kernel
theorem dL_law_33 : decode cL_law 33 = .ok (.isub, 1) := by decide +kernel
theorem dL_law_34 : decode cL_law 34 = .ok (.if_icmp .gt 1205, 3) := by decide +kernel
theorem dL_law_37 : decode cL_law 37 = .ok (.aload_n 0, 1) := by decide +kernel
theorem dL_law_38 : decode cL_law 38 = .ok (.iload_n 3, 1) := by decide +kernel
theorem dL_law_39 : decode cL_law 39 = .ok (.iaload, 1) := by decide +kernel
theorem dL_law_40 : decode cL_law 40 = .ok (.bipush 63, 2) := by decide +kernel
theorem dL_law_42 : decode cL_law 42 = .ok (.iand, 1) := by decide +kernel
theorem dL_law_43 : decode cL_law 43 = .ok (.tableswitch 1190 0 35 #[157, 232, 275, 298, 351, 394, 457, 500, 523, 536, 559, 592, 625, 648, 661, 694, 753, 786, 809, 832, 845, 858, 881, 904, 927, 940, 953, 986, 1065, 1078, 1091, 1114, 1127, 1150, 1163, 1176], 157) := by decide +kernel
theorem dL_law_200 : decode cL_law 200 = .ok (.aload_n 1, 1) := by decide +kernel
theorem dL_law_201 : decode cL_law 201 = .ok (.aload_n 0, 1) := by decide +kernel
theorem dL_law_202 : decode cL_law 202 = .ok (.iload_n 3, 1) := by decide +kernel
theorem dL_law_203 : decode cL_law 203 = .ok (.iconst 1, 1) := by decide +kernel
theorem dL_law_204 : decode cL_law 204 = .ok (.iadd, 1) := by decide +kernel
theorem dL_law_205 : decode cL_law 205 = .ok (.iaload, 1) := by decide +kernel
theorem dL_law_206 : decode cL_law 206 = .ok (.aload_n 0, 1) := by decide +kernel
theorem dL_law_207 : decode cL_law 207 = .ok (.iload_n 3, 1) := by decide +kernel
theorem dL_law_208 : decode cL_law 208 = .ok (.iconst 2, 1) := by decide +kernel
theorem dL_law_209 : decode cL_law 209 = .ok (.iadd, 1) := by decide +kernel
theorem dL_law_210 : decode cL_law 210 = .ok (.iaload, 1) := by decide +kernel
theorem dL_law_211 : decode cL_law 211 = .ok (.aload_n 0, 1) := by decide +kernel
theorem dL_law_212 : decode cL_law 212 = .ok (.iload_n 3, 1) := by decide +kernel
theorem dL_law_213 : decode cL_law 213 = .ok (.iconst 3, 1) := by decide +kernel
theorem dL_law_214 : decode cL_law 214 = .ok (.iadd, 1) := by decide +kernel
theorem dL_law_215 : decode cL_law 215 = .ok (.iaload, 1) := by decide +kernel
theorem dL_law_216 : decode cL_law 216 = .ok (.aload_n 0, 1) := by decide +kernel
theorem dL_law_217 : decode cL_law 217 = .ok (.iload_n 3, 1) := by decide +kernel
theorem dL_law_218 : decode cL_law 218 = .ok (.iconst 4, 1) := by decide +kernel
theorem dL_law_219 : decode cL_law 219 = .ok (.iadd, 1) := by decide +kernel
theorem dL_law_220 : decode cL_law 220 = .ok (.iaload, 1) := by decide +kernel
theorem dL_law_221 : decode cL_law 221 = .ok (.aload_n 0, 1) := by decide +kernel
theorem dL_law_222 : decode cL_law 222 = .ok (.iload_n 3, 1) := by decide +kernel
theorem dL_law_223 : decode cL_law 223 = .ok (.iconst 5, 1) := by decide +kernel
theorem dL_law_224 : decode cL_law 224 = .ok (.iadd, 1) := by decide +kernel
theorem dL_law_225 : decode cL_law 225 = .ok (.iaload, 1) := by decide +kernel
theorem dL_law_226 : decode cL_law 226 = .ok (.aload_n 0, 1) := by decide +kernel
theorem dL_law_227 : decode cL_law 227 = .ok (.iload_n 3, 1) := by decide +kernel
theorem dL_law_228 : decode cL_law 228 = .ok (.bipush 6, 2) := by decide +kernel
theorem dL_law_230 : decode cL_law 230 = .ok (.iadd, 1) := by decide +kernel
theorem dL_law_231 : decode cL_law 231 = .ok (.iaload, 1) := by decide +kernel
theorem dL_law_232 : decode cL_law 232 = .ok (.invokevirtual 21, 3) := by decide +kernel
theorem dL_law_235 : decode cL_law 235 = .ok (.aload_n 2, 1) := by decide +kernel
theorem dL_law_236 : decode cL_law 236 = .ok (.aload_n 0, 1) := by decide +kernel
theorem dL_law_237 : decode cL_law 237 = .ok (.iload_n 3, 1) := by decide +kernel
theorem dL_law_238 : decode cL_law 238 = .ok (.iconst 1, 1) := by decide +kernel
theorem dL_law_239 : decode cL_law 239 = .ok (.iadd, 1) := by decide +kernel
theorem dL_law_240 : decode cL_law 240 = .ok (.iaload, 1) := by decide +kernel
theorem dL_law_241 : decode cL_law 241 = .ok (.aload_n 0, 1) := by decide +kernel
theorem dL_law_242 : decode cL_law 242 = .ok (.iload_n 3, 1) := by decide +kernel
theorem dL_law_243 : decode cL_law 243 = .ok (.iconst 2, 1) := by decide +kernel
theorem dL_law_244 : decode cL_law 244 = .ok (.iadd, 1) := by decide +kernel
theorem dL_law_245 : decode cL_law 245 = .ok (.iaload, 1) := by decide +kernel
theorem dL_law_246 : decode cL_law 246 = .ok (.aload_n 0, 1) := by decide +kernel
theorem dL_law_247 : decode cL_law 247 = .ok (.iload_n 3, 1) := by decide +kernel
theorem dL_law_248 : decode cL_law 248 = .ok (.iconst 3, 1) := by decide +kernel
theorem dL_law_249 : decode cL_law 249 = .ok (.iadd, 1) := by decide +kernel
theorem dL_law_250 : decode cL_law 250 = .ok (.iaload, 1) := by decide +kernel
theorem dL_law_251 : decode cL_law 251 = .ok (.aload_n 0, 1) := by decide +kernel
theorem dL_law_252 : decode cL_law 252 = .ok (.iload_n 3, 1) := by decide +kernel
theorem dL_law_253 : decode cL_law 253 = .ok (.iconst 4, 1) := by decide +kernel
theorem dL_law_254 : decode cL_law 254 = .ok (.iadd, 1) := by decide +kernel
theorem dL_law_255 : decode cL_law 255 = .ok (.iaload, 1) := by decide +kernel
theorem dL_law_256 : decode cL_law 256 = .ok (.aload_n 0, 1) := by decide +kernel
theorem dL_law_257 : decode cL_law 257 = .ok (.iload_n 3, 1) := by decide +kernel
theorem dL_law_258 : decode cL_law 258 = .ok (.iconst 5, 1) := by decide +kernel
theorem dL_law_259 : decode cL_law 259 = .ok (.iadd, 1) := by decide +kernel
theorem dL_law_260 : decode cL_law 260 = .ok (.iaload, 1) := by decide +kernel
theorem dL_law_261 : decode cL_law 261 = .ok (.aload_n 0, 1) := by decide +kernel
theorem dL_law_262 : decode cL_law 262 = .ok (.iload_n 3, 1) := by decide +kernel
theorem dL_law_263 : decode cL_law 263 = .ok (.bipush 6, 2) := by decide +kernel
theorem dL_law_265 : decode cL_law 265 = .ok (.iadd, 1) := by decide +kernel
theorem dL_law_266 : decode cL_law 266 = .ok (.iaload, 1) := by decide +kernel
theorem dL_law_267 : decode cL_law 267 = .ok (.invokevirtual 25, 3) := by decide +kernel
theorem dL_law_270 : decode cL_law 270 = .ok (.if_icmp .eq 963, 3) := by decide +kernel
theorem dL_law_273 : decode cL_law 273 = .ok (.iconst 0, 1) := by decide +kernel
theorem dL_law_274 : decode cL_law 274 = .ok (.ireturn, 1) := by decide +kernel
theorem dL_law_275 : decode cL_law 275 = .ok (.aload_n 1, 1) := by decide +kernel
theorem dL_law_276 : decode cL_law 276 = .ok (.aload_n 0, 1) := by decide +kernel
theorem dL_law_277 : decode cL_law 277 = .ok (.iload_n 3, 1) := by decide +kernel
theorem dL_law_278 : decode cL_law 278 = .ok (.iconst 1, 1) := by decide +kernel
theorem dL_law_279 : decode cL_law 279 = .ok (.iadd, 1) := by decide +kernel
theorem dL_law_280 : decode cL_law 280 = .ok (.iaload, 1) := by decide +kernel
theorem dL_law_281 : decode cL_law 281 = .ok (.aload_n 0, 1) := by decide +kernel
theorem dL_law_282 : decode cL_law 282 = .ok (.iload_n 3, 1) := by decide +kernel
theorem dL_law_283 : decode cL_law 283 = .ok (.iconst 2, 1) := by decide +kernel
theorem dL_law_284 : decode cL_law 284 = .ok (.iadd, 1) := by decide +kernel
theorem dL_law_285 : decode cL_law 285 = .ok (.iaload, 1) := by decide +kernel
theorem dL_law_286 : decode cL_law 286 = .ok (.aload_n 0, 1) := by decide +kernel
theorem dL_law_287 : decode cL_law 287 = .ok (.iload_n 3, 1) := by decide +kernel
theorem dL_law_288 : decode cL_law 288 = .ok (.iconst 3, 1) := by decide +kernel
theorem dL_law_289 : decode cL_law 289 = .ok (.iadd, 1) := by decide +kernel
theorem dL_law_290 : decode cL_law 290 = .ok (.iaload, 1) := by decide +kernel
theorem dL_law_291 : decode cL_law 291 = .ok (.invokevirtual 26, 3) := by decide +kernel
theorem dL_law_294 : decode cL_law 294 = .ok (.aload_n 2, 1) := by decide +kernel
theorem dL_law_295 : decode cL_law 295 = .ok (.aload_n 0, 1) := by decide +kernel
theorem dL_law_296 : decode cL_law 296 = .ok (.iload_n 3, 1) := by decide +kernel
theorem dL_law_297 : decode cL_law 297 = .ok (.iconst 1, 1) := by decide +kernel
theorem dL_law_298 : decode cL_law 298 = .ok (.iadd, 1) := by decide +kernel
theorem dL_law_299 : decode cL_law 299 = .ok (.iaload, 1) := by decide +kernel
theorem dL_law_300 : decode cL_law 300 = .ok (.aload_n 0, 1) := by decide +kernel
theorem dL_law_301 : decode cL_law 301 = .ok (.iload_n 3, 1) := by decide +kernel
theorem dL_law_302 : decode cL_law 302 = .ok (.iconst 2, 1) := by decide +kernel
theorem dL_law_303 : decode cL_law 303 = .ok (.iadd, 1) := by decide +kernel
theorem dL_law_304 : decode cL_law 304 = .ok (.iaload, 1) := by decide +kernel
theorem dL_law_305 : decode cL_law 305 = .ok (.aload_n 0, 1) := by decide +kernel
theorem dL_law_306 : decode cL_law 306 = .ok (.iload_n 3, 1) := by decide +kernel
theorem dL_law_307 : decode cL_law 307 = .ok (.iconst 3, 1) := by decide +kernel
theorem dL_law_308 : decode cL_law 308 = .ok (.iadd, 1) := by decide +kernel
theorem dL_law_309 : decode cL_law 309 = .ok (.iaload, 1) := by decide +kernel
theorem dL_law_310 : decode cL_law 310 = .ok (.invokevirtual 30, 3) := by decide +kernel
theorem dL_law_313 : decode cL_law 313 = .ok (.if_icmp .eq 920, 3) := by decide +kernel
theorem dL_law_316 : decode cL_law 316 = .ok (.iconst 0, 1) := by decide +kernel
theorem dL_law_317 : decode cL_law 317 = .ok (.ireturn, 1) := by decide +kernel
theorem dL_law_318 : decode cL_law 318 = .ok (.aload_n 1, 1) := by decide +kernel
theorem dL_law_319 : decode cL_law 319 = .ok (.aload_n 0, 1) := by decide +kernel
theorem dL_law_320 : decode cL_law 320 = .ok (.iload_n 3, 1) := by decide +kernel
theorem dL_law_321 : decode cL_law 321 = .ok (.iconst 1, 1) := by decide +kernel
theorem dL_law_322 : decode cL_law 322 = .ok (.iadd, 1) := by decide +kernel
theorem dL_law_323 : decode cL_law 323 = .ok (.iaload, 1) := by decide +kernel
theorem dL_law_324 : decode cL_law 324 = .ok (.invokevirtual 31, 3) := by decide +kernel
theorem dL_law_327 : decode cL_law 327 = .ok (.aload_n 2, 1) := by decide +kernel
theorem dL_law_328 : decode cL_law 328 = .ok (.aload_n 0, 1) := by decide +kernel
theorem dL_law_329 : decode cL_law 329 = .ok (.iload_n 3, 1) := by decide +kernel
theorem dL_law_330 : decode cL_law 330 = .ok (.iconst 1, 1) := by decide +kernel
theorem dL_law_331 : decode cL_law 331 = .ok (.iadd, 1) := by decide +kernel
theorem dL_law_332 : decode cL_law 332 = .ok (.iaload, 1) := by decide +kernel
theorem dL_law_333 : decode cL_law 333 = .ok (.invokevirtual 35, 3) := by decide +kernel
theorem dL_law_336 : decode cL_law 336 = .ok (.if_icmp .eq 897, 3) := by decide +kernel
theorem dL_law_339 : decode cL_law 339 = .ok (.iconst 0, 1) := by decide +kernel
theorem dL_law_340 : decode cL_law 340 = .ok (.ireturn, 1) := by decide +kernel
theorem dL_law_341 : decode cL_law 341 = .ok (.aload_n 1, 1) := by decide +kernel
theorem dL_law_342 : decode cL_law 342 = .ok (.aload_n 0, 1) := by decide +kernel
theorem dL_law_343 : decode cL_law 343 = .ok (.iload_n 3, 1) := by decide +kernel
theorem dL_law_344 : decode cL_law 344 = .ok (.iconst 1, 1) := by decide +kernel
theorem dL_law_345 : decode cL_law 345 = .ok (.iadd, 1) := by decide +kernel
theorem dL_law_346 : decode cL_law 346 = .ok (.iaload, 1) := by decide +kernel
theorem dL_law_347 : decode cL_law 347 = .ok (.aload_n 0, 1) := by decide +kernel
theorem dL_law_348 : decode cL_law 348 = .ok (.iload_n 3, 1) := by decide +kernel
theorem dL_law_349 : decode cL_law 349 = .ok (.iconst 2, 1) := by decide +kernel
theorem dL_law_350 : decode cL_law 350 = .ok (.iadd, 1) := by decide +kernel
theorem dL_law_351 : decode cL_law 351 = .ok (.iaload, 1) := by decide +kernel
theorem dL_law_352 : decode cL_law 352 = .ok (.aload_n 0, 1) := by decide +kernel
theorem dL_law_353 : decode cL_law 353 = .ok (.iload_n 3, 1) := by decide +kernel
theorem dL_law_354 : decode cL_law 354 = .ok (.iconst 3, 1) := by decide +kernel
theorem dL_law_355 : decode cL_law 355 = .ok (.iadd, 1) := by decide +kernel
