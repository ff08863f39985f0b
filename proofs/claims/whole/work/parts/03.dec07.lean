theorem dX10_lacks_35 : decode cX10_lacks 35 = .ok (.getfield 22, 3) := by decide +kernel
theorem dX10_lacks_38 : decode cX10_lacks 38 = .ok (.iload_n 1, 1) := by decide +kernel
theorem dX10_lacks_39 : decode cX10_lacks 39 = .ok (.iaload, 1) := by decide +kernel
theorem dX10_lacks_40 : decode cX10_lacks 40 = .ok (.iconst 1, 1) := by decide +kernel
theorem dX10_lacks_41 : decode cX10_lacks 41 = .ok (.isub, 1) := by decide +kernel
theorem dX10_lacks_42 : decode cX10_lacks 42 = .ok (.i2l, 1) := by decide +kernel
theorem dX10_lacks_43 : decode cX10_lacks 43 = .ok (.invokestatic 139, 3) := by decide +kernel
theorem dX10_lacks_46 : decode cX10_lacks 46 = .ok (.ifCond .eq 7, 3) := by decide +kernel
theorem dX10_lacks_49 : decode cX10_lacks 49 = .ok (.iconst 0, 1) := by decide +kernel
theorem dX10_lacks_50 : decode cX10_lacks 50 = .ok (.goto 8, 3) := by decide +kernel
theorem dX10_lacks_53 : decode cX10_lacks 53 = .ok (.aload_n 0, 1) := by decide +kernel
theorem dX10_lacks_54 : decode cX10_lacks 54 = .ok (.iconst 2, 1) := by decide +kernel
theorem dX10_lacks_55 : decode cX10_lacks 55 = .ok (.invokevirtual 169, 3) := by decide +kernel
theorem dX10_lacks_58 : decode cX10_lacks 58 = .ok (.ireturn, 1) := by decide +kernel
theorem dX10_put_0 : decode cX10_put 0 = .ok (.aload_n 0, 1) := by decide +kernel
theorem dX10_put_1 : decode cX10_put 1 = .ok (.iload_n 1, 1) := by decide +kernel
theorem dX10_put_2 : decode cX10_put 2 = .ok (.invokevirtual 163, 3) := by decide +kernel
theorem dX10_put_5 : decode cX10_put 5 = .ok (.ifCond .eq 15, 3) := by decide +kernel
theorem dX10_put_8 : decode cX10_put 8 = .ok (.iload_n 2, 1) := by decide +kernel
theorem dX10_put_9 : decode cX10_put 9 = .ok (.i2l, 1) := by decide +kernel
theorem dX10_put_10 : decode cX10_put 10 = .ok (.lconst 0, 1) := by decide +kernel
theorem dX10_put_11 : decode cX10_put 11 = .ok (.ldc2_w 167, 3) := by decide +kernel
theorem dX10_put_14 : decode cX10_put 14 = .ok (.invokestatic 139, 3) := by decide +kernel
theorem dX10_put_17 : decode cX10_put 17 = .ok (.ifCond .ne 6, 3) := by decide +kernel
theorem dX10_put_20 : decode cX10_put 20 = .ok (.bipush (-2), 2) := by decide +kernel
theorem dX10_put_22 : decode cX10_put 22 = .ok (.ireturn, 1) := by decide +kernel
theorem dX10_put_23 : decode cX10_put 23 = .ok (.aload_n 0, 1) := by decide +kernel
theorem dX10_put_24 : decode cX10_put 24 = .ok (.iload_n 1, 1) := by decide +kernel
theorem dX10_put_25 : decode cX10_put 25 = .ok (.iload_n 2, 1) := by decide +kernel
theorem dX10_put_26 : decode cX10_put 26 = .ok (.iload_n 3, 1) := by decide +kernel
theorem dX10_put_27 : decode cX10_put 27 = .ok (.invokevirtual 173, 3) := by decide +kernel
theorem dX10_put_30 : decode cX10_put 30 = .ok (.istore 5, 2) := by decide +kernel
theorem dX10_put_32 : decode cX10_put 32 = .ok (.iload 5, 2) := by decide +kernel
theorem dX10_put_34 : decode cX10_put 34 = .ok (.ifCond .eq 6, 3) := by decide +kernel
theorem dX10_put_37 : decode cX10_put 37 = .ok (.iload 5, 2) := by decide +kernel
theorem dX10_put_39 : decode cX10_put 39 = .ok (.ireturn, 1) := by decide +kernel
theorem dX10_put_40 : decode cX10_put 40 = .ok (.aload_n 0, 1) := by decide +kernel
theorem dX10_put_41 : decode cX10_put 41 = .ok (.getfield 25, 3) := by decide +kernel
theorem dX10_put_44 : decode cX10_put 44 = .ok (.bipush 12, 2) := by decide +kernel
theorem dX10_put_46 : decode cX10_put 46 = .ok (.iload_n 1, 1) := by decide +kernel
theorem dX10_put_47 : decode cX10_put 47 = .ok (.imul, 1) := by decide +kernel
theorem dX10_put_48 : decode cX10_put 48 = .ok (.iload_n 3, 1) := by decide +kernel
theorem dX10_put_49 : decode cX10_put 49 = .ok (.iadd, 1) := by decide +kernel
theorem dX10_put_50 : decode cX10_put 50 = .ok (.iload_n 2, 1) := by decide +kernel
theorem dX10_put_51 : decode cX10_put 51 = .ok (.ifCond .ne 9, 3) := by decide +kernel
theorem dX10_put_54 : decode cX10_put 54 = .ok (.iload 4, 2) := by decide +kernel
theorem dX10_put_56 : decode cX10_put 56 = .ok (.i2b, 1) := by decide +kernel
theorem dX10_put_57 : decode cX10_put 57 = .ok (.goto 17, 3) := by decide +kernel
theorem dX10_put_60 : decode cX10_put 60 = .ok (.iload_n 2, 1) := by decide +kernel
theorem dX10_put_61 : decode cX10_put 61 = .ok (.iconst 1, 1) := by decide +kernel
theorem dX10_put_62 : decode cX10_put 62 = .ok (.if_icmp .ne 9, 3) := by decide +kernel
theorem dX10_put_65 : decode cX10_put 65 = .ok (.iload 4, 2) := by decide +kernel
theorem dX10_put_67 : decode cX10_put 67 = .ok (.i2c, 1) := by decide +kernel
theorem dX10_put_68 : decode cX10_put 68 = .ok (.goto 6, 3) := by decide +kernel
theorem dX10_put_71 : decode cX10_put 71 = .ok (.iload 4, 2) := by decide +kernel
theorem dX10_put_73 : decode cX10_put 73 = .ok (.i2s, 1) := by decide +kernel
theorem dX10_put_74 : decode cX10_put 74 = .ok (.iastore, 1) := by decide +kernel
theorem dX10_put_75 : decode cX10_put 75 = .ok (.iconst 1, 1) := by decide +kernel
theorem dX10_put_76 : decode cX10_put 76 = .ok (.ireturn, 1) := by decide +kernel
theorem dX10_get_0 : decode cX10_get 0 = .ok (.aload_n 0, 1) := by decide +kernel
theorem dX10_get_1 : decode cX10_get 1 = .ok (.iload_n 1, 1) := by decide +kernel
theorem dX10_get_2 : decode cX10_get 2 = .ok (.invokevirtual 163, 3) := by decide +kernel
theorem dX10_get_5 : decode cX10_get 5 = .ok (.ifCond .eq 25, 3) := by decide +kernel
theorem dX10_get_8 : decode cX10_get 8 = .ok (.iload_n 2, 1) := by decide +kernel
theorem dX10_get_9 : decode cX10_get 9 = .ok (.i2l, 1) := by decide +kernel
theorem dX10_get_10 : decode cX10_get 10 = .ok (.lconst 0, 1) := by decide +kernel
theorem dX10_get_11 : decode cX10_get 11 = .ok (.ldc2_w 167, 3) := by decide +kernel
theorem dX10_get_14 : decode cX10_get 14 = .ok (.invokestatic 139, 3) := by decide +kernel
theorem dX10_get_17 : decode cX10_get 17 = .ok (.ifCond .eq 13, 3) := by decide +kernel
theorem dX10_get_20 : decode cX10_get 20 = .ok (.aload_n 0, 1) := by decide +kernel
theorem dX10_get_21 : decode cX10_get 21 = .ok (.iload_n 1, 1) := by decide +kernel
theorem dX10_get_22 : decode cX10_get 22 = .ok (.iload_n 2, 1) := by decide +kernel
theorem dX10_get_23 : decode cX10_get 23 = .ok (.iload_n 3, 1) := by decide +kernel
theorem dX10_get_24 : decode cX10_get 24 = .ok (.invokevirtual 173, 3) := by decide +kernel
theorem dX10_get_27 : decode cX10_get 27 = .ok (.ifCond .eq 6, 3) := by decide +kernel
theorem dX10_get_30 : decode cX10_get 30 = .ok (.ldc 177, 2) := by decide +kernel
theorem dX10_get_32 : decode cX10_get 32 = .ok (.ireturn, 1) := by decide +kernel
theorem dX10_get_33 : decode cX10_get 33 = .ok (.aload_n 0, 1) := by decide +kernel
theorem dX10_get_34 : decode cX10_get 34 = .ok (.getfield 25, 3) := by decide +kernel
theorem dX10_get_37 : decode cX10_get 37 = .ok (.bipush 12, 2) := by decide +kernel
theorem dX10_get_39 : decode cX10_get 39 = .ok (.iload_n 1, 1) := by decide +kernel
theorem dX10_get_40 : decode cX10_get 40 = .ok (.imul, 1) := by decide +kernel
theorem dX10_get_41 : decode cX10_get 41 = .ok (.iload_n 3, 1) := by decide +kernel
theorem dX10_get_42 : decode cX10_get 42 = .ok (.iadd, 1) := by decide +kernel
theorem dX10_get_43 : decode cX10_get 43 = .ok (.iaload, 1) := by decide +kernel
theorem dX10_get_44 : decode cX10_get 44 = .ok (.ireturn, 1) := by decide +kernel
theorem dX10_copy_0 : decode cX10_copy 0 = .ok (.aload_n 0, 1) := by decide +kernel
theorem dX10_copy_1 : decode cX10_copy 1 = .ok (.iload_n 1, 1) := by decide +kernel
theorem dX10_copy_2 : decode cX10_copy 2 = .ok (.invokevirtual 163, 3) := by decide +kernel
theorem dX10_copy_5 : decode cX10_copy 5 = .ok (.ifCond .eq 11, 3) := by decide +kernel
theorem dX10_copy_8 : decode cX10_copy 8 = .ok (.aload_n 0, 1) := by decide +kernel
theorem dX10_copy_9 : decode cX10_copy 9 = .ok (.iload_n 3, 1) := by decide +kernel
theorem dX10_copy_10 : decode cX10_copy 10 = .ok (.invokevirtual 163, 3) := by decide +kernel
theorem dX10_copy_13 : decode cX10_copy 13 = .ok (.ifCond .ne 6, 3) := by decide +kernel
theorem dX10_copy_16 : decode cX10_copy 16 = .ok (.bipush (-2), 2) := by decide +kernel
theorem dX10_copy_18 : decode cX10_copy 18 = .ok (.ireturn, 1) := by decide +kernel
theorem dX10_copy_19 : decode cX10_copy 19 = .ok (.aload_n 0, 1) := by decide +kernel
theorem dX10_copy_20 : decode cX10_copy 20 = .ok (.getfield 19, 3) := by decide +kernel
theorem dX10_copy_23 : decode cX10_copy 23 = .ok (.iload_n 1, 1) := by decide +kernel
theorem dX10_copy_24 : decode cX10_copy 24 = .ok (.iaload, 1) := by decide +kernel
theorem dX10_copy_25 : decode cX10_copy 25 = .ok (.ifCond .lt 12, 3) := by decide +kernel
theorem dX10_copy_28 : decode cX10_copy 28 = .ok (.aload_n 0, 1) := by decide +kernel
theorem dX10_copy_29 : decode cX10_copy 29 = .ok (.getfield 19, 3) := by decide +kernel
theorem dX10_copy_32 : decode cX10_copy 32 = .ok (.iload_n 3, 1) := by decide +kernel
theorem dX10_copy_33 : decode cX10_copy 33 = .ok (.iaload, 1) := by decide +kernel
theorem dX10_copy_34 : decode cX10_copy 34 = .ok (.ifCond .ge 9, 3) := by decide +kernel
theorem dX10_copy_37 : decode cX10_copy 37 = .ok (.aload_n 0, 1) := by decide +kernel
theorem dX10_copy_38 : decode cX10_copy 38 = .ok (.iconst 1, 1) := by decide +kernel
theorem dX10_copy_39 : decode cX10_copy 39 = .ok (.invokevirtual 169, 3) := by decide +kernel
theorem dX10_copy_42 : decode cX10_copy 42 = .ok (.ireturn, 1) := by decide +kernel
theorem dX10_copy_43 : decode cX10_copy 43 = .ok (.aload_n 0, 1) := by decide +kernel
theorem dX10_copy_44 : decode cX10_copy 44 = .ok (.getfield 19, 3) := by decide +kernel
theorem dX10_copy_47 : decode cX10_copy 47 = .ok (.iload_n 1, 1) := by decide +kernel
theorem dX10_copy_48 : decode cX10_copy 48 = .ok (.iaload, 1) := by decide +kernel
theorem dX10_copy_49 : decode cX10_copy 49 = .ok (.aload_n 0, 1) := by decide +kernel
theorem dX10_copy_50 : decode cX10_copy 50 = .ok (.getfield 19, 3) := by decide +kernel
theorem dX10_copy_53 : decode cX10_copy 53 = .ok (.iload_n 3, 1) := by decide +kernel
theorem dX10_copy_54 : decode cX10_copy 54 = .ok (.iaload, 1) := by decide +kernel
theorem dX10_copy_55 : decode cX10_copy 55 = .ok (.if_icmp .eq 9, 3) := by decide +kernel
theorem dX10_copy_58 : decode cX10_copy 58 = .ok (.aload_n 0, 1) := by decide +kernel
theorem dX10_copy_59 : decode cX10_copy 59 = .ok (.iconst 4, 1) := by decide +kernel
theorem dX10_copy_60 : decode cX10_copy 60 = .ok (.invokevirtual 169, 3) := by decide +kernel
theorem dX10_copy_63 : decode cX10_copy 63 = .ok (.ireturn, 1) := by decide +kernel
theorem dX10_copy_64 : decode cX10_copy 64 = .ok (.iload_n 2, 1) := by decide +kernel
theorem dX10_copy_65 : decode cX10_copy 65 = .ok (.ifCond .lt 48, 3) := by decide +kernel
theorem dX10_copy_68 : decode cX10_copy 68 = .ok (.iload 4, 2) := by decide +kernel
theorem dX10_copy_70 : decode cX10_copy 70 = .ok (.ifCond .lt 43, 3) := by decide +kernel
theorem dX10_copy_73 : decode cX10_copy 73 = .ok (.iload 5, 2) := by decide +kernel
theorem dX10_copy_75 : decode cX10_copy 75 = .ok (.ifCond .lt 38, 3) := by decide +kernel
theorem dX10_copy_78 : decode cX10_copy 78 = .ok (.iload_n 2, 1) := by decide +kernel
theorem dX10_copy_79 : decode cX10_copy 79 = .ok (.i2l, 1) := by decide +kernel
theorem dX10_copy_80 : decode cX10_copy 80 = .ok (.iload 5, 2) := by decide +kernel
theorem dX10_copy_82 : decode cX10_copy 82 = .ok (.i2l, 1) := by decide +kernel
theorem dX10_copy_83 : decode cX10_copy 83 = .ok (.ladd, 1) := by decide +kernel
theorem dX10_copy_84 : decode cX10_copy 84 = .ok (.aload_n 0, 1) := by decide +kernel
theorem dX10_copy_85 : decode cX10_copy 85 = .ok (.getfield 22, 3) := by decide +kernel
theorem dX10_copy_88 : decode cX10_copy 88 = .ok (.iload_n 1, 1) := by decide +kernel
theorem dX10_copy_89 : decode cX10_copy 89 = .ok (.iaload, 1) := by decide +kernel
theorem dX10_copy_90 : decode cX10_copy 90 = .ok (.i2l, 1) := by decide +kernel
theorem dX10_copy_91 : decode cX10_copy 91 = .ok (.lcmp, 1) := by decide +kernel
theorem dX10_copy_92 : decode cX10_copy 92 = .ok (.ifCond .gt 21, 3) := by decide +kernel
theorem dX10_copy_95 : decode cX10_copy 95 = .ok (.iload 4, 2) := by decide +kernel
theorem dX10_copy_97 : decode cX10_copy 97 = .ok (.i2l, 1) := by decide +kernel
theorem dX10_copy_98 : decode cX10_copy 98 = .ok (.iload 5, 2) := by decide +kernel
theorem dX10_copy_100 : decode cX10_copy 100 = .ok (.i2l, 1) := by decide +kernel
theorem dX10_copy_101 : decode cX10_copy 101 = .ok (.ladd, 1) := by decide +kernel
theorem dX10_copy_102 : decode cX10_copy 102 = .ok (.aload_n 0, 1) := by decide +kernel
theorem dX10_copy_103 : decode cX10_copy 103 = .ok (.getfield 22, 3) := by decide +kernel
theorem dX10_copy_106 : decode cX10_copy 106 = .ok (.iload_n 3, 1) := by decide +kernel
theorem dX10_copy_107 : decode cX10_copy 107 = .ok (.iaload, 1) := by decide +kernel
theorem dX10_copy_108 : decode cX10_copy 108 = .ok (.i2l, 1) := by decide +kernel
theorem dX10_copy_109 : decode cX10_copy 109 = .ok (.lcmp, 1) := by decide +kernel
theorem dX10_copy_110 : decode cX10_copy 110 = .ok (.ifCond .le 9, 3) := by decide +kernel
theorem dX10_copy_113 : decode cX10_copy 113 = .ok (.aload_n 0, 1) := by decide +kernel
theorem dX10_copy_114 : decode cX10_copy 114 = .ok (.iconst 2, 1) := by decide +kernel
theorem dX10_copy_115 : decode cX10_copy 115 = .ok (.invokevirtual 169, 3) := by decide +kernel
theorem dX10_copy_118 : decode cX10_copy 118 = .ok (.ireturn, 1) := by decide +kernel
theorem dX10_copy_119 : decode cX10_copy 119 = .ok (.iconst 0, 1) := by decide +kernel
theorem dX10_copy_120 : decode cX10_copy 120 = .ok (.istore 6, 2) := by decide +kernel
theorem dX10_copy_122 : decode cX10_copy 122 = .ok (.iload 6, 2) := by decide +kernel
theorem dX10_copy_124 : decode cX10_copy 124 = .ok (.iload 5, 2) := by decide +kernel
theorem dX10_copy_126 : decode cX10_copy 126 = .ok (.if_icmp .ge 30, 3) := by decide +kernel
theorem dX10_copy_129 : decode cX10_copy 129 = .ok (.aload_n 0, 1) := by decide +kernel
theorem dX10_copy_130 : decode cX10_copy 130 = .ok (.getfield 28, 3) := by decide +kernel
theorem dX10_copy_133 : decode cX10_copy 133 = .ok (.iload 6, 2) := by decide +kernel
theorem dX10_copy_135 : decode cX10_copy 135 = .ok (.aload_n 0, 1) := by decide +kernel
theorem dX10_copy_136 : decode cX10_copy 136 = .ok (.getfield 25, 3) := by decide +kernel
theorem dX10_copy_139 : decode cX10_copy 139 = .ok (.bipush 12, 2) := by decide +kernel
theorem dX10_copy_141 : decode cX10_copy 141 = .ok (.iload_n 1, 1) := by decide +kernel
theorem dX10_copy_142 : decode cX10_copy 142 = .ok (.imul, 1) := by decide +kernel
theorem dX10_copy_143 : decode cX10_copy 143 = .ok (.iload_n 2, 1) := by decide +kernel
theorem dX10_copy_144 : decode cX10_copy 144 = .ok (.iadd, 1) := by decide +kernel
theorem dX10_copy_145 : decode cX10_copy 145 = .ok (.iload 6, 2) := by decide +kernel
theorem dX10_copy_147 : decode cX10_copy 147 = .ok (.iadd, 1) := by decide +kernel
theorem dX10_copy_148 : decode cX10_copy 148 = .ok (.iaload, 1) := by decide +kernel
theorem dX10_copy_149 : decode cX10_copy 149 = .ok (.iastore, 1) := by decide +kernel
theorem dX10_copy_150 : decode cX10_copy 150 = .ok (.iinc 6 1, 3) := by decide +kernel
theorem dX10_copy_153 : decode cX10_copy 153 = .ok (.goto (-31), 3) := by decide +kernel
theorem dX10_copy_156 : decode cX10_copy 156 = .ok (.iconst 0, 1) := by decide +kernel
theorem dX10_copy_157 : decode cX10_copy 157 = .ok (.istore 6, 2) := by decide +kernel
theorem dX10_copy_159 : decode cX10_copy 159 = .ok (.iload 6, 2) := by decide +kernel
theorem dX10_copy_161 : decode cX10_copy 161 = .ok (.iload 5, 2) := by decide +kernel
theorem dX10_copy_163 : decode cX10_copy 163 = .ok (.if_icmp .ge 31, 3) := by decide +kernel
theorem dX10_copy_166 : decode cX10_copy 166 = .ok (.aload_n 0, 1) := by decide +kernel
theorem dX10_copy_167 : decode cX10_copy 167 = .ok (.getfield 25, 3) := by decide +kernel
theorem dX10_copy_170 : decode cX10_copy 170 = .ok (.bipush 12, 2) := by decide +kernel
theorem dX10_copy_172 : decode cX10_copy 172 = .ok (.iload_n 3, 1) := by decide +kernel
theorem dX10_copy_173 : decode cX10_copy 173 = .ok (.imul, 1) := by decide +kernel
theorem dX10_copy_174 : decode cX10_copy 174 = .ok (.iload 4, 2) := by decide +kernel
theorem dX10_copy_176 : decode cX10_copy 176 = .ok (.iadd, 1) := by decide +kernel
theorem dX10_copy_177 : decode cX10_copy 177 = .ok (.iload 6, 2) := by decide +kernel
theorem dX10_copy_179 : decode cX10_copy 179 = .ok (.iadd, 1) := by decide +kernel
theorem dX10_copy_180 : decode cX10_copy 180 = .ok (.aload_n 0, 1) := by decide +kernel
theorem dX10_copy_181 : decode cX10_copy 181 = .ok (.getfield 28, 3) := by decide +kernel
theorem dX10_copy_184 : decode cX10_copy 184 = .ok (.iload 6, 2) := by decide +kernel
theorem dX10_copy_186 : decode cX10_copy 186 = .ok (.iaload, 1) := by decide +kernel
theorem dX10_copy_187 : decode cX10_copy 187 = .ok (.iastore, 1) := by decide +kernel
theorem dX10_copy_188 : decode cX10_copy 188 = .ok (.iinc 6 1, 3) := by decide +kernel
theorem dX10_copy_191 : decode cX10_copy 191 = .ok (.goto (-32), 3) := by decide +kernel
theorem dX10_copy_194 : decode cX10_copy 194 = .ok (.iconst 1, 1) := by decide +kernel
theorem dX10_copy_195 : decode cX10_copy 195 = .ok (.ireturn, 1) := by decide +kernel
theorem dX10_sideOf_0 : decode cX10_sideOf 0 = .ok (.iload_n 0, 1) := by decide +kernel
theorem dX10_sideOf_1 : decode cX10_sideOf 1 = .ok (.iconst 1, 1) := by decide +kernel
theorem dX10_sideOf_2 : decode cX10_sideOf 2 = .ok (.isub, 1) := by decide +kernel
theorem dX10_sideOf_3 : decode cX10_sideOf 3 = .ok (.iconst 4, 1) := by decide +kernel
theorem dX10_sideOf_4 : decode cX10_sideOf 4 = .ok (.ishr, 1) := by decide +kernel
theorem dX10_sideOf_5 : decode cX10_sideOf 5 = .ok (.iconst 1, 1) := by decide +kernel
theorem dX10_sideOf_6 : decode cX10_sideOf 6 = .ok (.iand, 1) := by decide +kernel
theorem dX10_sideOf_7 : decode cX10_sideOf 7 = .ok (.ireturn, 1) := by decide +kernel
theorem dX10_kindOf_0 : decode cX10_kindOf 0 = .ok (.iload_n 0, 1) := by decide +kernel
theorem dX10_kindOf_1 : decode cX10_kindOf 1 = .ok (.iconst 1, 1) := by decide +kernel
theorem dX10_kindOf_2 : decode cX10_kindOf 2 = .ok (.isub, 1) := by decide +kernel
theorem dX10_kindOf_3 : decode cX10_kindOf 3 = .ok (.bipush 7, 2) := by decide +kernel
theorem dX10_kindOf_5 : decode cX10_kindOf 5 = .ok (.iand, 1) := by decide +kernel
theorem dX10_kindOf_6 : decode cX10_kindOf 6 = .ok (.ireturn, 1) := by decide +kernel
theorem dX10_isRaised_0 : decode cX10_isRaised 0 = .ok (.iload_n 0, 1) := by decide +kernel
theorem dX10_isRaised_1 : decode cX10_isRaised 1 = .ok (.iconst 1, 1) := by decide +kernel
theorem dX10_isRaised_2 : decode cX10_isRaised 2 = .ok (.isub, 1) := by decide +kernel
theorem dX10_isRaised_3 : decode cX10_isRaised 3 = .ok (.bipush 8, 2) := by decide +kernel
theorem dX10_isRaised_5 : decode cX10_isRaised 5 = .ok (.iand, 1) := by decide +kernel
theorem dX10_isRaised_6 : decode cX10_isRaised 6 = .ok (.ifCond .eq 7, 3) := by decide +kernel
theorem dX10_isRaised_9 : decode cX10_isRaised 9 = .ok (.iconst 1, 1) := by decide +kernel
theorem dX10_isRaised_10 : decode cX10_isRaised 10 = .ok (.goto 4, 3) := by decide +kernel
theorem dX10_isRaised_13 : decode cX10_isRaised 13 = .ok (.iconst 0, 1) := by decide +kernel
theorem dX10_isRaised_14 : decode cX10_isRaised 14 = .ok (.ireturn, 1) := by decide +kernel
theorem dX10_rowsOf_0 : decode cX10_rowsOf 0 = .ok (.iload_n 0, 1) := by decide +kernel
theorem dX10_rowsOf_1 : decode cX10_rowsOf 1 = .ok (.bipush 7, 2) := by decide +kernel
theorem dX10_rowsOf_3 : decode cX10_rowsOf 3 = .ok (.if_icmp .eq 8, 3) := by decide +kernel
theorem dX10_rowsOf_6 : decode cX10_rowsOf 6 = .ok (.iload_n 0, 1) := by decide +kernel
theorem dX10_rowsOf_7 : decode cX10_rowsOf 7 = .ok (.iconst 2, 1) := by decide +kernel
theorem dX10_rowsOf_8 : decode cX10_rowsOf 8 = .ok (.if_icmp .ge 7, 3) := by decide +kernel
theorem dX10_rowsOf_11 : decode cX10_rowsOf 11 = .ok (.iconst (-1), 1) := by decide +kernel
theorem dX10_rowsOf_12 : decode cX10_rowsOf 12 = .ok (.goto 30, 3) := by decide +kernel
theorem dX10_rowsOf_15 : decode cX10_rowsOf 15 = .ok (.iload_n 0, 1) := by decide +kernel
theorem dX10_rowsOf_16 : decode cX10_rowsOf 16 = .ok (.iconst 2, 1) := by decide +kernel
theorem dX10_rowsOf_17 : decode cX10_rowsOf 17 = .ok (.if_icmp .eq 9, 3) := by decide +kernel
theorem dX10_rowsOf_20 : decode cX10_rowsOf 20 = .ok (.iload_n 0, 1) := by decide +kernel
theorem dX10_rowsOf_21 : decode cX10_rowsOf 21 = .ok (.bipush 6, 2) := by decide +kernel
theorem dX10_rowsOf_23 : decode cX10_rowsOf 23 = .ok (.if_icmp .ne 7, 3) := by decide +kernel
theorem dX10_rowsOf_26 : decode cX10_rowsOf 26 = .ok (.iconst 0, 1) := by decide +kernel
theorem dX10_rowsOf_27 : decode cX10_rowsOf 27 = .ok (.goto 15, 3) := by decide +kernel
theorem dX10_rowsOf_30 : decode cX10_rowsOf 30 = .ok (.iload_n 0, 1) := by decide +kernel
theorem dX10_rowsOf_31 : decode cX10_rowsOf 31 = .ok (.bipush 6, 2) := by decide +kernel
theorem dX10_rowsOf_33 : decode cX10_rowsOf 33 = .ok (.if_icmp .ge 7, 3) := by decide +kernel
theorem dX10_rowsOf_36 : decode cX10_rowsOf 36 = .ok (.iconst 1, 1) := by decide +kernel
theorem dX10_rowsOf_37 : decode cX10_rowsOf 37 = .ok (.goto 5, 3) := by decide +kernel
theorem dX10_rowsOf_40 : decode cX10_rowsOf 40 = .ok (.bipush (-2), 2) := by decide +kernel
theorem dX10_rowsOf_42 : decode cX10_rowsOf 42 = .ok (.ireturn, 1) := by decide +kernel
theorem dX10_columnsOf_0 : decode cX10_columnsOf 0 = .ok (.iload_n 0, 1) := by decide +kernel
theorem dX10_columnsOf_1 : decode cX10_columnsOf 1 = .ok (.ifCond .eq 8, 3) := by decide +kernel
theorem dX10_columnsOf_4 : decode cX10_columnsOf 4 = .ok (.iload_n 0, 1) := by decide +kernel
theorem dX10_columnsOf_5 : decode cX10_columnsOf 5 = .ok (.iconst 4, 1) := by decide +kernel
theorem dX10_columnsOf_6 : decode cX10_columnsOf 6 = .ok (.if_icmp .ne 7, 3) := by decide +kernel
theorem dX10_columnsOf_9 : decode cX10_columnsOf 9 = .ok (.iconst 0, 1) := by decide +kernel
theorem dX10_columnsOf_10 : decode cX10_columnsOf 10 = .ok (.goto 19, 3) := by decide +kernel
theorem dX10_columnsOf_13 : decode cX10_columnsOf 13 = .ok (.iload_n 0, 1) := by decide +kernel
theorem dX10_columnsOf_14 : decode cX10_columnsOf 14 = .ok (.iconst 4, 1) := by decide +kernel
theorem dX10_columnsOf_15 : decode cX10_columnsOf 15 = .ok (.if_icmp .lt 9, 3) := by decide +kernel
theorem dX10_columnsOf_18 : decode cX10_columnsOf 18 = .ok (.iload_n 0, 1) := by decide +kernel
theorem dX10_columnsOf_19 : decode cX10_columnsOf 19 = .ok (.bipush 8, 2) := by decide +kernel
theorem dX10_columnsOf_21 : decode cX10_columnsOf 21 = .ok (.if_icmp .ne 7, 3) := by decide +kernel
theorem dX10_columnsOf_24 : decode cX10_columnsOf 24 = .ok (.iconst 1, 1) := by decide +kernel
theorem dX10_columnsOf_25 : decode cX10_columnsOf 25 = .ok (.goto 4, 3) := by decide +kernel
theorem dX10_columnsOf_28 : decode cX10_columnsOf 28 = .ok (.iconst (-1), 1) := by decide +kernel
theorem dX10_columnsOf_29 : decode cX10_columnsOf 29 = .ok (.ireturn, 1) := by decide +kernel
theorem dX10_along_0 : decode cX10_along 0 = .ok (.iload_n 1, 1) := by decide +kernel
theorem dX10_along_1 : decode cX10_along 1 = .ok (.aload_n 0, 1) := by decide +kernel
theorem dX10_along_2 : decode cX10_along 2 = .ok (.getfield 143, 3) := by decide +kernel
theorem dX10_along_5 : decode cX10_along 5 = .ok (.idiv, 1) := by decide +kernel
theorem dX10_along_6 : decode cX10_along 6 = .ok (.iload_n 3, 1) := by decide +kernel
theorem dX10_along_7 : decode cX10_along 7 = .ok (.ifCond .ne 10, 3) := by decide +kernel
theorem dX10_along_10 : decode cX10_along 10 = .ok (.iload_n 2, 1) := by decide +kernel
theorem dX10_along_11 : decode cX10_along 11 = .ok (.invokestatic 178, 3) := by decide +kernel
theorem dX10_along_14 : decode cX10_along 14 = .ok (.goto 8, 3) := by decide +kernel
theorem dX10_along_17 : decode cX10_along 17 = .ok (.iload_n 2, 1) := by decide +kernel
theorem dX10_along_18 : decode cX10_along 18 = .ok (.invokestatic 178, 3) := by decide +kernel
theorem dX10_along_21 : decode cX10_along 21 = .ok (.ineg, 1) := by decide +kernel
theorem dX10_along_22 : decode cX10_along 22 = .ok (.iadd, 1) := by decide +kernel
theorem dX10_along_23 : decode cX10_along 23 = .ok (.istore 4, 2) := by decide +kernel
theorem dX10_along_25 : decode cX10_along 25 = .ok (.iload_n 1, 1) := by decide +kernel
theorem dX10_along_26 : decode cX10_along 26 = .ok (.aload_n 0, 1) := by decide +kernel
theorem dX10_along_27 : decode cX10_along 27 = .ok (.getfield 143, 3) := by decide +kernel
theorem dX10_along_30 : decode cX10_along 30 = .ok (.irem, 1) := by decide +kernel
theorem dX10_along_31 : decode cX10_along 31 = .ok (.iload_n 3, 1) := by decide +kernel
theorem dX10_along_32 : decode cX10_along 32 = .ok (.ifCond .ne 10, 3) := by decide +kernel
theorem dX10_along_35 : decode cX10_along 35 = .ok (.iload_n 2, 1) := by decide +kernel
theorem dX10_along_36 : decode cX10_along 36 = .ok (.invokestatic 181, 3) := by decide +kernel
theorem dX10_along_39 : decode cX10_along 39 = .ok (.goto 8, 3) := by decide +kernel
theorem dX10_along_42 : decode cX10_along 42 = .ok (.iload_n 2, 1) := by decide +kernel
theorem dX10_along_43 : decode cX10_along 43 = .ok (.invokestatic 181, 3) := by decide +kernel
theorem dX10_along_46 : decode cX10_along 46 = .ok (.ineg, 1) := by decide +kernel
theorem dX10_along_47 : decode cX10_along 47 = .ok (.iadd, 1) := by decide +kernel
theorem dX10_along_48 : decode cX10_along 48 = .ok (.istore 5, 2) := by decide +kernel
theorem dX10_along_50 : decode cX10_along 50 = .ok (.iload 4, 2) := by decide +kernel
theorem dX10_along_52 : decode cX10_along 52 = .ok (.i2l, 1) := by decide +kernel
theorem dX10_along_53 : decode cX10_along 53 = .ok (.lconst 0, 1) := by decide +kernel
theorem dX10_along_54 : decode cX10_along 54 = .ok (.aload_n 0, 1) := by decide +kernel
theorem dX10_along_55 : decode cX10_along 55 = .ok (.getfield 143, 3) := by decide +kernel
theorem dX10_along_58 : decode cX10_along 58 = .ok (.iconst 1, 1) := by decide +kernel
theorem dX10_along_59 : decode cX10_along 59 = .ok (.isub, 1) := by decide +kernel
theorem dX10_along_60 : decode cX10_along 60 = .ok (.i2l, 1) := by decide +kernel
theorem dX10_along_61 : decode cX10_along 61 = .ok (.invokestatic 139, 3) := by decide +kernel
theorem dX10_along_64 : decode cX10_along 64 = .ok (.ifCond .eq 33, 3) := by decide +kernel
theorem dX10_along_67 : decode cX10_along 67 = .ok (.iload 5, 2) := by decide +kernel
theorem dX10_along_69 : decode cX10_along 69 = .ok (.i2l, 1) := by decide +kernel
theorem dX10_along_70 : decode cX10_along 70 = .ok (.lconst 0, 1) := by decide +kernel
theorem dX10_along_71 : decode cX10_along 71 = .ok (.aload_n 0, 1) := by decide +kernel
theorem dX10_along_72 : decode cX10_along 72 = .ok (.getfield 143, 3) := by decide +kernel
theorem dX10_along_75 : decode cX10_along 75 = .ok (.iconst 1, 1) := by decide +kernel
theorem dX10_along_76 : decode cX10_along 76 = .ok (.isub, 1) := by decide +kernel
theorem dX10_along_77 : decode cX10_along 77 = .ok (.i2l, 1) := by decide +kernel
theorem dX10_along_78 : decode cX10_along 78 = .ok (.invokestatic 139, 3) := by decide +kernel
theorem dX10_along_81 : decode cX10_along 81 = .ok (.ifCond .eq 16, 3) := by decide +kernel
theorem dX10_along_84 : decode cX10_along 84 = .ok (.aload_n 0, 1) := by decide +kernel
theorem dX10_along_85 : decode cX10_along 85 = .ok (.getfield 143, 3) := by decide +kernel
theorem dX10_along_88 : decode cX10_along 88 = .ok (.iload 4, 2) := by decide +kernel
theorem dX10_along_90 : decode cX10_along 90 = .ok (.imul, 1) := by decide +kernel
theorem dX10_along_91 : decode cX10_along 91 = .ok (.iload 5, 2) := by decide +kernel
theorem dX10_along_93 : decode cX10_along 93 = .ok (.iadd, 1) := by decide +kernel
theorem dX10_along_94 : decode cX10_along 94 = .ok (.goto 4, 3) := by decide +kernel
theorem dX10_along_97 : decode cX10_along 97 = .ok (.iconst (-1), 1) := by decide +kernel
theorem dX10_along_98 : decode cX10_along 98 = .ok (.ireturn, 1) := by decide +kernel
theorem dX10_comesTo_0 : decode cX10_comesTo 0 = .ok (.aload_n 0, 1) := by decide +kernel
theorem dX10_comesTo_1 : decode cX10_comesTo 1 = .ok (.getfield 73, 3) := by decide +kernel
theorem dX10_comesTo_4 : decode cX10_comesTo 4 = .ok (.iload_n 1, 1) := by decide +kernel
theorem dX10_comesTo_5 : decode cX10_comesTo 5 = .ok (.baload, 1) := by decide +kernel
theorem dX10_comesTo_6 : decode cX10_comesTo 6 = .ok (.ifCond .ne 30, 3) := by decide +kernel
theorem dX10_comesTo_9 : decode cX10_comesTo 9 = .ok (.aload_n 0, 1) := by decide +kernel
theorem dX10_comesTo_10 : decode cX10_comesTo 10 = .ok (.getfield 73, 3) := by decide +kernel
theorem dX10_comesTo_13 : decode cX10_comesTo 13 = .ok (.iload_n 1, 1) := by decide +kernel
theorem dX10_comesTo_14 : decode cX10_comesTo 14 = .ok (.iconst 1, 1) := by decide +kernel
theorem dX10_comesTo_15 : decode cX10_comesTo 15 = .ok (.bastore, 1) := by decide +kernel
theorem dX10_comesTo_16 : decode cX10_comesTo 16 = .ok (.aload_n 0, 1) := by decide +kernel
theorem dX10_comesTo_17 : decode cX10_comesTo 17 = .ok (.getfield 70, 3) := by decide +kernel
theorem dX10_comesTo_20 : decode cX10_comesTo 20 = .ok (.aload_n 0, 1) := by decide +kernel
theorem dX10_comesTo_21 : decode cX10_comesTo 21 = .ok (.getfield 184, 3) := by decide +kernel
theorem dX10_comesTo_24 : decode cX10_comesTo 24 = .ok (.iload_n 1, 1) := by decide +kernel
theorem dX10_comesTo_25 : decode cX10_comesTo 25 = .ok (.iastore, 1) := by decide +kernel
theorem dX10_comesTo_26 : decode cX10_comesTo 26 = .ok (.aload_n 0, 1) := by decide +kernel
theorem dX10_comesTo_27 : decode cX10_comesTo 27 = .ok (.dup, 1) := by decide +kernel
theorem dX10_comesTo_28 : decode cX10_comesTo 28 = .ok (.getfield 184, 3) := by decide +kernel
theorem dX10_comesTo_31 : decode cX10_comesTo 31 = .ok (.iconst 1, 1) := by decide +kernel
theorem dX10_comesTo_32 : decode cX10_comesTo 32 = .ok (.iadd, 1) := by decide +kernel
theorem dX10_comesTo_33 : decode cX10_comesTo 33 = .ok (.putfield 184, 3) := by decide +kernel
theorem dX10_comesTo_36 : decode cX10_comesTo 36 = .ok (.return_, 1) := by decide +kernel
theorem dX10_reaches_0 : decode cX10_reaches 0 = .ok (.iload_n 3, 1) := by decide +kernel
theorem dX10_reaches_1 : decode cX10_reaches 1 = .ok (.invokestatic 187, 3) := by decide +kernel
theorem dX10_reaches_4 : decode cX10_reaches 4 = .ok (.iload_n 3, 1) := by decide +kernel
theorem dX10_reaches_5 : decode cX10_reaches 5 = .ok (.invokestatic 190, 3) := by decide +kernel
theorem dX10_reaches_8 : decode cX10_reaches 8 = .ok (.ifCond .eq 8, 3) := by decide +kernel
theorem dX10_reaches_11 : decode cX10_reaches 11 = .ok (.bipush 8, 2) := by decide +kernel
theorem dX10_reaches_13 : decode cX10_reaches 13 = .ok (.goto 4, 3) := by decide +kernel
theorem dX10_reaches_16 : decode cX10_reaches 16 = .ok (.iconst 0, 1) := by decide +kernel
theorem dX10_reaches_17 : decode cX10_reaches 17 = .ok (.iadd, 1) := by decide +kernel
theorem dX10_reaches_18 : decode cX10_reaches 18 = .ok (.istore 4, 2) := by decide +kernel
theorem dX10_reaches_20 : decode cX10_reaches 20 = .ok (.iload_n 3, 1) := by decide +kernel
theorem dX10_reaches_21 : decode cX10_reaches 21 = .ok (.invokestatic 193, 3) := by decide +kernel
theorem dX10_reaches_24 : decode cX10_reaches 24 = .ok (.istore 5, 2) := by decide +kernel
theorem dX10_reaches_26 : decode cX10_reaches 26 = .ok (.aload_n 0, 1) := by decide +kernel
theorem dX10_reaches_27 : decode cX10_reaches 27 = .ok (.iconst 0, 1) := by decide +kernel
theorem dX10_reaches_28 : decode cX10_reaches 28 = .ok (.putfield 184, 3) := by decide +kernel
theorem dX10_reaches_31 : decode cX10_reaches 31 = .ok (.iconst 0, 1) := by decide +kernel
theorem dX10_reaches_32 : decode cX10_reaches 32 = .ok (.istore 6, 2) := by decide +kernel
theorem dX10_reaches_34 : decode cX10_reaches 34 = .ok (.iload 6, 2) := by decide +kernel
theorem dX10_reaches_36 : decode cX10_reaches 36 = .ok (.bipush 49, 2) := by decide +kernel
theorem dX10_reaches_38 : decode cX10_reaches 38 = .ok (.if_icmp .ge 17, 3) := by decide +kernel
theorem dX10_reaches_41 : decode cX10_reaches 41 = .ok (.aload_n 0, 1) := by decide +kernel
theorem dX10_reaches_42 : decode cX10_reaches 42 = .ok (.getfield 73, 3) := by decide +kernel
theorem dX10_reaches_45 : decode cX10_reaches 45 = .ok (.iload 6, 2) := by decide +kernel
theorem dX10_reaches_47 : decode cX10_reaches 47 = .ok (.iconst 0, 1) := by decide +kernel
theorem dX10_reaches_48 : decode cX10_reaches 48 = .ok (.bastore, 1) := by decide +kernel
theorem dX10_reaches_49 : decode cX10_reaches 49 = .ok (.iinc 6 1, 3) := by decide +kernel
theorem dX10_reaches_52 : decode cX10_reaches 52 = .ok (.goto (-18), 3) := by decide +kernel
theorem dX10_reaches_55 : decode cX10_reaches 55 = .ok (.iconst 0, 1) := by decide +kernel
theorem dX10_reaches_56 : decode cX10_reaches 56 = .ok (.istore 6, 2) := by decide +kernel
theorem dX10_reaches_58 : decode cX10_reaches 58 = .ok (.iload 6, 2) := by decide +kernel
theorem dX10_reaches_60 : decode cX10_reaches 60 = .ok (.bipush 10, 2) := by decide +kernel
theorem dX10_reaches_62 : decode cX10_reaches 62 = .ok (.if_icmp .ge 51, 3) := by decide +kernel
theorem dX10_reaches_65 : decode cX10_reaches 65 = .ok (.aload_n 0, 1) := by decide +kernel
theorem dX10_reaches_66 : decode cX10_reaches 66 = .ok (.getfield 7, 3) := by decide +kernel
theorem dX10_reaches_69 : decode cX10_reaches 69 = .ok (.iload 4, 2) := by decide +kernel
theorem dX10_reaches_71 : decode cX10_reaches 71 = .ok (.iaload, 1) := by decide +kernel
theorem dX10_reaches_72 : decode cX10_reaches 72 = .ok (.iload 6, 2) := by decide +kernel
theorem dX10_reaches_74 : decode cX10_reaches 74 = .ok (.ishr, 1) := by decide +kernel
theorem dX10_reaches_75 : decode cX10_reaches 75 = .ok (.iconst 1, 1) := by decide +kernel
theorem dX10_reaches_76 : decode cX10_reaches 76 = .ok (.iand, 1) := by decide +kernel
theorem dX10_reaches_77 : decode cX10_reaches 77 = .ok (.iconst 1, 1) := by decide +kernel
theorem dX10_reaches_78 : decode cX10_reaches 78 = .ok (.if_icmp .ne 15, 3) := by decide +kernel
theorem dX10_reaches_81 : decode cX10_reaches 81 = .ok (.aload_n 0, 1) := by decide +kernel
theorem dX10_reaches_82 : decode cX10_reaches 82 = .ok (.iload_n 2, 1) := by decide +kernel
theorem dX10_reaches_83 : decode cX10_reaches 83 = .ok (.iload 6, 2) := by decide +kernel
theorem dX10_reaches_85 : decode cX10_reaches 85 = .ok (.iload 5, 2) := by decide +kernel
theorem dX10_reaches_87 : decode cX10_reaches 87 = .ok (.invokevirtual 196, 3) := by decide +kernel
theorem dX10_reaches_90 : decode cX10_reaches 90 = .ok (.goto 4, 3) := by decide +kernel
theorem dX10_reaches_93 : decode cX10_reaches 93 = .ok (.iconst (-1), 1) := by decide +kernel
theorem dX10_reaches_94 : decode cX10_reaches 94 = .ok (.istore 7, 2) := by decide +kernel
theorem dX10_reaches_96 : decode cX10_reaches 96 = .ok (.iload 7, 2) := by decide +kernel
theorem dX10_reaches_98 : decode cX10_reaches 98 = .ok (.ifCond .lt 9, 3) := by decide +kernel
theorem dX10_reaches_101 : decode cX10_reaches 101 = .ok (.aload_n 0, 1) := by decide +kernel
theorem dX10_reaches_102 : decode cX10_reaches 102 = .ok (.iload 7, 2) := by decide +kernel
theorem dX10_reaches_104 : decode cX10_reaches 104 = .ok (.invokevirtual 199, 3) := by decide +kernel
theorem dX10_reaches_107 : decode cX10_reaches 107 = .ok (.iinc 6 1, 3) := by decide +kernel
theorem dX10_reaches_110 : decode cX10_reaches 110 = .ok (.goto (-52), 3) := by decide +kernel
theorem dX10_reaches_113 : decode cX10_reaches 113 = .ok (.iconst 0, 1) := by decide +kernel
theorem dX10_reaches_114 : decode cX10_reaches 114 = .ok (.istore 6, 2) := by decide +kernel
theorem dX10_reaches_116 : decode cX10_reaches 116 = .ok (.iload 6, 2) := by decide +kernel
theorem dX10_reaches_118 : decode cX10_reaches 118 = .ok (.bipush 8, 2) := by decide +kernel
theorem dX10_reaches_120 : decode cX10_reaches 120 = .ok (.if_icmp .ge 85, 3) := by decide +kernel
theorem dX10_reaches_123 : decode cX10_reaches 123 = .ok (.aload_n 0, 1) := by decide +kernel
theorem dX10_reaches_124 : decode cX10_reaches 124 = .ok (.getfield 13, 3) := by decide +kernel
theorem dX10_reaches_127 : decode cX10_reaches 127 = .ok (.iload 4, 2) := by decide +kernel
theorem dX10_reaches_129 : decode cX10_reaches 129 = .ok (.iaload, 1) := by decide +kernel
theorem dX10_reaches_130 : decode cX10_reaches 130 = .ok (.iload 6, 2) := by decide +kernel
theorem dX10_reaches_132 : decode cX10_reaches 132 = .ok (.ishr, 1) := by decide +kernel
theorem dX10_reaches_133 : decode cX10_reaches 133 = .ok (.iconst 1, 1) := by decide +kernel
theorem dX10_reaches_134 : decode cX10_reaches 134 = .ok (.iand, 1) := by decide +kernel
theorem dX10_reaches_135 : decode cX10_reaches 135 = .ok (.iconst 1, 1) := by decide +kernel
theorem dX10_reaches_136 : decode cX10_reaches 136 = .ok (.if_icmp .ne 15, 3) := by decide +kernel
theorem dX10_reaches_139 : decode cX10_reaches 139 = .ok (.aload_n 0, 1) := by decide +kernel
theorem dX10_reaches_140 : decode cX10_reaches 140 = .ok (.iload_n 2, 1) := by decide +kernel
theorem dX10_reaches_141 : decode cX10_reaches 141 = .ok (.iload 6, 2) := by decide +kernel
theorem dX10_reaches_143 : decode cX10_reaches 143 = .ok (.iload 5, 2) := by decide +kernel
theorem dX10_reaches_145 : decode cX10_reaches 145 = .ok (.invokevirtual 196, 3) := by decide +kernel
theorem dX10_reaches_148 : decode cX10_reaches 148 = .ok (.goto 4, 3) := by decide +kernel
theorem dX10_reaches_151 : decode cX10_reaches 151 = .ok (.iconst (-1), 1) := by decide +kernel
theorem dX10_reaches_152 : decode cX10_reaches 152 = .ok (.istore 7, 2) := by decide +kernel
theorem dX10_reaches_154 : decode cX10_reaches 154 = .ok (.iload 7, 2) := by decide +kernel
theorem dX10_reaches_156 : decode cX10_reaches 156 = .ok (.ifCond .lt 43, 3) := by decide +kernel
theorem dX10_reaches_159 : decode cX10_reaches 159 = .ok (.aload_n 0, 1) := by decide +kernel
theorem dX10_reaches_160 : decode cX10_reaches 160 = .ok (.iload 7, 2) := by decide +kernel
theorem dX10_reaches_162 : decode cX10_reaches 162 = .ok (.invokevirtual 199, 3) := by decide +kernel
theorem dX10_reaches_165 : decode cX10_reaches 165 = .ok (.aload_n 0, 1) := by decide +kernel
theorem dX10_reaches_166 : decode cX10_reaches 166 = .ok (.getfield 31, 3) := by decide +kernel
theorem dX10_reaches_169 : decode cX10_reaches 169 = .ok (.bipush 49, 2) := by decide +kernel
theorem dX10_reaches_171 : decode cX10_reaches 171 = .ok (.iload_n 1, 1) := by decide +kernel
theorem dX10_reaches_172 : decode cX10_reaches 172 = .ok (.imul, 1) := by decide +kernel
theorem dX10_reaches_173 : decode cX10_reaches 173 = .ok (.iload 7, 2) := by decide +kernel
theorem dX10_reaches_175 : decode cX10_reaches 175 = .ok (.iadd, 1) := by decide +kernel
theorem dX10_reaches_176 : decode cX10_reaches 176 = .ok (.iaload, 1) := by decide +kernel
theorem dX10_reaches_177 : decode cX10_reaches 177 = .ok (.ifCond .ne 16, 3) := by decide +kernel
theorem dX10_reaches_180 : decode cX10_reaches 180 = .ok (.aload_n 0, 1) := by decide +kernel
theorem dX10_reaches_181 : decode cX10_reaches 181 = .ok (.iload 7, 2) := by decide +kernel
theorem dX10_reaches_183 : decode cX10_reaches 183 = .ok (.iload 6, 2) := by decide +kernel
theorem dX10_reaches_185 : decode cX10_reaches 185 = .ok (.iload 5, 2) := by decide +kernel
theorem dX10_reaches_187 : decode cX10_reaches 187 = .ok (.invokevirtual 196, 3) := by decide +kernel
theorem dX10_reaches_190 : decode cX10_reaches 190 = .ok (.goto 4, 3) := by decide +kernel
theorem dX10_reaches_193 : decode cX10_reaches 193 = .ok (.iconst (-1), 1) := by decide +kernel
theorem dX10_reaches_194 : decode cX10_reaches 194 = .ok (.istore 7, 2) := by decide +kernel
theorem dX10_reaches_196 : decode cX10_reaches 196 = .ok (.goto (-42), 3) := by decide +kernel
theorem dX10_reaches_199 : decode cX10_reaches 199 = .ok (.iinc 6 1, 3) := by decide +kernel
theorem dX10_reaches_202 : decode cX10_reaches 202 = .ok (.goto (-86), 3) := by decide +kernel
theorem dX10_reaches_205 : decode cX10_reaches 205 = .ok (.return_, 1) := by decide +kernel
theorem dX10_couldGoOn_0 : decode cX10_couldGoOn 0 = .ok (.iconst 0, 1) := by decide +kernel
theorem dX10_couldGoOn_1 : decode cX10_couldGoOn 1 = .ok (.istore 4, 2) := by decide +kernel
theorem dX10_couldGoOn_3 : decode cX10_couldGoOn 3 = .ok (.iconst 0, 1) := by decide +kernel
theorem dX10_couldGoOn_4 : decode cX10_couldGoOn 4 = .ok (.istore 5, 2) := by decide +kernel
theorem dX10_couldGoOn_6 : decode cX10_couldGoOn 6 = .ok (.iload 5, 2) := by decide +kernel
theorem dX10_couldGoOn_8 : decode cX10_couldGoOn 8 = .ok (.bipush 10, 2) := by decide +kernel
theorem dX10_couldGoOn_10 : decode cX10_couldGoOn 10 = .ok (.if_icmp .ge 65, 3) := by decide +kernel
theorem dX10_couldGoOn_13 : decode cX10_couldGoOn 13 = .ok (.iload 4, 2) := by decide +kernel
theorem dX10_couldGoOn_15 : decode cX10_couldGoOn 15 = .ok (.ifCond .ne 47, 3) := by decide +kernel
theorem dX10_couldGoOn_18 : decode cX10_couldGoOn 18 = .ok (.aload_n 0, 1) := by decide +kernel
theorem dX10_couldGoOn_19 : decode cX10_couldGoOn 19 = .ok (.getfield 7, 3) := by decide +kernel
theorem dX10_couldGoOn_22 : decode cX10_couldGoOn 22 = .ok (.iload_n 1, 1) := by decide +kernel
theorem dX10_couldGoOn_23 : decode cX10_couldGoOn 23 = .ok (.iaload, 1) := by decide +kernel
theorem dX10_couldGoOn_24 : decode cX10_couldGoOn 24 = .ok (.iload 5, 2) := by decide +kernel
theorem dX10_couldGoOn_26 : decode cX10_couldGoOn 26 = .ok (.bipush 8, 2) := by decide +kernel
theorem dX10_couldGoOn_28 : decode cX10_couldGoOn 28 = .ok (.if_icmp .ge 12, 3) := by decide +kernel
theorem dX10_couldGoOn_31 : decode cX10_couldGoOn 31 = .ok (.aload_n 0, 1) := by decide +kernel
theorem dX10_couldGoOn_32 : decode cX10_couldGoOn 32 = .ok (.getfield 13, 3) := by decide +kernel
theorem dX10_couldGoOn_35 : decode cX10_couldGoOn 35 = .ok (.iload_n 1, 1) := by decide +kernel
theorem dX10_couldGoOn_36 : decode cX10_couldGoOn 36 = .ok (.iaload, 1) := by decide +kernel
theorem dX10_couldGoOn_37 : decode cX10_couldGoOn 37 = .ok (.goto 4, 3) := by decide +kernel
theorem dX10_couldGoOn_40 : decode cX10_couldGoOn 40 = .ok (.iconst 0, 1) := by decide +kernel
theorem dX10_couldGoOn_41 : decode cX10_couldGoOn 41 = .ok (.ior, 1) := by decide +kernel
theorem dX10_couldGoOn_42 : decode cX10_couldGoOn 42 = .ok (.iload 5, 2) := by decide +kernel
theorem dX10_couldGoOn_44 : decode cX10_couldGoOn 44 = .ok (.ishr, 1) := by decide +kernel
theorem dX10_couldGoOn_45 : decode cX10_couldGoOn 45 = .ok (.iconst 1, 1) := by decide +kernel
theorem dX10_couldGoOn_46 : decode cX10_couldGoOn 46 = .ok (.iand, 1) := by decide +kernel
theorem dX10_couldGoOn_47 : decode cX10_couldGoOn 47 = .ok (.iconst 1, 1) := by decide +kernel
theorem dX10_couldGoOn_48 : decode cX10_couldGoOn 48 = .ok (.if_icmp .ne 18, 3) := by decide +kernel
theorem dX10_couldGoOn_51 : decode cX10_couldGoOn 51 = .ok (.aload_n 0, 1) := by decide +kernel
theorem dX10_couldGoOn_52 : decode cX10_couldGoOn 52 = .ok (.iload_n 3, 1) := by decide +kernel
theorem dX10_couldGoOn_53 : decode cX10_couldGoOn 53 = .ok (.iload 5, 2) := by decide +kernel
theorem dX10_couldGoOn_55 : decode cX10_couldGoOn 55 = .ok (.iload_n 2, 1) := by decide +kernel
theorem dX10_couldGoOn_56 : decode cX10_couldGoOn 56 = .ok (.invokevirtual 196, 3) := by decide +kernel
theorem dX10_couldGoOn_59 : decode cX10_couldGoOn 59 = .ok (.ifCond .lt 7, 3) := by decide +kernel
theorem dX10_couldGoOn_62 : decode cX10_couldGoOn 62 = .ok (.iconst 1, 1) := by decide +kernel
theorem dX10_couldGoOn_63 : decode cX10_couldGoOn 63 = .ok (.goto 4, 3) := by decide +kernel
theorem dX10_couldGoOn_66 : decode cX10_couldGoOn 66 = .ok (.iconst 0, 1) := by decide +kernel
theorem dX10_couldGoOn_67 : decode cX10_couldGoOn 67 = .ok (.istore 4, 2) := by decide +kernel
theorem dX10_couldGoOn_69 : decode cX10_couldGoOn 69 = .ok (.iinc 5 1, 3) := by decide +kernel
theorem dX10_couldGoOn_72 : decode cX10_couldGoOn 72 = .ok (.goto (-66), 3) := by decide +kernel
theorem dX10_couldGoOn_75 : decode cX10_couldGoOn 75 = .ok (.iload 4, 2) := by decide +kernel
theorem dX10_couldGoOn_77 : decode cX10_couldGoOn 77 = .ok (.ireturn, 1) := by decide +kernel
theorem dX10_isAttacked_0 : decode cX10_isAttacked 0 = .ok (.iconst 0, 1) := by decide +kernel
theorem dX10_isAttacked_1 : decode cX10_isAttacked 1 = .ok (.istore 4, 2) := by decide +kernel
theorem dX10_isAttacked_3 : decode cX10_isAttacked 3 = .ok (.iload 4, 2) := by decide +kernel
theorem dX10_isAttacked_5 : decode cX10_isAttacked 5 = .ok (.aload_n 0, 1) := by decide +kernel
theorem dX10_isAttacked_6 : decode cX10_isAttacked 6 = .ok (.getfield 143, 3) := by decide +kernel
theorem dX10_isAttacked_9 : decode cX10_isAttacked 9 = .ok (.aload_n 0, 1) := by decide +kernel
theorem dX10_isAttacked_10 : decode cX10_isAttacked 10 = .ok (.getfield 143, 3) := by decide +kernel
theorem dX10_isAttacked_13 : decode cX10_isAttacked 13 = .ok (.imul, 1) := by decide +kernel
theorem dX10_isAttacked_14 : decode cX10_isAttacked 14 = .ok (.if_icmp .ge 57, 3) := by decide +kernel
theorem dX10_isAttacked_17 : decode cX10_isAttacked 17 = .ok (.aload_n 0, 1) := by decide +kernel
theorem dX10_isAttacked_18 : decode cX10_isAttacked 18 = .ok (.getfield 31, 3) := by decide +kernel
theorem dX10_isAttacked_21 : decode cX10_isAttacked 21 = .ok (.bipush 49, 2) := by decide +kernel
theorem dX10_isAttacked_23 : decode cX10_isAttacked 23 = .ok (.iload_n 1, 1) := by decide +kernel
theorem dX10_isAttacked_24 : decode cX10_isAttacked 24 = .ok (.imul, 1) := by decide +kernel
theorem dX10_isAttacked_25 : decode cX10_isAttacked 25 = .ok (.iload 4, 2) := by decide +kernel
theorem dX10_isAttacked_27 : decode cX10_isAttacked 27 = .ok (.iadd, 1) := by decide +kernel
theorem dX10_isAttacked_28 : decode cX10_isAttacked 28 = .ok (.iaload, 1) := by decide +kernel
theorem dX10_isAttacked_29 : decode cX10_isAttacked 29 = .ok (.istore 5, 2) := by decide +kernel
theorem dX10_isAttacked_31 : decode cX10_isAttacked 31 = .ok (.iload 5, 2) := by decide +kernel
theorem dX10_isAttacked_33 : decode cX10_isAttacked 33 = .ok (.ifCond .eq 32, 3) := by decide +kernel
theorem dX10_isAttacked_36 : decode cX10_isAttacked 36 = .ok (.iload 5, 2) := by decide +kernel
theorem dX10_isAttacked_38 : decode cX10_isAttacked 38 = .ok (.invokestatic 193, 3) := by decide +kernel
theorem dX10_isAttacked_41 : decode cX10_isAttacked 41 = .ok (.iload_n 2, 1) := by decide +kernel
theorem dX10_isAttacked_42 : decode cX10_isAttacked 42 = .ok (.if_icmp .ne 23, 3) := by decide +kernel
theorem dX10_isAttacked_45 : decode cX10_isAttacked 45 = .ok (.aload_n 0, 1) := by decide +kernel
theorem dX10_isAttacked_46 : decode cX10_isAttacked 46 = .ok (.iload_n 1, 1) := by decide +kernel
theorem dX10_isAttacked_47 : decode cX10_isAttacked 47 = .ok (.iload 4, 2) := by decide +kernel
theorem dX10_isAttacked_49 : decode cX10_isAttacked 49 = .ok (.iload 5, 2) := by decide +kernel
theorem dX10_isAttacked_51 : decode cX10_isAttacked 51 = .ok (.invokevirtual 203, 3) := by decide +kernel
theorem dX10_isAttacked_54 : decode cX10_isAttacked 54 = .ok (.aload_n 0, 1) := by decide +kernel
theorem dX10_isAttacked_55 : decode cX10_isAttacked 55 = .ok (.getfield 73, 3) := by decide +kernel
theorem dX10_isAttacked_58 : decode cX10_isAttacked 58 = .ok (.iload_n 3, 1) := by decide +kernel
theorem dX10_isAttacked_59 : decode cX10_isAttacked 59 = .ok (.baload, 1) := by decide +kernel
theorem dX10_isAttacked_60 : decode cX10_isAttacked 60 = .ok (.ifCond .eq 5, 3) := by decide +kernel
theorem dX10_isAttacked_63 : decode cX10_isAttacked 63 = .ok (.iconst 1, 1) := by decide +kernel
theorem dX10_isAttacked_64 : decode cX10_isAttacked 64 = .ok (.ireturn, 1) := by decide +kernel
theorem dX10_isAttacked_65 : decode cX10_isAttacked 65 = .ok (.iinc 4 1, 3) := by decide +kernel
theorem dX10_isAttacked_68 : decode cX10_isAttacked 68 = .ok (.goto (-65), 3) := by decide +kernel
theorem dX10_isAttacked_71 : decode cX10_isAttacked 71 = .ok (.iconst 0, 1) := by decide +kernel
theorem dX10_isAttacked_72 : decode cX10_isAttacked 72 = .ok (.ireturn, 1) := by decide +kernel
theorem dX10_inCheck_0 : decode cX10_inCheck 0 = .ok (.iconst 0, 1) := by decide +kernel
theorem dX10_inCheck_1 : decode cX10_inCheck 1 = .ok (.istore_n 3, 1) := by decide +kernel
theorem dX10_inCheck_2 : decode cX10_inCheck 2 = .ok (.iload_n 3, 1) := by decide +kernel
theorem dX10_inCheck_3 : decode cX10_inCheck 3 = .ok (.aload_n 0, 1) := by decide +kernel
theorem dX10_inCheck_4 : decode cX10_inCheck 4 = .ok (.getfield 143, 3) := by decide +kernel
theorem dX10_inCheck_7 : decode cX10_inCheck 7 = .ok (.aload_n 0, 1) := by decide +kernel
theorem dX10_inCheck_8 : decode cX10_inCheck 8 = .ok (.getfield 143, 3) := by decide +kernel
theorem dX10_inCheck_11 : decode cX10_inCheck 11 = .ok (.imul, 1) := by decide +kernel
theorem dX10_inCheck_12 : decode cX10_inCheck 12 = .ok (.if_icmp .ge 54, 3) := by decide +kernel
theorem dX10_inCheck_15 : decode cX10_inCheck 15 = .ok (.aload_n 0, 1) := by decide +kernel
theorem dX10_inCheck_16 : decode cX10_inCheck 16 = .ok (.getfield 31, 3) := by decide +kernel
theorem dX10_inCheck_19 : decode cX10_inCheck 19 = .ok (.bipush 49, 2) := by decide +kernel
theorem dX10_inCheck_21 : decode cX10_inCheck 21 = .ok (.iload_n 1, 1) := by decide +kernel
theorem dX10_inCheck_22 : decode cX10_inCheck 22 = .ok (.imul, 1) := by decide +kernel
theorem dX10_inCheck_23 : decode cX10_inCheck 23 = .ok (.iload_n 3, 1) := by decide +kernel
theorem dX10_inCheck_24 : decode cX10_inCheck 24 = .ok (.iadd, 1) := by decide +kernel
theorem dX10_inCheck_25 : decode cX10_inCheck 25 = .ok (.iaload, 1) := by decide +kernel
theorem dX10_inCheck_26 : decode cX10_inCheck 26 = .ok (.istore 4, 2) := by decide +kernel
theorem dX10_inCheck_28 : decode cX10_inCheck 28 = .ok (.iload 4, 2) := by decide +kernel
theorem dX10_inCheck_30 : decode cX10_inCheck 30 = .ok (.ifCond .eq 30, 3) := by decide +kernel
theorem dX10_inCheck_33 : decode cX10_inCheck 33 = .ok (.iload 4, 2) := by decide +kernel
theorem dX10_inCheck_35 : decode cX10_inCheck 35 = .ok (.invokestatic 187, 3) := by decide +kernel
theorem dX10_inCheck_38 : decode cX10_inCheck 38 = .ok (.ifCond .ne 22, 3) := by decide +kernel
theorem dX10_inCheck_41 : decode cX10_inCheck 41 = .ok (.iload 4, 2) := by decide +kernel
theorem dX10_inCheck_43 : decode cX10_inCheck 43 = .ok (.invokestatic 193, 3) := by decide +kernel
theorem dX10_inCheck_46 : decode cX10_inCheck 46 = .ok (.iload_n 2, 1) := by decide +kernel
theorem dX10_inCheck_47 : decode cX10_inCheck 47 = .ok (.if_icmp .ne 13, 3) := by decide +kernel
theorem dX10_inCheck_50 : decode cX10_inCheck 50 = .ok (.aload_n 0, 1) := by decide +kernel
theorem dX10_inCheck_51 : decode cX10_inCheck 51 = .ok (.iload_n 1, 1) := by decide +kernel
theorem dX10_inCheck_52 : decode cX10_inCheck 52 = .ok (.iconst 1, 1) := by decide +kernel
theorem dX10_inCheck_53 : decode cX10_inCheck 53 = .ok (.iload_n 2, 1) := by decide +kernel
theorem dX10_inCheck_54 : decode cX10_inCheck 54 = .ok (.isub, 1) := by decide +kernel
theorem dX10_inCheck_55 : decode cX10_inCheck 55 = .ok (.iload_n 3, 1) := by decide +kernel
theorem dX10_inCheck_56 : decode cX10_inCheck 56 = .ok (.invokevirtual 207, 3) := by decide +kernel
theorem dX10_inCheck_59 : decode cX10_inCheck 59 = .ok (.ireturn, 1) := by decide +kernel
theorem dX10_inCheck_60 : decode cX10_inCheck 60 = .ok (.iinc 3 1, 3) := by decide +kernel
theorem dX10_inCheck_63 : decode cX10_inCheck 63 = .ok (.goto (-61), 3) := by decide +kernel
theorem dX10_inCheck_66 : decode cX10_inCheck 66 = .ok (.iconst 0, 1) := by decide +kernel
theorem dX10_inCheck_67 : decode cX10_inCheck 67 = .ok (.ireturn, 1) := by decide +kernel
theorem dX10_isZone_0 : decode cX10_isZone 0 = .ok (.iload_n 1, 1) := by decide +kernel
theorem dX10_isZone_1 : decode cX10_isZone 1 = .ok (.ifCond .ne 12, 3) := by decide +kernel
theorem dX10_isZone_4 : decode cX10_isZone 4 = .ok (.iload_n 2, 1) := by decide +kernel
theorem dX10_isZone_5 : decode cX10_isZone 5 = .ok (.aload_n 0, 1) := by decide +kernel
theorem dX10_isZone_6 : decode cX10_isZone 6 = .ok (.getfield 143, 3) := by decide +kernel
theorem dX10_isZone_9 : decode cX10_isZone 9 = .ok (.idiv, 1) := by decide +kernel
theorem dX10_isZone_10 : decode cX10_isZone 10 = .ok (.goto 16, 3) := by decide +kernel
theorem dX10_isZone_13 : decode cX10_isZone 13 = .ok (.aload_n 0, 1) := by decide +kernel
theorem dX10_isZone_14 : decode cX10_isZone 14 = .ok (.getfield 143, 3) := by decide +kernel
theorem dX10_isZone_17 : decode cX10_isZone 17 = .ok (.iconst 1, 1) := by decide +kernel
theorem dX10_isZone_18 : decode cX10_isZone 18 = .ok (.isub, 1) := by decide +kernel
theorem dX10_isZone_19 : decode cX10_isZone 19 = .ok (.iload_n 2, 1) := by decide +kernel
theorem dX10_isZone_20 : decode cX10_isZone 20 = .ok (.aload_n 0, 1) := by decide +kernel
theorem dX10_isZone_21 : decode cX10_isZone 21 = .ok (.getfield 143, 3) := by decide +kernel
theorem dX10_isZone_24 : decode cX10_isZone 24 = .ok (.idiv, 1) := by decide +kernel
theorem dX10_isZone_25 : decode cX10_isZone 25 = .ok (.isub, 1) := by decide +kernel
theorem dX10_isZone_26 : decode cX10_isZone 26 = .ok (.istore_n 3, 1) := by decide +kernel
theorem dX10_isZone_27 : decode cX10_isZone 27 = .ok (.iload_n 3, 1) := by decide +kernel
theorem dX10_isZone_28 : decode cX10_isZone 28 = .ok (.ifCond .eq 16, 3) := by decide +kernel
theorem dX10_isZone_31 : decode cX10_isZone 31 = .ok (.aload_n 0, 1) := by decide +kernel
theorem dX10_isZone_32 : decode cX10_isZone 32 = .ok (.getfield 143, 3) := by decide +kernel
theorem dX10_isZone_35 : decode cX10_isZone 35 = .ok (.iconst 5, 1) := by decide +kernel
theorem dX10_isZone_36 : decode cX10_isZone 36 = .ok (.if_icmp .le 12, 3) := by decide +kernel
theorem dX10_isZone_39 : decode cX10_isZone 39 = .ok (.iload_n 3, 1) := by decide +kernel
theorem dX10_isZone_40 : decode cX10_isZone 40 = .ok (.iconst 1, 1) := by decide +kernel
theorem dX10_isZone_41 : decode cX10_isZone 41 = .ok (.if_icmp .ne 7, 3) := by decide +kernel
theorem dX10_isZone_44 : decode cX10_isZone 44 = .ok (.iconst 1, 1) := by decide +kernel
theorem dX10_isZone_45 : decode cX10_isZone 45 = .ok (.goto 4, 3) := by decide +kernel
theorem dX10_isZone_48 : decode cX10_isZone 48 = .ok (.iconst 0, 1) := by decide +kernel
theorem dX10_isZone_49 : decode cX10_isZone 49 = .ok (.ireturn, 1) := by decide +kernel
theorem dX10_make_0 : decode cX10_make 0 = .ok (.iload_n 1, 1) := by decide +kernel
theorem dX10_make_1 : decode cX10_make 1 = .ok (.iconst 1, 1) := by decide +kernel
theorem dX10_make_2 : decode cX10_make 2 = .ok (.iadd, 1) := by decide +kernel
theorem dX10_make_3 : decode cX10_make 3 = .ok (.istore 6, 2) := by decide +kernel
theorem dX10_make_5 : decode cX10_make 5 = .ok (.iconst 0, 1) := by decide +kernel
theorem dX10_make_6 : decode cX10_make 6 = .ok (.istore 7, 2) := by decide +kernel
theorem dX10_make_8 : decode cX10_make 8 = .ok (.iload 7, 2) := by decide +kernel
theorem dX10_make_10 : decode cX10_make 10 = .ok (.bipush 49, 2) := by decide +kernel
theorem dX10_make_12 : decode cX10_make 12 = .ok (.if_icmp .ge 34, 3) := by decide +kernel
theorem dX10_make_15 : decode cX10_make 15 = .ok (.aload_n 0, 1) := by decide +kernel
theorem dX10_make_16 : decode cX10_make 16 = .ok (.getfield 31, 3) := by decide +kernel
theorem dX10_make_19 : decode cX10_make 19 = .ok (.bipush 49, 2) := by decide +kernel
theorem dX10_make_21 : decode cX10_make 21 = .ok (.iload 6, 2) := by decide +kernel
theorem dX10_make_23 : decode cX10_make 23 = .ok (.imul, 1) := by decide +kernel
theorem dX10_make_24 : decode cX10_make 24 = .ok (.iload 7, 2) := by decide +kernel
theorem dX10_make_26 : decode cX10_make 26 = .ok (.iadd, 1) := by decide +kernel
theorem dX10_make_27 : decode cX10_make 27 = .ok (.aload_n 0, 1) := by decide +kernel
theorem dX10_make_28 : decode cX10_make 28 = .ok (.getfield 31, 3) := by decide +kernel
theorem dX10_make_31 : decode cX10_make 31 = .ok (.bipush 49, 2) := by decide +kernel
theorem dX10_make_33 : decode cX10_make 33 = .ok (.iload_n 1, 1) := by decide +kernel
theorem dX10_make_34 : decode cX10_make 34 = .ok (.imul, 1) := by decide +kernel
theorem dX10_make_35 : decode cX10_make 35 = .ok (.iload 7, 2) := by decide +kernel
theorem dX10_make_37 : decode cX10_make 37 = .ok (.iadd, 1) := by decide +kernel
theorem dX10_make_38 : decode cX10_make 38 = .ok (.iaload, 1) := by decide +kernel
theorem dX10_make_39 : decode cX10_make 39 = .ok (.iastore, 1) := by decide +kernel
theorem dX10_make_40 : decode cX10_make 40 = .ok (.iinc 7 1, 3) := by decide +kernel
theorem dX10_make_43 : decode cX10_make 43 = .ok (.goto (-35), 3) := by decide +kernel
theorem dX10_make_46 : decode cX10_make 46 = .ok (.iconst 0, 1) := by decide +kernel
theorem dX10_make_47 : decode cX10_make 47 = .ok (.istore 7, 2) := by decide +kernel
theorem dX10_make_49 : decode cX10_make 49 = .ok (.iload 7, 2) := by decide +kernel
theorem dX10_make_51 : decode cX10_make 51 = .ok (.bipush 16, 2) := by decide +kernel
theorem dX10_make_53 : decode cX10_make 53 = .ok (.if_icmp .ge 34, 3) := by decide +kernel
theorem dX10_make_56 : decode cX10_make 56 = .ok (.aload_n 0, 1) := by decide +kernel
theorem dX10_make_57 : decode cX10_make 57 = .ok (.getfield 34, 3) := by decide +kernel
theorem dX10_make_60 : decode cX10_make 60 = .ok (.bipush 16, 2) := by decide +kernel
theorem dX10_make_62 : decode cX10_make 62 = .ok (.iload 6, 2) := by decide +kernel
theorem dX10_make_64 : decode cX10_make 64 = .ok (.imul, 1) := by decide +kernel
theorem dX10_make_65 : decode cX10_make 65 = .ok (.iload 7, 2) := by decide +kernel
theorem dX10_make_67 : decode cX10_make 67 = .ok (.iadd, 1) := by decide +kernel
theorem dX10_make_68 : decode cX10_make 68 = .ok (.aload_n 0, 1) := by decide +kernel
theorem dX10_make_69 : decode cX10_make 69 = .ok (.getfield 34, 3) := by decide +kernel
theorem dX10_make_72 : decode cX10_make 72 = .ok (.bipush 16, 2) := by decide +kernel
theorem dX10_make_74 : decode cX10_make 74 = .ok (.iload_n 1, 1) := by decide +kernel
theorem dX10_make_75 : decode cX10_make 75 = .ok (.imul, 1) := by decide +kernel
theorem dX10_make_76 : decode cX10_make 76 = .ok (.iload 7, 2) := by decide +kernel
theorem dX10_make_78 : decode cX10_make 78 = .ok (.iadd, 1) := by decide +kernel
theorem dX10_make_79 : decode cX10_make 79 = .ok (.iaload, 1) := by decide +kernel
theorem dX10_make_80 : decode cX10_make 80 = .ok (.iastore, 1) := by decide +kernel
theorem dX10_make_81 : decode cX10_make 81 = .ok (.iinc 7 1, 3) := by decide +kernel
theorem dX10_make_84 : decode cX10_make 84 = .ok (.goto (-35), 3) := by decide +kernel
theorem dX10_make_87 : decode cX10_make 87 = .ok (.aload_n 0, 1) := by decide +kernel
theorem dX10_make_88 : decode cX10_make 88 = .ok (.getfield 37, 3) := by decide +kernel
theorem dX10_make_91 : decode cX10_make 91 = .ok (.iload_n 1, 1) := by decide +kernel
theorem dX10_make_92 : decode cX10_make 92 = .ok (.iaload, 1) := by decide +kernel
theorem dX10_make_93 : decode cX10_make 93 = .ok (.istore 7, 2) := by decide +kernel
theorem dX10_make_95 : decode cX10_make 95 = .ok (.aload_n 0, 1) := by decide +kernel
theorem dX10_make_96 : decode cX10_make 96 = .ok (.getfield 37, 3) := by decide +kernel
theorem dX10_make_99 : decode cX10_make 99 = .ok (.iload 6, 2) := by decide +kernel
theorem dX10_make_101 : decode cX10_make 101 = .ok (.iconst 1, 1) := by decide +kernel
theorem dX10_make_102 : decode cX10_make 102 = .ok (.iload 7, 2) := by decide +kernel
theorem dX10_make_104 : decode cX10_make 104 = .ok (.isub, 1) := by decide +kernel
theorem dX10_make_105 : decode cX10_make 105 = .ok (.iastore, 1) := by decide +kernel
theorem dX10_make_106 : decode cX10_make 106 = .ok (.iload_n 2, 1) := by decide +kernel
theorem dX10_make_107 : decode cX10_make 107 = .ok (.ifCond .ge 51, 3) := by decide +kernel
theorem dX10_make_110 : decode cX10_make 110 = .ok (.aload_n 0, 1) := by decide +kernel
theorem dX10_make_111 : decode cX10_make 111 = .ok (.getfield 34, 3) := by decide +kernel
theorem dX10_make_114 : decode cX10_make 114 = .ok (.bipush 16, 2) := by decide +kernel
theorem dX10_make_116 : decode cX10_make 116 = .ok (.iload 6, 2) := by decide +kernel
theorem dX10_make_118 : decode cX10_make 118 = .ok (.imul, 1) := by decide +kernel
theorem dX10_make_119 : decode cX10_make 119 = .ok (.bipush 8, 2) := by decide +kernel
theorem dX10_make_121 : decode cX10_make 121 = .ok (.iload 7, 2) := by decide +kernel
theorem dX10_make_123 : decode cX10_make 123 = .ok (.imul, 1) := by decide +kernel
theorem dX10_make_124 : decode cX10_make 124 = .ok (.iadd, 1) := by decide +kernel
theorem dX10_make_125 : decode cX10_make 125 = .ok (.iload 5, 2) := by decide +kernel
theorem dX10_make_127 : decode cX10_make 127 = .ok (.iadd, 1) := by decide +kernel
theorem dX10_make_128 : decode cX10_make 128 = .ok (.dup2, 1) := by decide +kernel
theorem dX10_make_129 : decode cX10_make 129 = .ok (.iaload, 1) := by decide +kernel
theorem dX10_make_130 : decode cX10_make 130 = .ok (.iconst 1, 1) := by decide +kernel
theorem dX10_make_131 : decode cX10_make 131 = .ok (.isub, 1) := by decide +kernel
theorem dX10_make_132 : decode cX10_make 132 = .ok (.iastore, 1) := by decide +kernel
theorem dX10_make_133 : decode cX10_make 133 = .ok (.aload_n 0, 1) := by decide +kernel
theorem dX10_make_134 : decode cX10_make 134 = .ok (.getfield 31, 3) := by decide +kernel
theorem dX10_make_137 : decode cX10_make 137 = .ok (.bipush 49, 2) := by decide +kernel
theorem dX10_make_139 : decode cX10_make 139 = .ok (.iload 6, 2) := by decide +kernel
theorem dX10_make_141 : decode cX10_make 141 = .ok (.imul, 1) := by decide +kernel
theorem dX10_make_142 : decode cX10_make 142 = .ok (.iload_n 3, 1) := by decide +kernel
theorem dX10_make_143 : decode cX10_make 143 = .ok (.iadd, 1) := by decide +kernel
theorem dX10_make_144 : decode cX10_make 144 = .ok (.iconst 1, 1) := by decide +kernel
theorem dX10_make_145 : decode cX10_make 145 = .ok (.iload 5, 2) := by decide +kernel
theorem dX10_make_147 : decode cX10_make 147 = .ok (.iadd, 1) := by decide +kernel
theorem dX10_make_148 : decode cX10_make 148 = .ok (.bipush 16, 2) := by decide +kernel
theorem dX10_make_150 : decode cX10_make 150 = .ok (.iload 7, 2) := by decide +kernel
theorem dX10_make_152 : decode cX10_make 152 = .ok (.imul, 1) := by decide +kernel
theorem dX10_make_153 : decode cX10_make 153 = .ok (.iadd, 1) := by decide +kernel
theorem dX10_make_154 : decode cX10_make 154 = .ok (.iastore, 1) := by decide +kernel
theorem dX10_make_155 : decode cX10_make 155 = .ok (.goto 89, 3) := by decide +kernel
theorem dX10_make_158 : decode cX10_make 158 = .ok (.aload_n 0, 1) := by decide +kernel
theorem dX10_make_159 : decode cX10_make 159 = .ok (.getfield 31, 3) := by decide +kernel
theorem dX10_make_162 : decode cX10_make 162 = .ok (.bipush 49, 2) := by decide +kernel
theorem dX10_make_164 : decode cX10_make 164 = .ok (.iload_n 1, 1) := by decide +kernel
theorem dX10_make_165 : decode cX10_make 165 = .ok (.imul, 1) := by decide +kernel
theorem dX10_make_166 : decode cX10_make 166 = .ok (.iload_n 3, 1) := by decide +kernel
theorem dX10_make_167 : decode cX10_make 167 = .ok (.iadd, 1) := by decide +kernel
theorem dX10_make_168 : decode cX10_make 168 = .ok (.iaload, 1) := by decide +kernel
theorem dX10_make_169 : decode cX10_make 169 = .ok (.istore 8, 2) := by decide +kernel
theorem dX10_make_171 : decode cX10_make 171 = .ok (.iload 8, 2) := by decide +kernel
theorem dX10_make_173 : decode cX10_make 173 = .ok (.ifCond .eq 29, 3) := by decide +kernel
theorem dX10_make_176 : decode cX10_make 176 = .ok (.aload_n 0, 1) := by decide +kernel
theorem dX10_make_177 : decode cX10_make 177 = .ok (.getfield 34, 3) := by decide +kernel
theorem dX10_make_180 : decode cX10_make 180 = .ok (.bipush 16, 2) := by decide +kernel
theorem dX10_make_182 : decode cX10_make 182 = .ok (.iload 6, 2) := by decide +kernel
theorem dX10_make_184 : decode cX10_make 184 = .ok (.imul, 1) := by decide +kernel
theorem dX10_make_185 : decode cX10_make 185 = .ok (.bipush 8, 2) := by decide +kernel
theorem dX10_make_187 : decode cX10_make 187 = .ok (.iload 7, 2) := by decide +kernel
theorem dX10_make_189 : decode cX10_make 189 = .ok (.imul, 1) := by decide +kernel
theorem dX10_make_190 : decode cX10_make 190 = .ok (.iadd, 1) := by decide +kernel
theorem dX10_make_191 : decode cX10_make 191 = .ok (.iload 8, 2) := by decide +kernel
theorem dX10_make_193 : decode cX10_make 193 = .ok (.invokestatic 187, 3) := by decide +kernel
theorem dX10_make_196 : decode cX10_make 196 = .ok (.iadd, 1) := by decide +kernel
theorem dX10_make_197 : decode cX10_make 197 = .ok (.dup2, 1) := by decide +kernel
theorem dX10_make_198 : decode cX10_make 198 = .ok (.iaload, 1) := by decide +kernel
theorem dX10_make_199 : decode cX10_make 199 = .ok (.iconst 1, 1) := by decide +kernel
theorem dX10_make_200 : decode cX10_make 200 = .ok (.iadd, 1) := by decide +kernel
theorem dX10_make_201 : decode cX10_make 201 = .ok (.iastore, 1) := by decide +kernel
theorem dX10_make_202 : decode cX10_make 202 = .ok (.aload_n 0, 1) := by decide +kernel
theorem dX10_make_203 : decode cX10_make 203 = .ok (.getfield 31, 3) := by decide +kernel
theorem dX10_make_206 : decode cX10_make 206 = .ok (.bipush 49, 2) := by decide +kernel
theorem dX10_make_208 : decode cX10_make 208 = .ok (.iload 6, 2) := by decide +kernel
theorem dX10_make_210 : decode cX10_make 210 = .ok (.imul, 1) := by decide +kernel
theorem dX10_make_211 : decode cX10_make 211 = .ok (.iload_n 3, 1) := by decide +kernel
theorem dX10_make_212 : decode cX10_make 212 = .ok (.iadd, 1) := by decide +kernel
theorem dX10_make_213 : decode cX10_make 213 = .ok (.aload_n 0, 1) := by decide +kernel
theorem dX10_make_214 : decode cX10_make 214 = .ok (.getfield 31, 3) := by decide +kernel
theorem dX10_make_217 : decode cX10_make 217 = .ok (.bipush 49, 2) := by decide +kernel
theorem dX10_make_219 : decode cX10_make 219 = .ok (.iload_n 1, 1) := by decide +kernel
theorem dX10_make_220 : decode cX10_make 220 = .ok (.imul, 1) := by decide +kernel
theorem dX10_make_221 : decode cX10_make 221 = .ok (.iload_n 2, 1) := by decide +kernel
theorem dX10_make_222 : decode cX10_make 222 = .ok (.iadd, 1) := by decide +kernel
theorem dX10_make_223 : decode cX10_make 223 = .ok (.iaload, 1) := by decide +kernel
theorem dX10_make_224 : decode cX10_make 224 = .ok (.bipush 8, 2) := by decide +kernel
theorem dX10_make_226 : decode cX10_make 226 = .ok (.iload 4, 2) := by decide +kernel
theorem dX10_make_228 : decode cX10_make 228 = .ok (.imul, 1) := by decide +kernel
theorem dX10_make_229 : decode cX10_make 229 = .ok (.iadd, 1) := by decide +kernel
theorem dX10_make_230 : decode cX10_make 230 = .ok (.iastore, 1) := by decide +kernel
theorem dX10_make_231 : decode cX10_make 231 = .ok (.aload_n 0, 1) := by decide +kernel
theorem dX10_make_232 : decode cX10_make 232 = .ok (.getfield 31, 3) := by decide +kernel
theorem dX10_make_235 : decode cX10_make 235 = .ok (.bipush 49, 2) := by decide +kernel
theorem dX10_make_237 : decode cX10_make 237 = .ok (.iload 6, 2) := by decide +kernel
theorem dX10_make_239 : decode cX10_make 239 = .ok (.imul, 1) := by decide +kernel
theorem dX10_make_240 : decode cX10_make 240 = .ok (.iload_n 2, 1) := by decide +kernel
theorem dX10_make_241 : decode cX10_make 241 = .ok (.iadd, 1) := by decide +kernel
theorem dX10_make_242 : decode cX10_make 242 = .ok (.iconst 0, 1) := by decide +kernel
theorem dX10_make_243 : decode cX10_make 243 = .ok (.iastore, 1) := by decide +kernel
theorem dX10_make_244 : decode cX10_make 244 = .ok (.return_, 1) := by decide +kernel
theorem dX10_tries_0 : decode cX10_tries 0 = .ok (.sipush 2000, 3) := by decide +kernel
theorem dX10_tries_3 : decode cX10_tries 3 = .ok (.iload_n 1, 1) := by decide +kernel
theorem dX10_tries_4 : decode cX10_tries 4 = .ok (.imul, 1) := by decide +kernel
theorem dX10_tries_5 : decode cX10_tries 5 = .ok (.aload_n 0, 1) := by decide +kernel
theorem dX10_tries_6 : decode cX10_tries 6 = .ok (.getfield 55, 3) := by decide +kernel
theorem dX10_tries_9 : decode cX10_tries 9 = .ok (.iload_n 1, 1) := by decide +kernel
theorem dX10_tries_10 : decode cX10_tries 10 = .ok (.iaload, 1) := by decide +kernel
theorem dX10_tries_11 : decode cX10_tries 11 = .ok (.iadd, 1) := by decide +kernel
theorem dX10_tries_12 : decode cX10_tries 12 = .ok (.istore 6, 2) := by decide +kernel
theorem dX10_tries_14 : decode cX10_tries 14 = .ok (.aload_n 0, 1) := by decide +kernel
theorem dX10_tries_15 : decode cX10_tries 15 = .ok (.getfield 58, 3) := by decide +kernel
theorem dX10_tries_18 : decode cX10_tries 18 = .ok (.iload 6, 2) := by decide +kernel
theorem dX10_tries_20 : decode cX10_tries 20 = .ok (.iload_n 2, 1) := by decide +kernel
theorem dX10_tries_21 : decode cX10_tries 21 = .ok (.iastore, 1) := by decide +kernel
theorem dX10_tries_22 : decode cX10_tries 22 = .ok (.aload_n 0, 1) := by decide +kernel
theorem dX10_tries_23 : decode cX10_tries 23 = .ok (.getfield 61, 3) := by decide +kernel
theorem dX10_tries_26 : decode cX10_tries 26 = .ok (.iload 6, 2) := by decide +kernel
theorem dX10_tries_28 : decode cX10_tries 28 = .ok (.iload_n 3, 1) := by decide +kernel
theorem dX10_tries_29 : decode cX10_tries 29 = .ok (.iastore, 1) := by decide +kernel
theorem dX10_tries_30 : decode cX10_tries 30 = .ok (.aload_n 0, 1) := by decide +kernel
theorem dX10_tries_31 : decode cX10_tries 31 = .ok (.getfield 64, 3) := by decide +kernel
theorem dX10_tries_34 : decode cX10_tries 34 = .ok (.iload 6, 2) := by decide +kernel
theorem dX10_tries_36 : decode cX10_tries 36 = .ok (.iload 4, 2) := by decide +kernel
theorem dX10_tries_38 : decode cX10_tries 38 = .ok (.iastore, 1) := by decide +kernel
theorem dX10_tries_39 : decode cX10_tries 39 = .ok (.aload_n 0, 1) := by decide +kernel
theorem dX10_tries_40 : decode cX10_tries 40 = .ok (.getfield 67, 3) := by decide +kernel
theorem dX10_tries_43 : decode cX10_tries 43 = .ok (.iload 6, 2) := by decide +kernel
theorem dX10_tries_45 : decode cX10_tries 45 = .ok (.iload 5, 2) := by decide +kernel
theorem dX10_tries_47 : decode cX10_tries 47 = .ok (.iastore, 1) := by decide +kernel
theorem dX10_tries_48 : decode cX10_tries 48 = .ok (.aload_n 0, 1) := by decide +kernel
theorem dX10_tries_49 : decode cX10_tries 49 = .ok (.getfield 55, 3) := by decide +kernel
theorem dX10_tries_52 : decode cX10_tries 52 = .ok (.iload_n 1, 1) := by decide +kernel
theorem dX10_tries_53 : decode cX10_tries 53 = .ok (.dup2, 1) := by decide +kernel
theorem dX10_tries_54 : decode cX10_tries 54 = .ok (.iaload, 1) := by decide +kernel
theorem dX10_tries_55 : decode cX10_tries 55 = .ok (.iconst 1, 1) := by decide +kernel
theorem dX10_tries_56 : decode cX10_tries 56 = .ok (.iadd, 1) := by decide +kernel
theorem dX10_tries_57 : decode cX10_tries 57 = .ok (.iastore, 1) := by decide +kernel
theorem dX10_tries_58 : decode cX10_tries 58 = .ok (.return_, 1) := by decide +kernel
theorem dX10_mayRaiseSo_0 : decode cX10_mayRaiseSo 0 = .ok (.iload_n 1, 1) := by decide +kernel
theorem dX10_mayRaiseSo_1 : decode cX10_mayRaiseSo 1 = .ok (.invokestatic 190, 3) := by decide +kernel
theorem dX10_mayRaiseSo_4 : decode cX10_mayRaiseSo 4 = .ok (.ifCond .ne 37, 3) := by decide +kernel
theorem dX10_mayRaiseSo_7 : decode cX10_mayRaiseSo 7 = .ok (.aload_n 0, 1) := by decide +kernel
