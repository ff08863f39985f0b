theorem dX10_doMove_10 : decode cX10_doMove 10 = .ok (.getfield 89, 3) := by decide +kernel
theorem dX10_doMove_13 : decode cX10_doMove 13 = .ok (.iload 4, 2) := by decide +kernel
theorem dX10_doMove_15 : decode cX10_doMove 15 = .ok (.aload_n 0, 1) := by decide +kernel
theorem dX10_doMove_16 : decode cX10_doMove 16 = .ok (.getfield 43, 3) := by decide +kernel
theorem dX10_doMove_19 : decode cX10_doMove 19 = .ok (.iload_n 3, 1) := by decide +kernel
theorem dX10_doMove_20 : decode cX10_doMove 20 = .ok (.iaload, 1) := by decide +kernel
theorem dX10_doMove_21 : decode cX10_doMove 21 = .ok (.iastore, 1) := by decide +kernel
theorem dX10_doMove_22 : decode cX10_doMove 22 = .ok (.aload_n 0, 1) := by decide +kernel
theorem dX10_doMove_23 : decode cX10_doMove 23 = .ok (.getfield 92, 3) := by decide +kernel
theorem dX10_doMove_26 : decode cX10_doMove 26 = .ok (.iload 4, 2) := by decide +kernel
theorem dX10_doMove_28 : decode cX10_doMove 28 = .ok (.aload_n 0, 1) := by decide +kernel
theorem dX10_doMove_29 : decode cX10_doMove 29 = .ok (.getfield 46, 3) := by decide +kernel
theorem dX10_doMove_32 : decode cX10_doMove 32 = .ok (.iload_n 3, 1) := by decide +kernel
theorem dX10_doMove_33 : decode cX10_doMove 33 = .ok (.iaload, 1) := by decide +kernel
theorem dX10_doMove_34 : decode cX10_doMove 34 = .ok (.iastore, 1) := by decide +kernel
theorem dX10_doMove_35 : decode cX10_doMove 35 = .ok (.aload_n 0, 1) := by decide +kernel
theorem dX10_doMove_36 : decode cX10_doMove 36 = .ok (.getfield 95, 3) := by decide +kernel
theorem dX10_doMove_39 : decode cX10_doMove 39 = .ok (.iload 4, 2) := by decide +kernel
theorem dX10_doMove_41 : decode cX10_doMove 41 = .ok (.aload_n 0, 1) := by decide +kernel
theorem dX10_doMove_42 : decode cX10_doMove 42 = .ok (.getfield 49, 3) := by decide +kernel
theorem dX10_doMove_45 : decode cX10_doMove 45 = .ok (.iload_n 3, 1) := by decide +kernel
theorem dX10_doMove_46 : decode cX10_doMove 46 = .ok (.iaload, 1) := by decide +kernel
theorem dX10_doMove_47 : decode cX10_doMove 47 = .ok (.iastore, 1) := by decide +kernel
theorem dX10_doMove_48 : decode cX10_doMove 48 = .ok (.aload_n 0, 1) := by decide +kernel
theorem dX10_doMove_49 : decode cX10_doMove 49 = .ok (.getfield 98, 3) := by decide +kernel
theorem dX10_doMove_52 : decode cX10_doMove 52 = .ok (.iload 4, 2) := by decide +kernel
theorem dX10_doMove_54 : decode cX10_doMove 54 = .ok (.aload_n 0, 1) := by decide +kernel
theorem dX10_doMove_55 : decode cX10_doMove 55 = .ok (.getfield 52, 3) := by decide +kernel
theorem dX10_doMove_58 : decode cX10_doMove 58 = .ok (.iload_n 3, 1) := by decide +kernel
theorem dX10_doMove_59 : decode cX10_doMove 59 = .ok (.iaload, 1) := by decide +kernel
theorem dX10_doMove_60 : decode cX10_doMove 60 = .ok (.iastore, 1) := by decide +kernel
theorem dX10_doMove_61 : decode cX10_doMove 61 = .ok (.aload_n 0, 1) := by decide +kernel
theorem dX10_doMove_62 : decode cX10_doMove 62 = .ok (.iconst 0, 1) := by decide +kernel
theorem dX10_doMove_63 : decode cX10_doMove 63 = .ok (.iload_n 3, 1) := by decide +kernel
theorem dX10_doMove_64 : decode cX10_doMove 64 = .ok (.invokevirtual 297, 3) := by decide +kernel
theorem dX10_doMove_67 : decode cX10_doMove 67 = .ok (.iconst 0, 1) := by decide +kernel
theorem dX10_doMove_68 : decode cX10_doMove 68 = .ok (.istore 5, 2) := by decide +kernel
theorem dX10_doMove_70 : decode cX10_doMove 70 = .ok (.iload 5, 2) := by decide +kernel
theorem dX10_doMove_72 : decode cX10_doMove 72 = .ok (.bipush 49, 2) := by decide +kernel
theorem dX10_doMove_74 : decode cX10_doMove 74 = .ok (.if_icmp .ge 26, 3) := by decide +kernel
theorem dX10_doMove_77 : decode cX10_doMove 77 = .ok (.aload_n 0, 1) := by decide +kernel
theorem dX10_doMove_78 : decode cX10_doMove 78 = .ok (.getfield 31, 3) := by decide +kernel
theorem dX10_doMove_81 : decode cX10_doMove 81 = .ok (.iload 5, 2) := by decide +kernel
theorem dX10_doMove_83 : decode cX10_doMove 83 = .ok (.aload_n 0, 1) := by decide +kernel
theorem dX10_doMove_84 : decode cX10_doMove 84 = .ok (.getfield 31, 3) := by decide +kernel
theorem dX10_doMove_87 : decode cX10_doMove 87 = .ok (.bipush 49, 2) := by decide +kernel
theorem dX10_doMove_89 : decode cX10_doMove 89 = .ok (.iload 5, 2) := by decide +kernel
theorem dX10_doMove_91 : decode cX10_doMove 91 = .ok (.iadd, 1) := by decide +kernel
theorem dX10_doMove_92 : decode cX10_doMove 92 = .ok (.iaload, 1) := by decide +kernel
theorem dX10_doMove_93 : decode cX10_doMove 93 = .ok (.iastore, 1) := by decide +kernel
theorem dX10_doMove_94 : decode cX10_doMove 94 = .ok (.iinc 5 1, 3) := by decide +kernel
theorem dX10_doMove_97 : decode cX10_doMove 97 = .ok (.goto (-27), 3) := by decide +kernel
theorem dX10_doMove_100 : decode cX10_doMove 100 = .ok (.iconst 0, 1) := by decide +kernel
theorem dX10_doMove_101 : decode cX10_doMove 101 = .ok (.istore 5, 2) := by decide +kernel
theorem dX10_doMove_103 : decode cX10_doMove 103 = .ok (.iload 5, 2) := by decide +kernel
theorem dX10_doMove_105 : decode cX10_doMove 105 = .ok (.bipush 16, 2) := by decide +kernel
theorem dX10_doMove_107 : decode cX10_doMove 107 = .ok (.if_icmp .ge 26, 3) := by decide +kernel
theorem dX10_doMove_110 : decode cX10_doMove 110 = .ok (.aload_n 0, 1) := by decide +kernel
theorem dX10_doMove_111 : decode cX10_doMove 111 = .ok (.getfield 34, 3) := by decide +kernel
theorem dX10_doMove_114 : decode cX10_doMove 114 = .ok (.iload 5, 2) := by decide +kernel
theorem dX10_doMove_116 : decode cX10_doMove 116 = .ok (.aload_n 0, 1) := by decide +kernel
theorem dX10_doMove_117 : decode cX10_doMove 117 = .ok (.getfield 34, 3) := by decide +kernel
theorem dX10_doMove_120 : decode cX10_doMove 120 = .ok (.bipush 16, 2) := by decide +kernel
theorem dX10_doMove_122 : decode cX10_doMove 122 = .ok (.iload 5, 2) := by decide +kernel
theorem dX10_doMove_124 : decode cX10_doMove 124 = .ok (.iadd, 1) := by decide +kernel
theorem dX10_doMove_125 : decode cX10_doMove 125 = .ok (.iaload, 1) := by decide +kernel
theorem dX10_doMove_126 : decode cX10_doMove 126 = .ok (.iastore, 1) := by decide +kernel
theorem dX10_doMove_127 : decode cX10_doMove 127 = .ok (.iinc 5 1, 3) := by decide +kernel
theorem dX10_doMove_130 : decode cX10_doMove 130 = .ok (.goto (-27), 3) := by decide +kernel
theorem dX10_doMove_133 : decode cX10_doMove 133 = .ok (.aload_n 0, 1) := by decide +kernel
theorem dX10_doMove_134 : decode cX10_doMove 134 = .ok (.getfield 37, 3) := by decide +kernel
theorem dX10_doMove_137 : decode cX10_doMove 137 = .ok (.iconst 0, 1) := by decide +kernel
theorem dX10_doMove_138 : decode cX10_doMove 138 = .ok (.aload_n 0, 1) := by decide +kernel
theorem dX10_doMove_139 : decode cX10_doMove 139 = .ok (.getfield 37, 3) := by decide +kernel
theorem dX10_doMove_142 : decode cX10_doMove 142 = .ok (.iconst 1, 1) := by decide +kernel
theorem dX10_doMove_143 : decode cX10_doMove 143 = .ok (.iaload, 1) := by decide +kernel
theorem dX10_doMove_144 : decode cX10_doMove 144 = .ok (.iastore, 1) := by decide +kernel
theorem dX10_doMove_145 : decode cX10_doMove 145 = .ok (.aload_n 0, 1) := by decide +kernel
theorem dX10_doMove_146 : decode cX10_doMove 146 = .ok (.getfield 101, 3) := by decide +kernel
theorem dX10_doMove_149 : decode cX10_doMove 149 = .ok (.iload 4, 2) := by decide +kernel
theorem dX10_doMove_151 : decode cX10_doMove 151 = .ok (.aload_n 0, 1) := by decide +kernel
theorem dX10_doMove_152 : decode cX10_doMove 152 = .ok (.iconst 0, 1) := by decide +kernel
theorem dX10_doMove_153 : decode cX10_doMove 153 = .ok (.aload_n 0, 1) := by decide +kernel
theorem dX10_doMove_154 : decode cX10_doMove 154 = .ok (.getfield 37, 3) := by decide +kernel
theorem dX10_doMove_157 : decode cX10_doMove 157 = .ok (.iconst 0, 1) := by decide +kernel
theorem dX10_doMove_158 : decode cX10_doMove 158 = .ok (.iaload, 1) := by decide +kernel
theorem dX10_doMove_159 : decode cX10_doMove 159 = .ok (.invokevirtual 241, 3) := by decide +kernel
theorem dX10_doMove_162 : decode cX10_doMove 162 = .ok (.bastore, 1) := by decide +kernel
theorem dX10_doMove_163 : decode cX10_doMove 163 = .ok (.aload_n 0, 1) := by decide +kernel
theorem dX10_doMove_164 : decode cX10_doMove 164 = .ok (.iload_n 1, 1) := by decide +kernel
theorem dX10_doMove_165 : decode cX10_doMove 165 = .ok (.iload_n 2, 1) := by decide +kernel
theorem dX10_doMove_166 : decode cX10_doMove 166 = .ok (.iconst 1, 1) := by decide +kernel
theorem dX10_doMove_167 : decode cX10_doMove 167 = .ok (.iadd, 1) := by decide +kernel
theorem dX10_doMove_168 : decode cX10_doMove 168 = .ok (.invokevirtual 279, 3) := by decide +kernel
theorem dX10_doMove_171 : decode cX10_doMove 171 = .ok (.return_, 1) := by decide +kernel
theorem dX10_go_0 : decode cX10_go 0 = .ok (.aload_n 0, 1) := by decide +kernel
theorem dX10_go_1 : decode cX10_go 1 = .ok (.getfield 159, 3) := by decide +kernel
theorem dX10_go_4 : decode cX10_go 4 = .ok (.ifCond .ne 6, 3) := by decide +kernel
theorem dX10_go_7 : decode cX10_go 7 = .ok (.bipush (-3), 2) := by decide +kernel
theorem dX10_go_9 : decode cX10_go 9 = .ok (.ireturn, 1) := by decide +kernel
theorem dX10_go_10 : decode cX10_go 10 = .ok (.aload_n 0, 1) := by decide +kernel
theorem dX10_go_11 : decode cX10_go 11 = .ok (.iconst 0, 1) := by decide +kernel
theorem dX10_go_12 : decode cX10_go 12 = .ok (.invokevirtual 255, 3) := by decide +kernel
theorem dX10_go_15 : decode cX10_go 15 = .ok (.iload_n 1, 1) := by decide +kernel
theorem dX10_go_16 : decode cX10_go 16 = .ok (.i2l, 1) := by decide +kernel
theorem dX10_go_17 : decode cX10_go 17 = .ok (.lconst 0, 1) := by decide +kernel
theorem dX10_go_18 : decode cX10_go 18 = .ok (.aload_n 0, 1) := by decide +kernel
theorem dX10_go_19 : decode cX10_go 19 = .ok (.getfield 40, 3) := by decide +kernel
theorem dX10_go_22 : decode cX10_go 22 = .ok (.iconst 0, 1) := by decide +kernel
theorem dX10_go_23 : decode cX10_go 23 = .ok (.iaload, 1) := by decide +kernel
theorem dX10_go_24 : decode cX10_go 24 = .ok (.iconst 1, 1) := by decide +kernel
theorem dX10_go_25 : decode cX10_go 25 = .ok (.isub, 1) := by decide +kernel
theorem dX10_go_26 : decode cX10_go 26 = .ok (.i2l, 1) := by decide +kernel
theorem dX10_go_27 : decode cX10_go 27 = .ok (.invokestatic 139, 3) := by decide +kernel
theorem dX10_go_30 : decode cX10_go 30 = .ok (.ifCond .ne 6, 3) := by decide +kernel
theorem dX10_go_33 : decode cX10_go 33 = .ok (.bipush (-2), 2) := by decide +kernel
theorem dX10_go_35 : decode cX10_go 35 = .ok (.ireturn, 1) := by decide +kernel
theorem dX10_go_36 : decode cX10_go 36 = .ok (.aload_n 0, 1) := by decide +kernel
theorem dX10_go_37 : decode cX10_go 37 = .ok (.getfield 286, 3) := by decide +kernel
theorem dX10_go_40 : decode cX10_go 40 = .ok (.ifCond .eq 6, 3) := by decide +kernel
theorem dX10_go_43 : decode cX10_go 43 = .ok (.bipush (-3), 2) := by decide +kernel
theorem dX10_go_45 : decode cX10_go 45 = .ok (.ireturn, 1) := by decide +kernel
theorem dX10_go_46 : decode cX10_go 46 = .ok (.aload_n 0, 1) := by decide +kernel
theorem dX10_go_47 : decode cX10_go 47 = .ok (.getfield 273, 3) := by decide +kernel
theorem dX10_go_50 : decode cX10_go 50 = .ok (.sipush 300, 3) := by decide +kernel
theorem dX10_go_53 : decode cX10_go 53 = .ok (.if_icmp .ne 6, 3) := by decide +kernel
theorem dX10_go_56 : decode cX10_go 56 = .ok (.bipush (-4), 2) := by decide +kernel
theorem dX10_go_58 : decode cX10_go 58 = .ok (.ireturn, 1) := by decide +kernel
theorem dX10_go_59 : decode cX10_go 59 = .ok (.aload_n 0, 1) := by decide +kernel
theorem dX10_go_60 : decode cX10_go 60 = .ok (.aload_n 0, 1) := by decide +kernel
theorem dX10_go_61 : decode cX10_go 61 = .ok (.getfield 270, 3) := by decide +kernel
theorem dX10_go_64 : decode cX10_go 64 = .ok (.aload_n 0, 1) := by decide +kernel
theorem dX10_go_65 : decode cX10_go 65 = .ok (.getfield 273, 3) := by decide +kernel
theorem dX10_go_68 : decode cX10_go 68 = .ok (.iload_n 1, 1) := by decide +kernel
theorem dX10_go_69 : decode cX10_go 69 = .ok (.invokevirtual 300, 3) := by decide +kernel
theorem dX10_go_72 : decode cX10_go 72 = .ok (.aload_n 0, 1) := by decide +kernel
theorem dX10_go_73 : decode cX10_go 73 = .ok (.dup, 1) := by decide +kernel
theorem dX10_go_74 : decode cX10_go 74 = .ok (.getfield 273, 3) := by decide +kernel
theorem dX10_go_77 : decode cX10_go 77 = .ok (.iconst 1, 1) := by decide +kernel
theorem dX10_go_78 : decode cX10_go 78 = .ok (.iadd, 1) := by decide +kernel
theorem dX10_go_79 : decode cX10_go 79 = .ok (.putfield 273, 3) := by decide +kernel
theorem dX10_go_82 : decode cX10_go 82 = .ok (.aload_n 0, 1) := by decide +kernel
theorem dX10_go_83 : decode cX10_go 83 = .ok (.aload_n 0, 1) := by decide +kernel
theorem dX10_go_84 : decode cX10_go 84 = .ok (.getfield 273, 3) := by decide +kernel
theorem dX10_go_87 : decode cX10_go 87 = .ok (.putfield 276, 3) := by decide +kernel
theorem dX10_go_90 : decode cX10_go 90 = .ok (.aload_n 0, 1) := by decide +kernel
theorem dX10_go_91 : decode cX10_go 91 = .ok (.aload_n 0, 1) := by decide +kernel
theorem dX10_go_92 : decode cX10_go 92 = .ok (.aload_n 0, 1) := by decide +kernel
theorem dX10_go_93 : decode cX10_go 93 = .ok (.getfield 270, 3) := by decide +kernel
theorem dX10_go_96 : decode cX10_go 96 = .ok (.aload_n 0, 1) := by decide +kernel
theorem dX10_go_97 : decode cX10_go 97 = .ok (.getfield 273, 3) := by decide +kernel
theorem dX10_go_100 : decode cX10_go 100 = .ok (.invokevirtual 283, 3) := by decide +kernel
theorem dX10_go_103 : decode cX10_go 103 = .ok (.putfield 286, 3) := by decide +kernel
theorem dX10_go_106 : decode cX10_go 106 = .ok (.aload_n 0, 1) := by decide +kernel
theorem dX10_go_107 : decode cX10_go 107 = .ok (.getfield 286, 3) := by decide +kernel
theorem dX10_go_110 : decode cX10_go 110 = .ok (.ireturn, 1) := by decide +kernel
theorem dX10_back_0 : decode cX10_back 0 = .ok (.aload_n 0, 1) := by decide +kernel
theorem dX10_back_1 : decode cX10_back 1 = .ok (.getfield 159, 3) := by decide +kernel
theorem dX10_back_4 : decode cX10_back 4 = .ok (.ifCond .eq 10, 3) := by decide +kernel
theorem dX10_back_7 : decode cX10_back 7 = .ok (.aload_n 0, 1) := by decide +kernel
theorem dX10_back_8 : decode cX10_back 8 = .ok (.getfield 273, 3) := by decide +kernel
theorem dX10_back_11 : decode cX10_back 11 = .ok (.ifCond .ne 6, 3) := by decide +kernel
theorem dX10_back_14 : decode cX10_back 14 = .ok (.bipush (-3), 2) := by decide +kernel
theorem dX10_back_16 : decode cX10_back 16 = .ok (.ireturn, 1) := by decide +kernel
theorem dX10_back_17 : decode cX10_back 17 = .ok (.aload_n 0, 1) := by decide +kernel
theorem dX10_back_18 : decode cX10_back 18 = .ok (.dup, 1) := by decide +kernel
theorem dX10_back_19 : decode cX10_back 19 = .ok (.getfield 273, 3) := by decide +kernel
theorem dX10_back_22 : decode cX10_back 22 = .ok (.iconst 1, 1) := by decide +kernel
theorem dX10_back_23 : decode cX10_back 23 = .ok (.isub, 1) := by decide +kernel
theorem dX10_back_24 : decode cX10_back 24 = .ok (.putfield 273, 3) := by decide +kernel
theorem dX10_back_27 : decode cX10_back 27 = .ok (.aload_n 0, 1) := by decide +kernel
theorem dX10_back_28 : decode cX10_back 28 = .ok (.aload_n 0, 1) := by decide +kernel
theorem dX10_back_29 : decode cX10_back 29 = .ok (.getfield 270, 3) := by decide +kernel
theorem dX10_back_32 : decode cX10_back 32 = .ok (.aload_n 0, 1) := by decide +kernel
theorem dX10_back_33 : decode cX10_back 33 = .ok (.getfield 273, 3) := by decide +kernel
theorem dX10_back_36 : decode cX10_back 36 = .ok (.invokevirtual 303, 3) := by decide +kernel
theorem dX10_back_39 : decode cX10_back 39 = .ok (.aload_n 0, 1) := by decide +kernel
theorem dX10_back_40 : decode cX10_back 40 = .ok (.aload_n 0, 1) := by decide +kernel
theorem dX10_back_41 : decode cX10_back 41 = .ok (.aload_n 0, 1) := by decide +kernel
theorem dX10_back_42 : decode cX10_back 42 = .ok (.getfield 270, 3) := by decide +kernel
theorem dX10_back_45 : decode cX10_back 45 = .ok (.aload_n 0, 1) := by decide +kernel
theorem dX10_back_46 : decode cX10_back 46 = .ok (.getfield 273, 3) := by decide +kernel
theorem dX10_back_49 : decode cX10_back 49 = .ok (.invokevirtual 283, 3) := by decide +kernel
theorem dX10_back_52 : decode cX10_back 52 = .ok (.putfield 286, 3) := by decide +kernel
theorem dX10_back_55 : decode cX10_back 55 = .ok (.aload_n 0, 1) := by decide +kernel
theorem dX10_back_56 : decode cX10_back 56 = .ok (.getfield 273, 3) := by decide +kernel
theorem dX10_back_59 : decode cX10_back 59 = .ok (.ireturn, 1) := by decide +kernel
theorem dX10_forth_0 : decode cX10_forth 0 = .ok (.aload_n 0, 1) := by decide +kernel
theorem dX10_forth_1 : decode cX10_forth 1 = .ok (.getfield 159, 3) := by decide +kernel
theorem dX10_forth_4 : decode cX10_forth 4 = .ok (.ifCond .eq 14, 3) := by decide +kernel
theorem dX10_forth_7 : decode cX10_forth 7 = .ok (.aload_n 0, 1) := by decide +kernel
theorem dX10_forth_8 : decode cX10_forth 8 = .ok (.getfield 273, 3) := by decide +kernel
theorem dX10_forth_11 : decode cX10_forth 11 = .ok (.aload_n 0, 1) := by decide +kernel
theorem dX10_forth_12 : decode cX10_forth 12 = .ok (.getfield 276, 3) := by decide +kernel
theorem dX10_forth_15 : decode cX10_forth 15 = .ok (.if_icmp .ne 6, 3) := by decide +kernel
theorem dX10_forth_18 : decode cX10_forth 18 = .ok (.bipush (-3), 2) := by decide +kernel
theorem dX10_forth_20 : decode cX10_forth 20 = .ok (.ireturn, 1) := by decide +kernel
theorem dX10_forth_21 : decode cX10_forth 21 = .ok (.aload_n 0, 1) := by decide +kernel
theorem dX10_forth_22 : decode cX10_forth 22 = .ok (.dup, 1) := by decide +kernel
theorem dX10_forth_23 : decode cX10_forth 23 = .ok (.getfield 273, 3) := by decide +kernel
theorem dX10_forth_26 : decode cX10_forth 26 = .ok (.iconst 1, 1) := by decide +kernel
theorem dX10_forth_27 : decode cX10_forth 27 = .ok (.iadd, 1) := by decide +kernel
theorem dX10_forth_28 : decode cX10_forth 28 = .ok (.putfield 273, 3) := by decide +kernel
theorem dX10_forth_31 : decode cX10_forth 31 = .ok (.aload_n 0, 1) := by decide +kernel
theorem dX10_forth_32 : decode cX10_forth 32 = .ok (.aload_n 0, 1) := by decide +kernel
theorem dX10_forth_33 : decode cX10_forth 33 = .ok (.getfield 270, 3) := by decide +kernel
theorem dX10_forth_36 : decode cX10_forth 36 = .ok (.aload_n 0, 1) := by decide +kernel
theorem dX10_forth_37 : decode cX10_forth 37 = .ok (.getfield 273, 3) := by decide +kernel
theorem dX10_forth_40 : decode cX10_forth 40 = .ok (.invokevirtual 303, 3) := by decide +kernel
theorem dX10_forth_43 : decode cX10_forth 43 = .ok (.aload_n 0, 1) := by decide +kernel
theorem dX10_forth_44 : decode cX10_forth 44 = .ok (.aload_n 0, 1) := by decide +kernel
theorem dX10_forth_45 : decode cX10_forth 45 = .ok (.aload_n 0, 1) := by decide +kernel
theorem dX10_forth_46 : decode cX10_forth 46 = .ok (.getfield 270, 3) := by decide +kernel
theorem dX10_forth_49 : decode cX10_forth 49 = .ok (.aload_n 0, 1) := by decide +kernel
theorem dX10_forth_50 : decode cX10_forth 50 = .ok (.getfield 273, 3) := by decide +kernel
theorem dX10_forth_53 : decode cX10_forth 53 = .ok (.invokevirtual 283, 3) := by decide +kernel
theorem dX10_forth_56 : decode cX10_forth 56 = .ok (.putfield 286, 3) := by decide +kernel
theorem dX10_forth_59 : decode cX10_forth 59 = .ok (.aload_n 0, 1) := by decide +kernel
theorem dX10_forth_60 : decode cX10_forth 60 = .ok (.getfield 273, 3) := by decide +kernel
theorem dX10_forth_63 : decode cX10_forth 63 = .ok (.ireturn, 1) := by decide +kernel
theorem dX10_play_0 : decode cX10_play 0 = .ok (.iload_n 1, 1) := by decide +kernel
theorem dX10_play_1 : decode cX10_play 1 = .ok (.i2l, 1) := by decide +kernel
theorem dX10_play_2 : decode cX10_play 2 = .ok (.lconst 0, 1) := by decide +kernel
theorem dX10_play_3 : decode cX10_play 3 = .ok (.ldc2_w 135, 3) := by decide +kernel
theorem dX10_play_6 : decode cX10_play 6 = .ok (.invokestatic 139, 3) := by decide +kernel
theorem dX10_play_9 : decode cX10_play 9 = .ok (.ifCond .ne 6, 3) := by decide +kernel
theorem dX10_play_12 : decode cX10_play 12 = .ok (.bipush (-2), 2) := by decide +kernel
theorem dX10_play_14 : decode cX10_play 14 = .ok (.ireturn, 1) := by decide +kernel
theorem dX10_play_15 : decode cX10_play 15 = .ok (.aload_n 0, 1) := by decide +kernel
theorem dX10_play_16 : decode cX10_play 16 = .ok (.getfield 159, 3) := by decide +kernel
theorem dX10_play_19 : decode cX10_play 19 = .ok (.ifCond .ne 6, 3) := by decide +kernel
theorem dX10_play_22 : decode cX10_play 22 = .ok (.bipush (-3), 2) := by decide +kernel
theorem dX10_play_24 : decode cX10_play 24 = .ok (.ireturn, 1) := by decide +kernel
theorem dX10_play_25 : decode cX10_play 25 = .ok (.iload_n 1, 1) := by decide +kernel
theorem dX10_play_26 : decode cX10_play 26 = .ok (.tableswitch 74 0 4 #[34, 41, 46, 51, 61], 34) := by decide +kernel
theorem dX10_play_60 : decode cX10_play 60 = .ok (.aload_n 0, 1) := by decide +kernel
theorem dX10_play_61 : decode cX10_play 61 = .ok (.getfield 37, 3) := by decide +kernel
theorem dX10_play_64 : decode cX10_play 64 = .ok (.iconst 0, 1) := by decide +kernel
theorem dX10_play_65 : decode cX10_play 65 = .ok (.iaload, 1) := by decide +kernel
theorem dX10_play_66 : decode cX10_play 66 = .ok (.ireturn, 1) := by decide +kernel
theorem dX10_play_67 : decode cX10_play 67 = .ok (.aload_n 0, 1) := by decide +kernel
theorem dX10_play_68 : decode cX10_play 68 = .ok (.getfield 286, 3) := by decide +kernel
theorem dX10_play_71 : decode cX10_play 71 = .ok (.ireturn, 1) := by decide +kernel
theorem dX10_play_72 : decode cX10_play 72 = .ok (.aload_n 0, 1) := by decide +kernel
theorem dX10_play_73 : decode cX10_play 73 = .ok (.getfield 273, 3) := by decide +kernel
theorem dX10_play_76 : decode cX10_play 76 = .ok (.ireturn, 1) := by decide +kernel
theorem dX10_play_77 : decode cX10_play 77 = .ok (.aload_n 0, 1) := by decide +kernel
theorem dX10_play_78 : decode cX10_play 78 = .ok (.getfield 276, 3) := by decide +kernel
theorem dX10_play_81 : decode cX10_play 81 = .ok (.aload_n 0, 1) := by decide +kernel
theorem dX10_play_82 : decode cX10_play 82 = .ok (.getfield 273, 3) := by decide +kernel
theorem dX10_play_85 : decode cX10_play 85 = .ok (.isub, 1) := by decide +kernel
theorem dX10_play_86 : decode cX10_play 86 = .ok (.ireturn, 1) := by decide +kernel
theorem dX10_play_87 : decode cX10_play 87 = .ok (.aload_n 0, 1) := by decide +kernel
theorem dX10_play_88 : decode cX10_play 88 = .ok (.aload_n 0, 1) := by decide +kernel
theorem dX10_play_89 : decode cX10_play 89 = .ok (.getfield 270, 3) := by decide +kernel
theorem dX10_play_92 : decode cX10_play 92 = .ok (.aload_n 0, 1) := by decide +kernel
theorem dX10_play_93 : decode cX10_play 93 = .ok (.getfield 273, 3) := by decide +kernel
theorem dX10_play_96 : decode cX10_play 96 = .ok (.invokevirtual 258, 3) := by decide +kernel
theorem dX10_play_99 : decode cX10_play 99 = .ok (.ireturn, 1) := by decide +kernel
theorem dX10_play_100 : decode cX10_play 100 = .ok (.aload_n 0, 1) := by decide +kernel
theorem dX10_play_101 : decode cX10_play 101 = .ok (.getfield 273, 3) := by decide +kernel
theorem dX10_play_104 : decode cX10_play 104 = .ok (.ifCond .le 30, 3) := by decide +kernel
theorem dX10_play_107 : decode cX10_play 107 = .ok (.aload_n 0, 1) := by decide +kernel
theorem dX10_play_108 : decode cX10_play 108 = .ok (.getfield 101, 3) := by decide +kernel
theorem dX10_play_111 : decode cX10_play 111 = .ok (.sipush 300, 3) := by decide +kernel
theorem dX10_play_114 : decode cX10_play 114 = .ok (.aload_n 0, 1) := by decide +kernel
theorem dX10_play_115 : decode cX10_play 115 = .ok (.getfield 270, 3) := by decide +kernel
theorem dX10_play_118 : decode cX10_play 118 = .ok (.imul, 1) := by decide +kernel
theorem dX10_play_119 : decode cX10_play 119 = .ok (.aload_n 0, 1) := by decide +kernel
theorem dX10_play_120 : decode cX10_play 120 = .ok (.getfield 273, 3) := by decide +kernel
theorem dX10_play_123 : decode cX10_play 123 = .ok (.iadd, 1) := by decide +kernel
theorem dX10_play_124 : decode cX10_play 124 = .ok (.iconst 1, 1) := by decide +kernel
theorem dX10_play_125 : decode cX10_play 125 = .ok (.isub, 1) := by decide +kernel
theorem dX10_play_126 : decode cX10_play 126 = .ok (.baload, 1) := by decide +kernel
theorem dX10_play_127 : decode cX10_play 127 = .ok (.ifCond .eq 7, 3) := by decide +kernel
theorem dX10_play_130 : decode cX10_play 130 = .ok (.iconst 1, 1) := by decide +kernel
theorem dX10_play_131 : decode cX10_play 131 = .ok (.goto 4, 3) := by decide +kernel
theorem dX10_play_134 : decode cX10_play 134 = .ok (.iconst 0, 1) := by decide +kernel
theorem dX10_play_135 : decode cX10_play 135 = .ok (.ireturn, 1) := by decide +kernel
theorem dX10_fuel_0 : decode cX10_fuel 0 = .ok (.iload_n 1, 1) := by decide +kernel
theorem dX10_fuel_1 : decode cX10_fuel 1 = .ok (.i2l, 1) := by decide +kernel
theorem dX10_fuel_2 : decode cX10_fuel 2 = .ok (.lconst 1, 1) := by decide +kernel
theorem dX10_fuel_3 : decode cX10_fuel 3 = .ok (.ldc2_w 306, 3) := by decide +kernel
theorem dX10_fuel_6 : decode cX10_fuel 6 = .ok (.invokestatic 139, 3) := by decide +kernel
theorem dX10_fuel_9 : decode cX10_fuel 9 = .ok (.ifCond .ne 6, 3) := by decide +kernel
theorem dX10_fuel_12 : decode cX10_fuel 12 = .ok (.bipush (-2), 2) := by decide +kernel
theorem dX10_fuel_14 : decode cX10_fuel 14 = .ok (.ireturn, 1) := by decide +kernel
theorem dX10_fuel_15 : decode cX10_fuel 15 = .ok (.aload_n 0, 1) := by decide +kernel
theorem dX10_fuel_16 : decode cX10_fuel 16 = .ok (.getfield 104, 3) := by decide +kernel
theorem dX10_fuel_19 : decode cX10_fuel 19 = .ok (.istore_n 2, 1) := by decide +kernel
theorem dX10_fuel_20 : decode cX10_fuel 20 = .ok (.aload_n 0, 1) := by decide +kernel
theorem dX10_fuel_21 : decode cX10_fuel 21 = .ok (.iload_n 1, 1) := by decide +kernel
theorem dX10_fuel_22 : decode cX10_fuel 22 = .ok (.putfield 104, 3) := by decide +kernel
theorem dX10_fuel_25 : decode cX10_fuel 25 = .ok (.iload_n 2, 1) := by decide +kernel
theorem dX10_fuel_26 : decode cX10_fuel 26 = .ok (.ireturn, 1) := by decide +kernel
theorem dX10_notes_0 : decode cX10_notes 0 = .ok (.aload_n 0, 1) := by decide +kernel
theorem dX10_notes_1 : decode cX10_notes 1 = .ok (.getfield 308, 3) := by decide +kernel
theorem dX10_notes_4 : decode cX10_notes 4 = .ok (.aload_n 0, 1) := by decide +kernel
theorem dX10_notes_5 : decode cX10_notes 5 = .ok (.getfield 104, 3) := by decide +kernel
theorem dX10_notes_8 : decode cX10_notes 8 = .ok (.if_icmp .ne 5, 3) := by decide +kernel
theorem dX10_notes_11 : decode cX10_notes 11 = .ok (.iconst 0, 1) := by decide +kernel
theorem dX10_notes_12 : decode cX10_notes 12 = .ok (.ireturn, 1) := by decide +kernel
theorem dX10_notes_13 : decode cX10_notes 13 = .ok (.aload_n 0, 1) := by decide +kernel
theorem dX10_notes_14 : decode cX10_notes 14 = .ok (.dup, 1) := by decide +kernel
theorem dX10_notes_15 : decode cX10_notes 15 = .ok (.getfield 308, 3) := by decide +kernel
theorem dX10_notes_18 : decode cX10_notes 18 = .ok (.iconst 1, 1) := by decide +kernel
theorem dX10_notes_19 : decode cX10_notes 19 = .ok (.iadd, 1) := by decide +kernel
theorem dX10_notes_20 : decode cX10_notes 20 = .ok (.putfield 308, 3) := by decide +kernel
theorem dX10_notes_23 : decode cX10_notes 23 = .ok (.sipush 2000, 3) := by decide +kernel
theorem dX10_notes_26 : decode cX10_notes 26 = .ok (.iload_n 1, 1) := by decide +kernel
theorem dX10_notes_27 : decode cX10_notes 27 = .ok (.imul, 1) := by decide +kernel
theorem dX10_notes_28 : decode cX10_notes 28 = .ok (.aload_n 0, 1) := by decide +kernel
theorem dX10_notes_29 : decode cX10_notes 29 = .ok (.getfield 126, 3) := by decide +kernel
theorem dX10_notes_32 : decode cX10_notes 32 = .ok (.iload_n 1, 1) := by decide +kernel
theorem dX10_notes_33 : decode cX10_notes 33 = .ok (.iaload, 1) := by decide +kernel
theorem dX10_notes_34 : decode cX10_notes 34 = .ok (.iadd, 1) := by decide +kernel
theorem dX10_notes_35 : decode cX10_notes 35 = .ok (.istore_n 2, 1) := by decide +kernel
theorem dX10_notes_36 : decode cX10_notes 36 = .ok (.aload_n 0, 1) := by decide +kernel
theorem dX10_notes_37 : decode cX10_notes 37 = .ok (.getfield 108, 3) := by decide +kernel
theorem dX10_notes_40 : decode cX10_notes 40 = .ok (.aload_n 0, 1) := by decide +kernel
theorem dX10_notes_41 : decode cX10_notes 41 = .ok (.getfield 289, 3) := by decide +kernel
theorem dX10_notes_44 : decode cX10_notes 44 = .ok (.iload_n 1, 1) := by decide +kernel
theorem dX10_notes_45 : decode cX10_notes 45 = .ok (.ifCond .ne 7, 3) := by decide +kernel
theorem dX10_notes_48 : decode cX10_notes 48 = .ok (.iconst (-1), 1) := by decide +kernel
theorem dX10_notes_49 : decode cX10_notes 49 = .ok (.goto 11, 3) := by decide +kernel
theorem dX10_notes_52 : decode cX10_notes 52 = .ok (.aload_n 0, 1) := by decide +kernel
theorem dX10_notes_53 : decode cX10_notes 53 = .ok (.getfield 129, 3) := by decide +kernel
theorem dX10_notes_56 : decode cX10_notes 56 = .ok (.iload_n 1, 1) := by decide +kernel
theorem dX10_notes_57 : decode cX10_notes 57 = .ok (.iconst 1, 1) := by decide +kernel
theorem dX10_notes_58 : decode cX10_notes 58 = .ok (.isub, 1) := by decide +kernel
theorem dX10_notes_59 : decode cX10_notes 59 = .ok (.iaload, 1) := by decide +kernel
theorem dX10_notes_60 : decode cX10_notes 60 = .ok (.iastore, 1) := by decide +kernel
theorem dX10_notes_61 : decode cX10_notes 61 = .ok (.aload_n 0, 1) := by decide +kernel
theorem dX10_notes_62 : decode cX10_notes 62 = .ok (.getfield 111, 3) := by decide +kernel
theorem dX10_notes_65 : decode cX10_notes 65 = .ok (.aload_n 0, 1) := by decide +kernel
theorem dX10_notes_66 : decode cX10_notes 66 = .ok (.getfield 289, 3) := by decide +kernel
theorem dX10_notes_69 : decode cX10_notes 69 = .ok (.aload_n 0, 1) := by decide +kernel
theorem dX10_notes_70 : decode cX10_notes 70 = .ok (.getfield 43, 3) := by decide +kernel
theorem dX10_notes_73 : decode cX10_notes 73 = .ok (.iload_n 2, 1) := by decide +kernel
theorem dX10_notes_74 : decode cX10_notes 74 = .ok (.iaload, 1) := by decide +kernel
theorem dX10_notes_75 : decode cX10_notes 75 = .ok (.iastore, 1) := by decide +kernel
theorem dX10_notes_76 : decode cX10_notes 76 = .ok (.aload_n 0, 1) := by decide +kernel
theorem dX10_notes_77 : decode cX10_notes 77 = .ok (.getfield 114, 3) := by decide +kernel
theorem dX10_notes_80 : decode cX10_notes 80 = .ok (.aload_n 0, 1) := by decide +kernel
theorem dX10_notes_81 : decode cX10_notes 81 = .ok (.getfield 289, 3) := by decide +kernel
theorem dX10_notes_84 : decode cX10_notes 84 = .ok (.aload_n 0, 1) := by decide +kernel
theorem dX10_notes_85 : decode cX10_notes 85 = .ok (.getfield 46, 3) := by decide +kernel
theorem dX10_notes_88 : decode cX10_notes 88 = .ok (.iload_n 2, 1) := by decide +kernel
theorem dX10_notes_89 : decode cX10_notes 89 = .ok (.iaload, 1) := by decide +kernel
theorem dX10_notes_90 : decode cX10_notes 90 = .ok (.iastore, 1) := by decide +kernel
theorem dX10_notes_91 : decode cX10_notes 91 = .ok (.aload_n 0, 1) := by decide +kernel
theorem dX10_notes_92 : decode cX10_notes 92 = .ok (.getfield 117, 3) := by decide +kernel
theorem dX10_notes_95 : decode cX10_notes 95 = .ok (.aload_n 0, 1) := by decide +kernel
theorem dX10_notes_96 : decode cX10_notes 96 = .ok (.getfield 289, 3) := by decide +kernel
theorem dX10_notes_99 : decode cX10_notes 99 = .ok (.aload_n 0, 1) := by decide +kernel
theorem dX10_notes_100 : decode cX10_notes 100 = .ok (.getfield 49, 3) := by decide +kernel
theorem dX10_notes_103 : decode cX10_notes 103 = .ok (.iload_n 2, 1) := by decide +kernel
theorem dX10_notes_104 : decode cX10_notes 104 = .ok (.iaload, 1) := by decide +kernel
theorem dX10_notes_105 : decode cX10_notes 105 = .ok (.iastore, 1) := by decide +kernel
theorem dX10_notes_106 : decode cX10_notes 106 = .ok (.aload_n 0, 1) := by decide +kernel
theorem dX10_notes_107 : decode cX10_notes 107 = .ok (.getfield 120, 3) := by decide +kernel
theorem dX10_notes_110 : decode cX10_notes 110 = .ok (.aload_n 0, 1) := by decide +kernel
theorem dX10_notes_111 : decode cX10_notes 111 = .ok (.getfield 289, 3) := by decide +kernel
theorem dX10_notes_114 : decode cX10_notes 114 = .ok (.aload_n 0, 1) := by decide +kernel
theorem dX10_notes_115 : decode cX10_notes 115 = .ok (.getfield 52, 3) := by decide +kernel
theorem dX10_notes_118 : decode cX10_notes 118 = .ok (.iload_n 2, 1) := by decide +kernel
theorem dX10_notes_119 : decode cX10_notes 119 = .ok (.iaload, 1) := by decide +kernel
theorem dX10_notes_120 : decode cX10_notes 120 = .ok (.iastore, 1) := by decide +kernel
theorem dX10_notes_121 : decode cX10_notes 121 = .ok (.aload_n 0, 1) := by decide +kernel
theorem dX10_notes_122 : decode cX10_notes 122 = .ok (.getfield 123, 3) := by decide +kernel
theorem dX10_notes_125 : decode cX10_notes 125 = .ok (.aload_n 0, 1) := by decide +kernel
theorem dX10_notes_126 : decode cX10_notes 126 = .ok (.getfield 289, 3) := by decide +kernel
theorem dX10_notes_129 : decode cX10_notes 129 = .ok (.iload_n 1, 1) := by decide +kernel
theorem dX10_notes_130 : decode cX10_notes 130 = .ok (.iastore, 1) := by decide +kernel
theorem dX10_notes_131 : decode cX10_notes 131 = .ok (.aload_n 0, 1) := by decide +kernel
theorem dX10_notes_132 : decode cX10_notes 132 = .ok (.getfield 129, 3) := by decide +kernel
theorem dX10_notes_135 : decode cX10_notes 135 = .ok (.iload_n 1, 1) := by decide +kernel
theorem dX10_notes_136 : decode cX10_notes 136 = .ok (.aload_n 0, 1) := by decide +kernel
theorem dX10_notes_137 : decode cX10_notes 137 = .ok (.getfield 289, 3) := by decide +kernel
theorem dX10_notes_140 : decode cX10_notes 140 = .ok (.iastore, 1) := by decide +kernel
theorem dX10_notes_141 : decode cX10_notes 141 = .ok (.aload_n 0, 1) := by decide +kernel
theorem dX10_notes_142 : decode cX10_notes 142 = .ok (.dup, 1) := by decide +kernel
theorem dX10_notes_143 : decode cX10_notes 143 = .ok (.getfield 289, 3) := by decide +kernel
theorem dX10_notes_146 : decode cX10_notes 146 = .ok (.iconst 1, 1) := by decide +kernel
theorem dX10_notes_147 : decode cX10_notes 147 = .ok (.iadd, 1) := by decide +kernel
theorem dX10_notes_148 : decode cX10_notes 148 = .ok (.putfield 289, 3) := by decide +kernel
theorem dX10_notes_151 : decode cX10_notes 151 = .ok (.iconst 1, 1) := by decide +kernel
theorem dX10_notes_152 : decode cX10_notes 152 = .ok (.ireturn, 1) := by decide +kernel
theorem dX10_nextCheck_0 : decode cX10_nextCheck 0 = .ok (.aload_n 0, 1) := by decide +kernel
theorem dX10_nextCheck_1 : decode cX10_nextCheck 1 = .ok (.getfield 126, 3) := by decide +kernel
theorem dX10_nextCheck_4 : decode cX10_nextCheck 4 = .ok (.iload_n 1, 1) := by decide +kernel
theorem dX10_nextCheck_5 : decode cX10_nextCheck 5 = .ok (.iaload, 1) := by decide +kernel
theorem dX10_nextCheck_6 : decode cX10_nextCheck 6 = .ok (.aload_n 0, 1) := by decide +kernel
theorem dX10_nextCheck_7 : decode cX10_nextCheck 7 = .ok (.getfield 40, 3) := by decide +kernel
theorem dX10_nextCheck_10 : decode cX10_nextCheck 10 = .ok (.iload_n 1, 1) := by decide +kernel
theorem dX10_nextCheck_11 : decode cX10_nextCheck 11 = .ok (.iaload, 1) := by decide +kernel
theorem dX10_nextCheck_12 : decode cX10_nextCheck 12 = .ok (.if_icmp .ge 47, 3) := by decide +kernel
theorem dX10_nextCheck_15 : decode cX10_nextCheck 15 = .ok (.aload_n 0, 1) := by decide +kernel
theorem dX10_nextCheck_16 : decode cX10_nextCheck 16 = .ok (.iload_n 1, 1) := by decide +kernel
theorem dX10_nextCheck_17 : decode cX10_nextCheck 17 = .ok (.aload_n 0, 1) := by decide +kernel
theorem dX10_nextCheck_18 : decode cX10_nextCheck 18 = .ok (.getfield 126, 3) := by decide +kernel
theorem dX10_nextCheck_21 : decode cX10_nextCheck 21 = .ok (.iload_n 1, 1) := by decide +kernel
theorem dX10_nextCheck_22 : decode cX10_nextCheck 22 = .ok (.iaload, 1) := by decide +kernel
theorem dX10_nextCheck_23 : decode cX10_nextCheck 23 = .ok (.invokevirtual 297, 3) := by decide +kernel
theorem dX10_nextCheck_26 : decode cX10_nextCheck 26 = .ok (.aload_n 0, 1) := by decide +kernel
theorem dX10_nextCheck_27 : decode cX10_nextCheck 27 = .ok (.iload_n 1, 1) := by decide +kernel
theorem dX10_nextCheck_28 : decode cX10_nextCheck 28 = .ok (.iconst 1, 1) := by decide +kernel
theorem dX10_nextCheck_29 : decode cX10_nextCheck 29 = .ok (.iadd, 1) := by decide +kernel
theorem dX10_nextCheck_30 : decode cX10_nextCheck 30 = .ok (.aload_n 0, 1) := by decide +kernel
theorem dX10_nextCheck_31 : decode cX10_nextCheck 31 = .ok (.getfield 37, 3) := by decide +kernel
theorem dX10_nextCheck_34 : decode cX10_nextCheck 34 = .ok (.iload_n 1, 1) := by decide +kernel
theorem dX10_nextCheck_35 : decode cX10_nextCheck 35 = .ok (.iconst 1, 1) := by decide +kernel
theorem dX10_nextCheck_36 : decode cX10_nextCheck 36 = .ok (.iadd, 1) := by decide +kernel
theorem dX10_nextCheck_37 : decode cX10_nextCheck 37 = .ok (.iaload, 1) := by decide +kernel
theorem dX10_nextCheck_38 : decode cX10_nextCheck 38 = .ok (.invokevirtual 241, 3) := by decide +kernel
theorem dX10_nextCheck_41 : decode cX10_nextCheck 41 = .ok (.ifCond .eq 5, 3) := by decide +kernel
theorem dX10_nextCheck_44 : decode cX10_nextCheck 44 = .ok (.iconst 1, 1) := by decide +kernel
theorem dX10_nextCheck_45 : decode cX10_nextCheck 45 = .ok (.ireturn, 1) := by decide +kernel
theorem dX10_nextCheck_46 : decode cX10_nextCheck 46 = .ok (.aload_n 0, 1) := by decide +kernel
theorem dX10_nextCheck_47 : decode cX10_nextCheck 47 = .ok (.getfield 126, 3) := by decide +kernel
theorem dX10_nextCheck_50 : decode cX10_nextCheck 50 = .ok (.iload_n 1, 1) := by decide +kernel
theorem dX10_nextCheck_51 : decode cX10_nextCheck 51 = .ok (.dup2, 1) := by decide +kernel
theorem dX10_nextCheck_52 : decode cX10_nextCheck 52 = .ok (.iaload, 1) := by decide +kernel
theorem dX10_nextCheck_53 : decode cX10_nextCheck 53 = .ok (.iconst 1, 1) := by decide +kernel
theorem dX10_nextCheck_54 : decode cX10_nextCheck 54 = .ok (.iadd, 1) := by decide +kernel
theorem dX10_nextCheck_55 : decode cX10_nextCheck 55 = .ok (.iastore, 1) := by decide +kernel
theorem dX10_nextCheck_56 : decode cX10_nextCheck 56 = .ok (.goto (-56), 3) := by decide +kernel
theorem dX10_nextCheck_59 : decode cX10_nextCheck 59 = .ok (.iconst 0, 1) := by decide +kernel
theorem dX10_nextCheck_60 : decode cX10_nextCheck 60 = .ok (.ireturn, 1) := by decide +kernel
theorem dX10_hunts_0 : decode cX10_hunts 0 = .ok (.iconst 0, 1) := by decide +kernel
theorem dX10_hunts_1 : decode cX10_hunts 1 = .ok (.istore_n 2, 1) := by decide +kernel
theorem dX10_hunts_2 : decode cX10_hunts 2 = .ok (.aload_n 0, 1) := by decide +kernel
theorem dX10_hunts_3 : decode cX10_hunts 3 = .ok (.iconst 0, 1) := by decide +kernel
theorem dX10_hunts_4 : decode cX10_hunts 4 = .ok (.putfield 289, 3) := by decide +kernel
theorem dX10_hunts_7 : decode cX10_hunts 7 = .ok (.aload_n 0, 1) := by decide +kernel
theorem dX10_hunts_8 : decode cX10_hunts 8 = .ok (.getfield 126, 3) := by decide +kernel
theorem dX10_hunts_11 : decode cX10_hunts 11 = .ok (.iconst 0, 1) := by decide +kernel
theorem dX10_hunts_12 : decode cX10_hunts 12 = .ok (.iconst 0, 1) := by decide +kernel
theorem dX10_hunts_13 : decode cX10_hunts 13 = .ok (.iastore, 1) := by decide +kernel
theorem dX10_hunts_14 : decode cX10_hunts 14 = .ok (.aload_n 0, 1) := by decide +kernel
theorem dX10_hunts_15 : decode cX10_hunts 15 = .ok (.iconst 0, 1) := by decide +kernel
theorem dX10_hunts_16 : decode cX10_hunts 16 = .ok (.invokevirtual 255, 3) := by decide +kernel
theorem dX10_hunts_19 : decode cX10_hunts 19 = .ok (.iload_n 2, 1) := by decide +kernel
theorem dX10_hunts_20 : decode cX10_hunts 20 = .ok (.iconst 2, 1) := by decide +kernel
theorem dX10_hunts_21 : decode cX10_hunts 21 = .ok (.irem, 1) := by decide +kernel
theorem dX10_hunts_22 : decode cX10_hunts 22 = .ok (.ifCond .ne 107, 3) := by decide +kernel
theorem dX10_hunts_25 : decode cX10_hunts 25 = .ok (.aload_n 0, 1) := by decide +kernel
theorem dX10_hunts_26 : decode cX10_hunts 26 = .ok (.iload_n 2, 1) := by decide +kernel
theorem dX10_hunts_27 : decode cX10_hunts 27 = .ok (.invokevirtual 311, 3) := by decide +kernel
theorem dX10_hunts_30 : decode cX10_hunts 30 = .ok (.ifCond .eq 67, 3) := by decide +kernel
theorem dX10_hunts_33 : decode cX10_hunts 33 = .ok (.aload_n 0, 1) := by decide +kernel
theorem dX10_hunts_34 : decode cX10_hunts 34 = .ok (.iload_n 2, 1) := by decide +kernel
theorem dX10_hunts_35 : decode cX10_hunts 35 = .ok (.invokevirtual 314, 3) := by decide +kernel
theorem dX10_hunts_38 : decode cX10_hunts 38 = .ok (.ifCond .ne 6, 3) := by decide +kernel
theorem dX10_hunts_41 : decode cX10_hunts 41 = .ok (.bipush (-5), 2) := by decide +kernel
theorem dX10_hunts_43 : decode cX10_hunts 43 = .ok (.ireturn, 1) := by decide +kernel
theorem dX10_hunts_44 : decode cX10_hunts 44 = .ok (.aload_n 0, 1) := by decide +kernel
theorem dX10_hunts_45 : decode cX10_hunts 45 = .ok (.iload_n 2, 1) := by decide +kernel
theorem dX10_hunts_46 : decode cX10_hunts 46 = .ok (.iconst 1, 1) := by decide +kernel
theorem dX10_hunts_47 : decode cX10_hunts 47 = .ok (.iadd, 1) := by decide +kernel
theorem dX10_hunts_48 : decode cX10_hunts 48 = .ok (.invokevirtual 255, 3) := by decide +kernel
theorem dX10_hunts_51 : decode cX10_hunts 51 = .ok (.aload_n 0, 1) := by decide +kernel
theorem dX10_hunts_52 : decode cX10_hunts 52 = .ok (.getfield 40, 3) := by decide +kernel
theorem dX10_hunts_55 : decode cX10_hunts 55 = .ok (.iload_n 2, 1) := by decide +kernel
theorem dX10_hunts_56 : decode cX10_hunts 56 = .ok (.iconst 1, 1) := by decide +kernel
theorem dX10_hunts_57 : decode cX10_hunts 57 = .ok (.iadd, 1) := by decide +kernel
theorem dX10_hunts_58 : decode cX10_hunts 58 = .ok (.iaload, 1) := by decide +kernel
theorem dX10_hunts_59 : decode cX10_hunts 59 = .ok (.ifCond .le 16, 3) := by decide +kernel
theorem dX10_hunts_62 : decode cX10_hunts 62 = .ok (.iinc 2 1, 3) := by decide +kernel
theorem dX10_hunts_65 : decode cX10_hunts 65 = .ok (.aload_n 0, 1) := by decide +kernel
theorem dX10_hunts_66 : decode cX10_hunts 66 = .ok (.getfield 126, 3) := by decide +kernel
theorem dX10_hunts_69 : decode cX10_hunts 69 = .ok (.iload_n 2, 1) := by decide +kernel
theorem dX10_hunts_70 : decode cX10_hunts 70 = .ok (.iconst 0, 1) := by decide +kernel
theorem dX10_hunts_71 : decode cX10_hunts 71 = .ok (.iastore, 1) := by decide +kernel
theorem dX10_hunts_72 : decode cX10_hunts 72 = .ok (.goto (-53), 3) := by decide +kernel
theorem dX10_hunts_75 : decode cX10_hunts 75 = .ok (.iload_n 2, 1) := by decide +kernel
theorem dX10_hunts_76 : decode cX10_hunts 76 = .ok (.ifCond .ne 5, 3) := by decide +kernel
theorem dX10_hunts_79 : decode cX10_hunts 79 = .ok (.iconst 1, 1) := by decide +kernel
theorem dX10_hunts_80 : decode cX10_hunts 80 = .ok (.ireturn, 1) := by decide +kernel
theorem dX10_hunts_81 : decode cX10_hunts 81 = .ok (.iinc 2 (-1), 3) := by decide +kernel
theorem dX10_hunts_84 : decode cX10_hunts 84 = .ok (.aload_n 0, 1) := by decide +kernel
theorem dX10_hunts_85 : decode cX10_hunts 85 = .ok (.getfield 126, 3) := by decide +kernel
theorem dX10_hunts_88 : decode cX10_hunts 88 = .ok (.iload_n 2, 1) := by decide +kernel
theorem dX10_hunts_89 : decode cX10_hunts 89 = .ok (.dup2, 1) := by decide +kernel
theorem dX10_hunts_90 : decode cX10_hunts 90 = .ok (.iaload, 1) := by decide +kernel
theorem dX10_hunts_91 : decode cX10_hunts 91 = .ok (.iconst 1, 1) := by decide +kernel
theorem dX10_hunts_92 : decode cX10_hunts 92 = .ok (.iadd, 1) := by decide +kernel
theorem dX10_hunts_93 : decode cX10_hunts 93 = .ok (.iastore, 1) := by decide +kernel
theorem dX10_hunts_94 : decode cX10_hunts 94 = .ok (.goto (-75), 3) := by decide +kernel
theorem dX10_hunts_97 : decode cX10_hunts 97 = .ok (.iload_n 2, 1) := by decide +kernel
theorem dX10_hunts_98 : decode cX10_hunts 98 = .ok (.ifCond .ne 5, 3) := by decide +kernel
theorem dX10_hunts_101 : decode cX10_hunts 101 = .ok (.iconst 0, 1) := by decide +kernel
theorem dX10_hunts_102 : decode cX10_hunts 102 = .ok (.ireturn, 1) := by decide +kernel
theorem dX10_hunts_103 : decode cX10_hunts 103 = .ok (.iinc 2 (-2), 3) := by decide +kernel
theorem dX10_hunts_106 : decode cX10_hunts 106 = .ok (.aload_n 0, 1) := by decide +kernel
theorem dX10_hunts_107 : decode cX10_hunts 107 = .ok (.aload_n 0, 1) := by decide +kernel
theorem dX10_hunts_108 : decode cX10_hunts 108 = .ok (.getfield 129, 3) := by decide +kernel
theorem dX10_hunts_111 : decode cX10_hunts 111 = .ok (.iload_n 2, 1) := by decide +kernel
theorem dX10_hunts_112 : decode cX10_hunts 112 = .ok (.iaload, 1) := by decide +kernel
theorem dX10_hunts_113 : decode cX10_hunts 113 = .ok (.putfield 289, 3) := by decide +kernel
theorem dX10_hunts_116 : decode cX10_hunts 116 = .ok (.aload_n 0, 1) := by decide +kernel
theorem dX10_hunts_117 : decode cX10_hunts 117 = .ok (.getfield 126, 3) := by decide +kernel
theorem dX10_hunts_120 : decode cX10_hunts 120 = .ok (.iload_n 2, 1) := by decide +kernel
theorem dX10_hunts_121 : decode cX10_hunts 121 = .ok (.dup2, 1) := by decide +kernel
theorem dX10_hunts_122 : decode cX10_hunts 122 = .ok (.iaload, 1) := by decide +kernel
theorem dX10_hunts_123 : decode cX10_hunts 123 = .ok (.iconst 1, 1) := by decide +kernel
theorem dX10_hunts_124 : decode cX10_hunts 124 = .ok (.iadd, 1) := by decide +kernel
theorem dX10_hunts_125 : decode cX10_hunts 125 = .ok (.iastore, 1) := by decide +kernel
theorem dX10_hunts_126 : decode cX10_hunts 126 = .ok (.goto (-107), 3) := by decide +kernel
theorem dX10_hunts_129 : decode cX10_hunts 129 = .ok (.aload_n 0, 1) := by decide +kernel
theorem dX10_hunts_130 : decode cX10_hunts 130 = .ok (.getfield 126, 3) := by decide +kernel
theorem dX10_hunts_133 : decode cX10_hunts 133 = .ok (.iload_n 2, 1) := by decide +kernel
theorem dX10_hunts_134 : decode cX10_hunts 134 = .ok (.iaload, 1) := by decide +kernel
theorem dX10_hunts_135 : decode cX10_hunts 135 = .ok (.aload_n 0, 1) := by decide +kernel
theorem dX10_hunts_136 : decode cX10_hunts 136 = .ok (.getfield 40, 3) := by decide +kernel
theorem dX10_hunts_139 : decode cX10_hunts 139 = .ok (.iload_n 2, 1) := by decide +kernel
theorem dX10_hunts_140 : decode cX10_hunts 140 = .ok (.iaload, 1) := by decide +kernel
theorem dX10_hunts_141 : decode cX10_hunts 141 = .ok (.if_icmp .ne 26, 3) := by decide +kernel
theorem dX10_hunts_144 : decode cX10_hunts 144 = .ok (.iload_n 2, 1) := by decide +kernel
theorem dX10_hunts_145 : decode cX10_hunts 145 = .ok (.iconst 1, 1) := by decide +kernel
theorem dX10_hunts_146 : decode cX10_hunts 146 = .ok (.if_icmp .ne 5, 3) := by decide +kernel
theorem dX10_hunts_149 : decode cX10_hunts 149 = .ok (.iconst 1, 1) := by decide +kernel
theorem dX10_hunts_150 : decode cX10_hunts 150 = .ok (.ireturn, 1) := by decide +kernel
theorem dX10_hunts_151 : decode cX10_hunts 151 = .ok (.iinc 2 (-2), 3) := by decide +kernel
theorem dX10_hunts_154 : decode cX10_hunts 154 = .ok (.aload_n 0, 1) := by decide +kernel
theorem dX10_hunts_155 : decode cX10_hunts 155 = .ok (.getfield 126, 3) := by decide +kernel
theorem dX10_hunts_158 : decode cX10_hunts 158 = .ok (.iload_n 2, 1) := by decide +kernel
theorem dX10_hunts_159 : decode cX10_hunts 159 = .ok (.dup2, 1) := by decide +kernel
theorem dX10_hunts_160 : decode cX10_hunts 160 = .ok (.iaload, 1) := by decide +kernel
theorem dX10_hunts_161 : decode cX10_hunts 161 = .ok (.iconst 1, 1) := by decide +kernel
theorem dX10_hunts_162 : decode cX10_hunts 162 = .ok (.iadd, 1) := by decide +kernel
theorem dX10_hunts_163 : decode cX10_hunts 163 = .ok (.iastore, 1) := by decide +kernel
theorem dX10_hunts_164 : decode cX10_hunts 164 = .ok (.goto (-145), 3) := by decide +kernel
theorem dX10_hunts_167 : decode cX10_hunts 167 = .ok (.aload_n 0, 1) := by decide +kernel
theorem dX10_hunts_168 : decode cX10_hunts 168 = .ok (.iload_n 2, 1) := by decide +kernel
theorem dX10_hunts_169 : decode cX10_hunts 169 = .ok (.aload_n 0, 1) := by decide +kernel
theorem dX10_hunts_170 : decode cX10_hunts 170 = .ok (.getfield 126, 3) := by decide +kernel
theorem dX10_hunts_173 : decode cX10_hunts 173 = .ok (.iload_n 2, 1) := by decide +kernel
theorem dX10_hunts_174 : decode cX10_hunts 174 = .ok (.iaload, 1) := by decide +kernel
theorem dX10_hunts_175 : decode cX10_hunts 175 = .ok (.invokevirtual 297, 3) := by decide +kernel
theorem dX10_hunts_178 : decode cX10_hunts 178 = .ok (.aload_n 0, 1) := by decide +kernel
theorem dX10_hunts_179 : decode cX10_hunts 179 = .ok (.iload_n 2, 1) := by decide +kernel
theorem dX10_hunts_180 : decode cX10_hunts 180 = .ok (.invokevirtual 314, 3) := by decide +kernel
theorem dX10_hunts_183 : decode cX10_hunts 183 = .ok (.ifCond .ne 6, 3) := by decide +kernel
theorem dX10_hunts_186 : decode cX10_hunts 186 = .ok (.bipush (-5), 2) := by decide +kernel
theorem dX10_hunts_188 : decode cX10_hunts 188 = .ok (.ireturn, 1) := by decide +kernel
theorem dX10_hunts_189 : decode cX10_hunts 189 = .ok (.iload_n 2, 1) := by decide +kernel
theorem dX10_hunts_190 : decode cX10_hunts 190 = .ok (.iconst 2, 1) := by decide +kernel
theorem dX10_hunts_191 : decode cX10_hunts 191 = .ok (.idiv, 1) := by decide +kernel
theorem dX10_hunts_192 : decode cX10_hunts 192 = .ok (.iconst 1, 1) := by decide +kernel
theorem dX10_hunts_193 : decode cX10_hunts 193 = .ok (.iadd, 1) := by decide +kernel
theorem dX10_hunts_194 : decode cX10_hunts 194 = .ok (.iload_n 1, 1) := by decide +kernel
theorem dX10_hunts_195 : decode cX10_hunts 195 = .ok (.if_icmp .ne 29, 3) := by decide +kernel
theorem dX10_hunts_198 : decode cX10_hunts 198 = .ok (.iinc 2 (-1), 3) := by decide +kernel
theorem dX10_hunts_201 : decode cX10_hunts 201 = .ok (.aload_n 0, 1) := by decide +kernel
theorem dX10_hunts_202 : decode cX10_hunts 202 = .ok (.aload_n 0, 1) := by decide +kernel
theorem dX10_hunts_203 : decode cX10_hunts 203 = .ok (.getfield 129, 3) := by decide +kernel
theorem dX10_hunts_206 : decode cX10_hunts 206 = .ok (.iload_n 2, 1) := by decide +kernel
theorem dX10_hunts_207 : decode cX10_hunts 207 = .ok (.iaload, 1) := by decide +kernel
theorem dX10_hunts_208 : decode cX10_hunts 208 = .ok (.putfield 289, 3) := by decide +kernel
theorem dX10_hunts_211 : decode cX10_hunts 211 = .ok (.aload_n 0, 1) := by decide +kernel
theorem dX10_hunts_212 : decode cX10_hunts 212 = .ok (.getfield 126, 3) := by decide +kernel
theorem dX10_hunts_215 : decode cX10_hunts 215 = .ok (.iload_n 2, 1) := by decide +kernel
theorem dX10_hunts_216 : decode cX10_hunts 216 = .ok (.dup2, 1) := by decide +kernel
theorem dX10_hunts_217 : decode cX10_hunts 217 = .ok (.iaload, 1) := by decide +kernel
theorem dX10_hunts_218 : decode cX10_hunts 218 = .ok (.iconst 1, 1) := by decide +kernel
theorem dX10_hunts_219 : decode cX10_hunts 219 = .ok (.iadd, 1) := by decide +kernel
theorem dX10_hunts_220 : decode cX10_hunts 220 = .ok (.iastore, 1) := by decide +kernel
theorem dX10_hunts_221 : decode cX10_hunts 221 = .ok (.goto (-202), 3) := by decide +kernel
theorem dX10_hunts_224 : decode cX10_hunts 224 = .ok (.aload_n 0, 1) := by decide +kernel
theorem dX10_hunts_225 : decode cX10_hunts 225 = .ok (.iload_n 2, 1) := by decide +kernel
theorem dX10_hunts_226 : decode cX10_hunts 226 = .ok (.iconst 1, 1) := by decide +kernel
theorem dX10_hunts_227 : decode cX10_hunts 227 = .ok (.iadd, 1) := by decide +kernel
theorem dX10_hunts_228 : decode cX10_hunts 228 = .ok (.invokevirtual 255, 3) := by decide +kernel
theorem dX10_hunts_231 : decode cX10_hunts 231 = .ok (.iinc 2 1, 3) := by decide +kernel
theorem dX10_hunts_234 : decode cX10_hunts 234 = .ok (.aload_n 0, 1) := by decide +kernel
theorem dX10_hunts_235 : decode cX10_hunts 235 = .ok (.getfield 126, 3) := by decide +kernel
theorem dX10_hunts_238 : decode cX10_hunts 238 = .ok (.iload_n 2, 1) := by decide +kernel
theorem dX10_hunts_239 : decode cX10_hunts 239 = .ok (.iconst 0, 1) := by decide +kernel
theorem dX10_hunts_240 : decode cX10_hunts 240 = .ok (.iastore, 1) := by decide +kernel
theorem dX10_hunts_241 : decode cX10_hunts 241 = .ok (.goto (-222), 3) := by decide +kernel
theorem dX10_hunt_0 : decode cX10_hunt 0 = .ok (.iload_n 1, 1) := by decide +kernel
theorem dX10_hunt_1 : decode cX10_hunt 1 = .ok (.i2l, 1) := by decide +kernel
theorem dX10_hunt_2 : decode cX10_hunt 2 = .ok (.lconst 1, 1) := by decide +kernel
theorem dX10_hunt_3 : decode cX10_hunt 3 = .ok (.ldc2_w 295, 3) := by decide +kernel
theorem dX10_hunt_6 : decode cX10_hunt 6 = .ok (.invokestatic 139, 3) := by decide +kernel
theorem dX10_hunt_9 : decode cX10_hunt 9 = .ok (.ifCond .ne 6, 3) := by decide +kernel
theorem dX10_hunt_12 : decode cX10_hunt 12 = .ok (.bipush (-2), 2) := by decide +kernel
theorem dX10_hunt_14 : decode cX10_hunt 14 = .ok (.ireturn, 1) := by decide +kernel
theorem dX10_hunt_15 : decode cX10_hunt 15 = .ok (.aload_n 0, 1) := by decide +kernel
theorem dX10_hunt_16 : decode cX10_hunt 16 = .ok (.getfield 159, 3) := by decide +kernel
theorem dX10_hunt_19 : decode cX10_hunt 19 = .ok (.ifCond .ne 6, 3) := by decide +kernel
theorem dX10_hunt_22 : decode cX10_hunt 22 = .ok (.bipush (-3), 2) := by decide +kernel
theorem dX10_hunt_24 : decode cX10_hunt 24 = .ok (.ireturn, 1) := by decide +kernel
theorem dX10_hunt_25 : decode cX10_hunt 25 = .ok (.aload_n 0, 1) := by decide +kernel
theorem dX10_hunt_26 : decode cX10_hunt 26 = .ok (.iconst 0, 1) := by decide +kernel
theorem dX10_hunt_27 : decode cX10_hunt 27 = .ok (.putfield 308, 3) := by decide +kernel
theorem dX10_hunt_30 : decode cX10_hunt 30 = .ok (.iconst 1, 1) := by decide +kernel
theorem dX10_hunt_31 : decode cX10_hunt 31 = .ok (.istore_n 2, 1) := by decide +kernel
theorem dX10_hunt_32 : decode cX10_hunt 32 = .ok (.iload_n 2, 1) := by decide +kernel
theorem dX10_hunt_33 : decode cX10_hunt 33 = .ok (.iload_n 1, 1) := by decide +kernel
theorem dX10_hunt_34 : decode cX10_hunt 34 = .ok (.if_icmp .gt 62, 3) := by decide +kernel
theorem dX10_hunt_37 : decode cX10_hunt 37 = .ok (.aload_n 0, 1) := by decide +kernel
theorem dX10_hunt_38 : decode cX10_hunt 38 = .ok (.iload_n 2, 1) := by decide +kernel
theorem dX10_hunt_39 : decode cX10_hunt 39 = .ok (.invokevirtual 317, 3) := by decide +kernel
theorem dX10_hunt_42 : decode cX10_hunt 42 = .ok (.istore_n 3, 1) := by decide +kernel
theorem dX10_hunt_43 : decode cX10_hunt 43 = .ok (.iload_n 3, 1) := by decide +kernel
theorem dX10_hunt_44 : decode cX10_hunt 44 = .ok (.bipush (-5), 2) := by decide +kernel
theorem dX10_hunt_46 : decode cX10_hunt 46 = .ok (.if_icmp .eq 18, 3) := by decide +kernel
theorem dX10_hunt_49 : decode cX10_hunt 49 = .ok (.iload_n 3, 1) := by decide +kernel
theorem dX10_hunt_50 : decode cX10_hunt 50 = .ok (.iconst 1, 1) := by decide +kernel
theorem dX10_hunt_51 : decode cX10_hunt 51 = .ok (.if_icmp .ne 32, 3) := by decide +kernel
theorem dX10_hunt_54 : decode cX10_hunt 54 = .ok (.aload_n 0, 1) := by decide +kernel
theorem dX10_hunt_55 : decode cX10_hunt 55 = .ok (.getfield 289, 3) := by decide +kernel
theorem dX10_hunt_58 : decode cX10_hunt 58 = .ok (.sipush 500, 3) := by decide +kernel
theorem dX10_hunt_61 : decode cX10_hunt 61 = .ok (.if_icmp .le 22, 3) := by decide +kernel
theorem dX10_hunt_64 : decode cX10_hunt 64 = .ok (.aload_n 0, 1) := by decide +kernel
theorem dX10_hunt_65 : decode cX10_hunt 65 = .ok (.iconst 0, 1) := by decide +kernel
theorem dX10_hunt_66 : decode cX10_hunt 66 = .ok (.putfield 289, 3) := by decide +kernel
theorem dX10_hunt_69 : decode cX10_hunt 69 = .ok (.iload_n 3, 1) := by decide +kernel
theorem dX10_hunt_70 : decode cX10_hunt 70 = .ok (.bipush (-5), 2) := by decide +kernel
theorem dX10_hunt_72 : decode cX10_hunt 72 = .ok (.if_icmp .ne 8, 3) := by decide +kernel
theorem dX10_hunt_75 : decode cX10_hunt 75 = .ok (.bipush (-5), 2) := by decide +kernel
theorem dX10_hunt_77 : decode cX10_hunt 77 = .ok (.goto 5, 3) := by decide +kernel
theorem dX10_hunt_80 : decode cX10_hunt 80 = .ok (.bipush (-4), 2) := by decide +kernel
theorem dX10_hunt_82 : decode cX10_hunt 82 = .ok (.ireturn, 1) := by decide +kernel
theorem dX10_hunt_83 : decode cX10_hunt 83 = .ok (.iload_n 3, 1) := by decide +kernel
theorem dX10_hunt_84 : decode cX10_hunt 84 = .ok (.iconst 1, 1) := by decide +kernel
theorem dX10_hunt_85 : decode cX10_hunt 85 = .ok (.if_icmp .ne 5, 3) := by decide +kernel
theorem dX10_hunt_88 : decode cX10_hunt 88 = .ok (.iload_n 2, 1) := by decide +kernel
theorem dX10_hunt_89 : decode cX10_hunt 89 = .ok (.ireturn, 1) := by decide +kernel
theorem dX10_hunt_90 : decode cX10_hunt 90 = .ok (.iinc 2 1, 3) := by decide +kernel
theorem dX10_hunt_93 : decode cX10_hunt 93 = .ok (.goto (-61), 3) := by decide +kernel
theorem dX10_hunt_96 : decode cX10_hunt 96 = .ok (.aload_n 0, 1) := by decide +kernel
theorem dX10_hunt_97 : decode cX10_hunt 97 = .ok (.iconst 0, 1) := by decide +kernel
theorem dX10_hunt_98 : decode cX10_hunt 98 = .ok (.putfield 289, 3) := by decide +kernel
theorem dX10_hunt_101 : decode cX10_hunt 101 = .ok (.iconst 0, 1) := by decide +kernel
theorem dX10_hunt_102 : decode cX10_hunt 102 = .ok (.ireturn, 1) := by decide +kernel
theorem dX10_spent_0 : decode cX10_spent 0 = .ok (.aload_n 0, 1) := by decide +kernel
theorem dX10_spent_1 : decode cX10_spent 1 = .ok (.getfield 308, 3) := by decide +kernel
theorem dX10_spent_4 : decode cX10_spent 4 = .ok (.ireturn, 1) := by decide +kernel
theorem dX10_tree_0 : decode cX10_tree 0 = .ok (.aload_n 0, 1) := by decide +kernel
theorem dX10_tree_1 : decode cX10_tree 1 = .ok (.getfield 289, 3) := by decide +kernel
theorem dX10_tree_4 : decode cX10_tree 4 = .ok (.ireturn, 1) := by decide +kernel
theorem dX10_within_0 : decode cX10_within 0 = .ok (.iload_n 1, 1) := by decide +kernel
theorem dX10_within_1 : decode cX10_within 1 = .ok (.iconst 1, 1) := by decide +kernel
theorem dX10_within_2 : decode cX10_within 2 = .ok (.iadd, 1) := by decide +kernel
theorem dX10_within_3 : decode cX10_within 3 = .ok (.istore_n 2, 1) := by decide +kernel
theorem dX10_within_4 : decode cX10_within 4 = .ok (.iload_n 2, 1) := by decide +kernel
theorem dX10_within_5 : decode cX10_within 5 = .ok (.aload_n 0, 1) := by decide +kernel
theorem dX10_within_6 : decode cX10_within 6 = .ok (.getfield 289, 3) := by decide +kernel
theorem dX10_within_9 : decode cX10_within 9 = .ok (.if_icmp .ge 24, 3) := by decide +kernel
theorem dX10_within_12 : decode cX10_within 12 = .ok (.aload_n 0, 1) := by decide +kernel
theorem dX10_within_13 : decode cX10_within 13 = .ok (.getfield 123, 3) := by decide +kernel
theorem dX10_within_16 : decode cX10_within 16 = .ok (.iload_n 2, 1) := by decide +kernel
theorem dX10_within_17 : decode cX10_within 17 = .ok (.iaload, 1) := by decide +kernel
theorem dX10_within_18 : decode cX10_within 18 = .ok (.aload_n 0, 1) := by decide +kernel
theorem dX10_within_19 : decode cX10_within 19 = .ok (.getfield 123, 3) := by decide +kernel
theorem dX10_within_22 : decode cX10_within 22 = .ok (.iload_n 1, 1) := by decide +kernel
theorem dX10_within_23 : decode cX10_within 23 = .ok (.iaload, 1) := by decide +kernel
theorem dX10_within_24 : decode cX10_within 24 = .ok (.if_icmp .le 9, 3) := by decide +kernel
theorem dX10_within_27 : decode cX10_within 27 = .ok (.iinc 2 1, 3) := by decide +kernel
theorem dX10_within_30 : decode cX10_within 30 = .ok (.goto (-26), 3) := by decide +kernel
theorem dX10_within_33 : decode cX10_within 33 = .ok (.iload_n 2, 1) := by decide +kernel
theorem dX10_within_34 : decode cX10_within 34 = .ok (.iload_n 1, 1) := by decide +kernel
theorem dX10_within_35 : decode cX10_within 35 = .ok (.isub, 1) := by decide +kernel
theorem dX10_within_36 : decode cX10_within 36 = .ok (.iconst 1, 1) := by decide +kernel
theorem dX10_within_37 : decode cX10_within 37 = .ok (.isub, 1) := by decide +kernel
theorem dX10_within_38 : decode cX10_within 38 = .ok (.ireturn, 1) := by decide +kernel
theorem dX10_node_0 : decode cX10_node 0 = .ok (.iload_n 1, 1) := by decide +kernel
theorem dX10_node_1 : decode cX10_node 1 = .ok (.i2l, 1) := by decide +kernel
theorem dX10_node_2 : decode cX10_node 2 = .ok (.lconst 0, 1) := by decide +kernel
theorem dX10_node_3 : decode cX10_node 3 = .ok (.aload_n 0, 1) := by decide +kernel
theorem dX10_node_4 : decode cX10_node 4 = .ok (.getfield 289, 3) := by decide +kernel
theorem dX10_node_7 : decode cX10_node 7 = .ok (.iconst 1, 1) := by decide +kernel
theorem dX10_node_8 : decode cX10_node 8 = .ok (.isub, 1) := by decide +kernel
theorem dX10_node_9 : decode cX10_node 9 = .ok (.i2l, 1) := by decide +kernel
theorem dX10_node_10 : decode cX10_node 10 = .ok (.invokestatic 139, 3) := by decide +kernel
theorem dX10_node_13 : decode cX10_node 13 = .ok (.ifCond .ne 6, 3) := by decide +kernel
theorem dX10_node_16 : decode cX10_node 16 = .ok (.bipush (-2), 2) := by decide +kernel
theorem dX10_node_18 : decode cX10_node 18 = .ok (.ireturn, 1) := by decide +kernel
theorem dX10_node_19 : decode cX10_node 19 = .ok (.iload_n 2, 1) := by decide +kernel
theorem dX10_node_20 : decode cX10_node 20 = .ok (.tableswitch 92 0 6 #[44, 51, 58, 65, 72, 79, 86], 44) := by decide +kernel
theorem dX10_node_64 : decode cX10_node 64 = .ok (.aload_n 0, 1) := by decide +kernel
theorem dX10_node_65 : decode cX10_node 65 = .ok (.getfield 108, 3) := by decide +kernel
theorem dX10_node_68 : decode cX10_node 68 = .ok (.iload_n 1, 1) := by decide +kernel
theorem dX10_node_69 : decode cX10_node 69 = .ok (.iaload, 1) := by decide +kernel
theorem dX10_node_70 : decode cX10_node 70 = .ok (.ireturn, 1) := by decide +kernel
theorem dX10_node_71 : decode cX10_node 71 = .ok (.aload_n 0, 1) := by decide +kernel
theorem dX10_node_72 : decode cX10_node 72 = .ok (.getfield 111, 3) := by decide +kernel
theorem dX10_node_75 : decode cX10_node 75 = .ok (.iload_n 1, 1) := by decide +kernel
theorem dX10_node_76 : decode cX10_node 76 = .ok (.iaload, 1) := by decide +kernel
theorem dX10_node_77 : decode cX10_node 77 = .ok (.ireturn, 1) := by decide +kernel
theorem dX10_node_78 : decode cX10_node 78 = .ok (.aload_n 0, 1) := by decide +kernel
theorem dX10_node_79 : decode cX10_node 79 = .ok (.getfield 114, 3) := by decide +kernel
theorem dX10_node_82 : decode cX10_node 82 = .ok (.iload_n 1, 1) := by decide +kernel
theorem dX10_node_83 : decode cX10_node 83 = .ok (.iaload, 1) := by decide +kernel
theorem dX10_node_84 : decode cX10_node 84 = .ok (.ireturn, 1) := by decide +kernel
theorem dX10_node_85 : decode cX10_node 85 = .ok (.aload_n 0, 1) := by decide +kernel
theorem dX10_node_86 : decode cX10_node 86 = .ok (.getfield 117, 3) := by decide +kernel
theorem dX10_node_89 : decode cX10_node 89 = .ok (.iload_n 1, 1) := by decide +kernel
theorem dX10_node_90 : decode cX10_node 90 = .ok (.iaload, 1) := by decide +kernel
theorem dX10_node_91 : decode cX10_node 91 = .ok (.ireturn, 1) := by decide +kernel
theorem dX10_node_92 : decode cX10_node 92 = .ok (.aload_n 0, 1) := by decide +kernel
theorem dX10_node_93 : decode cX10_node 93 = .ok (.getfield 120, 3) := by decide +kernel
theorem dX10_node_96 : decode cX10_node 96 = .ok (.iload_n 1, 1) := by decide +kernel
theorem dX10_node_97 : decode cX10_node 97 = .ok (.iaload, 1) := by decide +kernel
theorem dX10_node_98 : decode cX10_node 98 = .ok (.ireturn, 1) := by decide +kernel
theorem dX10_node_99 : decode cX10_node 99 = .ok (.aload_n 0, 1) := by decide +kernel
theorem dX10_node_100 : decode cX10_node 100 = .ok (.getfield 123, 3) := by decide +kernel
theorem dX10_node_103 : decode cX10_node 103 = .ok (.iload_n 1, 1) := by decide +kernel
theorem dX10_node_104 : decode cX10_node 104 = .ok (.iaload, 1) := by decide +kernel
theorem dX10_node_105 : decode cX10_node 105 = .ok (.ireturn, 1) := by decide +kernel
theorem dX10_node_106 : decode cX10_node 106 = .ok (.aload_n 0, 1) := by decide +kernel
theorem dX10_node_107 : decode cX10_node 107 = .ok (.iload_n 1, 1) := by decide +kernel
theorem dX10_node_108 : decode cX10_node 108 = .ok (.invokevirtual 320, 3) := by decide +kernel
theorem dX10_node_111 : decode cX10_node 111 = .ok (.ireturn, 1) := by decide +kernel
theorem dX10_node_112 : decode cX10_node 112 = .ok (.bipush (-2), 2) := by decide +kernel
theorem dX10_node_114 : decode cX10_node 114 = .ok (.ireturn, 1) := by decide +kernel
theorem dX10_forge_0 : decode cX10_forge 0 = .ok (.iload_n 2, 1) := by decide +kernel
theorem dX10_forge_1 : decode cX10_forge 1 = .ok (.iconst (-1), 1) := by decide +kernel
theorem dX10_forge_2 : decode cX10_forge 2 = .ok (.if_icmp .ne 7, 3) := by decide +kernel
theorem dX10_forge_5 : decode cX10_forge 5 = .ok (.iconst 1, 1) := by decide +kernel
theorem dX10_forge_6 : decode cX10_forge 6 = .ok (.goto 4, 3) := by decide +kernel
theorem dX10_forge_9 : decode cX10_forge 9 = .ok (.iconst 0, 1) := by decide +kernel
theorem dX10_forge_10 : decode cX10_forge 10 = .ok (.istore 6, 2) := by decide +kernel
theorem dX10_forge_12 : decode cX10_forge 12 = .ok (.iload_n 1, 1) := by decide +kernel
theorem dX10_forge_13 : decode cX10_forge 13 = .ok (.i2l, 1) := by decide +kernel
theorem dX10_forge_14 : decode cX10_forge 14 = .ok (.lconst 0, 1) := by decide +kernel
theorem dX10_forge_15 : decode cX10_forge 15 = .ok (.aload_n 0, 1) := by decide +kernel
theorem dX10_forge_16 : decode cX10_forge 16 = .ok (.getfield 289, 3) := by decide +kernel
theorem dX10_forge_19 : decode cX10_forge 19 = .ok (.iconst 1, 1) := by decide +kernel
theorem dX10_forge_20 : decode cX10_forge 20 = .ok (.isub, 1) := by decide +kernel
theorem dX10_forge_21 : decode cX10_forge 21 = .ok (.i2l, 1) := by decide +kernel
theorem dX10_forge_22 : decode cX10_forge 22 = .ok (.invokestatic 139, 3) := by decide +kernel
theorem dX10_forge_25 : decode cX10_forge 25 = .ok (.ifCond .eq 47, 3) := by decide +kernel
theorem dX10_forge_28 : decode cX10_forge 28 = .ok (.aload_n 0, 1) := by decide +kernel
theorem dX10_forge_29 : decode cX10_forge 29 = .ok (.iload_n 3, 1) := by decide +kernel
theorem dX10_forge_30 : decode cX10_forge 30 = .ok (.invokevirtual 292, 3) := by decide +kernel
theorem dX10_forge_33 : decode cX10_forge 33 = .ok (.ifCond .eq 39, 3) := by decide +kernel
theorem dX10_forge_36 : decode cX10_forge 36 = .ok (.iload 6, 2) := by decide +kernel
theorem dX10_forge_38 : decode cX10_forge 38 = .ok (.ifCond .ne 11, 3) := by decide +kernel
theorem dX10_forge_41 : decode cX10_forge 41 = .ok (.aload_n 0, 1) := by decide +kernel
theorem dX10_forge_42 : decode cX10_forge 42 = .ok (.iload_n 2, 1) := by decide +kernel
theorem dX10_forge_43 : decode cX10_forge 43 = .ok (.invokevirtual 292, 3) := by decide +kernel
theorem dX10_forge_46 : decode cX10_forge 46 = .ok (.ifCond .eq 26, 3) := by decide +kernel
theorem dX10_forge_49 : decode cX10_forge 49 = .ok (.iload 6, 2) := by decide +kernel
theorem dX10_forge_51 : decode cX10_forge 51 = .ok (.ifCond .eq 24, 3) := by decide +kernel
theorem dX10_forge_54 : decode cX10_forge 54 = .ok (.iload 4, 2) := by decide +kernel
theorem dX10_forge_56 : decode cX10_forge 56 = .ok (.ifCond .ne 16, 3) := by decide +kernel
theorem dX10_forge_59 : decode cX10_forge 59 = .ok (.iload 5, 2) := by decide +kernel
theorem dX10_forge_61 : decode cX10_forge 61 = .ok (.i2l, 1) := by decide +kernel
theorem dX10_forge_62 : decode cX10_forge 62 = .ok (.lconst 1, 1) := by decide +kernel
theorem dX10_forge_63 : decode cX10_forge 63 = .ok (.ldc2_w 137, 3) := by decide +kernel
theorem dX10_forge_66 : decode cX10_forge 66 = .ok (.invokestatic 139, 3) := by decide +kernel
theorem dX10_forge_69 : decode cX10_forge 69 = .ok (.ifCond .ne 6, 3) := by decide +kernel
theorem dX10_forge_72 : decode cX10_forge 72 = .ok (.bipush (-2), 2) := by decide +kernel
theorem dX10_forge_74 : decode cX10_forge 74 = .ok (.ireturn, 1) := by decide +kernel
theorem dX10_forge_75 : decode cX10_forge 75 = .ok (.aload_n 0, 1) := by decide +kernel
theorem dX10_forge_76 : decode cX10_forge 76 = .ok (.getfield 111, 3) := by decide +kernel
theorem dX10_forge_79 : decode cX10_forge 79 = .ok (.iload_n 1, 1) := by decide +kernel
theorem dX10_forge_80 : decode cX10_forge 80 = .ok (.iload_n 2, 1) := by decide +kernel
theorem dX10_forge_81 : decode cX10_forge 81 = .ok (.iastore, 1) := by decide +kernel
theorem dX10_forge_82 : decode cX10_forge 82 = .ok (.aload_n 0, 1) := by decide +kernel
theorem dX10_forge_83 : decode cX10_forge 83 = .ok (.getfield 114, 3) := by decide +kernel
theorem dX10_forge_86 : decode cX10_forge 86 = .ok (.iload_n 1, 1) := by decide +kernel
theorem dX10_forge_87 : decode cX10_forge 87 = .ok (.iload_n 3, 1) := by decide +kernel
theorem dX10_forge_88 : decode cX10_forge 88 = .ok (.iastore, 1) := by decide +kernel
theorem dX10_forge_89 : decode cX10_forge 89 = .ok (.aload_n 0, 1) := by decide +kernel
theorem dX10_forge_90 : decode cX10_forge 90 = .ok (.getfield 117, 3) := by decide +kernel
theorem dX10_forge_93 : decode cX10_forge 93 = .ok (.iload_n 1, 1) := by decide +kernel
theorem dX10_forge_94 : decode cX10_forge 94 = .ok (.iload 4, 2) := by decide +kernel
theorem dX10_forge_96 : decode cX10_forge 96 = .ok (.ifCond .eq 7, 3) := by decide +kernel
theorem dX10_forge_99 : decode cX10_forge 99 = .ok (.iconst 1, 1) := by decide +kernel
theorem dX10_forge_100 : decode cX10_forge 100 = .ok (.goto 4, 3) := by decide +kernel
theorem dX10_forge_103 : decode cX10_forge 103 = .ok (.iconst 0, 1) := by decide +kernel
theorem dX10_forge_104 : decode cX10_forge 104 = .ok (.iastore, 1) := by decide +kernel
theorem dX10_forge_105 : decode cX10_forge 105 = .ok (.aload_n 0, 1) := by decide +kernel
theorem dX10_forge_106 : decode cX10_forge 106 = .ok (.getfield 120, 3) := by decide +kernel
theorem dX10_forge_109 : decode cX10_forge 109 = .ok (.iload_n 1, 1) := by decide +kernel
theorem dX10_forge_110 : decode cX10_forge 110 = .ok (.iload 6, 2) := by decide +kernel
theorem dX10_forge_112 : decode cX10_forge 112 = .ok (.ifCond .eq 8, 3) := by decide +kernel
theorem dX10_forge_115 : decode cX10_forge 115 = .ok (.iload 5, 2) := by decide +kernel
theorem dX10_forge_117 : decode cX10_forge 117 = .ok (.goto 4, 3) := by decide +kernel
theorem dX10_forge_120 : decode cX10_forge 120 = .ok (.iconst (-1), 1) := by decide +kernel
theorem dX10_forge_121 : decode cX10_forge 121 = .ok (.iastore, 1) := by decide +kernel
theorem dX10_forge_122 : decode cX10_forge 122 = .ok (.iconst 1, 1) := by decide +kernel
theorem dX10_forge_123 : decode cX10_forge 123 = .ok (.ireturn, 1) := by decide +kernel
theorem dX10_manyIn_0 : decode cX10_manyIn 0 = .ok (.iconst 0, 1) := by decide +kernel
theorem dX10_manyIn_1 : decode cX10_manyIn 1 = .ok (.istore_n 2, 1) := by decide +kernel
theorem dX10_manyIn_2 : decode cX10_manyIn 2 = .ok (.iload_n 1, 1) := by decide +kernel
theorem dX10_manyIn_3 : decode cX10_manyIn 3 = .ok (.iconst 1, 1) := by decide +kernel
theorem dX10_manyIn_4 : decode cX10_manyIn 4 = .ok (.iadd, 1) := by decide +kernel
theorem dX10_manyIn_5 : decode cX10_manyIn 5 = .ok (.istore_n 3, 1) := by decide +kernel
theorem dX10_manyIn_6 : decode cX10_manyIn 6 = .ok (.iload_n 3, 1) := by decide +kernel
theorem dX10_manyIn_7 : decode cX10_manyIn 7 = .ok (.aload_n 0, 1) := by decide +kernel
theorem dX10_manyIn_8 : decode cX10_manyIn 8 = .ok (.getfield 289, 3) := by decide +kernel
theorem dX10_manyIn_11 : decode cX10_manyIn 11 = .ok (.if_icmp .ge 27, 3) := by decide +kernel
theorem dX10_manyIn_14 : decode cX10_manyIn 14 = .ok (.iload_n 2, 1) := by decide +kernel
theorem dX10_manyIn_15 : decode cX10_manyIn 15 = .ok (.aload_n 0, 1) := by decide +kernel
