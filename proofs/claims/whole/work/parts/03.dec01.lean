theorem dX0_init_0 : decode cX0_init 0 = .ok (.aload_n 0, 1) := by decide +kernel
theorem dX0_init_1 : decode cX0_init 1 = .ok (.invokespecial 3, 3) := by decide +kernel
theorem dX0_init_4 : decode cX0_init 4 = .ok (.aload_n 0, 1) := by decide +kernel
theorem dX0_init_5 : decode cX0_init 5 = .ok (.sipush 1000, 3) := by decide +kernel
theorem dX0_init_8 : decode cX0_init 8 = .ok (.newarray .int, 2) := by decide +kernel
theorem dX0_init_10 : decode cX0_init 10 = .ok (.putfield 9, 3) := by decide +kernel
theorem dX0_init_13 : decode cX0_init 13 = .ok (.aload_n 0, 1) := by decide +kernel
theorem dX0_init_14 : decode cX0_init 14 = .ok (.sipush 1000, 3) := by decide +kernel
theorem dX0_init_17 : decode cX0_init 17 = .ok (.newarray .int, 2) := by decide +kernel
theorem dX0_init_19 : decode cX0_init 19 = .ok (.putfield 15, 3) := by decide +kernel
theorem dX0_init_22 : decode cX0_init 22 = .ok (.aload_n 0, 1) := by decide +kernel
theorem dX0_init_23 : decode cX0_init 23 = .ok (.sipush 1000, 3) := by decide +kernel
theorem dX0_init_26 : decode cX0_init 26 = .ok (.newarray .int, 2) := by decide +kernel
theorem dX0_init_28 : decode cX0_init 28 = .ok (.putfield 18, 3) := by decide +kernel
theorem dX0_init_31 : decode cX0_init 31 = .ok (.aload_n 0, 1) := by decide +kernel
theorem dX0_init_32 : decode cX0_init 32 = .ok (.sipush 500, 3) := by decide +kernel
theorem dX0_init_35 : decode cX0_init 35 = .ok (.putfield 21, 3) := by decide +kernel
theorem dX0_init_38 : decode cX0_init 38 = .ok (.aload_n 0, 1) := by decide +kernel
theorem dX0_init_39 : decode cX0_init 39 = .ok (.aload_n 1, 1) := by decide +kernel
theorem dX0_init_40 : decode cX0_init 40 = .ok (.putfield 25, 3) := by decide +kernel
theorem dX0_init_43 : decode cX0_init 43 = .ok (.aload_n 0, 1) := by decide +kernel
theorem dX0_init_44 : decode cX0_init 44 = .ok (.aload_n 2, 1) := by decide +kernel
theorem dX0_init_45 : decode cX0_init 45 = .ok (.putfield 29, 3) := by decide +kernel
theorem dX0_init_48 : decode cX0_init 48 = .ok (.return_, 1) := by decide +kernel
theorem dX0_begin_0 : decode cX0_begin 0 = .ok (.aload_n 0, 1) := by decide +kernel
theorem dX0_begin_1 : decode cX0_begin 1 = .ok (.iconst 0, 1) := by decide +kernel
theorem dX0_begin_2 : decode cX0_begin 2 = .ok (.putfield 33, 3) := by decide +kernel
theorem dX0_begin_5 : decode cX0_begin 5 = .ok (.aload_n 0, 1) := by decide +kernel
theorem dX0_begin_6 : decode cX0_begin 6 = .ok (.iconst 0, 1) := by decide +kernel
theorem dX0_begin_7 : decode cX0_begin 7 = .ok (.putfield 36, 3) := by decide +kernel
theorem dX0_begin_10 : decode cX0_begin 10 = .ok (.aload_n 0, 1) := by decide +kernel
theorem dX0_begin_11 : decode cX0_begin 11 = .ok (.iconst 0, 1) := by decide +kernel
theorem dX0_begin_12 : decode cX0_begin 12 = .ok (.putfield 39, 3) := by decide +kernel
theorem dX0_begin_15 : decode cX0_begin 15 = .ok (.return_, 1) := by decide +kernel
theorem dX0_fits_0 : decode cX0_fits 0 = .ok (.aload_n 0, 1) := by decide +kernel
theorem dX0_fits_1 : decode cX0_fits 1 = .ok (.getfield 33, 3) := by decide +kernel
theorem dX0_fits_4 : decode cX0_fits 4 = .ok (.sipush 500, 3) := by decide +kernel
theorem dX0_fits_7 : decode cX0_fits 7 = .ok (.if_icmp .gt 5, 3) := by decide +kernel
theorem dX0_fits_10 : decode cX0_fits 10 = .ok (.iconst 1, 1) := by decide +kernel
theorem dX0_fits_11 : decode cX0_fits 11 = .ok (.ireturn, 1) := by decide +kernel
theorem dX0_fits_12 : decode cX0_fits 12 = .ok (.aload_n 0, 1) := by decide +kernel
theorem dX0_fits_13 : decode cX0_fits 13 = .ok (.iconst 0, 1) := by decide +kernel
theorem dX0_fits_14 : decode cX0_fits 14 = .ok (.putfield 33, 3) := by decide +kernel
theorem dX0_fits_17 : decode cX0_fits 17 = .ok (.iconst 0, 1) := by decide +kernel
theorem dX0_fits_18 : decode cX0_fits 18 = .ok (.ireturn, 1) := by decide +kernel
theorem dX0_hunterGoes_0 : decode cX0_hunterGoes 0 = .ok (.iload_n 1, 1) := by decide +kernel
theorem dX0_hunterGoes_1 : decode cX0_hunterGoes 1 = .ok (.ifCond .le 11, 3) := by decide +kernel
theorem dX0_hunterGoes_4 : decode cX0_hunterGoes 4 = .ok (.iload_n 3, 1) := by decide +kernel
theorem dX0_hunterGoes_5 : decode cX0_hunterGoes 5 = .ok (.iconst 1, 1) := by decide +kernel
theorem dX0_hunterGoes_6 : decode cX0_hunterGoes 6 = .ok (.iadd, 1) := by decide +kernel
theorem dX0_hunterGoes_7 : decode cX0_hunterGoes 7 = .ok (.bipush 10, 2) := by decide +kernel
theorem dX0_hunterGoes_9 : decode cX0_hunterGoes 9 = .ok (.if_icmp .lt 5, 3) := by decide +kernel
theorem dX0_hunterGoes_12 : decode cX0_hunterGoes 12 = .ok (.iconst 0, 1) := by decide +kernel
theorem dX0_hunterGoes_13 : decode cX0_hunterGoes 13 = .ok (.ireturn, 1) := by decide +kernel
theorem dX0_hunterGoes_14 : decode cX0_hunterGoes 14 = .ok (.aload_n 0, 1) := by decide +kernel
theorem dX0_hunterGoes_15 : decode cX0_hunterGoes 15 = .ok (.getfield 25, 3) := by decide +kernel
theorem dX0_hunterGoes_18 : decode cX0_hunterGoes 18 = .ok (.iload_n 3, 1) := by decide +kernel
theorem dX0_hunterGoes_19 : decode cX0_hunterGoes 19 = .ok (.invokevirtual 45, 3) := by decide +kernel
theorem dX0_hunterGoes_22 : decode cX0_hunterGoes 22 = .ok (.istore 4, 2) := by decide +kernel
theorem dX0_hunterGoes_24 : decode cX0_hunterGoes 24 = .ok (.iconst 0, 1) := by decide +kernel
theorem dX0_hunterGoes_25 : decode cX0_hunterGoes 25 = .ok (.istore 5, 2) := by decide +kernel
theorem dX0_hunterGoes_27 : decode cX0_hunterGoes 27 = .ok (.aload_n 0, 1) := by decide +kernel
theorem dX0_hunterGoes_28 : decode cX0_hunterGoes 28 = .ok (.getfield 25, 3) := by decide +kernel
theorem dX0_hunterGoes_31 : decode cX0_hunterGoes 31 = .ok (.iload_n 3, 1) := by decide +kernel
theorem dX0_hunterGoes_32 : decode cX0_hunterGoes 32 = .ok (.invokevirtual 49, 3) := by decide +kernel
theorem dX0_hunterGoes_35 : decode cX0_hunterGoes 35 = .ok (.istore 6, 2) := by decide +kernel
theorem dX0_hunterGoes_37 : decode cX0_hunterGoes 37 = .ok (.iload 6, 2) := by decide +kernel
theorem dX0_hunterGoes_39 : decode cX0_hunterGoes 39 = .ok (.iload 4, 2) := by decide +kernel
theorem dX0_hunterGoes_41 : decode cX0_hunterGoes 41 = .ok (.if_icmp .ge 93, 3) := by decide +kernel
theorem dX0_hunterGoes_44 : decode cX0_hunterGoes 44 = .ok (.iload 5, 2) := by decide +kernel
theorem dX0_hunterGoes_46 : decode cX0_hunterGoes 46 = .ok (.ifCond .ne 88, 3) := by decide +kernel
theorem dX0_hunterGoes_49 : decode cX0_hunterGoes 49 = .ok (.aload_n 0, 1) := by decide +kernel
theorem dX0_hunterGoes_50 : decode cX0_hunterGoes 50 = .ok (.getfield 39, 3) := by decide +kernel
theorem dX0_hunterGoes_53 : decode cX0_hunterGoes 53 = .ok (.ifCond .ne 81, 3) := by decide +kernel
theorem dX0_hunterGoes_56 : decode cX0_hunterGoes 56 = .ok (.aload_n 0, 1) := by decide +kernel
theorem dX0_hunterGoes_57 : decode cX0_hunterGoes 57 = .ok (.getfield 25, 3) := by decide +kernel
theorem dX0_hunterGoes_60 : decode cX0_hunterGoes 60 = .ok (.getfield 52, 3) := by decide +kernel
theorem dX0_hunterGoes_63 : decode cX0_hunterGoes 63 = .ok (.iload 6, 2) := by decide +kernel
theorem dX0_hunterGoes_65 : decode cX0_hunterGoes 65 = .ok (.iaload, 1) := by decide +kernel
theorem dX0_hunterGoes_66 : decode cX0_hunterGoes 66 = .ok (.istore 7, 2) := by decide +kernel
theorem dX0_hunterGoes_68 : decode cX0_hunterGoes 68 = .ok (.aload_n 0, 1) := by decide +kernel
theorem dX0_hunterGoes_69 : decode cX0_hunterGoes 69 = .ok (.getfield 29, 3) := by decide +kernel
theorem dX0_hunterGoes_72 : decode cX0_hunterGoes 72 = .ok (.iload 7, 2) := by decide +kernel
theorem dX0_hunterGoes_74 : decode cX0_hunterGoes 74 = .ok (.invokevirtual 55, 3) := by decide +kernel
theorem dX0_hunterGoes_77 : decode cX0_hunterGoes 77 = .ok (.aload_n 0, 1) := by decide +kernel
theorem dX0_hunterGoes_78 : decode cX0_hunterGoes 78 = .ok (.getfield 29, 3) := by decide +kernel
theorem dX0_hunterGoes_81 : decode cX0_hunterGoes 81 = .ok (.aload_n 0, 1) := by decide +kernel
theorem dX0_hunterGoes_82 : decode cX0_hunterGoes 82 = .ok (.getfield 29, 3) := by decide +kernel
theorem dX0_hunterGoes_85 : decode cX0_hunterGoes 85 = .ok (.getfield 61, 3) := by decide +kernel
theorem dX0_hunterGoes_88 : decode cX0_hunterGoes 88 = .ok (.invokevirtual 64, 3) := by decide +kernel
theorem dX0_hunterGoes_91 : decode cX0_hunterGoes 91 = .ok (.ifCond .eq 28, 3) := by decide +kernel
theorem dX0_hunterGoes_94 : decode cX0_hunterGoes 94 = .ok (.aload_n 0, 1) := by decide +kernel
theorem dX0_hunterGoes_95 : decode cX0_hunterGoes 95 = .ok (.getfield 25, 3) := by decide +kernel
theorem dX0_hunterGoes_98 : decode cX0_hunterGoes 98 = .ok (.iload 7, 2) := by decide +kernel
theorem dX0_hunterGoes_100 : decode cX0_hunterGoes 100 = .ok (.invokevirtual 68, 3) := by decide +kernel
theorem dX0_hunterGoes_103 : decode cX0_hunterGoes 103 = .ok (.ifCond .eq 16, 3) := by decide +kernel
theorem dX0_hunterGoes_106 : decode cX0_hunterGoes 106 = .ok (.aload_n 0, 1) := by decide +kernel
theorem dX0_hunterGoes_107 : decode cX0_hunterGoes 107 = .ok (.iload_n 1, 1) := by decide +kernel
theorem dX0_hunterGoes_108 : decode cX0_hunterGoes 108 = .ok (.iload 7, 2) := by decide +kernel
theorem dX0_hunterGoes_110 : decode cX0_hunterGoes 110 = .ok (.iload_n 2, 1) := by decide +kernel
theorem dX0_hunterGoes_111 : decode cX0_hunterGoes 111 = .ok (.iload_n 3, 1) := by decide +kernel
theorem dX0_hunterGoes_112 : decode cX0_hunterGoes 112 = .ok (.iconst 1, 1) := by decide +kernel
theorem dX0_hunterGoes_113 : decode cX0_hunterGoes 113 = .ok (.iadd, 1) := by decide +kernel
theorem dX0_hunterGoes_114 : decode cX0_hunterGoes 114 = .ok (.invokevirtual 71, 3) := by decide +kernel
theorem dX0_hunterGoes_117 : decode cX0_hunterGoes 117 = .ok (.istore 5, 2) := by decide +kernel
theorem dX0_hunterGoes_119 : decode cX0_hunterGoes 119 = .ok (.aload_n 0, 1) := by decide +kernel
theorem dX0_hunterGoes_120 : decode cX0_hunterGoes 120 = .ok (.getfield 29, 3) := by decide +kernel
theorem dX0_hunterGoes_123 : decode cX0_hunterGoes 123 = .ok (.iload 7, 2) := by decide +kernel
theorem dX0_hunterGoes_125 : decode cX0_hunterGoes 125 = .ok (.invokevirtual 75, 3) := by decide +kernel
theorem dX0_hunterGoes_128 : decode cX0_hunterGoes 128 = .ok (.iinc 6 1, 3) := by decide +kernel
theorem dX0_hunterGoes_131 : decode cX0_hunterGoes 131 = .ok (.goto (-94), 3) := by decide +kernel
theorem dX0_hunterGoes_134 : decode cX0_hunterGoes 134 = .ok (.iload 5, 2) := by decide +kernel
theorem dX0_hunterGoes_136 : decode cX0_hunterGoes 136 = .ok (.ireturn, 1) := by decide +kernel
theorem dX0_answersGo_0 : decode cX0_answersGo 0 = .ok (.aload_n 0, 1) := by decide +kernel
theorem dX0_answersGo_1 : decode cX0_answersGo 1 = .ok (.iload_n 2, 1) := by decide +kernel
theorem dX0_answersGo_2 : decode cX0_answersGo 2 = .ok (.iload_n 3, 1) := by decide +kernel
theorem dX0_answersGo_3 : decode cX0_answersGo 3 = .ok (.invokevirtual 78, 3) := by decide +kernel
theorem dX0_answersGo_6 : decode cX0_answersGo 6 = .ok (.istore 5, 2) := by decide +kernel
theorem dX0_answersGo_8 : decode cX0_answersGo 8 = .ok (.iload 5, 2) := by decide +kernel
theorem dX0_answersGo_10 : decode cX0_answersGo 10 = .ok (.ifCond .ge 5, 3) := by decide +kernel
theorem dX0_answersGo_13 : decode cX0_answersGo 13 = .ok (.iconst 0, 1) := by decide +kernel
theorem dX0_answersGo_14 : decode cX0_answersGo 14 = .ok (.ireturn, 1) := by decide +kernel
theorem dX0_answersGo_15 : decode cX0_answersGo 15 = .ok (.aload_n 0, 1) := by decide +kernel
theorem dX0_answersGo_16 : decode cX0_answersGo 16 = .ok (.getfield 25, 3) := by decide +kernel
theorem dX0_answersGo_19 : decode cX0_answersGo 19 = .ok (.iload 4, 2) := by decide +kernel
theorem dX0_answersGo_21 : decode cX0_answersGo 21 = .ok (.invokevirtual 45, 3) := by decide +kernel
theorem dX0_answersGo_24 : decode cX0_answersGo 24 = .ok (.istore 6, 2) := by decide +kernel
theorem dX0_answersGo_26 : decode cX0_answersGo 26 = .ok (.iconst 1, 1) := by decide +kernel
theorem dX0_answersGo_27 : decode cX0_answersGo 27 = .ok (.istore 7, 2) := by decide +kernel
theorem dX0_answersGo_29 : decode cX0_answersGo 29 = .ok (.aload_n 0, 1) := by decide +kernel
theorem dX0_answersGo_30 : decode cX0_answersGo 30 = .ok (.getfield 25, 3) := by decide +kernel
theorem dX0_answersGo_33 : decode cX0_answersGo 33 = .ok (.iload 4, 2) := by decide +kernel
theorem dX0_answersGo_35 : decode cX0_answersGo 35 = .ok (.invokevirtual 49, 3) := by decide +kernel
theorem dX0_answersGo_38 : decode cX0_answersGo 38 = .ok (.istore 8, 2) := by decide +kernel
theorem dX0_answersGo_40 : decode cX0_answersGo 40 = .ok (.iload 8, 2) := by decide +kernel
theorem dX0_answersGo_42 : decode cX0_answersGo 42 = .ok (.iload 6, 2) := by decide +kernel
theorem dX0_answersGo_44 : decode cX0_answersGo 44 = .ok (.if_icmp .ge 115, 3) := by decide +kernel
theorem dX0_answersGo_47 : decode cX0_answersGo 47 = .ok (.iload 7, 2) := by decide +kernel
theorem dX0_answersGo_49 : decode cX0_answersGo 49 = .ok (.ifCond .eq 110, 3) := by decide +kernel
theorem dX0_answersGo_52 : decode cX0_answersGo 52 = .ok (.aload_n 0, 1) := by decide +kernel
theorem dX0_answersGo_53 : decode cX0_answersGo 53 = .ok (.getfield 25, 3) := by decide +kernel
theorem dX0_answersGo_56 : decode cX0_answersGo 56 = .ok (.getfield 52, 3) := by decide +kernel
theorem dX0_answersGo_59 : decode cX0_answersGo 59 = .ok (.iload 8, 2) := by decide +kernel
theorem dX0_answersGo_61 : decode cX0_answersGo 61 = .ok (.iaload, 1) := by decide +kernel
theorem dX0_answersGo_62 : decode cX0_answersGo 62 = .ok (.istore 9, 2) := by decide +kernel
theorem dX0_answersGo_64 : decode cX0_answersGo 64 = .ok (.aload_n 0, 1) := by decide +kernel
theorem dX0_answersGo_65 : decode cX0_answersGo 65 = .ok (.getfield 29, 3) := by decide +kernel
theorem dX0_answersGo_68 : decode cX0_answersGo 68 = .ok (.iload 9, 2) := by decide +kernel
theorem dX0_answersGo_70 : decode cX0_answersGo 70 = .ok (.invokevirtual 55, 3) := by decide +kernel
theorem dX0_answersGo_73 : decode cX0_answersGo 73 = .ok (.aload_n 0, 1) := by decide +kernel
theorem dX0_answersGo_74 : decode cX0_answersGo 74 = .ok (.getfield 25, 3) := by decide +kernel
theorem dX0_answersGo_77 : decode cX0_answersGo 77 = .ok (.iload 9, 2) := by decide +kernel
theorem dX0_answersGo_79 : decode cX0_answersGo 79 = .ok (.invokevirtual 68, 3) := by decide +kernel
theorem dX0_answersGo_82 : decode cX0_answersGo 82 = .ok (.ifCond .eq 62, 3) := by decide +kernel
theorem dX0_answersGo_85 : decode cX0_answersGo 85 = .ok (.aload_n 0, 1) := by decide +kernel
theorem dX0_answersGo_86 : decode cX0_answersGo 86 = .ok (.iload 9, 2) := by decide +kernel
theorem dX0_answersGo_88 : decode cX0_answersGo 88 = .ok (.iload 5, 2) := by decide +kernel
theorem dX0_answersGo_90 : decode cX0_answersGo 90 = .ok (.invokevirtual 78, 3) := by decide +kernel
theorem dX0_answersGo_93 : decode cX0_answersGo 93 = .ok (.istore 10, 2) := by decide +kernel
theorem dX0_answersGo_95 : decode cX0_answersGo 95 = .ok (.iload 10, 2) := by decide +kernel
theorem dX0_answersGo_97 : decode cX0_answersGo 97 = .ok (.ifCond .lt 23, 3) := by decide +kernel
theorem dX0_answersGo_100 : decode cX0_answersGo 100 = .ok (.aload_n 0, 1) := by decide +kernel
theorem dX0_answersGo_101 : decode cX0_answersGo 101 = .ok (.iload_n 1, 1) := by decide +kernel
theorem dX0_answersGo_102 : decode cX0_answersGo 102 = .ok (.iconst 1, 1) := by decide +kernel
theorem dX0_answersGo_103 : decode cX0_answersGo 103 = .ok (.isub, 1) := by decide +kernel
theorem dX0_answersGo_104 : decode cX0_answersGo 104 = .ok (.iload 10, 2) := by decide +kernel
theorem dX0_answersGo_106 : decode cX0_answersGo 106 = .ok (.iload 4, 2) := by decide +kernel
theorem dX0_answersGo_108 : decode cX0_answersGo 108 = .ok (.iconst 1, 1) := by decide +kernel
theorem dX0_answersGo_109 : decode cX0_answersGo 109 = .ok (.iadd, 1) := by decide +kernel
theorem dX0_answersGo_110 : decode cX0_answersGo 110 = .ok (.invokevirtual 82, 3) := by decide +kernel
theorem dX0_answersGo_113 : decode cX0_answersGo 113 = .ok (.ifCond .eq 7, 3) := by decide +kernel
theorem dX0_answersGo_116 : decode cX0_answersGo 116 = .ok (.iconst 1, 1) := by decide +kernel
theorem dX0_answersGo_117 : decode cX0_answersGo 117 = .ok (.goto 4, 3) := by decide +kernel
theorem dX0_answersGo_120 : decode cX0_answersGo 120 = .ok (.iconst 0, 1) := by decide +kernel
theorem dX0_answersGo_121 : decode cX0_answersGo 121 = .ok (.istore 7, 2) := by decide +kernel
theorem dX0_answersGo_123 : decode cX0_answersGo 123 = .ok (.iload 7, 2) := by decide +kernel
theorem dX0_answersGo_125 : decode cX0_answersGo 125 = .ok (.ifCond .eq 19, 3) := by decide +kernel
theorem dX0_answersGo_128 : decode cX0_answersGo 128 = .ok (.aload_n 0, 1) := by decide +kernel
theorem dX0_answersGo_129 : decode cX0_answersGo 129 = .ok (.getfield 18, 3) := by decide +kernel
theorem dX0_answersGo_132 : decode cX0_answersGo 132 = .ok (.iload 10, 2) := by decide +kernel
theorem dX0_answersGo_134 : decode cX0_answersGo 134 = .ok (.aload_n 0, 1) := by decide +kernel
theorem dX0_answersGo_135 : decode cX0_answersGo 135 = .ok (.getfield 33, 3) := by decide +kernel
theorem dX0_answersGo_138 : decode cX0_answersGo 138 = .ok (.iload 10, 2) := by decide +kernel
theorem dX0_answersGo_140 : decode cX0_answersGo 140 = .ok (.isub, 1) := by decide +kernel
theorem dX0_answersGo_141 : decode cX0_answersGo 141 = .ok (.iconst 1, 1) := by decide +kernel
theorem dX0_answersGo_142 : decode cX0_answersGo 142 = .ok (.isub, 1) := by decide +kernel
theorem dX0_answersGo_143 : decode cX0_answersGo 143 = .ok (.iastore, 1) := by decide +kernel
theorem dX0_answersGo_144 : decode cX0_answersGo 144 = .ok (.aload_n 0, 1) := by decide +kernel
theorem dX0_answersGo_145 : decode cX0_answersGo 145 = .ok (.getfield 29, 3) := by decide +kernel
theorem dX0_answersGo_148 : decode cX0_answersGo 148 = .ok (.iload 9, 2) := by decide +kernel
theorem dX0_answersGo_150 : decode cX0_answersGo 150 = .ok (.invokevirtual 75, 3) := by decide +kernel
theorem dX0_answersGo_153 : decode cX0_answersGo 153 = .ok (.iinc 8 1, 3) := by decide +kernel
theorem dX0_answersGo_156 : decode cX0_answersGo 156 = .ok (.goto (-116), 3) := by decide +kernel
theorem dX0_answersGo_159 : decode cX0_answersGo 159 = .ok (.iload 7, 2) := by decide +kernel
theorem dX0_answersGo_161 : decode cX0_answersGo 161 = .ok (.ifCond .eq 22, 3) := by decide +kernel
theorem dX0_answersGo_164 : decode cX0_answersGo 164 = .ok (.aload_n 0, 1) := by decide +kernel
theorem dX0_answersGo_165 : decode cX0_answersGo 165 = .ok (.getfield 18, 3) := by decide +kernel
theorem dX0_answersGo_168 : decode cX0_answersGo 168 = .ok (.iload 5, 2) := by decide +kernel
theorem dX0_answersGo_170 : decode cX0_answersGo 170 = .ok (.aload_n 0, 1) := by decide +kernel
theorem dX0_answersGo_171 : decode cX0_answersGo 171 = .ok (.getfield 33, 3) := by decide +kernel
theorem dX0_answersGo_174 : decode cX0_answersGo 174 = .ok (.iload 5, 2) := by decide +kernel
theorem dX0_answersGo_176 : decode cX0_answersGo 176 = .ok (.isub, 1) := by decide +kernel
theorem dX0_answersGo_177 : decode cX0_answersGo 177 = .ok (.iconst 1, 1) := by decide +kernel
theorem dX0_answersGo_178 : decode cX0_answersGo 178 = .ok (.isub, 1) := by decide +kernel
theorem dX0_answersGo_179 : decode cX0_answersGo 179 = .ok (.iastore, 1) := by decide +kernel
theorem dX0_answersGo_180 : decode cX0_answersGo 180 = .ok (.goto 9, 3) := by decide +kernel
theorem dX0_answersGo_183 : decode cX0_answersGo 183 = .ok (.aload_n 0, 1) := by decide +kernel
theorem dX0_answersGo_184 : decode cX0_answersGo 184 = .ok (.iload 5, 2) := by decide +kernel
theorem dX0_answersGo_186 : decode cX0_answersGo 186 = .ok (.putfield 33, 3) := by decide +kernel
theorem dX0_answersGo_189 : decode cX0_answersGo 189 = .ok (.iload 7, 2) := by decide +kernel
theorem dX0_answersGo_191 : decode cX0_answersGo 191 = .ok (.ireturn, 1) := by decide +kernel
theorem dX0_addNode_0 : decode cX0_addNode 0 = .ok (.aload_n 0, 1) := by decide +kernel
theorem dX0_addNode_1 : decode cX0_addNode 1 = .ok (.getfield 36, 3) := by decide +kernel
theorem dX0_addNode_4 : decode cX0_addNode 4 = .ok (.aload_n 0, 1) := by decide +kernel
theorem dX0_addNode_5 : decode cX0_addNode 5 = .ok (.getfield 21, 3) := by decide +kernel
theorem dX0_addNode_8 : decode cX0_addNode 8 = .ok (.if_icmp .lt 10, 3) := by decide +kernel
theorem dX0_addNode_11 : decode cX0_addNode 11 = .ok (.aload_n 0, 1) := by decide +kernel
theorem dX0_addNode_12 : decode cX0_addNode 12 = .ok (.iconst 1, 1) := by decide +kernel
theorem dX0_addNode_13 : decode cX0_addNode 13 = .ok (.putfield 39, 3) := by decide +kernel
theorem dX0_addNode_16 : decode cX0_addNode 16 = .ok (.iconst (-1), 1) := by decide +kernel
theorem dX0_addNode_17 : decode cX0_addNode 17 = .ok (.ireturn, 1) := by decide +kernel
theorem dX0_addNode_18 : decode cX0_addNode 18 = .ok (.aload_n 0, 1) := by decide +kernel
theorem dX0_addNode_19 : decode cX0_addNode 19 = .ok (.dup, 1) := by decide +kernel
theorem dX0_addNode_20 : decode cX0_addNode 20 = .ok (.getfield 36, 3) := by decide +kernel
theorem dX0_addNode_23 : decode cX0_addNode 23 = .ok (.iconst 1, 1) := by decide +kernel
theorem dX0_addNode_24 : decode cX0_addNode 24 = .ok (.iadd, 1) := by decide +kernel
theorem dX0_addNode_25 : decode cX0_addNode 25 = .ok (.putfield 36, 3) := by decide +kernel
theorem dX0_addNode_28 : decode cX0_addNode 28 = .ok (.aload_n 0, 1) := by decide +kernel
theorem dX0_addNode_29 : decode cX0_addNode 29 = .ok (.getfield 9, 3) := by decide +kernel
theorem dX0_addNode_32 : decode cX0_addNode 32 = .ok (.aload_n 0, 1) := by decide +kernel
theorem dX0_addNode_33 : decode cX0_addNode 33 = .ok (.getfield 33, 3) := by decide +kernel
theorem dX0_addNode_36 : decode cX0_addNode 36 = .ok (.iload_n 1, 1) := by decide +kernel
theorem dX0_addNode_37 : decode cX0_addNode 37 = .ok (.ldc 88, 2) := by decide +kernel
theorem dX0_addNode_39 : decode cX0_addNode 39 = .ok (.iand, 1) := by decide +kernel
theorem dX0_addNode_40 : decode cX0_addNode 40 = .ok (.iastore, 1) := by decide +kernel
theorem dX0_addNode_41 : decode cX0_addNode 41 = .ok (.aload_n 0, 1) := by decide +kernel
theorem dX0_addNode_42 : decode cX0_addNode 42 = .ok (.getfield 15, 3) := by decide +kernel
theorem dX0_addNode_45 : decode cX0_addNode 45 = .ok (.aload_n 0, 1) := by decide +kernel
theorem dX0_addNode_46 : decode cX0_addNode 46 = .ok (.getfield 33, 3) := by decide +kernel
theorem dX0_addNode_49 : decode cX0_addNode 49 = .ok (.iload_n 2, 1) := by decide +kernel
theorem dX0_addNode_50 : decode cX0_addNode 50 = .ok (.iastore, 1) := by decide +kernel
theorem dX0_addNode_51 : decode cX0_addNode 51 = .ok (.aload_n 0, 1) := by decide +kernel
theorem dX0_addNode_52 : decode cX0_addNode 52 = .ok (.dup, 1) := by decide +kernel
theorem dX0_addNode_53 : decode cX0_addNode 53 = .ok (.getfield 33, 3) := by decide +kernel
theorem dX0_addNode_56 : decode cX0_addNode 56 = .ok (.dup_x1, 1) := by decide +kernel
theorem dX0_addNode_57 : decode cX0_addNode 57 = .ok (.iconst 1, 1) := by decide +kernel
theorem dX0_addNode_58 : decode cX0_addNode 58 = .ok (.iadd, 1) := by decide +kernel
theorem dX0_addNode_59 : decode cX0_addNode 59 = .ok (.putfield 33, 3) := by decide +kernel
theorem dX0_addNode_62 : decode cX0_addNode 62 = .ok (.ireturn, 1) := by decide +kernel
theorem dX0_depthOf_0 : decode cX0_depthOf 0 = .ok (.iconst 0, 1) := by decide +kernel
theorem dX0_depthOf_1 : decode cX0_depthOf 1 = .ok (.istore_n 2, 1) := by decide +kernel
theorem dX0_depthOf_2 : decode cX0_depthOf 2 = .ok (.aload_n 0, 1) := by decide +kernel
theorem dX0_depthOf_3 : decode cX0_depthOf 3 = .ok (.getfield 15, 3) := by decide +kernel
theorem dX0_depthOf_6 : decode cX0_depthOf 6 = .ok (.iload_n 1, 1) := by decide +kernel
theorem dX0_depthOf_7 : decode cX0_depthOf 7 = .ok (.iaload, 1) := by decide +kernel
theorem dX0_depthOf_8 : decode cX0_depthOf 8 = .ok (.istore_n 3, 1) := by decide +kernel
theorem dX0_depthOf_9 : decode cX0_depthOf 9 = .ok (.iload_n 3, 1) := by decide +kernel
theorem dX0_depthOf_10 : decode cX0_depthOf 10 = .ok (.ifCond .lt 24, 3) := by decide +kernel
theorem dX0_depthOf_13 : decode cX0_depthOf 13 = .ok (.iload_n 2, 1) := by decide +kernel
theorem dX0_depthOf_14 : decode cX0_depthOf 14 = .ok (.aload_n 0, 1) := by decide +kernel
theorem dX0_depthOf_15 : decode cX0_depthOf 15 = .ok (.getfield 33, 3) := by decide +kernel
theorem dX0_depthOf_18 : decode cX0_depthOf 18 = .ok (.if_icmp .ge 16, 3) := by decide +kernel
theorem dX0_depthOf_21 : decode cX0_depthOf 21 = .ok (.iinc 2 1, 3) := by decide +kernel
theorem dX0_depthOf_24 : decode cX0_depthOf 24 = .ok (.aload_n 0, 1) := by decide +kernel
theorem dX0_depthOf_25 : decode cX0_depthOf 25 = .ok (.getfield 15, 3) := by decide +kernel
theorem dX0_depthOf_28 : decode cX0_depthOf 28 = .ok (.iload_n 3, 1) := by decide +kernel
theorem dX0_depthOf_29 : decode cX0_depthOf 29 = .ok (.iaload, 1) := by decide +kernel
theorem dX0_depthOf_30 : decode cX0_depthOf 30 = .ok (.istore_n 3, 1) := by decide +kernel
theorem dX0_depthOf_31 : decode cX0_depthOf 31 = .ok (.goto (-22), 3) := by decide +kernel
theorem dX0_depthOf_34 : decode cX0_depthOf 34 = .ok (.iload_n 2, 1) := by decide +kernel
theorem dX0_depthOf_35 : decode cX0_depthOf 35 = .ok (.ireturn, 1) := by decide +kernel
theorem dX0_firstFault_0 : decode cX0_firstFault 0 = .ok (.iload_n 1, 1) := by decide +kernel
theorem dX0_firstFault_1 : decode cX0_firstFault 1 = .ok (.aload_n 0, 1) := by decide +kernel
theorem dX0_firstFault_2 : decode cX0_firstFault 2 = .ok (.getfield 33, 3) := by decide +kernel
theorem dX0_firstFault_5 : decode cX0_firstFault 5 = .ok (.if_icmp .ge 9, 3) := by decide +kernel
theorem dX0_firstFault_8 : decode cX0_firstFault 8 = .ok (.iload_n 2, 1) := by decide +kernel
theorem dX0_firstFault_9 : decode cX0_firstFault 9 = .ok (.bipush 10, 2) := by decide +kernel
theorem dX0_firstFault_11 : decode cX0_firstFault 11 = .ok (.if_icmp .lt 7, 3) := by decide +kernel
theorem dX0_firstFault_14 : decode cX0_firstFault 14 = .ok (.iload_n 1, 1) := by decide +kernel
theorem dX0_firstFault_15 : decode cX0_firstFault 15 = .ok (.iconst 1, 1) := by decide +kernel
theorem dX0_firstFault_16 : decode cX0_firstFault 16 = .ok (.iadd, 1) := by decide +kernel
theorem dX0_firstFault_17 : decode cX0_firstFault 17 = .ok (.ireturn, 1) := by decide +kernel
theorem dX0_firstFault_18 : decode cX0_firstFault 18 = .ok (.aload_n 0, 1) := by decide +kernel
theorem dX0_firstFault_19 : decode cX0_firstFault 19 = .ok (.getfield 9, 3) := by decide +kernel
theorem dX0_firstFault_22 : decode cX0_firstFault 22 = .ok (.iload_n 1, 1) := by decide +kernel
theorem dX0_firstFault_23 : decode cX0_firstFault 23 = .ok (.iaload, 1) := by decide +kernel
theorem dX0_firstFault_24 : decode cX0_firstFault 24 = .ok (.istore_n 3, 1) := by decide +kernel
theorem dX0_firstFault_25 : decode cX0_firstFault 25 = .ok (.aload_n 0, 1) := by decide +kernel
theorem dX0_firstFault_26 : decode cX0_firstFault 26 = .ok (.getfield 25, 3) := by decide +kernel
theorem dX0_firstFault_29 : decode cX0_firstFault 29 = .ok (.iload_n 3, 1) := by decide +kernel
theorem dX0_firstFault_30 : decode cX0_firstFault 30 = .ok (.invokevirtual 89, 3) := by decide +kernel
theorem dX0_firstFault_33 : decode cX0_firstFault 33 = .ok (.ifCond .eq 7, 3) := by decide +kernel
theorem dX0_firstFault_36 : decode cX0_firstFault 36 = .ok (.iload_n 1, 1) := by decide +kernel
theorem dX0_firstFault_37 : decode cX0_firstFault 37 = .ok (.iconst 1, 1) := by decide +kernel
theorem dX0_firstFault_38 : decode cX0_firstFault 38 = .ok (.iadd, 1) := by decide +kernel
theorem dX0_firstFault_39 : decode cX0_firstFault 39 = .ok (.ireturn, 1) := by decide +kernel
theorem dX0_firstFault_40 : decode cX0_firstFault 40 = .ok (.aload_n 0, 1) := by decide +kernel
theorem dX0_firstFault_41 : decode cX0_firstFault 41 = .ok (.getfield 29, 3) := by decide +kernel
theorem dX0_firstFault_44 : decode cX0_firstFault 44 = .ok (.iload_n 3, 1) := by decide +kernel
theorem dX0_firstFault_45 : decode cX0_firstFault 45 = .ok (.invokevirtual 92, 3) := by decide +kernel
theorem dX0_firstFault_48 : decode cX0_firstFault 48 = .ok (.istore 4, 2) := by decide +kernel
theorem dX0_firstFault_50 : decode cX0_firstFault 50 = .ok (.aload_n 0, 1) := by decide +kernel
theorem dX0_firstFault_51 : decode cX0_firstFault 51 = .ok (.getfield 29, 3) := by decide +kernel
theorem dX0_firstFault_54 : decode cX0_firstFault 54 = .ok (.iload 4, 2) := by decide +kernel
theorem dX0_firstFault_56 : decode cX0_firstFault 56 = .ok (.invokevirtual 55, 3) := by decide +kernel
theorem dX0_firstFault_59 : decode cX0_firstFault 59 = .ok (.aload_n 0, 1) := by decide +kernel
theorem dX0_firstFault_60 : decode cX0_firstFault 60 = .ok (.getfield 29, 3) := by decide +kernel
theorem dX0_firstFault_63 : decode cX0_firstFault 63 = .ok (.aload_n 0, 1) := by decide +kernel
theorem dX0_firstFault_64 : decode cX0_firstFault 64 = .ok (.getfield 29, 3) := by decide +kernel
theorem dX0_firstFault_67 : decode cX0_firstFault 67 = .ok (.getfield 61, 3) := by decide +kernel
theorem dX0_firstFault_70 : decode cX0_firstFault 70 = .ok (.invokevirtual 64, 3) := by decide +kernel
theorem dX0_firstFault_73 : decode cX0_firstFault 73 = .ok (.ifCond .eq 12, 3) := by decide +kernel
theorem dX0_firstFault_76 : decode cX0_firstFault 76 = .ok (.aload_n 0, 1) := by decide +kernel
theorem dX0_firstFault_77 : decode cX0_firstFault 77 = .ok (.iload_n 1, 1) := by decide +kernel
theorem dX0_firstFault_78 : decode cX0_firstFault 78 = .ok (.iload_n 2, 1) := by decide +kernel
theorem dX0_firstFault_79 : decode cX0_firstFault 79 = .ok (.invokevirtual 95, 3) := by decide +kernel
theorem dX0_firstFault_82 : decode cX0_firstFault 82 = .ok (.goto 6, 3) := by decide +kernel
theorem dX0_firstFault_85 : decode cX0_firstFault 85 = .ok (.iload_n 1, 1) := by decide +kernel
theorem dX0_firstFault_86 : decode cX0_firstFault 86 = .ok (.iconst 1, 1) := by decide +kernel
theorem dX0_firstFault_87 : decode cX0_firstFault 87 = .ok (.iadd, 1) := by decide +kernel
theorem dX0_firstFault_88 : decode cX0_firstFault 88 = .ok (.istore 5, 2) := by decide +kernel
theorem dX0_firstFault_90 : decode cX0_firstFault 90 = .ok (.aload_n 0, 1) := by decide +kernel
theorem dX0_firstFault_91 : decode cX0_firstFault 91 = .ok (.getfield 29, 3) := by decide +kernel
theorem dX0_firstFault_94 : decode cX0_firstFault 94 = .ok (.iload 4, 2) := by decide +kernel
theorem dX0_firstFault_96 : decode cX0_firstFault 96 = .ok (.invokevirtual 75, 3) := by decide +kernel
theorem dX0_firstFault_99 : decode cX0_firstFault 99 = .ok (.iload 5, 2) := by decide +kernel
theorem dX0_firstFault_101 : decode cX0_firstFault 101 = .ok (.ireturn, 1) := by decide +kernel
theorem dX0_faultInAnswers_0 : decode cX0_faultInAnswers 0 = .ok (.aload_n 0, 1) := by decide +kernel
theorem dX0_faultInAnswers_1 : decode cX0_faultInAnswers 1 = .ok (.getfield 25, 3) := by decide +kernel
theorem dX0_faultInAnswers_4 : decode cX0_faultInAnswers 4 = .ok (.iload_n 2, 1) := by decide +kernel
theorem dX0_faultInAnswers_5 : decode cX0_faultInAnswers 5 = .ok (.invokevirtual 98, 3) := by decide +kernel
theorem dX0_faultInAnswers_8 : decode cX0_faultInAnswers 8 = .ok (.istore_n 3, 1) := by decide +kernel
theorem dX0_faultInAnswers_9 : decode cX0_faultInAnswers 9 = .ok (.iload_n 3, 1) := by decide +kernel
theorem dX0_faultInAnswers_10 : decode cX0_faultInAnswers 10 = .ok (.aload_n 0, 1) := by decide +kernel
theorem dX0_faultInAnswers_11 : decode cX0_faultInAnswers 11 = .ok (.iload_n 1, 1) := by decide +kernel
theorem dX0_faultInAnswers_12 : decode cX0_faultInAnswers 12 = .ok (.invokevirtual 101, 3) := by decide +kernel
theorem dX0_faultInAnswers_15 : decode cX0_faultInAnswers 15 = .ok (.if_icmp .eq 7, 3) := by decide +kernel
theorem dX0_faultInAnswers_18 : decode cX0_faultInAnswers 18 = .ok (.iload_n 1, 1) := by decide +kernel
theorem dX0_faultInAnswers_19 : decode cX0_faultInAnswers 19 = .ok (.iconst 1, 1) := by decide +kernel
theorem dX0_faultInAnswers_20 : decode cX0_faultInAnswers 20 = .ok (.iadd, 1) := by decide +kernel
theorem dX0_faultInAnswers_21 : decode cX0_faultInAnswers 21 = .ok (.ireturn, 1) := by decide +kernel
theorem dX0_faultInAnswers_22 : decode cX0_faultInAnswers 22 = .ok (.iload_n 1, 1) := by decide +kernel
theorem dX0_faultInAnswers_23 : decode cX0_faultInAnswers 23 = .ok (.iconst 1, 1) := by decide +kernel
theorem dX0_faultInAnswers_24 : decode cX0_faultInAnswers 24 = .ok (.iadd, 1) := by decide +kernel
theorem dX0_faultInAnswers_25 : decode cX0_faultInAnswers 25 = .ok (.istore 4, 2) := by decide +kernel
theorem dX0_faultInAnswers_27 : decode cX0_faultInAnswers 27 = .ok (.iconst 0, 1) := by decide +kernel
theorem dX0_faultInAnswers_28 : decode cX0_faultInAnswers 28 = .ok (.istore 5, 2) := by decide +kernel
theorem dX0_faultInAnswers_30 : decode cX0_faultInAnswers 30 = .ok (.iload 5, 2) := by decide +kernel
theorem dX0_faultInAnswers_32 : decode cX0_faultInAnswers 32 = .ok (.iload_n 3, 1) := by decide +kernel
theorem dX0_faultInAnswers_33 : decode cX0_faultInAnswers 33 = .ok (.if_icmp .ge 94, 3) := by decide +kernel
theorem dX0_faultInAnswers_36 : decode cX0_faultInAnswers 36 = .ok (.aload_n 0, 1) := by decide +kernel
theorem dX0_faultInAnswers_37 : decode cX0_faultInAnswers 37 = .ok (.getfield 25, 3) := by decide +kernel
theorem dX0_faultInAnswers_40 : decode cX0_faultInAnswers 40 = .ok (.iload_n 2, 1) := by decide +kernel
theorem dX0_faultInAnswers_41 : decode cX0_faultInAnswers 41 = .ok (.iload 5, 2) := by decide +kernel
theorem dX0_faultInAnswers_43 : decode cX0_faultInAnswers 43 = .ok (.invokevirtual 104, 3) := by decide +kernel
theorem dX0_faultInAnswers_46 : decode cX0_faultInAnswers 46 = .ok (.istore 6, 2) := by decide +kernel
theorem dX0_faultInAnswers_48 : decode cX0_faultInAnswers 48 = .ok (.aload_n 0, 1) := by decide +kernel
theorem dX0_faultInAnswers_49 : decode cX0_faultInAnswers 49 = .ok (.getfield 9, 3) := by decide +kernel
theorem dX0_faultInAnswers_52 : decode cX0_faultInAnswers 52 = .ok (.iload 4, 2) := by decide +kernel
theorem dX0_faultInAnswers_54 : decode cX0_faultInAnswers 54 = .ok (.iaload, 1) := by decide +kernel
theorem dX0_faultInAnswers_55 : decode cX0_faultInAnswers 55 = .ok (.iload 6, 2) := by decide +kernel
theorem dX0_faultInAnswers_57 : decode cX0_faultInAnswers 57 = .ok (.ldc 88, 2) := by decide +kernel
theorem dX0_faultInAnswers_59 : decode cX0_faultInAnswers 59 = .ok (.iand, 1) := by decide +kernel
theorem dX0_faultInAnswers_60 : decode cX0_faultInAnswers 60 = .ok (.if_icmp .eq 8, 3) := by decide +kernel
theorem dX0_faultInAnswers_63 : decode cX0_faultInAnswers 63 = .ok (.iload 4, 2) := by decide +kernel
theorem dX0_faultInAnswers_65 : decode cX0_faultInAnswers 65 = .ok (.iconst 1, 1) := by decide +kernel
theorem dX0_faultInAnswers_66 : decode cX0_faultInAnswers 66 = .ok (.iadd, 1) := by decide +kernel
theorem dX0_faultInAnswers_67 : decode cX0_faultInAnswers 67 = .ok (.ireturn, 1) := by decide +kernel
theorem dX0_faultInAnswers_68 : decode cX0_faultInAnswers 68 = .ok (.aload_n 0, 1) := by decide +kernel
theorem dX0_faultInAnswers_69 : decode cX0_faultInAnswers 69 = .ok (.getfield 29, 3) := by decide +kernel
theorem dX0_faultInAnswers_72 : decode cX0_faultInAnswers 72 = .ok (.iload 6, 2) := by decide +kernel
theorem dX0_faultInAnswers_74 : decode cX0_faultInAnswers 74 = .ok (.invokevirtual 55, 3) := by decide +kernel
theorem dX0_faultInAnswers_77 : decode cX0_faultInAnswers 77 = .ok (.aload_n 0, 1) := by decide +kernel
theorem dX0_faultInAnswers_78 : decode cX0_faultInAnswers 78 = .ok (.iload 4, 2) := by decide +kernel
theorem dX0_faultInAnswers_80 : decode cX0_faultInAnswers 80 = .ok (.iconst 1, 1) := by decide +kernel
theorem dX0_faultInAnswers_81 : decode cX0_faultInAnswers 81 = .ok (.iadd, 1) := by decide +kernel
theorem dX0_faultInAnswers_82 : decode cX0_faultInAnswers 82 = .ok (.iload_n 2, 1) := by decide +kernel
theorem dX0_faultInAnswers_83 : decode cX0_faultInAnswers 83 = .ok (.iconst 1, 1) := by decide +kernel
theorem dX0_faultInAnswers_84 : decode cX0_faultInAnswers 84 = .ok (.iadd, 1) := by decide +kernel
theorem dX0_faultInAnswers_85 : decode cX0_faultInAnswers 85 = .ok (.invokevirtual 107, 3) := by decide +kernel
theorem dX0_faultInAnswers_88 : decode cX0_faultInAnswers 88 = .ok (.istore 7, 2) := by decide +kernel
theorem dX0_faultInAnswers_90 : decode cX0_faultInAnswers 90 = .ok (.aload_n 0, 1) := by decide +kernel
theorem dX0_faultInAnswers_91 : decode cX0_faultInAnswers 91 = .ok (.getfield 29, 3) := by decide +kernel
theorem dX0_faultInAnswers_94 : decode cX0_faultInAnswers 94 = .ok (.iload 6, 2) := by decide +kernel
theorem dX0_faultInAnswers_96 : decode cX0_faultInAnswers 96 = .ok (.invokevirtual 75, 3) := by decide +kernel
theorem dX0_faultInAnswers_99 : decode cX0_faultInAnswers 99 = .ok (.iload 7, 2) := by decide +kernel
theorem dX0_faultInAnswers_101 : decode cX0_faultInAnswers 101 = .ok (.ifCond .eq 6, 3) := by decide +kernel
theorem dX0_faultInAnswers_104 : decode cX0_faultInAnswers 104 = .ok (.iload 7, 2) := by decide +kernel
theorem dX0_faultInAnswers_106 : decode cX0_faultInAnswers 106 = .ok (.ireturn, 1) := by decide +kernel
theorem dX0_faultInAnswers_107 : decode cX0_faultInAnswers 107 = .ok (.iload 4, 2) := by decide +kernel
theorem dX0_faultInAnswers_109 : decode cX0_faultInAnswers 109 = .ok (.iconst 1, 1) := by decide +kernel
theorem dX0_faultInAnswers_110 : decode cX0_faultInAnswers 110 = .ok (.aload_n 0, 1) := by decide +kernel
theorem dX0_faultInAnswers_111 : decode cX0_faultInAnswers 111 = .ok (.getfield 18, 3) := by decide +kernel
theorem dX0_faultInAnswers_114 : decode cX0_faultInAnswers 114 = .ok (.iload 4, 2) := by decide +kernel
theorem dX0_faultInAnswers_116 : decode cX0_faultInAnswers 116 = .ok (.iaload, 1) := by decide +kernel
theorem dX0_faultInAnswers_117 : decode cX0_faultInAnswers 117 = .ok (.iadd, 1) := by decide +kernel
theorem dX0_faultInAnswers_118 : decode cX0_faultInAnswers 118 = .ok (.iadd, 1) := by decide +kernel
theorem dX0_faultInAnswers_119 : decode cX0_faultInAnswers 119 = .ok (.istore 4, 2) := by decide +kernel
theorem dX0_faultInAnswers_121 : decode cX0_faultInAnswers 121 = .ok (.iinc 5 1, 3) := by decide +kernel
theorem dX0_faultInAnswers_124 : decode cX0_faultInAnswers 124 = .ok (.goto (-94), 3) := by decide +kernel
theorem dX0_faultInAnswers_127 : decode cX0_faultInAnswers 127 = .ok (.iconst 0, 1) := by decide +kernel
theorem dX0_faultInAnswers_128 : decode cX0_faultInAnswers 128 = .ok (.ireturn, 1) := by decide +kernel
theorem dX0_answersIn_0 : decode cX0_answersIn 0 = .ok (.iconst 0, 1) := by decide +kernel
theorem dX0_answersIn_1 : decode cX0_answersIn 1 = .ok (.istore_n 2, 1) := by decide +kernel
theorem dX0_answersIn_2 : decode cX0_answersIn 2 = .ok (.iload_n 1, 1) := by decide +kernel
theorem dX0_answersIn_3 : decode cX0_answersIn 3 = .ok (.iconst 1, 1) := by decide +kernel
theorem dX0_answersIn_4 : decode cX0_answersIn 4 = .ok (.iadd, 1) := by decide +kernel
theorem dX0_answersIn_5 : decode cX0_answersIn 5 = .ok (.aload_n 0, 1) := by decide +kernel
theorem dX0_answersIn_6 : decode cX0_answersIn 6 = .ok (.getfield 18, 3) := by decide +kernel
theorem dX0_answersIn_9 : decode cX0_answersIn 9 = .ok (.iload_n 1, 1) := by decide +kernel
theorem dX0_answersIn_10 : decode cX0_answersIn 10 = .ok (.iaload, 1) := by decide +kernel
theorem dX0_answersIn_11 : decode cX0_answersIn 11 = .ok (.iadd, 1) := by decide +kernel
theorem dX0_answersIn_12 : decode cX0_answersIn 12 = .ok (.istore_n 3, 1) := by decide +kernel
theorem dX0_answersIn_13 : decode cX0_answersIn 13 = .ok (.iload_n 1, 1) := by decide +kernel
theorem dX0_answersIn_14 : decode cX0_answersIn 14 = .ok (.iconst 1, 1) := by decide +kernel
theorem dX0_answersIn_15 : decode cX0_answersIn 15 = .ok (.iadd, 1) := by decide +kernel
theorem dX0_answersIn_16 : decode cX0_answersIn 16 = .ok (.istore 4, 2) := by decide +kernel
theorem dX0_answersIn_18 : decode cX0_answersIn 18 = .ok (.iload 4, 2) := by decide +kernel
theorem dX0_answersIn_20 : decode cX0_answersIn 20 = .ok (.iload_n 3, 1) := by decide +kernel
theorem dX0_answersIn_21 : decode cX0_answersIn 21 = .ok (.if_icmp .ge 23, 3) := by decide +kernel
theorem dX0_answersIn_24 : decode cX0_answersIn 24 = .ok (.iinc 2 1, 3) := by decide +kernel
theorem dX0_answersIn_27 : decode cX0_answersIn 27 = .ok (.iload 4, 2) := by decide +kernel
theorem dX0_answersIn_29 : decode cX0_answersIn 29 = .ok (.iconst 1, 1) := by decide +kernel
theorem dX0_answersIn_30 : decode cX0_answersIn 30 = .ok (.aload_n 0, 1) := by decide +kernel
theorem dX0_answersIn_31 : decode cX0_answersIn 31 = .ok (.getfield 18, 3) := by decide +kernel
theorem dX0_answersIn_34 : decode cX0_answersIn 34 = .ok (.iload 4, 2) := by decide +kernel
theorem dX0_answersIn_36 : decode cX0_answersIn 36 = .ok (.iaload, 1) := by decide +kernel
theorem dX0_answersIn_37 : decode cX0_answersIn 37 = .ok (.iadd, 1) := by decide +kernel
theorem dX0_answersIn_38 : decode cX0_answersIn 38 = .ok (.iadd, 1) := by decide +kernel
theorem dX0_answersIn_39 : decode cX0_answersIn 39 = .ok (.istore 4, 2) := by decide +kernel
theorem dX0_answersIn_41 : decode cX0_answersIn 41 = .ok (.goto (-23), 3) := by decide +kernel
theorem dX0_answersIn_44 : decode cX0_answersIn 44 = .ok (.iload_n 2, 1) := by decide +kernel
theorem dX0_answersIn_45 : decode cX0_answersIn 45 = .ok (.ireturn, 1) := by decide +kernel
theorem dX1_init_0 : decode cX1_init 0 = .ok (.aload_n 0, 1) := by decide +kernel
theorem dX1_init_1 : decode cX1_init 1 = .ok (.invokespecial 3, 3) := by decide +kernel
theorem dX1_init_4 : decode cX1_init 4 = .ok (.aload_n 0, 1) := by decide +kernel
theorem dX1_init_5 : decode cX1_init 5 = .ok (.iload_n 1, 1) := by decide +kernel
theorem dX1_init_6 : decode cX1_init 6 = .ok (.putfield 9, 3) := by decide +kernel
theorem dX1_init_9 : decode cX1_init 9 = .ok (.aload_n 0, 1) := by decide +kernel
theorem dX1_init_10 : decode cX1_init 10 = .ok (.iload_n 1, 1) := by decide +kernel
theorem dX1_init_11 : decode cX1_init 11 = .ok (.newarray .int, 2) := by decide +kernel
theorem dX1_init_13 : decode cX1_init 13 = .ok (.putfield 15, 3) := by decide +kernel
theorem dX1_init_16 : decode cX1_init 16 = .ok (.aload_n 0, 1) := by decide +kernel
theorem dX1_init_17 : decode cX1_init 17 = .ok (.iload_n 1, 1) := by decide +kernel
theorem dX1_init_18 : decode cX1_init 18 = .ok (.newarray .int, 2) := by decide +kernel
theorem dX1_init_20 : decode cX1_init 20 = .ok (.putfield 19, 3) := by decide +kernel
theorem dX1_init_23 : decode cX1_init 23 = .ok (.aload_n 0, 1) := by decide +kernel
theorem dX1_init_24 : decode cX1_init 24 = .ok (.iload_n 1, 1) := by decide +kernel
theorem dX1_init_25 : decode cX1_init 25 = .ok (.bipush 12, 2) := by decide +kernel
theorem dX1_init_27 : decode cX1_init 27 = .ok (.multianewarray 22 2, 4) := by decide +kernel
theorem dX1_init_31 : decode cX1_init 31 = .ok (.putfield 24, 3) := by decide +kernel
theorem dX1_init_34 : decode cX1_init 34 = .ok (.iconst 0, 1) := by decide +kernel
theorem dX1_init_35 : decode cX1_init 35 = .ok (.istore_n 2, 1) := by decide +kernel
theorem dX1_init_36 : decode cX1_init 36 = .ok (.iload_n 2, 1) := by decide +kernel
theorem dX1_init_37 : decode cX1_init 37 = .ok (.iload_n 1, 1) := by decide +kernel
theorem dX1_init_38 : decode cX1_init 38 = .ok (.if_icmp .ge 16, 3) := by decide +kernel
theorem dX1_init_41 : decode cX1_init 41 = .ok (.aload_n 0, 1) := by decide +kernel
theorem dX1_init_42 : decode cX1_init 42 = .ok (.getfield 19, 3) := by decide +kernel
theorem dX1_init_45 : decode cX1_init 45 = .ok (.iload_n 2, 1) := by decide +kernel
theorem dX1_init_46 : decode cX1_init 46 = .ok (.iconst (-1), 1) := by decide +kernel
theorem dX1_init_47 : decode cX1_init 47 = .ok (.iastore, 1) := by decide +kernel
theorem dX1_init_48 : decode cX1_init 48 = .ok (.iinc 2 1, 3) := by decide +kernel
theorem dX1_init_51 : decode cX1_init 51 = .ok (.goto (-15), 3) := by decide +kernel
theorem dX1_init_54 : decode cX1_init 54 = .ok (.return_, 1) := by decide +kernel
theorem dX1_isForm_0 : decode cX1_isForm 0 = .ok (.iload_n 0, 1) := by decide +kernel
theorem dX1_isForm_1 : decode cX1_isForm 1 = .ok (.ifCond .lt 12, 3) := by decide +kernel
theorem dX1_isForm_4 : decode cX1_isForm 4 = .ok (.iload_n 0, 1) := by decide +kernel
theorem dX1_isForm_5 : decode cX1_isForm 5 = .ok (.iconst 2, 1) := by decide +kernel
theorem dX1_isForm_6 : decode cX1_isForm 6 = .ok (.if_icmp .gt 7, 3) := by decide +kernel
theorem dX1_isForm_9 : decode cX1_isForm 9 = .ok (.iconst 1, 1) := by decide +kernel
theorem dX1_isForm_10 : decode cX1_isForm 10 = .ok (.goto 4, 3) := by decide +kernel
theorem dX1_isForm_13 : decode cX1_isForm 13 = .ok (.iconst 0, 1) := by decide +kernel
theorem dX1_isForm_14 : decode cX1_isForm 14 = .ok (.ireturn, 1) := by decide +kernel
theorem dX1_narrowed_0 : decode cX1_narrowed 0 = .ok (.iload_n 0, 1) := by decide +kernel
theorem dX1_narrowed_1 : decode cX1_narrowed 1 = .ok (.ifCond .ne 6, 3) := by decide +kernel
theorem dX1_narrowed_4 : decode cX1_narrowed 4 = .ok (.iload_n 1, 1) := by decide +kernel
theorem dX1_narrowed_5 : decode cX1_narrowed 5 = .ok (.i2b, 1) := by decide +kernel
theorem dX1_narrowed_6 : decode cX1_narrowed 6 = .ok (.ireturn, 1) := by decide +kernel
theorem dX1_narrowed_7 : decode cX1_narrowed 7 = .ok (.iload_n 0, 1) := by decide +kernel
theorem dX1_narrowed_8 : decode cX1_narrowed 8 = .ok (.iconst 1, 1) := by decide +kernel
theorem dX1_narrowed_9 : decode cX1_narrowed 9 = .ok (.if_icmp .ne 8, 3) := by decide +kernel
theorem dX1_narrowed_12 : decode cX1_narrowed 12 = .ok (.iload_n 1, 1) := by decide +kernel
theorem dX1_narrowed_13 : decode cX1_narrowed 13 = .ok (.i2c, 1) := by decide +kernel
theorem dX1_narrowed_14 : decode cX1_narrowed 14 = .ok (.goto 5, 3) := by decide +kernel
theorem dX1_narrowed_17 : decode cX1_narrowed 17 = .ok (.iload_n 1, 1) := by decide +kernel
theorem dX1_narrowed_18 : decode cX1_narrowed 18 = .ok (.i2s, 1) := by decide +kernel
theorem dX1_narrowed_19 : decode cX1_narrowed 19 = .ok (.ireturn, 1) := by decide +kernel
theorem dX1_isLine_0 : decode cX1_isLine 0 = .ok (.iload_n 1, 1) := by decide +kernel
theorem dX1_isLine_1 : decode cX1_isLine 1 = .ok (.ifCond .lt 15, 3) := by decide +kernel
theorem dX1_isLine_4 : decode cX1_isLine 4 = .ok (.iload_n 1, 1) := by decide +kernel
theorem dX1_isLine_5 : decode cX1_isLine 5 = .ok (.aload_n 0, 1) := by decide +kernel
theorem dX1_isLine_6 : decode cX1_isLine 6 = .ok (.getfield 9, 3) := by decide +kernel
theorem dX1_isLine_9 : decode cX1_isLine 9 = .ok (.if_icmp .ge 7, 3) := by decide +kernel
theorem dX1_isLine_12 : decode cX1_isLine 12 = .ok (.iconst 1, 1) := by decide +kernel
theorem dX1_isLine_13 : decode cX1_isLine 13 = .ok (.goto 4, 3) := by decide +kernel
theorem dX1_isLine_16 : decode cX1_isLine 16 = .ok (.iconst 0, 1) := by decide +kernel
theorem dX1_isLine_17 : decode cX1_isLine 17 = .ok (.ireturn, 1) := by decide +kernel
theorem dX1_isLost_0 : decode cX1_isLost 0 = .ok (.aload_n 0, 1) := by decide +kernel
theorem dX1_isLost_1 : decode cX1_isLost 1 = .ok (.getfield 19, 3) := by decide +kernel
theorem dX1_isLost_4 : decode cX1_isLost 4 = .ok (.iload_n 1, 1) := by decide +kernel
theorem dX1_isLost_5 : decode cX1_isLost 5 = .ok (.iaload, 1) := by decide +kernel
theorem dX1_isLost_6 : decode cX1_isLost 6 = .ok (.ifCond .ge 7, 3) := by decide +kernel
theorem dX1_isLost_9 : decode cX1_isLost 9 = .ok (.iconst 1, 1) := by decide +kernel
theorem dX1_isLost_10 : decode cX1_isLost 10 = .ok (.goto 4, 3) := by decide +kernel
theorem dX1_isLost_13 : decode cX1_isLost 13 = .ok (.iconst 0, 1) := by decide +kernel
theorem dX1_isLost_14 : decode cX1_isLost 14 = .ok (.ireturn, 1) := by decide +kernel
theorem dX1_renew_0 : decode cX1_renew 0 = .ok (.aload_n 0, 1) := by decide +kernel
theorem dX1_renew_1 : decode cX1_renew 1 = .ok (.getfield 15, 3) := by decide +kernel
theorem dX1_renew_4 : decode cX1_renew 4 = .ok (.iload_n 1, 1) := by decide +kernel
theorem dX1_renew_5 : decode cX1_renew 5 = .ok (.iload_n 2, 1) := by decide +kernel
theorem dX1_renew_6 : decode cX1_renew 6 = .ok (.iastore, 1) := by decide +kernel
theorem dX1_renew_7 : decode cX1_renew 7 = .ok (.aload_n 0, 1) := by decide +kernel
theorem dX1_renew_8 : decode cX1_renew 8 = .ok (.getfield 19, 3) := by decide +kernel
theorem dX1_renew_11 : decode cX1_renew 11 = .ok (.iload_n 1, 1) := by decide +kernel
theorem dX1_renew_12 : decode cX1_renew 12 = .ok (.iload_n 3, 1) := by decide +kernel
theorem dX1_renew_13 : decode cX1_renew 13 = .ok (.iastore, 1) := by decide +kernel
theorem dX1_renew_14 : decode cX1_renew 14 = .ok (.iconst 0, 1) := by decide +kernel
theorem dX1_renew_15 : decode cX1_renew 15 = .ok (.istore 4, 2) := by decide +kernel
theorem dX1_renew_17 : decode cX1_renew 17 = .ok (.iload 4, 2) := by decide +kernel
theorem dX1_renew_19 : decode cX1_renew 19 = .ok (.bipush 12, 2) := by decide +kernel
theorem dX1_renew_21 : decode cX1_renew 21 = .ok (.if_icmp .ge 19, 3) := by decide +kernel
theorem dX1_renew_24 : decode cX1_renew 24 = .ok (.aload_n 0, 1) := by decide +kernel
theorem dX1_renew_25 : decode cX1_renew 25 = .ok (.getfield 24, 3) := by decide +kernel
theorem dX1_renew_28 : decode cX1_renew 28 = .ok (.iload_n 1, 1) := by decide +kernel
theorem dX1_renew_29 : decode cX1_renew 29 = .ok (.aaload, 1) := by decide +kernel
theorem dX1_renew_30 : decode cX1_renew 30 = .ok (.iload 4, 2) := by decide +kernel
theorem dX1_renew_32 : decode cX1_renew 32 = .ok (.iconst 0, 1) := by decide +kernel
theorem dX1_renew_33 : decode cX1_renew 33 = .ok (.iastore, 1) := by decide +kernel
theorem dX1_renew_34 : decode cX1_renew 34 = .ok (.iinc 4 1, 3) := by decide +kernel
theorem dX1_renew_37 : decode cX1_renew 37 = .ok (.goto (-20), 3) := by decide +kernel
theorem dX1_renew_40 : decode cX1_renew 40 = .ok (.return_, 1) := by decide +kernel
theorem dX1_faultOfItem_0 : decode cX1_faultOfItem 0 = .ok (.aload_n 0, 1) := by decide +kernel
theorem dX1_faultOfItem_1 : decode cX1_faultOfItem 1 = .ok (.iload_n 1, 1) := by decide +kernel
theorem dX1_faultOfItem_2 : decode cX1_faultOfItem 2 = .ok (.invokevirtual 27, 3) := by decide +kernel
theorem dX1_faultOfItem_5 : decode cX1_faultOfItem 5 = .ok (.ifCond .eq 5, 3) := by decide +kernel
theorem dX1_faultOfItem_8 : decode cX1_faultOfItem 8 = .ok (.iconst 1, 1) := by decide +kernel
theorem dX1_faultOfItem_9 : decode cX1_faultOfItem 9 = .ok (.ireturn, 1) := by decide +kernel
theorem dX1_faultOfItem_10 : decode cX1_faultOfItem 10 = .ok (.aload_n 0, 1) := by decide +kernel
theorem dX1_faultOfItem_11 : decode cX1_faultOfItem 11 = .ok (.getfield 15, 3) := by decide +kernel
theorem dX1_faultOfItem_14 : decode cX1_faultOfItem 14 = .ok (.iload_n 1, 1) := by decide +kernel
theorem dX1_faultOfItem_15 : decode cX1_faultOfItem 15 = .ok (.iaload, 1) := by decide +kernel
theorem dX1_faultOfItem_16 : decode cX1_faultOfItem 16 = .ok (.iload_n 2, 1) := by decide +kernel
theorem dX1_faultOfItem_17 : decode cX1_faultOfItem 17 = .ok (.if_icmp .eq 5, 3) := by decide +kernel
theorem dX1_faultOfItem_20 : decode cX1_faultOfItem 20 = .ok (.iconst 3, 1) := by decide +kernel
theorem dX1_faultOfItem_21 : decode cX1_faultOfItem 21 = .ok (.ireturn, 1) := by decide +kernel
theorem dX1_faultOfItem_22 : decode cX1_faultOfItem 22 = .ok (.iload_n 3, 1) := by decide +kernel
theorem dX1_faultOfItem_23 : decode cX1_faultOfItem 23 = .ok (.ifCond .lt 13, 3) := by decide +kernel
theorem dX1_faultOfItem_26 : decode cX1_faultOfItem 26 = .ok (.iload_n 3, 1) := by decide +kernel
theorem dX1_faultOfItem_27 : decode cX1_faultOfItem 27 = .ok (.aload_n 0, 1) := by decide +kernel
theorem dX1_faultOfItem_28 : decode cX1_faultOfItem 28 = .ok (.getfield 19, 3) := by decide +kernel
theorem dX1_faultOfItem_31 : decode cX1_faultOfItem 31 = .ok (.iload_n 1, 1) := by decide +kernel
theorem dX1_faultOfItem_32 : decode cX1_faultOfItem 32 = .ok (.iaload, 1) := by decide +kernel
theorem dX1_faultOfItem_33 : decode cX1_faultOfItem 33 = .ok (.if_icmp .lt 7, 3) := by decide +kernel
theorem dX1_faultOfItem_36 : decode cX1_faultOfItem 36 = .ok (.iconst 2, 1) := by decide +kernel
theorem dX1_faultOfItem_37 : decode cX1_faultOfItem 37 = .ok (.goto 4, 3) := by decide +kernel
theorem dX1_faultOfItem_40 : decode cX1_faultOfItem 40 = .ok (.iconst 0, 1) := by decide +kernel
theorem dX1_faultOfItem_41 : decode cX1_faultOfItem 41 = .ok (.ireturn, 1) := by decide +kernel
theorem dX1_hasItems_0 : decode cX1_hasItems 0 = .ok (.iload_n 2, 1) := by decide +kernel
theorem dX1_hasItems_1 : decode cX1_hasItems 1 = .ok (.ifCond .lt 33, 3) := by decide +kernel
theorem dX1_hasItems_4 : decode cX1_hasItems 4 = .ok (.iload_n 3, 1) := by decide +kernel
theorem dX1_hasItems_5 : decode cX1_hasItems 5 = .ok (.ifCond .lt 29, 3) := by decide +kernel
theorem dX1_hasItems_8 : decode cX1_hasItems 8 = .ok (.iload_n 3, 1) := by decide +kernel
theorem dX1_hasItems_9 : decode cX1_hasItems 9 = .ok (.aload_n 0, 1) := by decide +kernel
theorem dX1_hasItems_10 : decode cX1_hasItems 10 = .ok (.getfield 19, 3) := by decide +kernel
theorem dX1_hasItems_13 : decode cX1_hasItems 13 = .ok (.iload_n 1, 1) := by decide +kernel
theorem dX1_hasItems_14 : decode cX1_hasItems 14 = .ok (.iaload, 1) := by decide +kernel
theorem dX1_hasItems_15 : decode cX1_hasItems 15 = .ok (.if_icmp .gt 19, 3) := by decide +kernel
theorem dX1_hasItems_18 : decode cX1_hasItems 18 = .ok (.iload_n 2, 1) := by decide +kernel
theorem dX1_hasItems_19 : decode cX1_hasItems 19 = .ok (.aload_n 0, 1) := by decide +kernel
theorem dX1_hasItems_20 : decode cX1_hasItems 20 = .ok (.getfield 19, 3) := by decide +kernel
theorem dX1_hasItems_23 : decode cX1_hasItems 23 = .ok (.iload_n 1, 1) := by decide +kernel
theorem dX1_hasItems_24 : decode cX1_hasItems 24 = .ok (.iaload, 1) := by decide +kernel
theorem dX1_hasItems_25 : decode cX1_hasItems 25 = .ok (.iload_n 3, 1) := by decide +kernel
theorem dX1_hasItems_26 : decode cX1_hasItems 26 = .ok (.isub, 1) := by decide +kernel
theorem dX1_hasItems_27 : decode cX1_hasItems 27 = .ok (.if_icmp .gt 7, 3) := by decide +kernel
theorem dX1_hasItems_30 : decode cX1_hasItems 30 = .ok (.iconst 1, 1) := by decide +kernel
theorem dX1_hasItems_31 : decode cX1_hasItems 31 = .ok (.goto 4, 3) := by decide +kernel
theorem dX1_hasItems_34 : decode cX1_hasItems 34 = .ok (.iconst 0, 1) := by decide +kernel
theorem dX1_hasItems_35 : decode cX1_hasItems 35 = .ok (.ireturn, 1) := by decide +kernel
theorem dX1_someIsTooShort_0 : decode cX1_someIsTooShort 0 = .ok (.iconst 0, 1) := by decide +kernel
theorem dX1_someIsTooShort_1 : decode cX1_someIsTooShort 1 = .ok (.istore_n 1, 1) := by decide +kernel
theorem dX1_someIsTooShort_2 : decode cX1_someIsTooShort 2 = .ok (.iload_n 1, 1) := by decide +kernel
theorem dX1_someIsTooShort_3 : decode cX1_someIsTooShort 3 = .ok (.aload_n 0, 1) := by decide +kernel
theorem dX1_someIsTooShort_4 : decode cX1_someIsTooShort 4 = .ok (.getfield 9, 3) := by decide +kernel
theorem dX1_someIsTooShort_7 : decode cX1_someIsTooShort 7 = .ok (.if_icmp .ge 32, 3) := by decide +kernel
theorem dX1_someIsTooShort_10 : decode cX1_someIsTooShort 10 = .ok (.aload_n 0, 1) := by decide +kernel
theorem dX1_someIsTooShort_11 : decode cX1_someIsTooShort 11 = .ok (.iload_n 1, 1) := by decide +kernel
theorem dX1_someIsTooShort_12 : decode cX1_someIsTooShort 12 = .ok (.invokevirtual 27, 3) := by decide +kernel
theorem dX1_someIsTooShort_15 : decode cX1_someIsTooShort 15 = .ok (.ifCond .ne 18, 3) := by decide +kernel
theorem dX1_someIsTooShort_18 : decode cX1_someIsTooShort 18 = .ok (.aload_n 0, 1) := by decide +kernel
theorem dX1_someIsTooShort_19 : decode cX1_someIsTooShort 19 = .ok (.getfield 19, 3) := by decide +kernel
theorem dX1_someIsTooShort_22 : decode cX1_someIsTooShort 22 = .ok (.iload_n 1, 1) := by decide +kernel
theorem dX1_someIsTooShort_23 : decode cX1_someIsTooShort 23 = .ok (.iaload, 1) := by decide +kernel
theorem dX1_someIsTooShort_24 : decode cX1_someIsTooShort 24 = .ok (.aload_n 0, 1) := by decide +kernel
theorem dX1_someIsTooShort_25 : decode cX1_someIsTooShort 25 = .ok (.getfield 9, 3) := by decide +kernel
theorem dX1_someIsTooShort_28 : decode cX1_someIsTooShort 28 = .ok (.if_icmp .ge 5, 3) := by decide +kernel
theorem dX1_someIsTooShort_31 : decode cX1_someIsTooShort 31 = .ok (.iconst 1, 1) := by decide +kernel
theorem dX1_someIsTooShort_32 : decode cX1_someIsTooShort 32 = .ok (.ireturn, 1) := by decide +kernel
theorem dX1_someIsTooShort_33 : decode cX1_someIsTooShort 33 = .ok (.iinc 1 1, 3) := by decide +kernel
theorem dX1_someIsTooShort_36 : decode cX1_someIsTooShort 36 = .ok (.goto (-34), 3) := by decide +kernel
theorem dX1_someIsTooShort_39 : decode cX1_someIsTooShort 39 = .ok (.iconst 0, 1) := by decide +kernel
theorem dX1_someIsTooShort_40 : decode cX1_someIsTooShort 40 = .ok (.ireturn, 1) := by decide +kernel
theorem dX1_told_0 : decode cX1_told 0 = .ok (.aload_n 0, 1) := by decide +kernel
theorem dX1_told_1 : decode cX1_told 1 = .ok (.iload_n 1, 1) := by decide +kernel
theorem dX1_told_2 : decode cX1_told 2 = .ok (.invokevirtual 27, 3) := by decide +kernel
theorem dX1_told_5 : decode cX1_told 5 = .ok (.ifCond .eq 7, 3) := by decide +kernel
theorem dX1_told_8 : decode cX1_told 8 = .ok (.iconst 0, 1) := by decide +kernel
theorem dX1_told_9 : decode cX1_told 9 = .ok (.goto 11, 3) := by decide +kernel
theorem dX1_told_12 : decode cX1_told 12 = .ok (.aload_n 0, 1) := by decide +kernel
theorem dX1_told_13 : decode cX1_told 13 = .ok (.getfield 24, 3) := by decide +kernel
theorem dX1_told_16 : decode cX1_told 16 = .ok (.iload_n 1, 1) := by decide +kernel
theorem dX1_told_17 : decode cX1_told 17 = .ok (.aaload, 1) := by decide +kernel
theorem dX1_told_18 : decode cX1_told 18 = .ok (.iload_n 2, 1) := by decide +kernel
theorem dX1_told_19 : decode cX1_told 19 = .ok (.iaload, 1) := by decide +kernel
theorem dX1_told_20 : decode cX1_told 20 = .ok (.ireturn, 1) := by decide +kernel
theorem dX2_itemOf_0 : decode cX2_itemOf 0 = .ok (.iconst 1, 1) := by decide +kernel
theorem dX2_itemOf_1 : decode cX2_itemOf 1 = .ok (.iload_n 1, 1) := by decide +kernel
theorem dX2_itemOf_2 : decode cX2_itemOf 2 = .ok (.iadd, 1) := by decide +kernel
theorem dX2_itemOf_3 : decode cX2_itemOf 3 = .ok (.bipush 16, 2) := by decide +kernel
theorem dX2_itemOf_5 : decode cX2_itemOf 5 = .ok (.iload_n 0, 1) := by decide +kernel
theorem dX2_itemOf_6 : decode cX2_itemOf 6 = .ok (.imul, 1) := by decide +kernel
theorem dX2_itemOf_7 : decode cX2_itemOf 7 = .ok (.iadd, 1) := by decide +kernel
theorem dX2_itemOf_8 : decode cX2_itemOf 8 = .ok (.ireturn, 1) := by decide +kernel
theorem dX2_sideOf_0 : decode cX2_sideOf 0 = .ok (.iload_n 0, 1) := by decide +kernel
theorem dX2_sideOf_1 : decode cX2_sideOf 1 = .ok (.bipush 15, 2) := by decide +kernel
theorem dX2_sideOf_3 : decode cX2_sideOf 3 = .ok (.iadd, 1) := by decide +kernel
theorem dX2_sideOf_4 : decode cX2_sideOf 4 = .ok (.iconst 4, 1) := by decide +kernel
theorem dX2_sideOf_5 : decode cX2_sideOf 5 = .ok (.ishr, 1) := by decide +kernel
theorem dX2_sideOf_6 : decode cX2_sideOf 6 = .ok (.iconst 1, 1) := by decide +kernel
theorem dX2_sideOf_7 : decode cX2_sideOf 7 = .ok (.isub, 1) := by decide +kernel
theorem dX2_sideOf_8 : decode cX2_sideOf 8 = .ok (.ireturn, 1) := by decide +kernel
theorem dX2_kindOf_0 : decode cX2_kindOf 0 = .ok (.iload_n 0, 1) := by decide +kernel
theorem dX2_kindOf_1 : decode cX2_kindOf 1 = .ok (.iconst 1, 1) := by decide +kernel
theorem dX2_kindOf_2 : decode cX2_kindOf 2 = .ok (.isub, 1) := by decide +kernel
theorem dX2_kindOf_3 : decode cX2_kindOf 3 = .ok (.bipush 7, 2) := by decide +kernel
theorem dX2_kindOf_5 : decode cX2_kindOf 5 = .ok (.iand, 1) := by decide +kernel
theorem dX2_kindOf_6 : decode cX2_kindOf 6 = .ok (.ireturn, 1) := by decide +kernel
theorem dX2_typeOf_0 : decode cX2_typeOf 0 = .ok (.iload_n 0, 1) := by decide +kernel
theorem dX2_typeOf_1 : decode cX2_typeOf 1 = .ok (.iconst 1, 1) := by decide +kernel
theorem dX2_typeOf_2 : decode cX2_typeOf 2 = .ok (.isub, 1) := by decide +kernel
theorem dX2_typeOf_3 : decode cX2_typeOf 3 = .ok (.bipush 15, 2) := by decide +kernel
theorem dX2_typeOf_5 : decode cX2_typeOf 5 = .ok (.iand, 1) := by decide +kernel
theorem dX2_typeOf_6 : decode cX2_typeOf 6 = .ok (.ireturn, 1) := by decide +kernel
theorem dX2_isRaised_0 : decode cX2_isRaised 0 = .ok (.iload_n 0, 1) := by decide +kernel
theorem dX2_isRaised_1 : decode cX2_isRaised 1 = .ok (.ifCond .eq 16, 3) := by decide +kernel
theorem dX2_isRaised_4 : decode cX2_isRaised 4 = .ok (.iload_n 0, 1) := by decide +kernel
theorem dX2_isRaised_5 : decode cX2_isRaised 5 = .ok (.iconst 1, 1) := by decide +kernel
theorem dX2_isRaised_6 : decode cX2_isRaised 6 = .ok (.isub, 1) := by decide +kernel
theorem dX2_isRaised_7 : decode cX2_isRaised 7 = .ok (.bipush 8, 2) := by decide +kernel
theorem dX2_isRaised_9 : decode cX2_isRaised 9 = .ok (.iand, 1) := by decide +kernel
theorem dX2_isRaised_10 : decode cX2_isRaised 10 = .ok (.ifCond .eq 7, 3) := by decide +kernel
theorem dX2_isRaised_13 : decode cX2_isRaised 13 = .ok (.iconst 1, 1) := by decide +kernel
theorem dX2_isRaised_14 : decode cX2_isRaised 14 = .ok (.goto 4, 3) := by decide +kernel
theorem dX2_isRaised_17 : decode cX2_isRaised 17 = .ok (.iconst 0, 1) := by decide +kernel
theorem dX2_isRaised_18 : decode cX2_isRaised 18 = .ok (.ireturn, 1) := by decide +kernel
theorem dX3_going_0 : decode cX3_going 0 = .ok (.iload_n 0, 1) := by decide +kernel
theorem dX3_going_1 : decode cX3_going 1 = .ok (.bipush 6, 2) := by decide +kernel
theorem dX3_going_3 : decode cX3_going 3 = .ok (.ishl, 1) := by decide +kernel
theorem dX3_going_4 : decode cX3_going 4 = .ok (.iload_n 1, 1) := by decide +kernel
theorem dX3_going_5 : decode cX3_going 5 = .ok (.ior, 1) := by decide +kernel
theorem dX3_going_6 : decode cX3_going 6 = .ok (.iload_n 2, 1) := by decide +kernel
theorem dX3_going_7 : decode cX3_going 7 = .ok (.ifCond .eq 9, 3) := by decide +kernel
theorem dX3_going_10 : decode cX3_going 10 = .ok (.sipush 4096, 3) := by decide +kernel
theorem dX3_going_13 : decode cX3_going 13 = .ok (.goto 4, 3) := by decide +kernel
theorem dX3_going_16 : decode cX3_going 16 = .ok (.iconst 0, 1) := by decide +kernel
theorem dX3_going_17 : decode cX3_going 17 = .ok (.ior, 1) := by decide +kernel
theorem dX3_going_18 : decode cX3_going 18 = .ok (.ireturn, 1) := by decide +kernel
theorem dX3_setting_0 : decode cX3_setting 0 = .ok (.iload_n 0, 1) := by decide +kernel
theorem dX3_setting_1 : decode cX3_setting 1 = .ok (.bipush 13, 2) := by decide +kernel
theorem dX3_setting_3 : decode cX3_setting 3 = .ok (.ishl, 1) := by decide +kernel
theorem dX3_setting_4 : decode cX3_setting 4 = .ok (.sipush 4032, 3) := by decide +kernel
theorem dX3_setting_7 : decode cX3_setting 7 = .ok (.ior, 1) := by decide +kernel
theorem dX3_setting_8 : decode cX3_setting 8 = .ok (.iload_n 1, 1) := by decide +kernel
theorem dX3_setting_9 : decode cX3_setting 9 = .ok (.ior, 1) := by decide +kernel
theorem dX3_setting_10 : decode cX3_setting 10 = .ok (.ireturn, 1) := by decide +kernel
theorem dX3_isSetting_0 : decode cX3_isSetting 0 = .ok (.iload_n 0, 1) := by decide +kernel
theorem dX3_isSetting_1 : decode cX3_isSetting 1 = .ok (.bipush 6, 2) := by decide +kernel
theorem dX3_isSetting_3 : decode cX3_isSetting 3 = .ok (.ishr, 1) := by decide +kernel
theorem dX3_isSetting_4 : decode cX3_isSetting 4 = .ok (.bipush 63, 2) := by decide +kernel
theorem dX3_isSetting_6 : decode cX3_isSetting 6 = .ok (.iand, 1) := by decide +kernel
theorem dX3_isSetting_7 : decode cX3_isSetting 7 = .ok (.bipush 63, 2) := by decide +kernel
theorem dX3_isSetting_9 : decode cX3_isSetting 9 = .ok (.if_icmp .ne 7, 3) := by decide +kernel
theorem dX3_isSetting_12 : decode cX3_isSetting 12 = .ok (.iconst 1, 1) := by decide +kernel
theorem dX3_isSetting_13 : decode cX3_isSetting 13 = .ok (.goto 4, 3) := by decide +kernel
theorem dX3_isSetting_16 : decode cX3_isSetting 16 = .ok (.iconst 0, 1) := by decide +kernel
theorem dX3_isSetting_17 : decode cX3_isSetting 17 = .ok (.ireturn, 1) := by decide +kernel
theorem dX3_fromOf_0 : decode cX3_fromOf 0 = .ok (.iload_n 0, 1) := by decide +kernel
theorem dX3_fromOf_1 : decode cX3_fromOf 1 = .ok (.invokestatic 11, 3) := by decide +kernel
theorem dX3_fromOf_4 : decode cX3_fromOf 4 = .ok (.ifCond .eq 7, 3) := by decide +kernel
theorem dX3_fromOf_7 : decode cX3_fromOf 7 = .ok (.iconst (-1), 1) := by decide +kernel
theorem dX3_fromOf_8 : decode cX3_fromOf 8 = .ok (.goto 10, 3) := by decide +kernel
theorem dX3_fromOf_11 : decode cX3_fromOf 11 = .ok (.iload_n 0, 1) := by decide +kernel
theorem dX3_fromOf_12 : decode cX3_fromOf 12 = .ok (.bipush 6, 2) := by decide +kernel
theorem dX3_fromOf_14 : decode cX3_fromOf 14 = .ok (.ishr, 1) := by decide +kernel
theorem dX3_fromOf_15 : decode cX3_fromOf 15 = .ok (.bipush 63, 2) := by decide +kernel
theorem dX3_fromOf_17 : decode cX3_fromOf 17 = .ok (.iand, 1) := by decide +kernel
theorem dX3_fromOf_18 : decode cX3_fromOf 18 = .ok (.ireturn, 1) := by decide +kernel
theorem dX3_toOf_0 : decode cX3_toOf 0 = .ok (.iload_n 0, 1) := by decide +kernel
theorem dX3_toOf_1 : decode cX3_toOf 1 = .ok (.bipush 63, 2) := by decide +kernel
theorem dX3_toOf_3 : decode cX3_toOf 3 = .ok (.iand, 1) := by decide +kernel
theorem dX3_toOf_4 : decode cX3_toOf 4 = .ok (.ireturn, 1) := by decide +kernel
theorem dX3_raises_0 : decode cX3_raises 0 = .ok (.iload_n 0, 1) := by decide +kernel
theorem dX3_raises_1 : decode cX3_raises 1 = .ok (.sipush 4096, 3) := by decide +kernel
theorem dX3_raises_4 : decode cX3_raises 4 = .ok (.iand, 1) := by decide +kernel
theorem dX3_raises_5 : decode cX3_raises 5 = .ok (.ifCond .eq 7, 3) := by decide +kernel
theorem dX3_raises_8 : decode cX3_raises 8 = .ok (.iconst 1, 1) := by decide +kernel
theorem dX3_raises_9 : decode cX3_raises 9 = .ok (.goto 4, 3) := by decide +kernel
theorem dX3_raises_12 : decode cX3_raises 12 = .ok (.iconst 0, 1) := by decide +kernel
theorem dX3_raises_13 : decode cX3_raises 13 = .ok (.ireturn, 1) := by decide +kernel
theorem dX3_setKindOf_0 : decode cX3_setKindOf 0 = .ok (.iload_n 0, 1) := by decide +kernel
theorem dX3_setKindOf_1 : decode cX3_setKindOf 1 = .ok (.invokestatic 11, 3) := by decide +kernel
theorem dX3_setKindOf_4 : decode cX3_setKindOf 4 = .ok (.ifCond .eq 13, 3) := by decide +kernel
theorem dX3_setKindOf_7 : decode cX3_setKindOf 7 = .ok (.iload_n 0, 1) := by decide +kernel
theorem dX3_setKindOf_8 : decode cX3_setKindOf 8 = .ok (.bipush 13, 2) := by decide +kernel
theorem dX3_setKindOf_10 : decode cX3_setKindOf 10 = .ok (.ishr, 1) := by decide +kernel
theorem dX3_setKindOf_11 : decode cX3_setKindOf 11 = .ok (.bipush 7, 2) := by decide +kernel
theorem dX3_setKindOf_13 : decode cX3_setKindOf 13 = .ok (.iand, 1) := by decide +kernel
theorem dX3_setKindOf_14 : decode cX3_setKindOf 14 = .ok (.goto 4, 3) := by decide +kernel
theorem dX3_setKindOf_17 : decode cX3_setKindOf 17 = .ok (.iconst (-1), 1) := by decide +kernel
theorem dX3_setKindOf_18 : decode cX3_setKindOf 18 = .ok (.ireturn, 1) := by decide +kernel
theorem dX3_takenKindOf_0 : decode cX3_takenKindOf 0 = .ok (.iload_n 0, 1) := by decide +kernel
theorem dX3_takenKindOf_1 : decode cX3_takenKindOf 1 = .ok (.bipush 16, 2) := by decide +kernel
theorem dX3_takenKindOf_3 : decode cX3_takenKindOf 3 = .ok (.ishr, 1) := by decide +kernel
theorem dX3_takenKindOf_4 : decode cX3_takenKindOf 4 = .ok (.istore_n 1, 1) := by decide +kernel
theorem dX3_takenKindOf_5 : decode cX3_takenKindOf 5 = .ok (.iload_n 1, 1) := by decide +kernel
theorem dX3_takenKindOf_6 : decode cX3_takenKindOf 6 = .ok (.ifCond .ne 7, 3) := by decide +kernel
theorem dX3_takenKindOf_9 : decode cX3_takenKindOf 9 = .ok (.iconst (-1), 1) := by decide +kernel
theorem dX3_takenKindOf_10 : decode cX3_takenKindOf 10 = .ok (.goto 7, 3) := by decide +kernel
theorem dX3_takenKindOf_13 : decode cX3_takenKindOf 13 = .ok (.iload_n 1, 1) := by decide +kernel
theorem dX3_takenKindOf_14 : decode cX3_takenKindOf 14 = .ok (.invokestatic 15, 3) := by decide +kernel
theorem dX3_takenKindOf_17 : decode cX3_takenKindOf 17 = .ok (.ireturn, 1) := by decide +kernel
theorem dX4_init_0 : decode cX4_init 0 = .ok (.aload_n 0, 1) := by decide +kernel
theorem dX4_init_1 : decode cX4_init 1 = .ok (.invokespecial 1, 3) := by decide +kernel
theorem dX4_init_4 : decode cX4_init 4 = .ok (.aload_n 0, 1) := by decide +kernel
theorem dX4_init_5 : decode cX4_init 5 = .ok (.sipush 300, 3) := by decide +kernel
theorem dX4_init_8 : decode cX4_init 8 = .ok (.newarray .int, 2) := by decide +kernel
theorem dX4_init_10 : decode cX4_init 10 = .ok (.putfield 9, 3) := by decide +kernel
theorem dX4_init_13 : decode cX4_init 13 = .ok (.aload_n 0, 1) := by decide +kernel
theorem dX4_init_14 : decode cX4_init 14 = .ok (.sipush 300, 3) := by decide +kernel
theorem dX4_init_17 : decode cX4_init 17 = .ok (.newarray .boolean, 2) := by decide +kernel
theorem dX4_init_19 : decode cX4_init 19 = .ok (.putfield 13, 3) := by decide +kernel
theorem dX4_init_22 : decode cX4_init 22 = .ok (.aload_n 0, 1) := by decide +kernel
theorem dX4_init_23 : decode cX4_init 23 = .ok (.sipush 2107, 3) := by decide +kernel
theorem dX4_init_26 : decode cX4_init 26 = .ok (.newarray .long, 2) := by decide +kernel
theorem dX4_init_28 : decode cX4_init 28 = .ok (.putfield 17, 3) := by decide +kernel
theorem dX4_init_31 : decode cX4_init 31 = .ok (.aload_n 0, 1) := by decide +kernel
theorem dX4_init_32 : decode cX4_init 32 = .ok (.aload_n 1, 1) := by decide +kernel
theorem dX4_init_33 : decode cX4_init 33 = .ok (.putfield 21, 3) := by decide +kernel
theorem dX4_init_36 : decode cX4_init 36 = .ok (.return_, 1) := by decide +kernel
theorem dX4_begin_0 : decode cX4_begin 0 = .ok (.aload_n 0, 1) := by decide +kernel
theorem dX4_begin_1 : decode cX4_begin 1 = .ok (.aload_n 0, 1) := by decide +kernel
theorem dX4_begin_2 : decode cX4_begin 2 = .ok (.getfield 21, 3) := by decide +kernel
theorem dX4_begin_5 : decode cX4_begin 5 = .ok (.getfield 25, 3) := by decide +kernel
theorem dX4_begin_8 : decode cX4_begin 8 = .ok (.putfield 31, 3) := by decide +kernel
theorem dX4_begin_11 : decode cX4_begin 11 = .ok (.aload_n 0, 1) := by decide +kernel
theorem dX4_begin_12 : decode cX4_begin 12 = .ok (.iconst 0, 1) := by decide +kernel
theorem dX4_begin_13 : decode cX4_begin 13 = .ok (.putfield 34, 3) := by decide +kernel
theorem dX4_begin_16 : decode cX4_begin 16 = .ok (.aload_n 0, 1) := by decide +kernel
theorem dX4_begin_17 : decode cX4_begin 17 = .ok (.iconst 0, 1) := by decide +kernel
theorem dX4_begin_18 : decode cX4_begin 18 = .ok (.putfield 37, 3) := by decide +kernel
theorem dX4_begin_21 : decode cX4_begin 21 = .ok (.aload_n 0, 1) := by decide +kernel
theorem dX4_begin_22 : decode cX4_begin 22 = .ok (.invokevirtual 40, 3) := by decide +kernel
theorem dX4_begin_25 : decode cX4_begin 25 = .ok (.return_, 1) := by decide +kernel
theorem dX4_advance_0 : decode cX4_advance 0 = .ok (.aload_n 0, 1) := by decide +kernel
theorem dX4_advance_1 : decode cX4_advance 1 = .ok (.getfield 9, 3) := by decide +kernel
theorem dX4_advance_4 : decode cX4_advance 4 = .ok (.aload_n 0, 1) := by decide +kernel
theorem dX4_advance_5 : decode cX4_advance 5 = .ok (.getfield 34, 3) := by decide +kernel
theorem dX4_advance_8 : decode cX4_advance 8 = .ok (.iload_n 1, 1) := by decide +kernel
theorem dX4_advance_9 : decode cX4_advance 9 = .ok (.iastore, 1) := by decide +kernel
theorem dX4_advance_10 : decode cX4_advance 10 = .ok (.aload_n 0, 1) := by decide +kernel
theorem dX4_advance_11 : decode cX4_advance 11 = .ok (.aload_n 0, 1) := by decide +kernel
theorem dX4_advance_12 : decode cX4_advance 12 = .ok (.getfield 34, 3) := by decide +kernel
theorem dX4_advance_15 : decode cX4_advance 15 = .ok (.iconst 1, 1) := by decide +kernel
theorem dX4_advance_16 : decode cX4_advance 16 = .ok (.iadd, 1) := by decide +kernel
theorem dX4_advance_17 : decode cX4_advance 17 = .ok (.putfield 37, 3) := by decide +kernel
theorem dX4_advance_20 : decode cX4_advance 20 = .ok (.aload_n 0, 1) := by decide +kernel
theorem dX4_advance_21 : decode cX4_advance 21 = .ok (.invokevirtual 43, 3) := by decide +kernel
theorem dX4_advance_24 : decode cX4_advance 24 = .ok (.return_, 1) := by decide +kernel
theorem dX4_repeat_0 : decode cX4_repeat 0 = .ok (.aload_n 0, 1) := by decide +kernel
theorem dX4_repeat_1 : decode cX4_repeat 1 = .ok (.getfield 21, 3) := by decide +kernel
theorem dX4_repeat_4 : decode cX4_repeat 4 = .ok (.aload_n 0, 1) := by decide +kernel
theorem dX4_repeat_5 : decode cX4_repeat 5 = .ok (.getfield 9, 3) := by decide +kernel
theorem dX4_repeat_8 : decode cX4_repeat 8 = .ok (.aload_n 0, 1) := by decide +kernel
theorem dX4_repeat_9 : decode cX4_repeat 9 = .ok (.getfield 34, 3) := by decide +kernel
theorem dX4_repeat_12 : decode cX4_repeat 12 = .ok (.iaload, 1) := by decide +kernel
theorem dX4_repeat_13 : decode cX4_repeat 13 = .ok (.invokevirtual 46, 3) := by decide +kernel
theorem dX4_repeat_16 : decode cX4_repeat 16 = .ok (.aload_n 0, 1) := by decide +kernel
theorem dX4_repeat_17 : decode cX4_repeat 17 = .ok (.getfield 13, 3) := by decide +kernel
theorem dX4_repeat_20 : decode cX4_repeat 20 = .ok (.aload_n 0, 1) := by decide +kernel
theorem dX4_repeat_21 : decode cX4_repeat 21 = .ok (.getfield 34, 3) := by decide +kernel
theorem dX4_repeat_24 : decode cX4_repeat 24 = .ok (.aload_n 0, 1) := by decide +kernel
theorem dX4_repeat_25 : decode cX4_repeat 25 = .ok (.getfield 21, 3) := by decide +kernel
theorem dX4_repeat_28 : decode cX4_repeat 28 = .ok (.aload_n 0, 1) := by decide +kernel
theorem dX4_repeat_29 : decode cX4_repeat 29 = .ok (.getfield 21, 3) := by decide +kernel
theorem dX4_repeat_32 : decode cX4_repeat 32 = .ok (.getfield 25, 3) := by decide +kernel
theorem dX4_repeat_35 : decode cX4_repeat 35 = .ok (.invokevirtual 50, 3) := by decide +kernel
theorem dX4_repeat_38 : decode cX4_repeat 38 = .ok (.bastore, 1) := by decide +kernel
theorem dX4_repeat_39 : decode cX4_repeat 39 = .ok (.aload_n 0, 1) := by decide +kernel
theorem dX4_repeat_40 : decode cX4_repeat 40 = .ok (.dup, 1) := by decide +kernel
theorem dX4_repeat_41 : decode cX4_repeat 41 = .ok (.getfield 34, 3) := by decide +kernel
