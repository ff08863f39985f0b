theorem dX5_faultOf_55 : decode cX5_faultOf 55 = .ok (.invokevirtual 102, 3) := by decide +kernel
theorem dX5_faultOf_58 : decode cX5_faultOf 58 = .ok (.aload_n 0, 1) := by decide +kernel
theorem dX5_faultOf_59 : decode cX5_faultOf 59 = .ok (.getfield 13, 3) := by decide +kernel
theorem dX5_faultOf_62 : decode cX5_faultOf 62 = .ok (.iconst 1, 1) := by decide +kernel
theorem dX5_faultOf_63 : decode cX5_faultOf 63 = .ok (.aload_n 0, 1) := by decide +kernel
theorem dX5_faultOf_64 : decode cX5_faultOf 64 = .ok (.getfield 13, 3) := by decide +kernel
theorem dX5_faultOf_67 : decode cX5_faultOf 67 = .ok (.getfield 30, 3) := by decide +kernel
theorem dX5_faultOf_70 : decode cX5_faultOf 70 = .ok (.isub, 1) := by decide +kernel
theorem dX5_faultOf_71 : decode cX5_faultOf 71 = .ok (.invokevirtual 90, 3) := by decide +kernel
theorem dX5_faultOf_74 : decode cX5_faultOf 74 = .ok (.ifCond .eq 17, 3) := by decide +kernel
theorem dX5_faultOf_77 : decode cX5_faultOf 77 = .ok (.iload_n 2, 1) := by decide +kernel
theorem dX5_faultOf_78 : decode cX5_faultOf 78 = .ok (.ifCond .eq 7, 3) := by decide +kernel
theorem dX5_faultOf_81 : decode cX5_faultOf 81 = .ok (.iconst 5, 1) := by decide +kernel
theorem dX5_faultOf_82 : decode cX5_faultOf 82 = .ok (.goto 5, 3) := by decide +kernel
theorem dX5_faultOf_85 : decode cX5_faultOf 85 = .ok (.bipush 6, 2) := by decide +kernel
theorem dX5_faultOf_87 : decode cX5_faultOf 87 = .ok (.istore_n 3, 1) := by decide +kernel
theorem dX5_faultOf_88 : decode cX5_faultOf 88 = .ok (.goto 15, 3) := by decide +kernel
theorem dX5_faultOf_91 : decode cX5_faultOf 91 = .ok (.aload_n 0, 1) := by decide +kernel
theorem dX5_faultOf_92 : decode cX5_faultOf 92 = .ok (.iload 4, 2) := by decide +kernel
theorem dX5_faultOf_94 : decode cX5_faultOf 94 = .ok (.invokevirtual 106, 3) := by decide +kernel
theorem dX5_faultOf_97 : decode cX5_faultOf 97 = .ok (.ifCond .eq 6, 3) := by decide +kernel
theorem dX5_faultOf_100 : decode cX5_faultOf 100 = .ok (.bipush 6, 2) := by decide +kernel
theorem dX5_faultOf_102 : decode cX5_faultOf 102 = .ok (.istore_n 3, 1) := by decide +kernel
theorem dX5_faultOf_103 : decode cX5_faultOf 103 = .ok (.aload_n 0, 1) := by decide +kernel
theorem dX5_faultOf_104 : decode cX5_faultOf 104 = .ok (.getfield 13, 3) := by decide +kernel
theorem dX5_faultOf_107 : decode cX5_faultOf 107 = .ok (.iload 4, 2) := by decide +kernel
theorem dX5_faultOf_109 : decode cX5_faultOf 109 = .ok (.invokevirtual 109, 3) := by decide +kernel
theorem dX5_faultOf_112 : decode cX5_faultOf 112 = .ok (.iload_n 3, 1) := by decide +kernel
theorem dX5_faultOf_113 : decode cX5_faultOf 113 = .ok (.ireturn, 1) := by decide +kernel
theorem dX5_faultOfGoing_0 : decode cX5_faultOfGoing 0 = .ok (.iload_n 1, 1) := by decide +kernel
theorem dX5_faultOfGoing_1 : decode cX5_faultOfGoing 1 = .ok (.bipush 6, 2) := by decide +kernel
theorem dX5_faultOfGoing_3 : decode cX5_faultOfGoing 3 = .ok (.ishr, 1) := by decide +kernel
theorem dX5_faultOfGoing_4 : decode cX5_faultOfGoing 4 = .ok (.bipush 63, 2) := by decide +kernel
theorem dX5_faultOfGoing_6 : decode cX5_faultOfGoing 6 = .ok (.iand, 1) := by decide +kernel
theorem dX5_faultOfGoing_7 : decode cX5_faultOfGoing 7 = .ok (.istore_n 2, 1) := by decide +kernel
theorem dX5_faultOfGoing_8 : decode cX5_faultOfGoing 8 = .ok (.iload_n 1, 1) := by decide +kernel
theorem dX5_faultOfGoing_9 : decode cX5_faultOfGoing 9 = .ok (.bipush 63, 2) := by decide +kernel
theorem dX5_faultOfGoing_11 : decode cX5_faultOfGoing 11 = .ok (.iand, 1) := by decide +kernel
theorem dX5_faultOfGoing_12 : decode cX5_faultOfGoing 12 = .ok (.istore_n 3, 1) := by decide +kernel
theorem dX5_faultOfGoing_13 : decode cX5_faultOfGoing 13 = .ok (.aload_n 0, 1) := by decide +kernel
theorem dX5_faultOfGoing_14 : decode cX5_faultOfGoing 14 = .ok (.getfield 13, 3) := by decide +kernel
theorem dX5_faultOfGoing_17 : decode cX5_faultOfGoing 17 = .ok (.getfield 35, 3) := by decide +kernel
theorem dX5_faultOfGoing_20 : decode cX5_faultOfGoing 20 = .ok (.iload_n 2, 1) := by decide +kernel
theorem dX5_faultOfGoing_21 : decode cX5_faultOfGoing 21 = .ok (.iaload, 1) := by decide +kernel
theorem dX5_faultOfGoing_22 : decode cX5_faultOfGoing 22 = .ok (.istore 4, 2) := by decide +kernel
theorem dX5_faultOfGoing_24 : decode cX5_faultOfGoing 24 = .ok (.aload_n 0, 1) := by decide +kernel
theorem dX5_faultOfGoing_25 : decode cX5_faultOfGoing 25 = .ok (.getfield 13, 3) := by decide +kernel
theorem dX5_faultOfGoing_28 : decode cX5_faultOfGoing 28 = .ok (.getfield 35, 3) := by decide +kernel
theorem dX5_faultOfGoing_31 : decode cX5_faultOfGoing 31 = .ok (.iload_n 3, 1) := by decide +kernel
theorem dX5_faultOfGoing_32 : decode cX5_faultOfGoing 32 = .ok (.iaload, 1) := by decide +kernel
theorem dX5_faultOfGoing_33 : decode cX5_faultOfGoing 33 = .ok (.istore 5, 2) := by decide +kernel
theorem dX5_faultOfGoing_35 : decode cX5_faultOfGoing 35 = .ok (.iload 4, 2) := by decide +kernel
theorem dX5_faultOfGoing_37 : decode cX5_faultOfGoing 37 = .ok (.invokestatic 38, 3) := by decide +kernel
theorem dX5_faultOfGoing_40 : decode cX5_faultOfGoing 40 = .ok (.aload_n 0, 1) := by decide +kernel
theorem dX5_faultOfGoing_41 : decode cX5_faultOfGoing 41 = .ok (.getfield 13, 3) := by decide +kernel
theorem dX5_faultOfGoing_44 : decode cX5_faultOfGoing 44 = .ok (.getfield 30, 3) := by decide +kernel
theorem dX5_faultOfGoing_47 : decode cX5_faultOfGoing 47 = .ok (.if_icmp .eq 5, 3) := by decide +kernel
theorem dX5_faultOfGoing_50 : decode cX5_faultOfGoing 50 = .ok (.iconst 1, 1) := by decide +kernel
theorem dX5_faultOfGoing_51 : decode cX5_faultOfGoing 51 = .ok (.ireturn, 1) := by decide +kernel
theorem dX5_faultOfGoing_52 : decode cX5_faultOfGoing 52 = .ok (.aload_n 0, 1) := by decide +kernel
theorem dX5_faultOfGoing_53 : decode cX5_faultOfGoing 53 = .ok (.iload_n 2, 1) := by decide +kernel
theorem dX5_faultOfGoing_54 : decode cX5_faultOfGoing 54 = .ok (.iload_n 3, 1) := by decide +kernel
theorem dX5_faultOfGoing_55 : decode cX5_faultOfGoing 55 = .ok (.invokevirtual 124, 3) := by decide +kernel
theorem dX5_faultOfGoing_58 : decode cX5_faultOfGoing 58 = .ok (.ifCond .ne 5, 3) := by decide +kernel
theorem dX5_faultOfGoing_61 : decode cX5_faultOfGoing 61 = .ok (.iconst 2, 1) := by decide +kernel
theorem dX5_faultOfGoing_62 : decode cX5_faultOfGoing 62 = .ok (.ireturn, 1) := by decide +kernel
theorem dX5_faultOfGoing_63 : decode cX5_faultOfGoing 63 = .ok (.iload 5, 2) := by decide +kernel
theorem dX5_faultOfGoing_65 : decode cX5_faultOfGoing 65 = .ok (.invokestatic 38, 3) := by decide +kernel
theorem dX5_faultOfGoing_68 : decode cX5_faultOfGoing 68 = .ok (.aload_n 0, 1) := by decide +kernel
theorem dX5_faultOfGoing_69 : decode cX5_faultOfGoing 69 = .ok (.getfield 13, 3) := by decide +kernel
theorem dX5_faultOfGoing_72 : decode cX5_faultOfGoing 72 = .ok (.getfield 30, 3) := by decide +kernel
theorem dX5_faultOfGoing_75 : decode cX5_faultOfGoing 75 = .ok (.if_icmp .ne 5, 3) := by decide +kernel
theorem dX5_faultOfGoing_78 : decode cX5_faultOfGoing 78 = .ok (.iconst 3, 1) := by decide +kernel
theorem dX5_faultOfGoing_79 : decode cX5_faultOfGoing 79 = .ok (.ireturn, 1) := by decide +kernel
theorem dX5_faultOfGoing_80 : decode cX5_faultOfGoing 80 = .ok (.iload_n 1, 1) := by decide +kernel
theorem dX5_faultOfGoing_81 : decode cX5_faultOfGoing 81 = .ok (.invokestatic 127, 3) := by decide +kernel
theorem dX5_faultOfGoing_84 : decode cX5_faultOfGoing 84 = .ok (.ifCond .eq 23, 3) := by decide +kernel
theorem dX5_faultOfGoing_87 : decode cX5_faultOfGoing 87 = .ok (.aload_n 0, 1) := by decide +kernel
theorem dX5_faultOfGoing_88 : decode cX5_faultOfGoing 88 = .ok (.getfield 9, 3) := by decide +kernel
theorem dX5_faultOfGoing_91 : decode cX5_faultOfGoing 91 = .ok (.iload 4, 2) := by decide +kernel
theorem dX5_faultOfGoing_93 : decode cX5_faultOfGoing 93 = .ok (.iload_n 2, 1) := by decide +kernel
theorem dX5_faultOfGoing_94 : decode cX5_faultOfGoing 94 = .ok (.iload_n 3, 1) := by decide +kernel
theorem dX5_faultOfGoing_95 : decode cX5_faultOfGoing 95 = .ok (.invokevirtual 69, 3) := by decide +kernel
theorem dX5_faultOfGoing_98 : decode cX5_faultOfGoing 98 = .ok (.ifCond .eq 7, 3) := by decide +kernel
theorem dX5_faultOfGoing_101 : decode cX5_faultOfGoing 101 = .ok (.iconst 0, 1) := by decide +kernel
theorem dX5_faultOfGoing_102 : decode cX5_faultOfGoing 102 = .ok (.goto 4, 3) := by decide +kernel
theorem dX5_faultOfGoing_105 : decode cX5_faultOfGoing 105 = .ok (.iconst 4, 1) := by decide +kernel
theorem dX5_faultOfGoing_106 : decode cX5_faultOfGoing 106 = .ok (.ireturn, 1) := by decide +kernel
theorem dX5_faultOfGoing_107 : decode cX5_faultOfGoing 107 = .ok (.iload 4, 2) := by decide +kernel
theorem dX5_faultOfGoing_109 : decode cX5_faultOfGoing 109 = .ok (.invokestatic 58, 3) := by decide +kernel
theorem dX5_faultOfGoing_112 : decode cX5_faultOfGoing 112 = .ok (.ifCond .ne 16, 3) := by decide +kernel
theorem dX5_faultOfGoing_115 : decode cX5_faultOfGoing 115 = .ok (.aload_n 0, 1) := by decide +kernel
theorem dX5_faultOfGoing_116 : decode cX5_faultOfGoing 116 = .ok (.getfield 9, 3) := by decide +kernel
theorem dX5_faultOfGoing_119 : decode cX5_faultOfGoing 119 = .ok (.iload 4, 2) := by decide +kernel
theorem dX5_faultOfGoing_121 : decode cX5_faultOfGoing 121 = .ok (.iload_n 3, 1) := by decide +kernel
theorem dX5_faultOfGoing_122 : decode cX5_faultOfGoing 122 = .ok (.invokevirtual 65, 3) := by decide +kernel
theorem dX5_faultOfGoing_125 : decode cX5_faultOfGoing 125 = .ok (.ifCond .eq 7, 3) := by decide +kernel
theorem dX5_faultOfGoing_128 : decode cX5_faultOfGoing 128 = .ok (.iconst 0, 1) := by decide +kernel
theorem dX5_faultOfGoing_129 : decode cX5_faultOfGoing 129 = .ok (.goto 4, 3) := by decide +kernel
theorem dX5_faultOfGoing_132 : decode cX5_faultOfGoing 132 = .ok (.iconst 5, 1) := by decide +kernel
theorem dX5_faultOfGoing_133 : decode cX5_faultOfGoing 133 = .ok (.ireturn, 1) := by decide +kernel
theorem dX5_reaches_0 : decode cX5_reaches 0 = .ok (.aload_n 0, 1) := by decide +kernel
theorem dX5_reaches_1 : decode cX5_reaches 1 = .ok (.getfield 13, 3) := by decide +kernel
theorem dX5_reaches_4 : decode cX5_reaches 4 = .ok (.iload_n 1, 1) := by decide +kernel
theorem dX5_reaches_5 : decode cX5_reaches 5 = .ok (.invokevirtual 44, 3) := by decide +kernel
theorem dX5_reaches_8 : decode cX5_reaches 8 = .ok (.istore_n 3, 1) := by decide +kernel
theorem dX5_reaches_9 : decode cX5_reaches 9 = .ok (.iconst 0, 1) := by decide +kernel
theorem dX5_reaches_10 : decode cX5_reaches 10 = .ok (.istore 4, 2) := by decide +kernel
theorem dX5_reaches_12 : decode cX5_reaches 12 = .ok (.iload 4, 2) := by decide +kernel
theorem dX5_reaches_14 : decode cX5_reaches 14 = .ok (.iload_n 3, 1) := by decide +kernel
theorem dX5_reaches_15 : decode cX5_reaches 15 = .ok (.if_icmp .ge 25, 3) := by decide +kernel
theorem dX5_reaches_18 : decode cX5_reaches 18 = .ok (.aload_n 0, 1) := by decide +kernel
theorem dX5_reaches_19 : decode cX5_reaches 19 = .ok (.getfield 13, 3) := by decide +kernel
theorem dX5_reaches_22 : decode cX5_reaches 22 = .ok (.getfield 62, 3) := by decide +kernel
theorem dX5_reaches_25 : decode cX5_reaches 25 = .ok (.iload 4, 2) := by decide +kernel
theorem dX5_reaches_27 : decode cX5_reaches 27 = .ok (.iaload, 1) := by decide +kernel
theorem dX5_reaches_28 : decode cX5_reaches 28 = .ok (.iload_n 2, 1) := by decide +kernel
theorem dX5_reaches_29 : decode cX5_reaches 29 = .ok (.if_icmp .ne 5, 3) := by decide +kernel
theorem dX5_reaches_32 : decode cX5_reaches 32 = .ok (.iconst 1, 1) := by decide +kernel
theorem dX5_reaches_33 : decode cX5_reaches 33 = .ok (.ireturn, 1) := by decide +kernel
theorem dX5_reaches_34 : decode cX5_reaches 34 = .ok (.iinc 4 1, 3) := by decide +kernel
theorem dX5_reaches_37 : decode cX5_reaches 37 = .ok (.goto (-25), 3) := by decide +kernel
theorem dX5_reaches_40 : decode cX5_reaches 40 = .ok (.iconst 0, 1) := by decide +kernel
theorem dX5_reaches_41 : decode cX5_reaches 41 = .ok (.ireturn, 1) := by decide +kernel
theorem dX5_faultOfSetting_0 : decode cX5_faultOfSetting 0 = .ok (.aload_n 0, 1) := by decide +kernel
theorem dX5_faultOfSetting_1 : decode cX5_faultOfSetting 1 = .ok (.getfield 13, 3) := by decide +kernel
theorem dX5_faultOfSetting_4 : decode cX5_faultOfSetting 4 = .ok (.getfield 30, 3) := by decide +kernel
theorem dX5_faultOfSetting_7 : decode cX5_faultOfSetting 7 = .ok (.iload_n 1, 1) := by decide +kernel
theorem dX5_faultOfSetting_8 : decode cX5_faultOfSetting 8 = .ok (.invokestatic 75, 3) := by decide +kernel
theorem dX5_faultOfSetting_11 : decode cX5_faultOfSetting 11 = .ok (.istore_n 3, 1) := by decide +kernel
theorem dX5_faultOfSetting_12 : decode cX5_faultOfSetting 12 = .ok (.aload_n 0, 1) := by decide +kernel
theorem dX5_faultOfSetting_13 : decode cX5_faultOfSetting 13 = .ok (.getfield 13, 3) := by decide +kernel
theorem dX5_faultOfSetting_16 : decode cX5_faultOfSetting 16 = .ok (.getfield 51, 3) := by decide +kernel
theorem dX5_faultOfSetting_19 : decode cX5_faultOfSetting 19 = .ok (.bipush 8, 2) := by decide +kernel
theorem dX5_faultOfSetting_21 : decode cX5_faultOfSetting 21 = .ok (.aload_n 0, 1) := by decide +kernel
theorem dX5_faultOfSetting_22 : decode cX5_faultOfSetting 22 = .ok (.getfield 13, 3) := by decide +kernel
theorem dX5_faultOfSetting_25 : decode cX5_faultOfSetting 25 = .ok (.getfield 30, 3) := by decide +kernel
theorem dX5_faultOfSetting_28 : decode cX5_faultOfSetting 28 = .ok (.imul, 1) := by decide +kernel
theorem dX5_faultOfSetting_29 : decode cX5_faultOfSetting 29 = .ok (.iload_n 1, 1) := by decide +kernel
theorem dX5_faultOfSetting_30 : decode cX5_faultOfSetting 30 = .ok (.iadd, 1) := by decide +kernel
theorem dX5_faultOfSetting_31 : decode cX5_faultOfSetting 31 = .ok (.iaload, 1) := by decide +kernel
theorem dX5_faultOfSetting_32 : decode cX5_faultOfSetting 32 = .ok (.ifCond .gt 5, 3) := by decide +kernel
theorem dX5_faultOfSetting_35 : decode cX5_faultOfSetting 35 = .ok (.iconst 1, 1) := by decide +kernel
theorem dX5_faultOfSetting_36 : decode cX5_faultOfSetting 36 = .ok (.ireturn, 1) := by decide +kernel
theorem dX5_faultOfSetting_37 : decode cX5_faultOfSetting 37 = .ok (.aload_n 0, 1) := by decide +kernel
theorem dX5_faultOfSetting_38 : decode cX5_faultOfSetting 38 = .ok (.getfield 13, 3) := by decide +kernel
theorem dX5_faultOfSetting_41 : decode cX5_faultOfSetting 41 = .ok (.getfield 35, 3) := by decide +kernel
theorem dX5_faultOfSetting_44 : decode cX5_faultOfSetting 44 = .ok (.iload_n 2, 1) := by decide +kernel
theorem dX5_faultOfSetting_45 : decode cX5_faultOfSetting 45 = .ok (.iaload, 1) := by decide +kernel
theorem dX5_faultOfSetting_46 : decode cX5_faultOfSetting 46 = .ok (.ifCond .eq 5, 3) := by decide +kernel
theorem dX5_faultOfSetting_49 : decode cX5_faultOfSetting 49 = .ok (.iconst 2, 1) := by decide +kernel
theorem dX5_faultOfSetting_50 : decode cX5_faultOfSetting 50 = .ok (.ireturn, 1) := by decide +kernel
theorem dX5_faultOfSetting_51 : decode cX5_faultOfSetting 51 = .ok (.aload_n 0, 1) := by decide +kernel
theorem dX5_faultOfSetting_52 : decode cX5_faultOfSetting 52 = .ok (.getfield 9, 3) := by decide +kernel
theorem dX5_faultOfSetting_55 : decode cX5_faultOfSetting 55 = .ok (.iload_n 3, 1) := by decide +kernel
theorem dX5_faultOfSetting_56 : decode cX5_faultOfSetting 56 = .ok (.iload_n 2, 1) := by decide +kernel
theorem dX5_faultOfSetting_57 : decode cX5_faultOfSetting 57 = .ok (.invokevirtual 65, 3) := by decide +kernel
theorem dX5_faultOfSetting_60 : decode cX5_faultOfSetting 60 = .ok (.ifCond .ne 5, 3) := by decide +kernel
theorem dX5_faultOfSetting_63 : decode cX5_faultOfSetting 63 = .ok (.iconst 3, 1) := by decide +kernel
theorem dX5_faultOfSetting_64 : decode cX5_faultOfSetting 64 = .ok (.ireturn, 1) := by decide +kernel
theorem dX5_faultOfSetting_65 : decode cX5_faultOfSetting 65 = .ok (.aload_n 0, 1) := by decide +kernel
theorem dX5_faultOfSetting_66 : decode cX5_faultOfSetting 66 = .ok (.iload_n 1, 1) := by decide +kernel
theorem dX5_faultOfSetting_67 : decode cX5_faultOfSetting 67 = .ok (.iload_n 3, 1) := by decide +kernel
theorem dX5_faultOfSetting_68 : decode cX5_faultOfSetting 68 = .ok (.invokevirtual 78, 3) := by decide +kernel
theorem dX5_faultOfSetting_71 : decode cX5_faultOfSetting 71 = .ok (.iload_n 2, 1) := by decide +kernel
theorem dX5_faultOfSetting_72 : decode cX5_faultOfSetting 72 = .ok (.aload_n 0, 1) := by decide +kernel
theorem dX5_faultOfSetting_73 : decode cX5_faultOfSetting 73 = .ok (.getfield 9, 3) := by decide +kernel
theorem dX5_faultOfSetting_76 : decode cX5_faultOfSetting 76 = .ok (.getfield 84, 3) := by decide +kernel
theorem dX5_faultOfSetting_79 : decode cX5_faultOfSetting 79 = .ok (.irem, 1) := by decide +kernel
theorem dX5_faultOfSetting_80 : decode cX5_faultOfSetting 80 = .ok (.ishr, 1) := by decide +kernel
theorem dX5_faultOfSetting_81 : decode cX5_faultOfSetting 81 = .ok (.iconst 1, 1) := by decide +kernel
theorem dX5_faultOfSetting_82 : decode cX5_faultOfSetting 82 = .ok (.iand, 1) := by decide +kernel
theorem dX5_faultOfSetting_83 : decode cX5_faultOfSetting 83 = .ok (.ifCond .eq 7, 3) := by decide +kernel
theorem dX5_faultOfSetting_86 : decode cX5_faultOfSetting 86 = .ok (.iconst 4, 1) := by decide +kernel
theorem dX5_faultOfSetting_87 : decode cX5_faultOfSetting 87 = .ok (.goto 4, 3) := by decide +kernel
theorem dX5_faultOfSetting_90 : decode cX5_faultOfSetting 90 = .ok (.iconst 0, 1) := by decide +kernel
theorem dX5_faultOfSetting_91 : decode cX5_faultOfSetting 91 = .ok (.ireturn, 1) := by decide +kernel
theorem dX5_countRows_0 : decode cX5_countRows 0 = .ok (.aload_n 0, 1) := by decide +kernel
theorem dX5_countRows_1 : decode cX5_countRows 1 = .ok (.iload_n 2, 1) := by decide +kernel
theorem dX5_countRows_2 : decode cX5_countRows 2 = .ok (.invokevirtual 130, 3) := by decide +kernel
theorem dX5_countRows_5 : decode cX5_countRows 5 = .ok (.istore 4, 2) := by decide +kernel
theorem dX5_countRows_7 : decode cX5_countRows 7 = .ok (.iload_n 1, 1) := by decide +kernel
theorem dX5_countRows_8 : decode cX5_countRows 8 = .ok (.iconst 1, 1) := by decide +kernel
theorem dX5_countRows_9 : decode cX5_countRows 9 = .ok (.if_icmp .le 11, 3) := by decide +kernel
theorem dX5_countRows_12 : decode cX5_countRows 12 = .ok (.iload_n 2, 1) := by decide +kernel
theorem dX5_countRows_13 : decode cX5_countRows 13 = .ok (.iconst 1, 1) := by decide +kernel
theorem dX5_countRows_14 : decode cX5_countRows 14 = .ok (.iadd, 1) := by decide +kernel
theorem dX5_countRows_15 : decode cX5_countRows 15 = .ok (.bipush 10, 2) := by decide +kernel
theorem dX5_countRows_17 : decode cX5_countRows 17 = .ok (.if_icmp .lt 6, 3) := by decide +kernel
theorem dX5_countRows_20 : decode cX5_countRows 20 = .ok (.iload 4, 2) := by decide +kernel
theorem dX5_countRows_22 : decode cX5_countRows 22 = .ok (.ireturn, 1) := by decide +kernel
theorem dX5_countRows_23 : decode cX5_countRows 23 = .ok (.iconst 0, 1) := by decide +kernel
theorem dX5_countRows_24 : decode cX5_countRows 24 = .ok (.istore 5, 2) := by decide +kernel
theorem dX5_countRows_26 : decode cX5_countRows 26 = .ok (.iconst 0, 1) := by decide +kernel
theorem dX5_countRows_27 : decode cX5_countRows 27 = .ok (.istore 6, 2) := by decide +kernel
theorem dX5_countRows_29 : decode cX5_countRows 29 = .ok (.iload 6, 2) := by decide +kernel
theorem dX5_countRows_31 : decode cX5_countRows 31 = .ok (.iload 4, 2) := by decide +kernel
theorem dX5_countRows_33 : decode cX5_countRows 33 = .ok (.if_icmp .ge 61, 3) := by decide +kernel
theorem dX5_countRows_36 : decode cX5_countRows 36 = .ok (.iload 5, 2) := by decide +kernel
theorem dX5_countRows_38 : decode cX5_countRows 38 = .ok (.iload_n 3, 1) := by decide +kernel
theorem dX5_countRows_39 : decode cX5_countRows 39 = .ok (.if_icmp .gt 55, 3) := by decide +kernel
theorem dX5_countRows_42 : decode cX5_countRows 42 = .ok (.aload_n 0, 1) := by decide +kernel
theorem dX5_countRows_43 : decode cX5_countRows 43 = .ok (.iload_n 2, 1) := by decide +kernel
theorem dX5_countRows_44 : decode cX5_countRows 44 = .ok (.iload 6, 2) := by decide +kernel
theorem dX5_countRows_46 : decode cX5_countRows 46 = .ok (.invokevirtual 133, 3) := by decide +kernel
theorem dX5_countRows_49 : decode cX5_countRows 49 = .ok (.istore 7, 2) := by decide +kernel
theorem dX5_countRows_51 : decode cX5_countRows 51 = .ok (.aload_n 0, 1) := by decide +kernel
theorem dX5_countRows_52 : decode cX5_countRows 52 = .ok (.getfield 13, 3) := by decide +kernel
theorem dX5_countRows_55 : decode cX5_countRows 55 = .ok (.iload 7, 2) := by decide +kernel
theorem dX5_countRows_57 : decode cX5_countRows 57 = .ok (.invokevirtual 102, 3) := by decide +kernel
theorem dX5_countRows_60 : decode cX5_countRows 60 = .ok (.iload 5, 2) := by decide +kernel
theorem dX5_countRows_62 : decode cX5_countRows 62 = .ok (.aload_n 0, 1) := by decide +kernel
theorem dX5_countRows_63 : decode cX5_countRows 63 = .ok (.iload_n 1, 1) := by decide +kernel
theorem dX5_countRows_64 : decode cX5_countRows 64 = .ok (.iconst 1, 1) := by decide +kernel
theorem dX5_countRows_65 : decode cX5_countRows 65 = .ok (.isub, 1) := by decide +kernel
theorem dX5_countRows_66 : decode cX5_countRows 66 = .ok (.iload_n 2, 1) := by decide +kernel
theorem dX5_countRows_67 : decode cX5_countRows 67 = .ok (.iconst 1, 1) := by decide +kernel
theorem dX5_countRows_68 : decode cX5_countRows 68 = .ok (.iadd, 1) := by decide +kernel
theorem dX5_countRows_69 : decode cX5_countRows 69 = .ok (.iload_n 3, 1) := by decide +kernel
theorem dX5_countRows_70 : decode cX5_countRows 70 = .ok (.iload 5, 2) := by decide +kernel
theorem dX5_countRows_72 : decode cX5_countRows 72 = .ok (.isub, 1) := by decide +kernel
theorem dX5_countRows_73 : decode cX5_countRows 73 = .ok (.invokevirtual 136, 3) := by decide +kernel
theorem dX5_countRows_76 : decode cX5_countRows 76 = .ok (.iadd, 1) := by decide +kernel
theorem dX5_countRows_77 : decode cX5_countRows 77 = .ok (.istore 5, 2) := by decide +kernel
theorem dX5_countRows_79 : decode cX5_countRows 79 = .ok (.aload_n 0, 1) := by decide +kernel
theorem dX5_countRows_80 : decode cX5_countRows 80 = .ok (.getfield 13, 3) := by decide +kernel
theorem dX5_countRows_83 : decode cX5_countRows 83 = .ok (.iload 7, 2) := by decide +kernel
theorem dX5_countRows_85 : decode cX5_countRows 85 = .ok (.invokevirtual 109, 3) := by decide +kernel
theorem dX5_countRows_88 : decode cX5_countRows 88 = .ok (.iinc 6 1, 3) := by decide +kernel
theorem dX5_countRows_91 : decode cX5_countRows 91 = .ok (.goto (-62), 3) := by decide +kernel
theorem dX5_countRows_94 : decode cX5_countRows 94 = .ok (.iload 5, 2) := by decide +kernel
theorem dX5_countRows_96 : decode cX5_countRows 96 = .ok (.ireturn, 1) := by decide +kernel
theorem dX6_init_0 : decode cX6_init 0 = .ok (.aload_n 0, 1) := by decide +kernel
theorem dX6_init_1 : decode cX6_init 1 = .ok (.invokespecial 3, 3) := by decide +kernel
theorem dX6_init_4 : decode cX6_init 4 = .ok (.aload_n 0, 1) := by decide +kernel
theorem dX6_init_5 : decode cX6_init 5 = .ok (.bipush 16, 2) := by decide +kernel
theorem dX6_init_7 : decode cX6_init 7 = .ok (.newarray .int, 2) := by decide +kernel
theorem dX6_init_9 : decode cX6_init 9 = .ok (.putfield 9, 3) := by decide +kernel
theorem dX6_init_12 : decode cX6_init 12 = .ok (.aload_n 0, 1) := by decide +kernel
theorem dX6_init_13 : decode cX6_init 13 = .ok (.iconst 2, 1) := by decide +kernel
theorem dX6_init_14 : decode cX6_init 14 = .ok (.newarray .int, 2) := by decide +kernel
theorem dX6_init_16 : decode cX6_init 16 = .ok (.putfield 15, 3) := by decide +kernel
theorem dX6_init_19 : decode cX6_init 19 = .ok (.aload_n 0, 1) := by decide +kernel
theorem dX6_init_20 : decode cX6_init 20 = .ok (.aload_n 1, 1) := by decide +kernel
theorem dX6_init_21 : decode cX6_init 21 = .ok (.putfield 18, 3) := by decide +kernel
theorem dX6_init_24 : decode cX6_init 24 = .ok (.aload_n 0, 1) := by decide +kernel
theorem dX6_init_25 : decode cX6_init 25 = .ok (.aload_n 1, 1) := by decide +kernel
theorem dX6_init_26 : decode cX6_init 26 = .ok (.getfield 22, 3) := by decide +kernel
theorem dX6_init_29 : decode cX6_init 29 = .ok (.putfield 28, 3) := by decide +kernel
theorem dX6_init_32 : decode cX6_init 32 = .ok (.aload_n 0, 1) := by decide +kernel
theorem dX6_init_33 : decode cX6_init 33 = .ok (.aload_n 1, 1) := by decide +kernel
theorem dX6_init_34 : decode cX6_init 34 = .ok (.getfield 29, 3) := by decide +kernel
theorem dX6_init_37 : decode cX6_init 37 = .ok (.putfield 32, 3) := by decide +kernel
theorem dX6_init_40 : decode cX6_init 40 = .ok (.aload_n 0, 1) := by decide +kernel
theorem dX6_init_41 : decode cX6_init 41 = .ok (.aload_n 0, 1) := by decide +kernel
theorem dX6_init_42 : decode cX6_init 42 = .ok (.getfield 32, 3) := by decide +kernel
theorem dX6_init_45 : decode cX6_init 45 = .ok (.newarray .int, 2) := by decide +kernel
theorem dX6_init_47 : decode cX6_init 47 = .ok (.putfield 33, 3) := by decide +kernel
theorem dX6_init_50 : decode cX6_init 50 = .ok (.aload_n 0, 1) := by decide +kernel
theorem dX6_init_51 : decode cX6_init 51 = .ok (.aload_n 0, 1) := by decide +kernel
theorem dX6_init_52 : decode cX6_init 52 = .ok (.getfield 32, 3) := by decide +kernel
theorem dX6_init_55 : decode cX6_init 55 = .ok (.newarray .int, 2) := by decide +kernel
theorem dX6_init_57 : decode cX6_init 57 = .ok (.putfield 36, 3) := by decide +kernel
theorem dX6_init_60 : decode cX6_init 60 = .ok (.return_, 1) := by decide +kernel
theorem dX6_load_0 : decode cX6_load 0 = .ok (.iconst 0, 1) := by decide +kernel
theorem dX6_load_1 : decode cX6_load 1 = .ok (.istore_n 2, 1) := by decide +kernel
theorem dX6_load_2 : decode cX6_load 2 = .ok (.iconst 0, 1) := by decide +kernel
theorem dX6_load_3 : decode cX6_load 3 = .ok (.istore_n 3, 1) := by decide +kernel
theorem dX6_load_4 : decode cX6_load 4 = .ok (.iload_n 3, 1) := by decide +kernel
theorem dX6_load_5 : decode cX6_load 5 = .ok (.aload_n 0, 1) := by decide +kernel
theorem dX6_load_6 : decode cX6_load 6 = .ok (.getfield 32, 3) := by decide +kernel
theorem dX6_load_9 : decode cX6_load 9 = .ok (.if_icmp .ge 82, 3) := by decide +kernel
theorem dX6_load_12 : decode cX6_load 12 = .ok (.aload_n 1, 1) := by decide +kernel
theorem dX6_load_13 : decode cX6_load 13 = .ok (.iload_n 3, 1) := by decide +kernel
theorem dX6_load_14 : decode cX6_load 14 = .ok (.aload_n 0, 1) := by decide +kernel
theorem dX6_load_15 : decode cX6_load 15 = .ok (.getfield 28, 3) := by decide +kernel
theorem dX6_load_18 : decode cX6_load 18 = .ok (.idiv, 1) := by decide +kernel
theorem dX6_load_19 : decode cX6_load 19 = .ok (.iload_n 3, 1) := by decide +kernel
theorem dX6_load_20 : decode cX6_load 20 = .ok (.aload_n 0, 1) := by decide +kernel
theorem dX6_load_21 : decode cX6_load 21 = .ok (.getfield 28, 3) := by decide +kernel
theorem dX6_load_24 : decode cX6_load 24 = .ok (.irem, 1) := by decide +kernel
theorem dX6_load_25 : decode cX6_load 25 = .ok (.invokevirtual 39, 3) := by decide +kernel
theorem dX6_load_28 : decode cX6_load 28 = .ok (.istore 4, 2) := by decide +kernel
theorem dX6_load_30 : decode cX6_load 30 = .ok (.iload 4, 2) := by decide +kernel
theorem dX6_load_32 : decode cX6_load 32 = .ok (.ifCond .lt 10, 3) := by decide +kernel
theorem dX6_load_35 : decode cX6_load 35 = .ok (.iload 4, 2) := by decide +kernel
theorem dX6_load_37 : decode cX6_load 37 = .ok (.bipush 32, 2) := by decide +kernel
theorem dX6_load_39 : decode cX6_load 39 = .ok (.if_icmp .le 5, 3) := by decide +kernel
theorem dX6_load_42 : decode cX6_load 42 = .ok (.iconst (-1), 1) := by decide +kernel
theorem dX6_load_43 : decode cX6_load 43 = .ok (.ireturn, 1) := by decide +kernel
theorem dX6_load_44 : decode cX6_load 44 = .ok (.iload 4, 2) := by decide +kernel
theorem dX6_load_46 : decode cX6_load 46 = .ok (.invokestatic 45, 3) := by decide +kernel
theorem dX6_load_49 : decode cX6_load 49 = .ok (.ifCond .eq 20, 3) := by decide +kernel
theorem dX6_load_52 : decode cX6_load 52 = .ok (.aload_n 0, 1) := by decide +kernel
theorem dX6_load_53 : decode cX6_load 53 = .ok (.getfield 18, 3) := by decide +kernel
theorem dX6_load_56 : decode cX6_load 56 = .ok (.iload 4, 2) := by decide +kernel
theorem dX6_load_58 : decode cX6_load 58 = .ok (.invokestatic 51, 3) := by decide +kernel
theorem dX6_load_61 : decode cX6_load 61 = .ok (.invokevirtual 55, 3) := by decide +kernel
theorem dX6_load_64 : decode cX6_load 64 = .ok (.ifCond .ne 5, 3) := by decide +kernel
theorem dX6_load_67 : decode cX6_load 67 = .ok (.iconst (-1), 1) := by decide +kernel
theorem dX6_load_68 : decode cX6_load 68 = .ok (.ireturn, 1) := by decide +kernel
theorem dX6_load_69 : decode cX6_load 69 = .ok (.aload_n 0, 1) := by decide +kernel
theorem dX6_load_70 : decode cX6_load 70 = .ok (.getfield 33, 3) := by decide +kernel
theorem dX6_load_73 : decode cX6_load 73 = .ok (.iload_n 3, 1) := by decide +kernel
theorem dX6_load_74 : decode cX6_load 74 = .ok (.iload 4, 2) := by decide +kernel
theorem dX6_load_76 : decode cX6_load 76 = .ok (.iastore, 1) := by decide +kernel
theorem dX6_load_77 : decode cX6_load 77 = .ok (.iload 4, 2) := by decide +kernel
theorem dX6_load_79 : decode cX6_load 79 = .ok (.ifCond .eq 6, 3) := by decide +kernel
theorem dX6_load_82 : decode cX6_load 82 = .ok (.iinc 2 1, 3) := by decide +kernel
theorem dX6_load_85 : decode cX6_load 85 = .ok (.iinc 3 1, 3) := by decide +kernel
theorem dX6_load_88 : decode cX6_load 88 = .ok (.goto (-84), 3) := by decide +kernel
theorem dX6_load_91 : decode cX6_load 91 = .ok (.iload_n 2, 1) := by decide +kernel
theorem dX6_load_92 : decode cX6_load 92 = .ok (.ireturn, 1) := by decide +kernel
theorem dX6_findKings_0 : decode cX6_findKings 0 = .ok (.aload_n 0, 1) := by decide +kernel
theorem dX6_findKings_1 : decode cX6_findKings 1 = .ok (.getfield 15, 3) := by decide +kernel
theorem dX6_findKings_4 : decode cX6_findKings 4 = .ok (.iconst 0, 1) := by decide +kernel
theorem dX6_findKings_5 : decode cX6_findKings 5 = .ok (.iconst (-1), 1) := by decide +kernel
theorem dX6_findKings_6 : decode cX6_findKings 6 = .ok (.iastore, 1) := by decide +kernel
theorem dX6_findKings_7 : decode cX6_findKings 7 = .ok (.aload_n 0, 1) := by decide +kernel
theorem dX6_findKings_8 : decode cX6_findKings 8 = .ok (.getfield 15, 3) := by decide +kernel
theorem dX6_findKings_11 : decode cX6_findKings 11 = .ok (.iconst 1, 1) := by decide +kernel
theorem dX6_findKings_12 : decode cX6_findKings 12 = .ok (.iconst (-1), 1) := by decide +kernel
theorem dX6_findKings_13 : decode cX6_findKings 13 = .ok (.iastore, 1) := by decide +kernel
theorem dX6_findKings_14 : decode cX6_findKings 14 = .ok (.iconst 0, 1) := by decide +kernel
theorem dX6_findKings_15 : decode cX6_findKings 15 = .ok (.istore_n 1, 1) := by decide +kernel
theorem dX6_findKings_16 : decode cX6_findKings 16 = .ok (.iload_n 1, 1) := by decide +kernel
theorem dX6_findKings_17 : decode cX6_findKings 17 = .ok (.aload_n 0, 1) := by decide +kernel
theorem dX6_findKings_18 : decode cX6_findKings 18 = .ok (.getfield 32, 3) := by decide +kernel
theorem dX6_findKings_21 : decode cX6_findKings 21 = .ok (.if_icmp .ge 62, 3) := by decide +kernel
theorem dX6_findKings_24 : decode cX6_findKings 24 = .ok (.aload_n 0, 1) := by decide +kernel
theorem dX6_findKings_25 : decode cX6_findKings 25 = .ok (.getfield 33, 3) := by decide +kernel
theorem dX6_findKings_28 : decode cX6_findKings 28 = .ok (.iload_n 1, 1) := by decide +kernel
theorem dX6_findKings_29 : decode cX6_findKings 29 = .ok (.iaload, 1) := by decide +kernel
theorem dX6_findKings_30 : decode cX6_findKings 30 = .ok (.ifCond .eq 47, 3) := by decide +kernel
theorem dX6_findKings_33 : decode cX6_findKings 33 = .ok (.aload_n 0, 1) := by decide +kernel
theorem dX6_findKings_34 : decode cX6_findKings 34 = .ok (.getfield 33, 3) := by decide +kernel
theorem dX6_findKings_37 : decode cX6_findKings 37 = .ok (.iload_n 1, 1) := by decide +kernel
theorem dX6_findKings_38 : decode cX6_findKings 38 = .ok (.iaload, 1) := by decide +kernel
theorem dX6_findKings_39 : decode cX6_findKings 39 = .ok (.invokestatic 51, 3) := by decide +kernel
theorem dX6_findKings_42 : decode cX6_findKings 42 = .ok (.ifCond .eq 6, 3) := by decide +kernel
theorem dX6_findKings_45 : decode cX6_findKings 45 = .ok (.goto 32, 3) := by decide +kernel
theorem dX6_findKings_48 : decode cX6_findKings 48 = .ok (.aload_n 0, 1) := by decide +kernel
theorem dX6_findKings_49 : decode cX6_findKings 49 = .ok (.getfield 33, 3) := by decide +kernel
theorem dX6_findKings_52 : decode cX6_findKings 52 = .ok (.iload_n 1, 1) := by decide +kernel
theorem dX6_findKings_53 : decode cX6_findKings 53 = .ok (.iaload, 1) := by decide +kernel
theorem dX6_findKings_54 : decode cX6_findKings 54 = .ok (.invokestatic 58, 3) := by decide +kernel
theorem dX6_findKings_57 : decode cX6_findKings 57 = .ok (.istore_n 2, 1) := by decide +kernel
theorem dX6_findKings_58 : decode cX6_findKings 58 = .ok (.aload_n 0, 1) := by decide +kernel
theorem dX6_findKings_59 : decode cX6_findKings 59 = .ok (.getfield 15, 3) := by decide +kernel
theorem dX6_findKings_62 : decode cX6_findKings 62 = .ok (.iload_n 2, 1) := by decide +kernel
theorem dX6_findKings_63 : decode cX6_findKings 63 = .ok (.iaload, 1) := by decide +kernel
theorem dX6_findKings_64 : decode cX6_findKings 64 = .ok (.iconst (-1), 1) := by decide +kernel
theorem dX6_findKings_65 : decode cX6_findKings 65 = .ok (.if_icmp .eq 5, 3) := by decide +kernel
theorem dX6_findKings_68 : decode cX6_findKings 68 = .ok (.iconst 0, 1) := by decide +kernel
theorem dX6_findKings_69 : decode cX6_findKings 69 = .ok (.ireturn, 1) := by decide +kernel
theorem dX6_findKings_70 : decode cX6_findKings 70 = .ok (.aload_n 0, 1) := by decide +kernel
theorem dX6_findKings_71 : decode cX6_findKings 71 = .ok (.getfield 15, 3) := by decide +kernel
theorem dX6_findKings_74 : decode cX6_findKings 74 = .ok (.iload_n 2, 1) := by decide +kernel
theorem dX6_findKings_75 : decode cX6_findKings 75 = .ok (.iload_n 1, 1) := by decide +kernel
theorem dX6_findKings_76 : decode cX6_findKings 76 = .ok (.iastore, 1) := by decide +kernel
theorem dX6_findKings_77 : decode cX6_findKings 77 = .ok (.iinc 1 1, 3) := by decide +kernel
theorem dX6_findKings_80 : decode cX6_findKings 80 = .ok (.goto (-64), 3) := by decide +kernel
theorem dX6_findKings_83 : decode cX6_findKings 83 = .ok (.aload_n 0, 1) := by decide +kernel
theorem dX6_findKings_84 : decode cX6_findKings 84 = .ok (.getfield 15, 3) := by decide +kernel
theorem dX6_findKings_87 : decode cX6_findKings 87 = .ok (.iconst 0, 1) := by decide +kernel
theorem dX6_findKings_88 : decode cX6_findKings 88 = .ok (.iaload, 1) := by decide +kernel
theorem dX6_findKings_89 : decode cX6_findKings 89 = .ok (.iconst (-1), 1) := by decide +kernel
theorem dX6_findKings_90 : decode cX6_findKings 90 = .ok (.if_icmp .eq 17, 3) := by decide +kernel
theorem dX6_findKings_93 : decode cX6_findKings 93 = .ok (.aload_n 0, 1) := by decide +kernel
theorem dX6_findKings_94 : decode cX6_findKings 94 = .ok (.getfield 15, 3) := by decide +kernel
theorem dX6_findKings_97 : decode cX6_findKings 97 = .ok (.iconst 1, 1) := by decide +kernel
theorem dX6_findKings_98 : decode cX6_findKings 98 = .ok (.iaload, 1) := by decide +kernel
theorem dX6_findKings_99 : decode cX6_findKings 99 = .ok (.iconst (-1), 1) := by decide +kernel
theorem dX6_findKings_100 : decode cX6_findKings 100 = .ok (.if_icmp .eq 7, 3) := by decide +kernel
theorem dX6_findKings_103 : decode cX6_findKings 103 = .ok (.iconst 1, 1) := by decide +kernel
theorem dX6_findKings_104 : decode cX6_findKings 104 = .ok (.goto 4, 3) := by decide +kernel
theorem dX6_findKings_107 : decode cX6_findKings 107 = .ok (.iconst 0, 1) := by decide +kernel
theorem dX6_findKings_108 : decode cX6_findKings 108 = .ok (.ireturn, 1) := by decide +kernel
theorem dX6_withTaken_0 : decode cX6_withTaken 0 = .ok (.iload_n 1, 1) := by decide +kernel
theorem dX6_withTaken_1 : decode cX6_withTaken 1 = .ok (.aload_n 0, 1) := by decide +kernel
theorem dX6_withTaken_2 : decode cX6_withTaken 2 = .ok (.getfield 33, 3) := by decide +kernel
theorem dX6_withTaken_5 : decode cX6_withTaken 5 = .ok (.iload_n 1, 1) := by decide +kernel
theorem dX6_withTaken_6 : decode cX6_withTaken 6 = .ok (.invokestatic 61, 3) := by decide +kernel
theorem dX6_withTaken_9 : decode cX6_withTaken 9 = .ok (.iaload, 1) := by decide +kernel
theorem dX6_withTaken_10 : decode cX6_withTaken 10 = .ok (.bipush 16, 2) := by decide +kernel
theorem dX6_withTaken_12 : decode cX6_withTaken 12 = .ok (.ishl, 1) := by decide +kernel
theorem dX6_withTaken_13 : decode cX6_withTaken 13 = .ok (.ior, 1) := by decide +kernel
theorem dX6_withTaken_14 : decode cX6_withTaken 14 = .ok (.ireturn, 1) := by decide +kernel
theorem dX6_moverKind_0 : decode cX6_moverKind 0 = .ok (.iload_n 1, 1) := by decide +kernel
theorem dX6_moverKind_1 : decode cX6_moverKind 1 = .ok (.invokestatic 66, 3) := by decide +kernel
theorem dX6_moverKind_4 : decode cX6_moverKind 4 = .ok (.ifCond .eq 10, 3) := by decide +kernel
theorem dX6_moverKind_7 : decode cX6_moverKind 7 = .ok (.iload_n 1, 1) := by decide +kernel
theorem dX6_moverKind_8 : decode cX6_moverKind 8 = .ok (.invokestatic 69, 3) := by decide +kernel
theorem dX6_moverKind_11 : decode cX6_moverKind 11 = .ok (.goto 15, 3) := by decide +kernel
theorem dX6_moverKind_14 : decode cX6_moverKind 14 = .ok (.aload_n 0, 1) := by decide +kernel
theorem dX6_moverKind_15 : decode cX6_moverKind 15 = .ok (.getfield 33, 3) := by decide +kernel
theorem dX6_moverKind_18 : decode cX6_moverKind 18 = .ok (.iload_n 1, 1) := by decide +kernel
theorem dX6_moverKind_19 : decode cX6_moverKind 19 = .ok (.invokestatic 72, 3) := by decide +kernel
theorem dX6_moverKind_22 : decode cX6_moverKind 22 = .ok (.iaload, 1) := by decide +kernel
theorem dX6_moverKind_23 : decode cX6_moverKind 23 = .ok (.invokestatic 51, 3) := by decide +kernel
theorem dX6_moverKind_26 : decode cX6_moverKind 26 = .ok (.ireturn, 1) := by decide +kernel
theorem dX6_apply_0 : decode cX6_apply 0 = .ok (.iload_n 1, 1) := by decide +kernel
theorem dX6_apply_1 : decode cX6_apply 1 = .ok (.bipush 63, 2) := by decide +kernel
theorem dX6_apply_3 : decode cX6_apply 3 = .ok (.iand, 1) := by decide +kernel
theorem dX6_apply_4 : decode cX6_apply 4 = .ok (.istore_n 2, 1) := by decide +kernel
theorem dX6_apply_5 : decode cX6_apply 5 = .ok (.iload_n 1, 1) := by decide +kernel
theorem dX6_apply_6 : decode cX6_apply 6 = .ok (.bipush 6, 2) := by decide +kernel
theorem dX6_apply_8 : decode cX6_apply 8 = .ok (.ishr, 1) := by decide +kernel
theorem dX6_apply_9 : decode cX6_apply 9 = .ok (.bipush 63, 2) := by decide +kernel
theorem dX6_apply_11 : decode cX6_apply 11 = .ok (.iand, 1) := by decide +kernel
theorem dX6_apply_12 : decode cX6_apply 12 = .ok (.istore_n 3, 1) := by decide +kernel
theorem dX6_apply_13 : decode cX6_apply 13 = .ok (.iload_n 3, 1) := by decide +kernel
theorem dX6_apply_14 : decode cX6_apply 14 = .ok (.bipush 63, 2) := by decide +kernel
theorem dX6_apply_16 : decode cX6_apply 16 = .ok (.if_icmp .ne 49, 3) := by decide +kernel
theorem dX6_apply_19 : decode cX6_apply 19 = .ok (.iload_n 1, 1) := by decide +kernel
theorem dX6_apply_20 : decode cX6_apply 20 = .ok (.bipush 13, 2) := by decide +kernel
theorem dX6_apply_22 : decode cX6_apply 22 = .ok (.ishr, 1) := by decide +kernel
theorem dX6_apply_23 : decode cX6_apply 23 = .ok (.bipush 7, 2) := by decide +kernel
theorem dX6_apply_25 : decode cX6_apply 25 = .ok (.iand, 1) := by decide +kernel
theorem dX6_apply_26 : decode cX6_apply 26 = .ok (.istore 4, 2) := by decide +kernel
theorem dX6_apply_28 : decode cX6_apply 28 = .ok (.aload_n 0, 1) := by decide +kernel
theorem dX6_apply_29 : decode cX6_apply 29 = .ok (.getfield 33, 3) := by decide +kernel
theorem dX6_apply_32 : decode cX6_apply 32 = .ok (.iload_n 2, 1) := by decide +kernel
theorem dX6_apply_33 : decode cX6_apply 33 = .ok (.aload_n 0, 1) := by decide +kernel
theorem dX6_apply_34 : decode cX6_apply 34 = .ok (.getfield 75, 3) := by decide +kernel
theorem dX6_apply_37 : decode cX6_apply 37 = .ok (.iload 4, 2) := by decide +kernel
theorem dX6_apply_39 : decode cX6_apply 39 = .ok (.invokestatic 78, 3) := by decide +kernel
theorem dX6_apply_42 : decode cX6_apply 42 = .ok (.iastore, 1) := by decide +kernel
theorem dX6_apply_43 : decode cX6_apply 43 = .ok (.aload_n 0, 1) := by decide +kernel
theorem dX6_apply_44 : decode cX6_apply 44 = .ok (.getfield 9, 3) := by decide +kernel
theorem dX6_apply_47 : decode cX6_apply 47 = .ok (.bipush 8, 2) := by decide +kernel
theorem dX6_apply_49 : decode cX6_apply 49 = .ok (.aload_n 0, 1) := by decide +kernel
theorem dX6_apply_50 : decode cX6_apply 50 = .ok (.getfield 75, 3) := by decide +kernel
theorem dX6_apply_53 : decode cX6_apply 53 = .ok (.imul, 1) := by decide +kernel
theorem dX6_apply_54 : decode cX6_apply 54 = .ok (.iload 4, 2) := by decide +kernel
theorem dX6_apply_56 : decode cX6_apply 56 = .ok (.iadd, 1) := by decide +kernel
theorem dX6_apply_57 : decode cX6_apply 57 = .ok (.dup2, 1) := by decide +kernel
theorem dX6_apply_58 : decode cX6_apply 58 = .ok (.iaload, 1) := by decide +kernel
theorem dX6_apply_59 : decode cX6_apply 59 = .ok (.iconst 1, 1) := by decide +kernel
theorem dX6_apply_60 : decode cX6_apply 60 = .ok (.isub, 1) := by decide +kernel
theorem dX6_apply_61 : decode cX6_apply 61 = .ok (.iastore, 1) := by decide +kernel
theorem dX6_apply_62 : decode cX6_apply 62 = .ok (.goto 93, 3) := by decide +kernel
theorem dX6_apply_65 : decode cX6_apply 65 = .ok (.aload_n 0, 1) := by decide +kernel
theorem dX6_apply_66 : decode cX6_apply 66 = .ok (.getfield 33, 3) := by decide +kernel
theorem dX6_apply_69 : decode cX6_apply 69 = .ok (.iload_n 3, 1) := by decide +kernel
theorem dX6_apply_70 : decode cX6_apply 70 = .ok (.iaload, 1) := by decide +kernel
theorem dX6_apply_71 : decode cX6_apply 71 = .ok (.istore 4, 2) := by decide +kernel
theorem dX6_apply_73 : decode cX6_apply 73 = .ok (.iload_n 1, 1) := by decide +kernel
theorem dX6_apply_74 : decode cX6_apply 74 = .ok (.bipush 16, 2) := by decide +kernel
theorem dX6_apply_76 : decode cX6_apply 76 = .ok (.ishr, 1) := by decide +kernel
theorem dX6_apply_77 : decode cX6_apply 77 = .ok (.istore 5, 2) := by decide +kernel
theorem dX6_apply_79 : decode cX6_apply 79 = .ok (.aload_n 0, 1) := by decide +kernel
theorem dX6_apply_80 : decode cX6_apply 80 = .ok (.getfield 33, 3) := by decide +kernel
theorem dX6_apply_83 : decode cX6_apply 83 = .ok (.iload_n 3, 1) := by decide +kernel
theorem dX6_apply_84 : decode cX6_apply 84 = .ok (.iconst 0, 1) := by decide +kernel
theorem dX6_apply_85 : decode cX6_apply 85 = .ok (.iastore, 1) := by decide +kernel
theorem dX6_apply_86 : decode cX6_apply 86 = .ok (.aload_n 0, 1) := by decide +kernel
theorem dX6_apply_87 : decode cX6_apply 87 = .ok (.getfield 33, 3) := by decide +kernel
theorem dX6_apply_90 : decode cX6_apply 90 = .ok (.iload_n 2, 1) := by decide +kernel
theorem dX6_apply_91 : decode cX6_apply 91 = .ok (.iload_n 1, 1) := by decide +kernel
theorem dX6_apply_92 : decode cX6_apply 92 = .ok (.sipush 4096, 3) := by decide +kernel
theorem dX6_apply_95 : decode cX6_apply 95 = .ok (.iand, 1) := by decide +kernel
theorem dX6_apply_96 : decode cX6_apply 96 = .ok (.ifCond .eq 11, 3) := by decide +kernel
theorem dX6_apply_99 : decode cX6_apply 99 = .ok (.iload 4, 2) := by decide +kernel
theorem dX6_apply_101 : decode cX6_apply 101 = .ok (.bipush 8, 2) := by decide +kernel
theorem dX6_apply_103 : decode cX6_apply 103 = .ok (.iadd, 1) := by decide +kernel
theorem dX6_apply_104 : decode cX6_apply 104 = .ok (.goto 5, 3) := by decide +kernel
theorem dX6_apply_107 : decode cX6_apply 107 = .ok (.iload 4, 2) := by decide +kernel
theorem dX6_apply_109 : decode cX6_apply 109 = .ok (.iastore, 1) := by decide +kernel
theorem dX6_apply_110 : decode cX6_apply 110 = .ok (.iload 5, 2) := by decide +kernel
theorem dX6_apply_112 : decode cX6_apply 112 = .ok (.ifCond .eq 25, 3) := by decide +kernel
theorem dX6_apply_115 : decode cX6_apply 115 = .ok (.aload_n 0, 1) := by decide +kernel
theorem dX6_apply_116 : decode cX6_apply 116 = .ok (.getfield 9, 3) := by decide +kernel
theorem dX6_apply_119 : decode cX6_apply 119 = .ok (.bipush 8, 2) := by decide +kernel
theorem dX6_apply_121 : decode cX6_apply 121 = .ok (.aload_n 0, 1) := by decide +kernel
theorem dX6_apply_122 : decode cX6_apply 122 = .ok (.getfield 75, 3) := by decide +kernel
theorem dX6_apply_125 : decode cX6_apply 125 = .ok (.imul, 1) := by decide +kernel
theorem dX6_apply_126 : decode cX6_apply 126 = .ok (.iload 5, 2) := by decide +kernel
theorem dX6_apply_128 : decode cX6_apply 128 = .ok (.invokestatic 51, 3) := by decide +kernel
theorem dX6_apply_131 : decode cX6_apply 131 = .ok (.iadd, 1) := by decide +kernel
theorem dX6_apply_132 : decode cX6_apply 132 = .ok (.dup2, 1) := by decide +kernel
theorem dX6_apply_133 : decode cX6_apply 133 = .ok (.iaload, 1) := by decide +kernel
theorem dX6_apply_134 : decode cX6_apply 134 = .ok (.iconst 1, 1) := by decide +kernel
theorem dX6_apply_135 : decode cX6_apply 135 = .ok (.iadd, 1) := by decide +kernel
theorem dX6_apply_136 : decode cX6_apply 136 = .ok (.iastore, 1) := by decide +kernel
theorem dX6_apply_137 : decode cX6_apply 137 = .ok (.iload 4, 2) := by decide +kernel
theorem dX6_apply_139 : decode cX6_apply 139 = .ok (.invokestatic 51, 3) := by decide +kernel
theorem dX6_apply_142 : decode cX6_apply 142 = .ok (.ifCond .ne 13, 3) := by decide +kernel
theorem dX6_apply_145 : decode cX6_apply 145 = .ok (.aload_n 0, 1) := by decide +kernel
theorem dX6_apply_146 : decode cX6_apply 146 = .ok (.getfield 15, 3) := by decide +kernel
theorem dX6_apply_149 : decode cX6_apply 149 = .ok (.aload_n 0, 1) := by decide +kernel
theorem dX6_apply_150 : decode cX6_apply 150 = .ok (.getfield 75, 3) := by decide +kernel
theorem dX6_apply_153 : decode cX6_apply 153 = .ok (.iload_n 2, 1) := by decide +kernel
theorem dX6_apply_154 : decode cX6_apply 154 = .ok (.iastore, 1) := by decide +kernel
theorem dX6_apply_155 : decode cX6_apply 155 = .ok (.aload_n 0, 1) := by decide +kernel
theorem dX6_apply_156 : decode cX6_apply 156 = .ok (.iconst 1, 1) := by decide +kernel
theorem dX6_apply_157 : decode cX6_apply 157 = .ok (.aload_n 0, 1) := by decide +kernel
theorem dX6_apply_158 : decode cX6_apply 158 = .ok (.getfield 75, 3) := by decide +kernel
theorem dX6_apply_161 : decode cX6_apply 161 = .ok (.isub, 1) := by decide +kernel
theorem dX6_apply_162 : decode cX6_apply 162 = .ok (.putfield 75, 3) := by decide +kernel
theorem dX6_apply_165 : decode cX6_apply 165 = .ok (.return_, 1) := by decide +kernel
theorem dX6_revert_0 : decode cX6_revert 0 = .ok (.iload_n 1, 1) := by decide +kernel
theorem dX6_revert_1 : decode cX6_revert 1 = .ok (.bipush 63, 2) := by decide +kernel
theorem dX6_revert_3 : decode cX6_revert 3 = .ok (.iand, 1) := by decide +kernel
theorem dX6_revert_4 : decode cX6_revert 4 = .ok (.istore_n 2, 1) := by decide +kernel
theorem dX6_revert_5 : decode cX6_revert 5 = .ok (.iload_n 1, 1) := by decide +kernel
theorem dX6_revert_6 : decode cX6_revert 6 = .ok (.bipush 6, 2) := by decide +kernel
theorem dX6_revert_8 : decode cX6_revert 8 = .ok (.ishr, 1) := by decide +kernel
theorem dX6_revert_9 : decode cX6_revert 9 = .ok (.bipush 63, 2) := by decide +kernel
theorem dX6_revert_11 : decode cX6_revert 11 = .ok (.iand, 1) := by decide +kernel
theorem dX6_revert_12 : decode cX6_revert 12 = .ok (.istore_n 3, 1) := by decide +kernel
theorem dX6_revert_13 : decode cX6_revert 13 = .ok (.aload_n 0, 1) := by decide +kernel
theorem dX6_revert_14 : decode cX6_revert 14 = .ok (.iconst 1, 1) := by decide +kernel
theorem dX6_revert_15 : decode cX6_revert 15 = .ok (.aload_n 0, 1) := by decide +kernel
theorem dX6_revert_16 : decode cX6_revert 16 = .ok (.getfield 75, 3) := by decide +kernel
theorem dX6_revert_19 : decode cX6_revert 19 = .ok (.isub, 1) := by decide +kernel
theorem dX6_revert_20 : decode cX6_revert 20 = .ok (.putfield 75, 3) := by decide +kernel
theorem dX6_revert_23 : decode cX6_revert 23 = .ok (.iload_n 3, 1) := by decide +kernel
theorem dX6_revert_24 : decode cX6_revert 24 = .ok (.bipush 63, 2) := by decide +kernel
theorem dX6_revert_26 : decode cX6_revert 26 = .ok (.if_icmp .ne 37, 3) := by decide +kernel
theorem dX6_revert_29 : decode cX6_revert 29 = .ok (.aload_n 0, 1) := by decide +kernel
theorem dX6_revert_30 : decode cX6_revert 30 = .ok (.getfield 33, 3) := by decide +kernel
theorem dX6_revert_33 : decode cX6_revert 33 = .ok (.iload_n 2, 1) := by decide +kernel
theorem dX6_revert_34 : decode cX6_revert 34 = .ok (.iconst 0, 1) := by decide +kernel
theorem dX6_revert_35 : decode cX6_revert 35 = .ok (.iastore, 1) := by decide +kernel
theorem dX6_revert_36 : decode cX6_revert 36 = .ok (.aload_n 0, 1) := by decide +kernel
theorem dX6_revert_37 : decode cX6_revert 37 = .ok (.getfield 9, 3) := by decide +kernel
theorem dX6_revert_40 : decode cX6_revert 40 = .ok (.bipush 8, 2) := by decide +kernel
theorem dX6_revert_42 : decode cX6_revert 42 = .ok (.aload_n 0, 1) := by decide +kernel
theorem dX6_revert_43 : decode cX6_revert 43 = .ok (.getfield 75, 3) := by decide +kernel
theorem dX6_revert_46 : decode cX6_revert 46 = .ok (.imul, 1) := by decide +kernel
theorem dX6_revert_47 : decode cX6_revert 47 = .ok (.iload_n 1, 1) := by decide +kernel
theorem dX6_revert_48 : decode cX6_revert 48 = .ok (.bipush 13, 2) := by decide +kernel
theorem dX6_revert_50 : decode cX6_revert 50 = .ok (.ishr, 1) := by decide +kernel
theorem dX6_revert_51 : decode cX6_revert 51 = .ok (.bipush 7, 2) := by decide +kernel
theorem dX6_revert_53 : decode cX6_revert 53 = .ok (.iand, 1) := by decide +kernel
theorem dX6_revert_54 : decode cX6_revert 54 = .ok (.iadd, 1) := by decide +kernel
theorem dX6_revert_55 : decode cX6_revert 55 = .ok (.dup2, 1) := by decide +kernel
theorem dX6_revert_56 : decode cX6_revert 56 = .ok (.iaload, 1) := by decide +kernel
theorem dX6_revert_57 : decode cX6_revert 57 = .ok (.iconst 1, 1) := by decide +kernel
theorem dX6_revert_58 : decode cX6_revert 58 = .ok (.iadd, 1) := by decide +kernel
theorem dX6_revert_59 : decode cX6_revert 59 = .ok (.iastore, 1) := by decide +kernel
theorem dX6_revert_60 : decode cX6_revert 60 = .ok (.goto 98, 3) := by decide +kernel
theorem dX6_revert_63 : decode cX6_revert 63 = .ok (.iload_n 1, 1) := by decide +kernel
theorem dX6_revert_64 : decode cX6_revert 64 = .ok (.sipush 4096, 3) := by decide +kernel
theorem dX6_revert_67 : decode cX6_revert 67 = .ok (.iand, 1) := by decide +kernel
theorem dX6_revert_68 : decode cX6_revert 68 = .ok (.ifCond .eq 15, 3) := by decide +kernel
theorem dX6_revert_71 : decode cX6_revert 71 = .ok (.aload_n 0, 1) := by decide +kernel
theorem dX6_revert_72 : decode cX6_revert 72 = .ok (.getfield 33, 3) := by decide +kernel
theorem dX6_revert_75 : decode cX6_revert 75 = .ok (.iload_n 2, 1) := by decide +kernel
theorem dX6_revert_76 : decode cX6_revert 76 = .ok (.iaload, 1) := by decide +kernel
theorem dX6_revert_77 : decode cX6_revert 77 = .ok (.bipush 8, 2) := by decide +kernel
theorem dX6_revert_79 : decode cX6_revert 79 = .ok (.isub, 1) := by decide +kernel
theorem dX6_revert_80 : decode cX6_revert 80 = .ok (.goto 9, 3) := by decide +kernel
theorem dX6_revert_83 : decode cX6_revert 83 = .ok (.aload_n 0, 1) := by decide +kernel
theorem dX6_revert_84 : decode cX6_revert 84 = .ok (.getfield 33, 3) := by decide +kernel
theorem dX6_revert_87 : decode cX6_revert 87 = .ok (.iload_n 2, 1) := by decide +kernel
theorem dX6_revert_88 : decode cX6_revert 88 = .ok (.iaload, 1) := by decide +kernel
theorem dX6_revert_89 : decode cX6_revert 89 = .ok (.istore 4, 2) := by decide +kernel
theorem dX6_revert_91 : decode cX6_revert 91 = .ok (.iload_n 1, 1) := by decide +kernel
theorem dX6_revert_92 : decode cX6_revert 92 = .ok (.bipush 16, 2) := by decide +kernel
theorem dX6_revert_94 : decode cX6_revert 94 = .ok (.ishr, 1) := by decide +kernel
theorem dX6_revert_95 : decode cX6_revert 95 = .ok (.istore 5, 2) := by decide +kernel
theorem dX6_revert_97 : decode cX6_revert 97 = .ok (.aload_n 0, 1) := by decide +kernel
theorem dX6_revert_98 : decode cX6_revert 98 = .ok (.getfield 33, 3) := by decide +kernel
theorem dX6_revert_101 : decode cX6_revert 101 = .ok (.iload_n 3, 1) := by decide +kernel
theorem dX6_revert_102 : decode cX6_revert 102 = .ok (.iload 4, 2) := by decide +kernel
theorem dX6_revert_104 : decode cX6_revert 104 = .ok (.iastore, 1) := by decide +kernel
theorem dX6_revert_105 : decode cX6_revert 105 = .ok (.aload_n 0, 1) := by decide +kernel
theorem dX6_revert_106 : decode cX6_revert 106 = .ok (.getfield 33, 3) := by decide +kernel
theorem dX6_revert_109 : decode cX6_revert 109 = .ok (.iload_n 2, 1) := by decide +kernel
theorem dX6_revert_110 : decode cX6_revert 110 = .ok (.iload 5, 2) := by decide +kernel
theorem dX6_revert_112 : decode cX6_revert 112 = .ok (.iastore, 1) := by decide +kernel
theorem dX6_revert_113 : decode cX6_revert 113 = .ok (.iload 5, 2) := by decide +kernel
theorem dX6_revert_115 : decode cX6_revert 115 = .ok (.ifCond .eq 25, 3) := by decide +kernel
theorem dX6_revert_118 : decode cX6_revert 118 = .ok (.aload_n 0, 1) := by decide +kernel
theorem dX6_revert_119 : decode cX6_revert 119 = .ok (.getfield 9, 3) := by decide +kernel
theorem dX6_revert_122 : decode cX6_revert 122 = .ok (.bipush 8, 2) := by decide +kernel
theorem dX6_revert_124 : decode cX6_revert 124 = .ok (.aload_n 0, 1) := by decide +kernel
theorem dX6_revert_125 : decode cX6_revert 125 = .ok (.getfield 75, 3) := by decide +kernel
theorem dX6_revert_128 : decode cX6_revert 128 = .ok (.imul, 1) := by decide +kernel
theorem dX6_revert_129 : decode cX6_revert 129 = .ok (.iload 5, 2) := by decide +kernel
theorem dX6_revert_131 : decode cX6_revert 131 = .ok (.invokestatic 51, 3) := by decide +kernel
theorem dX6_revert_134 : decode cX6_revert 134 = .ok (.iadd, 1) := by decide +kernel
theorem dX6_revert_135 : decode cX6_revert 135 = .ok (.dup2, 1) := by decide +kernel
theorem dX6_revert_136 : decode cX6_revert 136 = .ok (.iaload, 1) := by decide +kernel
theorem dX6_revert_137 : decode cX6_revert 137 = .ok (.iconst 1, 1) := by decide +kernel
theorem dX6_revert_138 : decode cX6_revert 138 = .ok (.isub, 1) := by decide +kernel
theorem dX6_revert_139 : decode cX6_revert 139 = .ok (.iastore, 1) := by decide +kernel
theorem dX6_revert_140 : decode cX6_revert 140 = .ok (.iload 4, 2) := by decide +kernel
theorem dX6_revert_142 : decode cX6_revert 142 = .ok (.invokestatic 51, 3) := by decide +kernel
theorem dX6_revert_145 : decode cX6_revert 145 = .ok (.ifCond .ne 13, 3) := by decide +kernel
theorem dX6_revert_148 : decode cX6_revert 148 = .ok (.aload_n 0, 1) := by decide +kernel
theorem dX6_revert_149 : decode cX6_revert 149 = .ok (.getfield 15, 3) := by decide +kernel
theorem dX6_revert_152 : decode cX6_revert 152 = .ok (.aload_n 0, 1) := by decide +kernel
theorem dX6_revert_153 : decode cX6_revert 153 = .ok (.getfield 75, 3) := by decide +kernel
theorem dX6_revert_156 : decode cX6_revert 156 = .ok (.iload_n 3, 1) := by decide +kernel
theorem dX6_revert_157 : decode cX6_revert 157 = .ok (.iastore, 1) := by decide +kernel
theorem dX6_revert_158 : decode cX6_revert 158 = .ok (.return_, 1) := by decide +kernel
theorem dX6_inCheck_0 : decode cX6_inCheck 0 = .ok (.aload_n 0, 1) := by decide +kernel
theorem dX6_inCheck_1 : decode cX6_inCheck 1 = .ok (.iconst 1, 1) := by decide +kernel
theorem dX6_inCheck_2 : decode cX6_inCheck 2 = .ok (.iload_n 1, 1) := by decide +kernel
theorem dX6_inCheck_3 : decode cX6_inCheck 3 = .ok (.isub, 1) := by decide +kernel
theorem dX6_inCheck_4 : decode cX6_inCheck 4 = .ok (.aload_n 0, 1) := by decide +kernel
theorem dX6_inCheck_5 : decode cX6_inCheck 5 = .ok (.getfield 15, 3) := by decide +kernel
theorem dX6_inCheck_8 : decode cX6_inCheck 8 = .ok (.iload_n 1, 1) := by decide +kernel
theorem dX6_inCheck_9 : decode cX6_inCheck 9 = .ok (.iaload, 1) := by decide +kernel
theorem dX6_inCheck_10 : decode cX6_inCheck 10 = .ok (.invokevirtual 81, 3) := by decide +kernel
theorem dX6_inCheck_13 : decode cX6_inCheck 13 = .ok (.ireturn, 1) := by decide +kernel
theorem dX6_attacked_0 : decode cX6_attacked 0 = .ok (.iconst 0, 1) := by decide +kernel
theorem dX6_attacked_1 : decode cX6_attacked 1 = .ok (.istore_n 3, 1) := by decide +kernel
theorem dX6_attacked_2 : decode cX6_attacked 2 = .ok (.iload_n 3, 1) := by decide +kernel
theorem dX6_attacked_3 : decode cX6_attacked 3 = .ok (.bipush 12, 2) := by decide +kernel
theorem dX6_attacked_5 : decode cX6_attacked 5 = .ok (.if_icmp .ge 182, 3) := by decide +kernel
theorem dX6_attacked_8 : decode cX6_attacked 8 = .ok (.aload_n 0, 1) := by decide +kernel
theorem dX6_attacked_9 : decode cX6_attacked 9 = .ok (.getfield 18, 3) := by decide +kernel
theorem dX6_attacked_12 : decode cX6_attacked 12 = .ok (.getfield 85, 3) := by decide +kernel
theorem dX6_attacked_15 : decode cX6_attacked 15 = .ok (.iload_n 3, 1) := by decide +kernel
theorem dX6_attacked_16 : decode cX6_attacked 16 = .ok (.aload_n 0, 1) := by decide +kernel
theorem dX6_attacked_17 : decode cX6_attacked 17 = .ok (.getfield 32, 3) := by decide +kernel
theorem dX6_attacked_20 : decode cX6_attacked 20 = .ok (.imul, 1) := by decide +kernel
theorem dX6_attacked_21 : decode cX6_attacked 21 = .ok (.iload_n 2, 1) := by decide +kernel
theorem dX6_attacked_22 : decode cX6_attacked 22 = .ok (.iadd, 1) := by decide +kernel
theorem dX6_attacked_23 : decode cX6_attacked 23 = .ok (.iaload, 1) := by decide +kernel
theorem dX6_attacked_24 : decode cX6_attacked 24 = .ok (.istore 4, 2) := by decide +kernel
theorem dX6_attacked_26 : decode cX6_attacked 26 = .ok (.iload 4, 2) := by decide +kernel
theorem dX6_attacked_28 : decode cX6_attacked 28 = .ok (.ifCond .ge 6, 3) := by decide +kernel
theorem dX6_attacked_31 : decode cX6_attacked 31 = .ok (.goto 150, 3) := by decide +kernel
theorem dX6_attacked_34 : decode cX6_attacked 34 = .ok (.getstatic 88, 3) := by decide +kernel
theorem dX6_attacked_37 : decode cX6_attacked 37 = .ok (.iload_n 3, 1) := by decide +kernel
theorem dX6_attacked_38 : decode cX6_attacked 38 = .ok (.iaload, 1) := by decide +kernel
theorem dX6_attacked_39 : decode cX6_attacked 39 = .ok (.istore 5, 2) := by decide +kernel
theorem dX6_attacked_41 : decode cX6_attacked 41 = .ok (.iload_n 3, 1) := by decide +kernel
theorem dX6_attacked_42 : decode cX6_attacked 42 = .ok (.bipush 8, 2) := by decide +kernel
theorem dX6_attacked_44 : decode cX6_attacked 44 = .ok (.if_icmp .ge 10, 3) := by decide +kernel
theorem dX6_attacked_47 : decode cX6_attacked 47 = .ok (.aload_n 0, 1) := by decide +kernel
theorem dX6_attacked_48 : decode cX6_attacked 48 = .ok (.getfield 28, 3) := by decide +kernel
theorem dX6_attacked_51 : decode cX6_attacked 51 = .ok (.goto 4, 3) := by decide +kernel
theorem dX6_attacked_54 : decode cX6_attacked 54 = .ok (.iconst 2, 1) := by decide +kernel
theorem dX6_attacked_55 : decode cX6_attacked 55 = .ok (.istore 6, 2) := by decide +kernel
theorem dX6_attacked_57 : decode cX6_attacked 57 = .ok (.aload_n 0, 1) := by decide +kernel
theorem dX6_attacked_58 : decode cX6_attacked 58 = .ok (.getfield 33, 3) := by decide +kernel
theorem dX6_attacked_61 : decode cX6_attacked 61 = .ok (.iload 4, 2) := by decide +kernel
theorem dX6_attacked_63 : decode cX6_attacked 63 = .ok (.iaload, 1) := by decide +kernel
theorem dX6_attacked_64 : decode cX6_attacked 64 = .ok (.istore 7, 2) := by decide +kernel
theorem dX6_attacked_66 : decode cX6_attacked 66 = .ok (.iload 7, 2) := by decide +kernel
theorem dX6_attacked_68 : decode cX6_attacked 68 = .ok (.invokestatic 58, 3) := by decide +kernel
theorem dX6_attacked_71 : decode cX6_attacked 71 = .ok (.iload_n 1, 1) := by decide +kernel
theorem dX6_attacked_72 : decode cX6_attacked 72 = .ok (.if_icmp .ne 23, 3) := by decide +kernel
theorem dX6_attacked_75 : decode cX6_attacked 75 = .ok (.aload_n 0, 1) := by decide +kernel
theorem dX6_attacked_76 : decode cX6_attacked 76 = .ok (.getfield 18, 3) := by decide +kernel
theorem dX6_attacked_79 : decode cX6_attacked 79 = .ok (.getfield 91, 3) := by decide +kernel
theorem dX6_attacked_82 : decode cX6_attacked 82 = .ok (.iload 7, 2) := by decide +kernel
theorem dX6_attacked_84 : decode cX6_attacked 84 = .ok (.iaload, 1) := by decide +kernel
theorem dX6_attacked_85 : decode cX6_attacked 85 = .ok (.iload 5, 2) := by decide +kernel
theorem dX6_attacked_87 : decode cX6_attacked 87 = .ok (.ishr, 1) := by decide +kernel
theorem dX6_attacked_88 : decode cX6_attacked 88 = .ok (.iconst 1, 1) := by decide +kernel
theorem dX6_attacked_89 : decode cX6_attacked 89 = .ok (.iand, 1) := by decide +kernel
theorem dX6_attacked_90 : decode cX6_attacked 90 = .ok (.ifCond .eq 5, 3) := by decide +kernel
theorem dX6_attacked_93 : decode cX6_attacked 93 = .ok (.iconst 1, 1) := by decide +kernel
theorem dX6_attacked_94 : decode cX6_attacked 94 = .ok (.ireturn, 1) := by decide +kernel
theorem dX6_attacked_95 : decode cX6_attacked 95 = .ok (.iconst 2, 1) := by decide +kernel
theorem dX6_attacked_96 : decode cX6_attacked 96 = .ok (.istore 8, 2) := by decide +kernel
theorem dX6_attacked_98 : decode cX6_attacked 98 = .ok (.iload 8, 2) := by decide +kernel
theorem dX6_attacked_100 : decode cX6_attacked 100 = .ok (.iload 6, 2) := by decide +kernel
theorem dX6_attacked_102 : decode cX6_attacked 102 = .ok (.if_icmp .ge 50, 3) := by decide +kernel
theorem dX6_attacked_105 : decode cX6_attacked 105 = .ok (.iload 7, 2) := by decide +kernel
theorem dX6_attacked_107 : decode cX6_attacked 107 = .ok (.ifCond .ne 45, 3) := by decide +kernel
theorem dX6_attacked_110 : decode cX6_attacked 110 = .ok (.aload_n 0, 1) := by decide +kernel
theorem dX6_attacked_111 : decode cX6_attacked 111 = .ok (.getfield 18, 3) := by decide +kernel
theorem dX6_attacked_114 : decode cX6_attacked 114 = .ok (.getfield 85, 3) := by decide +kernel
theorem dX6_attacked_117 : decode cX6_attacked 117 = .ok (.iload_n 3, 1) := by decide +kernel
theorem dX6_attacked_118 : decode cX6_attacked 118 = .ok (.aload_n 0, 1) := by decide +kernel
theorem dX6_attacked_119 : decode cX6_attacked 119 = .ok (.getfield 32, 3) := by decide +kernel
theorem dX6_attacked_122 : decode cX6_attacked 122 = .ok (.imul, 1) := by decide +kernel
theorem dX6_attacked_123 : decode cX6_attacked 123 = .ok (.iload 4, 2) := by decide +kernel
theorem dX6_attacked_125 : decode cX6_attacked 125 = .ok (.iadd, 1) := by decide +kernel
theorem dX6_attacked_126 : decode cX6_attacked 126 = .ok (.iaload, 1) := by decide +kernel
theorem dX6_attacked_127 : decode cX6_attacked 127 = .ok (.istore 4, 2) := by decide +kernel
theorem dX6_attacked_129 : decode cX6_attacked 129 = .ok (.iload 4, 2) := by decide +kernel
theorem dX6_attacked_131 : decode cX6_attacked 131 = .ok (.ifCond .ge 6, 3) := by decide +kernel
theorem dX6_attacked_134 : decode cX6_attacked 134 = .ok (.goto 18, 3) := by decide +kernel
theorem dX6_attacked_137 : decode cX6_attacked 137 = .ok (.aload_n 0, 1) := by decide +kernel
theorem dX6_attacked_138 : decode cX6_attacked 138 = .ok (.getfield 33, 3) := by decide +kernel
theorem dX6_attacked_141 : decode cX6_attacked 141 = .ok (.iload 4, 2) := by decide +kernel
theorem dX6_attacked_143 : decode cX6_attacked 143 = .ok (.iaload, 1) := by decide +kernel
theorem dX6_attacked_144 : decode cX6_attacked 144 = .ok (.istore 7, 2) := by decide +kernel
theorem dX6_attacked_146 : decode cX6_attacked 146 = .ok (.iinc 8 1, 3) := by decide +kernel
theorem dX6_attacked_149 : decode cX6_attacked 149 = .ok (.goto (-51), 3) := by decide +kernel
theorem dX6_attacked_152 : decode cX6_attacked 152 = .ok (.iload 7, 2) := by decide +kernel
theorem dX6_attacked_154 : decode cX6_attacked 154 = .ok (.invokestatic 58, 3) := by decide +kernel
theorem dX6_attacked_157 : decode cX6_attacked 157 = .ok (.iload_n 1, 1) := by decide +kernel
theorem dX6_attacked_158 : decode cX6_attacked 158 = .ok (.if_icmp .ne 23, 3) := by decide +kernel
theorem dX6_attacked_161 : decode cX6_attacked 161 = .ok (.aload_n 0, 1) := by decide +kernel
theorem dX6_attacked_162 : decode cX6_attacked 162 = .ok (.getfield 18, 3) := by decide +kernel
theorem dX6_attacked_165 : decode cX6_attacked 165 = .ok (.getfield 94, 3) := by decide +kernel
theorem dX6_attacked_168 : decode cX6_attacked 168 = .ok (.iload 7, 2) := by decide +kernel
theorem dX6_attacked_170 : decode cX6_attacked 170 = .ok (.iaload, 1) := by decide +kernel
theorem dX6_attacked_171 : decode cX6_attacked 171 = .ok (.iload 5, 2) := by decide +kernel
theorem dX6_attacked_173 : decode cX6_attacked 173 = .ok (.ishr, 1) := by decide +kernel
theorem dX6_attacked_174 : decode cX6_attacked 174 = .ok (.iconst 1, 1) := by decide +kernel
theorem dX6_attacked_175 : decode cX6_attacked 175 = .ok (.iand, 1) := by decide +kernel
theorem dX6_attacked_176 : decode cX6_attacked 176 = .ok (.ifCond .eq 5, 3) := by decide +kernel
theorem dX6_attacked_179 : decode cX6_attacked 179 = .ok (.iconst 1, 1) := by decide +kernel
theorem dX6_attacked_180 : decode cX6_attacked 180 = .ok (.ireturn, 1) := by decide +kernel
theorem dX6_attacked_181 : decode cX6_attacked 181 = .ok (.iinc 3 1, 3) := by decide +kernel
theorem dX6_attacked_184 : decode cX6_attacked 184 = .ok (.goto (-182), 3) := by decide +kernel
theorem dX6_attacked_187 : decode cX6_attacked 187 = .ok (.iconst 0, 1) := by decide +kernel
theorem dX6_attacked_188 : decode cX6_attacked 188 = .ok (.ireturn, 1) := by decide +kernel
theorem dX6_reach_0 : decode cX6_reach 0 = .ok (.aload_n 0, 1) := by decide +kernel
theorem dX6_reach_1 : decode cX6_reach 1 = .ok (.getfield 33, 3) := by decide +kernel
theorem dX6_reach_4 : decode cX6_reach 4 = .ok (.iload_n 1, 1) := by decide +kernel
theorem dX6_reach_5 : decode cX6_reach 5 = .ok (.iaload, 1) := by decide +kernel
theorem dX6_reach_6 : decode cX6_reach 6 = .ok (.istore_n 2, 1) := by decide +kernel
theorem dX6_reach_7 : decode cX6_reach 7 = .ok (.iload_n 2, 1) := by decide +kernel
theorem dX6_reach_8 : decode cX6_reach 8 = .ok (.ifCond .ne 5, 3) := by decide +kernel
theorem dX6_reach_11 : decode cX6_reach 11 = .ok (.iconst 0, 1) := by decide +kernel
theorem dX6_reach_12 : decode cX6_reach 12 = .ok (.ireturn, 1) := by decide +kernel
theorem dX6_reach_13 : decode cX6_reach 13 = .ok (.iload_n 2, 1) := by decide +kernel
theorem dX6_reach_14 : decode cX6_reach 14 = .ok (.invokestatic 58, 3) := by decide +kernel
theorem dX6_reach_17 : decode cX6_reach 17 = .ok (.istore_n 3, 1) := by decide +kernel
theorem dX6_reach_18 : decode cX6_reach 18 = .ok (.aload_n 0, 1) := by decide +kernel
theorem dX6_reach_19 : decode cX6_reach 19 = .ok (.getfield 18, 3) := by decide +kernel
theorem dX6_reach_22 : decode cX6_reach 22 = .ok (.getfield 97, 3) := by decide +kernel
theorem dX6_reach_25 : decode cX6_reach 25 = .ok (.iload_n 2, 1) := by decide +kernel
theorem dX6_reach_26 : decode cX6_reach 26 = .ok (.invokestatic 100, 3) := by decide +kernel
theorem dX6_reach_29 : decode cX6_reach 29 = .ok (.iaload, 1) := by decide +kernel
theorem dX6_reach_30 : decode cX6_reach 30 = .ok (.istore 4, 2) := by decide +kernel
theorem dX6_reach_32 : decode cX6_reach 32 = .ok (.aload_n 0, 1) := by decide +kernel
theorem dX6_reach_33 : decode cX6_reach 33 = .ok (.getfield 18, 3) := by decide +kernel
theorem dX6_reach_36 : decode cX6_reach 36 = .ok (.getfield 103, 3) := by decide +kernel
theorem dX6_reach_39 : decode cX6_reach 39 = .ok (.iload_n 2, 1) := by decide +kernel
theorem dX6_reach_40 : decode cX6_reach 40 = .ok (.invokestatic 100, 3) := by decide +kernel
theorem dX6_reach_43 : decode cX6_reach 43 = .ok (.iaload, 1) := by decide +kernel
theorem dX6_reach_44 : decode cX6_reach 44 = .ok (.istore 5, 2) := by decide +kernel
theorem dX6_reach_46 : decode cX6_reach 46 = .ok (.iconst 0, 1) := by decide +kernel
theorem dX6_reach_47 : decode cX6_reach 47 = .ok (.istore 6, 2) := by decide +kernel
theorem dX6_reach_49 : decode cX6_reach 49 = .ok (.iconst 0, 1) := by decide +kernel
theorem dX6_reach_50 : decode cX6_reach 50 = .ok (.istore 7, 2) := by decide +kernel
theorem dX6_reach_52 : decode cX6_reach 52 = .ok (.iload 7, 2) := by decide +kernel
theorem dX6_reach_54 : decode cX6_reach 54 = .ok (.bipush 10, 2) := by decide +kernel
theorem dX6_reach_56 : decode cX6_reach 56 = .ok (.if_icmp .ge 71, 3) := by decide +kernel
theorem dX6_reach_59 : decode cX6_reach 59 = .ok (.iload 4, 2) := by decide +kernel
theorem dX6_reach_61 : decode cX6_reach 61 = .ok (.iload 7, 2) := by decide +kernel
theorem dX6_reach_63 : decode cX6_reach 63 = .ok (.ishr, 1) := by decide +kernel
theorem dX6_reach_64 : decode cX6_reach 64 = .ok (.iconst 1, 1) := by decide +kernel
theorem dX6_reach_65 : decode cX6_reach 65 = .ok (.iand, 1) := by decide +kernel
theorem dX6_reach_66 : decode cX6_reach 66 = .ok (.ifCond .ne 6, 3) := by decide +kernel
theorem dX6_reach_69 : decode cX6_reach 69 = .ok (.goto 52, 3) := by decide +kernel
theorem dX6_reach_72 : decode cX6_reach 72 = .ok (.aload_n 0, 1) := by decide +kernel
theorem dX6_reach_73 : decode cX6_reach 73 = .ok (.getfield 18, 3) := by decide +kernel
theorem dX6_reach_76 : decode cX6_reach 76 = .ok (.getfield 85, 3) := by decide +kernel
theorem dX6_reach_79 : decode cX6_reach 79 = .ok (.iload_n 3, 1) := by decide +kernel
theorem dX6_reach_80 : decode cX6_reach 80 = .ok (.ifCond .ne 8, 3) := by decide +kernel
theorem dX6_reach_83 : decode cX6_reach 83 = .ok (.iload 7, 2) := by decide +kernel
theorem dX6_reach_85 : decode cX6_reach 85 = .ok (.goto 9, 3) := by decide +kernel
theorem dX6_reach_88 : decode cX6_reach 88 = .ok (.getstatic 88, 3) := by decide +kernel
theorem dX6_reach_91 : decode cX6_reach 91 = .ok (.iload 7, 2) := by decide +kernel
theorem dX6_reach_93 : decode cX6_reach 93 = .ok (.iaload, 1) := by decide +kernel
theorem dX6_reach_94 : decode cX6_reach 94 = .ok (.aload_n 0, 1) := by decide +kernel
theorem dX6_reach_95 : decode cX6_reach 95 = .ok (.getfield 32, 3) := by decide +kernel
theorem dX6_reach_98 : decode cX6_reach 98 = .ok (.imul, 1) := by decide +kernel
theorem dX6_reach_99 : decode cX6_reach 99 = .ok (.iload_n 1, 1) := by decide +kernel
theorem dX6_reach_100 : decode cX6_reach 100 = .ok (.iadd, 1) := by decide +kernel
theorem dX6_reach_101 : decode cX6_reach 101 = .ok (.iaload, 1) := by decide +kernel
theorem dX6_reach_102 : decode cX6_reach 102 = .ok (.istore 8, 2) := by decide +kernel
theorem dX6_reach_104 : decode cX6_reach 104 = .ok (.iload 8, 2) := by decide +kernel
theorem dX6_reach_106 : decode cX6_reach 106 = .ok (.ifCond .lt 15, 3) := by decide +kernel
theorem dX6_reach_109 : decode cX6_reach 109 = .ok (.aload_n 0, 1) := by decide +kernel
theorem dX6_reach_110 : decode cX6_reach 110 = .ok (.getfield 36, 3) := by decide +kernel
theorem dX6_reach_113 : decode cX6_reach 113 = .ok (.iload 6, 2) := by decide +kernel
theorem dX6_reach_115 : decode cX6_reach 115 = .ok (.iinc 6 1, 3) := by decide +kernel
theorem dX6_reach_118 : decode cX6_reach 118 = .ok (.iload 8, 2) := by decide +kernel
theorem dX6_reach_120 : decode cX6_reach 120 = .ok (.iastore, 1) := by decide +kernel
theorem dX6_reach_121 : decode cX6_reach 121 = .ok (.iinc 7 1, 3) := by decide +kernel
theorem dX6_reach_124 : decode cX6_reach 124 = .ok (.goto (-72), 3) := by decide +kernel
theorem dX6_reach_127 : decode cX6_reach 127 = .ok (.iconst 0, 1) := by decide +kernel
theorem dX6_reach_128 : decode cX6_reach 128 = .ok (.istore 7, 2) := by decide +kernel
theorem dX6_reach_130 : decode cX6_reach 130 = .ok (.iload 7, 2) := by decide +kernel
theorem dX6_reach_132 : decode cX6_reach 132 = .ok (.bipush 8, 2) := by decide +kernel
theorem dX6_reach_134 : decode cX6_reach 134 = .ok (.if_icmp .ge 129, 3) := by decide +kernel
theorem dX6_reach_137 : decode cX6_reach 137 = .ok (.iload 5, 2) := by decide +kernel
theorem dX6_reach_139 : decode cX6_reach 139 = .ok (.iload 7, 2) := by decide +kernel
theorem dX6_reach_141 : decode cX6_reach 141 = .ok (.ishr, 1) := by decide +kernel
theorem dX6_reach_142 : decode cX6_reach 142 = .ok (.iconst 1, 1) := by decide +kernel
theorem dX6_reach_143 : decode cX6_reach 143 = .ok (.iand, 1) := by decide +kernel
theorem dX6_reach_144 : decode cX6_reach 144 = .ok (.ifCond .ne 6, 3) := by decide +kernel
theorem dX6_reach_147 : decode cX6_reach 147 = .ok (.goto 110, 3) := by decide +kernel
theorem dX6_reach_150 : decode cX6_reach 150 = .ok (.iload_n 3, 1) := by decide +kernel
theorem dX6_reach_151 : decode cX6_reach 151 = .ok (.ifCond .ne 8, 3) := by decide +kernel
theorem dX6_reach_154 : decode cX6_reach 154 = .ok (.iload 7, 2) := by decide +kernel
theorem dX6_reach_156 : decode cX6_reach 156 = .ok (.goto 9, 3) := by decide +kernel
theorem dX6_reach_159 : decode cX6_reach 159 = .ok (.getstatic 88, 3) := by decide +kernel
theorem dX6_reach_162 : decode cX6_reach 162 = .ok (.iload 7, 2) := by decide +kernel
theorem dX6_reach_164 : decode cX6_reach 164 = .ok (.iaload, 1) := by decide +kernel
theorem dX6_reach_165 : decode cX6_reach 165 = .ok (.aload_n 0, 1) := by decide +kernel
theorem dX6_reach_166 : decode cX6_reach 166 = .ok (.getfield 32, 3) := by decide +kernel
theorem dX6_reach_169 : decode cX6_reach 169 = .ok (.imul, 1) := by decide +kernel
theorem dX6_reach_170 : decode cX6_reach 170 = .ok (.istore 8, 2) := by decide +kernel
theorem dX6_reach_172 : decode cX6_reach 172 = .ok (.iload_n 1, 1) := by decide +kernel
