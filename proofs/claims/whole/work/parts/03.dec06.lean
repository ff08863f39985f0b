theorem dX9_letter_5 : decode cX9_letter 5 = .ok (.aload_n 0, 1) := by decide +kernel
theorem dX9_letter_6 : decode cX9_letter 6 = .ok (.getfield 63, 3) := by decide +kernel
theorem dX9_letter_9 : decode cX9_letter 9 = .ok (.getfield 293, 3) := by decide +kernel
theorem dX9_letter_12 : decode cX9_letter 12 = .ok (.if_icmp .lt 7, 3) := by decide +kernel
theorem dX9_letter_15 : decode cX9_letter 15 = .ok (.iconst (-1), 1) := by decide +kernel
theorem dX9_letter_16 : decode cX9_letter 16 = .ok (.goto 12, 3) := by decide +kernel
theorem dX9_letter_19 : decode cX9_letter 19 = .ok (.aload_n 0, 1) := by decide +kernel
theorem dX9_letter_20 : decode cX9_letter 20 = .ok (.getfield 63, 3) := by decide +kernel
theorem dX9_letter_23 : decode cX9_letter 23 = .ok (.getfield 297, 3) := by decide +kernel
theorem dX9_letter_26 : decode cX9_letter 26 = .ok (.iload_n 1, 1) := by decide +kernel
theorem dX9_letter_27 : decode cX9_letter 27 = .ok (.iaload, 1) := by decide +kernel
theorem dX9_letter_28 : decode cX9_letter 28 = .ok (.ireturn, 1) := by decide +kernel
theorem dX9_read_0 : decode cX9_read 0 = .ok (.aload_n 0, 1) := by decide +kernel
theorem dX9_read_1 : decode cX9_read 1 = .ok (.getfield 86, 3) := by decide +kernel
theorem dX9_read_4 : decode cX9_read 4 = .ok (.ifCond .ne 6, 3) := by decide +kernel
theorem dX9_read_7 : decode cX9_read 7 = .ok (.bipush (-3), 2) := by decide +kernel
theorem dX9_read_9 : decode cX9_read 9 = .ok (.ireturn, 1) := by decide +kernel
theorem dX9_read_10 : decode cX9_read 10 = .ok (.aload_n 0, 1) := by decide +kernel
theorem dX9_read_11 : decode cX9_read 11 = .ok (.getfield 72, 3) := by decide +kernel
theorem dX9_read_14 : decode cX9_read 14 = .ok (.invokevirtual 300, 3) := by decide +kernel
theorem dX9_read_17 : decode cX9_read 17 = .ok (.aload_n 0, 1) := by decide +kernel
theorem dX9_read_18 : decode cX9_read 18 = .ok (.getfield 76, 3) := by decide +kernel
theorem dX9_read_21 : decode cX9_read 21 = .ok (.invokevirtual 171, 3) := by decide +kernel
theorem dX9_read_24 : decode cX9_read 24 = .ok (.aload_n 0, 1) := by decide +kernel
theorem dX9_read_25 : decode cX9_read 25 = .ok (.getfield 63, 3) := by decide +kernel
theorem dX9_read_28 : decode cX9_read 28 = .ok (.getfield 293, 3) := by decide +kernel
theorem dX9_read_31 : decode cX9_read 31 = .ok (.ifCond .ne 7, 3) := by decide +kernel
theorem dX9_read_34 : decode cX9_read 34 = .ok (.iconst (-1), 1) := by decide +kernel
theorem dX9_read_35 : decode cX9_read 35 = .ok (.goto 7, 3) := by decide +kernel
theorem dX9_read_38 : decode cX9_read 38 = .ok (.aload_n 0, 1) := by decide +kernel
theorem dX9_read_39 : decode cX9_read 39 = .ok (.invokevirtual 303, 3) := by decide +kernel
theorem dX9_read_42 : decode cX9_read 42 = .ok (.istore_n 1, 1) := by decide +kernel
theorem dX9_read_43 : decode cX9_read 43 = .ok (.iload_n 1, 1) := by decide +kernel
theorem dX9_read_44 : decode cX9_read 44 = .ok (.ifCond .lt 22, 3) := by decide +kernel
theorem dX9_read_47 : decode cX9_read 47 = .ok (.aload_n 0, 1) := by decide +kernel
theorem dX9_read_48 : decode cX9_read 48 = .ok (.getfield 76, 3) := by decide +kernel
theorem dX9_read_51 : decode cX9_read 51 = .ok (.invokevirtual 300, 3) := by decide +kernel
theorem dX9_read_54 : decode cX9_read 54 = .ok (.aload_n 0, 1) := by decide +kernel
theorem dX9_read_55 : decode cX9_read 55 = .ok (.getfield 72, 3) := by decide +kernel
theorem dX9_read_58 : decode cX9_read 58 = .ok (.invokevirtual 306, 3) := by decide +kernel
theorem dX9_read_61 : decode cX9_read 61 = .ok (.bipush (-100), 2) := by decide +kernel
theorem dX9_read_63 : decode cX9_read 63 = .ok (.iload_n 1, 1) := by decide +kernel
theorem dX9_read_64 : decode cX9_read 64 = .ok (.isub, 1) := by decide +kernel
theorem dX9_read_65 : decode cX9_read 65 = .ok (.ireturn, 1) := by decide +kernel
theorem dX9_read_66 : decode cX9_read 66 = .ok (.aload_n 0, 1) := by decide +kernel
theorem dX9_read_67 : decode cX9_read 67 = .ok (.getfield 72, 3) := by decide +kernel
theorem dX9_read_70 : decode cX9_read 70 = .ok (.astore_n 2, 1) := by decide +kernel
theorem dX9_read_71 : decode cX9_read 71 = .ok (.aload_n 0, 1) := by decide +kernel
theorem dX9_read_72 : decode cX9_read 72 = .ok (.aload_n 0, 1) := by decide +kernel
theorem dX9_read_73 : decode cX9_read 73 = .ok (.getfield 76, 3) := by decide +kernel
theorem dX9_read_76 : decode cX9_read 76 = .ok (.putfield 72, 3) := by decide +kernel
theorem dX9_read_79 : decode cX9_read 79 = .ok (.aload_n 0, 1) := by decide +kernel
theorem dX9_read_80 : decode cX9_read 80 = .ok (.aload_n 2, 1) := by decide +kernel
theorem dX9_read_81 : decode cX9_read 81 = .ok (.putfield 76, 3) := by decide +kernel
theorem dX9_read_84 : decode cX9_read 84 = .ok (.aload_n 0, 1) := by decide +kernel
theorem dX9_read_85 : decode cX9_read 85 = .ok (.invokevirtual 174, 3) := by decide +kernel
theorem dX9_read_88 : decode cX9_read 88 = .ok (.aload_n 0, 1) := by decide +kernel
theorem dX9_read_89 : decode cX9_read 89 = .ok (.getfield 72, 3) := by decide +kernel
theorem dX9_read_92 : decode cX9_read 92 = .ok (.getfield 180, 3) := by decide +kernel
theorem dX9_read_95 : decode cX9_read 95 = .ok (.ireturn, 1) := by decide +kernel
theorem dX9_finding_0 : decode cX9_finding 0 = .ok (.aload_n 0, 1) := by decide +kernel
theorem dX9_finding_1 : decode cX9_finding 1 = .ok (.getfield 129, 3) := by decide +kernel
theorem dX9_finding_4 : decode cX9_finding 4 = .ok (.ireturn, 1) := by decide +kernel
theorem dX9_digest_0 : decode cX9_digest 0 = .ok (.ldc2_w 309, 3) := by decide +kernel
theorem dX9_digest_3 : decode cX9_digest 3 = .ok (.lstore_n 1, 1) := by decide +kernel
theorem dX9_digest_4 : decode cX9_digest 4 = .ok (.iconst 0, 1) := by decide +kernel
theorem dX9_digest_5 : decode cX9_digest 5 = .ok (.istore_n 3, 1) := by decide +kernel
theorem dX9_digest_6 : decode cX9_digest 6 = .ok (.iload_n 3, 1) := by decide +kernel
theorem dX9_digest_7 : decode cX9_digest 7 = .ok (.aload_n 0, 1) := by decide +kernel
theorem dX9_digest_8 : decode cX9_digest 8 = .ok (.getfield 13, 3) := by decide +kernel
theorem dX9_digest_11 : decode cX9_digest 11 = .ok (.if_icmp .ge 37, 3) := by decide +kernel
theorem dX9_digest_14 : decode cX9_digest 14 = .ok (.ldc2_w 311, 3) := by decide +kernel
theorem dX9_digest_17 : decode cX9_digest 17 = .ok (.lload_n 1, 1) := by decide +kernel
theorem dX9_digest_18 : decode cX9_digest 18 = .ok (.lmul, 1) := by decide +kernel
theorem dX9_digest_19 : decode cX9_digest 19 = .ok (.aload_n 0, 1) := by decide +kernel
theorem dX9_digest_20 : decode cX9_digest 20 = .ok (.getfield 86, 3) := by decide +kernel
theorem dX9_digest_23 : decode cX9_digest 23 = .ok (.ifCond .eq 15, 3) := by decide +kernel
theorem dX9_digest_26 : decode cX9_digest 26 = .ok (.aload_n 0, 1) := by decide +kernel
theorem dX9_digest_27 : decode cX9_digest 27 = .ok (.getfield 38, 3) := by decide +kernel
theorem dX9_digest_30 : decode cX9_digest 30 = .ok (.getfield 186, 3) := by decide +kernel
theorem dX9_digest_33 : decode cX9_digest 33 = .ok (.iload_n 3, 1) := by decide +kernel
theorem dX9_digest_34 : decode cX9_digest 34 = .ok (.iaload, 1) := by decide +kernel
theorem dX9_digest_35 : decode cX9_digest 35 = .ok (.goto 4, 3) := by decide +kernel
theorem dX9_digest_38 : decode cX9_digest 38 = .ok (.iconst 0, 1) := by decide +kernel
theorem dX9_digest_39 : decode cX9_digest 39 = .ok (.i2l, 1) := by decide +kernel
theorem dX9_digest_40 : decode cX9_digest 40 = .ok (.ladd, 1) := by decide +kernel
theorem dX9_digest_41 : decode cX9_digest 41 = .ok (.lstore_n 1, 1) := by decide +kernel
theorem dX9_digest_42 : decode cX9_digest 42 = .ok (.iinc 3 1, 3) := by decide +kernel
theorem dX9_digest_45 : decode cX9_digest 45 = .ok (.goto (-39), 3) := by decide +kernel
theorem dX9_digest_48 : decode cX9_digest 48 = .ok (.iconst 0, 1) := by decide +kernel
theorem dX9_digest_49 : decode cX9_digest 49 = .ok (.istore_n 3, 1) := by decide +kernel
theorem dX9_digest_50 : decode cX9_digest 50 = .ok (.iload_n 3, 1) := by decide +kernel
theorem dX9_digest_51 : decode cX9_digest 51 = .ok (.iconst 2, 1) := by decide +kernel
theorem dX9_digest_52 : decode cX9_digest 52 = .ok (.if_icmp .ge 40, 3) := by decide +kernel
theorem dX9_digest_55 : decode cX9_digest 55 = .ok (.iconst 1, 1) := by decide +kernel
theorem dX9_digest_56 : decode cX9_digest 56 = .ok (.istore 4, 2) := by decide +kernel
theorem dX9_digest_58 : decode cX9_digest 58 = .ok (.iload 4, 2) := by decide +kernel
theorem dX9_digest_60 : decode cX9_digest 60 = .ok (.bipush 8, 2) := by decide +kernel
theorem dX9_digest_62 : decode cX9_digest 62 = .ok (.if_icmp .ge 24, 3) := by decide +kernel
theorem dX9_digest_65 : decode cX9_digest 65 = .ok (.ldc2_w 311, 3) := by decide +kernel
theorem dX9_digest_68 : decode cX9_digest 68 = .ok (.lload_n 1, 1) := by decide +kernel
theorem dX9_digest_69 : decode cX9_digest 69 = .ok (.lmul, 1) := by decide +kernel
theorem dX9_digest_70 : decode cX9_digest 70 = .ok (.aload_n 0, 1) := by decide +kernel
theorem dX9_digest_71 : decode cX9_digest 71 = .ok (.iload_n 3, 1) := by decide +kernel
theorem dX9_digest_72 : decode cX9_digest 72 = .ok (.iload 4, 2) := by decide +kernel
theorem dX9_digest_74 : decode cX9_digest 74 = .ok (.invokevirtual 189, 3) := by decide +kernel
theorem dX9_digest_77 : decode cX9_digest 77 = .ok (.i2l, 1) := by decide +kernel
theorem dX9_digest_78 : decode cX9_digest 78 = .ok (.ladd, 1) := by decide +kernel
theorem dX9_digest_79 : decode cX9_digest 79 = .ok (.lstore_n 1, 1) := by decide +kernel
theorem dX9_digest_80 : decode cX9_digest 80 = .ok (.iinc 4 1, 3) := by decide +kernel
theorem dX9_digest_83 : decode cX9_digest 83 = .ok (.goto (-25), 3) := by decide +kernel
theorem dX9_digest_86 : decode cX9_digest 86 = .ok (.iinc 3 1, 3) := by decide +kernel
theorem dX9_digest_89 : decode cX9_digest 89 = .ok (.goto (-39), 3) := by decide +kernel
theorem dX9_digest_92 : decode cX9_digest 92 = .ok (.iconst 0, 1) := by decide +kernel
theorem dX9_digest_93 : decode cX9_digest 93 = .ok (.istore_n 3, 1) := by decide +kernel
theorem dX9_digest_94 : decode cX9_digest 94 = .ok (.iload_n 3, 1) := by decide +kernel
theorem dX9_digest_95 : decode cX9_digest 95 = .ok (.iconst 5, 1) := by decide +kernel
theorem dX9_digest_96 : decode cX9_digest 96 = .ok (.if_icmp .ge 33, 3) := by decide +kernel
theorem dX9_digest_99 : decode cX9_digest 99 = .ok (.ldc2_w 311, 3) := by decide +kernel
theorem dX9_digest_102 : decode cX9_digest 102 = .ok (.lload_n 1, 1) := by decide +kernel
theorem dX9_digest_103 : decode cX9_digest 103 = .ok (.lmul, 1) := by decide +kernel
theorem dX9_digest_104 : decode cX9_digest 104 = .ok (.aload_n 0, 1) := by decide +kernel
theorem dX9_digest_105 : decode cX9_digest 105 = .ok (.getfield 86, 3) := by decide +kernel
theorem dX9_digest_108 : decode cX9_digest 108 = .ok (.ifCond .eq 11, 3) := by decide +kernel
theorem dX9_digest_111 : decode cX9_digest 111 = .ok (.aload_n 0, 1) := by decide +kernel
theorem dX9_digest_112 : decode cX9_digest 112 = .ok (.iload_n 3, 1) := by decide +kernel
theorem dX9_digest_113 : decode cX9_digest 113 = .ok (.invokevirtual 252, 3) := by decide +kernel
theorem dX9_digest_116 : decode cX9_digest 116 = .ok (.goto 4, 3) := by decide +kernel
theorem dX9_digest_119 : decode cX9_digest 119 = .ok (.iconst 0, 1) := by decide +kernel
theorem dX9_digest_120 : decode cX9_digest 120 = .ok (.i2l, 1) := by decide +kernel
theorem dX9_digest_121 : decode cX9_digest 121 = .ok (.ladd, 1) := by decide +kernel
theorem dX9_digest_122 : decode cX9_digest 122 = .ok (.lstore_n 1, 1) := by decide +kernel
theorem dX9_digest_123 : decode cX9_digest 123 = .ok (.iinc 3 1, 3) := by decide +kernel
theorem dX9_digest_126 : decode cX9_digest 126 = .ok (.goto (-32), 3) := by decide +kernel
theorem dX9_digest_129 : decode cX9_digest 129 = .ok (.lload_n 1, 1) := by decide +kernel
theorem dX9_digest_130 : decode cX9_digest 130 = .ok (.lreturn, 1) := by decide +kernel
theorem dX9_isSide_0 : decode cX9_isSide 0 = .ok (.iload_n 0, 1) := by decide +kernel
theorem dX9_isSide_1 : decode cX9_isSide 1 = .ok (.ifCond .eq 8, 3) := by decide +kernel
theorem dX9_isSide_4 : decode cX9_isSide 4 = .ok (.iload_n 0, 1) := by decide +kernel
theorem dX9_isSide_5 : decode cX9_isSide 5 = .ok (.iconst 1, 1) := by decide +kernel
theorem dX9_isSide_6 : decode cX9_isSide 6 = .ok (.if_icmp .ne 7, 3) := by decide +kernel
theorem dX9_isSide_9 : decode cX9_isSide 9 = .ok (.iconst 1, 1) := by decide +kernel
theorem dX9_isSide_10 : decode cX9_isSide 10 = .ok (.goto 4, 3) := by decide +kernel
theorem dX9_isSide_13 : decode cX9_isSide 13 = .ok (.iconst 0, 1) := by decide +kernel
theorem dX9_isSide_14 : decode cX9_isSide 14 = .ok (.ireturn, 1) := by decide +kernel
theorem dX9_isHandKind_0 : decode cX9_isHandKind 0 = .ok (.iload_n 0, 1) := by decide +kernel
theorem dX9_isHandKind_1 : decode cX9_isHandKind 1 = .ok (.iconst 1, 1) := by decide +kernel
theorem dX9_isHandKind_2 : decode cX9_isHandKind 2 = .ok (.if_icmp .lt 13, 3) := by decide +kernel
theorem dX9_isHandKind_5 : decode cX9_isHandKind 5 = .ok (.iload_n 0, 1) := by decide +kernel
theorem dX9_isHandKind_6 : decode cX9_isHandKind 6 = .ok (.bipush 7, 2) := by decide +kernel
theorem dX9_isHandKind_8 : decode cX9_isHandKind 8 = .ok (.if_icmp .gt 7, 3) := by decide +kernel
theorem dX9_isHandKind_11 : decode cX9_isHandKind 11 = .ok (.iconst 1, 1) := by decide +kernel
theorem dX9_isHandKind_12 : decode cX9_isHandKind 12 = .ok (.goto 4, 3) := by decide +kernel
theorem dX9_isHandKind_15 : decode cX9_isHandKind 15 = .ok (.iconst 0, 1) := by decide +kernel
theorem dX9_isHandKind_16 : decode cX9_isHandKind 16 = .ok (.ireturn, 1) := by decide +kernel
theorem dX9_asNumber_0 : decode cX9_asNumber 0 = .ok (.iload_n 0, 1) := by decide +kernel
theorem dX9_asNumber_1 : decode cX9_asNumber 1 = .ok (.ifCond .eq 7, 3) := by decide +kernel
theorem dX9_asNumber_4 : decode cX9_asNumber 4 = .ok (.iconst 1, 1) := by decide +kernel
theorem dX9_asNumber_5 : decode cX9_asNumber 5 = .ok (.goto 4, 3) := by decide +kernel
theorem dX9_asNumber_8 : decode cX9_asNumber 8 = .ok (.iconst 0, 1) := by decide +kernel
theorem dX9_asNumber_9 : decode cX9_asNumber 9 = .ok (.ireturn, 1) := by decide +kernel
theorem dX9_isField_0 : decode cX9_isField 0 = .ok (.iload_n 1, 1) := by decide +kernel
theorem dX9_isField_1 : decode cX9_isField 1 = .ok (.ifCond .lt 15, 3) := by decide +kernel
theorem dX9_isField_4 : decode cX9_isField 4 = .ok (.iload_n 1, 1) := by decide +kernel
theorem dX9_isField_5 : decode cX9_isField 5 = .ok (.aload_n 0, 1) := by decide +kernel
theorem dX9_isField_6 : decode cX9_isField 6 = .ok (.getfield 13, 3) := by decide +kernel
theorem dX9_isField_9 : decode cX9_isField 9 = .ok (.if_icmp .ge 7, 3) := by decide +kernel
theorem dX9_isField_12 : decode cX9_isField 12 = .ok (.iconst 1, 1) := by decide +kernel
theorem dX9_isField_13 : decode cX9_isField 13 = .ok (.goto 4, 3) := by decide +kernel
theorem dX9_isField_16 : decode cX9_isField 16 = .ok (.iconst 0, 1) := by decide +kernel
theorem dX9_isField_17 : decode cX9_isField 17 = .ok (.ireturn, 1) := by decide +kernel
theorem dX9_inHand_0 : decode cX9_inHand 0 = .ok (.aload_n 0, 1) := by decide +kernel
theorem dX9_inHand_1 : decode cX9_inHand 1 = .ok (.getfield 86, 3) := by decide +kernel
theorem dX9_inHand_4 : decode cX9_inHand 4 = .ok (.ifCond .eq 20, 3) := by decide +kernel
theorem dX9_inHand_7 : decode cX9_inHand 7 = .ok (.aload_n 0, 1) := by decide +kernel
theorem dX9_inHand_8 : decode cX9_inHand 8 = .ok (.getfield 38, 3) := by decide +kernel
theorem dX9_inHand_11 : decode cX9_inHand 11 = .ok (.getfield 162, 3) := by decide +kernel
theorem dX9_inHand_14 : decode cX9_inHand 14 = .ok (.bipush 8, 2) := by decide +kernel
theorem dX9_inHand_16 : decode cX9_inHand 16 = .ok (.iload_n 1, 1) := by decide +kernel
theorem dX9_inHand_17 : decode cX9_inHand 17 = .ok (.imul, 1) := by decide +kernel
theorem dX9_inHand_18 : decode cX9_inHand 18 = .ok (.iload_n 2, 1) := by decide +kernel
theorem dX9_inHand_19 : decode cX9_inHand 19 = .ok (.iadd, 1) := by decide +kernel
theorem dX9_inHand_20 : decode cX9_inHand 20 = .ok (.iaload, 1) := by decide +kernel
theorem dX9_inHand_21 : decode cX9_inHand 21 = .ok (.goto 14, 3) := by decide +kernel
theorem dX9_inHand_24 : decode cX9_inHand 24 = .ok (.aload_n 0, 1) := by decide +kernel
theorem dX9_inHand_25 : decode cX9_inHand 25 = .ok (.getfield 7, 3) := by decide +kernel
theorem dX9_inHand_28 : decode cX9_inHand 28 = .ok (.bipush 8, 2) := by decide +kernel
theorem dX9_inHand_30 : decode cX9_inHand 30 = .ok (.iload_n 1, 1) := by decide +kernel
theorem dX9_inHand_31 : decode cX9_inHand 31 = .ok (.imul, 1) := by decide +kernel
theorem dX9_inHand_32 : decode cX9_inHand 32 = .ok (.iload_n 2, 1) := by decide +kernel
theorem dX9_inHand_33 : decode cX9_inHand 33 = .ok (.iadd, 1) := by decide +kernel
theorem dX9_inHand_34 : decode cX9_inHand 34 = .ok (.iaload, 1) := by decide +kernel
theorem dX9_inHand_35 : decode cX9_inHand 35 = .ok (.ireturn, 1) := by decide +kernel
theorem dX9_found_0 : decode cX9_found 0 = .ok (.aload_n 0, 1) := by decide +kernel
theorem dX9_found_1 : decode cX9_found 1 = .ok (.iload_n 1, 1) := by decide +kernel
theorem dX9_found_2 : decode cX9_found 2 = .ok (.putfield 129, 3) := by decide +kernel
theorem dX9_found_5 : decode cX9_found 5 = .ok (.bipush (-10), 2) := by decide +kernel
theorem dX9_found_7 : decode cX9_found 7 = .ok (.iload_n 1, 1) := by decide +kernel
theorem dX9_found_8 : decode cX9_found 8 = .ok (.isub, 1) := by decide +kernel
theorem dX9_found_9 : decode cX9_found 9 = .ok (.ireturn, 1) := by decide +kernel
theorem dX9_lookAround_0 : decode cX9_lookAround 0 = .ok (.aload_n 0, 1) := by decide +kernel
theorem dX9_lookAround_1 : decode cX9_lookAround 1 = .ok (.aload_n 0, 1) := by decide +kernel
theorem dX9_lookAround_2 : decode cX9_lookAround 2 = .ok (.getfield 47, 3) := by decide +kernel
theorem dX9_lookAround_5 : decode cX9_lookAround 5 = .ok (.iconst 1, 1) := by decide +kernel
theorem dX9_lookAround_6 : decode cX9_lookAround 6 = .ok (.invokevirtual 313, 3) := by decide +kernel
theorem dX9_lookAround_9 : decode cX9_lookAround 9 = .ok (.putfield 200, 3) := by decide +kernel
theorem dX9_lookAround_12 : decode cX9_lookAround 12 = .ok (.return_, 1) := by decide +kernel
theorem dX9_stateOfPlay_0 : decode cX9_stateOfPlay 0 = .ok (.aload_n 0, 1) := by decide +kernel
theorem dX9_stateOfPlay_1 : decode cX9_stateOfPlay 1 = .ok (.getfield 200, 3) := by decide +kernel
theorem dX9_stateOfPlay_4 : decode cX9_stateOfPlay 4 = .ok (.ifCond .ne 7, 3) := by decide +kernel
theorem dX9_stateOfPlay_7 : decode cX9_stateOfPlay 7 = .ok (.iconst 1, 1) := by decide +kernel
theorem dX9_stateOfPlay_8 : decode cX9_stateOfPlay 8 = .ok (.goto 10, 3) := by decide +kernel
theorem dX9_stateOfPlay_11 : decode cX9_stateOfPlay 11 = .ok (.aload_n 0, 1) := by decide +kernel
theorem dX9_stateOfPlay_12 : decode cX9_stateOfPlay 12 = .ok (.getfield 72, 3) := by decide +kernel
theorem dX9_stateOfPlay_15 : decode cX9_stateOfPlay 15 = .ok (.invokevirtual 316, 3) := by decide +kernel
theorem dX9_stateOfPlay_18 : decode cX9_stateOfPlay 18 = .ok (.ireturn, 1) := by decide +kernel
theorem dX9_ofPlay_0 : decode cX9_ofPlay 0 = .ok (.iload_n 1, 1) := by decide +kernel
theorem dX9_ofPlay_1 : decode cX9_ofPlay 1 = .ok (.tableswitch 80 0 4 #[35, 43, 48, 56, 72], 35) := by decide +kernel
theorem dX9_ofPlay_36 : decode cX9_ofPlay 36 = .ok (.aload_n 0, 1) := by decide +kernel
theorem dX9_ofPlay_37 : decode cX9_ofPlay 37 = .ok (.getfield 38, 3) := by decide +kernel
theorem dX9_ofPlay_40 : decode cX9_ofPlay 40 = .ok (.getfield 165, 3) := by decide +kernel
theorem dX9_ofPlay_43 : decode cX9_ofPlay 43 = .ok (.ireturn, 1) := by decide +kernel
theorem dX9_ofPlay_44 : decode cX9_ofPlay 44 = .ok (.aload_n 0, 1) := by decide +kernel
theorem dX9_ofPlay_45 : decode cX9_ofPlay 45 = .ok (.invokevirtual 236, 3) := by decide +kernel
theorem dX9_ofPlay_48 : decode cX9_ofPlay 48 = .ok (.ireturn, 1) := by decide +kernel
theorem dX9_ofPlay_49 : decode cX9_ofPlay 49 = .ok (.aload_n 0, 1) := by decide +kernel
theorem dX9_ofPlay_50 : decode cX9_ofPlay 50 = .ok (.getfield 72, 3) := by decide +kernel
theorem dX9_ofPlay_53 : decode cX9_ofPlay 53 = .ok (.getfield 180, 3) := by decide +kernel
theorem dX9_ofPlay_56 : decode cX9_ofPlay 56 = .ok (.ireturn, 1) := by decide +kernel
theorem dX9_ofPlay_57 : decode cX9_ofPlay 57 = .ok (.aload_n 0, 1) := by decide +kernel
theorem dX9_ofPlay_58 : decode cX9_ofPlay 58 = .ok (.getfield 72, 3) := by decide +kernel
theorem dX9_ofPlay_61 : decode cX9_ofPlay 61 = .ok (.getfield 246, 3) := by decide +kernel
theorem dX9_ofPlay_64 : decode cX9_ofPlay 64 = .ok (.aload_n 0, 1) := by decide +kernel
theorem dX9_ofPlay_65 : decode cX9_ofPlay 65 = .ok (.getfield 72, 3) := by decide +kernel
theorem dX9_ofPlay_68 : decode cX9_ofPlay 68 = .ok (.getfield 180, 3) := by decide +kernel
theorem dX9_ofPlay_71 : decode cX9_ofPlay 71 = .ok (.isub, 1) := by decide +kernel
theorem dX9_ofPlay_72 : decode cX9_ofPlay 72 = .ok (.ireturn, 1) := by decide +kernel
theorem dX9_ofPlay_73 : decode cX9_ofPlay 73 = .ok (.aload_n 0, 1) := by decide +kernel
theorem dX9_ofPlay_74 : decode cX9_ofPlay 74 = .ok (.getfield 72, 3) := by decide +kernel
theorem dX9_ofPlay_77 : decode cX9_ofPlay 77 = .ok (.getfield 319, 3) := by decide +kernel
theorem dX9_ofPlay_80 : decode cX9_ofPlay 80 = .ok (.ireturn, 1) := by decide +kernel
theorem dX9_ofPlay_81 : decode cX9_ofPlay 81 = .ok (.aload_n 0, 1) := by decide +kernel
theorem dX9_ofPlay_82 : decode cX9_ofPlay 82 = .ok (.getfield 72, 3) := by decide +kernel
theorem dX9_ofPlay_85 : decode cX9_ofPlay 85 = .ok (.invokevirtual 322, 3) := by decide +kernel
theorem dX9_ofPlay_88 : decode cX9_ofPlay 88 = .ok (.invokestatic 196, 3) := by decide +kernel
theorem dX9_ofPlay_91 : decode cX9_ofPlay 91 = .ok (.ireturn, 1) := by decide +kernel
theorem dX9_doText_0 : decode cX9_doText 0 = .ok (.iconst 0, 1) := by decide +kernel
theorem dX9_doText_1 : decode cX9_doText 1 = .ok (.istore_n 1, 1) := by decide +kernel
theorem dX9_doText_2 : decode cX9_doText 2 = .ok (.iconst 0, 1) := by decide +kernel
theorem dX9_doText_3 : decode cX9_doText 3 = .ok (.istore_n 2, 1) := by decide +kernel
theorem dX9_doText_4 : decode cX9_doText 4 = .ok (.iload_n 2, 1) := by decide +kernel
theorem dX9_doText_5 : decode cX9_doText 5 = .ok (.aload_n 0, 1) := by decide +kernel
theorem dX9_doText_6 : decode cX9_doText 6 = .ok (.getfield 63, 3) := by decide +kernel
theorem dX9_doText_9 : decode cX9_doText 9 = .ok (.getfield 293, 3) := by decide +kernel
theorem dX9_doText_12 : decode cX9_doText 12 = .ok (.if_icmp .gt 94, 3) := by decide +kernel
theorem dX9_doText_15 : decode cX9_doText 15 = .ok (.iload_n 2, 1) := by decide +kernel
theorem dX9_doText_16 : decode cX9_doText 16 = .ok (.aload_n 0, 1) := by decide +kernel
theorem dX9_doText_17 : decode cX9_doText 17 = .ok (.getfield 63, 3) := by decide +kernel
theorem dX9_doText_20 : decode cX9_doText 20 = .ok (.getfield 293, 3) := by decide +kernel
theorem dX9_doText_23 : decode cX9_doText 23 = .ok (.if_icmp .ge 20, 3) := by decide +kernel
theorem dX9_doText_26 : decode cX9_doText 26 = .ok (.aload_n 0, 1) := by decide +kernel
theorem dX9_doText_27 : decode cX9_doText 27 = .ok (.getfield 63, 3) := by decide +kernel
theorem dX9_doText_30 : decode cX9_doText 30 = .ok (.getfield 297, 3) := by decide +kernel
theorem dX9_doText_33 : decode cX9_doText 33 = .ok (.iload_n 2, 1) := by decide +kernel
theorem dX9_doText_34 : decode cX9_doText 34 = .ok (.iaload, 1) := by decide +kernel
theorem dX9_doText_35 : decode cX9_doText 35 = .ok (.bipush 32, 2) := by decide +kernel
theorem dX9_doText_37 : decode cX9_doText 37 = .ok (.if_icmp .eq 6, 3) := by decide +kernel
theorem dX9_doText_40 : decode cX9_doText 40 = .ok (.goto 60, 3) := by decide +kernel
theorem dX9_doText_43 : decode cX9_doText 43 = .ok (.aload_n 0, 1) := by decide +kernel
theorem dX9_doText_44 : decode cX9_doText 44 = .ok (.getfield 63, 3) := by decide +kernel
theorem dX9_doText_47 : decode cX9_doText 47 = .ok (.iload_n 1, 1) := by decide +kernel
theorem dX9_doText_48 : decode cX9_doText 48 = .ok (.iload_n 2, 1) := by decide +kernel
theorem dX9_doText_49 : decode cX9_doText 49 = .ok (.invokevirtual 325, 3) := by decide +kernel
theorem dX9_doText_52 : decode cX9_doText 52 = .ok (.istore_n 3, 1) := by decide +kernel
theorem dX9_doText_53 : decode cX9_doText 53 = .ok (.iload_n 3, 1) := by decide +kernel
theorem dX9_doText_54 : decode cX9_doText 54 = .ok (.iconst (-1), 1) := by decide +kernel
theorem dX9_doText_55 : decode cX9_doText 55 = .ok (.if_icmp .eq 24, 3) := by decide +kernel
theorem dX9_doText_58 : decode cX9_doText 58 = .ok (.aload_n 0, 1) := by decide +kernel
theorem dX9_doText_59 : decode cX9_doText 59 = .ok (.getfield 76, 3) := by decide +kernel
theorem dX9_doText_62 : decode cX9_doText 62 = .ok (.invokevirtual 328, 3) := by decide +kernel
theorem dX9_doText_65 : decode cX9_doText 65 = .ok (.ifCond .eq 14, 3) := by decide +kernel
theorem dX9_doText_68 : decode cX9_doText 68 = .ok (.aload_n 0, 1) := by decide +kernel
theorem dX9_doText_69 : decode cX9_doText 69 = .ok (.getfield 47, 3) := by decide +kernel
theorem dX9_doText_72 : decode cX9_doText 72 = .ok (.iload_n 3, 1) := by decide +kernel
theorem dX9_doText_73 : decode cX9_doText 73 = .ok (.invokevirtual 227, 3) := by decide +kernel
theorem dX9_doText_76 : decode cX9_doText 76 = .ok (.ifCond .eq 5, 3) := by decide +kernel
theorem dX9_doText_79 : decode cX9_doText 79 = .ok (.iload_n 1, 1) := by decide +kernel
theorem dX9_doText_80 : decode cX9_doText 80 = .ok (.ireturn, 1) := by decide +kernel
theorem dX9_doText_81 : decode cX9_doText 81 = .ok (.aload_n 0, 1) := by decide +kernel
theorem dX9_doText_82 : decode cX9_doText 82 = .ok (.getfield 76, 3) := by decide +kernel
theorem dX9_doText_85 : decode cX9_doText 85 = .ok (.aload_n 0, 1) := by decide +kernel
theorem dX9_doText_86 : decode cX9_doText 86 = .ok (.getfield 38, 3) := by decide +kernel
theorem dX9_doText_89 : decode cX9_doText 89 = .ok (.iload_n 3, 1) := by decide +kernel
theorem dX9_doText_90 : decode cX9_doText 90 = .ok (.invokevirtual 331, 3) := by decide +kernel
theorem dX9_doText_93 : decode cX9_doText 93 = .ok (.invokevirtual 240, 3) := by decide +kernel
theorem dX9_doText_96 : decode cX9_doText 96 = .ok (.iload_n 2, 1) := by decide +kernel
theorem dX9_doText_97 : decode cX9_doText 97 = .ok (.iconst 1, 1) := by decide +kernel
theorem dX9_doText_98 : decode cX9_doText 98 = .ok (.iadd, 1) := by decide +kernel
theorem dX9_doText_99 : decode cX9_doText 99 = .ok (.istore_n 1, 1) := by decide +kernel
theorem dX9_doText_100 : decode cX9_doText 100 = .ok (.iinc 2 1, 3) := by decide +kernel
theorem dX9_doText_103 : decode cX9_doText 103 = .ok (.goto (-99), 3) := by decide +kernel
theorem dX9_doText_106 : decode cX9_doText 106 = .ok (.iconst (-1), 1) := by decide +kernel
theorem dX9_doText_107 : decode cX9_doText 107 = .ok (.ireturn, 1) := by decide +kernel
theorem dX10_init_0 : decode cX10_init 0 = .ok (.aload_n 0, 1) := by decide +kernel
theorem dX10_init_1 : decode cX10_init 1 = .ok (.invokespecial 1, 3) := by decide +kernel
theorem dX10_init_4 : decode cX10_init 4 = .ok (.aload_n 0, 1) := by decide +kernel
theorem dX10_init_5 : decode cX10_init 5 = .ok (.bipush 16, 2) := by decide +kernel
theorem dX10_init_7 : decode cX10_init 7 = .ok (.newarray .int, 2) := by decide +kernel
theorem dX10_init_9 : decode cX10_init 9 = .ok (.putfield 7, 3) := by decide +kernel
theorem dX10_init_12 : decode cX10_init 12 = .ok (.aload_n 0, 1) := by decide +kernel
theorem dX10_init_13 : decode cX10_init 13 = .ok (.bipush 16, 2) := by decide +kernel
theorem dX10_init_15 : decode cX10_init 15 = .ok (.newarray .int, 2) := by decide +kernel
theorem dX10_init_17 : decode cX10_init 17 = .ok (.putfield 13, 3) := by decide +kernel
theorem dX10_init_20 : decode cX10_init 20 = .ok (.aload_n 0, 1) := by decide +kernel
theorem dX10_init_21 : decode cX10_init 21 = .ok (.bipush 8, 2) := by decide +kernel
theorem dX10_init_23 : decode cX10_init 23 = .ok (.newarray .int, 2) := by decide +kernel
theorem dX10_init_25 : decode cX10_init 25 = .ok (.putfield 16, 3) := by decide +kernel
theorem dX10_init_28 : decode cX10_init 28 = .ok (.aload_n 0, 1) := by decide +kernel
theorem dX10_init_29 : decode cX10_init 29 = .ok (.bipush 7, 2) := by decide +kernel
theorem dX10_init_31 : decode cX10_init 31 = .ok (.newarray .int, 2) := by decide +kernel
theorem dX10_init_33 : decode cX10_init 33 = .ok (.putfield 19, 3) := by decide +kernel
theorem dX10_init_36 : decode cX10_init 36 = .ok (.aload_n 0, 1) := by decide +kernel
theorem dX10_init_37 : decode cX10_init 37 = .ok (.bipush 7, 2) := by decide +kernel
theorem dX10_init_39 : decode cX10_init 39 = .ok (.newarray .int, 2) := by decide +kernel
theorem dX10_init_41 : decode cX10_init 41 = .ok (.putfield 22, 3) := by decide +kernel
theorem dX10_init_44 : decode cX10_init 44 = .ok (.aload_n 0, 1) := by decide +kernel
theorem dX10_init_45 : decode cX10_init 45 = .ok (.bipush 84, 2) := by decide +kernel
theorem dX10_init_47 : decode cX10_init 47 = .ok (.newarray .int, 2) := by decide +kernel
theorem dX10_init_49 : decode cX10_init 49 = .ok (.putfield 25, 3) := by decide +kernel
theorem dX10_init_52 : decode cX10_init 52 = .ok (.aload_n 0, 1) := by decide +kernel
theorem dX10_init_53 : decode cX10_init 53 = .ok (.bipush 12, 2) := by decide +kernel
theorem dX10_init_55 : decode cX10_init 55 = .ok (.newarray .int, 2) := by decide +kernel
theorem dX10_init_57 : decode cX10_init 57 = .ok (.putfield 28, 3) := by decide +kernel
theorem dX10_init_60 : decode cX10_init 60 = .ok (.aload_n 0, 1) := by decide +kernel
theorem dX10_init_61 : decode cX10_init 61 = .ok (.sipush 784, 3) := by decide +kernel
theorem dX10_init_64 : decode cX10_init 64 = .ok (.newarray .int, 2) := by decide +kernel
theorem dX10_init_66 : decode cX10_init 66 = .ok (.putfield 31, 3) := by decide +kernel
theorem dX10_init_69 : decode cX10_init 69 = .ok (.aload_n 0, 1) := by decide +kernel
theorem dX10_init_70 : decode cX10_init 70 = .ok (.sipush 256, 3) := by decide +kernel
theorem dX10_init_73 : decode cX10_init 73 = .ok (.newarray .int, 2) := by decide +kernel
theorem dX10_init_75 : decode cX10_init 75 = .ok (.putfield 34, 3) := by decide +kernel
theorem dX10_init_78 : decode cX10_init 78 = .ok (.aload_n 0, 1) := by decide +kernel
theorem dX10_init_79 : decode cX10_init 79 = .ok (.bipush 16, 2) := by decide +kernel
theorem dX10_init_81 : decode cX10_init 81 = .ok (.newarray .int, 2) := by decide +kernel
theorem dX10_init_83 : decode cX10_init 83 = .ok (.putfield 37, 3) := by decide +kernel
theorem dX10_init_86 : decode cX10_init 86 = .ok (.aload_n 0, 1) := by decide +kernel
theorem dX10_init_87 : decode cX10_init 87 = .ok (.bipush 16, 2) := by decide +kernel
theorem dX10_init_89 : decode cX10_init 89 = .ok (.newarray .int, 2) := by decide +kernel
theorem dX10_init_91 : decode cX10_init 91 = .ok (.putfield 40, 3) := by decide +kernel
theorem dX10_init_94 : decode cX10_init 94 = .ok (.aload_n 0, 1) := by decide +kernel
theorem dX10_init_95 : decode cX10_init 95 = .ok (.sipush 32000, 3) := by decide +kernel
theorem dX10_init_98 : decode cX10_init 98 = .ok (.newarray .int, 2) := by decide +kernel
theorem dX10_init_100 : decode cX10_init 100 = .ok (.putfield 43, 3) := by decide +kernel
theorem dX10_init_103 : decode cX10_init 103 = .ok (.aload_n 0, 1) := by decide +kernel
theorem dX10_init_104 : decode cX10_init 104 = .ok (.sipush 32000, 3) := by decide +kernel
theorem dX10_init_107 : decode cX10_init 107 = .ok (.newarray .int, 2) := by decide +kernel
theorem dX10_init_109 : decode cX10_init 109 = .ok (.putfield 46, 3) := by decide +kernel
theorem dX10_init_112 : decode cX10_init 112 = .ok (.aload_n 0, 1) := by decide +kernel
theorem dX10_init_113 : decode cX10_init 113 = .ok (.sipush 32000, 3) := by decide +kernel
theorem dX10_init_116 : decode cX10_init 116 = .ok (.newarray .int, 2) := by decide +kernel
theorem dX10_init_118 : decode cX10_init 118 = .ok (.putfield 49, 3) := by decide +kernel
theorem dX10_init_121 : decode cX10_init 121 = .ok (.aload_n 0, 1) := by decide +kernel
theorem dX10_init_122 : decode cX10_init 122 = .ok (.sipush 32000, 3) := by decide +kernel
theorem dX10_init_125 : decode cX10_init 125 = .ok (.newarray .int, 2) := by decide +kernel
theorem dX10_init_127 : decode cX10_init 127 = .ok (.putfield 52, 3) := by decide +kernel
theorem dX10_init_130 : decode cX10_init 130 = .ok (.aload_n 0, 1) := by decide +kernel
theorem dX10_init_131 : decode cX10_init 131 = .ok (.bipush 16, 2) := by decide +kernel
theorem dX10_init_133 : decode cX10_init 133 = .ok (.newarray .int, 2) := by decide +kernel
theorem dX10_init_135 : decode cX10_init 135 = .ok (.putfield 55, 3) := by decide +kernel
theorem dX10_init_138 : decode cX10_init 138 = .ok (.aload_n 0, 1) := by decide +kernel
theorem dX10_init_139 : decode cX10_init 139 = .ok (.sipush 32000, 3) := by decide +kernel
theorem dX10_init_142 : decode cX10_init 142 = .ok (.newarray .int, 2) := by decide +kernel
theorem dX10_init_144 : decode cX10_init 144 = .ok (.putfield 58, 3) := by decide +kernel
theorem dX10_init_147 : decode cX10_init 147 = .ok (.aload_n 0, 1) := by decide +kernel
theorem dX10_init_148 : decode cX10_init 148 = .ok (.sipush 32000, 3) := by decide +kernel
theorem dX10_init_151 : decode cX10_init 151 = .ok (.newarray .int, 2) := by decide +kernel
theorem dX10_init_153 : decode cX10_init 153 = .ok (.putfield 61, 3) := by decide +kernel
theorem dX10_init_156 : decode cX10_init 156 = .ok (.aload_n 0, 1) := by decide +kernel
theorem dX10_init_157 : decode cX10_init 157 = .ok (.sipush 32000, 3) := by decide +kernel
theorem dX10_init_160 : decode cX10_init 160 = .ok (.newarray .int, 2) := by decide +kernel
theorem dX10_init_162 : decode cX10_init 162 = .ok (.putfield 64, 3) := by decide +kernel
theorem dX10_init_165 : decode cX10_init 165 = .ok (.aload_n 0, 1) := by decide +kernel
theorem dX10_init_166 : decode cX10_init 166 = .ok (.sipush 32000, 3) := by decide +kernel
theorem dX10_init_169 : decode cX10_init 169 = .ok (.newarray .int, 2) := by decide +kernel
theorem dX10_init_171 : decode cX10_init 171 = .ok (.putfield 67, 3) := by decide +kernel
theorem dX10_init_174 : decode cX10_init 174 = .ok (.aload_n 0, 1) := by decide +kernel
theorem dX10_init_175 : decode cX10_init 175 = .ok (.bipush 64, 2) := by decide +kernel
theorem dX10_init_177 : decode cX10_init 177 = .ok (.newarray .int, 2) := by decide +kernel
theorem dX10_init_179 : decode cX10_init 179 = .ok (.putfield 70, 3) := by decide +kernel
theorem dX10_init_182 : decode cX10_init 182 = .ok (.aload_n 0, 1) := by decide +kernel
theorem dX10_init_183 : decode cX10_init 183 = .ok (.bipush 49, 2) := by decide +kernel
theorem dX10_init_185 : decode cX10_init 185 = .ok (.newarray .boolean, 2) := by decide +kernel
theorem dX10_init_187 : decode cX10_init 187 = .ok (.putfield 73, 3) := by decide +kernel
theorem dX10_init_190 : decode cX10_init 190 = .ok (.aload_n 0, 1) := by decide +kernel
theorem dX10_init_191 : decode cX10_init 191 = .ok (.bipush 16, 2) := by decide +kernel
theorem dX10_init_193 : decode cX10_init 193 = .ok (.newarray .int, 2) := by decide +kernel
theorem dX10_init_195 : decode cX10_init 195 = .ok (.putfield 77, 3) := by decide +kernel
theorem dX10_init_198 : decode cX10_init 198 = .ok (.aload_n 0, 1) := by decide +kernel
theorem dX10_init_199 : decode cX10_init 199 = .ok (.sipush 29498, 3) := by decide +kernel
theorem dX10_init_202 : decode cX10_init 202 = .ok (.newarray .int, 2) := by decide +kernel
theorem dX10_init_204 : decode cX10_init 204 = .ok (.putfield 80, 3) := by decide +kernel
theorem dX10_init_207 : decode cX10_init 207 = .ok (.aload_n 0, 1) := by decide +kernel
theorem dX10_init_208 : decode cX10_init 208 = .ok (.sipush 9632, 3) := by decide +kernel
theorem dX10_init_211 : decode cX10_init 211 = .ok (.newarray .int, 2) := by decide +kernel
theorem dX10_init_213 : decode cX10_init 213 = .ok (.putfield 83, 3) := by decide +kernel
theorem dX10_init_216 : decode cX10_init 216 = .ok (.aload_n 0, 1) := by decide +kernel
theorem dX10_init_217 : decode cX10_init 217 = .ok (.sipush 602, 3) := by decide +kernel
theorem dX10_init_220 : decode cX10_init 220 = .ok (.newarray .int, 2) := by decide +kernel
theorem dX10_init_222 : decode cX10_init 222 = .ok (.putfield 86, 3) := by decide +kernel
theorem dX10_init_225 : decode cX10_init 225 = .ok (.aload_n 0, 1) := by decide +kernel
theorem dX10_init_226 : decode cX10_init 226 = .ok (.sipush 600, 3) := by decide +kernel
theorem dX10_init_229 : decode cX10_init 229 = .ok (.newarray .int, 2) := by decide +kernel
theorem dX10_init_231 : decode cX10_init 231 = .ok (.putfield 89, 3) := by decide +kernel
theorem dX10_init_234 : decode cX10_init 234 = .ok (.aload_n 0, 1) := by decide +kernel
theorem dX10_init_235 : decode cX10_init 235 = .ok (.sipush 600, 3) := by decide +kernel
theorem dX10_init_238 : decode cX10_init 238 = .ok (.newarray .int, 2) := by decide +kernel
theorem dX10_init_240 : decode cX10_init 240 = .ok (.putfield 92, 3) := by decide +kernel
theorem dX10_init_243 : decode cX10_init 243 = .ok (.aload_n 0, 1) := by decide +kernel
theorem dX10_init_244 : decode cX10_init 244 = .ok (.sipush 600, 3) := by decide +kernel
theorem dX10_init_247 : decode cX10_init 247 = .ok (.newarray .int, 2) := by decide +kernel
theorem dX10_init_249 : decode cX10_init 249 = .ok (.putfield 95, 3) := by decide +kernel
theorem dX10_init_252 : decode cX10_init 252 = .ok (.aload_n 0, 1) := by decide +kernel
theorem dX10_init_253 : decode cX10_init 253 = .ok (.sipush 600, 3) := by decide +kernel
theorem dX10_init_256 : decode cX10_init 256 = .ok (.newarray .int, 2) := by decide +kernel
theorem dX10_init_258 : decode cX10_init 258 = .ok (.putfield 98, 3) := by decide +kernel
theorem dX10_init_261 : decode cX10_init 261 = .ok (.aload_n 0, 1) := by decide +kernel
theorem dX10_init_262 : decode cX10_init 262 = .ok (.sipush 600, 3) := by decide +kernel
theorem dX10_init_265 : decode cX10_init 265 = .ok (.newarray .boolean, 2) := by decide +kernel
theorem dX10_init_267 : decode cX10_init 267 = .ok (.putfield 101, 3) := by decide +kernel
theorem dX10_init_270 : decode cX10_init 270 = .ok (.aload_n 0, 1) := by decide +kernel
theorem dX10_init_271 : decode cX10_init 271 = .ok (.sipush 500, 3) := by decide +kernel
theorem dX10_init_274 : decode cX10_init 274 = .ok (.putfield 104, 3) := by decide +kernel
theorem dX10_init_277 : decode cX10_init 277 = .ok (.aload_n 0, 1) := by decide +kernel
theorem dX10_init_278 : decode cX10_init 278 = .ok (.sipush 1100, 3) := by decide +kernel
theorem dX10_init_281 : decode cX10_init 281 = .ok (.newarray .int, 2) := by decide +kernel
theorem dX10_init_283 : decode cX10_init 283 = .ok (.putfield 108, 3) := by decide +kernel
theorem dX10_init_286 : decode cX10_init 286 = .ok (.aload_n 0, 1) := by decide +kernel
theorem dX10_init_287 : decode cX10_init 287 = .ok (.sipush 1100, 3) := by decide +kernel
theorem dX10_init_290 : decode cX10_init 290 = .ok (.newarray .int, 2) := by decide +kernel
theorem dX10_init_292 : decode cX10_init 292 = .ok (.putfield 111, 3) := by decide +kernel
theorem dX10_init_295 : decode cX10_init 295 = .ok (.aload_n 0, 1) := by decide +kernel
theorem dX10_init_296 : decode cX10_init 296 = .ok (.sipush 1100, 3) := by decide +kernel
theorem dX10_init_299 : decode cX10_init 299 = .ok (.newarray .int, 2) := by decide +kernel
theorem dX10_init_301 : decode cX10_init 301 = .ok (.putfield 114, 3) := by decide +kernel
theorem dX10_init_304 : decode cX10_init 304 = .ok (.aload_n 0, 1) := by decide +kernel
theorem dX10_init_305 : decode cX10_init 305 = .ok (.sipush 1100, 3) := by decide +kernel
theorem dX10_init_308 : decode cX10_init 308 = .ok (.newarray .int, 2) := by decide +kernel
theorem dX10_init_310 : decode cX10_init 310 = .ok (.putfield 117, 3) := by decide +kernel
theorem dX10_init_313 : decode cX10_init 313 = .ok (.aload_n 0, 1) := by decide +kernel
theorem dX10_init_314 : decode cX10_init 314 = .ok (.sipush 1100, 3) := by decide +kernel
theorem dX10_init_317 : decode cX10_init 317 = .ok (.newarray .int, 2) := by decide +kernel
theorem dX10_init_319 : decode cX10_init 319 = .ok (.putfield 120, 3) := by decide +kernel
theorem dX10_init_322 : decode cX10_init 322 = .ok (.aload_n 0, 1) := by decide +kernel
theorem dX10_init_323 : decode cX10_init 323 = .ok (.sipush 1100, 3) := by decide +kernel
theorem dX10_init_326 : decode cX10_init 326 = .ok (.newarray .int, 2) := by decide +kernel
theorem dX10_init_328 : decode cX10_init 328 = .ok (.putfield 123, 3) := by decide +kernel
theorem dX10_init_331 : decode cX10_init 331 = .ok (.aload_n 0, 1) := by decide +kernel
theorem dX10_init_332 : decode cX10_init 332 = .ok (.bipush 16, 2) := by decide +kernel
theorem dX10_init_334 : decode cX10_init 334 = .ok (.newarray .int, 2) := by decide +kernel
theorem dX10_init_336 : decode cX10_init 336 = .ok (.putfield 126, 3) := by decide +kernel
theorem dX10_init_339 : decode cX10_init 339 = .ok (.aload_n 0, 1) := by decide +kernel
theorem dX10_init_340 : decode cX10_init 340 = .ok (.bipush 16, 2) := by decide +kernel
theorem dX10_init_342 : decode cX10_init 342 = .ok (.newarray .int, 2) := by decide +kernel
theorem dX10_init_344 : decode cX10_init 344 = .ok (.putfield 129, 3) := by decide +kernel
theorem dX10_init_347 : decode cX10_init 347 = .ok (.aload_n 0, 1) := by decide +kernel
theorem dX10_init_348 : decode cX10_init 348 = .ok (.sipush 2000, 3) := by decide +kernel
theorem dX10_init_351 : decode cX10_init 351 = .ok (.newarray .int, 2) := by decide +kernel
theorem dX10_init_353 : decode cX10_init 353 = .ok (.putfield 132, 3) := by decide +kernel
theorem dX10_init_356 : decode cX10_init 356 = .ok (.aload_n 0, 1) := by decide +kernel
theorem dX10_init_357 : decode cX10_init 357 = .ok (.iload_n 1, 1) := by decide +kernel
theorem dX10_init_358 : decode cX10_init 358 = .ok (.i2l, 1) := by decide +kernel
theorem dX10_init_359 : decode cX10_init 359 = .ok (.ldc2_w 135, 3) := by decide +kernel
theorem dX10_init_362 : decode cX10_init 362 = .ok (.ldc2_w 137, 3) := by decide +kernel
theorem dX10_init_365 : decode cX10_init 365 = .ok (.invokestatic 139, 3) := by decide +kernel
theorem dX10_init_368 : decode cX10_init 368 = .ok (.ifCond .eq 7, 3) := by decide +kernel
theorem dX10_init_371 : decode cX10_init 371 = .ok (.iload_n 1, 1) := by decide +kernel
theorem dX10_init_372 : decode cX10_init 372 = .ok (.goto 4, 3) := by decide +kernel
theorem dX10_init_375 : decode cX10_init 375 = .ok (.iconst 5, 1) := by decide +kernel
theorem dX10_init_376 : decode cX10_init 376 = .ok (.putfield 143, 3) := by decide +kernel
theorem dX10_init_379 : decode cX10_init 379 = .ok (.iconst 0, 1) := by decide +kernel
theorem dX10_init_380 : decode cX10_init 380 = .ok (.istore_n 2, 1) := by decide +kernel
theorem dX10_init_381 : decode cX10_init 381 = .ok (.iload_n 2, 1) := by decide +kernel
theorem dX10_init_382 : decode cX10_init 382 = .ok (.bipush 7, 2) := by decide +kernel
theorem dX10_init_384 : decode cX10_init 384 = .ok (.if_icmp .ge 16, 3) := by decide +kernel
theorem dX10_init_387 : decode cX10_init 387 = .ok (.aload_n 0, 1) := by decide +kernel
theorem dX10_init_388 : decode cX10_init 388 = .ok (.getfield 19, 3) := by decide +kernel
theorem dX10_init_391 : decode cX10_init 391 = .ok (.iload_n 2, 1) := by decide +kernel
theorem dX10_init_392 : decode cX10_init 392 = .ok (.iconst (-1), 1) := by decide +kernel
theorem dX10_init_393 : decode cX10_init 393 = .ok (.iastore, 1) := by decide +kernel
theorem dX10_init_394 : decode cX10_init 394 = .ok (.iinc 2 1, 3) := by decide +kernel
theorem dX10_init_397 : decode cX10_init 397 = .ok (.goto (-16), 3) := by decide +kernel
theorem dX10_init_400 : decode cX10_init 400 = .ok (.aload_n 0, 1) := by decide +kernel
theorem dX10_init_401 : decode cX10_init 401 = .ok (.iconst 0, 1) := by decide +kernel
theorem dX10_init_402 : decode cX10_init 402 = .ok (.sipush 255, 3) := by decide +kernel
theorem dX10_init_405 : decode cX10_init 405 = .ok (.iconst 0, 1) := by decide +kernel
theorem dX10_init_406 : decode cX10_init 406 = .ok (.iconst 0, 1) := by decide +kernel
theorem dX10_init_407 : decode cX10_init 407 = .ok (.iconst 0, 1) := by decide +kernel
theorem dX10_init_408 : decode cX10_init 408 = .ok (.iconst 0, 1) := by decide +kernel
theorem dX10_init_409 : decode cX10_init 409 = .ok (.invokevirtual 146, 3) := by decide +kernel
theorem dX10_init_412 : decode cX10_init 412 = .ok (.aload_n 0, 1) := by decide +kernel
theorem dX10_init_413 : decode cX10_init 413 = .ok (.iconst 1, 1) := by decide +kernel
theorem dX10_init_414 : decode cX10_init 414 = .ok (.iconst 1, 1) := by decide +kernel
theorem dX10_init_415 : decode cX10_init 415 = .ok (.iconst 0, 1) := by decide +kernel
theorem dX10_init_416 : decode cX10_init 416 = .ok (.sipush 215, 3) := by decide +kernel
theorem dX10_init_419 : decode cX10_init 419 = .ok (.iconst 0, 1) := by decide +kernel
theorem dX10_init_420 : decode cX10_init 420 = .ok (.iconst 3, 1) := by decide +kernel
theorem dX10_init_421 : decode cX10_init 421 = .ok (.invokevirtual 146, 3) := by decide +kernel
theorem dX10_init_424 : decode cX10_init 424 = .ok (.aload_n 0, 1) := by decide +kernel
theorem dX10_init_425 : decode cX10_init 425 = .ok (.iconst 2, 1) := by decide +kernel
theorem dX10_init_426 : decode cX10_init 426 = .ok (.sipush 171, 3) := by decide +kernel
theorem dX10_init_429 : decode cX10_init 429 = .ok (.iconst 0, 1) := by decide +kernel
theorem dX10_init_430 : decode cX10_init 430 = .ok (.sipush 215, 3) := by decide +kernel
theorem dX10_init_433 : decode cX10_init 433 = .ok (.iconst 0, 1) := by decide +kernel
theorem dX10_init_434 : decode cX10_init 434 = .ok (.iconst 0, 1) := by decide +kernel
theorem dX10_init_435 : decode cX10_init 435 = .ok (.invokevirtual 146, 3) := by decide +kernel
theorem dX10_init_438 : decode cX10_init 438 = .ok (.aload_n 0, 1) := by decide +kernel
theorem dX10_init_439 : decode cX10_init 439 = .ok (.iconst 3, 1) := by decide +kernel
theorem dX10_init_440 : decode cX10_init 440 = .ok (.sipush 215, 3) := by decide +kernel
theorem dX10_init_443 : decode cX10_init 443 = .ok (.iconst 0, 1) := by decide +kernel
theorem dX10_init_444 : decode cX10_init 444 = .ok (.iconst 0, 1) := by decide +kernel
theorem dX10_init_445 : decode cX10_init 445 = .ok (.iconst 0, 1) := by decide +kernel
theorem dX10_init_446 : decode cX10_init 446 = .ok (.iconst 0, 1) := by decide +kernel
theorem dX10_init_447 : decode cX10_init 447 = .ok (.invokevirtual 146, 3) := by decide +kernel
theorem dX10_init_450 : decode cX10_init 450 = .ok (.aload_n 0, 1) := by decide +kernel
theorem dX10_init_451 : decode cX10_init 451 = .ok (.iconst 4, 1) := by decide +kernel
theorem dX10_init_452 : decode cX10_init 452 = .ok (.iconst 0, 1) := by decide +kernel
theorem dX10_init_453 : decode cX10_init 453 = .ok (.bipush 85, 2) := by decide +kernel
theorem dX10_init_455 : decode cX10_init 455 = .ok (.sipush 170, 3) := by decide +kernel
theorem dX10_init_458 : decode cX10_init 458 = .ok (.bipush 85, 2) := by decide +kernel
theorem dX10_init_460 : decode cX10_init 460 = .ok (.iconst 0, 1) := by decide +kernel
theorem dX10_init_461 : decode cX10_init 461 = .ok (.invokevirtual 146, 3) := by decide +kernel
theorem dX10_init_464 : decode cX10_init 464 = .ok (.aload_n 0, 1) := by decide +kernel
theorem dX10_init_465 : decode cX10_init 465 = .ok (.iconst 5, 1) := by decide +kernel
theorem dX10_init_466 : decode cX10_init 466 = .ok (.iconst 0, 1) := by decide +kernel
theorem dX10_init_467 : decode cX10_init 467 = .ok (.sipush 170, 3) := by decide +kernel
theorem dX10_init_470 : decode cX10_init 470 = .ok (.bipush 85, 2) := by decide +kernel
theorem dX10_init_472 : decode cX10_init 472 = .ok (.sipush 170, 3) := by decide +kernel
theorem dX10_init_475 : decode cX10_init 475 = .ok (.iconst 0, 1) := by decide +kernel
theorem dX10_init_476 : decode cX10_init 476 = .ok (.invokevirtual 146, 3) := by decide +kernel
theorem dX10_init_479 : decode cX10_init 479 = .ok (.aload_n 0, 1) := by decide +kernel
theorem dX10_init_480 : decode cX10_init 480 = .ok (.bipush 6, 2) := by decide +kernel
theorem dX10_init_482 : decode cX10_init 482 = .ok (.iconst 0, 1) := by decide +kernel
theorem dX10_init_483 : decode cX10_init 483 = .ok (.iconst 1, 1) := by decide +kernel
theorem dX10_init_484 : decode cX10_init 484 = .ok (.sipush 215, 3) := by decide +kernel
theorem dX10_init_487 : decode cX10_init 487 = .ok (.iconst 0, 1) := by decide +kernel
theorem dX10_init_488 : decode cX10_init 488 = .ok (.iconst 0, 1) := by decide +kernel
theorem dX10_init_489 : decode cX10_init 489 = .ok (.invokevirtual 146, 3) := by decide +kernel
theorem dX10_init_492 : decode cX10_init 492 = .ok (.aload_n 0, 1) := by decide +kernel
theorem dX10_init_493 : decode cX10_init 493 = .ok (.bipush 7, 2) := by decide +kernel
theorem dX10_init_495 : decode cX10_init 495 = .ok (.sipush 768, 3) := by decide +kernel
theorem dX10_init_498 : decode cX10_init 498 = .ok (.iconst 0, 1) := by decide +kernel
theorem dX10_init_499 : decode cX10_init 499 = .ok (.sipush 215, 3) := by decide +kernel
theorem dX10_init_502 : decode cX10_init 502 = .ok (.iconst 0, 1) := by decide +kernel
theorem dX10_init_503 : decode cX10_init 503 = .ok (.iconst 0, 1) := by decide +kernel
theorem dX10_init_504 : decode cX10_init 504 = .ok (.invokevirtual 146, 3) := by decide +kernel
theorem dX10_init_507 : decode cX10_init 507 = .ok (.return_, 1) := by decide +kernel
theorem dX10_in_0 : decode cX10_in 0 = .ok (.lload_n 0, 1) := by decide +kernel
theorem dX10_in_1 : decode cX10_in 1 = .ok (.lload_n 2, 1) := by decide +kernel
theorem dX10_in_2 : decode cX10_in 2 = .ok (.lcmp, 1) := by decide +kernel
theorem dX10_in_3 : decode cX10_in 3 = .ok (.ifCond .lt 14, 3) := by decide +kernel
theorem dX10_in_6 : decode cX10_in 6 = .ok (.lload_n 0, 1) := by decide +kernel
theorem dX10_in_7 : decode cX10_in 7 = .ok (.lload 4, 2) := by decide +kernel
theorem dX10_in_9 : decode cX10_in 9 = .ok (.lcmp, 1) := by decide +kernel
theorem dX10_in_10 : decode cX10_in 10 = .ok (.ifCond .gt 7, 3) := by decide +kernel
theorem dX10_in_13 : decode cX10_in 13 = .ok (.iconst 1, 1) := by decide +kernel
theorem dX10_in_14 : decode cX10_in 14 = .ok (.goto 4, 3) := by decide +kernel
theorem dX10_in_17 : decode cX10_in 17 = .ok (.iconst 0, 1) := by decide +kernel
theorem dX10_in_18 : decode cX10_in 18 = .ok (.ireturn, 1) := by decide +kernel
theorem dX10_met_0 : decode cX10_met 0 = .ok (.aload_n 0, 1) := by decide +kernel
theorem dX10_met_1 : decode cX10_met 1 = .ok (.iload_n 1, 1) := by decide +kernel
theorem dX10_met_2 : decode cX10_met 2 = .ok (.putfield 150, 3) := by decide +kernel
theorem dX10_met_5 : decode cX10_met 5 = .ok (.bipush (-10), 2) := by decide +kernel
theorem dX10_met_7 : decode cX10_met 7 = .ok (.iload_n 1, 1) := by decide +kernel
theorem dX10_met_8 : decode cX10_met 8 = .ok (.isub, 1) := by decide +kernel
theorem dX10_met_9 : decode cX10_met 9 = .ok (.ireturn, 1) := by decide +kernel
theorem dX10_finding_0 : decode cX10_finding 0 = .ok (.aload_n 0, 1) := by decide +kernel
theorem dX10_finding_1 : decode cX10_finding 1 = .ok (.getfield 150, 3) := by decide +kernel
theorem dX10_finding_4 : decode cX10_finding 4 = .ok (.ireturn, 1) := by decide +kernel
theorem dX10_tell_0 : decode cX10_tell 0 = .ok (.aload_n 0, 1) := by decide +kernel
theorem dX10_tell_1 : decode cX10_tell 1 = .ok (.getfield 7, 3) := by decide +kernel
theorem dX10_tell_4 : decode cX10_tell 4 = .ok (.iload_n 1, 1) := by decide +kernel
theorem dX10_tell_5 : decode cX10_tell 5 = .ok (.iload_n 2, 1) := by decide +kernel
theorem dX10_tell_6 : decode cX10_tell 6 = .ok (.iastore, 1) := by decide +kernel
theorem dX10_tell_7 : decode cX10_tell 7 = .ok (.aload_n 0, 1) := by decide +kernel
theorem dX10_tell_8 : decode cX10_tell 8 = .ok (.getfield 13, 3) := by decide +kernel
theorem dX10_tell_11 : decode cX10_tell 11 = .ok (.iload_n 1, 1) := by decide +kernel
theorem dX10_tell_12 : decode cX10_tell 12 = .ok (.iload_n 3, 1) := by decide +kernel
theorem dX10_tell_13 : decode cX10_tell 13 = .ok (.iastore, 1) := by decide +kernel
theorem dX10_tell_14 : decode cX10_tell 14 = .ok (.aload_n 0, 1) := by decide +kernel
theorem dX10_tell_15 : decode cX10_tell 15 = .ok (.getfield 7, 3) := by decide +kernel
theorem dX10_tell_18 : decode cX10_tell 18 = .ok (.bipush 8, 2) := by decide +kernel
theorem dX10_tell_20 : decode cX10_tell 20 = .ok (.iload_n 1, 1) := by decide +kernel
theorem dX10_tell_21 : decode cX10_tell 21 = .ok (.iadd, 1) := by decide +kernel
theorem dX10_tell_22 : decode cX10_tell 22 = .ok (.iload 4, 2) := by decide +kernel
theorem dX10_tell_24 : decode cX10_tell 24 = .ok (.iastore, 1) := by decide +kernel
theorem dX10_tell_25 : decode cX10_tell 25 = .ok (.aload_n 0, 1) := by decide +kernel
theorem dX10_tell_26 : decode cX10_tell 26 = .ok (.getfield 13, 3) := by decide +kernel
theorem dX10_tell_29 : decode cX10_tell 29 = .ok (.bipush 8, 2) := by decide +kernel
theorem dX10_tell_31 : decode cX10_tell 31 = .ok (.iload_n 1, 1) := by decide +kernel
theorem dX10_tell_32 : decode cX10_tell 32 = .ok (.iadd, 1) := by decide +kernel
theorem dX10_tell_33 : decode cX10_tell 33 = .ok (.iload 5, 2) := by decide +kernel
theorem dX10_tell_35 : decode cX10_tell 35 = .ok (.iastore, 1) := by decide +kernel
theorem dX10_tell_36 : decode cX10_tell 36 = .ok (.aload_n 0, 1) := by decide +kernel
theorem dX10_tell_37 : decode cX10_tell 37 = .ok (.getfield 16, 3) := by decide +kernel
theorem dX10_tell_40 : decode cX10_tell 40 = .ok (.iload_n 1, 1) := by decide +kernel
theorem dX10_tell_41 : decode cX10_tell 41 = .ok (.iload 6, 2) := by decide +kernel
theorem dX10_tell_43 : decode cX10_tell 43 = .ok (.iastore, 1) := by decide +kernel
theorem dX10_tell_44 : decode cX10_tell 44 = .ok (.return_, 1) := by decide +kernel
theorem dX10_kind_0 : decode cX10_kind 0 = .ok (.iload_n 1, 1) := by decide +kernel
theorem dX10_kind_1 : decode cX10_kind 1 = .ok (.i2l, 1) := by decide +kernel
theorem dX10_kind_2 : decode cX10_kind 2 = .ok (.lconst 0, 1) := by decide +kernel
theorem dX10_kind_3 : decode cX10_kind 3 = .ok (.ldc2_w 137, 3) := by decide +kernel
theorem dX10_kind_6 : decode cX10_kind 6 = .ok (.invokestatic 139, 3) := by decide +kernel
theorem dX10_kind_9 : decode cX10_kind 9 = .ok (.ifCond .eq 70, 3) := by decide +kernel
theorem dX10_kind_12 : decode cX10_kind 12 = .ok (.iload_n 2, 1) := by decide +kernel
theorem dX10_kind_13 : decode cX10_kind 13 = .ok (.i2l, 1) := by decide +kernel
theorem dX10_kind_14 : decode cX10_kind 14 = .ok (.lconst 0, 1) := by decide +kernel
theorem dX10_kind_15 : decode cX10_kind 15 = .ok (.ldc2_w 153, 3) := by decide +kernel
theorem dX10_kind_18 : decode cX10_kind 18 = .ok (.invokestatic 139, 3) := by decide +kernel
theorem dX10_kind_21 : decode cX10_kind 21 = .ok (.ifCond .eq 58, 3) := by decide +kernel
theorem dX10_kind_24 : decode cX10_kind 24 = .ok (.iload_n 3, 1) := by decide +kernel
theorem dX10_kind_25 : decode cX10_kind 25 = .ok (.i2l, 1) := by decide +kernel
theorem dX10_kind_26 : decode cX10_kind 26 = .ok (.lconst 0, 1) := by decide +kernel
theorem dX10_kind_27 : decode cX10_kind 27 = .ok (.ldc2_w 155, 3) := by decide +kernel
theorem dX10_kind_30 : decode cX10_kind 30 = .ok (.invokestatic 139, 3) := by decide +kernel
theorem dX10_kind_33 : decode cX10_kind 33 = .ok (.ifCond .eq 46, 3) := by decide +kernel
theorem dX10_kind_36 : decode cX10_kind 36 = .ok (.iload 4, 2) := by decide +kernel
theorem dX10_kind_38 : decode cX10_kind 38 = .ok (.i2l, 1) := by decide +kernel
theorem dX10_kind_39 : decode cX10_kind 39 = .ok (.lconst 0, 1) := by decide +kernel
theorem dX10_kind_40 : decode cX10_kind 40 = .ok (.ldc2_w 153, 3) := by decide +kernel
theorem dX10_kind_43 : decode cX10_kind 43 = .ok (.invokestatic 139, 3) := by decide +kernel
theorem dX10_kind_46 : decode cX10_kind 46 = .ok (.ifCond .eq 33, 3) := by decide +kernel
theorem dX10_kind_49 : decode cX10_kind 49 = .ok (.iload 5, 2) := by decide +kernel
theorem dX10_kind_51 : decode cX10_kind 51 = .ok (.i2l, 1) := by decide +kernel
theorem dX10_kind_52 : decode cX10_kind 52 = .ok (.lconst 0, 1) := by decide +kernel
theorem dX10_kind_53 : decode cX10_kind 53 = .ok (.ldc2_w 155, 3) := by decide +kernel
theorem dX10_kind_56 : decode cX10_kind 56 = .ok (.invokestatic 139, 3) := by decide +kernel
theorem dX10_kind_59 : decode cX10_kind 59 = .ok (.ifCond .eq 20, 3) := by decide +kernel
theorem dX10_kind_62 : decode cX10_kind 62 = .ok (.iload 6, 2) := by decide +kernel
theorem dX10_kind_64 : decode cX10_kind 64 = .ok (.i2l, 1) := by decide +kernel
theorem dX10_kind_65 : decode cX10_kind 65 = .ok (.lconst 0, 1) := by decide +kernel
theorem dX10_kind_66 : decode cX10_kind 66 = .ok (.ldc2_w 157, 3) := by decide +kernel
theorem dX10_kind_69 : decode cX10_kind 69 = .ok (.invokestatic 139, 3) := by decide +kernel
theorem dX10_kind_72 : decode cX10_kind 72 = .ok (.ifCond .eq 7, 3) := by decide +kernel
theorem dX10_kind_75 : decode cX10_kind 75 = .ok (.iconst 1, 1) := by decide +kernel
theorem dX10_kind_76 : decode cX10_kind 76 = .ok (.goto 4, 3) := by decide +kernel
theorem dX10_kind_79 : decode cX10_kind 79 = .ok (.iconst 0, 1) := by decide +kernel
theorem dX10_kind_80 : decode cX10_kind 80 = .ok (.istore 7, 2) := by decide +kernel
theorem dX10_kind_82 : decode cX10_kind 82 = .ok (.iload 7, 2) := by decide +kernel
theorem dX10_kind_84 : decode cX10_kind 84 = .ok (.ifCond .eq 22, 3) := by decide +kernel
theorem dX10_kind_87 : decode cX10_kind 87 = .ok (.iload_n 1, 1) := by decide +kernel
theorem dX10_kind_88 : decode cX10_kind 88 = .ok (.ifCond .ne 21, 3) := by decide +kernel
theorem dX10_kind_91 : decode cX10_kind 91 = .ok (.iload 6, 2) := by decide +kernel
theorem dX10_kind_93 : decode cX10_kind 93 = .ok (.ifCond .gt 13, 3) := by decide +kernel
theorem dX10_kind_96 : decode cX10_kind 96 = .ok (.iload 4, 2) := by decide +kernel
theorem dX10_kind_98 : decode cX10_kind 98 = .ok (.ifCond .gt 8, 3) := by decide +kernel
theorem dX10_kind_101 : decode cX10_kind 101 = .ok (.iload 5, 2) := by decide +kernel
theorem dX10_kind_103 : decode cX10_kind 103 = .ok (.ifCond .le 6, 3) := by decide +kernel
theorem dX10_kind_106 : decode cX10_kind 106 = .ok (.bipush (-2), 2) := by decide +kernel
theorem dX10_kind_108 : decode cX10_kind 108 = .ok (.ireturn, 1) := by decide +kernel
theorem dX10_kind_109 : decode cX10_kind 109 = .ok (.aload_n 0, 1) := by decide +kernel
theorem dX10_kind_110 : decode cX10_kind 110 = .ok (.getfield 159, 3) := by decide +kernel
theorem dX10_kind_113 : decode cX10_kind 113 = .ok (.ifCond .eq 6, 3) := by decide +kernel
theorem dX10_kind_116 : decode cX10_kind 116 = .ok (.bipush (-3), 2) := by decide +kernel
theorem dX10_kind_118 : decode cX10_kind 118 = .ok (.ireturn, 1) := by decide +kernel
theorem dX10_kind_119 : decode cX10_kind 119 = .ok (.aload_n 0, 1) := by decide +kernel
theorem dX10_kind_120 : decode cX10_kind 120 = .ok (.iload_n 1, 1) := by decide +kernel
theorem dX10_kind_121 : decode cX10_kind 121 = .ok (.iload_n 2, 1) := by decide +kernel
theorem dX10_kind_122 : decode cX10_kind 122 = .ok (.iload_n 3, 1) := by decide +kernel
theorem dX10_kind_123 : decode cX10_kind 123 = .ok (.iload 4, 2) := by decide +kernel
theorem dX10_kind_125 : decode cX10_kind 125 = .ok (.iload 5, 2) := by decide +kernel
theorem dX10_kind_127 : decode cX10_kind 127 = .ok (.iload 6, 2) := by decide +kernel
theorem dX10_kind_129 : decode cX10_kind 129 = .ok (.invokevirtual 146, 3) := by decide +kernel
theorem dX10_kind_132 : decode cX10_kind 132 = .ok (.iconst 1, 1) := by decide +kernel
theorem dX10_kind_133 : decode cX10_kind 133 = .ok (.ireturn, 1) := by decide +kernel
theorem dX10_mayRaise_0 : decode cX10_mayRaise 0 = .ok (.aload_n 0, 1) := by decide +kernel
theorem dX10_mayRaise_1 : decode cX10_mayRaise 1 = .ok (.getfield 7, 3) := by decide +kernel
theorem dX10_mayRaise_4 : decode cX10_mayRaise 4 = .ok (.bipush 8, 2) := by decide +kernel
theorem dX10_mayRaise_6 : decode cX10_mayRaise 6 = .ok (.iload_n 1, 1) := by decide +kernel
theorem dX10_mayRaise_7 : decode cX10_mayRaise 7 = .ok (.iadd, 1) := by decide +kernel
theorem dX10_mayRaise_8 : decode cX10_mayRaise 8 = .ok (.iaload, 1) := by decide +kernel
theorem dX10_mayRaise_9 : decode cX10_mayRaise 9 = .ok (.ifCond .ne 15, 3) := by decide +kernel
theorem dX10_mayRaise_12 : decode cX10_mayRaise 12 = .ok (.aload_n 0, 1) := by decide +kernel
theorem dX10_mayRaise_13 : decode cX10_mayRaise 13 = .ok (.getfield 13, 3) := by decide +kernel
theorem dX10_mayRaise_16 : decode cX10_mayRaise 16 = .ok (.bipush 8, 2) := by decide +kernel
theorem dX10_mayRaise_18 : decode cX10_mayRaise 18 = .ok (.iload_n 1, 1) := by decide +kernel
theorem dX10_mayRaise_19 : decode cX10_mayRaise 19 = .ok (.iadd, 1) := by decide +kernel
theorem dX10_mayRaise_20 : decode cX10_mayRaise 20 = .ok (.iaload, 1) := by decide +kernel
theorem dX10_mayRaise_21 : decode cX10_mayRaise 21 = .ok (.ifCond .eq 7, 3) := by decide +kernel
theorem dX10_mayRaise_24 : decode cX10_mayRaise 24 = .ok (.iconst 1, 1) := by decide +kernel
theorem dX10_mayRaise_25 : decode cX10_mayRaise 25 = .ok (.goto 4, 3) := by decide +kernel
theorem dX10_mayRaise_28 : decode cX10_mayRaise 28 = .ok (.iconst 0, 1) := by decide +kernel
theorem dX10_mayRaise_29 : decode cX10_mayRaise 29 = .ok (.ireturn, 1) := by decide +kernel
theorem dX10_isLine_0 : decode cX10_isLine 0 = .ok (.iload_n 1, 1) := by decide +kernel
theorem dX10_isLine_1 : decode cX10_isLine 1 = .ok (.i2l, 1) := by decide +kernel
theorem dX10_isLine_2 : decode cX10_isLine 2 = .ok (.lconst 0, 1) := by decide +kernel
theorem dX10_isLine_3 : decode cX10_isLine 3 = .ok (.aload_n 0, 1) := by decide +kernel
theorem dX10_isLine_4 : decode cX10_isLine 4 = .ok (.getfield 143, 3) := by decide +kernel
theorem dX10_isLine_7 : decode cX10_isLine 7 = .ok (.iconst 1, 1) := by decide +kernel
theorem dX10_isLine_8 : decode cX10_isLine 8 = .ok (.isub, 1) := by decide +kernel
theorem dX10_isLine_9 : decode cX10_isLine 9 = .ok (.i2l, 1) := by decide +kernel
theorem dX10_isLine_10 : decode cX10_isLine 10 = .ok (.invokestatic 139, 3) := by decide +kernel
theorem dX10_isLine_13 : decode cX10_isLine 13 = .ok (.ireturn, 1) := by decide +kernel
theorem dX10_line_0 : decode cX10_line 0 = .ok (.aload_n 0, 1) := by decide +kernel
theorem dX10_line_1 : decode cX10_line 1 = .ok (.iload_n 1, 1) := by decide +kernel
theorem dX10_line_2 : decode cX10_line 2 = .ok (.invokevirtual 163, 3) := by decide +kernel
theorem dX10_line_5 : decode cX10_line 5 = .ok (.ifCond .eq 21, 3) := by decide +kernel
theorem dX10_line_8 : decode cX10_line 8 = .ok (.iload_n 2, 1) := by decide +kernel
theorem dX10_line_9 : decode cX10_line 9 = .ok (.i2l, 1) := by decide +kernel
theorem dX10_line_10 : decode cX10_line 10 = .ok (.lconst 0, 1) := by decide +kernel
theorem dX10_line_11 : decode cX10_line 11 = .ok (.ldc2_w 167, 3) := by decide +kernel
theorem dX10_line_14 : decode cX10_line 14 = .ok (.invokestatic 139, 3) := by decide +kernel
theorem dX10_line_17 : decode cX10_line 17 = .ok (.ifCond .eq 9, 3) := by decide +kernel
theorem dX10_line_20 : decode cX10_line 20 = .ok (.iload_n 3, 1) := by decide +kernel
theorem dX10_line_21 : decode cX10_line 21 = .ok (.bipush 12, 2) := by decide +kernel
theorem dX10_line_23 : decode cX10_line 23 = .ok (.if_icmp .le 6, 3) := by decide +kernel
theorem dX10_line_26 : decode cX10_line 26 = .ok (.bipush (-2), 2) := by decide +kernel
theorem dX10_line_28 : decode cX10_line 28 = .ok (.ireturn, 1) := by decide +kernel
theorem dX10_line_29 : decode cX10_line 29 = .ok (.iload_n 3, 1) := by decide +kernel
theorem dX10_line_30 : decode cX10_line 30 = .ok (.ifCond .ge 9, 3) := by decide +kernel
theorem dX10_line_33 : decode cX10_line 33 = .ok (.aload_n 0, 1) := by decide +kernel
theorem dX10_line_34 : decode cX10_line 34 = .ok (.iconst 5, 1) := by decide +kernel
theorem dX10_line_35 : decode cX10_line 35 = .ok (.invokevirtual 169, 3) := by decide +kernel
theorem dX10_line_38 : decode cX10_line 38 = .ok (.ireturn, 1) := by decide +kernel
theorem dX10_line_39 : decode cX10_line 39 = .ok (.aload_n 0, 1) := by decide +kernel
theorem dX10_line_40 : decode cX10_line 40 = .ok (.getfield 19, 3) := by decide +kernel
theorem dX10_line_43 : decode cX10_line 43 = .ok (.iload_n 1, 1) := by decide +kernel
theorem dX10_line_44 : decode cX10_line 44 = .ok (.iload_n 2, 1) := by decide +kernel
theorem dX10_line_45 : decode cX10_line 45 = .ok (.iastore, 1) := by decide +kernel
theorem dX10_line_46 : decode cX10_line 46 = .ok (.aload_n 0, 1) := by decide +kernel
theorem dX10_line_47 : decode cX10_line 47 = .ok (.getfield 22, 3) := by decide +kernel
theorem dX10_line_50 : decode cX10_line 50 = .ok (.iload_n 1, 1) := by decide +kernel
theorem dX10_line_51 : decode cX10_line 51 = .ok (.iload_n 3, 1) := by decide +kernel
theorem dX10_line_52 : decode cX10_line 52 = .ok (.iastore, 1) := by decide +kernel
theorem dX10_line_53 : decode cX10_line 53 = .ok (.iconst 0, 1) := by decide +kernel
theorem dX10_line_54 : decode cX10_line 54 = .ok (.istore 4, 2) := by decide +kernel
theorem dX10_line_56 : decode cX10_line 56 = .ok (.iload 4, 2) := by decide +kernel
theorem dX10_line_58 : decode cX10_line 58 = .ok (.iload_n 3, 1) := by decide +kernel
theorem dX10_line_59 : decode cX10_line 59 = .ok (.if_icmp .ge 22, 3) := by decide +kernel
theorem dX10_line_62 : decode cX10_line 62 = .ok (.aload_n 0, 1) := by decide +kernel
theorem dX10_line_63 : decode cX10_line 63 = .ok (.getfield 25, 3) := by decide +kernel
theorem dX10_line_66 : decode cX10_line 66 = .ok (.bipush 12, 2) := by decide +kernel
theorem dX10_line_68 : decode cX10_line 68 = .ok (.iload_n 1, 1) := by decide +kernel
theorem dX10_line_69 : decode cX10_line 69 = .ok (.imul, 1) := by decide +kernel
theorem dX10_line_70 : decode cX10_line 70 = .ok (.iload 4, 2) := by decide +kernel
theorem dX10_line_72 : decode cX10_line 72 = .ok (.iadd, 1) := by decide +kernel
theorem dX10_line_73 : decode cX10_line 73 = .ok (.iconst 0, 1) := by decide +kernel
theorem dX10_line_74 : decode cX10_line 74 = .ok (.iastore, 1) := by decide +kernel
theorem dX10_line_75 : decode cX10_line 75 = .ok (.iinc 4 1, 3) := by decide +kernel
theorem dX10_line_78 : decode cX10_line 78 = .ok (.goto (-22), 3) := by decide +kernel
theorem dX10_line_81 : decode cX10_line 81 = .ok (.iload_n 3, 1) := by decide +kernel
theorem dX10_line_82 : decode cX10_line 82 = .ok (.ireturn, 1) := by decide +kernel
theorem dX10_lose_0 : decode cX10_lose 0 = .ok (.aload_n 0, 1) := by decide +kernel
theorem dX10_lose_1 : decode cX10_lose 1 = .ok (.iload_n 1, 1) := by decide +kernel
theorem dX10_lose_2 : decode cX10_lose 2 = .ok (.invokevirtual 163, 3) := by decide +kernel
theorem dX10_lose_5 : decode cX10_lose 5 = .ok (.ifCond .ne 6, 3) := by decide +kernel
theorem dX10_lose_8 : decode cX10_lose 8 = .ok (.bipush (-2), 2) := by decide +kernel
theorem dX10_lose_10 : decode cX10_lose 10 = .ok (.ireturn, 1) := by decide +kernel
theorem dX10_lose_11 : decode cX10_lose 11 = .ok (.aload_n 0, 1) := by decide +kernel
theorem dX10_lose_12 : decode cX10_lose 12 = .ok (.getfield 19, 3) := by decide +kernel
theorem dX10_lose_15 : decode cX10_lose 15 = .ok (.iload_n 1, 1) := by decide +kernel
theorem dX10_lose_16 : decode cX10_lose 16 = .ok (.iaload, 1) := by decide +kernel
theorem dX10_lose_17 : decode cX10_lose 17 = .ok (.ifCond .ge 9, 3) := by decide +kernel
theorem dX10_lose_20 : decode cX10_lose 20 = .ok (.aload_n 0, 1) := by decide +kernel
theorem dX10_lose_21 : decode cX10_lose 21 = .ok (.iconst 1, 1) := by decide +kernel
theorem dX10_lose_22 : decode cX10_lose 22 = .ok (.invokevirtual 169, 3) := by decide +kernel
theorem dX10_lose_25 : decode cX10_lose 25 = .ok (.ireturn, 1) := by decide +kernel
theorem dX10_lose_26 : decode cX10_lose 26 = .ok (.aload_n 0, 1) := by decide +kernel
theorem dX10_lose_27 : decode cX10_lose 27 = .ok (.getfield 19, 3) := by decide +kernel
theorem dX10_lose_30 : decode cX10_lose 30 = .ok (.iload_n 1, 1) := by decide +kernel
theorem dX10_lose_31 : decode cX10_lose 31 = .ok (.iconst (-1), 1) := by decide +kernel
theorem dX10_lose_32 : decode cX10_lose 32 = .ok (.iastore, 1) := by decide +kernel
theorem dX10_lose_33 : decode cX10_lose 33 = .ok (.aload_n 0, 1) := by decide +kernel
theorem dX10_lose_34 : decode cX10_lose 34 = .ok (.getfield 22, 3) := by decide +kernel
theorem dX10_lose_37 : decode cX10_lose 37 = .ok (.iload_n 1, 1) := by decide +kernel
theorem dX10_lose_38 : decode cX10_lose 38 = .ok (.iaload, 1) := by decide +kernel
theorem dX10_lose_39 : decode cX10_lose 39 = .ok (.ireturn, 1) := by decide +kernel
theorem dX10_lacks_0 : decode cX10_lacks 0 = .ok (.aload_n 0, 1) := by decide +kernel
theorem dX10_lacks_1 : decode cX10_lacks 1 = .ok (.getfield 19, 3) := by decide +kernel
theorem dX10_lacks_4 : decode cX10_lacks 4 = .ok (.iload_n 1, 1) := by decide +kernel
theorem dX10_lacks_5 : decode cX10_lacks 5 = .ok (.iaload, 1) := by decide +kernel
theorem dX10_lacks_6 : decode cX10_lacks 6 = .ok (.ifCond .ge 9, 3) := by decide +kernel
theorem dX10_lacks_9 : decode cX10_lacks 9 = .ok (.aload_n 0, 1) := by decide +kernel
theorem dX10_lacks_10 : decode cX10_lacks 10 = .ok (.iconst 1, 1) := by decide +kernel
theorem dX10_lacks_11 : decode cX10_lacks 11 = .ok (.invokevirtual 169, 3) := by decide +kernel
theorem dX10_lacks_14 : decode cX10_lacks 14 = .ok (.ireturn, 1) := by decide +kernel
theorem dX10_lacks_15 : decode cX10_lacks 15 = .ok (.aload_n 0, 1) := by decide +kernel
theorem dX10_lacks_16 : decode cX10_lacks 16 = .ok (.getfield 19, 3) := by decide +kernel
theorem dX10_lacks_19 : decode cX10_lacks 19 = .ok (.iload_n 1, 1) := by decide +kernel
theorem dX10_lacks_20 : decode cX10_lacks 20 = .ok (.iaload, 1) := by decide +kernel
theorem dX10_lacks_21 : decode cX10_lacks 21 = .ok (.iload_n 2, 1) := by decide +kernel
theorem dX10_lacks_22 : decode cX10_lacks 22 = .ok (.if_icmp .eq 9, 3) := by decide +kernel
theorem dX10_lacks_25 : decode cX10_lacks 25 = .ok (.aload_n 0, 1) := by decide +kernel
theorem dX10_lacks_26 : decode cX10_lacks 26 = .ok (.iconst 3, 1) := by decide +kernel
theorem dX10_lacks_27 : decode cX10_lacks 27 = .ok (.invokevirtual 169, 3) := by decide +kernel
theorem dX10_lacks_30 : decode cX10_lacks 30 = .ok (.ireturn, 1) := by decide +kernel
theorem dX10_lacks_31 : decode cX10_lacks 31 = .ok (.iload_n 3, 1) := by decide +kernel
theorem dX10_lacks_32 : decode cX10_lacks 32 = .ok (.i2l, 1) := by decide +kernel
theorem dX10_lacks_33 : decode cX10_lacks 33 = .ok (.lconst 0, 1) := by decide +kernel
theorem dX10_lacks_34 : decode cX10_lacks 34 = .ok (.aload_n 0, 1) := by decide +kernel
