theorem dX9_lose_18 : decode cX9_lose 18 = .ok (.iload_n 1, 1) := by decide +kernel
theorem dX9_lose_19 : decode cX9_lose 19 = .ok (.invokevirtual 110, 3) := by decide +kernel
theorem dX9_lose_22 : decode cX9_lose 22 = .ok (.ifCond .eq 9, 3) := by decide +kernel
theorem dX9_lose_25 : decode cX9_lose 25 = .ok (.aload_n 0, 1) := by decide +kernel
theorem dX9_lose_26 : decode cX9_lose 26 = .ok (.iconst 1, 1) := by decide +kernel
theorem dX9_lose_27 : decode cX9_lose 27 = .ok (.invokevirtual 103, 3) := by decide +kernel
theorem dX9_lose_30 : decode cX9_lose 30 = .ok (.ireturn, 1) := by decide +kernel
theorem dX9_lose_31 : decode cX9_lose 31 = .ok (.aload_n 0, 1) := by decide +kernel
theorem dX9_lose_32 : decode cX9_lose 32 = .ok (.getfield 29, 3) := by decide +kernel
theorem dX9_lose_35 : decode cX9_lose 35 = .ok (.getfield 113, 3) := by decide +kernel
theorem dX9_lose_38 : decode cX9_lose 38 = .ok (.iload_n 1, 1) := by decide +kernel
theorem dX9_lose_39 : decode cX9_lose 39 = .ok (.iaload, 1) := by decide +kernel
theorem dX9_lose_40 : decode cX9_lose 40 = .ok (.istore_n 2, 1) := by decide +kernel
theorem dX9_lose_41 : decode cX9_lose 41 = .ok (.aload_n 0, 1) := by decide +kernel
theorem dX9_lose_42 : decode cX9_lose 42 = .ok (.getfield 29, 3) := by decide +kernel
theorem dX9_lose_45 : decode cX9_lose 45 = .ok (.getfield 113, 3) := by decide +kernel
theorem dX9_lose_48 : decode cX9_lose 48 = .ok (.iload_n 1, 1) := by decide +kernel
theorem dX9_lose_49 : decode cX9_lose 49 = .ok (.iconst (-1), 1) := by decide +kernel
theorem dX9_lose_50 : decode cX9_lose 50 = .ok (.iastore, 1) := by decide +kernel
theorem dX9_lose_51 : decode cX9_lose 51 = .ok (.iload_n 2, 1) := by decide +kernel
theorem dX9_lose_52 : decode cX9_lose 52 = .ok (.ireturn, 1) := by decide +kernel
theorem dX9_put_0 : decode cX9_put 0 = .ok (.aload_n 0, 1) := by decide +kernel
theorem dX9_put_1 : decode cX9_put 1 = .ok (.getfield 29, 3) := by decide +kernel
theorem dX9_put_4 : decode cX9_put 4 = .ok (.iload_n 1, 1) := by decide +kernel
theorem dX9_put_5 : decode cX9_put 5 = .ok (.invokevirtual 97, 3) := by decide +kernel
theorem dX9_put_8 : decode cX9_put 8 = .ok (.ifCond .eq 10, 3) := by decide +kernel
theorem dX9_put_11 : decode cX9_put 11 = .ok (.iload_n 2, 1) := by decide +kernel
theorem dX9_put_12 : decode cX9_put 12 = .ok (.invokestatic 100, 3) := by decide +kernel
theorem dX9_put_15 : decode cX9_put 15 = .ok (.ifCond .ne 6, 3) := by decide +kernel
theorem dX9_put_18 : decode cX9_put 18 = .ok (.bipush (-2), 2) := by decide +kernel
theorem dX9_put_20 : decode cX9_put 20 = .ok (.ireturn, 1) := by decide +kernel
theorem dX9_put_21 : decode cX9_put 21 = .ok (.aload_n 0, 1) := by decide +kernel
theorem dX9_put_22 : decode cX9_put 22 = .ok (.getfield 29, 3) := by decide +kernel
theorem dX9_put_25 : decode cX9_put 25 = .ok (.iload_n 1, 1) := by decide +kernel
theorem dX9_put_26 : decode cX9_put 26 = .ok (.iload_n 2, 1) := by decide +kernel
theorem dX9_put_27 : decode cX9_put 27 = .ok (.iload_n 3, 1) := by decide +kernel
theorem dX9_put_28 : decode cX9_put 28 = .ok (.invokevirtual 116, 3) := by decide +kernel
theorem dX9_put_31 : decode cX9_put 31 = .ok (.istore 5, 2) := by decide +kernel
theorem dX9_put_33 : decode cX9_put 33 = .ok (.iload 5, 2) := by decide +kernel
theorem dX9_put_35 : decode cX9_put 35 = .ok (.ifCond .eq 10, 3) := by decide +kernel
theorem dX9_put_38 : decode cX9_put 38 = .ok (.aload_n 0, 1) := by decide +kernel
theorem dX9_put_39 : decode cX9_put 39 = .ok (.iload 5, 2) := by decide +kernel
theorem dX9_put_41 : decode cX9_put 41 = .ok (.invokevirtual 103, 3) := by decide +kernel
theorem dX9_put_44 : decode cX9_put 44 = .ok (.ireturn, 1) := by decide +kernel
theorem dX9_put_45 : decode cX9_put 45 = .ok (.aload_n 0, 1) := by decide +kernel
theorem dX9_put_46 : decode cX9_put 46 = .ok (.getfield 29, 3) := by decide +kernel
theorem dX9_put_49 : decode cX9_put 49 = .ok (.getfield 120, 3) := by decide +kernel
theorem dX9_put_52 : decode cX9_put 52 = .ok (.iload_n 1, 1) := by decide +kernel
theorem dX9_put_53 : decode cX9_put 53 = .ok (.aaload, 1) := by decide +kernel
theorem dX9_put_54 : decode cX9_put 54 = .ok (.iload_n 3, 1) := by decide +kernel
theorem dX9_put_55 : decode cX9_put 55 = .ok (.iload_n 2, 1) := by decide +kernel
theorem dX9_put_56 : decode cX9_put 56 = .ok (.iload 4, 2) := by decide +kernel
theorem dX9_put_58 : decode cX9_put 58 = .ok (.invokestatic 124, 3) := by decide +kernel
theorem dX9_put_61 : decode cX9_put 61 = .ok (.iastore, 1) := by decide +kernel
theorem dX9_put_62 : decode cX9_put 62 = .ok (.iconst 1, 1) := by decide +kernel
theorem dX9_put_63 : decode cX9_put 63 = .ok (.ireturn, 1) := by decide +kernel
theorem dX9_get_0 : decode cX9_get 0 = .ok (.aload_n 0, 1) := by decide +kernel
theorem dX9_get_1 : decode cX9_get 1 = .ok (.getfield 29, 3) := by decide +kernel
theorem dX9_get_4 : decode cX9_get 4 = .ok (.iload_n 1, 1) := by decide +kernel
theorem dX9_get_5 : decode cX9_get 5 = .ok (.invokevirtual 97, 3) := by decide +kernel
theorem dX9_get_8 : decode cX9_get 8 = .ok (.ifCond .eq 10, 3) := by decide +kernel
theorem dX9_get_11 : decode cX9_get 11 = .ok (.iload_n 2, 1) := by decide +kernel
theorem dX9_get_12 : decode cX9_get 12 = .ok (.invokestatic 100, 3) := by decide +kernel
theorem dX9_get_15 : decode cX9_get 15 = .ok (.ifCond .ne 6, 3) := by decide +kernel
theorem dX9_get_18 : decode cX9_get 18 = .ok (.ldc 128, 2) := by decide +kernel
theorem dX9_get_20 : decode cX9_get 20 = .ok (.ireturn, 1) := by decide +kernel
theorem dX9_get_21 : decode cX9_get 21 = .ok (.aload_n 0, 1) := by decide +kernel
theorem dX9_get_22 : decode cX9_get 22 = .ok (.getfield 29, 3) := by decide +kernel
theorem dX9_get_25 : decode cX9_get 25 = .ok (.iload_n 1, 1) := by decide +kernel
theorem dX9_get_26 : decode cX9_get 26 = .ok (.iload_n 2, 1) := by decide +kernel
theorem dX9_get_27 : decode cX9_get 27 = .ok (.iload_n 3, 1) := by decide +kernel
theorem dX9_get_28 : decode cX9_get 28 = .ok (.invokevirtual 116, 3) := by decide +kernel
theorem dX9_get_31 : decode cX9_get 31 = .ok (.istore 4, 2) := by decide +kernel
theorem dX9_get_33 : decode cX9_get 33 = .ok (.iload 4, 2) := by decide +kernel
theorem dX9_get_35 : decode cX9_get 35 = .ok (.ifCond .eq 12, 3) := by decide +kernel
theorem dX9_get_38 : decode cX9_get 38 = .ok (.aload_n 0, 1) := by decide +kernel
theorem dX9_get_39 : decode cX9_get 39 = .ok (.iload 4, 2) := by decide +kernel
theorem dX9_get_41 : decode cX9_get 41 = .ok (.putfield 129, 3) := by decide +kernel
theorem dX9_get_44 : decode cX9_get 44 = .ok (.ldc 128, 2) := by decide +kernel
theorem dX9_get_46 : decode cX9_get 46 = .ok (.ireturn, 1) := by decide +kernel
theorem dX9_get_47 : decode cX9_get 47 = .ok (.aload_n 0, 1) := by decide +kernel
theorem dX9_get_48 : decode cX9_get 48 = .ok (.getfield 29, 3) := by decide +kernel
theorem dX9_get_51 : decode cX9_get 51 = .ok (.getfield 120, 3) := by decide +kernel
theorem dX9_get_54 : decode cX9_get 54 = .ok (.iload_n 1, 1) := by decide +kernel
theorem dX9_get_55 : decode cX9_get 55 = .ok (.aaload, 1) := by decide +kernel
theorem dX9_get_56 : decode cX9_get 56 = .ok (.iload_n 3, 1) := by decide +kernel
theorem dX9_get_57 : decode cX9_get 57 = .ok (.iaload, 1) := by decide +kernel
theorem dX9_get_58 : decode cX9_get 58 = .ok (.ireturn, 1) := by decide +kernel
theorem dX9_copy_0 : decode cX9_copy 0 = .ok (.aload_n 0, 1) := by decide +kernel
theorem dX9_copy_1 : decode cX9_copy 1 = .ok (.getfield 29, 3) := by decide +kernel
theorem dX9_copy_4 : decode cX9_copy 4 = .ok (.iload_n 1, 1) := by decide +kernel
theorem dX9_copy_5 : decode cX9_copy 5 = .ok (.invokevirtual 97, 3) := by decide +kernel
theorem dX9_copy_8 : decode cX9_copy 8 = .ok (.ifCond .eq 14, 3) := by decide +kernel
theorem dX9_copy_11 : decode cX9_copy 11 = .ok (.aload_n 0, 1) := by decide +kernel
theorem dX9_copy_12 : decode cX9_copy 12 = .ok (.getfield 29, 3) := by decide +kernel
theorem dX9_copy_15 : decode cX9_copy 15 = .ok (.iload_n 3, 1) := by decide +kernel
theorem dX9_copy_16 : decode cX9_copy 16 = .ok (.invokevirtual 97, 3) := by decide +kernel
theorem dX9_copy_19 : decode cX9_copy 19 = .ok (.ifCond .ne 6, 3) := by decide +kernel
theorem dX9_copy_22 : decode cX9_copy 22 = .ok (.bipush (-2), 2) := by decide +kernel
theorem dX9_copy_24 : decode cX9_copy 24 = .ok (.ireturn, 1) := by decide +kernel
theorem dX9_copy_25 : decode cX9_copy 25 = .ok (.aload_n 0, 1) := by decide +kernel
theorem dX9_copy_26 : decode cX9_copy 26 = .ok (.getfield 29, 3) := by decide +kernel
theorem dX9_copy_29 : decode cX9_copy 29 = .ok (.iload_n 1, 1) := by decide +kernel
theorem dX9_copy_30 : decode cX9_copy 30 = .ok (.invokevirtual 110, 3) := by decide +kernel
theorem dX9_copy_33 : decode cX9_copy 33 = .ok (.ifCond .ne 14, 3) := by decide +kernel
theorem dX9_copy_36 : decode cX9_copy 36 = .ok (.aload_n 0, 1) := by decide +kernel
theorem dX9_copy_37 : decode cX9_copy 37 = .ok (.getfield 29, 3) := by decide +kernel
theorem dX9_copy_40 : decode cX9_copy 40 = .ok (.iload_n 3, 1) := by decide +kernel
theorem dX9_copy_41 : decode cX9_copy 41 = .ok (.invokevirtual 110, 3) := by decide +kernel
theorem dX9_copy_44 : decode cX9_copy 44 = .ok (.ifCond .eq 9, 3) := by decide +kernel
theorem dX9_copy_47 : decode cX9_copy 47 = .ok (.aload_n 0, 1) := by decide +kernel
theorem dX9_copy_48 : decode cX9_copy 48 = .ok (.iconst 1, 1) := by decide +kernel
theorem dX9_copy_49 : decode cX9_copy 49 = .ok (.invokevirtual 103, 3) := by decide +kernel
theorem dX9_copy_52 : decode cX9_copy 52 = .ok (.ireturn, 1) := by decide +kernel
theorem dX9_copy_53 : decode cX9_copy 53 = .ok (.aload_n 0, 1) := by decide +kernel
theorem dX9_copy_54 : decode cX9_copy 54 = .ok (.getfield 29, 3) := by decide +kernel
theorem dX9_copy_57 : decode cX9_copy 57 = .ok (.getfield 132, 3) := by decide +kernel
theorem dX9_copy_60 : decode cX9_copy 60 = .ok (.iload_n 1, 1) := by decide +kernel
theorem dX9_copy_61 : decode cX9_copy 61 = .ok (.iaload, 1) := by decide +kernel
theorem dX9_copy_62 : decode cX9_copy 62 = .ok (.aload_n 0, 1) := by decide +kernel
theorem dX9_copy_63 : decode cX9_copy 63 = .ok (.getfield 29, 3) := by decide +kernel
theorem dX9_copy_66 : decode cX9_copy 66 = .ok (.getfield 132, 3) := by decide +kernel
theorem dX9_copy_69 : decode cX9_copy 69 = .ok (.iload_n 3, 1) := by decide +kernel
theorem dX9_copy_70 : decode cX9_copy 70 = .ok (.iaload, 1) := by decide +kernel
theorem dX9_copy_71 : decode cX9_copy 71 = .ok (.if_icmp .eq 9, 3) := by decide +kernel
theorem dX9_copy_74 : decode cX9_copy 74 = .ok (.aload_n 0, 1) := by decide +kernel
theorem dX9_copy_75 : decode cX9_copy 75 = .ok (.iconst 4, 1) := by decide +kernel
theorem dX9_copy_76 : decode cX9_copy 76 = .ok (.invokevirtual 103, 3) := by decide +kernel
theorem dX9_copy_79 : decode cX9_copy 79 = .ok (.ireturn, 1) := by decide +kernel
theorem dX9_copy_80 : decode cX9_copy 80 = .ok (.aload_n 0, 1) := by decide +kernel
theorem dX9_copy_81 : decode cX9_copy 81 = .ok (.getfield 29, 3) := by decide +kernel
theorem dX9_copy_84 : decode cX9_copy 84 = .ok (.iload_n 1, 1) := by decide +kernel
theorem dX9_copy_85 : decode cX9_copy 85 = .ok (.iload_n 2, 1) := by decide +kernel
theorem dX9_copy_86 : decode cX9_copy 86 = .ok (.iload 5, 2) := by decide +kernel
theorem dX9_copy_88 : decode cX9_copy 88 = .ok (.invokevirtual 135, 3) := by decide +kernel
theorem dX9_copy_91 : decode cX9_copy 91 = .ok (.ifCond .eq 18, 3) := by decide +kernel
theorem dX9_copy_94 : decode cX9_copy 94 = .ok (.aload_n 0, 1) := by decide +kernel
theorem dX9_copy_95 : decode cX9_copy 95 = .ok (.getfield 29, 3) := by decide +kernel
theorem dX9_copy_98 : decode cX9_copy 98 = .ok (.iload_n 3, 1) := by decide +kernel
theorem dX9_copy_99 : decode cX9_copy 99 = .ok (.iload 4, 2) := by decide +kernel
theorem dX9_copy_101 : decode cX9_copy 101 = .ok (.iload 5, 2) := by decide +kernel
theorem dX9_copy_103 : decode cX9_copy 103 = .ok (.invokevirtual 135, 3) := by decide +kernel
theorem dX9_copy_106 : decode cX9_copy 106 = .ok (.ifCond .ne 9, 3) := by decide +kernel
theorem dX9_copy_109 : decode cX9_copy 109 = .ok (.aload_n 0, 1) := by decide +kernel
theorem dX9_copy_110 : decode cX9_copy 110 = .ok (.iconst 2, 1) := by decide +kernel
theorem dX9_copy_111 : decode cX9_copy 111 = .ok (.invokevirtual 103, 3) := by decide +kernel
theorem dX9_copy_114 : decode cX9_copy 114 = .ok (.ireturn, 1) := by decide +kernel
theorem dX9_copy_115 : decode cX9_copy 115 = .ok (.aload_n 0, 1) := by decide +kernel
theorem dX9_copy_116 : decode cX9_copy 116 = .ok (.getfield 29, 3) := by decide +kernel
theorem dX9_copy_119 : decode cX9_copy 119 = .ok (.getfield 120, 3) := by decide +kernel
theorem dX9_copy_122 : decode cX9_copy 122 = .ok (.iload_n 1, 1) := by decide +kernel
theorem dX9_copy_123 : decode cX9_copy 123 = .ok (.aaload, 1) := by decide +kernel
theorem dX9_copy_124 : decode cX9_copy 124 = .ok (.iload_n 2, 1) := by decide +kernel
theorem dX9_copy_125 : decode cX9_copy 125 = .ok (.aload_n 0, 1) := by decide +kernel
theorem dX9_copy_126 : decode cX9_copy 126 = .ok (.getfield 29, 3) := by decide +kernel
theorem dX9_copy_129 : decode cX9_copy 129 = .ok (.getfield 120, 3) := by decide +kernel
theorem dX9_copy_132 : decode cX9_copy 132 = .ok (.iload_n 3, 1) := by decide +kernel
theorem dX9_copy_133 : decode cX9_copy 133 = .ok (.aaload, 1) := by decide +kernel
theorem dX9_copy_134 : decode cX9_copy 134 = .ok (.iload 4, 2) := by decide +kernel
theorem dX9_copy_136 : decode cX9_copy 136 = .ok (.iload 5, 2) := by decide +kernel
theorem dX9_copy_138 : decode cX9_copy 138 = .ok (.invokestatic 139, 3) := by decide +kernel
theorem dX9_copy_141 : decode cX9_copy 141 = .ok (.iconst 1, 1) := by decide +kernel
theorem dX9_copy_142 : decode cX9_copy 142 = .ok (.ireturn, 1) := by decide +kernel
theorem dX9_hand_0 : decode cX9_hand 0 = .ok (.iload_n 1, 1) := by decide +kernel
theorem dX9_hand_1 : decode cX9_hand 1 = .ok (.invokestatic 145, 3) := by decide +kernel
theorem dX9_hand_4 : decode cX9_hand 4 = .ok (.ifCond .eq 20, 3) := by decide +kernel
theorem dX9_hand_7 : decode cX9_hand 7 = .ok (.iload_n 2, 1) := by decide +kernel
theorem dX9_hand_8 : decode cX9_hand 8 = .ok (.invokestatic 148, 3) := by decide +kernel
theorem dX9_hand_11 : decode cX9_hand 11 = .ok (.ifCond .eq 13, 3) := by decide +kernel
theorem dX9_hand_14 : decode cX9_hand 14 = .ok (.iload_n 3, 1) := by decide +kernel
theorem dX9_hand_15 : decode cX9_hand 15 = .ok (.ifCond .lt 9, 3) := by decide +kernel
theorem dX9_hand_18 : decode cX9_hand 18 = .ok (.iload_n 3, 1) := by decide +kernel
theorem dX9_hand_19 : decode cX9_hand 19 = .ok (.bipush 9, 2) := by decide +kernel
theorem dX9_hand_21 : decode cX9_hand 21 = .ok (.if_icmp .le 6, 3) := by decide +kernel
theorem dX9_hand_24 : decode cX9_hand 24 = .ok (.bipush (-2), 2) := by decide +kernel
theorem dX9_hand_26 : decode cX9_hand 26 = .ok (.ireturn, 1) := by decide +kernel
theorem dX9_hand_27 : decode cX9_hand 27 = .ok (.aload_n 0, 1) := by decide +kernel
theorem dX9_hand_28 : decode cX9_hand 28 = .ok (.getfield 86, 3) := by decide +kernel
theorem dX9_hand_31 : decode cX9_hand 31 = .ok (.ifCond .eq 6, 3) := by decide +kernel
theorem dX9_hand_34 : decode cX9_hand 34 = .ok (.bipush (-3), 2) := by decide +kernel
theorem dX9_hand_36 : decode cX9_hand 36 = .ok (.ireturn, 1) := by decide +kernel
theorem dX9_hand_37 : decode cX9_hand 37 = .ok (.aload_n 0, 1) := by decide +kernel
theorem dX9_hand_38 : decode cX9_hand 38 = .ok (.getfield 7, 3) := by decide +kernel
theorem dX9_hand_41 : decode cX9_hand 41 = .ok (.bipush 8, 2) := by decide +kernel
theorem dX9_hand_43 : decode cX9_hand 43 = .ok (.iload_n 1, 1) := by decide +kernel
theorem dX9_hand_44 : decode cX9_hand 44 = .ok (.imul, 1) := by decide +kernel
theorem dX9_hand_45 : decode cX9_hand 45 = .ok (.iload_n 2, 1) := by decide +kernel
theorem dX9_hand_46 : decode cX9_hand 46 = .ok (.iadd, 1) := by decide +kernel
theorem dX9_hand_47 : decode cX9_hand 47 = .ok (.iaload, 1) := by decide +kernel
theorem dX9_hand_48 : decode cX9_hand 48 = .ok (.istore 4, 2) := by decide +kernel
theorem dX9_hand_50 : decode cX9_hand 50 = .ok (.aload_n 0, 1) := by decide +kernel
theorem dX9_hand_51 : decode cX9_hand 51 = .ok (.getfield 7, 3) := by decide +kernel
theorem dX9_hand_54 : decode cX9_hand 54 = .ok (.bipush 8, 2) := by decide +kernel
theorem dX9_hand_56 : decode cX9_hand 56 = .ok (.iload_n 1, 1) := by decide +kernel
theorem dX9_hand_57 : decode cX9_hand 57 = .ok (.imul, 1) := by decide +kernel
theorem dX9_hand_58 : decode cX9_hand 58 = .ok (.iload_n 2, 1) := by decide +kernel
theorem dX9_hand_59 : decode cX9_hand 59 = .ok (.iadd, 1) := by decide +kernel
theorem dX9_hand_60 : decode cX9_hand 60 = .ok (.iload_n 3, 1) := by decide +kernel
theorem dX9_hand_61 : decode cX9_hand 61 = .ok (.iastore, 1) := by decide +kernel
theorem dX9_hand_62 : decode cX9_hand 62 = .ok (.iload 4, 2) := by decide +kernel
theorem dX9_hand_64 : decode cX9_hand 64 = .ok (.ireturn, 1) := by decide +kernel
theorem dX9_stand_0 : decode cX9_stand 0 = .ok (.iload_n 1, 1) := by decide +kernel
theorem dX9_stand_1 : decode cX9_stand 1 = .ok (.invokestatic 145, 3) := by decide +kernel
theorem dX9_stand_4 : decode cX9_stand 4 = .ok (.ifCond .ne 6, 3) := by decide +kernel
theorem dX9_stand_7 : decode cX9_stand 7 = .ok (.bipush (-2), 2) := by decide +kernel
theorem dX9_stand_9 : decode cX9_stand 9 = .ok (.ireturn, 1) := by decide +kernel
theorem dX9_stand_10 : decode cX9_stand 10 = .ok (.aload_n 0, 1) := by decide +kernel
theorem dX9_stand_11 : decode cX9_stand 11 = .ok (.getfield 86, 3) := by decide +kernel
theorem dX9_stand_14 : decode cX9_stand 14 = .ok (.ifCond .eq 6, 3) := by decide +kernel
theorem dX9_stand_17 : decode cX9_stand 17 = .ok (.bipush (-3), 2) := by decide +kernel
theorem dX9_stand_19 : decode cX9_stand 19 = .ok (.ireturn, 1) := by decide +kernel
theorem dX9_stand_20 : decode cX9_stand 20 = .ok (.aload_n 0, 1) := by decide +kernel
theorem dX9_stand_21 : decode cX9_stand 21 = .ok (.getfield 29, 3) := by decide +kernel
theorem dX9_stand_24 : decode cX9_stand 24 = .ok (.invokevirtual 151, 3) := by decide +kernel
theorem dX9_stand_27 : decode cX9_stand 27 = .ok (.ifCond .eq 9, 3) := by decide +kernel
theorem dX9_stand_30 : decode cX9_stand 30 = .ok (.aload_n 0, 1) := by decide +kernel
theorem dX9_stand_31 : decode cX9_stand 31 = .ok (.iconst 2, 1) := by decide +kernel
theorem dX9_stand_32 : decode cX9_stand 32 = .ok (.invokevirtual 103, 3) := by decide +kernel
theorem dX9_stand_35 : decode cX9_stand 35 = .ok (.ireturn, 1) := by decide +kernel
theorem dX9_stand_36 : decode cX9_stand 36 = .ok (.aload_n 0, 1) := by decide +kernel
theorem dX9_stand_37 : decode cX9_stand 37 = .ok (.getfield 38, 3) := by decide +kernel
theorem dX9_stand_40 : decode cX9_stand 40 = .ok (.aload_n 0, 1) := by decide +kernel
theorem dX9_stand_41 : decode cX9_stand 41 = .ok (.getfield 29, 3) := by decide +kernel
theorem dX9_stand_44 : decode cX9_stand 44 = .ok (.invokevirtual 155, 3) := by decide +kernel
theorem dX9_stand_47 : decode cX9_stand 47 = .ok (.istore_n 2, 1) := by decide +kernel
theorem dX9_stand_48 : decode cX9_stand 48 = .ok (.iload_n 2, 1) := by decide +kernel
theorem dX9_stand_49 : decode cX9_stand 49 = .ok (.ifCond .lt 13, 3) := by decide +kernel
theorem dX9_stand_52 : decode cX9_stand 52 = .ok (.aload_n 0, 1) := by decide +kernel
theorem dX9_stand_53 : decode cX9_stand 53 = .ok (.getfield 38, 3) := by decide +kernel
theorem dX9_stand_56 : decode cX9_stand 56 = .ok (.invokevirtual 159, 3) := by decide +kernel
theorem dX9_stand_59 : decode cX9_stand 59 = .ok (.ifCond .ne 6, 3) := by decide +kernel
theorem dX9_stand_62 : decode cX9_stand 62 = .ok (.bipush (-2), 2) := by decide +kernel
theorem dX9_stand_64 : decode cX9_stand 64 = .ok (.ireturn, 1) := by decide +kernel
theorem dX9_stand_65 : decode cX9_stand 65 = .ok (.aload_n 0, 1) := by decide +kernel
theorem dX9_stand_66 : decode cX9_stand 66 = .ok (.getfield 7, 3) := by decide +kernel
theorem dX9_stand_69 : decode cX9_stand 69 = .ok (.iconst 0, 1) := by decide +kernel
theorem dX9_stand_70 : decode cX9_stand 70 = .ok (.aload_n 0, 1) := by decide +kernel
theorem dX9_stand_71 : decode cX9_stand 71 = .ok (.getfield 38, 3) := by decide +kernel
theorem dX9_stand_74 : decode cX9_stand 74 = .ok (.getfield 162, 3) := by decide +kernel
theorem dX9_stand_77 : decode cX9_stand 77 = .ok (.iconst 0, 1) := by decide +kernel
theorem dX9_stand_78 : decode cX9_stand 78 = .ok (.aload_n 0, 1) := by decide +kernel
theorem dX9_stand_79 : decode cX9_stand 79 = .ok (.getfield 7, 3) := by decide +kernel
theorem dX9_stand_82 : decode cX9_stand 82 = .ok (.arraylength, 1) := by decide +kernel
theorem dX9_stand_83 : decode cX9_stand 83 = .ok (.invokestatic 139, 3) := by decide +kernel
theorem dX9_stand_86 : decode cX9_stand 86 = .ok (.aload_n 0, 1) := by decide +kernel
theorem dX9_stand_87 : decode cX9_stand 87 = .ok (.getfield 38, 3) := by decide +kernel
theorem dX9_stand_90 : decode cX9_stand 90 = .ok (.iload_n 1, 1) := by decide +kernel
theorem dX9_stand_91 : decode cX9_stand 91 = .ok (.putfield 165, 3) := by decide +kernel
theorem dX9_stand_94 : decode cX9_stand 94 = .ok (.aload_n 0, 1) := by decide +kernel
theorem dX9_stand_95 : decode cX9_stand 95 = .ok (.getfield 38, 3) := by decide +kernel
theorem dX9_stand_98 : decode cX9_stand 98 = .ok (.iconst 1, 1) := by decide +kernel
theorem dX9_stand_99 : decode cX9_stand 99 = .ok (.iload_n 1, 1) := by decide +kernel
theorem dX9_stand_100 : decode cX9_stand 100 = .ok (.isub, 1) := by decide +kernel
theorem dX9_stand_101 : decode cX9_stand 101 = .ok (.invokevirtual 168, 3) := by decide +kernel
theorem dX9_stand_104 : decode cX9_stand 104 = .ok (.ifCond .eq 6, 3) := by decide +kernel
theorem dX9_stand_107 : decode cX9_stand 107 = .ok (.bipush (-2), 2) := by decide +kernel
theorem dX9_stand_109 : decode cX9_stand 109 = .ok (.ireturn, 1) := by decide +kernel
theorem dX9_stand_110 : decode cX9_stand 110 = .ok (.aload_n 0, 1) := by decide +kernel
theorem dX9_stand_111 : decode cX9_stand 111 = .ok (.iconst 1, 1) := by decide +kernel
theorem dX9_stand_112 : decode cX9_stand 112 = .ok (.putfield 86, 3) := by decide +kernel
theorem dX9_stand_115 : decode cX9_stand 115 = .ok (.aload_n 0, 1) := by decide +kernel
theorem dX9_stand_116 : decode cX9_stand 116 = .ok (.getfield 72, 3) := by decide +kernel
theorem dX9_stand_119 : decode cX9_stand 119 = .ok (.invokevirtual 171, 3) := by decide +kernel
theorem dX9_stand_122 : decode cX9_stand 122 = .ok (.aload_n 0, 1) := by decide +kernel
theorem dX9_stand_123 : decode cX9_stand 123 = .ok (.invokevirtual 174, 3) := by decide +kernel
theorem dX9_stand_126 : decode cX9_stand 126 = .ok (.iload_n 2, 1) := by decide +kernel
theorem dX9_stand_127 : decode cX9_stand 127 = .ok (.ireturn, 1) := by decide +kernel
theorem dX9_clear_0 : decode cX9_clear 0 = .ok (.aload_n 0, 1) := by decide +kernel
theorem dX9_clear_1 : decode cX9_clear 1 = .ok (.getfield 86, 3) := by decide +kernel
theorem dX9_clear_4 : decode cX9_clear 4 = .ok (.ifCond .ne 6, 3) := by decide +kernel
theorem dX9_clear_7 : decode cX9_clear 7 = .ok (.bipush (-3), 2) := by decide +kernel
theorem dX9_clear_9 : decode cX9_clear 9 = .ok (.ireturn, 1) := by decide +kernel
theorem dX9_clear_10 : decode cX9_clear 10 = .ok (.aload_n 0, 1) := by decide +kernel
theorem dX9_clear_11 : decode cX9_clear 11 = .ok (.iconst 0, 1) := by decide +kernel
theorem dX9_clear_12 : decode cX9_clear 12 = .ok (.putfield 86, 3) := by decide +kernel
theorem dX9_clear_15 : decode cX9_clear 15 = .ok (.aload_n 0, 1) := by decide +kernel
theorem dX9_clear_16 : decode cX9_clear 16 = .ok (.getfield 56, 3) := by decide +kernel
theorem dX9_clear_19 : decode cX9_clear 19 = .ok (.iconst 0, 1) := by decide +kernel
theorem dX9_clear_20 : decode cX9_clear 20 = .ok (.putfield 177, 3) := by decide +kernel
theorem dX9_clear_23 : decode cX9_clear 23 = .ok (.aload_n 0, 1) := by decide +kernel
theorem dX9_clear_24 : decode cX9_clear 24 = .ok (.getfield 72, 3) := by decide +kernel
theorem dX9_clear_27 : decode cX9_clear 27 = .ok (.getfield 180, 3) := by decide +kernel
theorem dX9_clear_30 : decode cX9_clear 30 = .ok (.ireturn, 1) := by decide +kernel
theorem dX9_field_0 : decode cX9_field 0 = .ok (.aload_n 0, 1) := by decide +kernel
theorem dX9_field_1 : decode cX9_field 1 = .ok (.iload_n 1, 1) := by decide +kernel
theorem dX9_field_2 : decode cX9_field 2 = .ok (.invokevirtual 183, 3) := by decide +kernel
theorem dX9_field_5 : decode cX9_field 5 = .ok (.ifCond .eq 22, 3) := by decide +kernel
theorem dX9_field_8 : decode cX9_field 8 = .ok (.aload_n 0, 1) := by decide +kernel
theorem dX9_field_9 : decode cX9_field 9 = .ok (.getfield 86, 3) := by decide +kernel
theorem dX9_field_12 : decode cX9_field 12 = .ok (.ifCond .eq 15, 3) := by decide +kernel
theorem dX9_field_15 : decode cX9_field 15 = .ok (.aload_n 0, 1) := by decide +kernel
theorem dX9_field_16 : decode cX9_field 16 = .ok (.getfield 38, 3) := by decide +kernel
theorem dX9_field_19 : decode cX9_field 19 = .ok (.getfield 186, 3) := by decide +kernel
theorem dX9_field_22 : decode cX9_field 22 = .ok (.iload_n 1, 1) := by decide +kernel
theorem dX9_field_23 : decode cX9_field 23 = .ok (.iaload, 1) := by decide +kernel
theorem dX9_field_24 : decode cX9_field 24 = .ok (.goto 5, 3) := by decide +kernel
theorem dX9_field_27 : decode cX9_field 27 = .ok (.bipush (-2), 2) := by decide +kernel
theorem dX9_field_29 : decode cX9_field 29 = .ok (.ireturn, 1) := by decide +kernel
theorem dX9_has_0 : decode cX9_has 0 = .ok (.iload_n 1, 1) := by decide +kernel
theorem dX9_has_1 : decode cX9_has 1 = .ok (.invokestatic 145, 3) := by decide +kernel
theorem dX9_has_4 : decode cX9_has 4 = .ok (.ifCond .eq 10, 3) := by decide +kernel
theorem dX9_has_7 : decode cX9_has 7 = .ok (.iload_n 2, 1) := by decide +kernel
theorem dX9_has_8 : decode cX9_has 8 = .ok (.invokestatic 148, 3) := by decide +kernel
theorem dX9_has_11 : decode cX9_has 11 = .ok (.ifCond .ne 6, 3) := by decide +kernel
theorem dX9_has_14 : decode cX9_has 14 = .ok (.bipush (-2), 2) := by decide +kernel
theorem dX9_has_16 : decode cX9_has 16 = .ok (.ireturn, 1) := by decide +kernel
theorem dX9_has_17 : decode cX9_has 17 = .ok (.aload_n 0, 1) := by decide +kernel
theorem dX9_has_18 : decode cX9_has 18 = .ok (.iload_n 1, 1) := by decide +kernel
theorem dX9_has_19 : decode cX9_has 19 = .ok (.iload_n 2, 1) := by decide +kernel
theorem dX9_has_20 : decode cX9_has 20 = .ok (.invokevirtual 189, 3) := by decide +kernel
theorem dX9_has_23 : decode cX9_has 23 = .ok (.ireturn, 1) := by decide +kernel
theorem dX9_attacks_0 : decode cX9_attacks 0 = .ok (.iload_n 1, 1) := by decide +kernel
theorem dX9_attacks_1 : decode cX9_attacks 1 = .ok (.invokestatic 145, 3) := by decide +kernel
theorem dX9_attacks_4 : decode cX9_attacks 4 = .ok (.ifCond .eq 11, 3) := by decide +kernel
theorem dX9_attacks_7 : decode cX9_attacks 7 = .ok (.aload_n 0, 1) := by decide +kernel
theorem dX9_attacks_8 : decode cX9_attacks 8 = .ok (.iload_n 2, 1) := by decide +kernel
theorem dX9_attacks_9 : decode cX9_attacks 9 = .ok (.invokevirtual 183, 3) := by decide +kernel
theorem dX9_attacks_12 : decode cX9_attacks 12 = .ok (.ifCond .ne 6, 3) := by decide +kernel
theorem dX9_attacks_15 : decode cX9_attacks 15 = .ok (.bipush (-2), 2) := by decide +kernel
theorem dX9_attacks_17 : decode cX9_attacks 17 = .ok (.ireturn, 1) := by decide +kernel
theorem dX9_attacks_18 : decode cX9_attacks 18 = .ok (.aload_n 0, 1) := by decide +kernel
theorem dX9_attacks_19 : decode cX9_attacks 19 = .ok (.getfield 86, 3) := by decide +kernel
theorem dX9_attacks_22 : decode cX9_attacks 22 = .ok (.ifCond .ne 6, 3) := by decide +kernel
theorem dX9_attacks_25 : decode cX9_attacks 25 = .ok (.bipush (-3), 2) := by decide +kernel
theorem dX9_attacks_27 : decode cX9_attacks 27 = .ok (.ireturn, 1) := by decide +kernel
theorem dX9_attacks_28 : decode cX9_attacks 28 = .ok (.aload_n 0, 1) := by decide +kernel
theorem dX9_attacks_29 : decode cX9_attacks 29 = .ok (.getfield 38, 3) := by decide +kernel
theorem dX9_attacks_32 : decode cX9_attacks 32 = .ok (.iload_n 1, 1) := by decide +kernel
theorem dX9_attacks_33 : decode cX9_attacks 33 = .ok (.iload_n 2, 1) := by decide +kernel
theorem dX9_attacks_34 : decode cX9_attacks 34 = .ok (.invokevirtual 192, 3) := by decide +kernel
theorem dX9_attacks_37 : decode cX9_attacks 37 = .ok (.invokestatic 196, 3) := by decide +kernel
theorem dX9_attacks_40 : decode cX9_attacks 40 = .ok (.ireturn, 1) := by decide +kernel
theorem dX9_check_0 : decode cX9_check 0 = .ok (.iload_n 1, 1) := by decide +kernel
theorem dX9_check_1 : decode cX9_check 1 = .ok (.invokestatic 145, 3) := by decide +kernel
theorem dX9_check_4 : decode cX9_check 4 = .ok (.ifCond .ne 6, 3) := by decide +kernel
theorem dX9_check_7 : decode cX9_check 7 = .ok (.bipush (-2), 2) := by decide +kernel
theorem dX9_check_9 : decode cX9_check 9 = .ok (.ireturn, 1) := by decide +kernel
theorem dX9_check_10 : decode cX9_check 10 = .ok (.aload_n 0, 1) := by decide +kernel
theorem dX9_check_11 : decode cX9_check 11 = .ok (.getfield 86, 3) := by decide +kernel
theorem dX9_check_14 : decode cX9_check 14 = .ok (.ifCond .ne 6, 3) := by decide +kernel
theorem dX9_check_17 : decode cX9_check 17 = .ok (.bipush (-3), 2) := by decide +kernel
theorem dX9_check_19 : decode cX9_check 19 = .ok (.ireturn, 1) := by decide +kernel
theorem dX9_check_20 : decode cX9_check 20 = .ok (.aload_n 0, 1) := by decide +kernel
theorem dX9_check_21 : decode cX9_check 21 = .ok (.getfield 38, 3) := by decide +kernel
theorem dX9_check_24 : decode cX9_check 24 = .ok (.iload_n 1, 1) := by decide +kernel
theorem dX9_check_25 : decode cX9_check 25 = .ok (.invokevirtual 168, 3) := by decide +kernel
theorem dX9_check_28 : decode cX9_check 28 = .ok (.invokestatic 196, 3) := by decide +kernel
theorem dX9_check_31 : decode cX9_check 31 = .ok (.ireturn, 1) := by decide +kernel
theorem dX9_moves_0 : decode cX9_moves 0 = .ok (.aload_n 0, 1) := by decide +kernel
theorem dX9_moves_1 : decode cX9_moves 1 = .ok (.getfield 86, 3) := by decide +kernel
theorem dX9_moves_4 : decode cX9_moves 4 = .ok (.ifCond .eq 10, 3) := by decide +kernel
theorem dX9_moves_7 : decode cX9_moves 7 = .ok (.aload_n 0, 1) := by decide +kernel
theorem dX9_moves_8 : decode cX9_moves 8 = .ok (.getfield 200, 3) := by decide +kernel
theorem dX9_moves_11 : decode cX9_moves 11 = .ok (.goto 5, 3) := by decide +kernel
theorem dX9_moves_14 : decode cX9_moves 14 = .ok (.bipush (-3), 2) := by decide +kernel
theorem dX9_moves_16 : decode cX9_moves 16 = .ok (.ireturn, 1) := by decide +kernel
theorem dX9_move_0 : decode cX9_move 0 = .ok (.aload_n 0, 1) := by decide +kernel
theorem dX9_move_1 : decode cX9_move 1 = .ok (.getfield 86, 3) := by decide +kernel
theorem dX9_move_4 : decode cX9_move 4 = .ok (.ifCond .ne 6, 3) := by decide +kernel
theorem dX9_move_7 : decode cX9_move 7 = .ok (.bipush (-3), 2) := by decide +kernel
theorem dX9_move_9 : decode cX9_move 9 = .ok (.ireturn, 1) := by decide +kernel
theorem dX9_move_10 : decode cX9_move 10 = .ok (.iload_n 1, 1) := by decide +kernel
theorem dX9_move_11 : decode cX9_move 11 = .ok (.ifCond .lt 11, 3) := by decide +kernel
theorem dX9_move_14 : decode cX9_move 14 = .ok (.iload_n 1, 1) := by decide +kernel
theorem dX9_move_15 : decode cX9_move 15 = .ok (.aload_n 0, 1) := by decide +kernel
theorem dX9_move_16 : decode cX9_move 16 = .ok (.getfield 200, 3) := by decide +kernel
theorem dX9_move_19 : decode cX9_move 19 = .ok (.if_icmp .lt 6, 3) := by decide +kernel
theorem dX9_move_22 : decode cX9_move 22 = .ok (.bipush (-2), 2) := by decide +kernel
theorem dX9_move_24 : decode cX9_move 24 = .ok (.ireturn, 1) := by decide +kernel
theorem dX9_move_25 : decode cX9_move 25 = .ok (.aload_n 0, 1) := by decide +kernel
theorem dX9_move_26 : decode cX9_move 26 = .ok (.getfield 47, 3) := by decide +kernel
theorem dX9_move_29 : decode cX9_move 29 = .ok (.iconst 1, 1) := by decide +kernel
theorem dX9_move_30 : decode cX9_move 30 = .ok (.iload_n 1, 1) := by decide +kernel
theorem dX9_move_31 : decode cX9_move 31 = .ok (.invokevirtual 203, 3) := by decide +kernel
theorem dX9_move_34 : decode cX9_move 34 = .ok (.istore_n 3, 1) := by decide +kernel
theorem dX9_move_35 : decode cX9_move 35 = .ok (.iload_n 2, 1) := by decide +kernel
theorem dX9_move_36 : decode cX9_move 36 = .ok (.tableswitch 68 0 4 #[36, 41, 46, 54, 63], 36) := by decide +kernel
theorem dX9_move_72 : decode cX9_move 72 = .ok (.iload_n 3, 1) := by decide +kernel
theorem dX9_move_73 : decode cX9_move 73 = .ok (.invokestatic 206, 3) := by decide +kernel
theorem dX9_move_76 : decode cX9_move 76 = .ok (.ireturn, 1) := by decide +kernel
theorem dX9_move_77 : decode cX9_move 77 = .ok (.iload_n 3, 1) := by decide +kernel
theorem dX9_move_78 : decode cX9_move 78 = .ok (.invokestatic 211, 3) := by decide +kernel
theorem dX9_move_81 : decode cX9_move 81 = .ok (.ireturn, 1) := by decide +kernel
theorem dX9_move_82 : decode cX9_move 82 = .ok (.iload_n 3, 1) := by decide +kernel
theorem dX9_move_83 : decode cX9_move 83 = .ok (.invokestatic 214, 3) := by decide +kernel
theorem dX9_move_86 : decode cX9_move 86 = .ok (.invokestatic 196, 3) := by decide +kernel
theorem dX9_move_89 : decode cX9_move 89 = .ok (.ireturn, 1) := by decide +kernel
theorem dX9_move_90 : decode cX9_move 90 = .ok (.aload_n 0, 1) := by decide +kernel
theorem dX9_move_91 : decode cX9_move 91 = .ok (.getfield 38, 3) := by decide +kernel
theorem dX9_move_94 : decode cX9_move 94 = .ok (.iload_n 3, 1) := by decide +kernel
theorem dX9_move_95 : decode cX9_move 95 = .ok (.invokevirtual 217, 3) := by decide +kernel
theorem dX9_move_98 : decode cX9_move 98 = .ok (.ireturn, 1) := by decide +kernel
theorem dX9_move_99 : decode cX9_move 99 = .ok (.iload_n 3, 1) := by decide +kernel
theorem dX9_move_100 : decode cX9_move 100 = .ok (.invokestatic 220, 3) := by decide +kernel
theorem dX9_move_103 : decode cX9_move 103 = .ok (.ireturn, 1) := by decide +kernel
theorem dX9_move_104 : decode cX9_move 104 = .ok (.bipush (-2), 2) := by decide +kernel
theorem dX9_move_106 : decode cX9_move 106 = .ok (.ireturn, 1) := by decide +kernel
theorem dX9_why_0 : decode cX9_why 0 = .ok (.aload_n 0, 1) := by decide +kernel
theorem dX9_why_1 : decode cX9_why 1 = .ok (.iload_n 1, 1) := by decide +kernel
theorem dX9_why_2 : decode cX9_why 2 = .ok (.invokevirtual 183, 3) := by decide +kernel
theorem dX9_why_5 : decode cX9_why 5 = .ok (.ifCond .eq 11, 3) := by decide +kernel
theorem dX9_why_8 : decode cX9_why 8 = .ok (.aload_n 0, 1) := by decide +kernel
theorem dX9_why_9 : decode cX9_why 9 = .ok (.iload_n 2, 1) := by decide +kernel
theorem dX9_why_10 : decode cX9_why 10 = .ok (.invokevirtual 183, 3) := by decide +kernel
theorem dX9_why_13 : decode cX9_why 13 = .ok (.ifCond .ne 6, 3) := by decide +kernel
theorem dX9_why_16 : decode cX9_why 16 = .ok (.bipush (-2), 2) := by decide +kernel
theorem dX9_why_18 : decode cX9_why 18 = .ok (.ireturn, 1) := by decide +kernel
theorem dX9_why_19 : decode cX9_why 19 = .ok (.aload_n 0, 1) := by decide +kernel
theorem dX9_why_20 : decode cX9_why 20 = .ok (.getfield 86, 3) := by decide +kernel
theorem dX9_why_23 : decode cX9_why 23 = .ok (.ifCond .ne 6, 3) := by decide +kernel
theorem dX9_why_26 : decode cX9_why 26 = .ok (.bipush (-3), 2) := by decide +kernel
theorem dX9_why_28 : decode cX9_why 28 = .ok (.ireturn, 1) := by decide +kernel
theorem dX9_why_29 : decode cX9_why 29 = .ok (.aload_n 0, 1) := by decide +kernel
theorem dX9_why_30 : decode cX9_why 30 = .ok (.getfield 47, 3) := by decide +kernel
theorem dX9_why_33 : decode cX9_why 33 = .ok (.iload_n 1, 1) := by decide +kernel
theorem dX9_why_34 : decode cX9_why 34 = .ok (.iload_n 2, 1) := by decide +kernel
theorem dX9_why_35 : decode cX9_why 35 = .ok (.iload_n 3, 1) := by decide +kernel
theorem dX9_why_36 : decode cX9_why 36 = .ok (.invokestatic 223, 3) := by decide +kernel
theorem dX9_why_39 : decode cX9_why 39 = .ok (.invokevirtual 227, 3) := by decide +kernel
theorem dX9_why_42 : decode cX9_why 42 = .ok (.ireturn, 1) := by decide +kernel
theorem dX9_whySet_0 : decode cX9_whySet 0 = .ok (.iload_n 1, 1) := by decide +kernel
theorem dX9_whySet_1 : decode cX9_whySet 1 = .ok (.invokestatic 148, 3) := by decide +kernel
theorem dX9_whySet_4 : decode cX9_whySet 4 = .ok (.ifCond .eq 11, 3) := by decide +kernel
theorem dX9_whySet_7 : decode cX9_whySet 7 = .ok (.aload_n 0, 1) := by decide +kernel
theorem dX9_whySet_8 : decode cX9_whySet 8 = .ok (.iload_n 2, 1) := by decide +kernel
theorem dX9_whySet_9 : decode cX9_whySet 9 = .ok (.invokevirtual 183, 3) := by decide +kernel
theorem dX9_whySet_12 : decode cX9_whySet 12 = .ok (.ifCond .ne 6, 3) := by decide +kernel
theorem dX9_whySet_15 : decode cX9_whySet 15 = .ok (.bipush (-2), 2) := by decide +kernel
theorem dX9_whySet_17 : decode cX9_whySet 17 = .ok (.ireturn, 1) := by decide +kernel
theorem dX9_whySet_18 : decode cX9_whySet 18 = .ok (.aload_n 0, 1) := by decide +kernel
theorem dX9_whySet_19 : decode cX9_whySet 19 = .ok (.getfield 86, 3) := by decide +kernel
theorem dX9_whySet_22 : decode cX9_whySet 22 = .ok (.ifCond .ne 6, 3) := by decide +kernel
theorem dX9_whySet_25 : decode cX9_whySet 25 = .ok (.bipush (-3), 2) := by decide +kernel
theorem dX9_whySet_27 : decode cX9_whySet 27 = .ok (.ireturn, 1) := by decide +kernel
theorem dX9_whySet_28 : decode cX9_whySet 28 = .ok (.aload_n 0, 1) := by decide +kernel
theorem dX9_whySet_29 : decode cX9_whySet 29 = .ok (.getfield 47, 3) := by decide +kernel
theorem dX9_whySet_32 : decode cX9_whySet 32 = .ok (.iload_n 1, 1) := by decide +kernel
theorem dX9_whySet_33 : decode cX9_whySet 33 = .ok (.iload_n 2, 1) := by decide +kernel
theorem dX9_whySet_34 : decode cX9_whySet 34 = .ok (.invokestatic 230, 3) := by decide +kernel
theorem dX9_whySet_37 : decode cX9_whySet 37 = .ok (.invokevirtual 227, 3) := by decide +kernel
theorem dX9_whySet_40 : decode cX9_whySet 40 = .ok (.ireturn, 1) := by decide +kernel
theorem dX9_rows_0 : decode cX9_rows 0 = .ok (.iload_n 1, 1) := by decide +kernel
theorem dX9_rows_1 : decode cX9_rows 1 = .ok (.iconst 1, 1) := by decide +kernel
theorem dX9_rows_2 : decode cX9_rows 2 = .ok (.if_icmp .lt 8, 3) := by decide +kernel
theorem dX9_rows_5 : decode cX9_rows 5 = .ok (.iload_n 1, 1) := by decide +kernel
theorem dX9_rows_6 : decode cX9_rows 6 = .ok (.iconst 3, 1) := by decide +kernel
theorem dX9_rows_7 : decode cX9_rows 7 = .ok (.if_icmp .le 6, 3) := by decide +kernel
theorem dX9_rows_10 : decode cX9_rows 10 = .ok (.bipush (-2), 2) := by decide +kernel
theorem dX9_rows_12 : decode cX9_rows 12 = .ok (.ireturn, 1) := by decide +kernel
theorem dX9_rows_13 : decode cX9_rows 13 = .ok (.aload_n 0, 1) := by decide +kernel
theorem dX9_rows_14 : decode cX9_rows 14 = .ok (.getfield 86, 3) := by decide +kernel
theorem dX9_rows_17 : decode cX9_rows 17 = .ok (.ifCond .ne 6, 3) := by decide +kernel
theorem dX9_rows_20 : decode cX9_rows 20 = .ok (.bipush (-3), 2) := by decide +kernel
theorem dX9_rows_22 : decode cX9_rows 22 = .ok (.ireturn, 1) := by decide +kernel
theorem dX9_rows_23 : decode cX9_rows 23 = .ok (.aload_n 0, 1) := by decide +kernel
theorem dX9_rows_24 : decode cX9_rows 24 = .ok (.getfield 47, 3) := by decide +kernel
theorem dX9_rows_27 : decode cX9_rows 27 = .ok (.iload_n 1, 1) := by decide +kernel
theorem dX9_rows_28 : decode cX9_rows 28 = .ok (.iconst 2, 1) := by decide +kernel
theorem dX9_rows_29 : decode cX9_rows 29 = .ok (.sipush 20000, 3) := by decide +kernel
theorem dX9_rows_32 : decode cX9_rows 32 = .ok (.invokevirtual 233, 3) := by decide +kernel
theorem dX9_rows_35 : decode cX9_rows 35 = .ok (.istore_n 2, 1) := by decide +kernel
theorem dX9_rows_36 : decode cX9_rows 36 = .ok (.iload_n 2, 1) := by decide +kernel
theorem dX9_rows_37 : decode cX9_rows 37 = .ok (.sipush 20000, 3) := by decide +kernel
theorem dX9_rows_40 : decode cX9_rows 40 = .ok (.if_icmp .le 8, 3) := by decide +kernel
theorem dX9_rows_43 : decode cX9_rows 43 = .ok (.bipush (-5), 2) := by decide +kernel
theorem dX9_rows_45 : decode cX9_rows 45 = .ok (.goto 4, 3) := by decide +kernel
theorem dX9_rows_48 : decode cX9_rows 48 = .ok (.iload_n 2, 1) := by decide +kernel
theorem dX9_rows_49 : decode cX9_rows 49 = .ok (.ireturn, 1) := by decide +kernel
theorem dX9_go_0 : decode cX9_go 0 = .ok (.aload_n 0, 1) := by decide +kernel
theorem dX9_go_1 : decode cX9_go 1 = .ok (.getfield 86, 3) := by decide +kernel
theorem dX9_go_4 : decode cX9_go 4 = .ok (.ifCond .ne 6, 3) := by decide +kernel
theorem dX9_go_7 : decode cX9_go 7 = .ok (.bipush (-3), 2) := by decide +kernel
theorem dX9_go_9 : decode cX9_go 9 = .ok (.ireturn, 1) := by decide +kernel
theorem dX9_go_10 : decode cX9_go 10 = .ok (.iload_n 1, 1) := by decide +kernel
theorem dX9_go_11 : decode cX9_go 11 = .ok (.ifCond .lt 11, 3) := by decide +kernel
theorem dX9_go_14 : decode cX9_go 14 = .ok (.iload_n 1, 1) := by decide +kernel
theorem dX9_go_15 : decode cX9_go 15 = .ok (.aload_n 0, 1) := by decide +kernel
theorem dX9_go_16 : decode cX9_go 16 = .ok (.getfield 200, 3) := by decide +kernel
theorem dX9_go_19 : decode cX9_go 19 = .ok (.if_icmp .lt 6, 3) := by decide +kernel
theorem dX9_go_22 : decode cX9_go 22 = .ok (.bipush (-2), 2) := by decide +kernel
theorem dX9_go_24 : decode cX9_go 24 = .ok (.ireturn, 1) := by decide +kernel
theorem dX9_go_25 : decode cX9_go 25 = .ok (.aload_n 0, 1) := by decide +kernel
theorem dX9_go_26 : decode cX9_go 26 = .ok (.invokevirtual 236, 3) := by decide +kernel
theorem dX9_go_29 : decode cX9_go 29 = .ok (.ifCond .eq 6, 3) := by decide +kernel
theorem dX9_go_32 : decode cX9_go 32 = .ok (.bipush (-3), 2) := by decide +kernel
theorem dX9_go_34 : decode cX9_go 34 = .ok (.ireturn, 1) := by decide +kernel
theorem dX9_go_35 : decode cX9_go 35 = .ok (.aload_n 0, 1) := by decide +kernel
theorem dX9_go_36 : decode cX9_go 36 = .ok (.getfield 72, 3) := by decide +kernel
theorem dX9_go_39 : decode cX9_go 39 = .ok (.getfield 180, 3) := by decide +kernel
theorem dX9_go_42 : decode cX9_go 42 = .ok (.sipush 300, 3) := by decide +kernel
theorem dX9_go_45 : decode cX9_go 45 = .ok (.if_icmp .lt 6, 3) := by decide +kernel
theorem dX9_go_48 : decode cX9_go 48 = .ok (.bipush (-4), 2) := by decide +kernel
theorem dX9_go_50 : decode cX9_go 50 = .ok (.ireturn, 1) := by decide +kernel
theorem dX9_go_51 : decode cX9_go 51 = .ok (.aload_n 0, 1) := by decide +kernel
theorem dX9_go_52 : decode cX9_go 52 = .ok (.getfield 72, 3) := by decide +kernel
theorem dX9_go_55 : decode cX9_go 55 = .ok (.aload_n 0, 1) := by decide +kernel
theorem dX9_go_56 : decode cX9_go 56 = .ok (.getfield 47, 3) := by decide +kernel
theorem dX9_go_59 : decode cX9_go 59 = .ok (.iconst 1, 1) := by decide +kernel
theorem dX9_go_60 : decode cX9_go 60 = .ok (.iload_n 1, 1) := by decide +kernel
theorem dX9_go_61 : decode cX9_go 61 = .ok (.invokevirtual 203, 3) := by decide +kernel
theorem dX9_go_64 : decode cX9_go 64 = .ok (.invokevirtual 240, 3) := by decide +kernel
theorem dX9_go_67 : decode cX9_go 67 = .ok (.aload_n 0, 1) := by decide +kernel
theorem dX9_go_68 : decode cX9_go 68 = .ok (.invokevirtual 174, 3) := by decide +kernel
theorem dX9_go_71 : decode cX9_go 71 = .ok (.aload_n 0, 1) := by decide +kernel
theorem dX9_go_72 : decode cX9_go 72 = .ok (.invokevirtual 236, 3) := by decide +kernel
theorem dX9_go_75 : decode cX9_go 75 = .ok (.ireturn, 1) := by decide +kernel
theorem dX9_back_0 : decode cX9_back 0 = .ok (.aload_n 0, 1) := by decide +kernel
theorem dX9_back_1 : decode cX9_back 1 = .ok (.getfield 86, 3) := by decide +kernel
theorem dX9_back_4 : decode cX9_back 4 = .ok (.ifCond .eq 13, 3) := by decide +kernel
theorem dX9_back_7 : decode cX9_back 7 = .ok (.aload_n 0, 1) := by decide +kernel
theorem dX9_back_8 : decode cX9_back 8 = .ok (.getfield 72, 3) := by decide +kernel
theorem dX9_back_11 : decode cX9_back 11 = .ok (.getfield 180, 3) := by decide +kernel
theorem dX9_back_14 : decode cX9_back 14 = .ok (.ifCond .ne 6, 3) := by decide +kernel
theorem dX9_back_17 : decode cX9_back 17 = .ok (.bipush (-3), 2) := by decide +kernel
theorem dX9_back_19 : decode cX9_back 19 = .ok (.ireturn, 1) := by decide +kernel
theorem dX9_back_20 : decode cX9_back 20 = .ok (.aload_n 0, 1) := by decide +kernel
theorem dX9_back_21 : decode cX9_back 21 = .ok (.getfield 72, 3) := by decide +kernel
theorem dX9_back_24 : decode cX9_back 24 = .ok (.invokevirtual 243, 3) := by decide +kernel
theorem dX9_back_27 : decode cX9_back 27 = .ok (.aload_n 0, 1) := by decide +kernel
theorem dX9_back_28 : decode cX9_back 28 = .ok (.invokevirtual 174, 3) := by decide +kernel
theorem dX9_back_31 : decode cX9_back 31 = .ok (.aload_n 0, 1) := by decide +kernel
theorem dX9_back_32 : decode cX9_back 32 = .ok (.getfield 72, 3) := by decide +kernel
theorem dX9_back_35 : decode cX9_back 35 = .ok (.getfield 180, 3) := by decide +kernel
theorem dX9_back_38 : decode cX9_back 38 = .ok (.ireturn, 1) := by decide +kernel
theorem dX9_forth_0 : decode cX9_forth 0 = .ok (.aload_n 0, 1) := by decide +kernel
theorem dX9_forth_1 : decode cX9_forth 1 = .ok (.getfield 86, 3) := by decide +kernel
theorem dX9_forth_4 : decode cX9_forth 4 = .ok (.ifCond .eq 20, 3) := by decide +kernel
theorem dX9_forth_7 : decode cX9_forth 7 = .ok (.aload_n 0, 1) := by decide +kernel
theorem dX9_forth_8 : decode cX9_forth 8 = .ok (.getfield 72, 3) := by decide +kernel
theorem dX9_forth_11 : decode cX9_forth 11 = .ok (.getfield 180, 3) := by decide +kernel
theorem dX9_forth_14 : decode cX9_forth 14 = .ok (.aload_n 0, 1) := by decide +kernel
theorem dX9_forth_15 : decode cX9_forth 15 = .ok (.getfield 72, 3) := by decide +kernel
theorem dX9_forth_18 : decode cX9_forth 18 = .ok (.getfield 246, 3) := by decide +kernel
theorem dX9_forth_21 : decode cX9_forth 21 = .ok (.if_icmp .lt 6, 3) := by decide +kernel
theorem dX9_forth_24 : decode cX9_forth 24 = .ok (.bipush (-3), 2) := by decide +kernel
theorem dX9_forth_26 : decode cX9_forth 26 = .ok (.ireturn, 1) := by decide +kernel
theorem dX9_forth_27 : decode cX9_forth 27 = .ok (.aload_n 0, 1) := by decide +kernel
theorem dX9_forth_28 : decode cX9_forth 28 = .ok (.getfield 72, 3) := by decide +kernel
theorem dX9_forth_31 : decode cX9_forth 31 = .ok (.invokevirtual 249, 3) := by decide +kernel
theorem dX9_forth_34 : decode cX9_forth 34 = .ok (.aload_n 0, 1) := by decide +kernel
theorem dX9_forth_35 : decode cX9_forth 35 = .ok (.invokevirtual 174, 3) := by decide +kernel
theorem dX9_forth_38 : decode cX9_forth 38 = .ok (.aload_n 0, 1) := by decide +kernel
theorem dX9_forth_39 : decode cX9_forth 39 = .ok (.getfield 72, 3) := by decide +kernel
theorem dX9_forth_42 : decode cX9_forth 42 = .ok (.getfield 180, 3) := by decide +kernel
theorem dX9_forth_45 : decode cX9_forth 45 = .ok (.ireturn, 1) := by decide +kernel
theorem dX9_play_0 : decode cX9_play 0 = .ok (.iload_n 1, 1) := by decide +kernel
theorem dX9_play_1 : decode cX9_play 1 = .ok (.ifCond .lt 8, 3) := by decide +kernel
theorem dX9_play_4 : decode cX9_play 4 = .ok (.iload_n 1, 1) := by decide +kernel
theorem dX9_play_5 : decode cX9_play 5 = .ok (.iconst 5, 1) := by decide +kernel
theorem dX9_play_6 : decode cX9_play 6 = .ok (.if_icmp .le 6, 3) := by decide +kernel
theorem dX9_play_9 : decode cX9_play 9 = .ok (.bipush (-2), 2) := by decide +kernel
theorem dX9_play_11 : decode cX9_play 11 = .ok (.ireturn, 1) := by decide +kernel
theorem dX9_play_12 : decode cX9_play 12 = .ok (.aload_n 0, 1) := by decide +kernel
theorem dX9_play_13 : decode cX9_play 13 = .ok (.getfield 86, 3) := by decide +kernel
theorem dX9_play_16 : decode cX9_play 16 = .ok (.ifCond .ne 6, 3) := by decide +kernel
theorem dX9_play_19 : decode cX9_play 19 = .ok (.bipush (-3), 2) := by decide +kernel
theorem dX9_play_21 : decode cX9_play 21 = .ok (.ireturn, 1) := by decide +kernel
theorem dX9_play_22 : decode cX9_play 22 = .ok (.aload_n 0, 1) := by decide +kernel
theorem dX9_play_23 : decode cX9_play 23 = .ok (.iload_n 1, 1) := by decide +kernel
theorem dX9_play_24 : decode cX9_play 24 = .ok (.invokevirtual 252, 3) := by decide +kernel
theorem dX9_play_27 : decode cX9_play 27 = .ok (.ireturn, 1) := by decide +kernel
theorem dX9_fuel_0 : decode cX9_fuel 0 = .ok (.iload_n 1, 1) := by decide +kernel
theorem dX9_fuel_1 : decode cX9_fuel 1 = .ok (.iconst 1, 1) := by decide +kernel
theorem dX9_fuel_2 : decode cX9_fuel 2 = .ok (.if_icmp .lt 10, 3) := by decide +kernel
theorem dX9_fuel_5 : decode cX9_fuel 5 = .ok (.iload_n 1, 1) := by decide +kernel
theorem dX9_fuel_6 : decode cX9_fuel 6 = .ok (.sipush 1000, 3) := by decide +kernel
theorem dX9_fuel_9 : decode cX9_fuel 9 = .ok (.if_icmp .le 6, 3) := by decide +kernel
theorem dX9_fuel_12 : decode cX9_fuel 12 = .ok (.bipush (-2), 2) := by decide +kernel
theorem dX9_fuel_14 : decode cX9_fuel 14 = .ok (.ireturn, 1) := by decide +kernel
theorem dX9_fuel_15 : decode cX9_fuel 15 = .ok (.aload_n 0, 1) := by decide +kernel
theorem dX9_fuel_16 : decode cX9_fuel 16 = .ok (.getfield 56, 3) := by decide +kernel
theorem dX9_fuel_19 : decode cX9_fuel 19 = .ok (.getfield 255, 3) := by decide +kernel
theorem dX9_fuel_22 : decode cX9_fuel 22 = .ok (.istore_n 2, 1) := by decide +kernel
theorem dX9_fuel_23 : decode cX9_fuel 23 = .ok (.aload_n 0, 1) := by decide +kernel
theorem dX9_fuel_24 : decode cX9_fuel 24 = .ok (.getfield 56, 3) := by decide +kernel
theorem dX9_fuel_27 : decode cX9_fuel 27 = .ok (.iload_n 1, 1) := by decide +kernel
theorem dX9_fuel_28 : decode cX9_fuel 28 = .ok (.putfield 255, 3) := by decide +kernel
theorem dX9_fuel_31 : decode cX9_fuel 31 = .ok (.iload_n 2, 1) := by decide +kernel
theorem dX9_fuel_32 : decode cX9_fuel 32 = .ok (.ireturn, 1) := by decide +kernel
theorem dX9_hunt_0 : decode cX9_hunt 0 = .ok (.iload_n 1, 1) := by decide +kernel
theorem dX9_hunt_1 : decode cX9_hunt 1 = .ok (.iconst 1, 1) := by decide +kernel
theorem dX9_hunt_2 : decode cX9_hunt 2 = .ok (.if_icmp .lt 8, 3) := by decide +kernel
theorem dX9_hunt_5 : decode cX9_hunt 5 = .ok (.iload_n 1, 1) := by decide +kernel
theorem dX9_hunt_6 : decode cX9_hunt 6 = .ok (.iconst 4, 1) := by decide +kernel
theorem dX9_hunt_7 : decode cX9_hunt 7 = .ok (.if_icmp .le 6, 3) := by decide +kernel
theorem dX9_hunt_10 : decode cX9_hunt 10 = .ok (.bipush (-2), 2) := by decide +kernel
theorem dX9_hunt_12 : decode cX9_hunt 12 = .ok (.ireturn, 1) := by decide +kernel
theorem dX9_hunt_13 : decode cX9_hunt 13 = .ok (.aload_n 0, 1) := by decide +kernel
theorem dX9_hunt_14 : decode cX9_hunt 14 = .ok (.getfield 86, 3) := by decide +kernel
theorem dX9_hunt_17 : decode cX9_hunt 17 = .ok (.ifCond .ne 6, 3) := by decide +kernel
theorem dX9_hunt_20 : decode cX9_hunt 20 = .ok (.bipush (-3), 2) := by decide +kernel
theorem dX9_hunt_22 : decode cX9_hunt 22 = .ok (.ireturn, 1) := by decide +kernel
theorem dX9_hunt_23 : decode cX9_hunt 23 = .ok (.aload_n 0, 1) := by decide +kernel
theorem dX9_hunt_24 : decode cX9_hunt 24 = .ok (.getfield 56, 3) := by decide +kernel
theorem dX9_hunt_27 : decode cX9_hunt 27 = .ok (.invokevirtual 258, 3) := by decide +kernel
theorem dX9_hunt_30 : decode cX9_hunt 30 = .ok (.iconst 1, 1) := by decide +kernel
theorem dX9_hunt_31 : decode cX9_hunt 31 = .ok (.istore_n 2, 1) := by decide +kernel
theorem dX9_hunt_32 : decode cX9_hunt 32 = .ok (.iload_n 2, 1) := by decide +kernel
theorem dX9_hunt_33 : decode cX9_hunt 33 = .ok (.iload_n 1, 1) := by decide +kernel
theorem dX9_hunt_34 : decode cX9_hunt 34 = .ok (.if_icmp .gt 49, 3) := by decide +kernel
theorem dX9_hunt_37 : decode cX9_hunt 37 = .ok (.aload_n 0, 1) := by decide +kernel
theorem dX9_hunt_38 : decode cX9_hunt 38 = .ok (.getfield 56, 3) := by decide +kernel
theorem dX9_hunt_41 : decode cX9_hunt 41 = .ok (.getfield 259, 3) := by decide +kernel
theorem dX9_hunt_44 : decode cX9_hunt 44 = .ok (.ifCond .ne 39, 3) := by decide +kernel
theorem dX9_hunt_47 : decode cX9_hunt 47 = .ok (.aload_n 0, 1) := by decide +kernel
theorem dX9_hunt_48 : decode cX9_hunt 48 = .ok (.getfield 56, 3) := by decide +kernel
theorem dX9_hunt_51 : decode cX9_hunt 51 = .ok (.iload_n 2, 1) := by decide +kernel
theorem dX9_hunt_52 : decode cX9_hunt 52 = .ok (.iconst (-1), 1) := by decide +kernel
theorem dX9_hunt_53 : decode cX9_hunt 53 = .ok (.iconst 2, 1) := by decide +kernel
theorem dX9_hunt_54 : decode cX9_hunt 54 = .ok (.invokevirtual 262, 3) := by decide +kernel
theorem dX9_hunt_57 : decode cX9_hunt 57 = .ok (.ifCond .eq 20, 3) := by decide +kernel
theorem dX9_hunt_60 : decode cX9_hunt 60 = .ok (.aload_n 0, 1) := by decide +kernel
theorem dX9_hunt_61 : decode cX9_hunt 61 = .ok (.getfield 56, 3) := by decide +kernel
theorem dX9_hunt_64 : decode cX9_hunt 64 = .ok (.invokevirtual 265, 3) := by decide +kernel
theorem dX9_hunt_67 : decode cX9_hunt 67 = .ok (.ifCond .eq 7, 3) := by decide +kernel
theorem dX9_hunt_70 : decode cX9_hunt 70 = .ok (.iload_n 2, 1) := by decide +kernel
theorem dX9_hunt_71 : decode cX9_hunt 71 = .ok (.goto 5, 3) := by decide +kernel
theorem dX9_hunt_74 : decode cX9_hunt 74 = .ok (.bipush (-4), 2) := by decide +kernel
theorem dX9_hunt_76 : decode cX9_hunt 76 = .ok (.ireturn, 1) := by decide +kernel
theorem dX9_hunt_77 : decode cX9_hunt 77 = .ok (.iinc 2 1, 3) := by decide +kernel
theorem dX9_hunt_80 : decode cX9_hunt 80 = .ok (.goto (-48), 3) := by decide +kernel
theorem dX9_hunt_83 : decode cX9_hunt 83 = .ok (.aload_n 0, 1) := by decide +kernel
theorem dX9_hunt_84 : decode cX9_hunt 84 = .ok (.getfield 56, 3) := by decide +kernel
theorem dX9_hunt_87 : decode cX9_hunt 87 = .ok (.getfield 259, 3) := by decide +kernel
theorem dX9_hunt_90 : decode cX9_hunt 90 = .ok (.ifCond .eq 8, 3) := by decide +kernel
theorem dX9_hunt_93 : decode cX9_hunt 93 = .ok (.bipush (-5), 2) := by decide +kernel
theorem dX9_hunt_95 : decode cX9_hunt 95 = .ok (.goto 4, 3) := by decide +kernel
theorem dX9_hunt_98 : decode cX9_hunt 98 = .ok (.iconst 0, 1) := by decide +kernel
theorem dX9_hunt_99 : decode cX9_hunt 99 = .ok (.ireturn, 1) := by decide +kernel
theorem dX9_spent_0 : decode cX9_spent 0 = .ok (.aload_n 0, 1) := by decide +kernel
theorem dX9_spent_1 : decode cX9_spent 1 = .ok (.getfield 56, 3) := by decide +kernel
theorem dX9_spent_4 : decode cX9_spent 4 = .ok (.getfield 268, 3) := by decide +kernel
theorem dX9_spent_7 : decode cX9_spent 7 = .ok (.ireturn, 1) := by decide +kernel
theorem dX9_tree_0 : decode cX9_tree 0 = .ok (.aload_n 0, 1) := by decide +kernel
theorem dX9_tree_1 : decode cX9_tree 1 = .ok (.getfield 56, 3) := by decide +kernel
theorem dX9_tree_4 : decode cX9_tree 4 = .ok (.getfield 177, 3) := by decide +kernel
theorem dX9_tree_7 : decode cX9_tree 7 = .ok (.ireturn, 1) := by decide +kernel
theorem dX9_node_0 : decode cX9_node 0 = .ok (.iload_n 1, 1) := by decide +kernel
theorem dX9_node_1 : decode cX9_node 1 = .ok (.ifCond .lt 14, 3) := by decide +kernel
theorem dX9_node_4 : decode cX9_node 4 = .ok (.iload_n 1, 1) := by decide +kernel
theorem dX9_node_5 : decode cX9_node 5 = .ok (.aload_n 0, 1) := by decide +kernel
theorem dX9_node_6 : decode cX9_node 6 = .ok (.getfield 56, 3) := by decide +kernel
theorem dX9_node_9 : decode cX9_node 9 = .ok (.getfield 177, 3) := by decide +kernel
theorem dX9_node_12 : decode cX9_node 12 = .ok (.if_icmp .lt 6, 3) := by decide +kernel
theorem dX9_node_15 : decode cX9_node 15 = .ok (.bipush (-2), 2) := by decide +kernel
theorem dX9_node_17 : decode cX9_node 17 = .ok (.ireturn, 1) := by decide +kernel
theorem dX9_node_18 : decode cX9_node 18 = .ok (.aload_n 0, 1) := by decide +kernel
theorem dX9_node_19 : decode cX9_node 19 = .ok (.getfield 56, 3) := by decide +kernel
theorem dX9_node_22 : decode cX9_node 22 = .ok (.getfield 271, 3) := by decide +kernel
theorem dX9_node_25 : decode cX9_node 25 = .ok (.iload_n 1, 1) := by decide +kernel
theorem dX9_node_26 : decode cX9_node 26 = .ok (.iaload, 1) := by decide +kernel
theorem dX9_node_27 : decode cX9_node 27 = .ok (.istore_n 3, 1) := by decide +kernel
theorem dX9_node_28 : decode cX9_node 28 = .ok (.iload_n 2, 1) := by decide +kernel
theorem dX9_node_29 : decode cX9_node 29 = .ok (.tableswitch 95 0 6 #[43, 53, 58, 63, 71, 76, 85], 43) := by decide +kernel
theorem dX9_node_72 : decode cX9_node 72 = .ok (.aload_n 0, 1) := by decide +kernel
theorem dX9_node_73 : decode cX9_node 73 = .ok (.getfield 56, 3) := by decide +kernel
theorem dX9_node_76 : decode cX9_node 76 = .ok (.getfield 274, 3) := by decide +kernel
theorem dX9_node_79 : decode cX9_node 79 = .ok (.iload_n 1, 1) := by decide +kernel
theorem dX9_node_80 : decode cX9_node 80 = .ok (.iaload, 1) := by decide +kernel
theorem dX9_node_81 : decode cX9_node 81 = .ok (.ireturn, 1) := by decide +kernel
theorem dX9_node_82 : decode cX9_node 82 = .ok (.iload_n 3, 1) := by decide +kernel
theorem dX9_node_83 : decode cX9_node 83 = .ok (.invokestatic 206, 3) := by decide +kernel
theorem dX9_node_86 : decode cX9_node 86 = .ok (.ireturn, 1) := by decide +kernel
theorem dX9_node_87 : decode cX9_node 87 = .ok (.iload_n 3, 1) := by decide +kernel
theorem dX9_node_88 : decode cX9_node 88 = .ok (.invokestatic 211, 3) := by decide +kernel
theorem dX9_node_91 : decode cX9_node 91 = .ok (.ireturn, 1) := by decide +kernel
theorem dX9_node_92 : decode cX9_node 92 = .ok (.iload_n 3, 1) := by decide +kernel
theorem dX9_node_93 : decode cX9_node 93 = .ok (.invokestatic 214, 3) := by decide +kernel
theorem dX9_node_96 : decode cX9_node 96 = .ok (.invokestatic 196, 3) := by decide +kernel
theorem dX9_node_99 : decode cX9_node 99 = .ok (.ireturn, 1) := by decide +kernel
theorem dX9_node_100 : decode cX9_node 100 = .ok (.iload_n 3, 1) := by decide +kernel
theorem dX9_node_101 : decode cX9_node 101 = .ok (.invokestatic 277, 3) := by decide +kernel
theorem dX9_node_104 : decode cX9_node 104 = .ok (.ireturn, 1) := by decide +kernel
theorem dX9_node_105 : decode cX9_node 105 = .ok (.aload_n 0, 1) := by decide +kernel
theorem dX9_node_106 : decode cX9_node 106 = .ok (.getfield 56, 3) := by decide +kernel
theorem dX9_node_109 : decode cX9_node 109 = .ok (.iload_n 1, 1) := by decide +kernel
theorem dX9_node_110 : decode cX9_node 110 = .ok (.invokevirtual 280, 3) := by decide +kernel
theorem dX9_node_113 : decode cX9_node 113 = .ok (.ireturn, 1) := by decide +kernel
theorem dX9_node_114 : decode cX9_node 114 = .ok (.aload_n 0, 1) := by decide +kernel
theorem dX9_node_115 : decode cX9_node 115 = .ok (.getfield 56, 3) := by decide +kernel
theorem dX9_node_118 : decode cX9_node 118 = .ok (.getfield 283, 3) := by decide +kernel
theorem dX9_node_121 : decode cX9_node 121 = .ok (.iload_n 1, 1) := by decide +kernel
theorem dX9_node_122 : decode cX9_node 122 = .ok (.iaload, 1) := by decide +kernel
theorem dX9_node_123 : decode cX9_node 123 = .ok (.ireturn, 1) := by decide +kernel
theorem dX9_node_124 : decode cX9_node 124 = .ok (.bipush (-2), 2) := by decide +kernel
theorem dX9_node_126 : decode cX9_node 126 = .ok (.ireturn, 1) := by decide +kernel
theorem dX9_forge_0 : decode cX9_forge 0 = .ok (.iload_n 1, 1) := by decide +kernel
theorem dX9_forge_1 : decode cX9_forge 1 = .ok (.ifCond .lt 22, 3) := by decide +kernel
theorem dX9_forge_4 : decode cX9_forge 4 = .ok (.iload_n 1, 1) := by decide +kernel
theorem dX9_forge_5 : decode cX9_forge 5 = .ok (.aload_n 0, 1) := by decide +kernel
theorem dX9_forge_6 : decode cX9_forge 6 = .ok (.getfield 56, 3) := by decide +kernel
theorem dX9_forge_9 : decode cX9_forge 9 = .ok (.getfield 177, 3) := by decide +kernel
theorem dX9_forge_12 : decode cX9_forge 12 = .ok (.if_icmp .ge 11, 3) := by decide +kernel
theorem dX9_forge_15 : decode cX9_forge 15 = .ok (.aload_n 0, 1) := by decide +kernel
theorem dX9_forge_16 : decode cX9_forge 16 = .ok (.iload_n 3, 1) := by decide +kernel
theorem dX9_forge_17 : decode cX9_forge 17 = .ok (.invokevirtual 183, 3) := by decide +kernel
theorem dX9_forge_20 : decode cX9_forge 20 = .ok (.ifCond .ne 6, 3) := by decide +kernel
theorem dX9_forge_23 : decode cX9_forge 23 = .ok (.bipush (-2), 2) := by decide +kernel
theorem dX9_forge_25 : decode cX9_forge 25 = .ok (.ireturn, 1) := by decide +kernel
theorem dX9_forge_26 : decode cX9_forge 26 = .ok (.iload_n 2, 1) := by decide +kernel
theorem dX9_forge_27 : decode cX9_forge 27 = .ok (.iconst (-1), 1) := by decide +kernel
theorem dX9_forge_28 : decode cX9_forge 28 = .ok (.if_icmp .ne 36, 3) := by decide +kernel
theorem dX9_forge_31 : decode cX9_forge 31 = .ok (.iload 4, 2) := by decide +kernel
theorem dX9_forge_33 : decode cX9_forge 33 = .ok (.ifCond .ne 11, 3) := by decide +kernel
theorem dX9_forge_36 : decode cX9_forge 36 = .ok (.iload 5, 2) := by decide +kernel
theorem dX9_forge_38 : decode cX9_forge 38 = .ok (.invokestatic 148, 3) := by decide +kernel
theorem dX9_forge_41 : decode cX9_forge 41 = .ok (.ifCond .ne 6, 3) := by decide +kernel
theorem dX9_forge_44 : decode cX9_forge 44 = .ok (.bipush (-2), 2) := by decide +kernel
theorem dX9_forge_46 : decode cX9_forge 46 = .ok (.ireturn, 1) := by decide +kernel
theorem dX9_forge_47 : decode cX9_forge 47 = .ok (.aload_n 0, 1) := by decide +kernel
theorem dX9_forge_48 : decode cX9_forge 48 = .ok (.getfield 56, 3) := by decide +kernel
theorem dX9_forge_51 : decode cX9_forge 51 = .ok (.getfield 271, 3) := by decide +kernel
theorem dX9_forge_54 : decode cX9_forge 54 = .ok (.iload_n 1, 1) := by decide +kernel
theorem dX9_forge_55 : decode cX9_forge 55 = .ok (.iload 5, 2) := by decide +kernel
theorem dX9_forge_57 : decode cX9_forge 57 = .ok (.iload_n 3, 1) := by decide +kernel
theorem dX9_forge_58 : decode cX9_forge 58 = .ok (.invokestatic 230, 3) := by decide +kernel
theorem dX9_forge_61 : decode cX9_forge 61 = .ok (.iastore, 1) := by decide +kernel
theorem dX9_forge_62 : decode cX9_forge 62 = .ok (.iconst 1, 1) := by decide +kernel
theorem dX9_forge_63 : decode cX9_forge 63 = .ok (.ireturn, 1) := by decide +kernel
theorem dX9_forge_64 : decode cX9_forge 64 = .ok (.aload_n 0, 1) := by decide +kernel
theorem dX9_forge_65 : decode cX9_forge 65 = .ok (.iload_n 2, 1) := by decide +kernel
theorem dX9_forge_66 : decode cX9_forge 66 = .ok (.invokevirtual 183, 3) := by decide +kernel
theorem dX9_forge_69 : decode cX9_forge 69 = .ok (.ifCond .ne 6, 3) := by decide +kernel
theorem dX9_forge_72 : decode cX9_forge 72 = .ok (.bipush (-2), 2) := by decide +kernel
theorem dX9_forge_74 : decode cX9_forge 74 = .ok (.ireturn, 1) := by decide +kernel
theorem dX9_forge_75 : decode cX9_forge 75 = .ok (.aload_n 0, 1) := by decide +kernel
theorem dX9_forge_76 : decode cX9_forge 76 = .ok (.getfield 56, 3) := by decide +kernel
theorem dX9_forge_79 : decode cX9_forge 79 = .ok (.getfield 271, 3) := by decide +kernel
theorem dX9_forge_82 : decode cX9_forge 82 = .ok (.iload_n 1, 1) := by decide +kernel
theorem dX9_forge_83 : decode cX9_forge 83 = .ok (.iload_n 2, 1) := by decide +kernel
theorem dX9_forge_84 : decode cX9_forge 84 = .ok (.iload_n 3, 1) := by decide +kernel
theorem dX9_forge_85 : decode cX9_forge 85 = .ok (.iload 4, 2) := by decide +kernel
theorem dX9_forge_87 : decode cX9_forge 87 = .ok (.invokestatic 223, 3) := by decide +kernel
theorem dX9_forge_90 : decode cX9_forge 90 = .ok (.iastore, 1) := by decide +kernel
theorem dX9_forge_91 : decode cX9_forge 91 = .ok (.iconst 1, 1) := by decide +kernel
theorem dX9_forge_92 : decode cX9_forge 92 = .ok (.ireturn, 1) := by decide +kernel
theorem dX9_verify_0 : decode cX9_verify 0 = .ok (.aload_n 0, 1) := by decide +kernel
theorem dX9_verify_1 : decode cX9_verify 1 = .ok (.getfield 86, 3) := by decide +kernel
theorem dX9_verify_4 : decode cX9_verify 4 = .ok (.ifCond .eq 13, 3) := by decide +kernel
theorem dX9_verify_7 : decode cX9_verify 7 = .ok (.aload_n 0, 1) := by decide +kernel
theorem dX9_verify_8 : decode cX9_verify 8 = .ok (.getfield 56, 3) := by decide +kernel
theorem dX9_verify_11 : decode cX9_verify 11 = .ok (.getfield 177, 3) := by decide +kernel
theorem dX9_verify_14 : decode cX9_verify 14 = .ok (.ifCond .ne 6, 3) := by decide +kernel
theorem dX9_verify_17 : decode cX9_verify 17 = .ok (.bipush (-3), 2) := by decide +kernel
theorem dX9_verify_19 : decode cX9_verify 19 = .ok (.ireturn, 1) := by decide +kernel
theorem dX9_verify_20 : decode cX9_verify 20 = .ok (.aload_n 0, 1) := by decide +kernel
theorem dX9_verify_21 : decode cX9_verify 21 = .ok (.getfield 56, 3) := by decide +kernel
theorem dX9_verify_24 : decode cX9_verify 24 = .ok (.iconst 0, 1) := by decide +kernel
theorem dX9_verify_25 : decode cX9_verify 25 = .ok (.iconst 2, 1) := by decide +kernel
theorem dX9_verify_26 : decode cX9_verify 26 = .ok (.invokevirtual 286, 3) := by decide +kernel
theorem dX9_verify_29 : decode cX9_verify 29 = .ok (.ireturn, 1) := by decide +kernel
theorem dX9_write_0 : decode cX9_write 0 = .ok (.aload_n 0, 1) := by decide +kernel
theorem dX9_write_1 : decode cX9_write 1 = .ok (.getfield 86, 3) := by decide +kernel
theorem dX9_write_4 : decode cX9_write 4 = .ok (.ifCond .ne 6, 3) := by decide +kernel
theorem dX9_write_7 : decode cX9_write 7 = .ok (.bipush (-3), 2) := by decide +kernel
theorem dX9_write_9 : decode cX9_write 9 = .ok (.ireturn, 1) := by decide +kernel
theorem dX9_write_10 : decode cX9_write 10 = .ok (.aload_n 0, 1) := by decide +kernel
theorem dX9_write_11 : decode cX9_write 11 = .ok (.getfield 63, 3) := by decide +kernel
theorem dX9_write_14 : decode cX9_write 14 = .ok (.aload_n 0, 1) := by decide +kernel
theorem dX9_write_15 : decode cX9_write 15 = .ok (.getfield 72, 3) := by decide +kernel
theorem dX9_write_18 : decode cX9_write 18 = .ok (.invokevirtual 289, 3) := by decide +kernel
theorem dX9_write_21 : decode cX9_write 21 = .ok (.aload_n 0, 1) := by decide +kernel
theorem dX9_write_22 : decode cX9_write 22 = .ok (.getfield 63, 3) := by decide +kernel
theorem dX9_write_25 : decode cX9_write 25 = .ok (.getfield 293, 3) := by decide +kernel
theorem dX9_write_28 : decode cX9_write 28 = .ok (.ireturn, 1) := by decide +kernel
theorem dX9_type_0 : decode cX9_type 0 = .ok (.iload_n 1, 1) := by decide +kernel
theorem dX9_type_1 : decode cX9_type 1 = .ok (.ifCond .lt 10, 3) := by decide +kernel
theorem dX9_type_4 : decode cX9_type 4 = .ok (.iload_n 1, 1) := by decide +kernel
theorem dX9_type_5 : decode cX9_type 5 = .ok (.sipush 255, 3) := by decide +kernel
theorem dX9_type_8 : decode cX9_type 8 = .ok (.if_icmp .le 6, 3) := by decide +kernel
theorem dX9_type_11 : decode cX9_type 11 = .ok (.bipush (-2), 2) := by decide +kernel
theorem dX9_type_13 : decode cX9_type 13 = .ok (.ireturn, 1) := by decide +kernel
theorem dX9_type_14 : decode cX9_type 14 = .ok (.aload_n 0, 1) := by decide +kernel
theorem dX9_type_15 : decode cX9_type 15 = .ok (.getfield 63, 3) := by decide +kernel
theorem dX9_type_18 : decode cX9_type 18 = .ok (.getfield 293, 3) := by decide +kernel
theorem dX9_type_21 : decode cX9_type 21 = .ok (.sipush 2000, 3) := by decide +kernel
theorem dX9_type_24 : decode cX9_type 24 = .ok (.if_icmp .lt 6, 3) := by decide +kernel
theorem dX9_type_27 : decode cX9_type 27 = .ok (.bipush (-4), 2) := by decide +kernel
theorem dX9_type_29 : decode cX9_type 29 = .ok (.ireturn, 1) := by decide +kernel
theorem dX9_type_30 : decode cX9_type 30 = .ok (.aload_n 0, 1) := by decide +kernel
theorem dX9_type_31 : decode cX9_type 31 = .ok (.getfield 63, 3) := by decide +kernel
theorem dX9_type_34 : decode cX9_type 34 = .ok (.iload_n 1, 1) := by decide +kernel
theorem dX9_type_35 : decode cX9_type 35 = .ok (.invokevirtual 294, 3) := by decide +kernel
theorem dX9_type_38 : decode cX9_type 38 = .ok (.aload_n 0, 1) := by decide +kernel
theorem dX9_type_39 : decode cX9_type 39 = .ok (.getfield 63, 3) := by decide +kernel
theorem dX9_type_42 : decode cX9_type 42 = .ok (.getfield 293, 3) := by decide +kernel
theorem dX9_type_45 : decode cX9_type 45 = .ok (.ireturn, 1) := by decide +kernel
theorem dX9_wipe_0 : decode cX9_wipe 0 = .ok (.aload_n 0, 1) := by decide +kernel
theorem dX9_wipe_1 : decode cX9_wipe 1 = .ok (.getfield 63, 3) := by decide +kernel
theorem dX9_wipe_4 : decode cX9_wipe 4 = .ok (.getfield 293, 3) := by decide +kernel
theorem dX9_wipe_7 : decode cX9_wipe 7 = .ok (.istore_n 1, 1) := by decide +kernel
theorem dX9_wipe_8 : decode cX9_wipe 8 = .ok (.aload_n 0, 1) := by decide +kernel
theorem dX9_wipe_9 : decode cX9_wipe 9 = .ok (.getfield 63, 3) := by decide +kernel
theorem dX9_wipe_12 : decode cX9_wipe 12 = .ok (.iconst 0, 1) := by decide +kernel
theorem dX9_wipe_13 : decode cX9_wipe 13 = .ok (.putfield 293, 3) := by decide +kernel
theorem dX9_wipe_16 : decode cX9_wipe 16 = .ok (.iload_n 1, 1) := by decide +kernel
theorem dX9_wipe_17 : decode cX9_wipe 17 = .ok (.ireturn, 1) := by decide +kernel
theorem dX9_letter_0 : decode cX9_letter 0 = .ok (.iload_n 1, 1) := by decide +kernel
theorem dX9_letter_1 : decode cX9_letter 1 = .ok (.ifCond .lt 14, 3) := by decide +kernel
theorem dX9_letter_4 : decode cX9_letter 4 = .ok (.iload_n 1, 1) := by decide +kernel
