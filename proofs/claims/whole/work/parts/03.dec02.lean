theorem dX4_repeat_44 : decode cX4_repeat 44 = .ok (.iconst 1, 1) := by decide +kernel
theorem dX4_repeat_45 : decode cX4_repeat 45 = .ok (.iadd, 1) := by decide +kernel
theorem dX4_repeat_46 : decode cX4_repeat 46 = .ok (.putfield 34, 3) := by decide +kernel
theorem dX4_repeat_49 : decode cX4_repeat 49 = .ok (.aload_n 0, 1) := by decide +kernel
theorem dX4_repeat_50 : decode cX4_repeat 50 = .ok (.invokevirtual 40, 3) := by decide +kernel
theorem dX4_repeat_53 : decode cX4_repeat 53 = .ok (.return_, 1) := by decide +kernel
theorem dX4_withdraw_0 : decode cX4_withdraw 0 = .ok (.aload_n 0, 1) := by decide +kernel
theorem dX4_withdraw_1 : decode cX4_withdraw 1 = .ok (.dup, 1) := by decide +kernel
theorem dX4_withdraw_2 : decode cX4_withdraw 2 = .ok (.getfield 34, 3) := by decide +kernel
theorem dX4_withdraw_5 : decode cX4_withdraw 5 = .ok (.iconst 1, 1) := by decide +kernel
theorem dX4_withdraw_6 : decode cX4_withdraw 6 = .ok (.isub, 1) := by decide +kernel
theorem dX4_withdraw_7 : decode cX4_withdraw 7 = .ok (.putfield 34, 3) := by decide +kernel
theorem dX4_withdraw_10 : decode cX4_withdraw 10 = .ok (.aload_n 0, 1) := by decide +kernel
theorem dX4_withdraw_11 : decode cX4_withdraw 11 = .ok (.getfield 21, 3) := by decide +kernel
theorem dX4_withdraw_14 : decode cX4_withdraw 14 = .ok (.aload_n 0, 1) := by decide +kernel
theorem dX4_withdraw_15 : decode cX4_withdraw 15 = .ok (.getfield 9, 3) := by decide +kernel
theorem dX4_withdraw_18 : decode cX4_withdraw 18 = .ok (.aload_n 0, 1) := by decide +kernel
theorem dX4_withdraw_19 : decode cX4_withdraw 19 = .ok (.getfield 34, 3) := by decide +kernel
theorem dX4_withdraw_22 : decode cX4_withdraw 22 = .ok (.iaload, 1) := by decide +kernel
theorem dX4_withdraw_23 : decode cX4_withdraw 23 = .ok (.invokevirtual 54, 3) := by decide +kernel
theorem dX4_withdraw_26 : decode cX4_withdraw 26 = .ok (.aload_n 0, 1) := by decide +kernel
theorem dX4_withdraw_27 : decode cX4_withdraw 27 = .ok (.invokevirtual 57, 3) := by decide +kernel
theorem dX4_withdraw_30 : decode cX4_withdraw 30 = .ok (.return_, 1) := by decide +kernel
theorem dX4_leave_0 : decode cX4_leave 0 = .ok (.aload_n 0, 1) := by decide +kernel
theorem dX4_leave_1 : decode cX4_leave 1 = .ok (.getfield 34, 3) := by decide +kernel
theorem dX4_leave_4 : decode cX4_leave 4 = .ok (.iconst 1, 1) := by decide +kernel
theorem dX4_leave_5 : decode cX4_leave 5 = .ok (.isub, 1) := by decide +kernel
theorem dX4_leave_6 : decode cX4_leave 6 = .ok (.istore_n 1, 1) := by decide +kernel
theorem dX4_leave_7 : decode cX4_leave 7 = .ok (.iload_n 1, 1) := by decide +kernel
theorem dX4_leave_8 : decode cX4_leave 8 = .ok (.ifCond .lt 22, 3) := by decide +kernel
theorem dX4_leave_11 : decode cX4_leave 11 = .ok (.aload_n 0, 1) := by decide +kernel
theorem dX4_leave_12 : decode cX4_leave 12 = .ok (.getfield 21, 3) := by decide +kernel
theorem dX4_leave_15 : decode cX4_leave 15 = .ok (.aload_n 0, 1) := by decide +kernel
theorem dX4_leave_16 : decode cX4_leave 16 = .ok (.getfield 9, 3) := by decide +kernel
theorem dX4_leave_19 : decode cX4_leave 19 = .ok (.iload_n 1, 1) := by decide +kernel
theorem dX4_leave_20 : decode cX4_leave 20 = .ok (.iaload, 1) := by decide +kernel
theorem dX4_leave_21 : decode cX4_leave 21 = .ok (.invokevirtual 54, 3) := by decide +kernel
theorem dX4_leave_24 : decode cX4_leave 24 = .ok (.iinc 1 (-1), 3) := by decide +kernel
theorem dX4_leave_27 : decode cX4_leave 27 = .ok (.goto (-20), 3) := by decide +kernel
theorem dX4_leave_30 : decode cX4_leave 30 = .ok (.return_, 1) := by decide +kernel
theorem dX4_resume_0 : decode cX4_resume 0 = .ok (.iconst 0, 1) := by decide +kernel
theorem dX4_resume_1 : decode cX4_resume 1 = .ok (.istore_n 1, 1) := by decide +kernel
theorem dX4_resume_2 : decode cX4_resume 2 = .ok (.iload_n 1, 1) := by decide +kernel
theorem dX4_resume_3 : decode cX4_resume 3 = .ok (.aload_n 0, 1) := by decide +kernel
theorem dX4_resume_4 : decode cX4_resume 4 = .ok (.getfield 34, 3) := by decide +kernel
theorem dX4_resume_7 : decode cX4_resume 7 = .ok (.if_icmp .ge 22, 3) := by decide +kernel
theorem dX4_resume_10 : decode cX4_resume 10 = .ok (.aload_n 0, 1) := by decide +kernel
theorem dX4_resume_11 : decode cX4_resume 11 = .ok (.getfield 21, 3) := by decide +kernel
theorem dX4_resume_14 : decode cX4_resume 14 = .ok (.aload_n 0, 1) := by decide +kernel
theorem dX4_resume_15 : decode cX4_resume 15 = .ok (.getfield 9, 3) := by decide +kernel
theorem dX4_resume_18 : decode cX4_resume 18 = .ok (.iload_n 1, 1) := by decide +kernel
theorem dX4_resume_19 : decode cX4_resume 19 = .ok (.iaload, 1) := by decide +kernel
theorem dX4_resume_20 : decode cX4_resume 20 = .ok (.invokevirtual 46, 3) := by decide +kernel
theorem dX4_resume_23 : decode cX4_resume 23 = .ok (.iinc 1 1, 3) := by decide +kernel
theorem dX4_resume_26 : decode cX4_resume 26 = .ok (.goto (-24), 3) := by decide +kernel
theorem dX4_resume_29 : decode cX4_resume 29 = .ok (.return_, 1) := by decide +kernel
theorem dX4_isOpen_0 : decode cX4_isOpen 0 = .ok (.aload_n 0, 1) := by decide +kernel
theorem dX4_isOpen_1 : decode cX4_isOpen 1 = .ok (.getfield 34, 3) := by decide +kernel
theorem dX4_isOpen_4 : decode cX4_isOpen 4 = .ok (.sipush 300, 3) := by decide +kernel
theorem dX4_isOpen_7 : decode cX4_isOpen 7 = .ok (.if_icmp .ge 14, 3) := by decide +kernel
theorem dX4_isOpen_10 : decode cX4_isOpen 10 = .ok (.aload_n 0, 1) := by decide +kernel
theorem dX4_isOpen_11 : decode cX4_isOpen 11 = .ok (.invokevirtual 60, 3) := by decide +kernel
theorem dX4_isOpen_14 : decode cX4_isOpen 14 = .ok (.ifCond .ne 7, 3) := by decide +kernel
theorem dX4_isOpen_17 : decode cX4_isOpen 17 = .ok (.iconst 1, 1) := by decide +kernel
theorem dX4_isOpen_18 : decode cX4_isOpen 18 = .ok (.goto 4, 3) := by decide +kernel
theorem dX4_isOpen_21 : decode cX4_isOpen 21 = .ok (.iconst 0, 1) := by decide +kernel
theorem dX4_isOpen_22 : decode cX4_isOpen 22 = .ok (.ireturn, 1) := by decide +kernel
theorem dX4_latestGaveCheck_0 : decode cX4_latestGaveCheck 0 = .ok (.aload_n 0, 1) := by decide +kernel
theorem dX4_latestGaveCheck_1 : decode cX4_latestGaveCheck 1 = .ok (.getfield 34, 3) := by decide +kernel
theorem dX4_latestGaveCheck_4 : decode cX4_latestGaveCheck 4 = .ok (.ifCond .le 21, 3) := by decide +kernel
theorem dX4_latestGaveCheck_7 : decode cX4_latestGaveCheck 7 = .ok (.aload_n 0, 1) := by decide +kernel
theorem dX4_latestGaveCheck_8 : decode cX4_latestGaveCheck 8 = .ok (.getfield 13, 3) := by decide +kernel
theorem dX4_latestGaveCheck_11 : decode cX4_latestGaveCheck 11 = .ok (.aload_n 0, 1) := by decide +kernel
theorem dX4_latestGaveCheck_12 : decode cX4_latestGaveCheck 12 = .ok (.getfield 34, 3) := by decide +kernel
theorem dX4_latestGaveCheck_15 : decode cX4_latestGaveCheck 15 = .ok (.iconst 1, 1) := by decide +kernel
theorem dX4_latestGaveCheck_16 : decode cX4_latestGaveCheck 16 = .ok (.isub, 1) := by decide +kernel
theorem dX4_latestGaveCheck_17 : decode cX4_latestGaveCheck 17 = .ok (.baload, 1) := by decide +kernel
theorem dX4_latestGaveCheck_18 : decode cX4_latestGaveCheck 18 = .ok (.ifCond .eq 7, 3) := by decide +kernel
theorem dX4_latestGaveCheck_21 : decode cX4_latestGaveCheck 21 = .ok (.iconst 1, 1) := by decide +kernel
theorem dX4_latestGaveCheck_22 : decode cX4_latestGaveCheck 22 = .ok (.goto 4, 3) := by decide +kernel
theorem dX4_latestGaveCheck_25 : decode cX4_latestGaveCheck 25 = .ok (.iconst 0, 1) := by decide +kernel
theorem dX4_latestGaveCheck_26 : decode cX4_latestGaveCheck 26 = .ok (.ireturn, 1) := by decide +kernel
theorem dX4_codeOf_0 : decode cX4_codeOf 0 = .ok (.aload_n 0, 1) := by decide +kernel
theorem dX4_codeOf_1 : decode cX4_codeOf 1 = .ok (.getfield 9, 3) := by decide +kernel
theorem dX4_codeOf_4 : decode cX4_codeOf 4 = .ok (.iload_n 1, 1) := by decide +kernel
theorem dX4_codeOf_5 : decode cX4_codeOf 5 = .ok (.iaload, 1) := by decide +kernel
theorem dX4_codeOf_6 : decode cX4_codeOf 6 = .ok (.ireturn, 1) := by decide +kernel
theorem dX4_ending_0 : decode cX4_ending 0 = .ok (.aload_n 0, 1) := by decide +kernel
theorem dX4_ending_1 : decode cX4_ending 1 = .ok (.getfield 64, 3) := by decide +kernel
theorem dX4_ending_4 : decode cX4_ending 4 = .ok (.iconst 4, 1) := by decide +kernel
theorem dX4_ending_5 : decode cX4_ending 5 = .ok (.if_icmp .ge 5, 3) := by decide +kernel
theorem dX4_ending_8 : decode cX4_ending 8 = .ok (.iconst 0, 1) := by decide +kernel
theorem dX4_ending_9 : decode cX4_ending 9 = .ok (.ireturn, 1) := by decide +kernel
theorem dX4_ending_10 : decode cX4_ending 10 = .ok (.aload_n 0, 1) := by decide +kernel
theorem dX4_ending_11 : decode cX4_ending 11 = .ok (.iconst 0, 1) := by decide +kernel
theorem dX4_ending_12 : decode cX4_ending 12 = .ok (.invokevirtual 67, 3) := by decide +kernel
theorem dX4_ending_15 : decode cX4_ending 15 = .ok (.ifCond .eq 5, 3) := by decide +kernel
theorem dX4_ending_18 : decode cX4_ending 18 = .ok (.iconst 3, 1) := by decide +kernel
theorem dX4_ending_19 : decode cX4_ending 19 = .ok (.ireturn, 1) := by decide +kernel
theorem dX4_ending_20 : decode cX4_ending 20 = .ok (.aload_n 0, 1) := by decide +kernel
theorem dX4_ending_21 : decode cX4_ending 21 = .ok (.iconst 1, 1) := by decide +kernel
theorem dX4_ending_22 : decode cX4_ending 22 = .ok (.invokevirtual 67, 3) := by decide +kernel
theorem dX4_ending_25 : decode cX4_ending 25 = .ok (.ifCond .eq 7, 3) := by decide +kernel
theorem dX4_ending_28 : decode cX4_ending 28 = .ok (.iconst 4, 1) := by decide +kernel
theorem dX4_ending_29 : decode cX4_ending 29 = .ok (.goto 4, 3) := by decide +kernel
theorem dX4_ending_32 : decode cX4_ending 32 = .ok (.iconst 2, 1) := by decide +kernel
theorem dX4_ending_33 : decode cX4_ending 33 = .ok (.ireturn, 1) := by decide +kernel
theorem dX4_onlyChecksOf_0 : decode cX4_onlyChecksOf 0 = .ok (.iload_n 1, 1) := by decide +kernel
theorem dX4_onlyChecksOf_1 : decode cX4_onlyChecksOf 1 = .ok (.aload_n 0, 1) := by decide +kernel
theorem dX4_onlyChecksOf_2 : decode cX4_onlyChecksOf 2 = .ok (.getfield 31, 3) := by decide +kernel
theorem dX4_onlyChecksOf_5 : decode cX4_onlyChecksOf 5 = .ok (.if_icmp .ne 17, 3) := by decide +kernel
theorem dX4_onlyChecksOf_8 : decode cX4_onlyChecksOf 8 = .ok (.aload_n 0, 1) := by decide +kernel
theorem dX4_onlyChecksOf_9 : decode cX4_onlyChecksOf 9 = .ok (.getfield 70, 3) := by decide +kernel
theorem dX4_onlyChecksOf_12 : decode cX4_onlyChecksOf 12 = .ok (.aload_n 0, 1) := by decide +kernel
theorem dX4_onlyChecksOf_13 : decode cX4_onlyChecksOf 13 = .ok (.getfield 70, 3) := by decide +kernel
theorem dX4_onlyChecksOf_16 : decode cX4_onlyChecksOf 16 = .ok (.iconst 1, 1) := by decide +kernel
theorem dX4_onlyChecksOf_17 : decode cX4_onlyChecksOf 17 = .ok (.iand, 1) := by decide +kernel
theorem dX4_onlyChecksOf_18 : decode cX4_onlyChecksOf 18 = .ok (.iadd, 1) := by decide +kernel
theorem dX4_onlyChecksOf_19 : decode cX4_onlyChecksOf 19 = .ok (.goto 16, 3) := by decide +kernel
theorem dX4_onlyChecksOf_22 : decode cX4_onlyChecksOf 22 = .ok (.aload_n 0, 1) := by decide +kernel
theorem dX4_onlyChecksOf_23 : decode cX4_onlyChecksOf 23 = .ok (.getfield 70, 3) := by decide +kernel
theorem dX4_onlyChecksOf_26 : decode cX4_onlyChecksOf 26 = .ok (.iconst 1, 1) := by decide +kernel
theorem dX4_onlyChecksOf_27 : decode cX4_onlyChecksOf 27 = .ok (.iadd, 1) := by decide +kernel
theorem dX4_onlyChecksOf_28 : decode cX4_onlyChecksOf 28 = .ok (.aload_n 0, 1) := by decide +kernel
theorem dX4_onlyChecksOf_29 : decode cX4_onlyChecksOf 29 = .ok (.getfield 70, 3) := by decide +kernel
theorem dX4_onlyChecksOf_32 : decode cX4_onlyChecksOf 32 = .ok (.iconst 1, 1) := by decide +kernel
theorem dX4_onlyChecksOf_33 : decode cX4_onlyChecksOf 33 = .ok (.iand, 1) := by decide +kernel
theorem dX4_onlyChecksOf_34 : decode cX4_onlyChecksOf 34 = .ok (.isub, 1) := by decide +kernel
theorem dX4_onlyChecksOf_35 : decode cX4_onlyChecksOf 35 = .ok (.istore_n 2, 1) := by decide +kernel
theorem dX4_onlyChecksOf_36 : decode cX4_onlyChecksOf 36 = .ok (.iload_n 2, 1) := by decide +kernel
theorem dX4_onlyChecksOf_37 : decode cX4_onlyChecksOf 37 = .ok (.istore_n 3, 1) := by decide +kernel
theorem dX4_onlyChecksOf_38 : decode cX4_onlyChecksOf 38 = .ok (.iload_n 3, 1) := by decide +kernel
theorem dX4_onlyChecksOf_39 : decode cX4_onlyChecksOf 39 = .ok (.aload_n 0, 1) := by decide +kernel
theorem dX4_onlyChecksOf_40 : decode cX4_onlyChecksOf 40 = .ok (.getfield 34, 3) := by decide +kernel
theorem dX4_onlyChecksOf_43 : decode cX4_onlyChecksOf 43 = .ok (.if_icmp .ge 20, 3) := by decide +kernel
theorem dX4_onlyChecksOf_46 : decode cX4_onlyChecksOf 46 = .ok (.aload_n 0, 1) := by decide +kernel
theorem dX4_onlyChecksOf_47 : decode cX4_onlyChecksOf 47 = .ok (.getfield 13, 3) := by decide +kernel
theorem dX4_onlyChecksOf_50 : decode cX4_onlyChecksOf 50 = .ok (.iload_n 3, 1) := by decide +kernel
theorem dX4_onlyChecksOf_51 : decode cX4_onlyChecksOf 51 = .ok (.baload, 1) := by decide +kernel
theorem dX4_onlyChecksOf_52 : decode cX4_onlyChecksOf 52 = .ok (.ifCond .ne 5, 3) := by decide +kernel
theorem dX4_onlyChecksOf_55 : decode cX4_onlyChecksOf 55 = .ok (.iconst 0, 1) := by decide +kernel
theorem dX4_onlyChecksOf_56 : decode cX4_onlyChecksOf 56 = .ok (.ireturn, 1) := by decide +kernel
theorem dX4_onlyChecksOf_57 : decode cX4_onlyChecksOf 57 = .ok (.iinc 3 2, 3) := by decide +kernel
theorem dX4_onlyChecksOf_60 : decode cX4_onlyChecksOf 60 = .ok (.goto (-22), 3) := by decide +kernel
theorem dX4_onlyChecksOf_63 : decode cX4_onlyChecksOf 63 = .ok (.iconst 1, 1) := by decide +kernel
theorem dX4_onlyChecksOf_64 : decode cX4_onlyChecksOf 64 = .ok (.ireturn, 1) := by decide +kernel
theorem dX4_keepStand_0 : decode cX4_keepStand 0 = .ok (.bipush 7, 2) := by decide +kernel
theorem dX4_keepStand_2 : decode cX4_keepStand 2 = .ok (.aload_n 0, 1) := by decide +kernel
theorem dX4_keepStand_3 : decode cX4_keepStand 3 = .ok (.getfield 34, 3) := by decide +kernel
theorem dX4_keepStand_6 : decode cX4_keepStand 6 = .ok (.imul, 1) := by decide +kernel
theorem dX4_keepStand_7 : decode cX4_keepStand 7 = .ok (.istore_n 1, 1) := by decide +kernel
theorem dX4_keepStand_8 : decode cX4_keepStand 8 = .ok (.iconst 0, 1) := by decide +kernel
theorem dX4_keepStand_9 : decode cX4_keepStand 9 = .ok (.istore_n 2, 1) := by decide +kernel
theorem dX4_keepStand_10 : decode cX4_keepStand 10 = .ok (.iload_n 2, 1) := by decide +kernel
theorem dX4_keepStand_11 : decode cX4_keepStand 11 = .ok (.iconst 5, 1) := by decide +kernel
theorem dX4_keepStand_12 : decode cX4_keepStand 12 = .ok (.if_icmp .ge 25, 3) := by decide +kernel
theorem dX4_keepStand_15 : decode cX4_keepStand 15 = .ok (.aload_n 0, 1) := by decide +kernel
theorem dX4_keepStand_16 : decode cX4_keepStand 16 = .ok (.getfield 17, 3) := by decide +kernel
theorem dX4_keepStand_19 : decode cX4_keepStand 19 = .ok (.iload_n 1, 1) := by decide +kernel
theorem dX4_keepStand_20 : decode cX4_keepStand 20 = .ok (.iload_n 2, 1) := by decide +kernel
theorem dX4_keepStand_21 : decode cX4_keepStand 21 = .ok (.iadd, 1) := by decide +kernel
theorem dX4_keepStand_22 : decode cX4_keepStand 22 = .ok (.aload_n 0, 1) := by decide +kernel
theorem dX4_keepStand_23 : decode cX4_keepStand 23 = .ok (.bipush 10, 2) := by decide +kernel
theorem dX4_keepStand_25 : decode cX4_keepStand 25 = .ok (.iload_n 2, 1) := by decide +kernel
theorem dX4_keepStand_26 : decode cX4_keepStand 26 = .ok (.imul, 1) := by decide +kernel
theorem dX4_keepStand_27 : decode cX4_keepStand 27 = .ok (.invokevirtual 73, 3) := by decide +kernel
theorem dX4_keepStand_30 : decode cX4_keepStand 30 = .ok (.lastore, 1) := by decide +kernel
theorem dX4_keepStand_31 : decode cX4_keepStand 31 = .ok (.iinc 2 1, 3) := by decide +kernel
theorem dX4_keepStand_34 : decode cX4_keepStand 34 = .ok (.goto (-24), 3) := by decide +kernel
theorem dX4_keepStand_37 : decode cX4_keepStand 37 = .ok (.aload_n 0, 1) := by decide +kernel
theorem dX4_keepStand_38 : decode cX4_keepStand 38 = .ok (.getfield 17, 3) := by decide +kernel
theorem dX4_keepStand_41 : decode cX4_keepStand 41 = .ok (.iload_n 1, 1) := by decide +kernel
theorem dX4_keepStand_42 : decode cX4_keepStand 42 = .ok (.iconst 5, 1) := by decide +kernel
theorem dX4_keepStand_43 : decode cX4_keepStand 43 = .ok (.iadd, 1) := by decide +kernel
theorem dX4_keepStand_44 : decode cX4_keepStand 44 = .ok (.aload_n 0, 1) := by decide +kernel
theorem dX4_keepStand_45 : decode cX4_keepStand 45 = .ok (.iconst 0, 1) := by decide +kernel
theorem dX4_keepStand_46 : decode cX4_keepStand 46 = .ok (.invokevirtual 77, 3) := by decide +kernel
theorem dX4_keepStand_49 : decode cX4_keepStand 49 = .ok (.lastore, 1) := by decide +kernel
theorem dX4_keepStand_50 : decode cX4_keepStand 50 = .ok (.aload_n 0, 1) := by decide +kernel
theorem dX4_keepStand_51 : decode cX4_keepStand 51 = .ok (.getfield 17, 3) := by decide +kernel
theorem dX4_keepStand_54 : decode cX4_keepStand 54 = .ok (.iload_n 1, 1) := by decide +kernel
theorem dX4_keepStand_55 : decode cX4_keepStand 55 = .ok (.iconst 5, 1) := by decide +kernel
theorem dX4_keepStand_56 : decode cX4_keepStand 56 = .ok (.iadd, 1) := by decide +kernel
theorem dX4_keepStand_57 : decode cX4_keepStand 57 = .ok (.iconst 1, 1) := by decide +kernel
theorem dX4_keepStand_58 : decode cX4_keepStand 58 = .ok (.iadd, 1) := by decide +kernel
theorem dX4_keepStand_59 : decode cX4_keepStand 59 = .ok (.aload_n 0, 1) := by decide +kernel
theorem dX4_keepStand_60 : decode cX4_keepStand 60 = .ok (.bipush 8, 2) := by decide +kernel
theorem dX4_keepStand_62 : decode cX4_keepStand 62 = .ok (.invokevirtual 77, 3) := by decide +kernel
theorem dX4_keepStand_65 : decode cX4_keepStand 65 = .ok (.lastore, 1) := by decide +kernel
theorem dX4_keepStand_66 : decode cX4_keepStand 66 = .ok (.aload_n 0, 1) := by decide +kernel
theorem dX4_keepStand_67 : decode cX4_keepStand 67 = .ok (.invokevirtual 57, 3) := by decide +kernel
theorem dX4_keepStand_70 : decode cX4_keepStand 70 = .ok (.return_, 1) := by decide +kernel
theorem dX4_packedFields_0 : decode cX4_packedFields 0 = .ok (.iload_n 1, 1) := by decide +kernel
theorem dX4_packedFields_1 : decode cX4_packedFields 1 = .ok (.bipush 10, 2) := by decide +kernel
theorem dX4_packedFields_3 : decode cX4_packedFields 3 = .ok (.iadd, 1) := by decide +kernel
theorem dX4_packedFields_4 : decode cX4_packedFields 4 = .ok (.aload_n 0, 1) := by decide +kernel
theorem dX4_packedFields_5 : decode cX4_packedFields 5 = .ok (.getfield 21, 3) := by decide +kernel
theorem dX4_packedFields_8 : decode cX4_packedFields 8 = .ok (.getfield 80, 3) := by decide +kernel
theorem dX4_packedFields_11 : decode cX4_packedFields 11 = .ok (.arraylength, 1) := by decide +kernel
theorem dX4_packedFields_12 : decode cX4_packedFields 12 = .ok (.invokestatic 83, 3) := by decide +kernel
theorem dX4_packedFields_15 : decode cX4_packedFields 15 = .ok (.istore_n 2, 1) := by decide +kernel
theorem dX4_packedFields_16 : decode cX4_packedFields 16 = .ok (.lconst 0, 1) := by decide +kernel
theorem dX4_packedFields_17 : decode cX4_packedFields 17 = .ok (.lstore_n 3, 1) := by decide +kernel
theorem dX4_packedFields_18 : decode cX4_packedFields 18 = .ok (.iload_n 1, 1) := by decide +kernel
theorem dX4_packedFields_19 : decode cX4_packedFields 19 = .ok (.istore 5, 2) := by decide +kernel
theorem dX4_packedFields_21 : decode cX4_packedFields 21 = .ok (.iload 5, 2) := by decide +kernel
theorem dX4_packedFields_23 : decode cX4_packedFields 23 = .ok (.iload_n 2, 1) := by decide +kernel
theorem dX4_packedFields_24 : decode cX4_packedFields 24 = .ok (.if_icmp .ge 26, 3) := by decide +kernel
theorem dX4_packedFields_27 : decode cX4_packedFields 27 = .ok (.lload_n 3, 1) := by decide +kernel
theorem dX4_packedFields_28 : decode cX4_packedFields 28 = .ok (.bipush 6, 2) := by decide +kernel
theorem dX4_packedFields_30 : decode cX4_packedFields 30 = .ok (.lshl, 1) := by decide +kernel
theorem dX4_packedFields_31 : decode cX4_packedFields 31 = .ok (.aload_n 0, 1) := by decide +kernel
theorem dX4_packedFields_32 : decode cX4_packedFields 32 = .ok (.getfield 21, 3) := by decide +kernel
theorem dX4_packedFields_35 : decode cX4_packedFields 35 = .ok (.getfield 80, 3) := by decide +kernel
theorem dX4_packedFields_38 : decode cX4_packedFields 38 = .ok (.iload 5, 2) := by decide +kernel
theorem dX4_packedFields_40 : decode cX4_packedFields 40 = .ok (.iaload, 1) := by decide +kernel
theorem dX4_packedFields_41 : decode cX4_packedFields 41 = .ok (.i2l, 1) := by decide +kernel
theorem dX4_packedFields_42 : decode cX4_packedFields 42 = .ok (.lor, 1) := by decide +kernel
theorem dX4_packedFields_43 : decode cX4_packedFields 43 = .ok (.lstore_n 3, 1) := by decide +kernel
theorem dX4_packedFields_44 : decode cX4_packedFields 44 = .ok (.iinc 5 1, 3) := by decide +kernel
theorem dX4_packedFields_47 : decode cX4_packedFields 47 = .ok (.goto (-26), 3) := by decide +kernel
theorem dX4_packedFields_50 : decode cX4_packedFields 50 = .ok (.lload_n 3, 1) := by decide +kernel
theorem dX4_packedFields_51 : decode cX4_packedFields 51 = .ok (.lreturn, 1) := by decide +kernel
theorem dX4_packedHand_0 : decode cX4_packedHand 0 = .ok (.lconst 0, 1) := by decide +kernel
theorem dX4_packedHand_1 : decode cX4_packedHand 1 = .ok (.lstore_n 2, 1) := by decide +kernel
theorem dX4_packedHand_2 : decode cX4_packedHand 2 = .ok (.iload_n 1, 1) := by decide +kernel
theorem dX4_packedHand_3 : decode cX4_packedHand 3 = .ok (.iconst 1, 1) := by decide +kernel
theorem dX4_packedHand_4 : decode cX4_packedHand 4 = .ok (.iadd, 1) := by decide +kernel
theorem dX4_packedHand_5 : decode cX4_packedHand 5 = .ok (.istore 4, 2) := by decide +kernel
theorem dX4_packedHand_7 : decode cX4_packedHand 7 = .ok (.iload 4, 2) := by decide +kernel
theorem dX4_packedHand_9 : decode cX4_packedHand 9 = .ok (.iload_n 1, 1) := by decide +kernel
theorem dX4_packedHand_10 : decode cX4_packedHand 10 = .ok (.bipush 8, 2) := by decide +kernel
theorem dX4_packedHand_12 : decode cX4_packedHand 12 = .ok (.iadd, 1) := by decide +kernel
theorem dX4_packedHand_13 : decode cX4_packedHand 13 = .ok (.if_icmp .ge 26, 3) := by decide +kernel
theorem dX4_packedHand_16 : decode cX4_packedHand 16 = .ok (.lload_n 2, 1) := by decide +kernel
theorem dX4_packedHand_17 : decode cX4_packedHand 17 = .ok (.bipush 7, 2) := by decide +kernel
theorem dX4_packedHand_19 : decode cX4_packedHand 19 = .ok (.lshl, 1) := by decide +kernel
theorem dX4_packedHand_20 : decode cX4_packedHand 20 = .ok (.aload_n 0, 1) := by decide +kernel
theorem dX4_packedHand_21 : decode cX4_packedHand 21 = .ok (.getfield 21, 3) := by decide +kernel
theorem dX4_packedHand_24 : decode cX4_packedHand 24 = .ok (.getfield 89, 3) := by decide +kernel
theorem dX4_packedHand_27 : decode cX4_packedHand 27 = .ok (.iload 4, 2) := by decide +kernel
theorem dX4_packedHand_29 : decode cX4_packedHand 29 = .ok (.iaload, 1) := by decide +kernel
theorem dX4_packedHand_30 : decode cX4_packedHand 30 = .ok (.i2l, 1) := by decide +kernel
theorem dX4_packedHand_31 : decode cX4_packedHand 31 = .ok (.lor, 1) := by decide +kernel
theorem dX4_packedHand_32 : decode cX4_packedHand 32 = .ok (.lstore_n 2, 1) := by decide +kernel
theorem dX4_packedHand_33 : decode cX4_packedHand 33 = .ok (.iinc 4 1, 3) := by decide +kernel
theorem dX4_packedHand_36 : decode cX4_packedHand 36 = .ok (.goto (-29), 3) := by decide +kernel
theorem dX4_packedHand_39 : decode cX4_packedHand 39 = .ok (.lload_n 2, 1) := by decide +kernel
theorem dX4_packedHand_40 : decode cX4_packedHand 40 = .ok (.lreturn, 1) := by decide +kernel
theorem dX4_countTimes_0 : decode cX4_countTimes 0 = .ok (.aload_n 0, 1) := by decide +kernel
theorem dX4_countTimes_1 : decode cX4_countTimes 1 = .ok (.iconst 0, 1) := by decide +kernel
theorem dX4_countTimes_2 : decode cX4_countTimes 2 = .ok (.putfield 64, 3) := by decide +kernel
theorem dX4_countTimes_5 : decode cX4_countTimes 5 = .ok (.aload_n 0, 1) := by decide +kernel
theorem dX4_countTimes_6 : decode cX4_countTimes 6 = .ok (.getfield 34, 3) := by decide +kernel
theorem dX4_countTimes_9 : decode cX4_countTimes 9 = .ok (.istore_n 1, 1) := by decide +kernel
theorem dX4_countTimes_10 : decode cX4_countTimes 10 = .ok (.iload_n 1, 1) := by decide +kernel
theorem dX4_countTimes_11 : decode cX4_countTimes 11 = .ok (.ifCond .lt 39, 3) := by decide +kernel
theorem dX4_countTimes_14 : decode cX4_countTimes 14 = .ok (.aload_n 0, 1) := by decide +kernel
theorem dX4_countTimes_15 : decode cX4_countTimes 15 = .ok (.iload_n 1, 1) := by decide +kernel
theorem dX4_countTimes_16 : decode cX4_countTimes 16 = .ok (.aload_n 0, 1) := by decide +kernel
theorem dX4_countTimes_17 : decode cX4_countTimes 17 = .ok (.getfield 34, 3) := by decide +kernel
theorem dX4_countTimes_20 : decode cX4_countTimes 20 = .ok (.invokevirtual 92, 3) := by decide +kernel
theorem dX4_countTimes_23 : decode cX4_countTimes 23 = .ok (.ifCond .ne 6, 3) := by decide +kernel
theorem dX4_countTimes_26 : decode cX4_countTimes 26 = .ok (.goto 18, 3) := by decide +kernel
theorem dX4_countTimes_29 : decode cX4_countTimes 29 = .ok (.aload_n 0, 1) := by decide +kernel
theorem dX4_countTimes_30 : decode cX4_countTimes 30 = .ok (.dup, 1) := by decide +kernel
theorem dX4_countTimes_31 : decode cX4_countTimes 31 = .ok (.getfield 64, 3) := by decide +kernel
theorem dX4_countTimes_34 : decode cX4_countTimes 34 = .ok (.iconst 1, 1) := by decide +kernel
theorem dX4_countTimes_35 : decode cX4_countTimes 35 = .ok (.iadd, 1) := by decide +kernel
theorem dX4_countTimes_36 : decode cX4_countTimes 36 = .ok (.putfield 64, 3) := by decide +kernel
theorem dX4_countTimes_39 : decode cX4_countTimes 39 = .ok (.aload_n 0, 1) := by decide +kernel
theorem dX4_countTimes_40 : decode cX4_countTimes 40 = .ok (.iload_n 1, 1) := by decide +kernel
theorem dX4_countTimes_41 : decode cX4_countTimes 41 = .ok (.putfield 70, 3) := by decide +kernel
theorem dX4_countTimes_44 : decode cX4_countTimes 44 = .ok (.iinc 1 (-2), 3) := by decide +kernel
theorem dX4_countTimes_47 : decode cX4_countTimes 47 = .ok (.goto (-37), 3) := by decide +kernel
theorem dX4_countTimes_50 : decode cX4_countTimes 50 = .ok (.return_, 1) := by decide +kernel
theorem dX4_isSameStand_0 : decode cX4_isSameStand 0 = .ok (.iconst 0, 1) := by decide +kernel
theorem dX4_isSameStand_1 : decode cX4_isSameStand 1 = .ok (.istore_n 3, 1) := by decide +kernel
theorem dX4_isSameStand_2 : decode cX4_isSameStand 2 = .ok (.iload_n 3, 1) := by decide +kernel
theorem dX4_isSameStand_3 : decode cX4_isSameStand 3 = .ok (.bipush 7, 2) := by decide +kernel
theorem dX4_isSameStand_5 : decode cX4_isSameStand 5 = .ok (.if_icmp .ge 37, 3) := by decide +kernel
theorem dX4_isSameStand_8 : decode cX4_isSameStand 8 = .ok (.aload_n 0, 1) := by decide +kernel
theorem dX4_isSameStand_9 : decode cX4_isSameStand 9 = .ok (.getfield 17, 3) := by decide +kernel
theorem dX4_isSameStand_12 : decode cX4_isSameStand 12 = .ok (.bipush 7, 2) := by decide +kernel
theorem dX4_isSameStand_14 : decode cX4_isSameStand 14 = .ok (.iload_n 1, 1) := by decide +kernel
theorem dX4_isSameStand_15 : decode cX4_isSameStand 15 = .ok (.imul, 1) := by decide +kernel
theorem dX4_isSameStand_16 : decode cX4_isSameStand 16 = .ok (.iload_n 3, 1) := by decide +kernel
theorem dX4_isSameStand_17 : decode cX4_isSameStand 17 = .ok (.iadd, 1) := by decide +kernel
theorem dX4_isSameStand_18 : decode cX4_isSameStand 18 = .ok (.laload, 1) := by decide +kernel
theorem dX4_isSameStand_19 : decode cX4_isSameStand 19 = .ok (.aload_n 0, 1) := by decide +kernel
theorem dX4_isSameStand_20 : decode cX4_isSameStand 20 = .ok (.getfield 17, 3) := by decide +kernel
theorem dX4_isSameStand_23 : decode cX4_isSameStand 23 = .ok (.bipush 7, 2) := by decide +kernel
theorem dX4_isSameStand_25 : decode cX4_isSameStand 25 = .ok (.iload_n 2, 1) := by decide +kernel
theorem dX4_isSameStand_26 : decode cX4_isSameStand 26 = .ok (.imul, 1) := by decide +kernel
theorem dX4_isSameStand_27 : decode cX4_isSameStand 27 = .ok (.iload_n 3, 1) := by decide +kernel
theorem dX4_isSameStand_28 : decode cX4_isSameStand 28 = .ok (.iadd, 1) := by decide +kernel
theorem dX4_isSameStand_29 : decode cX4_isSameStand 29 = .ok (.laload, 1) := by decide +kernel
theorem dX4_isSameStand_30 : decode cX4_isSameStand 30 = .ok (.lcmp, 1) := by decide +kernel
theorem dX4_isSameStand_31 : decode cX4_isSameStand 31 = .ok (.ifCond .eq 5, 3) := by decide +kernel
theorem dX4_isSameStand_34 : decode cX4_isSameStand 34 = .ok (.iconst 0, 1) := by decide +kernel
theorem dX4_isSameStand_35 : decode cX4_isSameStand 35 = .ok (.ireturn, 1) := by decide +kernel
theorem dX4_isSameStand_36 : decode cX4_isSameStand 36 = .ok (.iinc 3 1, 3) := by decide +kernel
theorem dX4_isSameStand_39 : decode cX4_isSameStand 39 = .ok (.goto (-37), 3) := by decide +kernel
theorem dX4_isSameStand_42 : decode cX4_isSameStand 42 = .ok (.iconst 1, 1) := by decide +kernel
theorem dX4_isSameStand_43 : decode cX4_isSameStand 43 = .ok (.ireturn, 1) := by decide +kernel
theorem dX5_init_0 : decode cX5_init 0 = .ok (.aload_n 0, 1) := by decide +kernel
theorem dX5_init_1 : decode cX5_init 1 = .ok (.invokespecial 3, 3) := by decide +kernel
theorem dX5_init_4 : decode cX5_init 4 = .ok (.aload_n 0, 1) := by decide +kernel
theorem dX5_init_5 : decode cX5_init 5 = .ok (.aload_n 1, 1) := by decide +kernel
theorem dX5_init_6 : decode cX5_init 6 = .ok (.putfield 9, 3) := by decide +kernel
theorem dX5_init_9 : decode cX5_init 9 = .ok (.aload_n 0, 1) := by decide +kernel
theorem dX5_init_10 : decode cX5_init 10 = .ok (.aload_n 2, 1) := by decide +kernel
theorem dX5_init_11 : decode cX5_init 11 = .ok (.putfield 13, 3) := by decide +kernel
theorem dX5_init_14 : decode cX5_init 14 = .ok (.aload_n 0, 1) := by decide +kernel
theorem dX5_init_15 : decode cX5_init 15 = .ok (.bipush 27, 2) := by decide +kernel
theorem dX5_init_17 : decode cX5_init 17 = .ok (.aload_n 1, 1) := by decide +kernel
theorem dX5_init_18 : decode cX5_init 18 = .ok (.getfield 17, 3) := by decide +kernel
theorem dX5_init_21 : decode cX5_init 21 = .ok (.imul, 1) := by decide +kernel
theorem dX5_init_22 : decode cX5_init 22 = .ok (.putfield 23, 3) := by decide +kernel
theorem dX5_init_25 : decode cX5_init 25 = .ok (.aload_n 0, 1) := by decide +kernel
theorem dX5_init_26 : decode cX5_init 26 = .ok (.bipush 10, 2) := by decide +kernel
theorem dX5_init_28 : decode cX5_init 28 = .ok (.aload_n 0, 1) := by decide +kernel
theorem dX5_init_29 : decode cX5_init 29 = .ok (.getfield 23, 3) := by decide +kernel
theorem dX5_init_32 : decode cX5_init 32 = .ok (.imul, 1) := by decide +kernel
theorem dX5_init_33 : decode cX5_init 33 = .ok (.newarray .int, 2) := by decide +kernel
theorem dX5_init_35 : decode cX5_init 35 = .ok (.putfield 26, 3) := by decide +kernel
theorem dX5_init_38 : decode cX5_init 38 = .ok (.return_, 1) := by decide +kernel
theorem dX5_startOf_0 : decode cX5_startOf 0 = .ok (.iload_n 1, 1) := by decide +kernel
theorem dX5_startOf_1 : decode cX5_startOf 1 = .ok (.aload_n 0, 1) := by decide +kernel
theorem dX5_startOf_2 : decode cX5_startOf 2 = .ok (.getfield 23, 3) := by decide +kernel
theorem dX5_startOf_5 : decode cX5_startOf 5 = .ok (.imul, 1) := by decide +kernel
theorem dX5_startOf_6 : decode cX5_startOf 6 = .ok (.ireturn, 1) := by decide +kernel
theorem dX5_listed_0 : decode cX5_listed 0 = .ok (.aload_n 0, 1) := by decide +kernel
theorem dX5_listed_1 : decode cX5_listed 1 = .ok (.getfield 26, 3) := by decide +kernel
theorem dX5_listed_4 : decode cX5_listed 4 = .ok (.iload_n 1, 1) := by decide +kernel
theorem dX5_listed_5 : decode cX5_listed 5 = .ok (.aload_n 0, 1) := by decide +kernel
theorem dX5_listed_6 : decode cX5_listed 6 = .ok (.getfield 23, 3) := by decide +kernel
theorem dX5_listed_9 : decode cX5_listed 9 = .ok (.imul, 1) := by decide +kernel
theorem dX5_listed_10 : decode cX5_listed 10 = .ok (.iload_n 2, 1) := by decide +kernel
theorem dX5_listed_11 : decode cX5_listed 11 = .ok (.iadd, 1) := by decide +kernel
theorem dX5_listed_12 : decode cX5_listed 12 = .ok (.iaload, 1) := by decide +kernel
theorem dX5_listed_13 : decode cX5_listed 13 = .ok (.ireturn, 1) := by decide +kernel
theorem dX5_fill_0 : decode cX5_fill 0 = .ok (.iload_n 1, 1) := by decide +kernel
theorem dX5_fill_1 : decode cX5_fill 1 = .ok (.aload_n 0, 1) := by decide +kernel
theorem dX5_fill_2 : decode cX5_fill 2 = .ok (.getfield 23, 3) := by decide +kernel
theorem dX5_fill_5 : decode cX5_fill 5 = .ok (.imul, 1) := by decide +kernel
theorem dX5_fill_6 : decode cX5_fill 6 = .ok (.istore_n 2, 1) := by decide +kernel
theorem dX5_fill_7 : decode cX5_fill 7 = .ok (.aload_n 0, 1) := by decide +kernel
theorem dX5_fill_8 : decode cX5_fill 8 = .ok (.getfield 13, 3) := by decide +kernel
theorem dX5_fill_11 : decode cX5_fill 11 = .ok (.getfield 30, 3) := by decide +kernel
theorem dX5_fill_14 : decode cX5_fill 14 = .ok (.istore_n 3, 1) := by decide +kernel
theorem dX5_fill_15 : decode cX5_fill 15 = .ok (.iconst 0, 1) := by decide +kernel
theorem dX5_fill_16 : decode cX5_fill 16 = .ok (.istore 4, 2) := by decide +kernel
theorem dX5_fill_18 : decode cX5_fill 18 = .ok (.iload 4, 2) := by decide +kernel
theorem dX5_fill_20 : decode cX5_fill 20 = .ok (.aload_n 0, 1) := by decide +kernel
theorem dX5_fill_21 : decode cX5_fill 21 = .ok (.getfield 9, 3) := by decide +kernel
theorem dX5_fill_24 : decode cX5_fill 24 = .ok (.getfield 17, 3) := by decide +kernel
theorem dX5_fill_27 : decode cX5_fill 27 = .ok (.if_icmp .ge 43, 3) := by decide +kernel
theorem dX5_fill_30 : decode cX5_fill 30 = .ok (.aload_n 0, 1) := by decide +kernel
theorem dX5_fill_31 : decode cX5_fill 31 = .ok (.getfield 13, 3) := by decide +kernel
theorem dX5_fill_34 : decode cX5_fill 34 = .ok (.getfield 35, 3) := by decide +kernel
theorem dX5_fill_37 : decode cX5_fill 37 = .ok (.iload 4, 2) := by decide +kernel
theorem dX5_fill_39 : decode cX5_fill 39 = .ok (.iaload, 1) := by decide +kernel
theorem dX5_fill_40 : decode cX5_fill 40 = .ok (.invokestatic 38, 3) := by decide +kernel
theorem dX5_fill_43 : decode cX5_fill 43 = .ok (.iload_n 3, 1) := by decide +kernel
theorem dX5_fill_44 : decode cX5_fill 44 = .ok (.if_icmp .ne 20, 3) := by decide +kernel
theorem dX5_fill_47 : decode cX5_fill 47 = .ok (.aload_n 0, 1) := by decide +kernel
theorem dX5_fill_48 : decode cX5_fill 48 = .ok (.iload 4, 2) := by decide +kernel
theorem dX5_fill_50 : decode cX5_fill 50 = .ok (.aload_n 0, 1) := by decide +kernel
theorem dX5_fill_51 : decode cX5_fill 51 = .ok (.getfield 13, 3) := by decide +kernel
theorem dX5_fill_54 : decode cX5_fill 54 = .ok (.iload 4, 2) := by decide +kernel
theorem dX5_fill_56 : decode cX5_fill 56 = .ok (.invokevirtual 44, 3) := by decide +kernel
theorem dX5_fill_59 : decode cX5_fill 59 = .ok (.iload_n 2, 1) := by decide +kernel
theorem dX5_fill_60 : decode cX5_fill 60 = .ok (.invokevirtual 47, 3) := by decide +kernel
theorem dX5_fill_63 : decode cX5_fill 63 = .ok (.istore_n 2, 1) := by decide +kernel
theorem dX5_fill_64 : decode cX5_fill 64 = .ok (.iinc 4 1, 3) := by decide +kernel
theorem dX5_fill_67 : decode cX5_fill 67 = .ok (.goto (-49), 3) := by decide +kernel
theorem dX5_fill_70 : decode cX5_fill 70 = .ok (.iconst 1, 1) := by decide +kernel
theorem dX5_fill_71 : decode cX5_fill 71 = .ok (.istore 4, 2) := by decide +kernel
theorem dX5_fill_73 : decode cX5_fill 73 = .ok (.iload 4, 2) := by decide +kernel
theorem dX5_fill_75 : decode cX5_fill 75 = .ok (.bipush 8, 2) := by decide +kernel
theorem dX5_fill_77 : decode cX5_fill 77 = .ok (.if_icmp .ge 35, 3) := by decide +kernel
theorem dX5_fill_80 : decode cX5_fill 80 = .ok (.aload_n 0, 1) := by decide +kernel
theorem dX5_fill_81 : decode cX5_fill 81 = .ok (.getfield 13, 3) := by decide +kernel
theorem dX5_fill_84 : decode cX5_fill 84 = .ok (.getfield 51, 3) := by decide +kernel
theorem dX5_fill_87 : decode cX5_fill 87 = .ok (.bipush 8, 2) := by decide +kernel
theorem dX5_fill_89 : decode cX5_fill 89 = .ok (.iload_n 3, 1) := by decide +kernel
theorem dX5_fill_90 : decode cX5_fill 90 = .ok (.imul, 1) := by decide +kernel
theorem dX5_fill_91 : decode cX5_fill 91 = .ok (.iload 4, 2) := by decide +kernel
theorem dX5_fill_93 : decode cX5_fill 93 = .ok (.iadd, 1) := by decide +kernel
theorem dX5_fill_94 : decode cX5_fill 94 = .ok (.iaload, 1) := by decide +kernel
theorem dX5_fill_95 : decode cX5_fill 95 = .ok (.ifCond .le 11, 3) := by decide +kernel
theorem dX5_fill_98 : decode cX5_fill 98 = .ok (.aload_n 0, 1) := by decide +kernel
theorem dX5_fill_99 : decode cX5_fill 99 = .ok (.iload 4, 2) := by decide +kernel
theorem dX5_fill_101 : decode cX5_fill 101 = .ok (.iload_n 2, 1) := by decide +kernel
theorem dX5_fill_102 : decode cX5_fill 102 = .ok (.invokevirtual 54, 3) := by decide +kernel
theorem dX5_fill_105 : decode cX5_fill 105 = .ok (.istore_n 2, 1) := by decide +kernel
theorem dX5_fill_106 : decode cX5_fill 106 = .ok (.iinc 4 1, 3) := by decide +kernel
theorem dX5_fill_109 : decode cX5_fill 109 = .ok (.goto (-36), 3) := by decide +kernel
theorem dX5_fill_112 : decode cX5_fill 112 = .ok (.iload_n 2, 1) := by decide +kernel
theorem dX5_fill_113 : decode cX5_fill 113 = .ok (.ireturn, 1) := by decide +kernel
theorem dX5_addGoings_0 : decode cX5_addGoings 0 = .ok (.iload_n 3, 1) := by decide +kernel
theorem dX5_addGoings_1 : decode cX5_addGoings 1 = .ok (.istore 4, 2) := by decide +kernel
theorem dX5_addGoings_3 : decode cX5_addGoings 3 = .ok (.aload_n 0, 1) := by decide +kernel
theorem dX5_addGoings_4 : decode cX5_addGoings 4 = .ok (.getfield 13, 3) := by decide +kernel
theorem dX5_addGoings_7 : decode cX5_addGoings 7 = .ok (.getfield 35, 3) := by decide +kernel
theorem dX5_addGoings_10 : decode cX5_addGoings 10 = .ok (.iload_n 1, 1) := by decide +kernel
theorem dX5_addGoings_11 : decode cX5_addGoings 11 = .ok (.iaload, 1) := by decide +kernel
theorem dX5_addGoings_12 : decode cX5_addGoings 12 = .ok (.istore 5, 2) := by decide +kernel
theorem dX5_addGoings_14 : decode cX5_addGoings 14 = .ok (.iload 5, 2) := by decide +kernel
theorem dX5_addGoings_16 : decode cX5_addGoings 16 = .ok (.invokestatic 58, 3) := by decide +kernel
theorem dX5_addGoings_19 : decode cX5_addGoings 19 = .ok (.istore 6, 2) := by decide +kernel
theorem dX5_addGoings_21 : decode cX5_addGoings 21 = .ok (.iconst 0, 1) := by decide +kernel
theorem dX5_addGoings_22 : decode cX5_addGoings 22 = .ok (.istore 7, 2) := by decide +kernel
theorem dX5_addGoings_24 : decode cX5_addGoings 24 = .ok (.iload 7, 2) := by decide +kernel
theorem dX5_addGoings_26 : decode cX5_addGoings 26 = .ok (.iload_n 2, 1) := by decide +kernel
theorem dX5_addGoings_27 : decode cX5_addGoings 27 = .ok (.if_icmp .ge 128, 3) := by decide +kernel
theorem dX5_addGoings_30 : decode cX5_addGoings 30 = .ok (.aload_n 0, 1) := by decide +kernel
theorem dX5_addGoings_31 : decode cX5_addGoings 31 = .ok (.getfield 13, 3) := by decide +kernel
theorem dX5_addGoings_34 : decode cX5_addGoings 34 = .ok (.getfield 62, 3) := by decide +kernel
theorem dX5_addGoings_37 : decode cX5_addGoings 37 = .ok (.iload 7, 2) := by decide +kernel
theorem dX5_addGoings_39 : decode cX5_addGoings 39 = .ok (.iaload, 1) := by decide +kernel
theorem dX5_addGoings_40 : decode cX5_addGoings 40 = .ok (.istore 8, 2) := by decide +kernel
theorem dX5_addGoings_42 : decode cX5_addGoings 42 = .ok (.aload_n 0, 1) := by decide +kernel
theorem dX5_addGoings_43 : decode cX5_addGoings 43 = .ok (.getfield 13, 3) := by decide +kernel
theorem dX5_addGoings_46 : decode cX5_addGoings 46 = .ok (.getfield 35, 3) := by decide +kernel
theorem dX5_addGoings_49 : decode cX5_addGoings 49 = .ok (.iload 8, 2) := by decide +kernel
theorem dX5_addGoings_51 : decode cX5_addGoings 51 = .ok (.iaload, 1) := by decide +kernel
theorem dX5_addGoings_52 : decode cX5_addGoings 52 = .ok (.istore 9, 2) := by decide +kernel
theorem dX5_addGoings_54 : decode cX5_addGoings 54 = .ok (.iload 9, 2) := by decide +kernel
theorem dX5_addGoings_56 : decode cX5_addGoings 56 = .ok (.invokestatic 38, 3) := by decide +kernel
theorem dX5_addGoings_59 : decode cX5_addGoings 59 = .ok (.aload_n 0, 1) := by decide +kernel
theorem dX5_addGoings_60 : decode cX5_addGoings 60 = .ok (.getfield 13, 3) := by decide +kernel
theorem dX5_addGoings_63 : decode cX5_addGoings 63 = .ok (.getfield 30, 3) := by decide +kernel
theorem dX5_addGoings_66 : decode cX5_addGoings 66 = .ok (.if_icmp .ne 6, 3) := by decide +kernel
theorem dX5_addGoings_69 : decode cX5_addGoings 69 = .ok (.goto 80, 3) := by decide +kernel
theorem dX5_addGoings_72 : decode cX5_addGoings 72 = .ok (.iload 9, 2) := by decide +kernel
theorem dX5_addGoings_74 : decode cX5_addGoings 74 = .ok (.bipush 16, 2) := by decide +kernel
theorem dX5_addGoings_76 : decode cX5_addGoings 76 = .ok (.ishl, 1) := by decide +kernel
theorem dX5_addGoings_77 : decode cX5_addGoings 77 = .ok (.iload_n 1, 1) := by decide +kernel
theorem dX5_addGoings_78 : decode cX5_addGoings 78 = .ok (.bipush 6, 2) := by decide +kernel
theorem dX5_addGoings_80 : decode cX5_addGoings 80 = .ok (.ishl, 1) := by decide +kernel
theorem dX5_addGoings_81 : decode cX5_addGoings 81 = .ok (.ior, 1) := by decide +kernel
theorem dX5_addGoings_82 : decode cX5_addGoings 82 = .ok (.iload 8, 2) := by decide +kernel
theorem dX5_addGoings_84 : decode cX5_addGoings 84 = .ok (.ior, 1) := by decide +kernel
theorem dX5_addGoings_85 : decode cX5_addGoings 85 = .ok (.istore 10, 2) := by decide +kernel
theorem dX5_addGoings_87 : decode cX5_addGoings 87 = .ok (.iload 6, 2) := by decide +kernel
theorem dX5_addGoings_89 : decode cX5_addGoings 89 = .ok (.ifCond .ne 17, 3) := by decide +kernel
theorem dX5_addGoings_92 : decode cX5_addGoings 92 = .ok (.aload_n 0, 1) := by decide +kernel
theorem dX5_addGoings_93 : decode cX5_addGoings 93 = .ok (.getfield 9, 3) := by decide +kernel
theorem dX5_addGoings_96 : decode cX5_addGoings 96 = .ok (.iload 5, 2) := by decide +kernel
theorem dX5_addGoings_98 : decode cX5_addGoings 98 = .ok (.iload 8, 2) := by decide +kernel
theorem dX5_addGoings_100 : decode cX5_addGoings 100 = .ok (.invokevirtual 65, 3) := by decide +kernel
theorem dX5_addGoings_103 : decode cX5_addGoings 103 = .ok (.ifCond .eq 15, 3) := by decide +kernel
theorem dX5_addGoings_106 : decode cX5_addGoings 106 = .ok (.aload_n 0, 1) := by decide +kernel
theorem dX5_addGoings_107 : decode cX5_addGoings 107 = .ok (.getfield 26, 3) := by decide +kernel
theorem dX5_addGoings_110 : decode cX5_addGoings 110 = .ok (.iload 4, 2) := by decide +kernel
theorem dX5_addGoings_112 : decode cX5_addGoings 112 = .ok (.iinc 4 1, 3) := by decide +kernel
theorem dX5_addGoings_115 : decode cX5_addGoings 115 = .ok (.iload 10, 2) := by decide +kernel
theorem dX5_addGoings_117 : decode cX5_addGoings 117 = .ok (.iastore, 1) := by decide +kernel
theorem dX5_addGoings_118 : decode cX5_addGoings 118 = .ok (.aload_n 0, 1) := by decide +kernel
theorem dX5_addGoings_119 : decode cX5_addGoings 119 = .ok (.getfield 9, 3) := by decide +kernel
theorem dX5_addGoings_122 : decode cX5_addGoings 122 = .ok (.iload 5, 2) := by decide +kernel
theorem dX5_addGoings_124 : decode cX5_addGoings 124 = .ok (.iload_n 1, 1) := by decide +kernel
theorem dX5_addGoings_125 : decode cX5_addGoings 125 = .ok (.iload 8, 2) := by decide +kernel
theorem dX5_addGoings_127 : decode cX5_addGoings 127 = .ok (.invokevirtual 69, 3) := by decide +kernel
theorem dX5_addGoings_130 : decode cX5_addGoings 130 = .ok (.ifCond .eq 19, 3) := by decide +kernel
theorem dX5_addGoings_133 : decode cX5_addGoings 133 = .ok (.aload_n 0, 1) := by decide +kernel
theorem dX5_addGoings_134 : decode cX5_addGoings 134 = .ok (.getfield 26, 3) := by decide +kernel
theorem dX5_addGoings_137 : decode cX5_addGoings 137 = .ok (.iload 4, 2) := by decide +kernel
theorem dX5_addGoings_139 : decode cX5_addGoings 139 = .ok (.iinc 4 1, 3) := by decide +kernel
theorem dX5_addGoings_142 : decode cX5_addGoings 142 = .ok (.iload 10, 2) := by decide +kernel
theorem dX5_addGoings_144 : decode cX5_addGoings 144 = .ok (.sipush 4096, 3) := by decide +kernel
theorem dX5_addGoings_147 : decode cX5_addGoings 147 = .ok (.ior, 1) := by decide +kernel
theorem dX5_addGoings_148 : decode cX5_addGoings 148 = .ok (.iastore, 1) := by decide +kernel
theorem dX5_addGoings_149 : decode cX5_addGoings 149 = .ok (.iinc 7 1, 3) := by decide +kernel
theorem dX5_addGoings_152 : decode cX5_addGoings 152 = .ok (.goto (-128), 3) := by decide +kernel
theorem dX5_addGoings_155 : decode cX5_addGoings 155 = .ok (.iload 4, 2) := by decide +kernel
theorem dX5_addGoings_157 : decode cX5_addGoings 157 = .ok (.ireturn, 1) := by decide +kernel
theorem dX5_addSettings_0 : decode cX5_addSettings 0 = .ok (.iload_n 2, 1) := by decide +kernel
theorem dX5_addSettings_1 : decode cX5_addSettings 1 = .ok (.istore_n 3, 1) := by decide +kernel
theorem dX5_addSettings_2 : decode cX5_addSettings 2 = .ok (.aload_n 0, 1) := by decide +kernel
theorem dX5_addSettings_3 : decode cX5_addSettings 3 = .ok (.getfield 13, 3) := by decide +kernel
theorem dX5_addSettings_6 : decode cX5_addSettings 6 = .ok (.getfield 30, 3) := by decide +kernel
theorem dX5_addSettings_9 : decode cX5_addSettings 9 = .ok (.iload_n 1, 1) := by decide +kernel
theorem dX5_addSettings_10 : decode cX5_addSettings 10 = .ok (.invokestatic 75, 3) := by decide +kernel
theorem dX5_addSettings_13 : decode cX5_addSettings 13 = .ok (.istore 4, 2) := by decide +kernel
theorem dX5_addSettings_15 : decode cX5_addSettings 15 = .ok (.aload_n 0, 1) := by decide +kernel
theorem dX5_addSettings_16 : decode cX5_addSettings 16 = .ok (.iload_n 1, 1) := by decide +kernel
theorem dX5_addSettings_17 : decode cX5_addSettings 17 = .ok (.iload 4, 2) := by decide +kernel
theorem dX5_addSettings_19 : decode cX5_addSettings 19 = .ok (.invokevirtual 78, 3) := by decide +kernel
theorem dX5_addSettings_22 : decode cX5_addSettings 22 = .ok (.istore 5, 2) := by decide +kernel
theorem dX5_addSettings_24 : decode cX5_addSettings 24 = .ok (.iconst 0, 1) := by decide +kernel
theorem dX5_addSettings_25 : decode cX5_addSettings 25 = .ok (.istore 6, 2) := by decide +kernel
theorem dX5_addSettings_27 : decode cX5_addSettings 27 = .ok (.iconst 0, 1) := by decide +kernel
theorem dX5_addSettings_28 : decode cX5_addSettings 28 = .ok (.istore 7, 2) := by decide +kernel
theorem dX5_addSettings_30 : decode cX5_addSettings 30 = .ok (.iload 7, 2) := by decide +kernel
theorem dX5_addSettings_32 : decode cX5_addSettings 32 = .ok (.aload_n 0, 1) := by decide +kernel
theorem dX5_addSettings_33 : decode cX5_addSettings 33 = .ok (.getfield 9, 3) := by decide +kernel
theorem dX5_addSettings_36 : decode cX5_addSettings 36 = .ok (.getfield 17, 3) := by decide +kernel
theorem dX5_addSettings_39 : decode cX5_addSettings 39 = .ok (.if_icmp .ge 97, 3) := by decide +kernel
theorem dX5_addSettings_42 : decode cX5_addSettings 42 = .ok (.aload_n 0, 1) := by decide +kernel
theorem dX5_addSettings_43 : decode cX5_addSettings 43 = .ok (.getfield 13, 3) := by decide +kernel
theorem dX5_addSettings_46 : decode cX5_addSettings 46 = .ok (.getfield 35, 3) := by decide +kernel
theorem dX5_addSettings_49 : decode cX5_addSettings 49 = .ok (.iload 7, 2) := by decide +kernel
theorem dX5_addSettings_51 : decode cX5_addSettings 51 = .ok (.iaload, 1) := by decide +kernel
theorem dX5_addSettings_52 : decode cX5_addSettings 52 = .ok (.ifCond .ne 17, 3) := by decide +kernel
theorem dX5_addSettings_55 : decode cX5_addSettings 55 = .ok (.iload 5, 2) := by decide +kernel
theorem dX5_addSettings_57 : decode cX5_addSettings 57 = .ok (.iload 6, 2) := by decide +kernel
theorem dX5_addSettings_59 : decode cX5_addSettings 59 = .ok (.ishr, 1) := by decide +kernel
theorem dX5_addSettings_60 : decode cX5_addSettings 60 = .ok (.iconst 1, 1) := by decide +kernel
theorem dX5_addSettings_61 : decode cX5_addSettings 61 = .ok (.iand, 1) := by decide +kernel
theorem dX5_addSettings_62 : decode cX5_addSettings 62 = .ok (.ifCond .ne 7, 3) := by decide +kernel
theorem dX5_addSettings_65 : decode cX5_addSettings 65 = .ok (.iconst 1, 1) := by decide +kernel
theorem dX5_addSettings_66 : decode cX5_addSettings 66 = .ok (.goto 4, 3) := by decide +kernel
theorem dX5_addSettings_69 : decode cX5_addSettings 69 = .ok (.iconst 0, 1) := by decide +kernel
theorem dX5_addSettings_70 : decode cX5_addSettings 70 = .ok (.istore 8, 2) := by decide +kernel
theorem dX5_addSettings_72 : decode cX5_addSettings 72 = .ok (.iload 8, 2) := by decide +kernel
theorem dX5_addSettings_74 : decode cX5_addSettings 74 = .ok (.ifCond .eq 32, 3) := by decide +kernel
theorem dX5_addSettings_77 : decode cX5_addSettings 77 = .ok (.aload_n 0, 1) := by decide +kernel
theorem dX5_addSettings_78 : decode cX5_addSettings 78 = .ok (.getfield 9, 3) := by decide +kernel
theorem dX5_addSettings_81 : decode cX5_addSettings 81 = .ok (.iload 4, 2) := by decide +kernel
theorem dX5_addSettings_83 : decode cX5_addSettings 83 = .ok (.iload 7, 2) := by decide +kernel
theorem dX5_addSettings_85 : decode cX5_addSettings 85 = .ok (.invokevirtual 65, 3) := by decide +kernel
theorem dX5_addSettings_88 : decode cX5_addSettings 88 = .ok (.ifCond .eq 18, 3) := by decide +kernel
theorem dX5_addSettings_91 : decode cX5_addSettings 91 = .ok (.aload_n 0, 1) := by decide +kernel
theorem dX5_addSettings_92 : decode cX5_addSettings 92 = .ok (.getfield 26, 3) := by decide +kernel
theorem dX5_addSettings_95 : decode cX5_addSettings 95 = .ok (.iload_n 3, 1) := by decide +kernel
theorem dX5_addSettings_96 : decode cX5_addSettings 96 = .ok (.iinc 3 1, 3) := by decide +kernel
theorem dX5_addSettings_99 : decode cX5_addSettings 99 = .ok (.iload_n 1, 1) := by decide +kernel
theorem dX5_addSettings_100 : decode cX5_addSettings 100 = .ok (.iload 7, 2) := by decide +kernel
theorem dX5_addSettings_102 : decode cX5_addSettings 102 = .ok (.invokestatic 81, 3) := by decide +kernel
theorem dX5_addSettings_105 : decode cX5_addSettings 105 = .ok (.iastore, 1) := by decide +kernel
theorem dX5_addSettings_106 : decode cX5_addSettings 106 = .ok (.iload 6, 2) := by decide +kernel
theorem dX5_addSettings_108 : decode cX5_addSettings 108 = .ok (.iconst 1, 1) := by decide +kernel
theorem dX5_addSettings_109 : decode cX5_addSettings 109 = .ok (.iadd, 1) := by decide +kernel
theorem dX5_addSettings_110 : decode cX5_addSettings 110 = .ok (.aload_n 0, 1) := by decide +kernel
theorem dX5_addSettings_111 : decode cX5_addSettings 111 = .ok (.getfield 9, 3) := by decide +kernel
theorem dX5_addSettings_114 : decode cX5_addSettings 114 = .ok (.getfield 84, 3) := by decide +kernel
theorem dX5_addSettings_117 : decode cX5_addSettings 117 = .ok (.if_icmp .ge 10, 3) := by decide +kernel
theorem dX5_addSettings_120 : decode cX5_addSettings 120 = .ok (.iload 6, 2) := by decide +kernel
theorem dX5_addSettings_122 : decode cX5_addSettings 122 = .ok (.iconst 1, 1) := by decide +kernel
theorem dX5_addSettings_123 : decode cX5_addSettings 123 = .ok (.iadd, 1) := by decide +kernel
theorem dX5_addSettings_124 : decode cX5_addSettings 124 = .ok (.goto 4, 3) := by decide +kernel
theorem dX5_addSettings_127 : decode cX5_addSettings 127 = .ok (.iconst 0, 1) := by decide +kernel
theorem dX5_addSettings_128 : decode cX5_addSettings 128 = .ok (.istore 6, 2) := by decide +kernel
theorem dX5_addSettings_130 : decode cX5_addSettings 130 = .ok (.iinc 7 1, 3) := by decide +kernel
theorem dX5_addSettings_133 : decode cX5_addSettings 133 = .ok (.goto (-103), 3) := by decide +kernel
theorem dX5_addSettings_136 : decode cX5_addSettings 136 = .ok (.iload_n 3, 1) := by decide +kernel
theorem dX5_addSettings_137 : decode cX5_addSettings 137 = .ok (.ireturn, 1) := by decide +kernel
theorem dX5_columnsShutTo_0 : decode cX5_columnsShutTo 0 = .ok (.aload_n 0, 1) := by decide +kernel
theorem dX5_columnsShutTo_1 : decode cX5_columnsShutTo 1 = .ok (.getfield 9, 3) := by decide +kernel
theorem dX5_columnsShutTo_4 : decode cX5_columnsShutTo 4 = .ok (.getfield 87, 3) := by decide +kernel
theorem dX5_columnsShutTo_7 : decode cX5_columnsShutTo 7 = .ok (.iload_n 1, 1) := by decide +kernel
theorem dX5_columnsShutTo_8 : decode cX5_columnsShutTo 8 = .ok (.iaload, 1) := by decide +kernel
theorem dX5_columnsShutTo_9 : decode cX5_columnsShutTo 9 = .ok (.iconst 1, 1) := by decide +kernel
theorem dX5_columnsShutTo_10 : decode cX5_columnsShutTo 10 = .ok (.iand, 1) := by decide +kernel
theorem dX5_columnsShutTo_11 : decode cX5_columnsShutTo 11 = .ok (.ifCond .ne 5, 3) := by decide +kernel
theorem dX5_columnsShutTo_14 : decode cX5_columnsShutTo 14 = .ok (.iconst 0, 1) := by decide +kernel
theorem dX5_columnsShutTo_15 : decode cX5_columnsShutTo 15 = .ok (.ireturn, 1) := by decide +kernel
theorem dX5_columnsShutTo_16 : decode cX5_columnsShutTo 16 = .ok (.iconst 0, 1) := by decide +kernel
theorem dX5_columnsShutTo_17 : decode cX5_columnsShutTo 17 = .ok (.istore_n 3, 1) := by decide +kernel
theorem dX5_columnsShutTo_18 : decode cX5_columnsShutTo 18 = .ok (.iconst 0, 1) := by decide +kernel
theorem dX5_columnsShutTo_19 : decode cX5_columnsShutTo 19 = .ok (.istore 4, 2) := by decide +kernel
theorem dX5_columnsShutTo_21 : decode cX5_columnsShutTo 21 = .ok (.iload 4, 2) := by decide +kernel
theorem dX5_columnsShutTo_23 : decode cX5_columnsShutTo 23 = .ok (.aload_n 0, 1) := by decide +kernel
theorem dX5_columnsShutTo_24 : decode cX5_columnsShutTo 24 = .ok (.getfield 9, 3) := by decide +kernel
theorem dX5_columnsShutTo_27 : decode cX5_columnsShutTo 27 = .ok (.getfield 17, 3) := by decide +kernel
theorem dX5_columnsShutTo_30 : decode cX5_columnsShutTo 30 = .ok (.if_icmp .ge 38, 3) := by decide +kernel
theorem dX5_columnsShutTo_33 : decode cX5_columnsShutTo 33 = .ok (.aload_n 0, 1) := by decide +kernel
theorem dX5_columnsShutTo_34 : decode cX5_columnsShutTo 34 = .ok (.getfield 13, 3) := by decide +kernel
theorem dX5_columnsShutTo_37 : decode cX5_columnsShutTo 37 = .ok (.getfield 35, 3) := by decide +kernel
theorem dX5_columnsShutTo_40 : decode cX5_columnsShutTo 40 = .ok (.iload 4, 2) := by decide +kernel
theorem dX5_columnsShutTo_42 : decode cX5_columnsShutTo 42 = .ok (.iaload, 1) := by decide +kernel
theorem dX5_columnsShutTo_43 : decode cX5_columnsShutTo 43 = .ok (.iload_n 2, 1) := by decide +kernel
theorem dX5_columnsShutTo_44 : decode cX5_columnsShutTo 44 = .ok (.if_icmp .ne 18, 3) := by decide +kernel
theorem dX5_columnsShutTo_47 : decode cX5_columnsShutTo 47 = .ok (.iload_n 3, 1) := by decide +kernel
theorem dX5_columnsShutTo_48 : decode cX5_columnsShutTo 48 = .ok (.iconst 1, 1) := by decide +kernel
theorem dX5_columnsShutTo_49 : decode cX5_columnsShutTo 49 = .ok (.iload 4, 2) := by decide +kernel
theorem dX5_columnsShutTo_51 : decode cX5_columnsShutTo 51 = .ok (.aload_n 0, 1) := by decide +kernel
theorem dX5_columnsShutTo_52 : decode cX5_columnsShutTo 52 = .ok (.getfield 9, 3) := by decide +kernel
theorem dX5_columnsShutTo_55 : decode cX5_columnsShutTo 55 = .ok (.getfield 84, 3) := by decide +kernel
theorem dX5_columnsShutTo_58 : decode cX5_columnsShutTo 58 = .ok (.irem, 1) := by decide +kernel
theorem dX5_columnsShutTo_59 : decode cX5_columnsShutTo 59 = .ok (.ishl, 1) := by decide +kernel
theorem dX5_columnsShutTo_60 : decode cX5_columnsShutTo 60 = .ok (.ior, 1) := by decide +kernel
theorem dX5_columnsShutTo_61 : decode cX5_columnsShutTo 61 = .ok (.istore_n 3, 1) := by decide +kernel
theorem dX5_columnsShutTo_62 : decode cX5_columnsShutTo 62 = .ok (.iinc 4 1, 3) := by decide +kernel
theorem dX5_columnsShutTo_65 : decode cX5_columnsShutTo 65 = .ok (.goto (-44), 3) := by decide +kernel
theorem dX5_columnsShutTo_68 : decode cX5_columnsShutTo 68 = .ok (.iload_n 3, 1) := by decide +kernel
theorem dX5_columnsShutTo_69 : decode cX5_columnsShutTo 69 = .ok (.ireturn, 1) := by decide +kernel
theorem dX5_listLawful_0 : decode cX5_listLawful 0 = .ok (.aload_n 0, 1) := by decide +kernel
theorem dX5_listLawful_1 : decode cX5_listLawful 1 = .ok (.getfield 13, 3) := by decide +kernel
theorem dX5_listLawful_4 : decode cX5_listLawful 4 = .ok (.aload_n 0, 1) := by decide +kernel
theorem dX5_listLawful_5 : decode cX5_listLawful 5 = .ok (.getfield 13, 3) := by decide +kernel
theorem dX5_listLawful_8 : decode cX5_listLawful 8 = .ok (.getfield 30, 3) := by decide +kernel
theorem dX5_listLawful_11 : decode cX5_listLawful 11 = .ok (.invokevirtual 90, 3) := by decide +kernel
theorem dX5_listLawful_14 : decode cX5_listLawful 14 = .ok (.ifCond .ne 7, 3) := by decide +kernel
theorem dX5_listLawful_17 : decode cX5_listLawful 17 = .ok (.iconst 1, 1) := by decide +kernel
theorem dX5_listLawful_18 : decode cX5_listLawful 18 = .ok (.goto 4, 3) := by decide +kernel
theorem dX5_listLawful_21 : decode cX5_listLawful 21 = .ok (.iconst 0, 1) := by decide +kernel
theorem dX5_listLawful_22 : decode cX5_listLawful 22 = .ok (.istore_n 2, 1) := by decide +kernel
theorem dX5_listLawful_23 : decode cX5_listLawful 23 = .ok (.iload_n 1, 1) := by decide +kernel
theorem dX5_listLawful_24 : decode cX5_listLawful 24 = .ok (.aload_n 0, 1) := by decide +kernel
theorem dX5_listLawful_25 : decode cX5_listLawful 25 = .ok (.getfield 23, 3) := by decide +kernel
theorem dX5_listLawful_28 : decode cX5_listLawful 28 = .ok (.imul, 1) := by decide +kernel
theorem dX5_listLawful_29 : decode cX5_listLawful 29 = .ok (.istore_n 3, 1) := by decide +kernel
theorem dX5_listLawful_30 : decode cX5_listLawful 30 = .ok (.aload_n 0, 1) := by decide +kernel
theorem dX5_listLawful_31 : decode cX5_listLawful 31 = .ok (.iload_n 1, 1) := by decide +kernel
theorem dX5_listLawful_32 : decode cX5_listLawful 32 = .ok (.invokevirtual 93, 3) := by decide +kernel
theorem dX5_listLawful_35 : decode cX5_listLawful 35 = .ok (.istore 4, 2) := by decide +kernel
theorem dX5_listLawful_37 : decode cX5_listLawful 37 = .ok (.iload_n 3, 1) := by decide +kernel
theorem dX5_listLawful_38 : decode cX5_listLawful 38 = .ok (.istore 5, 2) := by decide +kernel
theorem dX5_listLawful_40 : decode cX5_listLawful 40 = .ok (.iload_n 3, 1) := by decide +kernel
theorem dX5_listLawful_41 : decode cX5_listLawful 41 = .ok (.istore 6, 2) := by decide +kernel
theorem dX5_listLawful_43 : decode cX5_listLawful 43 = .ok (.iload 6, 2) := by decide +kernel
theorem dX5_listLawful_45 : decode cX5_listLawful 45 = .ok (.iload 4, 2) := by decide +kernel
theorem dX5_listLawful_47 : decode cX5_listLawful 47 = .ok (.if_icmp .ge 121, 3) := by decide +kernel
theorem dX5_listLawful_50 : decode cX5_listLawful 50 = .ok (.aload_n 0, 1) := by decide +kernel
theorem dX5_listLawful_51 : decode cX5_listLawful 51 = .ok (.getfield 26, 3) := by decide +kernel
theorem dX5_listLawful_54 : decode cX5_listLawful 54 = .ok (.iload 6, 2) := by decide +kernel
theorem dX5_listLawful_56 : decode cX5_listLawful 56 = .ok (.iaload, 1) := by decide +kernel
theorem dX5_listLawful_57 : decode cX5_listLawful 57 = .ok (.istore 7, 2) := by decide +kernel
theorem dX5_listLawful_59 : decode cX5_listLawful 59 = .ok (.iload_n 2, 1) := by decide +kernel
theorem dX5_listLawful_60 : decode cX5_listLawful 60 = .ok (.ifCond .eq 24, 3) := by decide +kernel
theorem dX5_listLawful_63 : decode cX5_listLawful 63 = .ok (.iload 7, 2) := by decide +kernel
theorem dX5_listLawful_65 : decode cX5_listLawful 65 = .ok (.invokestatic 96, 3) := by decide +kernel
theorem dX5_listLawful_68 : decode cX5_listLawful 68 = .ok (.ifCond .eq 16, 3) := by decide +kernel
theorem dX5_listLawful_71 : decode cX5_listLawful 71 = .ok (.aload_n 0, 1) := by decide +kernel
theorem dX5_listLawful_72 : decode cX5_listLawful 72 = .ok (.iload 7, 2) := by decide +kernel
theorem dX5_listLawful_74 : decode cX5_listLawful 74 = .ok (.invokevirtual 99, 3) := by decide +kernel
theorem dX5_listLawful_77 : decode cX5_listLawful 77 = .ok (.ifCond .ne 7, 3) := by decide +kernel
theorem dX5_listLawful_80 : decode cX5_listLawful 80 = .ok (.iconst 1, 1) := by decide +kernel
theorem dX5_listLawful_81 : decode cX5_listLawful 81 = .ok (.goto 4, 3) := by decide +kernel
theorem dX5_listLawful_84 : decode cX5_listLawful 84 = .ok (.iconst 0, 1) := by decide +kernel
theorem dX5_listLawful_85 : decode cX5_listLawful 85 = .ok (.istore 8, 2) := by decide +kernel
theorem dX5_listLawful_87 : decode cX5_listLawful 87 = .ok (.iload 8, 2) := by decide +kernel
theorem dX5_listLawful_89 : decode cX5_listLawful 89 = .ok (.ifCond .ne 56, 3) := by decide +kernel
theorem dX5_listLawful_92 : decode cX5_listLawful 92 = .ok (.aload_n 0, 1) := by decide +kernel
theorem dX5_listLawful_93 : decode cX5_listLawful 93 = .ok (.getfield 13, 3) := by decide +kernel
theorem dX5_listLawful_96 : decode cX5_listLawful 96 = .ok (.iload 7, 2) := by decide +kernel
theorem dX5_listLawful_98 : decode cX5_listLawful 98 = .ok (.invokevirtual 102, 3) := by decide +kernel
theorem dX5_listLawful_101 : decode cX5_listLawful 101 = .ok (.aload_n 0, 1) := by decide +kernel
theorem dX5_listLawful_102 : decode cX5_listLawful 102 = .ok (.getfield 13, 3) := by decide +kernel
theorem dX5_listLawful_105 : decode cX5_listLawful 105 = .ok (.iconst 1, 1) := by decide +kernel
theorem dX5_listLawful_106 : decode cX5_listLawful 106 = .ok (.aload_n 0, 1) := by decide +kernel
theorem dX5_listLawful_107 : decode cX5_listLawful 107 = .ok (.getfield 13, 3) := by decide +kernel
theorem dX5_listLawful_110 : decode cX5_listLawful 110 = .ok (.getfield 30, 3) := by decide +kernel
theorem dX5_listLawful_113 : decode cX5_listLawful 113 = .ok (.isub, 1) := by decide +kernel
theorem dX5_listLawful_114 : decode cX5_listLawful 114 = .ok (.invokevirtual 90, 3) := by decide +kernel
theorem dX5_listLawful_117 : decode cX5_listLawful 117 = .ok (.ifCond .ne 16, 3) := by decide +kernel
theorem dX5_listLawful_120 : decode cX5_listLawful 120 = .ok (.aload_n 0, 1) := by decide +kernel
theorem dX5_listLawful_121 : decode cX5_listLawful 121 = .ok (.iload 7, 2) := by decide +kernel
theorem dX5_listLawful_123 : decode cX5_listLawful 123 = .ok (.invokevirtual 106, 3) := by decide +kernel
theorem dX5_listLawful_126 : decode cX5_listLawful 126 = .ok (.ifCond .ne 7, 3) := by decide +kernel
theorem dX5_listLawful_129 : decode cX5_listLawful 129 = .ok (.iconst 1, 1) := by decide +kernel
theorem dX5_listLawful_130 : decode cX5_listLawful 130 = .ok (.goto 4, 3) := by decide +kernel
theorem dX5_listLawful_133 : decode cX5_listLawful 133 = .ok (.iconst 0, 1) := by decide +kernel
theorem dX5_listLawful_134 : decode cX5_listLawful 134 = .ok (.istore 8, 2) := by decide +kernel
theorem dX5_listLawful_136 : decode cX5_listLawful 136 = .ok (.aload_n 0, 1) := by decide +kernel
theorem dX5_listLawful_137 : decode cX5_listLawful 137 = .ok (.getfield 13, 3) := by decide +kernel
theorem dX5_listLawful_140 : decode cX5_listLawful 140 = .ok (.iload 7, 2) := by decide +kernel
theorem dX5_listLawful_142 : decode cX5_listLawful 142 = .ok (.invokevirtual 109, 3) := by decide +kernel
theorem dX5_listLawful_145 : decode cX5_listLawful 145 = .ok (.iload 8, 2) := by decide +kernel
theorem dX5_listLawful_147 : decode cX5_listLawful 147 = .ok (.ifCond .eq 15, 3) := by decide +kernel
theorem dX5_listLawful_150 : decode cX5_listLawful 150 = .ok (.aload_n 0, 1) := by decide +kernel
theorem dX5_listLawful_151 : decode cX5_listLawful 151 = .ok (.getfield 26, 3) := by decide +kernel
theorem dX5_listLawful_154 : decode cX5_listLawful 154 = .ok (.iload 5, 2) := by decide +kernel
theorem dX5_listLawful_156 : decode cX5_listLawful 156 = .ok (.iinc 5 1, 3) := by decide +kernel
theorem dX5_listLawful_159 : decode cX5_listLawful 159 = .ok (.iload 7, 2) := by decide +kernel
theorem dX5_listLawful_161 : decode cX5_listLawful 161 = .ok (.iastore, 1) := by decide +kernel
theorem dX5_listLawful_162 : decode cX5_listLawful 162 = .ok (.iinc 6 1, 3) := by decide +kernel
theorem dX5_listLawful_165 : decode cX5_listLawful 165 = .ok (.goto (-122), 3) := by decide +kernel
theorem dX5_listLawful_168 : decode cX5_listLawful 168 = .ok (.iload 5, 2) := by decide +kernel
theorem dX5_listLawful_170 : decode cX5_listLawful 170 = .ok (.iload_n 3, 1) := by decide +kernel
theorem dX5_listLawful_171 : decode cX5_listLawful 171 = .ok (.isub, 1) := by decide +kernel
theorem dX5_listLawful_172 : decode cX5_listLawful 172 = .ok (.ireturn, 1) := by decide +kernel
theorem dX5_hasSecondMark_0 : decode cX5_hasSecondMark 0 = .ok (.aload_n 0, 1) := by decide +kernel
theorem dX5_hasSecondMark_1 : decode cX5_hasSecondMark 1 = .ok (.getfield 9, 3) := by decide +kernel
theorem dX5_hasSecondMark_4 : decode cX5_hasSecondMark 4 = .ok (.getfield 87, 3) := by decide +kernel
theorem dX5_hasSecondMark_7 : decode cX5_hasSecondMark 7 = .ok (.iload_n 1, 1) := by decide +kernel
theorem dX5_hasSecondMark_8 : decode cX5_hasSecondMark 8 = .ok (.bipush 13, 2) := by decide +kernel
theorem dX5_hasSecondMark_10 : decode cX5_hasSecondMark 10 = .ok (.ishr, 1) := by decide +kernel
theorem dX5_hasSecondMark_11 : decode cX5_hasSecondMark 11 = .ok (.bipush 7, 2) := by decide +kernel
theorem dX5_hasSecondMark_13 : decode cX5_hasSecondMark 13 = .ok (.iand, 1) := by decide +kernel
theorem dX5_hasSecondMark_14 : decode cX5_hasSecondMark 14 = .ok (.iaload, 1) := by decide +kernel
theorem dX5_hasSecondMark_15 : decode cX5_hasSecondMark 15 = .ok (.iconst 2, 1) := by decide +kernel
theorem dX5_hasSecondMark_16 : decode cX5_hasSecondMark 16 = .ok (.iand, 1) := by decide +kernel
theorem dX5_hasSecondMark_17 : decode cX5_hasSecondMark 17 = .ok (.ifCond .eq 7, 3) := by decide +kernel
theorem dX5_hasSecondMark_20 : decode cX5_hasSecondMark 20 = .ok (.iconst 1, 1) := by decide +kernel
theorem dX5_hasSecondMark_21 : decode cX5_hasSecondMark 21 = .ok (.goto 4, 3) := by decide +kernel
theorem dX5_hasSecondMark_24 : decode cX5_hasSecondMark 24 = .ok (.iconst 0, 1) := by decide +kernel
theorem dX5_hasSecondMark_25 : decode cX5_hasSecondMark 25 = .ok (.ireturn, 1) := by decide +kernel
theorem dX5_holds_0 : decode cX5_holds 0 = .ok (.aload_n 0, 1) := by decide +kernel
theorem dX5_holds_1 : decode cX5_holds 1 = .ok (.getfield 13, 3) := by decide +kernel
theorem dX5_holds_4 : decode cX5_holds 4 = .ok (.iconst 1, 1) := by decide +kernel
theorem dX5_holds_5 : decode cX5_holds 5 = .ok (.aload_n 0, 1) := by decide +kernel
theorem dX5_holds_6 : decode cX5_holds 6 = .ok (.getfield 13, 3) := by decide +kernel
theorem dX5_holds_9 : decode cX5_holds 9 = .ok (.getfield 30, 3) := by decide +kernel
theorem dX5_holds_12 : decode cX5_holds 12 = .ok (.isub, 1) := by decide +kernel
theorem dX5_holds_13 : decode cX5_holds 13 = .ok (.invokevirtual 90, 3) := by decide +kernel
theorem dX5_holds_16 : decode cX5_holds 16 = .ok (.ifCond .ne 15, 3) := by decide +kernel
theorem dX5_holds_19 : decode cX5_holds 19 = .ok (.aload_n 0, 1) := by decide +kernel
theorem dX5_holds_20 : decode cX5_holds 20 = .ok (.iload_n 1, 1) := by decide +kernel
theorem dX5_holds_21 : decode cX5_holds 21 = .ok (.invokevirtual 106, 3) := by decide +kernel
theorem dX5_holds_24 : decode cX5_holds 24 = .ok (.ifCond .ne 7, 3) := by decide +kernel
theorem dX5_holds_27 : decode cX5_holds 27 = .ok (.iconst 1, 1) := by decide +kernel
theorem dX5_holds_28 : decode cX5_holds 28 = .ok (.goto 4, 3) := by decide +kernel
theorem dX5_holds_31 : decode cX5_holds 31 = .ok (.iconst 0, 1) := by decide +kernel
theorem dX5_holds_32 : decode cX5_holds 32 = .ok (.ireturn, 1) := by decide +kernel
theorem dX5_isForbiddenMate_0 : decode cX5_isForbiddenMate 0 = .ok (.aload_n 0, 1) := by decide +kernel
theorem dX5_isForbiddenMate_1 : decode cX5_isForbiddenMate 1 = .ok (.getfield 13, 3) := by decide +kernel
theorem dX5_isForbiddenMate_4 : decode cX5_isForbiddenMate 4 = .ok (.getfield 30, 3) := by decide +kernel
theorem dX5_isForbiddenMate_7 : decode cX5_isForbiddenMate 7 = .ok (.istore_n 2, 1) := by decide +kernel
theorem dX5_isForbiddenMate_8 : decode cX5_isForbiddenMate 8 = .ok (.iload_n 1, 1) := by decide +kernel
theorem dX5_isForbiddenMate_9 : decode cX5_isForbiddenMate 9 = .ok (.invokestatic 96, 3) := by decide +kernel
theorem dX5_isForbiddenMate_12 : decode cX5_isForbiddenMate 12 = .ok (.ifCond .eq 22, 3) := by decide +kernel
theorem dX5_isForbiddenMate_15 : decode cX5_isForbiddenMate 15 = .ok (.aload_n 0, 1) := by decide +kernel
theorem dX5_isForbiddenMate_16 : decode cX5_isForbiddenMate 16 = .ok (.iload_n 1, 1) := by decide +kernel
theorem dX5_isForbiddenMate_17 : decode cX5_isForbiddenMate 17 = .ok (.invokevirtual 99, 3) := by decide +kernel
theorem dX5_isForbiddenMate_20 : decode cX5_isForbiddenMate 20 = .ok (.ifCond .eq 14, 3) := by decide +kernel
theorem dX5_isForbiddenMate_23 : decode cX5_isForbiddenMate 23 = .ok (.aload_n 0, 1) := by decide +kernel
theorem dX5_isForbiddenMate_24 : decode cX5_isForbiddenMate 24 = .ok (.getfield 13, 3) := by decide +kernel
theorem dX5_isForbiddenMate_27 : decode cX5_isForbiddenMate 27 = .ok (.iload_n 2, 1) := by decide +kernel
theorem dX5_isForbiddenMate_28 : decode cX5_isForbiddenMate 28 = .ok (.invokevirtual 90, 3) := by decide +kernel
theorem dX5_isForbiddenMate_31 : decode cX5_isForbiddenMate 31 = .ok (.ifCond .ne 5, 3) := by decide +kernel
theorem dX5_isForbiddenMate_34 : decode cX5_isForbiddenMate 34 = .ok (.iconst 0, 1) := by decide +kernel
theorem dX5_isForbiddenMate_35 : decode cX5_isForbiddenMate 35 = .ok (.ireturn, 1) := by decide +kernel
theorem dX5_isForbiddenMate_36 : decode cX5_isForbiddenMate 36 = .ok (.aload_n 0, 1) := by decide +kernel
theorem dX5_isForbiddenMate_37 : decode cX5_isForbiddenMate 37 = .ok (.iconst 0, 1) := by decide +kernel
theorem dX5_isForbiddenMate_38 : decode cX5_isForbiddenMate 38 = .ok (.invokevirtual 93, 3) := by decide +kernel
theorem dX5_isForbiddenMate_41 : decode cX5_isForbiddenMate 41 = .ok (.istore_n 3, 1) := by decide +kernel
theorem dX5_isForbiddenMate_42 : decode cX5_isForbiddenMate 42 = .ok (.aload_n 0, 1) := by decide +kernel
theorem dX5_isForbiddenMate_43 : decode cX5_isForbiddenMate 43 = .ok (.iconst 0, 1) := by decide +kernel
theorem dX5_isForbiddenMate_44 : decode cX5_isForbiddenMate 44 = .ok (.invokevirtual 112, 3) := by decide +kernel
theorem dX5_isForbiddenMate_47 : decode cX5_isForbiddenMate 47 = .ok (.istore 4, 2) := by decide +kernel
theorem dX5_isForbiddenMate_49 : decode cX5_isForbiddenMate 49 = .ok (.iload 4, 2) := by decide +kernel
theorem dX5_isForbiddenMate_51 : decode cX5_isForbiddenMate 51 = .ok (.iload_n 3, 1) := by decide +kernel
theorem dX5_isForbiddenMate_52 : decode cX5_isForbiddenMate 52 = .ok (.if_icmp .ge 61, 3) := by decide +kernel
theorem dX5_isForbiddenMate_55 : decode cX5_isForbiddenMate 55 = .ok (.aload_n 0, 1) := by decide +kernel
theorem dX5_isForbiddenMate_56 : decode cX5_isForbiddenMate 56 = .ok (.getfield 26, 3) := by decide +kernel
theorem dX5_isForbiddenMate_59 : decode cX5_isForbiddenMate 59 = .ok (.iload 4, 2) := by decide +kernel
theorem dX5_isForbiddenMate_61 : decode cX5_isForbiddenMate 61 = .ok (.iaload, 1) := by decide +kernel
theorem dX5_isForbiddenMate_62 : decode cX5_isForbiddenMate 62 = .ok (.istore 5, 2) := by decide +kernel
theorem dX5_isForbiddenMate_64 : decode cX5_isForbiddenMate 64 = .ok (.aload_n 0, 1) := by decide +kernel
theorem dX5_isForbiddenMate_65 : decode cX5_isForbiddenMate 65 = .ok (.getfield 13, 3) := by decide +kernel
theorem dX5_isForbiddenMate_68 : decode cX5_isForbiddenMate 68 = .ok (.iload 5, 2) := by decide +kernel
theorem dX5_isForbiddenMate_70 : decode cX5_isForbiddenMate 70 = .ok (.invokevirtual 102, 3) := by decide +kernel
theorem dX5_isForbiddenMate_73 : decode cX5_isForbiddenMate 73 = .ok (.aload_n 0, 1) := by decide +kernel
theorem dX5_isForbiddenMate_74 : decode cX5_isForbiddenMate 74 = .ok (.getfield 13, 3) := by decide +kernel
theorem dX5_isForbiddenMate_77 : decode cX5_isForbiddenMate 77 = .ok (.iload_n 2, 1) := by decide +kernel
theorem dX5_isForbiddenMate_78 : decode cX5_isForbiddenMate 78 = .ok (.invokevirtual 90, 3) := by decide +kernel
theorem dX5_isForbiddenMate_81 : decode cX5_isForbiddenMate 81 = .ok (.ifCond .ne 7, 3) := by decide +kernel
theorem dX5_isForbiddenMate_84 : decode cX5_isForbiddenMate 84 = .ok (.iconst 1, 1) := by decide +kernel
theorem dX5_isForbiddenMate_85 : decode cX5_isForbiddenMate 85 = .ok (.goto 4, 3) := by decide +kernel
theorem dX5_isForbiddenMate_88 : decode cX5_isForbiddenMate 88 = .ok (.iconst 0, 1) := by decide +kernel
theorem dX5_isForbiddenMate_89 : decode cX5_isForbiddenMate 89 = .ok (.istore 6, 2) := by decide +kernel
theorem dX5_isForbiddenMate_91 : decode cX5_isForbiddenMate 91 = .ok (.aload_n 0, 1) := by decide +kernel
theorem dX5_isForbiddenMate_92 : decode cX5_isForbiddenMate 92 = .ok (.getfield 13, 3) := by decide +kernel
theorem dX5_isForbiddenMate_95 : decode cX5_isForbiddenMate 95 = .ok (.iload 5, 2) := by decide +kernel
theorem dX5_isForbiddenMate_97 : decode cX5_isForbiddenMate 97 = .ok (.invokevirtual 109, 3) := by decide +kernel
theorem dX5_isForbiddenMate_100 : decode cX5_isForbiddenMate 100 = .ok (.iload 6, 2) := by decide +kernel
theorem dX5_isForbiddenMate_102 : decode cX5_isForbiddenMate 102 = .ok (.ifCond .eq 5, 3) := by decide +kernel
theorem dX5_isForbiddenMate_105 : decode cX5_isForbiddenMate 105 = .ok (.iconst 0, 1) := by decide +kernel
theorem dX5_isForbiddenMate_106 : decode cX5_isForbiddenMate 106 = .ok (.ireturn, 1) := by decide +kernel
theorem dX5_isForbiddenMate_107 : decode cX5_isForbiddenMate 107 = .ok (.iinc 4 1, 3) := by decide +kernel
theorem dX5_isForbiddenMate_110 : decode cX5_isForbiddenMate 110 = .ok (.goto (-61), 3) := by decide +kernel
theorem dX5_isForbiddenMate_113 : decode cX5_isForbiddenMate 113 = .ok (.iconst 1, 1) := by decide +kernel
theorem dX5_isForbiddenMate_114 : decode cX5_isForbiddenMate 114 = .ok (.ireturn, 1) := by decide +kernel
theorem dX5_faultOf_0 : decode cX5_faultOf 0 = .ok (.iload_n 1, 1) := by decide +kernel
theorem dX5_faultOf_1 : decode cX5_faultOf 1 = .ok (.invokestatic 96, 3) := by decide +kernel
theorem dX5_faultOf_4 : decode cX5_faultOf 4 = .ok (.istore_n 2, 1) := by decide +kernel
theorem dX5_faultOf_5 : decode cX5_faultOf 5 = .ok (.iload_n 2, 1) := by decide +kernel
theorem dX5_faultOf_6 : decode cX5_faultOf 6 = .ok (.ifCond .eq 21, 3) := by decide +kernel
theorem dX5_faultOf_9 : decode cX5_faultOf 9 = .ok (.aload_n 0, 1) := by decide +kernel
theorem dX5_faultOf_10 : decode cX5_faultOf 10 = .ok (.iload_n 1, 1) := by decide +kernel
theorem dX5_faultOf_11 : decode cX5_faultOf 11 = .ok (.bipush 13, 2) := by decide +kernel
theorem dX5_faultOf_13 : decode cX5_faultOf 13 = .ok (.ishr, 1) := by decide +kernel
theorem dX5_faultOf_14 : decode cX5_faultOf 14 = .ok (.bipush 7, 2) := by decide +kernel
theorem dX5_faultOf_16 : decode cX5_faultOf 16 = .ok (.iand, 1) := by decide +kernel
theorem dX5_faultOf_17 : decode cX5_faultOf 17 = .ok (.iload_n 1, 1) := by decide +kernel
theorem dX5_faultOf_18 : decode cX5_faultOf 18 = .ok (.bipush 63, 2) := by decide +kernel
theorem dX5_faultOf_20 : decode cX5_faultOf 20 = .ok (.iand, 1) := by decide +kernel
theorem dX5_faultOf_21 : decode cX5_faultOf 21 = .ok (.invokevirtual 115, 3) := by decide +kernel
theorem dX5_faultOf_24 : decode cX5_faultOf 24 = .ok (.goto 8, 3) := by decide +kernel
theorem dX5_faultOf_27 : decode cX5_faultOf 27 = .ok (.aload_n 0, 1) := by decide +kernel
theorem dX5_faultOf_28 : decode cX5_faultOf 28 = .ok (.iload_n 1, 1) := by decide +kernel
theorem dX5_faultOf_29 : decode cX5_faultOf 29 = .ok (.invokevirtual 118, 3) := by decide +kernel
theorem dX5_faultOf_32 : decode cX5_faultOf 32 = .ok (.istore_n 3, 1) := by decide +kernel
theorem dX5_faultOf_33 : decode cX5_faultOf 33 = .ok (.iload_n 3, 1) := by decide +kernel
theorem dX5_faultOf_34 : decode cX5_faultOf 34 = .ok (.ifCond .eq 5, 3) := by decide +kernel
theorem dX5_faultOf_37 : decode cX5_faultOf 37 = .ok (.iload_n 3, 1) := by decide +kernel
theorem dX5_faultOf_38 : decode cX5_faultOf 38 = .ok (.ireturn, 1) := by decide +kernel
theorem dX5_faultOf_39 : decode cX5_faultOf 39 = .ok (.aload_n 0, 1) := by decide +kernel
theorem dX5_faultOf_40 : decode cX5_faultOf 40 = .ok (.getfield 13, 3) := by decide +kernel
theorem dX5_faultOf_43 : decode cX5_faultOf 43 = .ok (.iload_n 1, 1) := by decide +kernel
theorem dX5_faultOf_44 : decode cX5_faultOf 44 = .ok (.invokevirtual 121, 3) := by decide +kernel
theorem dX5_faultOf_47 : decode cX5_faultOf 47 = .ok (.istore 4, 2) := by decide +kernel
theorem dX5_faultOf_49 : decode cX5_faultOf 49 = .ok (.aload_n 0, 1) := by decide +kernel
theorem dX5_faultOf_50 : decode cX5_faultOf 50 = .ok (.getfield 13, 3) := by decide +kernel
theorem dX5_faultOf_53 : decode cX5_faultOf 53 = .ok (.iload 4, 2) := by decide +kernel
