theorem dX6_length_0 : decode cX6_length 0 = .ok (.aload_n 0, 1) := by decide +kernel
theorem dX6_length_1 : decode cX6_length 1 = .ok (.getfield 24, 3) := by decide +kernel
theorem dX6_length_4 : decode cX6_length 4 = .ok (.ireturn, 1) := by decide +kernel
theorem dX6_codeAt_0 : decode cX6_codeAt 0 = .ok (.iload_n 1, 1) := by decide +kernel
theorem dX6_codeAt_1 : decode cX6_codeAt 1 = .ok (.ifCond .lt 21, 3) := by decide +kernel
theorem dX6_codeAt_4 : decode cX6_codeAt 4 = .ok (.iload_n 1, 1) := by decide +kernel
theorem dX6_codeAt_5 : decode cX6_codeAt 5 = .ok (.aload_n 0, 1) := by decide +kernel
theorem dX6_codeAt_6 : decode cX6_codeAt 6 = .ok (.getfield 20, 3) := by decide +kernel
theorem dX6_codeAt_9 : decode cX6_codeAt 9 = .ok (.arraylength, 1) := by decide +kernel
theorem dX6_codeAt_10 : decode cX6_codeAt 10 = .ok (.if_icmp .ge 12, 3) := by decide +kernel
theorem dX6_codeAt_13 : decode cX6_codeAt 13 = .ok (.aload_n 0, 1) := by decide +kernel
theorem dX6_codeAt_14 : decode cX6_codeAt 14 = .ok (.getfield 20, 3) := by decide +kernel
theorem dX6_codeAt_17 : decode cX6_codeAt 17 = .ok (.iload_n 1, 1) := by decide +kernel
theorem dX6_codeAt_18 : decode cX6_codeAt 18 = .ok (.iaload, 1) := by decide +kernel
theorem dX6_codeAt_19 : decode cX6_codeAt 19 = .ok (.goto 4, 3) := by decide +kernel
theorem dX6_codeAt_22 : decode cX6_codeAt 22 = .ok (.iconst 0, 1) := by decide +kernel
theorem dX6_codeAt_23 : decode cX6_codeAt 23 = .ok (.ireturn, 1) := by decide +kernel
theorem dX6_read_0 : decode cX6_read 0 = .ok (.aload_n 0, 1) := by decide +kernel
theorem dX6_read_1 : decode cX6_read 1 = .ok (.getfield 12, 3) := by decide +kernel
theorem dX6_read_4 : decode cX6_read 4 = .ok (.invokevirtual 28, 3) := by decide +kernel
theorem dX6_read_7 : decode cX6_read 7 = .ok (.aload_n 0, 1) := by decide +kernel
theorem dX6_read_8 : decode cX6_read 8 = .ok (.iconst 0, 1) := by decide +kernel
theorem dX6_read_9 : decode cX6_read 9 = .ok (.putfield 24, 3) := by decide +kernel
theorem dX6_read_12 : decode cX6_read 12 = .ok (.aload_n 0, 1) := by decide +kernel
theorem dX6_read_13 : decode cX6_read 13 = .ok (.invokevirtual 31, 3) := by decide +kernel
theorem dX6_read_16 : decode cX6_read 16 = .ok (.iconst 0, 1) := by decide +kernel
theorem dX6_read_17 : decode cX6_read 17 = .ok (.istore_n 1, 1) := by decide +kernel
theorem dX6_read_18 : decode cX6_read 18 = .ok (.iload_n 1, 1) := by decide +kernel
theorem dX6_read_19 : decode cX6_read 19 = .ok (.sipush 240, 3) := by decide +kernel
theorem dX6_read_22 : decode cX6_read 22 = .ok (.if_icmp .ge 25, 3) := by decide +kernel
theorem dX6_read_25 : decode cX6_read 25 = .ok (.aload_n 0, 1) := by decide +kernel
theorem dX6_read_26 : decode cX6_read 26 = .ok (.getfield 12, 3) := by decide +kernel
theorem dX6_read_29 : decode cX6_read 29 = .ok (.bipush 59, 2) := by decide +kernel
theorem dX6_read_31 : decode cX6_read 31 = .ok (.invokevirtual 34, 3) := by decide +kernel
theorem dX6_read_34 : decode cX6_read 34 = .ok (.ifCond .eq 13, 3) := by decide +kernel
theorem dX6_read_37 : decode cX6_read 37 = .ok (.aload_n 0, 1) := by decide +kernel
theorem dX6_read_38 : decode cX6_read 38 = .ok (.invokevirtual 31, 3) := by decide +kernel
theorem dX6_read_41 : decode cX6_read 41 = .ok (.iinc 1 1, 3) := by decide +kernel
theorem dX6_read_44 : decode cX6_read 44 = .ok (.goto (-26), 3) := by decide +kernel
theorem dX6_read_47 : decode cX6_read 47 = .ok (.aload_n 0, 1) := by decide +kernel
theorem dX6_read_48 : decode cX6_read 48 = .ok (.getfield 12, 3) := by decide +kernel
theorem dX6_read_51 : decode cX6_read 51 = .ok (.invokevirtual 38, 3) := by decide +kernel
theorem dX6_read_54 : decode cX6_read 54 = .ok (.aload_n 0, 1) := by decide +kernel
theorem dX6_read_55 : decode cX6_read 55 = .ok (.getfield 12, 3) := by decide +kernel
theorem dX6_read_58 : decode cX6_read 58 = .ok (.invokevirtual 41, 3) := by decide +kernel
theorem dX6_read_61 : decode cX6_read 61 = .ok (.ireturn, 1) := by decide +kernel
theorem dX6_write_0 : decode cX6_write 0 = .ok (.aload_n 0, 1) := by decide +kernel
theorem dX6_write_1 : decode cX6_write 1 = .ok (.getfield 24, 3) := by decide +kernel
theorem dX6_write_4 : decode cX6_write 4 = .ok (.aload_n 0, 1) := by decide +kernel
theorem dX6_write_5 : decode cX6_write 5 = .ok (.getfield 20, 3) := by decide +kernel
theorem dX6_write_8 : decode cX6_write 8 = .ok (.arraylength, 1) := by decide +kernel
theorem dX6_write_9 : decode cX6_write 9 = .ok (.if_icmp .ge 23, 3) := by decide +kernel
theorem dX6_write_12 : decode cX6_write 12 = .ok (.aload_n 0, 1) := by decide +kernel
theorem dX6_write_13 : decode cX6_write 13 = .ok (.getfield 20, 3) := by decide +kernel
theorem dX6_write_16 : decode cX6_write 16 = .ok (.aload_n 0, 1) := by decide +kernel
theorem dX6_write_17 : decode cX6_write 17 = .ok (.getfield 24, 3) := by decide +kernel
theorem dX6_write_20 : decode cX6_write 20 = .ok (.iload_n 1, 1) := by decide +kernel
theorem dX6_write_21 : decode cX6_write 21 = .ok (.iastore, 1) := by decide +kernel
theorem dX6_write_22 : decode cX6_write 22 = .ok (.aload_n 0, 1) := by decide +kernel
theorem dX6_write_23 : decode cX6_write 23 = .ok (.dup, 1) := by decide +kernel
theorem dX6_write_24 : decode cX6_write 24 = .ok (.getfield 24, 3) := by decide +kernel
theorem dX6_write_27 : decode cX6_write 27 = .ok (.iconst 1, 1) := by decide +kernel
theorem dX6_write_28 : decode cX6_write 28 = .ok (.iadd, 1) := by decide +kernel
theorem dX6_write_29 : decode cX6_write 29 = .ok (.putfield 24, 3) := by decide +kernel
theorem dX6_write_32 : decode cX6_write 32 = .ok (.return_, 1) := by decide +kernel
theorem dX6_writeSign_0 : decode cX6_writeSign 0 = .ok (.aload_n 0, 1) := by decide +kernel
theorem dX6_writeSign_1 : decode cX6_writeSign 1 = .ok (.sipush 10000, 3) := by decide +kernel
theorem dX6_writeSign_4 : decode cX6_writeSign 4 = .ok (.iload_n 1, 1) := by decide +kernel
theorem dX6_writeSign_5 : decode cX6_writeSign 5 = .ok (.iadd, 1) := by decide +kernel
theorem dX6_writeSign_6 : decode cX6_writeSign 6 = .ok (.invokevirtual 45, 3) := by decide +kernel
theorem dX6_writeSign_9 : decode cX6_writeSign 9 = .ok (.return_, 1) := by decide +kernel
theorem dX6_readClause_0 : decode cX6_readClause 0 = .ok (.aload_n 0, 1) := by decide +kernel
theorem dX6_readClause_1 : decode cX6_readClause 1 = .ok (.getfield 12, 3) := by decide +kernel
theorem dX6_readClause_4 : decode cX6_readClause 4 = .ok (.bipush 121, 2) := by decide +kernel
theorem dX6_readClause_6 : decode cX6_readClause 6 = .ok (.invokevirtual 49, 3) := by decide +kernel
theorem dX6_readClause_9 : decode cX6_readClause 9 = .ok (.aload_n 0, 1) := by decide +kernel
theorem dX6_readClause_10 : decode cX6_readClause 10 = .ok (.getfield 12, 3) := by decide +kernel
theorem dX6_readClause_13 : decode cX6_readClause 13 = .ok (.bipush 58, 2) := by decide +kernel
theorem dX6_readClause_15 : decode cX6_readClause 15 = .ok (.invokevirtual 49, 3) := by decide +kernel
theorem dX6_readClause_18 : decode cX6_readClause 18 = .ok (.aload_n 0, 1) := by decide +kernel
theorem dX6_readClause_19 : decode cX6_readClause 19 = .ok (.iconst 0, 1) := by decide +kernel
theorem dX6_readClause_20 : decode cX6_readClause 20 = .ok (.iconst 1, 1) := by decide +kernel
theorem dX6_readClause_21 : decode cX6_readClause 21 = .ok (.invokevirtual 53, 3) := by decide +kernel
theorem dX6_readClause_24 : decode cX6_readClause 24 = .ok (.ifCond .eq 23, 3) := by decide +kernel
theorem dX6_readClause_27 : decode cX6_readClause 27 = .ok (.aload_n 0, 1) := by decide +kernel
theorem dX6_readClause_28 : decode cX6_readClause 28 = .ok (.getfield 12, 3) := by decide +kernel
theorem dX6_readClause_31 : decode cX6_readClause 31 = .ok (.bipush 63, 2) := by decide +kernel
theorem dX6_readClause_33 : decode cX6_readClause 33 = .ok (.invokevirtual 49, 3) := by decide +kernel
theorem dX6_readClause_36 : decode cX6_readClause 36 = .ok (.aload_n 0, 1) := by decide +kernel
theorem dX6_readClause_37 : decode cX6_readClause 37 = .ok (.bipush 63, 2) := by decide +kernel
theorem dX6_readClause_39 : decode cX6_readClause 39 = .ok (.invokevirtual 57, 3) := by decide +kernel
theorem dX6_readClause_42 : decode cX6_readClause 42 = .ok (.aload_n 0, 1) := by decide +kernel
theorem dX6_readClause_43 : decode cX6_readClause 43 = .ok (.iconst 0, 1) := by decide +kernel
theorem dX6_readClause_44 : decode cX6_readClause 44 = .ok (.invokevirtual 60, 3) := by decide +kernel
theorem dX6_readClause_47 : decode cX6_readClause 47 = .ok (.aload_n 0, 1) := by decide +kernel
theorem dX6_readClause_48 : decode cX6_readClause 48 = .ok (.bipush 59, 2) := by decide +kernel
theorem dX6_readClause_50 : decode cX6_readClause 50 = .ok (.invokevirtual 57, 3) := by decide +kernel
theorem dX6_readClause_53 : decode cX6_readClause 53 = .ok (.return_, 1) := by decide +kernel
theorem dX6_readCondition_0 : decode cX6_readCondition 0 = .ok (.aload_n 0, 1) := by decide +kernel
theorem dX6_readCondition_1 : decode cX6_readCondition 1 = .ok (.iload_n 1, 1) := by decide +kernel
theorem dX6_readCondition_2 : decode cX6_readCondition 2 = .ok (.iload_n 2, 1) := by decide +kernel
theorem dX6_readCondition_3 : decode cX6_readCondition 3 = .ok (.invokevirtual 63, 3) := by decide +kernel
theorem dX6_readCondition_6 : decode cX6_readCondition 6 = .ok (.ifCond .ne 5, 3) := by decide +kernel
theorem dX6_readCondition_9 : decode cX6_readCondition 9 = .ok (.iconst 0, 1) := by decide +kernel
theorem dX6_readCondition_10 : decode cX6_readCondition 10 = .ok (.ireturn, 1) := by decide +kernel
theorem dX6_readCondition_11 : decode cX6_readCondition 11 = .ok (.iconst 0, 1) := by decide +kernel
theorem dX6_readCondition_12 : decode cX6_readCondition 12 = .ok (.istore_n 3, 1) := by decide +kernel
theorem dX6_readCondition_13 : decode cX6_readCondition 13 = .ok (.iload_n 3, 1) := by decide +kernel
theorem dX6_readCondition_14 : decode cX6_readCondition 14 = .ok (.sipush 240, 3) := by decide +kernel
theorem dX6_readCondition_17 : decode cX6_readCondition 17 = .ok (.if_icmp .ge 34, 3) := by decide +kernel
theorem dX6_readCondition_20 : decode cX6_readCondition 20 = .ok (.aload_n 0, 1) := by decide +kernel
theorem dX6_readCondition_21 : decode cX6_readCondition 21 = .ok (.getfield 12, 3) := by decide +kernel
theorem dX6_readCondition_24 : decode cX6_readCondition 24 = .ok (.bipush 124, 2) := by decide +kernel
theorem dX6_readCondition_26 : decode cX6_readCondition 26 = .ok (.invokevirtual 34, 3) := by decide +kernel
theorem dX6_readCondition_29 : decode cX6_readCondition 29 = .ok (.ifCond .eq 22, 3) := by decide +kernel
theorem dX6_readCondition_32 : decode cX6_readCondition 32 = .ok (.aload_n 0, 1) := by decide +kernel
theorem dX6_readCondition_33 : decode cX6_readCondition 33 = .ok (.iload_n 1, 1) := by decide +kernel
theorem dX6_readCondition_34 : decode cX6_readCondition 34 = .ok (.iconst 0, 1) := by decide +kernel
theorem dX6_readCondition_35 : decode cX6_readCondition 35 = .ok (.invokevirtual 63, 3) := by decide +kernel
theorem dX6_readCondition_38 : decode cX6_readCondition 38 = .ok (.pop, 1) := by decide +kernel
theorem dX6_readCondition_39 : decode cX6_readCondition 39 = .ok (.aload_n 0, 1) := by decide +kernel
theorem dX6_readCondition_40 : decode cX6_readCondition 40 = .ok (.bipush 124, 2) := by decide +kernel
theorem dX6_readCondition_42 : decode cX6_readCondition 42 = .ok (.invokevirtual 57, 3) := by decide +kernel
theorem dX6_readCondition_45 : decode cX6_readCondition 45 = .ok (.iinc 3 1, 3) := by decide +kernel
theorem dX6_readCondition_48 : decode cX6_readCondition 48 = .ok (.goto (-35), 3) := by decide +kernel
theorem dX6_readCondition_51 : decode cX6_readCondition 51 = .ok (.iconst 1, 1) := by decide +kernel
theorem dX6_readCondition_52 : decode cX6_readCondition 52 = .ok (.ireturn, 1) := by decide +kernel
theorem dX6_readTruth_0 : decode cX6_readTruth 0 = .ok (.aload_n 0, 1) := by decide +kernel
theorem dX6_readTruth_1 : decode cX6_readTruth 1 = .ok (.iload_n 1, 1) := by decide +kernel
theorem dX6_readTruth_2 : decode cX6_readTruth 2 = .ok (.iload_n 2, 1) := by decide +kernel
theorem dX6_readTruth_3 : decode cX6_readTruth 3 = .ok (.invokevirtual 66, 3) := by decide +kernel
theorem dX6_readTruth_6 : decode cX6_readTruth 6 = .ok (.ifCond .ne 5, 3) := by decide +kernel
theorem dX6_readTruth_9 : decode cX6_readTruth 9 = .ok (.iconst 0, 1) := by decide +kernel
theorem dX6_readTruth_10 : decode cX6_readTruth 10 = .ok (.ireturn, 1) := by decide +kernel
theorem dX6_readTruth_11 : decode cX6_readTruth 11 = .ok (.iconst 0, 1) := by decide +kernel
theorem dX6_readTruth_12 : decode cX6_readTruth 12 = .ok (.istore_n 3, 1) := by decide +kernel
theorem dX6_readTruth_13 : decode cX6_readTruth 13 = .ok (.iload_n 3, 1) := by decide +kernel
theorem dX6_readTruth_14 : decode cX6_readTruth 14 = .ok (.sipush 240, 3) := by decide +kernel
theorem dX6_readTruth_17 : decode cX6_readTruth 17 = .ok (.if_icmp .ge 34, 3) := by decide +kernel
theorem dX6_readTruth_20 : decode cX6_readTruth 20 = .ok (.aload_n 0, 1) := by decide +kernel
theorem dX6_readTruth_21 : decode cX6_readTruth 21 = .ok (.getfield 12, 3) := by decide +kernel
theorem dX6_readTruth_24 : decode cX6_readTruth 24 = .ok (.bipush 38, 2) := by decide +kernel
theorem dX6_readTruth_26 : decode cX6_readTruth 26 = .ok (.invokevirtual 34, 3) := by decide +kernel
theorem dX6_readTruth_29 : decode cX6_readTruth 29 = .ok (.ifCond .eq 22, 3) := by decide +kernel
theorem dX6_readTruth_32 : decode cX6_readTruth 32 = .ok (.aload_n 0, 1) := by decide +kernel
theorem dX6_readTruth_33 : decode cX6_readTruth 33 = .ok (.iload_n 1, 1) := by decide +kernel
theorem dX6_readTruth_34 : decode cX6_readTruth 34 = .ok (.iconst 0, 1) := by decide +kernel
theorem dX6_readTruth_35 : decode cX6_readTruth 35 = .ok (.invokevirtual 66, 3) := by decide +kernel
theorem dX6_readTruth_38 : decode cX6_readTruth 38 = .ok (.pop, 1) := by decide +kernel
theorem dX6_readTruth_39 : decode cX6_readTruth 39 = .ok (.aload_n 0, 1) := by decide +kernel
theorem dX6_readTruth_40 : decode cX6_readTruth 40 = .ok (.bipush 38, 2) := by decide +kernel
theorem dX6_readTruth_42 : decode cX6_readTruth 42 = .ok (.invokevirtual 57, 3) := by decide +kernel
theorem dX6_readTruth_45 : decode cX6_readTruth 45 = .ok (.iinc 3 1, 3) := by decide +kernel
theorem dX6_readTruth_48 : decode cX6_readTruth 48 = .ok (.goto (-35), 3) := by decide +kernel
theorem dX6_readTruth_51 : decode cX6_readTruth 51 = .ok (.iconst 1, 1) := by decide +kernel
theorem dX6_readTruth_52 : decode cX6_readTruth 52 = .ok (.ireturn, 1) := by decide +kernel
theorem dX6_readUnit_0 : decode cX6_readUnit 0 = .ok (.aload_n 0, 1) := by decide +kernel
theorem dX6_readUnit_1 : decode cX6_readUnit 1 = .ok (.getfield 12, 3) := by decide +kernel
theorem dX6_readUnit_4 : decode cX6_readUnit 4 = .ok (.invokevirtual 69, 3) := by decide +kernel
theorem dX6_readUnit_7 : decode cX6_readUnit 7 = .ok (.istore_n 3, 1) := by decide +kernel
theorem dX6_readUnit_8 : decode cX6_readUnit 8 = .ok (.iload_n 3, 1) := by decide +kernel
theorem dX6_readUnit_9 : decode cX6_readUnit 9 = .ok (.bipush 33, 2) := by decide +kernel
theorem dX6_readUnit_11 : decode cX6_readUnit 11 = .ok (.if_icmp .eq 9, 3) := by decide +kernel
theorem dX6_readUnit_14 : decode cX6_readUnit 14 = .ok (.iload_n 3, 1) := by decide +kernel
theorem dX6_readUnit_15 : decode cX6_readUnit 15 = .ok (.bipush 40, 2) := by decide +kernel
theorem dX6_readUnit_17 : decode cX6_readUnit 17 = .ok (.if_icmp .ne 21, 3) := by decide +kernel
theorem dX6_readUnit_20 : decode cX6_readUnit 20 = .ok (.aload_n 0, 1) := by decide +kernel
theorem dX6_readUnit_21 : decode cX6_readUnit 21 = .ok (.iload_n 1, 1) := by decide +kernel
theorem dX6_readUnit_22 : decode cX6_readUnit 22 = .ok (.invokevirtual 72, 3) := by decide +kernel
theorem dX6_readUnit_25 : decode cX6_readUnit 25 = .ok (.ifCond .eq 11, 3) := by decide +kernel
theorem dX6_readUnit_28 : decode cX6_readUnit 28 = .ok (.aload_n 0, 1) := by decide +kernel
theorem dX6_readUnit_29 : decode cX6_readUnit 29 = .ok (.iload_n 1, 1) := by decide +kernel
theorem dX6_readUnit_30 : decode cX6_readUnit 30 = .ok (.iconst 1, 1) := by decide +kernel
theorem dX6_readUnit_31 : decode cX6_readUnit 31 = .ok (.iadd, 1) := by decide +kernel
theorem dX6_readUnit_32 : decode cX6_readUnit 32 = .ok (.iload_n 3, 1) := by decide +kernel
theorem dX6_readUnit_33 : decode cX6_readUnit 33 = .ok (.invokevirtual 76, 3) := by decide +kernel
theorem dX6_readUnit_36 : decode cX6_readUnit 36 = .ok (.iconst 1, 1) := by decide +kernel
theorem dX6_readUnit_37 : decode cX6_readUnit 37 = .ok (.ireturn, 1) := by decide +kernel
theorem dX6_readUnit_38 : decode cX6_readUnit 38 = .ok (.aload_n 0, 1) := by decide +kernel
theorem dX6_readUnit_39 : decode cX6_readUnit 39 = .ok (.iload_n 1, 1) := by decide +kernel
theorem dX6_readUnit_40 : decode cX6_readUnit 40 = .ok (.invokevirtual 60, 3) := by decide +kernel
theorem dX6_readUnit_43 : decode cX6_readUnit 43 = .ok (.aload_n 0, 1) := by decide +kernel
theorem dX6_readUnit_44 : decode cX6_readUnit 44 = .ok (.getfield 12, 3) := by decide +kernel
theorem dX6_readUnit_47 : decode cX6_readUnit 47 = .ok (.invokevirtual 69, 3) := by decide +kernel
theorem dX6_readUnit_50 : decode cX6_readUnit 50 = .ok (.istore 4, 2) := by decide +kernel
theorem dX6_readUnit_52 : decode cX6_readUnit 52 = .ok (.iload 4, 2) := by decide +kernel
theorem dX6_readUnit_54 : decode cX6_readUnit 54 = .ok (.bipush 61, 2) := by decide +kernel
theorem dX6_readUnit_56 : decode cX6_readUnit 56 = .ok (.if_icmp .eq 17, 3) := by decide +kernel
theorem dX6_readUnit_59 : decode cX6_readUnit 59 = .ok (.iload 4, 2) := by decide +kernel
theorem dX6_readUnit_61 : decode cX6_readUnit 61 = .ok (.bipush 60, 2) := by decide +kernel
theorem dX6_readUnit_63 : decode cX6_readUnit 63 = .ok (.if_icmp .eq 10, 3) := by decide +kernel
theorem dX6_readUnit_66 : decode cX6_readUnit 66 = .ok (.iload 4, 2) := by decide +kernel
theorem dX6_readUnit_68 : decode cX6_readUnit 68 = .ok (.bipush 62, 2) := by decide +kernel
theorem dX6_readUnit_70 : decode cX6_readUnit 70 = .ok (.if_icmp .ne 23, 3) := by decide +kernel
theorem dX6_readUnit_73 : decode cX6_readUnit 73 = .ok (.aload_n 0, 1) := by decide +kernel
theorem dX6_readUnit_74 : decode cX6_readUnit 74 = .ok (.getfield 12, 3) := by decide +kernel
theorem dX6_readUnit_77 : decode cX6_readUnit 77 = .ok (.invokevirtual 80, 3) := by decide +kernel
theorem dX6_readUnit_80 : decode cX6_readUnit 80 = .ok (.aload_n 0, 1) := by decide +kernel
theorem dX6_readUnit_81 : decode cX6_readUnit 81 = .ok (.iload_n 1, 1) := by decide +kernel
theorem dX6_readUnit_82 : decode cX6_readUnit 82 = .ok (.invokevirtual 60, 3) := by decide +kernel
theorem dX6_readUnit_85 : decode cX6_readUnit 85 = .ok (.aload_n 0, 1) := by decide +kernel
theorem dX6_readUnit_86 : decode cX6_readUnit 86 = .ok (.iload 4, 2) := by decide +kernel
theorem dX6_readUnit_88 : decode cX6_readUnit 88 = .ok (.invokevirtual 57, 3) := by decide +kernel
theorem dX6_readUnit_91 : decode cX6_readUnit 91 = .ok (.iconst 1, 1) := by decide +kernel
theorem dX6_readUnit_92 : decode cX6_readUnit 92 = .ok (.ireturn, 1) := by decide +kernel
theorem dX6_readUnit_93 : decode cX6_readUnit 93 = .ok (.iload_n 2, 1) := by decide +kernel
theorem dX6_readUnit_94 : decode cX6_readUnit 94 = .ok (.ifCond .ne 10, 3) := by decide +kernel
theorem dX6_readUnit_97 : decode cX6_readUnit 97 = .ok (.aload_n 0, 1) := by decide +kernel
theorem dX6_readUnit_98 : decode cX6_readUnit 98 = .ok (.getfield 12, 3) := by decide +kernel
theorem dX6_readUnit_101 : decode cX6_readUnit 101 = .ok (.invokevirtual 83, 3) := by decide +kernel
theorem dX6_readUnit_104 : decode cX6_readUnit 104 = .ok (.iconst 0, 1) := by decide +kernel
theorem dX6_readUnit_105 : decode cX6_readUnit 105 = .ok (.ireturn, 1) := by decide +kernel
theorem dX6_readInnerUnit_0 : decode cX6_readInnerUnit 0 = .ok (.iload_n 2, 1) := by decide +kernel
theorem dX6_readInnerUnit_1 : decode cX6_readInnerUnit 1 = .ok (.bipush 33, 2) := by decide +kernel
theorem dX6_readInnerUnit_3 : decode cX6_readInnerUnit 3 = .ok (.if_icmp .ne 19, 3) := by decide +kernel
theorem dX6_readInnerUnit_6 : decode cX6_readInnerUnit 6 = .ok (.aload_n 0, 1) := by decide +kernel
theorem dX6_readInnerUnit_7 : decode cX6_readInnerUnit 7 = .ok (.iload_n 1, 1) := by decide +kernel
theorem dX6_readInnerUnit_8 : decode cX6_readInnerUnit 8 = .ok (.iconst 0, 1) := by decide +kernel
theorem dX6_readInnerUnit_9 : decode cX6_readInnerUnit 9 = .ok (.invokevirtual 66, 3) := by decide +kernel
theorem dX6_readInnerUnit_12 : decode cX6_readInnerUnit 12 = .ok (.pop, 1) := by decide +kernel
theorem dX6_readInnerUnit_13 : decode cX6_readInnerUnit 13 = .ok (.aload_n 0, 1) := by decide +kernel
theorem dX6_readInnerUnit_14 : decode cX6_readInnerUnit 14 = .ok (.bipush 33, 2) := by decide +kernel
theorem dX6_readInnerUnit_16 : decode cX6_readInnerUnit 16 = .ok (.invokevirtual 57, 3) := by decide +kernel
theorem dX6_readInnerUnit_19 : decode cX6_readInnerUnit 19 = .ok (.goto 19, 3) := by decide +kernel
theorem dX6_readInnerUnit_22 : decode cX6_readInnerUnit 22 = .ok (.aload_n 0, 1) := by decide +kernel
theorem dX6_readInnerUnit_23 : decode cX6_readInnerUnit 23 = .ok (.iload_n 1, 1) := by decide +kernel
theorem dX6_readInnerUnit_24 : decode cX6_readInnerUnit 24 = .ok (.iconst 0, 1) := by decide +kernel
theorem dX6_readInnerUnit_25 : decode cX6_readInnerUnit 25 = .ok (.invokevirtual 53, 3) := by decide +kernel
theorem dX6_readInnerUnit_28 : decode cX6_readInnerUnit 28 = .ok (.pop, 1) := by decide +kernel
theorem dX6_readInnerUnit_29 : decode cX6_readInnerUnit 29 = .ok (.aload_n 0, 1) := by decide +kernel
theorem dX6_readInnerUnit_30 : decode cX6_readInnerUnit 30 = .ok (.getfield 12, 3) := by decide +kernel
theorem dX6_readInnerUnit_33 : decode cX6_readInnerUnit 33 = .ok (.bipush 41, 2) := by decide +kernel
theorem dX6_readInnerUnit_35 : decode cX6_readInnerUnit 35 = .ok (.invokevirtual 49, 3) := by decide +kernel
theorem dX6_readInnerUnit_38 : decode cX6_readInnerUnit 38 = .ok (.return_, 1) := by decide +kernel
theorem dX6_goesDeeper_0 : decode cX6_goesDeeper 0 = .ok (.iload_n 1, 1) := by decide +kernel
theorem dX6_goesDeeper_1 : decode cX6_goesDeeper 1 = .ok (.bipush 6, 2) := by decide +kernel
theorem dX6_goesDeeper_3 : decode cX6_goesDeeper 3 = .ok (.if_icmp .lt 12, 3) := by decide +kernel
theorem dX6_goesDeeper_6 : decode cX6_goesDeeper 6 = .ok (.aload_n 0, 1) := by decide +kernel
theorem dX6_goesDeeper_7 : decode cX6_goesDeeper 7 = .ok (.getfield 12, 3) := by decide +kernel
theorem dX6_goesDeeper_10 : decode cX6_goesDeeper 10 = .ok (.invokevirtual 83, 3) := by decide +kernel
theorem dX6_goesDeeper_13 : decode cX6_goesDeeper 13 = .ok (.iconst 0, 1) := by decide +kernel
theorem dX6_goesDeeper_14 : decode cX6_goesDeeper 14 = .ok (.ireturn, 1) := by decide +kernel
theorem dX6_goesDeeper_15 : decode cX6_goesDeeper 15 = .ok (.aload_n 0, 1) := by decide +kernel
theorem dX6_goesDeeper_16 : decode cX6_goesDeeper 16 = .ok (.getfield 12, 3) := by decide +kernel
theorem dX6_goesDeeper_19 : decode cX6_goesDeeper 19 = .ok (.invokevirtual 80, 3) := by decide +kernel
theorem dX6_goesDeeper_22 : decode cX6_goesDeeper 22 = .ok (.iconst 1, 1) := by decide +kernel
theorem dX6_goesDeeper_23 : decode cX6_goesDeeper 23 = .ok (.ireturn, 1) := by decide +kernel
theorem dX6_readSum_0 : decode cX6_readSum 0 = .ok (.aload_n 0, 1) := by decide +kernel
theorem dX6_readSum_1 : decode cX6_readSum 1 = .ok (.iload_n 1, 1) := by decide +kernel
theorem dX6_readSum_2 : decode cX6_readSum 2 = .ok (.invokevirtual 86, 3) := by decide +kernel
theorem dX6_readSum_5 : decode cX6_readSum 5 = .ok (.iconst 0, 1) := by decide +kernel
theorem dX6_readSum_6 : decode cX6_readSum 6 = .ok (.istore_n 2, 1) := by decide +kernel
theorem dX6_readSum_7 : decode cX6_readSum 7 = .ok (.iload_n 2, 1) := by decide +kernel
theorem dX6_readSum_8 : decode cX6_readSum 8 = .ok (.sipush 240, 3) := by decide +kernel
theorem dX6_readSum_11 : decode cX6_readSum 11 = .ok (.if_icmp .ge 45, 3) := by decide +kernel
theorem dX6_readSum_14 : decode cX6_readSum 14 = .ok (.aload_n 0, 1) := by decide +kernel
theorem dX6_readSum_15 : decode cX6_readSum 15 = .ok (.bipush 43, 2) := by decide +kernel
theorem dX6_readSum_17 : decode cX6_readSum 17 = .ok (.bipush 45, 2) := by decide +kernel
theorem dX6_readSum_19 : decode cX6_readSum 19 = .ok (.invokevirtual 89, 3) := by decide +kernel
theorem dX6_readSum_22 : decode cX6_readSum 22 = .ok (.ifCond .eq 34, 3) := by decide +kernel
theorem dX6_readSum_25 : decode cX6_readSum 25 = .ok (.aload_n 0, 1) := by decide +kernel
theorem dX6_readSum_26 : decode cX6_readSum 26 = .ok (.getfield 12, 3) := by decide +kernel
theorem dX6_readSum_29 : decode cX6_readSum 29 = .ok (.invokevirtual 69, 3) := by decide +kernel
theorem dX6_readSum_32 : decode cX6_readSum 32 = .ok (.istore_n 3, 1) := by decide +kernel
theorem dX6_readSum_33 : decode cX6_readSum 33 = .ok (.aload_n 0, 1) := by decide +kernel
theorem dX6_readSum_34 : decode cX6_readSum 34 = .ok (.getfield 12, 3) := by decide +kernel
theorem dX6_readSum_37 : decode cX6_readSum 37 = .ok (.invokevirtual 80, 3) := by decide +kernel
theorem dX6_readSum_40 : decode cX6_readSum 40 = .ok (.aload_n 0, 1) := by decide +kernel
theorem dX6_readSum_41 : decode cX6_readSum 41 = .ok (.iload_n 1, 1) := by decide +kernel
theorem dX6_readSum_42 : decode cX6_readSum 42 = .ok (.invokevirtual 86, 3) := by decide +kernel
theorem dX6_readSum_45 : decode cX6_readSum 45 = .ok (.aload_n 0, 1) := by decide +kernel
theorem dX6_readSum_46 : decode cX6_readSum 46 = .ok (.iload_n 3, 1) := by decide +kernel
theorem dX6_readSum_47 : decode cX6_readSum 47 = .ok (.invokevirtual 57, 3) := by decide +kernel
theorem dX6_readSum_50 : decode cX6_readSum 50 = .ok (.iinc 2 1, 3) := by decide +kernel
theorem dX6_readSum_53 : decode cX6_readSum 53 = .ok (.goto (-46), 3) := by decide +kernel
theorem dX6_readSum_56 : decode cX6_readSum 56 = .ok (.return_, 1) := by decide +kernel
theorem dX6_readTerm_0 : decode cX6_readTerm 0 = .ok (.aload_n 0, 1) := by decide +kernel
theorem dX6_readTerm_1 : decode cX6_readTerm 1 = .ok (.iload_n 1, 1) := by decide +kernel
theorem dX6_readTerm_2 : decode cX6_readTerm 2 = .ok (.invokevirtual 93, 3) := by decide +kernel
theorem dX6_readTerm_5 : decode cX6_readTerm 5 = .ok (.iconst 0, 1) := by decide +kernel
theorem dX6_readTerm_6 : decode cX6_readTerm 6 = .ok (.istore_n 2, 1) := by decide +kernel
theorem dX6_readTerm_7 : decode cX6_readTerm 7 = .ok (.iload_n 2, 1) := by decide +kernel
theorem dX6_readTerm_8 : decode cX6_readTerm 8 = .ok (.sipush 240, 3) := by decide +kernel
theorem dX6_readTerm_11 : decode cX6_readTerm 11 = .ok (.if_icmp .ge 45, 3) := by decide +kernel
theorem dX6_readTerm_14 : decode cX6_readTerm 14 = .ok (.aload_n 0, 1) := by decide +kernel
theorem dX6_readTerm_15 : decode cX6_readTerm 15 = .ok (.bipush 42, 2) := by decide +kernel
theorem dX6_readTerm_17 : decode cX6_readTerm 17 = .ok (.bipush 47, 2) := by decide +kernel
theorem dX6_readTerm_19 : decode cX6_readTerm 19 = .ok (.invokevirtual 89, 3) := by decide +kernel
theorem dX6_readTerm_22 : decode cX6_readTerm 22 = .ok (.ifCond .eq 34, 3) := by decide +kernel
theorem dX6_readTerm_25 : decode cX6_readTerm 25 = .ok (.aload_n 0, 1) := by decide +kernel
theorem dX6_readTerm_26 : decode cX6_readTerm 26 = .ok (.getfield 12, 3) := by decide +kernel
theorem dX6_readTerm_29 : decode cX6_readTerm 29 = .ok (.invokevirtual 69, 3) := by decide +kernel
theorem dX6_readTerm_32 : decode cX6_readTerm 32 = .ok (.istore_n 3, 1) := by decide +kernel
theorem dX6_readTerm_33 : decode cX6_readTerm 33 = .ok (.aload_n 0, 1) := by decide +kernel
theorem dX6_readTerm_34 : decode cX6_readTerm 34 = .ok (.getfield 12, 3) := by decide +kernel
theorem dX6_readTerm_37 : decode cX6_readTerm 37 = .ok (.invokevirtual 80, 3) := by decide +kernel
theorem dX6_readTerm_40 : decode cX6_readTerm 40 = .ok (.aload_n 0, 1) := by decide +kernel
theorem dX6_readTerm_41 : decode cX6_readTerm 41 = .ok (.iload_n 1, 1) := by decide +kernel
theorem dX6_readTerm_42 : decode cX6_readTerm 42 = .ok (.invokevirtual 93, 3) := by decide +kernel
theorem dX6_readTerm_45 : decode cX6_readTerm 45 = .ok (.aload_n 0, 1) := by decide +kernel
theorem dX6_readTerm_46 : decode cX6_readTerm 46 = .ok (.iload_n 3, 1) := by decide +kernel
theorem dX6_readTerm_47 : decode cX6_readTerm 47 = .ok (.invokevirtual 57, 3) := by decide +kernel
theorem dX6_readTerm_50 : decode cX6_readTerm 50 = .ok (.iinc 2 1, 3) := by decide +kernel
theorem dX6_readTerm_53 : decode cX6_readTerm 53 = .ok (.goto (-46), 3) := by decide +kernel
theorem dX6_readTerm_56 : decode cX6_readTerm 56 = .ok (.return_, 1) := by decide +kernel
theorem dX6_isEither_0 : decode cX6_isEither 0 = .ok (.aload_n 0, 1) := by decide +kernel
theorem dX6_isEither_1 : decode cX6_isEither 1 = .ok (.getfield 12, 3) := by decide +kernel
theorem dX6_isEither_4 : decode cX6_isEither 4 = .ok (.invokevirtual 69, 3) := by decide +kernel
theorem dX6_isEither_7 : decode cX6_isEither 7 = .ok (.istore_n 3, 1) := by decide +kernel
theorem dX6_isEither_8 : decode cX6_isEither 8 = .ok (.iload_n 3, 1) := by decide +kernel
theorem dX6_isEither_9 : decode cX6_isEither 9 = .ok (.iload_n 1, 1) := by decide +kernel
theorem dX6_isEither_10 : decode cX6_isEither 10 = .ok (.if_icmp .eq 8, 3) := by decide +kernel
theorem dX6_isEither_13 : decode cX6_isEither 13 = .ok (.iload_n 3, 1) := by decide +kernel
theorem dX6_isEither_14 : decode cX6_isEither 14 = .ok (.iload_n 2, 1) := by decide +kernel
theorem dX6_isEither_15 : decode cX6_isEither 15 = .ok (.if_icmp .ne 7, 3) := by decide +kernel
theorem dX6_isEither_18 : decode cX6_isEither 18 = .ok (.iconst 1, 1) := by decide +kernel
theorem dX6_isEither_19 : decode cX6_isEither 19 = .ok (.goto 4, 3) := by decide +kernel
theorem dX6_isEither_22 : decode cX6_isEither 22 = .ok (.iconst 0, 1) := by decide +kernel
theorem dX6_isEither_23 : decode cX6_isEither 23 = .ok (.ireturn, 1) := by decide +kernel
theorem dX6_readAtom_0 : decode cX6_readAtom 0 = .ok (.aload_n 0, 1) := by decide +kernel
theorem dX6_readAtom_1 : decode cX6_readAtom 1 = .ok (.getfield 12, 3) := by decide +kernel
theorem dX6_readAtom_4 : decode cX6_readAtom 4 = .ok (.invokevirtual 69, 3) := by decide +kernel
theorem dX6_readAtom_7 : decode cX6_readAtom 7 = .ok (.istore_n 2, 1) := by decide +kernel
theorem dX6_readAtom_8 : decode cX6_readAtom 8 = .ok (.iload_n 2, 1) := by decide +kernel
theorem dX6_readAtom_9 : decode cX6_readAtom 9 = .ok (.bipush 91, 2) := by decide +kernel
theorem dX6_readAtom_11 : decode cX6_readAtom 11 = .ok (.if_icmp .ne 30, 3) := by decide +kernel
theorem dX6_readAtom_14 : decode cX6_readAtom 14 = .ok (.aload_n 0, 1) := by decide +kernel
theorem dX6_readAtom_15 : decode cX6_readAtom 15 = .ok (.iload_n 1, 1) := by decide +kernel
theorem dX6_readAtom_16 : decode cX6_readAtom 16 = .ok (.invokevirtual 72, 3) := by decide +kernel
theorem dX6_readAtom_19 : decode cX6_readAtom 19 = .ok (.ifCond .eq 63, 3) := by decide +kernel
theorem dX6_readAtom_22 : decode cX6_readAtom 22 = .ok (.aload_n 0, 1) := by decide +kernel
theorem dX6_readAtom_23 : decode cX6_readAtom 23 = .ok (.iload_n 1, 1) := by decide +kernel
theorem dX6_readAtom_24 : decode cX6_readAtom 24 = .ok (.iconst 1, 1) := by decide +kernel
theorem dX6_readAtom_25 : decode cX6_readAtom 25 = .ok (.iadd, 1) := by decide +kernel
theorem dX6_readAtom_26 : decode cX6_readAtom 26 = .ok (.invokevirtual 60, 3) := by decide +kernel
theorem dX6_readAtom_29 : decode cX6_readAtom 29 = .ok (.aload_n 0, 1) := by decide +kernel
theorem dX6_readAtom_30 : decode cX6_readAtom 30 = .ok (.getfield 12, 3) := by decide +kernel
theorem dX6_readAtom_33 : decode cX6_readAtom 33 = .ok (.bipush 93, 2) := by decide +kernel
theorem dX6_readAtom_35 : decode cX6_readAtom 35 = .ok (.invokevirtual 49, 3) := by decide +kernel
theorem dX6_readAtom_38 : decode cX6_readAtom 38 = .ok (.goto 44, 3) := by decide +kernel
theorem dX6_readAtom_41 : decode cX6_readAtom 41 = .ok (.iload_n 2, 1) := by decide +kernel
theorem dX6_readAtom_42 : decode cX6_readAtom 42 = .ok (.ifCond .lt 28, 3) := by decide +kernel
theorem dX6_readAtom_45 : decode cX6_readAtom 45 = .ok (.ldc 96, 2) := by decide +kernel
theorem dX6_readAtom_47 : decode cX6_readAtom 47 = .ok (.iload_n 2, 1) := by decide +kernel
theorem dX6_readAtom_48 : decode cX6_readAtom 48 = .ok (.i2c, 1) := by decide +kernel
theorem dX6_readAtom_49 : decode cX6_readAtom 49 = .ok (.invokevirtual 98, 3) := by decide +kernel
theorem dX6_readAtom_52 : decode cX6_readAtom 52 = .ok (.ifCond .lt 18, 3) := by decide +kernel
theorem dX6_readAtom_55 : decode cX6_readAtom 55 = .ok (.aload_n 0, 1) := by decide +kernel
theorem dX6_readAtom_56 : decode cX6_readAtom 56 = .ok (.getfield 12, 3) := by decide +kernel
theorem dX6_readAtom_59 : decode cX6_readAtom 59 = .ok (.invokevirtual 80, 3) := by decide +kernel
theorem dX6_readAtom_62 : decode cX6_readAtom 62 = .ok (.aload_n 0, 1) := by decide +kernel
theorem dX6_readAtom_63 : decode cX6_readAtom 63 = .ok (.iload_n 2, 1) := by decide +kernel
theorem dX6_readAtom_64 : decode cX6_readAtom 64 = .ok (.invokevirtual 57, 3) := by decide +kernel
theorem dX6_readAtom_67 : decode cX6_readAtom 67 = .ok (.goto 15, 3) := by decide +kernel
theorem dX6_readAtom_70 : decode cX6_readAtom 70 = .ok (.aload_n 0, 1) := by decide +kernel
theorem dX6_readAtom_71 : decode cX6_readAtom 71 = .ok (.aload_n 0, 1) := by decide +kernel
theorem dX6_readAtom_72 : decode cX6_readAtom 72 = .ok (.getfield 12, 3) := by decide +kernel
theorem dX6_readAtom_75 : decode cX6_readAtom 75 = .ok (.iconst 4, 1) := by decide +kernel
theorem dX6_readAtom_76 : decode cX6_readAtom 76 = .ok (.invokevirtual 104, 3) := by decide +kernel
theorem dX6_readAtom_79 : decode cX6_readAtom 79 = .ok (.invokevirtual 45, 3) := by decide +kernel
theorem dX6_readAtom_82 : decode cX6_readAtom 82 = .ok (.return_, 1) := by decide +kernel
theorem dX1_read_0 : decode cX1_read 0 = .ok (.aload_n 0, 1) := by decide +kernel
theorem dX1_read_1 : decode cX1_read 1 = .ok (.getfield 14, 3) := by decide +kernel
theorem dX1_read_4 : decode cX1_read 4 = .ok (.invokevirtual 24, 3) := by decide +kernel
theorem dX1_read_7 : decode cX1_read 7 = .ok (.aload_n 1, 1) := by decide +kernel
theorem dX1_read_8 : decode cX1_read 8 = .ok (.invokevirtual 27, 3) := by decide +kernel
theorem dX1_read_11 : decode cX1_read 11 = .ok (.aload_n 0, 1) := by decide +kernel
theorem dX1_read_12 : decode cX1_read 12 = .ok (.iconst 0, 1) := by decide +kernel
theorem dX1_read_13 : decode cX1_read 13 = .ok (.putfield 32, 3) := by decide +kernel
theorem dX1_read_16 : decode cX1_read 16 = .ok (.aload_n 0, 1) := by decide +kernel
theorem dX1_read_17 : decode cX1_read 17 = .ok (.getstatic 36, 3) := by decide +kernel
theorem dX1_read_20 : decode cX1_read 20 = .ok (.invokevirtual 39, 3) := by decide +kernel
theorem dX1_read_23 : decode cX1_read 23 = .ok (.aload_n 1, 1) := by decide +kernel
theorem dX1_read_24 : decode cX1_read 24 = .ok (.aload_n 0, 1) := by decide +kernel
theorem dX1_read_25 : decode cX1_read 25 = .ok (.getfield 20, 3) := by decide +kernel
theorem dX1_read_28 : decode cX1_read 28 = .ok (.iconst 0, 1) := by decide +kernel
theorem dX1_read_29 : decode cX1_read 29 = .ok (.iaload, 1) := by decide +kernel
theorem dX1_read_30 : decode cX1_read 30 = .ok (.aload_n 0, 1) := by decide +kernel
theorem dX1_read_31 : decode cX1_read 31 = .ok (.getfield 20, 3) := by decide +kernel
theorem dX1_read_34 : decode cX1_read 34 = .ok (.iconst 1, 1) := by decide +kernel
theorem dX1_read_35 : decode cX1_read 35 = .ok (.iaload, 1) := by decide +kernel
theorem dX1_read_36 : decode cX1_read 36 = .ok (.aload_n 0, 1) := by decide +kernel
theorem dX1_read_37 : decode cX1_read 37 = .ok (.getfield 20, 3) := by decide +kernel
theorem dX1_read_40 : decode cX1_read 40 = .ok (.iconst 2, 1) := by decide +kernel
theorem dX1_read_41 : decode cX1_read 41 = .ok (.iaload, 1) := by decide +kernel
theorem dX1_read_42 : decode cX1_read 42 = .ok (.invokevirtual 43, 3) := by decide +kernel
theorem dX1_read_45 : decode cX1_read 45 = .ok (.aload_n 0, 1) := by decide +kernel
theorem dX1_read_46 : decode cX1_read 46 = .ok (.aload_n 1, 1) := by decide +kernel
theorem dX1_read_47 : decode cX1_read 47 = .ok (.invokevirtual 47, 3) := by decide +kernel
theorem dX1_read_50 : decode cX1_read 50 = .ok (.iconst 0, 1) := by decide +kernel
theorem dX1_read_51 : decode cX1_read 51 = .ok (.istore_n 2, 1) := by decide +kernel
theorem dX1_read_52 : decode cX1_read 52 = .ok (.iload_n 2, 1) := by decide +kernel
theorem dX1_read_53 : decode cX1_read 53 = .ok (.sipush 240, 3) := by decide +kernel
theorem dX1_read_56 : decode cX1_read 56 = .ok (.if_icmp .ge 26, 3) := by decide +kernel
theorem dX1_read_59 : decode cX1_read 59 = .ok (.aload_n 0, 1) := by decide +kernel
theorem dX1_read_60 : decode cX1_read 60 = .ok (.getfield 14, 3) := by decide +kernel
theorem dX1_read_63 : decode cX1_read 63 = .ok (.bipush 59, 2) := by decide +kernel
theorem dX1_read_65 : decode cX1_read 65 = .ok (.invokevirtual 53, 3) := by decide +kernel
theorem dX1_read_68 : decode cX1_read 68 = .ok (.ifCond .eq 14, 3) := by decide +kernel
theorem dX1_read_71 : decode cX1_read 71 = .ok (.aload_n 0, 1) := by decide +kernel
theorem dX1_read_72 : decode cX1_read 72 = .ok (.aload_n 1, 1) := by decide +kernel
theorem dX1_read_73 : decode cX1_read 73 = .ok (.invokevirtual 47, 3) := by decide +kernel
theorem dX1_read_76 : decode cX1_read 76 = .ok (.iinc 2 1, 3) := by decide +kernel
theorem dX1_read_79 : decode cX1_read 79 = .ok (.goto (-27), 3) := by decide +kernel
theorem dX1_read_82 : decode cX1_read 82 = .ok (.aload_n 0, 1) := by decide +kernel
theorem dX1_read_83 : decode cX1_read 83 = .ok (.getfield 14, 3) := by decide +kernel
theorem dX1_read_86 : decode cX1_read 86 = .ok (.invokevirtual 57, 3) := by decide +kernel
theorem dX1_read_89 : decode cX1_read 89 = .ok (.aload_n 1, 1) := by decide +kernel
theorem dX1_read_90 : decode cX1_read 90 = .ok (.invokevirtual 60, 3) := by decide +kernel
theorem dX1_read_93 : decode cX1_read 93 = .ok (.ifCond .ne 10, 3) := by decide +kernel
theorem dX1_read_96 : decode cX1_read 96 = .ok (.aload_n 0, 1) := by decide +kernel
theorem dX1_read_97 : decode cX1_read 97 = .ok (.getfield 14, 3) := by decide +kernel
theorem dX1_read_100 : decode cX1_read 100 = .ok (.invokevirtual 64, 3) := by decide +kernel
theorem dX1_read_103 : decode cX1_read 103 = .ok (.aload_n 0, 1) := by decide +kernel
theorem dX1_read_104 : decode cX1_read 104 = .ok (.getfield 14, 3) := by decide +kernel
theorem dX1_read_107 : decode cX1_read 107 = .ok (.invokevirtual 67, 3) := by decide +kernel
theorem dX1_read_110 : decode cX1_read 110 = .ok (.ireturn, 1) := by decide +kernel
theorem dX1_readClause_0 : decode cX1_readClause 0 = .ok (.aload_n 0, 1) := by decide +kernel
theorem dX1_readClause_1 : decode cX1_readClause 1 = .ok (.getfield 14, 3) := by decide +kernel
theorem dX1_readClause_4 : decode cX1_readClause 4 = .ok (.invokevirtual 70, 3) := by decide +kernel
theorem dX1_readClause_7 : decode cX1_readClause 7 = .ok (.istore_n 2, 1) := by decide +kernel
theorem dX1_readClause_8 : decode cX1_readClause 8 = .ok (.iload_n 2, 1) := by decide +kernel
theorem dX1_readClause_9 : decode cX1_readClause 9 = .ok (.bipush 99, 2) := by decide +kernel
theorem dX1_readClause_11 : decode cX1_readClause 11 = .ok (.if_icmp .ne 38, 3) := by decide +kernel
theorem dX1_readClause_14 : decode cX1_readClause 14 = .ok (.aload_n 1, 1) := by decide +kernel
theorem dX1_readClause_15 : decode cX1_readClause 15 = .ok (.invokevirtual 60, 3) := by decide +kernel
theorem dX1_readClause_18 : decode cX1_readClause 18 = .ok (.bipush 8, 2) := by decide +kernel
theorem dX1_readClause_20 : decode cX1_readClause 20 = .ok (.if_icmp .ge 29, 3) := by decide +kernel
theorem dX1_readClause_23 : decode cX1_readClause 23 = .ok (.aload_n 0, 1) := by decide +kernel
theorem dX1_readClause_24 : decode cX1_readClause 24 = .ok (.ldc 73, 2) := by decide +kernel
theorem dX1_readClause_26 : decode cX1_readClause 26 = .ok (.getstatic 75, 3) := by decide +kernel
theorem dX1_readClause_29 : decode cX1_readClause 29 = .ok (.getstatic 78, 3) := by decide +kernel
theorem dX1_readClause_32 : decode cX1_readClause 32 = .ok (.getstatic 81, 3) := by decide +kernel
theorem dX1_readClause_35 : decode cX1_readClause 35 = .ok (.invokevirtual 84, 3) := by decide +kernel
theorem dX1_readClause_38 : decode cX1_readClause 38 = .ok (.aload_n 1, 1) := by decide +kernel
theorem dX1_readClause_39 : decode cX1_readClause 39 = .ok (.aload_n 0, 1) := by decide +kernel
theorem dX1_readClause_40 : decode cX1_readClause 40 = .ok (.getfield 20, 3) := by decide +kernel
theorem dX1_readClause_43 : decode cX1_readClause 43 = .ok (.invokevirtual 88, 3) := by decide +kernel
theorem dX1_readClause_46 : decode cX1_readClause 46 = .ok (.goto 122, 3) := by decide +kernel
theorem dX1_readClause_49 : decode cX1_readClause 49 = .ok (.iload_n 2, 1) := by decide +kernel
theorem dX1_readClause_50 : decode cX1_readClause 50 = .ok (.bipush 101, 2) := by decide +kernel
theorem dX1_readClause_52 : decode cX1_readClause 52 = .ok (.if_icmp .ne 51, 3) := by decide +kernel
theorem dX1_readClause_55 : decode cX1_readClause 55 = .ok (.aload_n 1, 1) := by decide +kernel
theorem dX1_readClause_56 : decode cX1_readClause 56 = .ok (.invokevirtual 91, 3) := by decide +kernel
theorem dX1_readClause_59 : decode cX1_readClause 59 = .ok (.iconst 4, 1) := by decide +kernel
theorem dX1_readClause_60 : decode cX1_readClause 60 = .ok (.if_icmp .ge 43, 3) := by decide +kernel
theorem dX1_readClause_63 : decode cX1_readClause 63 = .ok (.aload_n 0, 1) := by decide +kernel
theorem dX1_readClause_64 : decode cX1_readClause 64 = .ok (.ldc 94, 2) := by decide +kernel
theorem dX1_readClause_66 : decode cX1_readClause 66 = .ok (.getstatic 96, 3) := by decide +kernel
theorem dX1_readClause_69 : decode cX1_readClause 69 = .ok (.getstatic 99, 3) := by decide +kernel
theorem dX1_readClause_72 : decode cX1_readClause 72 = .ok (.getstatic 102, 3) := by decide +kernel
theorem dX1_readClause_75 : decode cX1_readClause 75 = .ok (.invokevirtual 84, 3) := by decide +kernel
theorem dX1_readClause_78 : decode cX1_readClause 78 = .ok (.aload_n 1, 1) := by decide +kernel
theorem dX1_readClause_79 : decode cX1_readClause 79 = .ok (.aload_n 0, 1) := by decide +kernel
theorem dX1_readClause_80 : decode cX1_readClause 80 = .ok (.getfield 20, 3) := by decide +kernel
theorem dX1_readClause_83 : decode cX1_readClause 83 = .ok (.iconst 0, 1) := by decide +kernel
theorem dX1_readClause_84 : decode cX1_readClause 84 = .ok (.iaload, 1) := by decide +kernel
theorem dX1_readClause_85 : decode cX1_readClause 85 = .ok (.aload_n 0, 1) := by decide +kernel
theorem dX1_readClause_86 : decode cX1_readClause 86 = .ok (.getfield 20, 3) := by decide +kernel
theorem dX1_readClause_89 : decode cX1_readClause 89 = .ok (.iconst 1, 1) := by decide +kernel
theorem dX1_readClause_90 : decode cX1_readClause 90 = .ok (.iaload, 1) := by decide +kernel
theorem dX1_readClause_91 : decode cX1_readClause 91 = .ok (.aload_n 0, 1) := by decide +kernel
theorem dX1_readClause_92 : decode cX1_readClause 92 = .ok (.getfield 20, 3) := by decide +kernel
theorem dX1_readClause_95 : decode cX1_readClause 95 = .ok (.iconst 2, 1) := by decide +kernel
theorem dX1_readClause_96 : decode cX1_readClause 96 = .ok (.iaload, 1) := by decide +kernel
theorem dX1_readClause_97 : decode cX1_readClause 97 = .ok (.invokevirtual 105, 3) := by decide +kernel
theorem dX1_readClause_100 : decode cX1_readClause 100 = .ok (.goto 68, 3) := by decide +kernel
theorem dX1_readClause_103 : decode cX1_readClause 103 = .ok (.iload_n 2, 1) := by decide +kernel
theorem dX1_readClause_104 : decode cX1_readClause 104 = .ok (.bipush 114, 2) := by decide +kernel
theorem dX1_readClause_106 : decode cX1_readClause 106 = .ok (.if_icmp .ne 55, 3) := by decide +kernel
theorem dX1_readClause_109 : decode cX1_readClause 109 = .ok (.aload_n 0, 1) := by decide +kernel
theorem dX1_readClause_110 : decode cX1_readClause 110 = .ok (.getfield 32, 3) := by decide +kernel
theorem dX1_readClause_113 : decode cX1_readClause 113 = .ok (.ifCond .ne 48, 3) := by decide +kernel
theorem dX1_readClause_116 : decode cX1_readClause 116 = .ok (.aload_n 0, 1) := by decide +kernel
theorem dX1_readClause_117 : decode cX1_readClause 117 = .ok (.ldc 108, 2) := by decide +kernel
theorem dX1_readClause_119 : decode cX1_readClause 119 = .ok (.getstatic 110, 3) := by decide +kernel
theorem dX1_readClause_122 : decode cX1_readClause 122 = .ok (.getstatic 113, 3) := by decide +kernel
theorem dX1_readClause_125 : decode cX1_readClause 125 = .ok (.getstatic 36, 3) := by decide +kernel
theorem dX1_readClause_128 : decode cX1_readClause 128 = .ok (.invokevirtual 84, 3) := by decide +kernel
theorem dX1_readClause_131 : decode cX1_readClause 131 = .ok (.aload_n 1, 1) := by decide +kernel
theorem dX1_readClause_132 : decode cX1_readClause 132 = .ok (.aload_n 0, 1) := by decide +kernel
theorem dX1_readClause_133 : decode cX1_readClause 133 = .ok (.getfield 20, 3) := by decide +kernel
theorem dX1_readClause_136 : decode cX1_readClause 136 = .ok (.iconst 0, 1) := by decide +kernel
theorem dX1_readClause_137 : decode cX1_readClause 137 = .ok (.iaload, 1) := by decide +kernel
theorem dX1_readClause_138 : decode cX1_readClause 138 = .ok (.aload_n 0, 1) := by decide +kernel
theorem dX1_readClause_139 : decode cX1_readClause 139 = .ok (.getfield 20, 3) := by decide +kernel
theorem dX1_readClause_142 : decode cX1_readClause 142 = .ok (.iconst 1, 1) := by decide +kernel
theorem dX1_readClause_143 : decode cX1_readClause 143 = .ok (.iaload, 1) := by decide +kernel
theorem dX1_readClause_144 : decode cX1_readClause 144 = .ok (.aload_n 0, 1) := by decide +kernel
theorem dX1_readClause_145 : decode cX1_readClause 145 = .ok (.getfield 20, 3) := by decide +kernel
theorem dX1_readClause_148 : decode cX1_readClause 148 = .ok (.iconst 2, 1) := by decide +kernel
theorem dX1_readClause_149 : decode cX1_readClause 149 = .ok (.iaload, 1) := by decide +kernel
theorem dX1_readClause_150 : decode cX1_readClause 150 = .ok (.invokevirtual 43, 3) := by decide +kernel
theorem dX1_readClause_153 : decode cX1_readClause 153 = .ok (.aload_n 0, 1) := by decide +kernel
theorem dX1_readClause_154 : decode cX1_readClause 154 = .ok (.iconst 1, 1) := by decide +kernel
theorem dX1_readClause_155 : decode cX1_readClause 155 = .ok (.putfield 32, 3) := by decide +kernel
theorem dX1_readClause_158 : decode cX1_readClause 158 = .ok (.goto 10, 3) := by decide +kernel
theorem dX1_readClause_161 : decode cX1_readClause 161 = .ok (.aload_n 0, 1) := by decide +kernel
theorem dX1_readClause_162 : decode cX1_readClause 162 = .ok (.getfield 14, 3) := by decide +kernel
theorem dX1_readClause_165 : decode cX1_readClause 165 = .ok (.invokevirtual 64, 3) := by decide +kernel
theorem dX1_readClause_168 : decode cX1_readClause 168 = .ok (.return_, 1) := by decide +kernel
theorem dX1_useUsual_0 : decode cX1_useUsual 0 = .ok (.iconst 0, 1) := by decide +kernel
theorem dX1_useUsual_1 : decode cX1_useUsual 1 = .ok (.istore_n 2, 1) := by decide +kernel
theorem dX1_useUsual_2 : decode cX1_useUsual 2 = .ok (.iload_n 2, 1) := by decide +kernel
theorem dX1_useUsual_3 : decode cX1_useUsual 3 = .ok (.aload_n 1, 1) := by decide +kernel
theorem dX1_useUsual_4 : decode cX1_useUsual 4 = .ok (.arraylength, 1) := by decide +kernel
theorem dX1_useUsual_5 : decode cX1_useUsual 5 = .ok (.if_icmp .ge 27, 3) := by decide +kernel
theorem dX1_useUsual_8 : decode cX1_useUsual 8 = .ok (.iload_n 2, 1) := by decide +kernel
theorem dX1_useUsual_9 : decode cX1_useUsual 9 = .ok (.aload_n 0, 1) := by decide +kernel
theorem dX1_useUsual_10 : decode cX1_useUsual 10 = .ok (.getfield 20, 3) := by decide +kernel
theorem dX1_useUsual_13 : decode cX1_useUsual 13 = .ok (.arraylength, 1) := by decide +kernel
theorem dX1_useUsual_14 : decode cX1_useUsual 14 = .ok (.if_icmp .ge 18, 3) := by decide +kernel
theorem dX1_useUsual_17 : decode cX1_useUsual 17 = .ok (.aload_n 0, 1) := by decide +kernel
theorem dX1_useUsual_18 : decode cX1_useUsual 18 = .ok (.getfield 20, 3) := by decide +kernel
theorem dX1_useUsual_21 : decode cX1_useUsual 21 = .ok (.iload_n 2, 1) := by decide +kernel
theorem dX1_useUsual_22 : decode cX1_useUsual 22 = .ok (.aload_n 1, 1) := by decide +kernel
theorem dX1_useUsual_23 : decode cX1_useUsual 23 = .ok (.iload_n 2, 1) := by decide +kernel
theorem dX1_useUsual_24 : decode cX1_useUsual 24 = .ok (.iaload, 1) := by decide +kernel
theorem dX1_useUsual_25 : decode cX1_useUsual 25 = .ok (.iastore, 1) := by decide +kernel
theorem dX1_useUsual_26 : decode cX1_useUsual 26 = .ok (.iinc 2 1, 3) := by decide +kernel
theorem dX1_useUsual_29 : decode cX1_useUsual 29 = .ok (.goto (-27), 3) := by decide +kernel
theorem dX1_useUsual_32 : decode cX1_useUsual 32 = .ok (.return_, 1) := by decide +kernel
theorem dX1_readItems_0 : decode cX1_readItems 0 = .ok (.aload_n 0, 1) := by decide +kernel
theorem dX1_readItems_1 : decode cX1_readItems 1 = .ok (.getfield 14, 3) := by decide +kernel
theorem dX1_readItems_4 : decode cX1_readItems 4 = .ok (.invokevirtual 116, 3) := by decide +kernel
theorem dX1_readItems_7 : decode cX1_readItems 7 = .ok (.aload_n 0, 1) := by decide +kernel
theorem dX1_readItems_8 : decode cX1_readItems 8 = .ok (.aload 4, 2) := by decide +kernel
theorem dX1_readItems_10 : decode cX1_readItems 10 = .ok (.invokevirtual 39, 3) := by decide +kernel
theorem dX1_readItems_13 : decode cX1_readItems 13 = .ok (.iconst 0, 1) := by decide +kernel
theorem dX1_readItems_14 : decode cX1_readItems 14 = .ok (.istore 5, 2) := by decide +kernel
theorem dX1_readItems_16 : decode cX1_readItems 16 = .ok (.iconst 0, 1) := by decide +kernel
theorem dX1_readItems_17 : decode cX1_readItems 17 = .ok (.istore 6, 2) := by decide +kernel
theorem dX1_readItems_19 : decode cX1_readItems 19 = .ok (.iload 6, 2) := by decide +kernel
theorem dX1_readItems_21 : decode cX1_readItems 21 = .ok (.aload_n 1, 1) := by decide +kernel
theorem dX1_readItems_22 : decode cX1_readItems 22 = .ok (.invokevirtual 119, 3) := by decide +kernel
theorem dX1_readItems_25 : decode cX1_readItems 25 = .ok (.if_icmp .gt 150, 3) := by decide +kernel
theorem dX1_readItems_28 : decode cX1_readItems 28 = .ok (.aload_n 0, 1) := by decide +kernel
theorem dX1_readItems_29 : decode cX1_readItems 29 = .ok (.getfield 14, 3) := by decide +kernel
theorem dX1_readItems_32 : decode cX1_readItems 32 = .ok (.invokevirtual 70, 3) := by decide +kernel
theorem dX1_readItems_35 : decode cX1_readItems 35 = .ok (.istore 7, 2) := by decide +kernel
theorem dX1_readItems_37 : decode cX1_readItems 37 = .ok (.iload 7, 2) := by decide +kernel
theorem dX1_readItems_39 : decode cX1_readItems 39 = .ok (.ifCond .ge 7, 3) := by decide +kernel
theorem dX1_readItems_42 : decode cX1_readItems 42 = .ok (.iconst (-1), 1) := by decide +kernel
theorem dX1_readItems_43 : decode cX1_readItems 43 = .ok (.goto 10, 3) := by decide +kernel
theorem dX1_readItems_46 : decode cX1_readItems 46 = .ok (.aload_n 1, 1) := by decide +kernel
theorem dX1_readItems_47 : decode cX1_readItems 47 = .ok (.iload 7, 2) := by decide +kernel
theorem dX1_readItems_49 : decode cX1_readItems 49 = .ok (.i2c, 1) := by decide +kernel
theorem dX1_readItems_50 : decode cX1_readItems 50 = .ok (.invokevirtual 124, 3) := by decide +kernel
theorem dX1_readItems_53 : decode cX1_readItems 53 = .ok (.istore 8, 2) := by decide +kernel
theorem dX1_readItems_55 : decode cX1_readItems 55 = .ok (.iload 8, 2) := by decide +kernel
theorem dX1_readItems_57 : decode cX1_readItems 57 = .ok (.ifCond .lt 27, 3) := by decide +kernel
theorem dX1_readItems_60 : decode cX1_readItems 60 = .ok (.iload 8, 2) := by decide +kernel
theorem dX1_readItems_62 : decode cX1_readItems 62 = .ok (.aload_n 0, 1) := by decide +kernel
theorem dX1_readItems_63 : decode cX1_readItems 63 = .ok (.getfield 20, 3) := by decide +kernel
theorem dX1_readItems_66 : decode cX1_readItems 66 = .ok (.arraylength, 1) := by decide +kernel
theorem dX1_readItems_67 : decode cX1_readItems 67 = .ok (.if_icmp .ge 17, 3) := by decide +kernel
theorem dX1_readItems_70 : decode cX1_readItems 70 = .ok (.iload 8, 2) := by decide +kernel
theorem dX1_readItems_72 : decode cX1_readItems 72 = .ok (.aload_n 2, 1) := by decide +kernel
theorem dX1_readItems_73 : decode cX1_readItems 73 = .ok (.arraylength, 1) := by decide +kernel
theorem dX1_readItems_74 : decode cX1_readItems 74 = .ok (.if_icmp .ge 10, 3) := by decide +kernel
theorem dX1_readItems_77 : decode cX1_readItems 77 = .ok (.iload 8, 2) := by decide +kernel
theorem dX1_readItems_79 : decode cX1_readItems 79 = .ok (.aload_n 3, 1) := by decide +kernel
theorem dX1_readItems_80 : decode cX1_readItems 80 = .ok (.arraylength, 1) := by decide +kernel
theorem dX1_readItems_81 : decode cX1_readItems 81 = .ok (.if_icmp .lt 4, 3) := by decide +kernel
theorem dX1_readItems_84 : decode cX1_readItems 84 = .ok (.return_, 1) := by decide +kernel
theorem dX1_readItems_85 : decode cX1_readItems 85 = .ok (.iload 5, 2) := by decide +kernel
theorem dX1_readItems_87 : decode cX1_readItems 87 = .ok (.iload 8, 2) := by decide +kernel
theorem dX1_readItems_89 : decode cX1_readItems 89 = .ok (.ishr, 1) := by decide +kernel
theorem dX1_readItems_90 : decode cX1_readItems 90 = .ok (.iconst 1, 1) := by decide +kernel
theorem dX1_readItems_91 : decode cX1_readItems 91 = .ok (.iand, 1) := by decide +kernel
theorem dX1_readItems_92 : decode cX1_readItems 92 = .ok (.ifCond .eq 11, 3) := by decide +kernel
theorem dX1_readItems_95 : decode cX1_readItems 95 = .ok (.aload_n 0, 1) := by decide +kernel
theorem dX1_readItems_96 : decode cX1_readItems 96 = .ok (.getfield 14, 3) := by decide +kernel
theorem dX1_readItems_99 : decode cX1_readItems 99 = .ok (.invokevirtual 64, 3) := by decide +kernel
theorem dX1_readItems_102 : decode cX1_readItems 102 = .ok (.return_, 1) := by decide +kernel
theorem dX1_readItems_103 : decode cX1_readItems 103 = .ok (.iload 5, 2) := by decide +kernel
theorem dX1_readItems_105 : decode cX1_readItems 105 = .ok (.iconst 1, 1) := by decide +kernel
theorem dX1_readItems_106 : decode cX1_readItems 106 = .ok (.iload 8, 2) := by decide +kernel
theorem dX1_readItems_108 : decode cX1_readItems 108 = .ok (.ishl, 1) := by decide +kernel
theorem dX1_readItems_109 : decode cX1_readItems 109 = .ok (.ior, 1) := by decide +kernel
theorem dX1_readItems_110 : decode cX1_readItems 110 = .ok (.istore 5, 2) := by decide +kernel
theorem dX1_readItems_112 : decode cX1_readItems 112 = .ok (.aload_n 0, 1) := by decide +kernel
theorem dX1_readItems_113 : decode cX1_readItems 113 = .ok (.getfield 14, 3) := by decide +kernel
theorem dX1_readItems_116 : decode cX1_readItems 116 = .ok (.invokevirtual 116, 3) := by decide +kernel
theorem dX1_readItems_119 : decode cX1_readItems 119 = .ok (.aload_n 0, 1) := by decide +kernel
theorem dX1_readItems_120 : decode cX1_readItems 120 = .ok (.getfield 20, 3) := by decide +kernel
theorem dX1_readItems_123 : decode cX1_readItems 123 = .ok (.iload 8, 2) := by decide +kernel
theorem dX1_readItems_125 : decode cX1_readItems 125 = .ok (.aload_n 0, 1) := by decide +kernel
theorem dX1_readItems_126 : decode cX1_readItems 126 = .ok (.getfield 14, 3) := by decide +kernel
theorem dX1_readItems_129 : decode cX1_readItems 129 = .ok (.iconst 2, 1) := by decide +kernel
theorem dX1_readItems_130 : decode cX1_readItems 130 = .ok (.invokevirtual 128, 3) := by decide +kernel
theorem dX1_readItems_133 : decode cX1_readItems 133 = .ok (.iastore, 1) := by decide +kernel
theorem dX1_readItems_134 : decode cX1_readItems 134 = .ok (.aload_n 0, 1) := by decide +kernel
theorem dX1_readItems_135 : decode cX1_readItems 135 = .ok (.getfield 20, 3) := by decide +kernel
theorem dX1_readItems_138 : decode cX1_readItems 138 = .ok (.iload 8, 2) := by decide +kernel
theorem dX1_readItems_140 : decode cX1_readItems 140 = .ok (.iaload, 1) := by decide +kernel
theorem dX1_readItems_141 : decode cX1_readItems 141 = .ok (.aload_n 2, 1) := by decide +kernel
theorem dX1_readItems_142 : decode cX1_readItems 142 = .ok (.iload 8, 2) := by decide +kernel
theorem dX1_readItems_144 : decode cX1_readItems 144 = .ok (.iaload, 1) := by decide +kernel
theorem dX1_readItems_145 : decode cX1_readItems 145 = .ok (.if_icmp .lt 17, 3) := by decide +kernel
theorem dX1_readItems_148 : decode cX1_readItems 148 = .ok (.aload_n 0, 1) := by decide +kernel
theorem dX1_readItems_149 : decode cX1_readItems 149 = .ok (.getfield 20, 3) := by decide +kernel
theorem dX1_readItems_152 : decode cX1_readItems 152 = .ok (.iload 8, 2) := by decide +kernel
theorem dX1_readItems_154 : decode cX1_readItems 154 = .ok (.iaload, 1) := by decide +kernel
theorem dX1_readItems_155 : decode cX1_readItems 155 = .ok (.aload_n 3, 1) := by decide +kernel
theorem dX1_readItems_156 : decode cX1_readItems 156 = .ok (.iload 8, 2) := by decide +kernel
theorem dX1_readItems_158 : decode cX1_readItems 158 = .ok (.iaload, 1) := by decide +kernel
theorem dX1_readItems_159 : decode cX1_readItems 159 = .ok (.if_icmp .le 10, 3) := by decide +kernel
theorem dX1_readItems_162 : decode cX1_readItems 162 = .ok (.aload_n 0, 1) := by decide +kernel
theorem dX1_readItems_163 : decode cX1_readItems 163 = .ok (.getfield 14, 3) := by decide +kernel
theorem dX1_readItems_166 : decode cX1_readItems 166 = .ok (.invokevirtual 131, 3) := by decide +kernel
theorem dX1_readItems_169 : decode cX1_readItems 169 = .ok (.iinc 6 1, 3) := by decide +kernel
theorem dX1_readItems_172 : decode cX1_readItems 172 = .ok (.goto (-153), 3) := by decide +kernel
theorem dX1_readItems_175 : decode cX1_readItems 175 = .ok (.return_, 1) := by decide +kernel
theorem dX3_bestRow_0 : decode cX3_bestRow 0 = .ok (.aload_n 0, 1) := by decide +kernel
theorem dX3_bestRow_1 : decode cX3_bestRow 1 = .ok (.getfield 34, 3) := by decide +kernel
theorem dX3_bestRow_4 : decode cX3_bestRow 4 = .ok (.ireturn, 1) := by decide +kernel
theorem dX3_bestMonths_0 : decode cX3_bestMonths 0 = .ok (.aload_n 0, 1) := by decide +kernel
theorem dX3_bestMonths_1 : decode cX3_bestMonths 1 = .ok (.getfield 38, 3) := by decide +kernel
theorem dX3_bestMonths_4 : decode cX3_bestMonths 4 = .ok (.ireturn, 1) := by decide +kernel
theorem dX3_bestLength_0 : decode cX3_bestLength 0 = .ok (.aload_n 0, 1) := by decide +kernel
theorem dX3_bestLength_1 : decode cX3_bestLength 1 = .ok (.getfield 41, 3) := by decide +kernel
theorem dX3_bestLength_4 : decode cX3_bestLength 4 = .ok (.ireturn, 1) := by decide +kernel
theorem dX3_bestLaw_0 : decode cX3_bestLaw 0 = .ok (.aload_n 0, 1) := by decide +kernel
theorem dX3_bestLaw_1 : decode cX3_bestLaw 1 = .ok (.getfield 44, 3) := by decide +kernel
theorem dX3_bestLaw_4 : decode cX3_bestLaw 4 = .ok (.ireturn, 1) := by decide +kernel
theorem dX3_bestTreasury_0 : decode cX3_bestTreasury 0 = .ok (.aload_n 0, 1) := by decide +kernel
theorem dX3_bestTreasury_1 : decode cX3_bestTreasury 1 = .ok (.getfield 47, 3) := by decide +kernel
theorem dX3_bestTreasury_4 : decode cX3_bestTreasury 4 = .ok (.ireturn, 1) := by decide +kernel
theorem dX3_goOn_0 : decode cX3_goOn 0 = .ok (.aload_n 0, 1) := by decide +kernel
theorem dX3_goOn_1 : decode cX3_goOn 1 = .ok (.getfield 15, 3) := by decide +kernel
theorem dX3_goOn_4 : decode cX3_goOn 4 = .ok (.aload_n 0, 1) := by decide +kernel
theorem dX3_goOn_5 : decode cX3_goOn 5 = .ok (.getfield 9, 3) := by decide +kernel
theorem dX3_goOn_8 : decode cX3_goOn 8 = .ok (.invokevirtual 50, 3) := by decide +kernel
theorem dX3_goOn_11 : decode cX3_goOn 11 = .ok (.iconst 0, 1) := by decide +kernel
theorem dX3_goOn_12 : decode cX3_goOn 12 = .ok (.istore_n 3, 1) := by decide +kernel
theorem dX3_goOn_13 : decode cX3_goOn 13 = .ok (.iload_n 3, 1) := by decide +kernel
theorem dX3_goOn_14 : decode cX3_goOn 14 = .ok (.iload_n 1, 1) := by decide +kernel
theorem dX3_goOn_15 : decode cX3_goOn 15 = .ok (.if_icmp .ge 54, 3) := by decide +kernel
theorem dX3_goOn_18 : decode cX3_goOn 18 = .ok (.aload_n 0, 1) := by decide +kernel
theorem dX3_goOn_19 : decode cX3_goOn 19 = .ok (.invokevirtual 54, 3) := by decide +kernel
theorem dX3_goOn_22 : decode cX3_goOn 22 = .ok (.pop, 1) := by decide +kernel
theorem dX3_goOn_23 : decode cX3_goOn 23 = .ok (.aload_n 0, 1) := by decide +kernel
theorem dX3_goOn_24 : decode cX3_goOn 24 = .ok (.getfield 15, 3) := by decide +kernel
theorem dX3_goOn_27 : decode cX3_goOn 27 = .ok (.invokevirtual 58, 3) := by decide +kernel
theorem dX3_goOn_30 : decode cX3_goOn 30 = .ok (.istore 4, 2) := by decide +kernel
theorem dX3_goOn_32 : decode cX3_goOn 32 = .ok (.aload_n 0, 1) := by decide +kernel
theorem dX3_goOn_33 : decode cX3_goOn 33 = .ok (.getfield 15, 3) := by decide +kernel
theorem dX3_goOn_36 : decode cX3_goOn 36 = .ok (.iload 4, 2) := by decide +kernel
theorem dX3_goOn_38 : decode cX3_goOn 38 = .ok (.iconst (-1), 1) := by decide +kernel
theorem dX3_goOn_39 : decode cX3_goOn 39 = .ok (.if_icmp .ne 7, 3) := by decide +kernel
theorem dX3_goOn_42 : decode cX3_goOn 42 = .ok (.iconst 0, 1) := by decide +kernel
theorem dX3_goOn_43 : decode cX3_goOn 43 = .ok (.goto 17, 3) := by decide +kernel
theorem dX3_goOn_46 : decode cX3_goOn 46 = .ok (.aload_n 0, 1) := by decide +kernel
theorem dX3_goOn_47 : decode cX3_goOn 47 = .ok (.getfield 18, 3) := by decide +kernel
theorem dX3_goOn_50 : decode cX3_goOn 50 = .ok (.aload_n 0, 1) := by decide +kernel
theorem dX3_goOn_51 : decode cX3_goOn 51 = .ok (.getfield 15, 3) := by decide +kernel
theorem dX3_goOn_54 : decode cX3_goOn 54 = .ok (.iload 4, 2) := by decide +kernel
theorem dX3_goOn_56 : decode cX3_goOn 56 = .ok (.iload_n 2, 1) := by decide +kernel
theorem dX3_goOn_57 : decode cX3_goOn 57 = .ok (.invokevirtual 61, 3) := by decide +kernel
theorem dX3_goOn_60 : decode cX3_goOn 60 = .ok (.invokevirtual 67, 3) := by decide +kernel
theorem dX3_goOn_63 : decode cX3_goOn 63 = .ok (.iinc 3 1, 3) := by decide +kernel
theorem dX3_goOn_66 : decode cX3_goOn 66 = .ok (.goto (-53), 3) := by decide +kernel
theorem dX3_goOn_69 : decode cX3_goOn 69 = .ok (.return_, 1) := by decide +kernel
theorem dX3_rulerOfNextMonth_0 : decode cX3_rulerOfNextMonth 0 = .ok (.aload_n 0, 1) := by decide +kernel
theorem dX3_rulerOfNextMonth_1 : decode cX3_rulerOfNextMonth 1 = .ok (.getfield 15, 3) := by decide +kernel
theorem dX3_rulerOfNextMonth_4 : decode cX3_rulerOfNextMonth 4 = .ok (.invokevirtual 71, 3) := by decide +kernel
theorem dX3_rulerOfNextMonth_7 : decode cX3_rulerOfNextMonth 7 = .ok (.aload_n 0, 1) := by decide +kernel
theorem dX3_rulerOfNextMonth_8 : decode cX3_rulerOfNextMonth 8 = .ok (.getfield 15, 3) := by decide +kernel
theorem dX3_rulerOfNextMonth_11 : decode cX3_rulerOfNextMonth 11 = .ok (.aload_n 0, 1) := by decide +kernel
theorem dX3_rulerOfNextMonth_12 : decode cX3_rulerOfNextMonth 12 = .ok (.getfield 15, 3) := by decide +kernel
theorem dX3_rulerOfNextMonth_15 : decode cX3_rulerOfNextMonth 15 = .ok (.invokevirtual 74, 3) := by decide +kernel
theorem dX3_rulerOfNextMonth_18 : decode cX3_rulerOfNextMonth 18 = .ok (.invokevirtual 77, 3) := by decide +kernel
theorem dX3_rulerOfNextMonth_21 : decode cX3_rulerOfNextMonth 21 = .ok (.aload_n 0, 1) := by decide +kernel
theorem dX3_rulerOfNextMonth_22 : decode cX3_rulerOfNextMonth 22 = .ok (.getfield 15, 3) := by decide +kernel
theorem dX3_rulerOfNextMonth_25 : decode cX3_rulerOfNextMonth 25 = .ok (.invokevirtual 58, 3) := by decide +kernel
theorem dX3_rulerOfNextMonth_28 : decode cX3_rulerOfNextMonth 28 = .ok (.ireturn, 1) := by decide +kernel
theorem dX3_reignOfChild_0 : decode cX3_reignOfChild 0 = .ok (.aload_n 0, 1) := by decide +kernel
theorem dX3_reignOfChild_1 : decode cX3_reignOfChild 1 = .ok (.getfield 15, 3) := by decide +kernel
theorem dX3_reignOfChild_4 : decode cX3_reignOfChild 4 = .ok (.aload_n 0, 1) := by decide +kernel
theorem dX3_reignOfChild_5 : decode cX3_reignOfChild 5 = .ok (.getfield 9, 3) := by decide +kernel
theorem dX3_reignOfChild_8 : decode cX3_reignOfChild 8 = .ok (.invokevirtual 50, 3) := by decide +kernel
theorem dX3_reignOfChild_11 : decode cX3_reignOfChild 11 = .ok (.iconst 0, 1) := by decide +kernel
theorem dX3_reignOfChild_12 : decode cX3_reignOfChild 12 = .ok (.istore_n 3, 1) := by decide +kernel
theorem dX3_reignOfChild_13 : decode cX3_reignOfChild 13 = .ok (.iconst 0, 1) := by decide +kernel
theorem dX3_reignOfChild_14 : decode cX3_reignOfChild 14 = .ok (.istore 4, 2) := by decide +kernel
theorem dX3_reignOfChild_16 : decode cX3_reignOfChild 16 = .ok (.iload 4, 2) := by decide +kernel
theorem dX3_reignOfChild_18 : decode cX3_reignOfChild 18 = .ok (.iload_n 2, 1) := by decide +kernel
theorem dX3_reignOfChild_19 : decode cX3_reignOfChild 19 = .ok (.if_icmp .ge 25, 3) := by decide +kernel
theorem dX3_reignOfChild_22 : decode cX3_reignOfChild 22 = .ok (.iload_n 3, 1) := by decide +kernel
theorem dX3_reignOfChild_23 : decode cX3_reignOfChild 23 = .ok (.aload_n 0, 1) := by decide +kernel
theorem dX3_reignOfChild_24 : decode cX3_reignOfChild 24 = .ok (.invokevirtual 54, 3) := by decide +kernel
theorem dX3_reignOfChild_27 : decode cX3_reignOfChild 27 = .ok (.iload_n 1, 1) := by decide +kernel
theorem dX3_reignOfChild_28 : decode cX3_reignOfChild 28 = .ok (.if_icmp .ne 7, 3) := by decide +kernel
theorem dX3_reignOfChild_31 : decode cX3_reignOfChild 31 = .ok (.iconst 1, 1) := by decide +kernel
theorem dX3_reignOfChild_32 : decode cX3_reignOfChild 32 = .ok (.goto 4, 3) := by decide +kernel
theorem dX3_reignOfChild_35 : decode cX3_reignOfChild 35 = .ok (.iconst 0, 1) := by decide +kernel
theorem dX3_reignOfChild_36 : decode cX3_reignOfChild 36 = .ok (.iadd, 1) := by decide +kernel
theorem dX3_reignOfChild_37 : decode cX3_reignOfChild 37 = .ok (.istore_n 3, 1) := by decide +kernel
theorem dX3_reignOfChild_38 : decode cX3_reignOfChild 38 = .ok (.iinc 4 1, 3) := by decide +kernel
theorem dX3_reignOfChild_41 : decode cX3_reignOfChild 41 = .ok (.goto (-25), 3) := by decide +kernel
theorem dX3_reignOfChild_44 : decode cX3_reignOfChild 44 = .ok (.iload_n 3, 1) := by decide +kernel
theorem dX3_reignOfChild_45 : decode cX3_reignOfChild 45 = .ok (.ireturn, 1) := by decide +kernel
theorem dX3_reignOfNursery_0 : decode cX3_reignOfNursery 0 = .ok (.aload_n 0, 1) := by decide +kernel
theorem dX3_reignOfNursery_1 : decode cX3_reignOfNursery 1 = .ok (.getfield 15, 3) := by decide +kernel
theorem dX3_reignOfNursery_4 : decode cX3_reignOfNursery 4 = .ok (.aload_n 0, 1) := by decide +kernel
theorem dX3_reignOfNursery_5 : decode cX3_reignOfNursery 5 = .ok (.getfield 9, 3) := by decide +kernel
theorem dX3_reignOfNursery_8 : decode cX3_reignOfNursery 8 = .ok (.invokevirtual 50, 3) := by decide +kernel
theorem dX3_reignOfNursery_11 : decode cX3_reignOfNursery 11 = .ok (.iconst 0, 1) := by decide +kernel
theorem dX3_reignOfNursery_12 : decode cX3_reignOfNursery 12 = .ok (.istore_n 3, 1) := by decide +kernel
theorem dX3_reignOfNursery_13 : decode cX3_reignOfNursery 13 = .ok (.iconst 0, 1) := by decide +kernel
theorem dX3_reignOfNursery_14 : decode cX3_reignOfNursery 14 = .ok (.istore 4, 2) := by decide +kernel
theorem dX3_reignOfNursery_16 : decode cX3_reignOfNursery 16 = .ok (.iload 4, 2) := by decide +kernel
theorem dX3_reignOfNursery_18 : decode cX3_reignOfNursery 18 = .ok (.iload_n 2, 1) := by decide +kernel
theorem dX3_reignOfNursery_19 : decode cX3_reignOfNursery 19 = .ok (.if_icmp .ge 32, 3) := by decide +kernel
theorem dX3_reignOfNursery_22 : decode cX3_reignOfNursery 22 = .ok (.iload_n 3, 1) := by decide +kernel
theorem dX3_reignOfNursery_23 : decode cX3_reignOfNursery 23 = .ok (.aload_n 0, 1) := by decide +kernel
theorem dX3_reignOfNursery_24 : decode cX3_reignOfNursery 24 = .ok (.getfield 15, 3) := by decide +kernel
theorem dX3_reignOfNursery_27 : decode cX3_reignOfNursery 27 = .ok (.aload_n 0, 1) := by decide +kernel
theorem dX3_reignOfNursery_28 : decode cX3_reignOfNursery 28 = .ok (.invokevirtual 54, 3) := by decide +kernel
theorem dX3_reignOfNursery_31 : decode cX3_reignOfNursery 31 = .ok (.iload_n 1, 1) := by decide +kernel
theorem dX3_reignOfNursery_32 : decode cX3_reignOfNursery 32 = .ok (.invokevirtual 80, 3) := by decide +kernel
theorem dX3_reignOfNursery_35 : decode cX3_reignOfNursery 35 = .ok (.ifCond .eq 7, 3) := by decide +kernel
theorem dX3_reignOfNursery_38 : decode cX3_reignOfNursery 38 = .ok (.iconst 1, 1) := by decide +kernel
theorem dX3_reignOfNursery_39 : decode cX3_reignOfNursery 39 = .ok (.goto 4, 3) := by decide +kernel
theorem dX3_reignOfNursery_42 : decode cX3_reignOfNursery 42 = .ok (.iconst 0, 1) := by decide +kernel
theorem dX3_reignOfNursery_43 : decode cX3_reignOfNursery 43 = .ok (.iadd, 1) := by decide +kernel
theorem dX3_reignOfNursery_44 : decode cX3_reignOfNursery 44 = .ok (.istore_n 3, 1) := by decide +kernel
theorem dX3_reignOfNursery_45 : decode cX3_reignOfNursery 45 = .ok (.iinc 4 1, 3) := by decide +kernel
theorem dX3_reignOfNursery_48 : decode cX3_reignOfNursery 48 = .ok (.goto (-32), 3) := by decide +kernel
theorem dX3_reignOfNursery_51 : decode cX3_reignOfNursery 51 = .ok (.iload_n 3, 1) := by decide +kernel
theorem dX3_reignOfNursery_52 : decode cX3_reignOfNursery 52 = .ok (.ireturn, 1) := by decide +kernel
theorem dX3_monthsOfTrials_0 : decode cX3_monthsOfTrials 0 = .ok (.aload_n 0, 1) := by decide +kernel
theorem dX3_monthsOfTrials_1 : decode cX3_monthsOfTrials 1 = .ok (.getfield 15, 3) := by decide +kernel
theorem dX3_monthsOfTrials_4 : decode cX3_monthsOfTrials 4 = .ok (.aload_n 0, 1) := by decide +kernel
theorem dX3_monthsOfTrials_5 : decode cX3_monthsOfTrials 5 = .ok (.getfield 9, 3) := by decide +kernel
theorem dX3_monthsOfTrials_8 : decode cX3_monthsOfTrials 8 = .ok (.invokevirtual 50, 3) := by decide +kernel
theorem dX3_monthsOfTrials_11 : decode cX3_monthsOfTrials 11 = .ok (.iconst 0, 1) := by decide +kernel
theorem dX3_monthsOfTrials_12 : decode cX3_monthsOfTrials 12 = .ok (.istore_n 2, 1) := by decide +kernel
theorem dX3_monthsOfTrials_13 : decode cX3_monthsOfTrials 13 = .ok (.iload_n 2, 1) := by decide +kernel
theorem dX3_monthsOfTrials_14 : decode cX3_monthsOfTrials 14 = .ok (.iload_n 1, 1) := by decide +kernel
theorem dX3_monthsOfTrials_15 : decode cX3_monthsOfTrials 15 = .ok (.if_icmp .gt 29, 3) := by decide +kernel
theorem dX3_monthsOfTrials_18 : decode cX3_monthsOfTrials 18 = .ok (.aload_n 0, 1) := by decide +kernel
theorem dX3_monthsOfTrials_19 : decode cX3_monthsOfTrials 19 = .ok (.getfield 15, 3) := by decide +kernel
theorem dX3_monthsOfTrials_22 : decode cX3_monthsOfTrials 22 = .ok (.invokevirtual 74, 3) := by decide +kernel
theorem dX3_monthsOfTrials_25 : decode cX3_monthsOfTrials 25 = .ok (.iconst (-1), 1) := by decide +kernel
theorem dX3_monthsOfTrials_26 : decode cX3_monthsOfTrials 26 = .ok (.if_icmp .ne 5, 3) := by decide +kernel
theorem dX3_monthsOfTrials_29 : decode cX3_monthsOfTrials 29 = .ok (.iload_n 2, 1) := by decide +kernel
theorem dX3_monthsOfTrials_30 : decode cX3_monthsOfTrials 30 = .ok (.ireturn, 1) := by decide +kernel
theorem dX3_monthsOfTrials_31 : decode cX3_monthsOfTrials 31 = .ok (.aload_n 0, 1) := by decide +kernel
theorem dX3_monthsOfTrials_32 : decode cX3_monthsOfTrials 32 = .ok (.getfield 15, 3) := by decide +kernel
theorem dX3_monthsOfTrials_35 : decode cX3_monthsOfTrials 35 = .ok (.invokevirtual 71, 3) := by decide +kernel
theorem dX3_monthsOfTrials_38 : decode cX3_monthsOfTrials 38 = .ok (.iinc 2 1, 3) := by decide +kernel
theorem dX3_monthsOfTrials_41 : decode cX3_monthsOfTrials 41 = .ok (.goto (-28), 3) := by decide +kernel
theorem dX3_monthsOfTrials_44 : decode cX3_monthsOfTrials 44 = .ok (.iconst (-1), 1) := by decide +kernel
theorem dX3_monthsOfTrials_45 : decode cX3_monthsOfTrials 45 = .ok (.ireturn, 1) := by decide +kernel
theorem dX3_seekLaw_0 : decode cX3_seekLaw 0 = .ok (.aload_n 0, 1) := by decide +kernel
theorem dX3_seekLaw_1 : decode cX3_seekLaw 1 = .ok (.iconst (-1), 1) := by decide +kernel
theorem dX3_seekLaw_2 : decode cX3_seekLaw 2 = .ok (.putfield 44, 3) := by decide +kernel
theorem dX3_seekLaw_5 : decode cX3_seekLaw 5 = .ok (.aload_n 0, 1) := by decide +kernel
theorem dX3_seekLaw_6 : decode cX3_seekLaw 6 = .ok (.iload_n 1, 1) := by decide +kernel
theorem dX3_seekLaw_7 : decode cX3_seekLaw 7 = .ok (.iconst (-1), 1) := by decide +kernel
theorem dX3_seekLaw_8 : decode cX3_seekLaw 8 = .ok (.invokevirtual 84, 3) := by decide +kernel
theorem dX3_seekLaw_11 : decode cX3_seekLaw 11 = .ok (.aload_n 0, 1) := by decide +kernel
theorem dX3_seekLaw_12 : decode cX3_seekLaw 12 = .ok (.aload_n 0, 1) := by decide +kernel
theorem dX3_seekLaw_13 : decode cX3_seekLaw 13 = .ok (.getfield 15, 3) := by decide +kernel
theorem dX3_seekLaw_16 : decode cX3_seekLaw 16 = .ok (.bipush 99, 2) := by decide +kernel
theorem dX3_seekLaw_18 : decode cX3_seekLaw 18 = .ok (.invokevirtual 88, 3) := by decide +kernel
theorem dX3_seekLaw_21 : decode cX3_seekLaw 21 = .ok (.putfield 47, 3) := by decide +kernel
theorem dX3_seekLaw_24 : decode cX3_seekLaw 24 = .ok (.iconst 0, 1) := by decide +kernel
theorem dX3_seekLaw_25 : decode cX3_seekLaw 25 = .ok (.istore_n 2, 1) := by decide +kernel
theorem dX3_seekLaw_26 : decode cX3_seekLaw 26 = .ok (.iload_n 2, 1) := by decide +kernel
theorem dX3_seekLaw_27 : decode cX3_seekLaw 27 = .ok (.aload_n 0, 1) := by decide +kernel
theorem dX3_seekLaw_28 : decode cX3_seekLaw 28 = .ok (.getfield 18, 3) := by decide +kernel
theorem dX3_seekLaw_31 : decode cX3_seekLaw 31 = .ok (.invokevirtual 92, 3) := by decide +kernel
theorem dX3_seekLaw_34 : decode cX3_seekLaw 34 = .ok (.if_icmp .ge 49, 3) := by decide +kernel
theorem dX3_seekLaw_37 : decode cX3_seekLaw 37 = .ok (.aload_n 0, 1) := by decide +kernel
theorem dX3_seekLaw_38 : decode cX3_seekLaw 38 = .ok (.iload_n 1, 1) := by decide +kernel
theorem dX3_seekLaw_39 : decode cX3_seekLaw 39 = .ok (.iload_n 2, 1) := by decide +kernel
theorem dX3_seekLaw_40 : decode cX3_seekLaw 40 = .ok (.invokevirtual 84, 3) := by decide +kernel
theorem dX3_seekLaw_43 : decode cX3_seekLaw 43 = .ok (.aload_n 0, 1) := by decide +kernel
theorem dX3_seekLaw_44 : decode cX3_seekLaw 44 = .ok (.getfield 15, 3) := by decide +kernel
theorem dX3_seekLaw_47 : decode cX3_seekLaw 47 = .ok (.bipush 99, 2) := by decide +kernel
theorem dX3_seekLaw_49 : decode cX3_seekLaw 49 = .ok (.invokevirtual 88, 3) := by decide +kernel
theorem dX3_seekLaw_52 : decode cX3_seekLaw 52 = .ok (.aload_n 0, 1) := by decide +kernel
theorem dX3_seekLaw_53 : decode cX3_seekLaw 53 = .ok (.getfield 47, 3) := by decide +kernel
theorem dX3_seekLaw_56 : decode cX3_seekLaw 56 = .ok (.if_icmp .le 21, 3) := by decide +kernel
theorem dX3_seekLaw_59 : decode cX3_seekLaw 59 = .ok (.aload_n 0, 1) := by decide +kernel
theorem dX3_seekLaw_60 : decode cX3_seekLaw 60 = .ok (.iload_n 2, 1) := by decide +kernel
theorem dX3_seekLaw_61 : decode cX3_seekLaw 61 = .ok (.putfield 44, 3) := by decide +kernel
theorem dX3_seekLaw_64 : decode cX3_seekLaw 64 = .ok (.aload_n 0, 1) := by decide +kernel
theorem dX3_seekLaw_65 : decode cX3_seekLaw 65 = .ok (.aload_n 0, 1) := by decide +kernel
theorem dX3_seekLaw_66 : decode cX3_seekLaw 66 = .ok (.getfield 15, 3) := by decide +kernel
theorem dX3_seekLaw_69 : decode cX3_seekLaw 69 = .ok (.bipush 99, 2) := by decide +kernel
theorem dX3_seekLaw_71 : decode cX3_seekLaw 71 = .ok (.invokevirtual 88, 3) := by decide +kernel
theorem dX3_seekLaw_74 : decode cX3_seekLaw 74 = .ok (.putfield 47, 3) := by decide +kernel
theorem dX3_seekLaw_77 : decode cX3_seekLaw 77 = .ok (.iinc 2 1, 3) := by decide +kernel
theorem dX3_seekLaw_80 : decode cX3_seekLaw 80 = .ok (.goto (-54), 3) := by decide +kernel
theorem dX3_seekLaw_83 : decode cX3_seekLaw 83 = .ok (.return_, 1) := by decide +kernel
theorem dX3_seekRow_0 : decode cX3_seekRow 0 = .ok (.aload_n 0, 1) := by decide +kernel
theorem dX3_seekRow_1 : decode cX3_seekRow 1 = .ok (.iload_n 1, 1) := by decide +kernel
theorem dX3_seekRow_2 : decode cX3_seekRow 2 = .ok (.iload_n 2, 1) := by decide +kernel
theorem dX3_seekRow_3 : decode cX3_seekRow 3 = .ok (.invokevirtual 95, 3) := by decide +kernel
theorem dX3_seekRow_6 : decode cX3_seekRow 6 = .ok (.aload_n 0, 1) := by decide +kernel
theorem dX3_seekRow_7 : decode cX3_seekRow 7 = .ok (.iconst (-1), 1) := by decide +kernel
theorem dX3_seekRow_8 : decode cX3_seekRow 8 = .ok (.putfield 34, 3) := by decide +kernel
theorem dX3_seekRow_11 : decode cX3_seekRow 11 = .ok (.aload_n 0, 1) := by decide +kernel
theorem dX3_seekRow_12 : decode cX3_seekRow 12 = .ok (.iconst 0, 1) := by decide +kernel
theorem dX3_seekRow_13 : decode cX3_seekRow 13 = .ok (.putfield 41, 3) := by decide +kernel
theorem dX3_seekRow_16 : decode cX3_seekRow 16 = .ok (.aload_n 0, 1) := by decide +kernel
theorem dX3_seekRow_17 : decode cX3_seekRow 17 = .ok (.aload_n 0, 1) := by decide +kernel
theorem dX3_seekRow_18 : decode cX3_seekRow 18 = .ok (.iload_n 1, 1) := by decide +kernel
theorem dX3_seekRow_19 : decode cX3_seekRow 19 = .ok (.iload_n 2, 1) := by decide +kernel
theorem dX3_seekRow_20 : decode cX3_seekRow 20 = .ok (.iconst 0, 1) := by decide +kernel
theorem dX3_seekRow_21 : decode cX3_seekRow 21 = .ok (.iconst 0, 1) := by decide +kernel
theorem dX3_seekRow_22 : decode cX3_seekRow 22 = .ok (.invokevirtual 98, 3) := by decide +kernel
theorem dX3_seekRow_25 : decode cX3_seekRow 25 = .ok (.putfield 38, 3) := by decide +kernel
theorem dX3_seekRow_28 : decode cX3_seekRow 28 = .ok (.sipush 511, 3) := by decide +kernel
theorem dX3_seekRow_31 : decode cX3_seekRow 31 = .ok (.aload_n 0, 1) := by decide +kernel
theorem dX3_seekRow_32 : decode cX3_seekRow 32 = .ok (.getfield 9, 3) := by decide +kernel
theorem dX3_seekRow_35 : decode cX3_seekRow 35 = .ok (.iload_n 1, 1) := by decide +kernel
theorem dX3_seekRow_36 : decode cX3_seekRow 36 = .ok (.invokevirtual 102, 3) := by decide +kernel
theorem dX3_seekRow_39 : decode cX3_seekRow 39 = .ok (.iconst (-1), 1) := by decide +kernel
theorem dX3_seekRow_40 : decode cX3_seekRow 40 = .ok (.ixor, 1) := by decide +kernel
theorem dX3_seekRow_41 : decode cX3_seekRow 41 = .ok (.iand, 1) := by decide +kernel
theorem dX3_seekRow_42 : decode cX3_seekRow 42 = .ok (.aload_n 0, 1) := by decide +kernel
theorem dX3_seekRow_43 : decode cX3_seekRow 43 = .ok (.getfield 9, 3) := by decide +kernel
theorem dX3_seekRow_46 : decode cX3_seekRow 46 = .ok (.iload_n 1, 1) := by decide +kernel
theorem dX3_seekRow_47 : decode cX3_seekRow 47 = .ok (.bipush 8, 2) := by decide +kernel
theorem dX3_seekRow_49 : decode cX3_seekRow 49 = .ok (.invokevirtual 105, 3) := by decide +kernel
theorem dX3_seekRow_52 : decode cX3_seekRow 52 = .ok (.iconst (-1), 1) := by decide +kernel
theorem dX3_seekRow_53 : decode cX3_seekRow 53 = .ok (.ixor, 1) := by decide +kernel
theorem dX3_seekRow_54 : decode cX3_seekRow 54 = .ok (.iand, 1) := by decide +kernel
theorem dX3_seekRow_55 : decode cX3_seekRow 55 = .ok (.istore_n 3, 1) := by decide +kernel
theorem dX3_seekRow_56 : decode cX3_seekRow 56 = .ok (.iconst 1, 1) := by decide +kernel
theorem dX3_seekRow_57 : decode cX3_seekRow 57 = .ok (.istore 4, 2) := by decide +kernel
theorem dX3_seekRow_59 : decode cX3_seekRow 59 = .ok (.iconst 1, 1) := by decide +kernel
theorem dX3_seekRow_60 : decode cX3_seekRow 60 = .ok (.istore 5, 2) := by decide +kernel
theorem dX3_seekRow_62 : decode cX3_seekRow 62 = .ok (.iload 5, 2) := by decide +kernel
theorem dX3_seekRow_64 : decode cX3_seekRow 64 = .ok (.iconst 3, 1) := by decide +kernel
theorem dX3_seekRow_65 : decode cX3_seekRow 65 = .ok (.if_icmp .gt 43, 3) := by decide +kernel
theorem dX3_seekRow_68 : decode cX3_seekRow 68 = .ok (.iload 4, 2) := by decide +kernel
theorem dX3_seekRow_70 : decode cX3_seekRow 70 = .ok (.bipush 10, 2) := by decide +kernel
theorem dX3_seekRow_72 : decode cX3_seekRow 72 = .ok (.imul, 1) := by decide +kernel
theorem dX3_seekRow_73 : decode cX3_seekRow 73 = .ok (.istore 4, 2) := by decide +kernel
theorem dX3_seekRow_75 : decode cX3_seekRow 75 = .ok (.iload 5, 2) := by decide +kernel
theorem dX3_seekRow_77 : decode cX3_seekRow 77 = .ok (.aload_n 0, 1) := by decide +kernel
theorem dX3_seekRow_78 : decode cX3_seekRow 78 = .ok (.getfield 9, 3) := by decide +kernel
theorem dX3_seekRow_81 : decode cX3_seekRow 81 = .ok (.iload_n 1, 1) := by decide +kernel
theorem dX3_seekRow_82 : decode cX3_seekRow 82 = .ok (.iconst 4, 1) := by decide +kernel
theorem dX3_seekRow_83 : decode cX3_seekRow 83 = .ok (.invokevirtual 105, 3) := by decide +kernel
theorem dX3_seekRow_86 : decode cX3_seekRow 86 = .ok (.imul, 1) := by decide +kernel
theorem dX3_seekRow_87 : decode cX3_seekRow 87 = .ok (.iload_n 2, 1) := by decide +kernel
theorem dX3_seekRow_88 : decode cX3_seekRow 88 = .ok (.if_icmp .gt 14, 3) := by decide +kernel
theorem dX3_seekRow_91 : decode cX3_seekRow 91 = .ok (.aload_n 0, 1) := by decide +kernel
theorem dX3_seekRow_92 : decode cX3_seekRow 92 = .ok (.iload_n 1, 1) := by decide +kernel
theorem dX3_seekRow_93 : decode cX3_seekRow 93 = .ok (.iload_n 2, 1) := by decide +kernel
theorem dX3_seekRow_94 : decode cX3_seekRow 94 = .ok (.iload 5, 2) := by decide +kernel
theorem dX3_seekRow_96 : decode cX3_seekRow 96 = .ok (.iload 4, 2) := by decide +kernel
theorem dX3_seekRow_98 : decode cX3_seekRow 98 = .ok (.iload_n 3, 1) := by decide +kernel
theorem dX3_seekRow_99 : decode cX3_seekRow 99 = .ok (.invokevirtual 109, 3) := by decide +kernel
theorem dX3_seekRow_102 : decode cX3_seekRow 102 = .ok (.iinc 5 1, 3) := by decide +kernel
theorem dX3_seekRow_105 : decode cX3_seekRow 105 = .ok (.goto (-43), 3) := by decide +kernel
theorem dX3_seekRow_108 : decode cX3_seekRow 108 = .ok (.return_, 1) := by decide +kernel
theorem dX3_seekRowOfLength_0 : decode cX3_seekRowOfLength 0 = .ok (.iconst 0, 1) := by decide +kernel
theorem dX3_seekRowOfLength_1 : decode cX3_seekRowOfLength 1 = .ok (.istore 6, 2) := by decide +kernel
theorem dX3_seekRowOfLength_3 : decode cX3_seekRowOfLength 3 = .ok (.iload 6, 2) := by decide +kernel
theorem dX3_seekRowOfLength_5 : decode cX3_seekRowOfLength 5 = .ok (.iload 4, 2) := by decide +kernel
theorem dX3_seekRowOfLength_7 : decode cX3_seekRowOfLength 7 = .ok (.if_icmp .ge 68, 3) := by decide +kernel
theorem dX3_seekRowOfLength_10 : decode cX3_seekRowOfLength 10 = .ok (.aload_n 0, 1) := by decide +kernel
theorem dX3_seekRowOfLength_11 : decode cX3_seekRowOfLength 11 = .ok (.getfield 38, 3) := by decide +kernel
theorem dX3_seekRowOfLength_14 : decode cX3_seekRowOfLength 14 = .ok (.iload_n 2, 1) := by decide +kernel
theorem dX3_seekRowOfLength_15 : decode cX3_seekRowOfLength 15 = .ok (.if_icmp .ge 60, 3) := by decide +kernel
theorem dX3_seekRowOfLength_18 : decode cX3_seekRowOfLength 18 = .ok (.iload 6, 2) := by decide +kernel
theorem dX3_seekRowOfLength_20 : decode cX3_seekRowOfLength 20 = .ok (.iload_n 3, 1) := by decide +kernel
theorem dX3_seekRowOfLength_21 : decode cX3_seekRowOfLength 21 = .ok (.iload 5, 2) := by decide +kernel
theorem dX3_seekRowOfLength_23 : decode cX3_seekRowOfLength 23 = .ok (.invokestatic 113, 3) := by decide +kernel
theorem dX3_seekRowOfLength_26 : decode cX3_seekRowOfLength 26 = .ok (.ifCond .ne 6, 3) := by decide +kernel
theorem dX3_seekRowOfLength_29 : decode cX3_seekRowOfLength 29 = .ok (.goto 40, 3) := by decide +kernel
theorem dX3_seekRowOfLength_32 : decode cX3_seekRowOfLength 32 = .ok (.aload_n 0, 1) := by decide +kernel
theorem dX3_seekRowOfLength_33 : decode cX3_seekRowOfLength 33 = .ok (.iload_n 1, 1) := by decide +kernel
theorem dX3_seekRowOfLength_34 : decode cX3_seekRowOfLength 34 = .ok (.iload_n 2, 1) := by decide +kernel
theorem dX3_seekRowOfLength_35 : decode cX3_seekRowOfLength 35 = .ok (.iload 6, 2) := by decide +kernel
theorem dX3_seekRowOfLength_37 : decode cX3_seekRowOfLength 37 = .ok (.iload_n 3, 1) := by decide +kernel
theorem dX3_seekRowOfLength_38 : decode cX3_seekRowOfLength 38 = .ok (.invokevirtual 98, 3) := by decide +kernel
theorem dX3_seekRowOfLength_41 : decode cX3_seekRowOfLength 41 = .ok (.istore 7, 2) := by decide +kernel
theorem dX3_seekRowOfLength_43 : decode cX3_seekRowOfLength 43 = .ok (.iload 7, 2) := by decide +kernel
theorem dX3_seekRowOfLength_45 : decode cX3_seekRowOfLength 45 = .ok (.aload_n 0, 1) := by decide +kernel
theorem dX3_seekRowOfLength_46 : decode cX3_seekRowOfLength 46 = .ok (.getfield 38, 3) := by decide +kernel
theorem dX3_seekRowOfLength_49 : decode cX3_seekRowOfLength 49 = .ok (.if_icmp .le 20, 3) := by decide +kernel
theorem dX3_seekRowOfLength_52 : decode cX3_seekRowOfLength 52 = .ok (.aload_n 0, 1) := by decide +kernel
theorem dX3_seekRowOfLength_53 : decode cX3_seekRowOfLength 53 = .ok (.iload 6, 2) := by decide +kernel
theorem dX3_seekRowOfLength_55 : decode cX3_seekRowOfLength 55 = .ok (.putfield 34, 3) := by decide +kernel
theorem dX3_seekRowOfLength_58 : decode cX3_seekRowOfLength 58 = .ok (.aload_n 0, 1) := by decide +kernel
theorem dX3_seekRowOfLength_59 : decode cX3_seekRowOfLength 59 = .ok (.iload_n 3, 1) := by decide +kernel
theorem dX3_seekRowOfLength_60 : decode cX3_seekRowOfLength 60 = .ok (.putfield 41, 3) := by decide +kernel
theorem dX3_seekRowOfLength_63 : decode cX3_seekRowOfLength 63 = .ok (.aload_n 0, 1) := by decide +kernel
theorem dX3_seekRowOfLength_64 : decode cX3_seekRowOfLength 64 = .ok (.iload 7, 2) := by decide +kernel
theorem dX3_seekRowOfLength_66 : decode cX3_seekRowOfLength 66 = .ok (.putfield 38, 3) := by decide +kernel
theorem dX3_seekRowOfLength_69 : decode cX3_seekRowOfLength 69 = .ok (.iinc 6 1, 3) := by decide +kernel
theorem dX3_seekRowOfLength_72 : decode cX3_seekRowOfLength 72 = .ok (.goto (-69), 3) := by decide +kernel
theorem dX3_seekRowOfLength_75 : decode cX3_seekRowOfLength 75 = .ok (.return_, 1) := by decide +kernel
theorem dX3_isOfTens_0 : decode cX3_isOfTens 0 = .ok (.iload_n 2, 1) := by decide +kernel
theorem dX3_isOfTens_1 : decode cX3_isOfTens 1 = .ok (.istore_n 3, 1) := by decide +kernel
theorem dX3_isOfTens_2 : decode cX3_isOfTens 2 = .ok (.iconst 0, 1) := by decide +kernel
theorem dX3_isOfTens_3 : decode cX3_isOfTens 3 = .ok (.istore 4, 2) := by decide +kernel
theorem dX3_isOfTens_5 : decode cX3_isOfTens 5 = .ok (.iload 4, 2) := by decide +kernel
theorem dX3_isOfTens_7 : decode cX3_isOfTens 7 = .ok (.iload_n 1, 1) := by decide +kernel
theorem dX3_isOfTens_8 : decode cX3_isOfTens 8 = .ok (.if_icmp .ge 38, 3) := by decide +kernel
theorem dX3_isOfTens_11 : decode cX3_isOfTens 11 = .ok (.iload_n 0, 1) := by decide +kernel
theorem dX3_isOfTens_12 : decode cX3_isOfTens 12 = .ok (.iload_n 1, 1) := by decide +kernel
theorem dX3_isOfTens_13 : decode cX3_isOfTens 13 = .ok (.iload 4, 2) := by decide +kernel
theorem dX3_isOfTens_15 : decode cX3_isOfTens 15 = .ok (.invokestatic 117, 3) := by decide +kernel
theorem dX3_isOfTens_18 : decode cX3_isOfTens 18 = .ok (.istore 5, 2) := by decide +kernel
theorem dX3_isOfTens_20 : decode cX3_isOfTens 20 = .ok (.iload_n 3, 1) := by decide +kernel
theorem dX3_isOfTens_21 : decode cX3_isOfTens 21 = .ok (.iload 5, 2) := by decide +kernel
theorem dX3_isOfTens_23 : decode cX3_isOfTens 23 = .ok (.ishr, 1) := by decide +kernel
theorem dX3_isOfTens_24 : decode cX3_isOfTens 24 = .ok (.iconst 1, 1) := by decide +kernel
theorem dX3_isOfTens_25 : decode cX3_isOfTens 25 = .ok (.iand, 1) := by decide +kernel
theorem dX3_isOfTens_26 : decode cX3_isOfTens 26 = .ok (.ifCond .ne 5, 3) := by decide +kernel
theorem dX3_isOfTens_29 : decode cX3_isOfTens 29 = .ok (.iconst 0, 1) := by decide +kernel
theorem dX3_isOfTens_30 : decode cX3_isOfTens 30 = .ok (.ireturn, 1) := by decide +kernel
theorem dX3_isOfTens_31 : decode cX3_isOfTens 31 = .ok (.iload_n 3, 1) := by decide +kernel
theorem dX3_isOfTens_32 : decode cX3_isOfTens 32 = .ok (.iconst 1, 1) := by decide +kernel
theorem dX3_isOfTens_33 : decode cX3_isOfTens 33 = .ok (.iload 5, 2) := by decide +kernel
theorem dX3_isOfTens_35 : decode cX3_isOfTens 35 = .ok (.ishl, 1) := by decide +kernel
theorem dX3_isOfTens_36 : decode cX3_isOfTens 36 = .ok (.iconst (-1), 1) := by decide +kernel
theorem dX3_isOfTens_37 : decode cX3_isOfTens 37 = .ok (.ixor, 1) := by decide +kernel
theorem dX3_isOfTens_38 : decode cX3_isOfTens 38 = .ok (.iand, 1) := by decide +kernel
theorem dX3_isOfTens_39 : decode cX3_isOfTens 39 = .ok (.istore_n 3, 1) := by decide +kernel
theorem dX3_isOfTens_40 : decode cX3_isOfTens 40 = .ok (.iinc 4 1, 3) := by decide +kernel
theorem dX3_isOfTens_43 : decode cX3_isOfTens 43 = .ok (.goto (-38), 3) := by decide +kernel
theorem dX3_isOfTens_46 : decode cX3_isOfTens 46 = .ok (.iconst 1, 1) := by decide +kernel
theorem dX3_isOfTens_47 : decode cX3_isOfTens 47 = .ok (.ireturn, 1) := by decide +kernel
theorem dX3_tenOfRow_0 : decode cX3_tenOfRow 0 = .ok (.iload_n 0, 1) := by decide +kernel
theorem dX3_tenOfRow_1 : decode cX3_tenOfRow 1 = .ok (.istore_n 3, 1) := by decide +kernel
theorem dX3_tenOfRow_2 : decode cX3_tenOfRow 2 = .ok (.iload_n 1, 1) := by decide +kernel
theorem dX3_tenOfRow_3 : decode cX3_tenOfRow 3 = .ok (.iconst 1, 1) := by decide +kernel
theorem dX3_tenOfRow_4 : decode cX3_tenOfRow 4 = .ok (.isub, 1) := by decide +kernel
theorem dX3_tenOfRow_5 : decode cX3_tenOfRow 5 = .ok (.istore 4, 2) := by decide +kernel
theorem dX3_tenOfRow_7 : decode cX3_tenOfRow 7 = .ok (.iload 4, 2) := by decide +kernel
theorem dX3_tenOfRow_9 : decode cX3_tenOfRow 9 = .ok (.iload_n 2, 1) := by decide +kernel
theorem dX3_tenOfRow_10 : decode cX3_tenOfRow 10 = .ok (.if_icmp .le 14, 3) := by decide +kernel
theorem dX3_tenOfRow_13 : decode cX3_tenOfRow 13 = .ok (.iload_n 3, 1) := by decide +kernel
theorem dX3_tenOfRow_14 : decode cX3_tenOfRow 14 = .ok (.bipush 10, 2) := by decide +kernel
theorem dX3_tenOfRow_16 : decode cX3_tenOfRow 16 = .ok (.idiv, 1) := by decide +kernel
theorem dX3_tenOfRow_17 : decode cX3_tenOfRow 17 = .ok (.istore_n 3, 1) := by decide +kernel
theorem dX3_tenOfRow_18 : decode cX3_tenOfRow 18 = .ok (.iinc 4 (-1), 3) := by decide +kernel
theorem dX3_tenOfRow_21 : decode cX3_tenOfRow 21 = .ok (.goto (-14), 3) := by decide +kernel
theorem dX3_tenOfRow_24 : decode cX3_tenOfRow 24 = .ok (.iload_n 3, 1) := by decide +kernel
theorem dX3_tenOfRow_25 : decode cX3_tenOfRow 25 = .ok (.bipush 10, 2) := by decide +kernel
theorem dX3_tenOfRow_27 : decode cX3_tenOfRow 27 = .ok (.irem, 1) := by decide +kernel
theorem dX3_tenOfRow_28 : decode cX3_tenOfRow 28 = .ok (.ireturn, 1) := by decide +kernel
theorem dX3_foreseeOthers_0 : decode cX3_foreseeOthers 0 = .ok (.aload_n 0, 1) := by decide +kernel
theorem dX3_foreseeOthers_1 : decode cX3_foreseeOthers 1 = .ok (.getfield 15, 3) := by decide +kernel
theorem dX3_foreseeOthers_4 : decode cX3_foreseeOthers 4 = .ok (.aload_n 0, 1) := by decide +kernel
theorem dX3_foreseeOthers_5 : decode cX3_foreseeOthers 5 = .ok (.getfield 9, 3) := by decide +kernel
theorem dX3_foreseeOthers_8 : decode cX3_foreseeOthers 8 = .ok (.invokevirtual 50, 3) := by decide +kernel
theorem dX3_foreseeOthers_11 : decode cX3_foreseeOthers 11 = .ok (.iconst 0, 1) := by decide +kernel
theorem dX3_foreseeOthers_12 : decode cX3_foreseeOthers 12 = .ok (.istore_n 3, 1) := by decide +kernel
theorem dX3_foreseeOthers_13 : decode cX3_foreseeOthers 13 = .ok (.iload_n 3, 1) := by decide +kernel
theorem dX3_foreseeOthers_14 : decode cX3_foreseeOthers 14 = .ok (.iload_n 2, 1) := by decide +kernel
theorem dX3_foreseeOthers_15 : decode cX3_foreseeOthers 15 = .ok (.if_icmp .ge 109, 3) := by decide +kernel
theorem dX3_foreseeOthers_18 : decode cX3_foreseeOthers 18 = .ok (.iload_n 3, 1) := by decide +kernel
theorem dX3_foreseeOthers_19 : decode cX3_foreseeOthers 19 = .ok (.aload_n 0, 1) := by decide +kernel
theorem dX3_foreseeOthers_20 : decode cX3_foreseeOthers 20 = .ok (.getfield 22, 3) := by decide +kernel
theorem dX3_foreseeOthers_23 : decode cX3_foreseeOthers 23 = .ok (.arraylength, 1) := by decide +kernel
theorem dX3_foreseeOthers_24 : decode cX3_foreseeOthers 24 = .ok (.if_icmp .ge 100, 3) := by decide +kernel
theorem dX3_foreseeOthers_27 : decode cX3_foreseeOthers 27 = .ok (.iload_n 3, 1) := by decide +kernel
theorem dX3_foreseeOthers_28 : decode cX3_foreseeOthers 28 = .ok (.aload_n 0, 1) := by decide +kernel
theorem dX3_foreseeOthers_29 : decode cX3_foreseeOthers 29 = .ok (.getfield 26, 3) := by decide +kernel
theorem dX3_foreseeOthers_32 : decode cX3_foreseeOthers 32 = .ok (.arraylength, 1) := by decide +kernel
theorem dX3_foreseeOthers_33 : decode cX3_foreseeOthers 33 = .ok (.if_icmp .ge 91, 3) := by decide +kernel
theorem dX3_foreseeOthers_36 : decode cX3_foreseeOthers 36 = .ok (.aload_n 0, 1) := by decide +kernel
theorem dX3_foreseeOthers_37 : decode cX3_foreseeOthers 37 = .ok (.getfield 15, 3) := by decide +kernel
theorem dX3_foreseeOthers_40 : decode cX3_foreseeOthers 40 = .ok (.invokevirtual 71, 3) := by decide +kernel
theorem dX3_foreseeOthers_43 : decode cX3_foreseeOthers 43 = .ok (.aload_n 0, 1) := by decide +kernel
theorem dX3_foreseeOthers_44 : decode cX3_foreseeOthers 44 = .ok (.getfield 15, 3) := by decide +kernel
theorem dX3_foreseeOthers_47 : decode cX3_foreseeOthers 47 = .ok (.invokevirtual 74, 3) := by decide +kernel
theorem dX3_foreseeOthers_50 : decode cX3_foreseeOthers 50 = .ok (.istore 4, 2) := by decide +kernel
theorem dX3_foreseeOthers_52 : decode cX3_foreseeOthers 52 = .ok (.aload_n 0, 1) := by decide +kernel
theorem dX3_foreseeOthers_53 : decode cX3_foreseeOthers 53 = .ok (.getfield 22, 3) := by decide +kernel
theorem dX3_foreseeOthers_56 : decode cX3_foreseeOthers 56 = .ok (.iload_n 3, 1) := by decide +kernel
theorem dX3_foreseeOthers_57 : decode cX3_foreseeOthers 57 = .ok (.iload 4, 2) := by decide +kernel
theorem dX3_foreseeOthers_59 : decode cX3_foreseeOthers 59 = .ok (.iconst (-1), 1) := by decide +kernel
theorem dX3_foreseeOthers_60 : decode cX3_foreseeOthers 60 = .ok (.if_icmp .ne 7, 3) := by decide +kernel
theorem dX3_foreseeOthers_63 : decode cX3_foreseeOthers 63 = .ok (.iconst (-1), 1) := by decide +kernel
theorem dX3_foreseeOthers_64 : decode cX3_foreseeOthers 64 = .ok (.goto 20, 3) := by decide +kernel
theorem dX3_foreseeOthers_67 : decode cX3_foreseeOthers 67 = .ok (.aload_n 0, 1) := by decide +kernel
theorem dX3_foreseeOthers_68 : decode cX3_foreseeOthers 68 = .ok (.getfield 15, 3) := by decide +kernel
theorem dX3_foreseeOthers_71 : decode cX3_foreseeOthers 71 = .ok (.iload_n 1, 1) := by decide +kernel
theorem dX3_foreseeOthers_72 : decode cX3_foreseeOthers 72 = .ok (.aload_n 0, 1) := by decide +kernel
theorem dX3_foreseeOthers_73 : decode cX3_foreseeOthers 73 = .ok (.getfield 15, 3) := by decide +kernel
theorem dX3_foreseeOthers_76 : decode cX3_foreseeOthers 76 = .ok (.iload 4, 2) := by decide +kernel
theorem dX3_foreseeOthers_78 : decode cX3_foreseeOthers 78 = .ok (.invokevirtual 121, 3) := by decide +kernel
theorem dX3_foreseeOthers_81 : decode cX3_foreseeOthers 81 = .ok (.invokevirtual 124, 3) := by decide +kernel
theorem dX3_foreseeOthers_84 : decode cX3_foreseeOthers 84 = .ok (.iastore, 1) := by decide +kernel
theorem dX3_foreseeOthers_85 : decode cX3_foreseeOthers 85 = .ok (.aload_n 0, 1) := by decide +kernel
theorem dX3_foreseeOthers_86 : decode cX3_foreseeOthers 86 = .ok (.getfield 26, 3) := by decide +kernel
theorem dX3_foreseeOthers_89 : decode cX3_foreseeOthers 89 = .ok (.iload_n 3, 1) := by decide +kernel
theorem dX3_foreseeOthers_90 : decode cX3_foreseeOthers 90 = .ok (.iload 4, 2) := by decide +kernel
theorem dX3_foreseeOthers_92 : decode cX3_foreseeOthers 92 = .ok (.iconst (-1), 1) := by decide +kernel
theorem dX3_foreseeOthers_93 : decode cX3_foreseeOthers 93 = .ok (.if_icmp .ne 7, 3) := by decide +kernel
theorem dX3_foreseeOthers_96 : decode cX3_foreseeOthers 96 = .ok (.iconst (-1), 1) := by decide +kernel
theorem dX3_foreseeOthers_97 : decode cX3_foreseeOthers 97 = .ok (.goto 20, 3) := by decide +kernel
theorem dX3_foreseeOthers_100 : decode cX3_foreseeOthers 100 = .ok (.aload_n 0, 1) := by decide +kernel
theorem dX3_foreseeOthers_101 : decode cX3_foreseeOthers 101 = .ok (.getfield 15, 3) := by decide +kernel
theorem dX3_foreseeOthers_104 : decode cX3_foreseeOthers 104 = .ok (.aload_n 0, 1) := by decide +kernel
theorem dX3_foreseeOthers_105 : decode cX3_foreseeOthers 105 = .ok (.getfield 15, 3) := by decide +kernel
theorem dX3_foreseeOthers_108 : decode cX3_foreseeOthers 108 = .ok (.iload 4, 2) := by decide +kernel
theorem dX3_foreseeOthers_110 : decode cX3_foreseeOthers 110 = .ok (.invokevirtual 121, 3) := by decide +kernel
theorem dX3_foreseeOthers_113 : decode cX3_foreseeOthers 113 = .ok (.iload_n 1, 1) := by decide +kernel
theorem dX3_foreseeOthers_114 : decode cX3_foreseeOthers 114 = .ok (.invokevirtual 127, 3) := by decide +kernel
theorem dX3_foreseeOthers_117 : decode cX3_foreseeOthers 117 = .ok (.iastore, 1) := by decide +kernel
theorem dX3_foreseeOthers_118 : decode cX3_foreseeOthers 118 = .ok (.iinc 3 1, 3) := by decide +kernel
theorem dX3_foreseeOthers_121 : decode cX3_foreseeOthers 121 = .ok (.goto (-108), 3) := by decide +kernel
theorem dX3_foreseeOthers_124 : decode cX3_foreseeOthers 124 = .ok (.return_, 1) := by decide +kernel
theorem dX3_monthsByRow_0 : decode cX3_monthsByRow 0 = .ok (.aload_n 0, 1) := by decide +kernel
theorem dX3_monthsByRow_1 : decode cX3_monthsByRow 1 = .ok (.getfield 9, 3) := by decide +kernel
theorem dX3_monthsByRow_4 : decode cX3_monthsByRow 4 = .ok (.iload_n 1, 1) := by decide +kernel
theorem dX3_monthsByRow_5 : decode cX3_monthsByRow 5 = .ok (.invokevirtual 102, 3) := by decide +kernel
theorem dX3_monthsByRow_8 : decode cX3_monthsByRow 8 = .ok (.istore 5, 2) := by decide +kernel
theorem dX3_monthsByRow_10 : decode cX3_monthsByRow 10 = .ok (.aload_n 0, 1) := by decide +kernel
theorem dX3_monthsByRow_11 : decode cX3_monthsByRow 11 = .ok (.getfield 9, 3) := by decide +kernel
theorem dX3_monthsByRow_14 : decode cX3_monthsByRow 14 = .ok (.iload_n 1, 1) := by decide +kernel
theorem dX3_monthsByRow_15 : decode cX3_monthsByRow 15 = .ok (.iconst 4, 1) := by decide +kernel
theorem dX3_monthsByRow_16 : decode cX3_monthsByRow 16 = .ok (.invokevirtual 105, 3) := by decide +kernel
theorem dX3_monthsByRow_19 : decode cX3_monthsByRow 19 = .ok (.istore 6, 2) := by decide +kernel
theorem dX3_monthsByRow_21 : decode cX3_monthsByRow 21 = .ok (.aload_n 0, 1) := by decide +kernel
theorem dX3_monthsByRow_22 : decode cX3_monthsByRow 22 = .ok (.getfield 9, 3) := by decide +kernel
theorem dX3_monthsByRow_25 : decode cX3_monthsByRow 25 = .ok (.bipush 92, 2) := by decide +kernel
theorem dX3_monthsByRow_27 : decode cX3_monthsByRow 27 = .ok (.invokevirtual 88, 3) := by decide +kernel
theorem dX3_monthsByRow_30 : decode cX3_monthsByRow 30 = .ok (.aload_n 0, 1) := by decide +kernel
theorem dX3_monthsByRow_31 : decode cX3_monthsByRow 31 = .ok (.getfield 9, 3) := by decide +kernel
theorem dX3_monthsByRow_34 : decode cX3_monthsByRow 34 = .ok (.iload_n 1, 1) := by decide +kernel
theorem dX3_monthsByRow_35 : decode cX3_monthsByRow 35 = .ok (.iconst 0, 1) := by decide +kernel
theorem dX3_monthsByRow_36 : decode cX3_monthsByRow 36 = .ok (.invokevirtual 105, 3) := by decide +kernel
theorem dX3_monthsByRow_39 : decode cX3_monthsByRow 39 = .ok (.isub, 1) := by decide +kernel
theorem dX3_monthsByRow_40 : decode cX3_monthsByRow 40 = .ok (.istore 7, 2) := by decide +kernel
theorem dX3_monthsByRow_42 : decode cX3_monthsByRow 42 = .ok (.aload_n 0, 1) := by decide +kernel
theorem dX3_monthsByRow_43 : decode cX3_monthsByRow 43 = .ok (.getfield 9, 3) := by decide +kernel
theorem dX3_monthsByRow_46 : decode cX3_monthsByRow 46 = .ok (.invokevirtual 58, 3) := by decide +kernel
theorem dX3_monthsByRow_49 : decode cX3_monthsByRow 49 = .ok (.istore 8, 2) := by decide +kernel
theorem dX3_monthsByRow_51 : decode cX3_monthsByRow 51 = .ok (.iconst 0, 1) := by decide +kernel
theorem dX3_monthsByRow_52 : decode cX3_monthsByRow 52 = .ok (.istore 9, 2) := by decide +kernel
theorem dX3_monthsByRow_54 : decode cX3_monthsByRow 54 = .ok (.iconst 0, 1) := by decide +kernel
theorem dX3_monthsByRow_55 : decode cX3_monthsByRow 55 = .ok (.istore 10, 2) := by decide +kernel
theorem dX3_monthsByRow_57 : decode cX3_monthsByRow 57 = .ok (.iconst 0, 1) := by decide +kernel
theorem dX3_monthsByRow_58 : decode cX3_monthsByRow 58 = .ok (.istore 11, 2) := by decide +kernel
theorem dX3_monthsByRow_60 : decode cX3_monthsByRow 60 = .ok (.iload 11, 2) := by decide +kernel
theorem dX3_monthsByRow_62 : decode cX3_monthsByRow 62 = .ok (.iload_n 2, 1) := by decide +kernel
theorem dX3_monthsByRow_63 : decode cX3_monthsByRow 63 = .ok (.if_icmp .ge 179, 3) := by decide +kernel
theorem dX3_monthsByRow_66 : decode cX3_monthsByRow 66 = .ok (.iload 11, 2) := by decide +kernel
theorem dX3_monthsByRow_68 : decode cX3_monthsByRow 68 = .ok (.aload_n 0, 1) := by decide +kernel
theorem dX3_monthsByRow_69 : decode cX3_monthsByRow 69 = .ok (.getfield 22, 3) := by decide +kernel
theorem dX3_monthsByRow_72 : decode cX3_monthsByRow 72 = .ok (.arraylength, 1) := by decide +kernel
theorem dX3_monthsByRow_73 : decode cX3_monthsByRow 73 = .ok (.if_icmp .ge 169, 3) := by decide +kernel
theorem dX3_monthsByRow_76 : decode cX3_monthsByRow 76 = .ok (.iload 11, 2) := by decide +kernel
theorem dX3_monthsByRow_78 : decode cX3_monthsByRow 78 = .ok (.aload_n 0, 1) := by decide +kernel
theorem dX3_monthsByRow_79 : decode cX3_monthsByRow 79 = .ok (.getfield 26, 3) := by decide +kernel
theorem dX3_monthsByRow_82 : decode cX3_monthsByRow 82 = .ok (.arraylength, 1) := by decide +kernel
theorem dX3_monthsByRow_83 : decode cX3_monthsByRow 83 = .ok (.if_icmp .ge 159, 3) := by decide +kernel
theorem dX3_monthsByRow_86 : decode cX3_monthsByRow 86 = .ok (.iload 11, 2) := by decide +kernel
theorem dX3_monthsByRow_88 : decode cX3_monthsByRow 88 = .ok (.iconst 1, 1) := by decide +kernel
theorem dX3_monthsByRow_89 : decode cX3_monthsByRow 89 = .ok (.iadd, 1) := by decide +kernel
theorem dX3_monthsByRow_90 : decode cX3_monthsByRow 90 = .ok (.istore 12, 2) := by decide +kernel
theorem dX3_monthsByRow_92 : decode cX3_monthsByRow 92 = .ok (.iload 10, 2) := by decide +kernel
theorem dX3_monthsByRow_94 : decode cX3_monthsByRow 94 = .ok (.iload 4, 2) := by decide +kernel
theorem dX3_monthsByRow_96 : decode cX3_monthsByRow 96 = .ok (.if_icmp .ge 33, 3) := by decide +kernel
theorem dX3_monthsByRow_99 : decode cX3_monthsByRow 99 = .ok (.iload 12, 2) := by decide +kernel
theorem dX3_monthsByRow_101 : decode cX3_monthsByRow 101 = .ok (.iload 6, 2) := by decide +kernel
theorem dX3_monthsByRow_103 : decode cX3_monthsByRow 103 = .ok (.iload 10, 2) := by decide +kernel
theorem dX3_monthsByRow_105 : decode cX3_monthsByRow 105 = .ok (.iconst 1, 1) := by decide +kernel
theorem dX3_monthsByRow_106 : decode cX3_monthsByRow 106 = .ok (.iadd, 1) := by decide +kernel
theorem dX3_monthsByRow_107 : decode cX3_monthsByRow 107 = .ok (.imul, 1) := by decide +kernel
theorem dX3_monthsByRow_108 : decode cX3_monthsByRow 108 = .ok (.if_icmp .ne 21, 3) := by decide +kernel
theorem dX3_monthsByRow_111 : decode cX3_monthsByRow 111 = .ok (.iload 5, 2) := by decide +kernel
theorem dX3_monthsByRow_113 : decode cX3_monthsByRow 113 = .ok (.iconst 1, 1) := by decide +kernel
theorem dX3_monthsByRow_114 : decode cX3_monthsByRow 114 = .ok (.iload_n 3, 1) := by decide +kernel
theorem dX3_monthsByRow_115 : decode cX3_monthsByRow 115 = .ok (.iload 4, 2) := by decide +kernel
theorem dX3_monthsByRow_117 : decode cX3_monthsByRow 117 = .ok (.iload 10, 2) := by decide +kernel
theorem dX3_monthsByRow_119 : decode cX3_monthsByRow 119 = .ok (.invokestatic 117, 3) := by decide +kernel
theorem dX3_monthsByRow_122 : decode cX3_monthsByRow 122 = .ok (.ishl, 1) := by decide +kernel
theorem dX3_monthsByRow_123 : decode cX3_monthsByRow 123 = .ok (.ior, 1) := by decide +kernel
theorem dX3_monthsByRow_124 : decode cX3_monthsByRow 124 = .ok (.istore 5, 2) := by decide +kernel
theorem dX3_monthsByRow_126 : decode cX3_monthsByRow 126 = .ok (.iinc 10 1, 3) := by decide +kernel
theorem dX3_monthsByRow_129 : decode cX3_monthsByRow 129 = .ok (.aload_n 0, 1) := by decide +kernel
theorem dX3_monthsByRow_130 : decode cX3_monthsByRow 130 = .ok (.getfield 26, 3) := by decide +kernel
theorem dX3_monthsByRow_133 : decode cX3_monthsByRow 133 = .ok (.iload 11, 2) := by decide +kernel
theorem dX3_monthsByRow_135 : decode cX3_monthsByRow 135 = .ok (.iaload, 1) := by decide +kernel
theorem dX3_monthsByRow_136 : decode cX3_monthsByRow 136 = .ok (.istore 13, 2) := by decide +kernel
theorem dX3_monthsByRow_138 : decode cX3_monthsByRow 138 = .ok (.aload_n 0, 1) := by decide +kernel
theorem dX3_monthsByRow_139 : decode cX3_monthsByRow 139 = .ok (.getfield 22, 3) := by decide +kernel
theorem dX3_monthsByRow_142 : decode cX3_monthsByRow 142 = .ok (.iload 11, 2) := by decide +kernel
theorem dX3_monthsByRow_144 : decode cX3_monthsByRow 144 = .ok (.iaload, 1) := by decide +kernel
theorem dX3_monthsByRow_145 : decode cX3_monthsByRow 145 = .ok (.iconst (-1), 1) := by decide +kernel
theorem dX3_monthsByRow_146 : decode cX3_monthsByRow 146 = .ok (.if_icmp .eq 29, 3) := by decide +kernel
theorem dX3_monthsByRow_149 : decode cX3_monthsByRow 149 = .ok (.aload_n 0, 1) := by decide +kernel
theorem dX3_monthsByRow_150 : decode cX3_monthsByRow 150 = .ok (.getfield 22, 3) := by decide +kernel
theorem dX3_monthsByRow_153 : decode cX3_monthsByRow 153 = .ok (.iload 11, 2) := by decide +kernel
theorem dX3_monthsByRow_155 : decode cX3_monthsByRow 155 = .ok (.iaload, 1) := by decide +kernel
theorem dX3_monthsByRow_156 : decode cX3_monthsByRow 156 = .ok (.iload 5, 2) := by decide +kernel
theorem dX3_monthsByRow_158 : decode cX3_monthsByRow 158 = .ok (.iconst (-1), 1) := by decide +kernel
theorem dX3_monthsByRow_159 : decode cX3_monthsByRow 159 = .ok (.ixor, 1) := by decide +kernel
theorem dX3_monthsByRow_160 : decode cX3_monthsByRow 160 = .ok (.iand, 1) := by decide +kernel
theorem dX3_monthsByRow_161 : decode cX3_monthsByRow 161 = .ok (.ifCond .ne 14, 3) := by decide +kernel
theorem dX3_monthsByRow_164 : decode cX3_monthsByRow 164 = .ok (.iload 12, 2) := by decide +kernel
theorem dX3_monthsByRow_166 : decode cX3_monthsByRow 166 = .ok (.iload 7, 2) := by decide +kernel
theorem dX3_monthsByRow_168 : decode cX3_monthsByRow 168 = .ok (.if_icmp .ge 7, 3) := by decide +kernel
theorem dX3_monthsByRow_171 : decode cX3_monthsByRow 171 = .ok (.iconst 1, 1) := by decide +kernel
theorem dX3_monthsByRow_172 : decode cX3_monthsByRow 172 = .ok (.goto 4, 3) := by decide +kernel
theorem dX3_monthsByRow_175 : decode cX3_monthsByRow 175 = .ok (.iconst 0, 1) := by decide +kernel
theorem dX3_monthsByRow_176 : decode cX3_monthsByRow 176 = .ok (.istore 14, 2) := by decide +kernel
theorem dX3_monthsByRow_178 : decode cX3_monthsByRow 178 = .ok (.iload 14, 2) := by decide +kernel
theorem dX3_monthsByRow_180 : decode cX3_monthsByRow 180 = .ok (.ifCond .eq 25, 3) := by decide +kernel
theorem dX3_monthsByRow_183 : decode cX3_monthsByRow 183 = .ok (.iload 13, 2) := by decide +kernel
theorem dX3_monthsByRow_185 : decode cX3_monthsByRow 185 = .ok (.iconst (-1), 1) := by decide +kernel
theorem dX3_monthsByRow_186 : decode cX3_monthsByRow 186 = .ok (.if_icmp .eq 16, 3) := by decide +kernel
theorem dX3_monthsByRow_189 : decode cX3_monthsByRow 189 = .ok (.aload_n 0, 1) := by decide +kernel
theorem dX3_monthsByRow_190 : decode cX3_monthsByRow 190 = .ok (.getfield 9, 3) := by decide +kernel
theorem dX3_monthsByRow_193 : decode cX3_monthsByRow 193 = .ok (.iload_n 1, 1) := by decide +kernel
theorem dX3_monthsByRow_194 : decode cX3_monthsByRow 194 = .ok (.iload 13, 2) := by decide +kernel
theorem dX3_monthsByRow_196 : decode cX3_monthsByRow 196 = .ok (.invokevirtual 130, 3) := by decide +kernel
theorem dX3_monthsByRow_199 : decode cX3_monthsByRow 199 = .ok (.ifCond .eq 6, 3) := by decide +kernel
theorem dX3_monthsByRow_202 : decode cX3_monthsByRow 202 = .ok (.iload_n 1, 1) := by decide +kernel
theorem dX3_monthsByRow_203 : decode cX3_monthsByRow 203 = .ok (.istore 13, 2) := by decide +kernel
theorem dX3_monthsByRow_205 : decode cX3_monthsByRow 205 = .ok (.aload_n 0, 1) := by decide +kernel
theorem dX3_monthsByRow_206 : decode cX3_monthsByRow 206 = .ok (.getfield 9, 3) := by decide +kernel
theorem dX3_monthsByRow_209 : decode cX3_monthsByRow 209 = .ok (.iload 8, 2) := by decide +kernel
theorem dX3_monthsByRow_211 : decode cX3_monthsByRow 211 = .ok (.iload 13, 2) := by decide +kernel
theorem dX3_monthsByRow_213 : decode cX3_monthsByRow 213 = .ok (.iload 12, 2) := by decide +kernel
theorem dX3_monthsByRow_215 : decode cX3_monthsByRow 215 = .ok (.invokevirtual 133, 3) := by decide +kernel
theorem dX3_monthsByRow_218 : decode cX3_monthsByRow 218 = .ok (.istore 8, 2) := by decide +kernel
theorem dX3_monthsByRow_220 : decode cX3_monthsByRow 220 = .ok (.iload 9, 2) := by decide +kernel
theorem dX3_monthsByRow_222 : decode cX3_monthsByRow 222 = .ok (.iload 8, 2) := by decide +kernel
theorem dX3_monthsByRow_224 : decode cX3_monthsByRow 224 = .ok (.iload_n 1, 1) := by decide +kernel
theorem dX3_monthsByRow_225 : decode cX3_monthsByRow 225 = .ok (.if_icmp .ne 7, 3) := by decide +kernel
theorem dX3_monthsByRow_228 : decode cX3_monthsByRow 228 = .ok (.iconst 1, 1) := by decide +kernel
theorem dX3_monthsByRow_229 : decode cX3_monthsByRow 229 = .ok (.goto 4, 3) := by decide +kernel
theorem dX3_monthsByRow_232 : decode cX3_monthsByRow 232 = .ok (.iconst 0, 1) := by decide +kernel
theorem dX3_monthsByRow_233 : decode cX3_monthsByRow 233 = .ok (.iadd, 1) := by decide +kernel
theorem dX3_monthsByRow_234 : decode cX3_monthsByRow 234 = .ok (.istore 9, 2) := by decide +kernel
theorem dX3_monthsByRow_236 : decode cX3_monthsByRow 236 = .ok (.iinc 11 1, 3) := by decide +kernel
theorem dX3_monthsByRow_239 : decode cX3_monthsByRow 239 = .ok (.goto (-179), 3) := by decide +kernel
theorem dX3_monthsByRow_242 : decode cX3_monthsByRow 242 = .ok (.iload 9, 2) := by decide +kernel
theorem dX3_monthsByRow_244 : decode cX3_monthsByRow 244 = .ok (.ireturn, 1) := by decide +kernel
theorem dX3_fewestKept_0 : decode cX3_fewestKept 0 = .ok (.aload_n 0, 1) := by decide +kernel
theorem dX3_fewestKept_1 : decode cX3_fewestKept 1 = .ok (.iload_n 1, 1) := by decide +kernel
theorem dX3_fewestKept_2 : decode cX3_fewestKept 2 = .ok (.iload_n 2, 1) := by decide +kernel
theorem dX3_fewestKept_3 : decode cX3_fewestKept 3 = .ok (.invokevirtual 136, 3) := by decide +kernel
theorem dX3_fewestKept_6 : decode cX3_fewestKept 6 = .ok (.istore 4, 2) := by decide +kernel
theorem dX3_fewestKept_8 : decode cX3_fewestKept 8 = .ok (.iconst (-1), 1) := by decide +kernel
theorem dX3_fewestKept_9 : decode cX3_fewestKept 9 = .ok (.istore 5, 2) := by decide +kernel
theorem dX3_fewestKept_11 : decode cX3_fewestKept 11 = .ok (.iconst 0, 1) := by decide +kernel
theorem dX3_fewestKept_12 : decode cX3_fewestKept 12 = .ok (.istore 6, 2) := by decide +kernel
theorem dX3_fewestKept_14 : decode cX3_fewestKept 14 = .ok (.iload 6, 2) := by decide +kernel
theorem dX3_fewestKept_16 : decode cX3_fewestKept 16 = .ok (.iload 4, 2) := by decide +kernel
theorem dX3_fewestKept_18 : decode cX3_fewestKept 18 = .ok (.if_icmp .gt 66, 3) := by decide +kernel
theorem dX3_fewestKept_21 : decode cX3_fewestKept 21 = .ok (.iload 5, 2) := by decide +kernel
theorem dX3_fewestKept_23 : decode cX3_fewestKept 23 = .ok (.iconst (-1), 1) := by decide +kernel
theorem dX3_fewestKept_24 : decode cX3_fewestKept 24 = .ok (.if_icmp .eq 16, 3) := by decide +kernel
theorem dX3_fewestKept_27 : decode cX3_fewestKept 27 = .ok (.iload 6, 2) := by decide +kernel
theorem dX3_fewestKept_29 : decode cX3_fewestKept 29 = .ok (.invokestatic 139, 3) := by decide +kernel
theorem dX3_fewestKept_32 : decode cX3_fewestKept 32 = .ok (.iload 5, 2) := by decide +kernel
theorem dX3_fewestKept_34 : decode cX3_fewestKept 34 = .ok (.invokestatic 139, 3) := by decide +kernel
theorem dX3_fewestKept_37 : decode cX3_fewestKept 37 = .ok (.if_icmp .ge 7, 3) := by decide +kernel
theorem dX3_fewestKept_40 : decode cX3_fewestKept 40 = .ok (.iconst 1, 1) := by decide +kernel
theorem dX3_fewestKept_41 : decode cX3_fewestKept 41 = .ok (.goto 4, 3) := by decide +kernel
theorem dX3_fewestKept_44 : decode cX3_fewestKept 44 = .ok (.iconst 0, 1) := by decide +kernel
theorem dX3_fewestKept_45 : decode cX3_fewestKept 45 = .ok (.istore 7, 2) := by decide +kernel
theorem dX3_fewestKept_47 : decode cX3_fewestKept 47 = .ok (.iload 6, 2) := by decide +kernel
theorem dX3_fewestKept_49 : decode cX3_fewestKept 49 = .ok (.iload 4, 2) := by decide +kernel
theorem dX3_fewestKept_51 : decode cX3_fewestKept 51 = .ok (.iconst (-1), 1) := by decide +kernel
theorem dX3_fewestKept_52 : decode cX3_fewestKept 52 = .ok (.ixor, 1) := by decide +kernel
theorem dX3_fewestKept_53 : decode cX3_fewestKept 53 = .ok (.iand, 1) := by decide +kernel
theorem dX3_fewestKept_54 : decode cX3_fewestKept 54 = .ok (.ifCond .ne 24, 3) := by decide +kernel
theorem dX3_fewestKept_57 : decode cX3_fewestKept 57 = .ok (.iload 7, 2) := by decide +kernel
theorem dX3_fewestKept_59 : decode cX3_fewestKept 59 = .ok (.ifCond .eq 19, 3) := by decide +kernel
theorem dX3_fewestKept_62 : decode cX3_fewestKept 62 = .ok (.aload_n 0, 1) := by decide +kernel
theorem dX3_fewestKept_63 : decode cX3_fewestKept 63 = .ok (.iload_n 1, 1) := by decide +kernel
theorem dX3_fewestKept_64 : decode cX3_fewestKept 64 = .ok (.iload_n 2, 1) := by decide +kernel
theorem dX3_fewestKept_65 : decode cX3_fewestKept 65 = .ok (.iload 6, 2) := by decide +kernel
theorem dX3_fewestKept_67 : decode cX3_fewestKept 67 = .ok (.iload_n 3, 1) := by decide +kernel
theorem dX3_fewestKept_68 : decode cX3_fewestKept 68 = .ok (.invokevirtual 144, 3) := by decide +kernel
theorem dX3_fewestKept_71 : decode cX3_fewestKept 71 = .ok (.ifCond .eq 7, 3) := by decide +kernel
theorem dX3_fewestKept_74 : decode cX3_fewestKept 74 = .ok (.iload 6, 2) := by decide +kernel
theorem dX3_fewestKept_76 : decode cX3_fewestKept 76 = .ok (.istore 5, 2) := by decide +kernel
theorem dX3_fewestKept_78 : decode cX3_fewestKept 78 = .ok (.iinc 6 1, 3) := by decide +kernel
theorem dX3_fewestKept_81 : decode cX3_fewestKept 81 = .ok (.goto (-67), 3) := by decide +kernel
theorem dX3_fewestKept_84 : decode cX3_fewestKept 84 = .ok (.iload 5, 2) := by decide +kernel
theorem dX3_fewestKept_86 : decode cX3_fewestKept 86 = .ok (.ireturn, 1) := by decide +kernel
theorem dX3_othersLearning_0 : decode cX3_othersLearning 0 = .ok (.iconst 0, 1) := by decide +kernel
theorem dX3_othersLearning_1 : decode cX3_othersLearning 1 = .ok (.istore_n 3, 1) := by decide +kernel
theorem dX3_othersLearning_2 : decode cX3_othersLearning 2 = .ok (.iconst 0, 1) := by decide +kernel
theorem dX3_othersLearning_3 : decode cX3_othersLearning 3 = .ok (.istore 4, 2) := by decide +kernel
theorem dX3_othersLearning_5 : decode cX3_othersLearning 5 = .ok (.iload 4, 2) := by decide +kernel
theorem dX3_othersLearning_7 : decode cX3_othersLearning 7 = .ok (.aload_n 0, 1) := by decide +kernel
theorem dX3_othersLearning_8 : decode cX3_othersLearning 8 = .ok (.getfield 9, 3) := by decide +kernel
theorem dX3_othersLearning_11 : decode cX3_othersLearning 11 = .ok (.invokevirtual 148, 3) := by decide +kernel
theorem dX3_othersLearning_14 : decode cX3_othersLearning 14 = .ok (.if_icmp .ge 37, 3) := by decide +kernel
theorem dX3_othersLearning_17 : decode cX3_othersLearning 17 = .ok (.iload 4, 2) := by decide +kernel
theorem dX3_othersLearning_19 : decode cX3_othersLearning 19 = .ok (.iload_n 1, 1) := by decide +kernel
theorem dX3_othersLearning_20 : decode cX3_othersLearning 20 = .ok (.if_icmp .eq 25, 3) := by decide +kernel
theorem dX3_othersLearning_23 : decode cX3_othersLearning 23 = .ok (.aload_n 0, 1) := by decide +kernel
theorem dX3_othersLearning_24 : decode cX3_othersLearning 24 = .ok (.getfield 9, 3) := by decide +kernel
theorem dX3_othersLearning_27 : decode cX3_othersLearning 27 = .ok (.iload 4, 2) := by decide +kernel
theorem dX3_othersLearning_29 : decode cX3_othersLearning 29 = .ok (.bipush 6, 2) := by decide +kernel
theorem dX3_othersLearning_31 : decode cX3_othersLearning 31 = .ok (.invokevirtual 105, 3) := by decide +kernel
theorem dX3_othersLearning_34 : decode cX3_othersLearning 34 = .ok (.iload_n 2, 1) := by decide +kernel
theorem dX3_othersLearning_35 : decode cX3_othersLearning 35 = .ok (.if_icmp .ne 10, 3) := by decide +kernel
theorem dX3_othersLearning_38 : decode cX3_othersLearning 38 = .ok (.iload_n 3, 1) := by decide +kernel
theorem dX3_othersLearning_39 : decode cX3_othersLearning 39 = .ok (.iconst 1, 1) := by decide +kernel
theorem dX3_othersLearning_40 : decode cX3_othersLearning 40 = .ok (.iload 4, 2) := by decide +kernel
theorem dX3_othersLearning_42 : decode cX3_othersLearning 42 = .ok (.ishl, 1) := by decide +kernel
theorem dX3_othersLearning_43 : decode cX3_othersLearning 43 = .ok (.ior, 1) := by decide +kernel
theorem dX3_othersLearning_44 : decode cX3_othersLearning 44 = .ok (.istore_n 3, 1) := by decide +kernel
theorem dX3_othersLearning_45 : decode cX3_othersLearning 45 = .ok (.iinc 4 1, 3) := by decide +kernel
theorem dX3_othersLearning_48 : decode cX3_othersLearning 48 = .ok (.goto (-43), 3) := by decide +kernel
theorem dX3_othersLearning_51 : decode cX3_othersLearning 51 = .ok (.iload_n 3, 1) := by decide +kernel
theorem dX3_othersLearning_52 : decode cX3_othersLearning 52 = .ok (.ireturn, 1) := by decide +kernel
theorem dX3_rulesAll_0 : decode cX3_rulesAll 0 = .ok (.aload_n 0, 1) := by decide +kernel
theorem dX3_rulesAll_1 : decode cX3_rulesAll 1 = .ok (.getfield 15, 3) := by decide +kernel
theorem dX3_rulesAll_4 : decode cX3_rulesAll 4 = .ok (.aload_n 0, 1) := by decide +kernel
theorem dX3_rulesAll_5 : decode cX3_rulesAll 5 = .ok (.getfield 9, 3) := by decide +kernel
theorem dX3_rulesAll_8 : decode cX3_rulesAll 8 = .ok (.invokevirtual 50, 3) := by decide +kernel
theorem dX3_rulesAll_11 : decode cX3_rulesAll 11 = .ok (.iconst 0, 1) := by decide +kernel
theorem dX3_rulesAll_12 : decode cX3_rulesAll 12 = .ok (.istore 5, 2) := by decide +kernel
theorem dX3_rulesAll_14 : decode cX3_rulesAll 14 = .ok (.iload 5, 2) := by decide +kernel
theorem dX3_rulesAll_16 : decode cX3_rulesAll 16 = .ok (.aload_n 0, 1) := by decide +kernel
theorem dX3_rulesAll_17 : decode cX3_rulesAll 17 = .ok (.getfield 9, 3) := by decide +kernel
theorem dX3_rulesAll_20 : decode cX3_rulesAll 20 = .ok (.invokevirtual 148, 3) := by decide +kernel
theorem dX3_rulesAll_23 : decode cX3_rulesAll 23 = .ok (.if_icmp .ge 29, 3) := by decide +kernel
theorem dX3_rulesAll_26 : decode cX3_rulesAll 26 = .ok (.iload_n 3, 1) := by decide +kernel
theorem dX3_rulesAll_27 : decode cX3_rulesAll 27 = .ok (.iload 5, 2) := by decide +kernel
theorem dX3_rulesAll_29 : decode cX3_rulesAll 29 = .ok (.ishr, 1) := by decide +kernel
theorem dX3_rulesAll_30 : decode cX3_rulesAll 30 = .ok (.iconst 1, 1) := by decide +kernel
theorem dX3_rulesAll_31 : decode cX3_rulesAll 31 = .ok (.iand, 1) := by decide +kernel
theorem dX3_rulesAll_32 : decode cX3_rulesAll 32 = .ok (.ifCond .eq 14, 3) := by decide +kernel
theorem dX3_rulesAll_35 : decode cX3_rulesAll 35 = .ok (.aload_n 0, 1) := by decide +kernel
theorem dX3_rulesAll_36 : decode cX3_rulesAll 36 = .ok (.getfield 15, 3) := by decide +kernel
theorem dX3_rulesAll_39 : decode cX3_rulesAll 39 = .ok (.iload 5, 2) := by decide +kernel
theorem dX3_rulesAll_41 : decode cX3_rulesAll 41 = .ok (.iload_n 2, 1) := by decide +kernel
theorem dX3_rulesAll_42 : decode cX3_rulesAll 42 = .ok (.iconst 1, 1) := by decide +kernel
theorem dX3_rulesAll_43 : decode cX3_rulesAll 43 = .ok (.invokevirtual 151, 3) := by decide +kernel
theorem dX3_rulesAll_46 : decode cX3_rulesAll 46 = .ok (.iinc 5 1, 3) := by decide +kernel
theorem dX3_rulesAll_49 : decode cX3_rulesAll 49 = .ok (.goto (-35), 3) := by decide +kernel
theorem dX3_rulesAll_52 : decode cX3_rulesAll 52 = .ok (.iconst 0, 1) := by decide +kernel
theorem dX3_rulesAll_53 : decode cX3_rulesAll 53 = .ok (.istore 5, 2) := by decide +kernel
theorem dX3_rulesAll_55 : decode cX3_rulesAll 55 = .ok (.iload 5, 2) := by decide +kernel
theorem dX3_rulesAll_57 : decode cX3_rulesAll 57 = .ok (.iload 4, 2) := by decide +kernel
theorem dX3_rulesAll_59 : decode cX3_rulesAll 59 = .ok (.if_icmp .ge 19, 3) := by decide +kernel
theorem dX3_rulesAll_62 : decode cX3_rulesAll 62 = .ok (.aload_n 0, 1) := by decide +kernel
theorem dX3_rulesAll_63 : decode cX3_rulesAll 63 = .ok (.invokevirtual 54, 3) := by decide +kernel
theorem dX3_rulesAll_66 : decode cX3_rulesAll 66 = .ok (.iload_n 1, 1) := by decide +kernel
theorem dX3_rulesAll_67 : decode cX3_rulesAll 67 = .ok (.if_icmp .eq 5, 3) := by decide +kernel
theorem dX3_rulesAll_70 : decode cX3_rulesAll 70 = .ok (.iconst 0, 1) := by decide +kernel
theorem dX3_rulesAll_71 : decode cX3_rulesAll 71 = .ok (.ireturn, 1) := by decide +kernel
theorem dX3_rulesAll_72 : decode cX3_rulesAll 72 = .ok (.iinc 5 1, 3) := by decide +kernel
theorem dX3_rulesAll_75 : decode cX3_rulesAll 75 = .ok (.goto (-20), 3) := by decide +kernel
theorem dX3_rulesAll_78 : decode cX3_rulesAll 78 = .ok (.iconst 1, 1) := by decide +kernel
theorem dX3_rulesAll_79 : decode cX3_rulesAll 79 = .ok (.ireturn, 1) := by decide +kernel
theorem dX3_gain_0 : decode cX3_gain 0 = .ok (.aload_n 0, 1) := by decide +kernel
theorem dX3_gain_1 : decode cX3_gain 1 = .ok (.getfield 15, 3) := by decide +kernel
theorem dX3_gain_4 : decode cX3_gain 4 = .ok (.aload_n 0, 1) := by decide +kernel
theorem dX3_gain_5 : decode cX3_gain 5 = .ok (.getfield 9, 3) := by decide +kernel
theorem dX3_gain_8 : decode cX3_gain 8 = .ok (.invokevirtual 50, 3) := by decide +kernel
theorem dX3_gain_11 : decode cX3_gain 11 = .ok (.aload_n 0, 1) := by decide +kernel
theorem dX3_gain_12 : decode cX3_gain 12 = .ok (.iload_n 1, 1) := by decide +kernel
theorem dX3_gain_13 : decode cX3_gain 13 = .ok (.invokevirtual 155, 3) := by decide +kernel
theorem dX3_gain_16 : decode cX3_gain 16 = .ok (.aload_n 0, 1) := by decide +kernel
theorem dX3_gain_17 : decode cX3_gain 17 = .ok (.iload_n 2, 1) := by decide +kernel
theorem dX3_gain_18 : decode cX3_gain 18 = .ok (.invokevirtual 155, 3) := by decide +kernel
theorem dX3_gain_21 : decode cX3_gain 21 = .ok (.aload_n 0, 1) := by decide +kernel
theorem dX3_gain_22 : decode cX3_gain 22 = .ok (.getfield 9, 3) := by decide +kernel
theorem dX3_gain_25 : decode cX3_gain 25 = .ok (.iload_n 1, 1) := by decide +kernel
theorem dX3_gain_26 : decode cX3_gain 26 = .ok (.iconst 3, 1) := by decide +kernel
theorem dX3_gain_27 : decode cX3_gain 27 = .ok (.invokevirtual 105, 3) := by decide +kernel
theorem dX3_gain_30 : decode cX3_gain 30 = .ok (.istore_n 3, 1) := by decide +kernel
theorem dX3_gain_31 : decode cX3_gain 31 = .ok (.aload_n 0, 1) := by decide +kernel
theorem dX3_gain_32 : decode cX3_gain 32 = .ok (.getfield 9, 3) := by decide +kernel
theorem dX3_gain_35 : decode cX3_gain 35 = .ok (.iload_n 2, 1) := by decide +kernel
theorem dX3_gain_36 : decode cX3_gain 36 = .ok (.iconst 3, 1) := by decide +kernel
theorem dX3_gain_37 : decode cX3_gain 37 = .ok (.invokevirtual 105, 3) := by decide +kernel
theorem dX3_gain_40 : decode cX3_gain 40 = .ok (.istore 4, 2) := by decide +kernel
theorem dX3_gain_42 : decode cX3_gain 42 = .ok (.iconst 0, 1) := by decide +kernel
theorem dX3_gain_43 : decode cX3_gain 43 = .ok (.istore 5, 2) := by decide +kernel
theorem dX3_gain_45 : decode cX3_gain 45 = .ok (.iconst 0, 1) := by decide +kernel
theorem dX3_gain_46 : decode cX3_gain 46 = .ok (.istore 6, 2) := by decide +kernel
theorem dX3_gain_48 : decode cX3_gain 48 = .ok (.iload 6, 2) := by decide +kernel
theorem dX3_gain_50 : decode cX3_gain 50 = .ok (.bipush 12, 2) := by decide +kernel
theorem dX3_gain_52 : decode cX3_gain 52 = .ok (.if_icmp .ge 62, 3) := by decide +kernel
theorem dX3_gain_55 : decode cX3_gain 55 = .ok (.aload_n 0, 1) := by decide +kernel
theorem dX3_gain_56 : decode cX3_gain 56 = .ok (.invokevirtual 54, 3) := by decide +kernel
theorem dX3_gain_59 : decode cX3_gain 59 = .ok (.istore 7, 2) := by decide +kernel
theorem dX3_gain_61 : decode cX3_gain 61 = .ok (.iload 5, 2) := by decide +kernel
theorem dX3_gain_63 : decode cX3_gain 63 = .ok (.aload_n 0, 1) := by decide +kernel
theorem dX3_gain_64 : decode cX3_gain 64 = .ok (.getfield 15, 3) := by decide +kernel
theorem dX3_gain_67 : decode cX3_gain 67 = .ok (.iload 7, 2) := by decide +kernel
theorem dX3_gain_69 : decode cX3_gain 69 = .ok (.iload_n 3, 1) := by decide +kernel
theorem dX3_gain_70 : decode cX3_gain 70 = .ok (.invokevirtual 80, 3) := by decide +kernel
theorem dX3_gain_73 : decode cX3_gain 73 = .ok (.ifCond .eq 7, 3) := by decide +kernel
theorem dX3_gain_76 : decode cX3_gain 76 = .ok (.iconst 1, 1) := by decide +kernel
theorem dX3_gain_77 : decode cX3_gain 77 = .ok (.goto 4, 3) := by decide +kernel
theorem dX3_gain_80 : decode cX3_gain 80 = .ok (.iconst 0, 1) := by decide +kernel
theorem dX3_gain_81 : decode cX3_gain 81 = .ok (.iadd, 1) := by decide +kernel
theorem dX3_gain_82 : decode cX3_gain 82 = .ok (.istore 5, 2) := by decide +kernel
theorem dX3_gain_84 : decode cX3_gain 84 = .ok (.iload 5, 2) := by decide +kernel
theorem dX3_gain_86 : decode cX3_gain 86 = .ok (.aload_n 0, 1) := by decide +kernel
theorem dX3_gain_87 : decode cX3_gain 87 = .ok (.getfield 15, 3) := by decide +kernel
theorem dX3_gain_90 : decode cX3_gain 90 = .ok (.iload 7, 2) := by decide +kernel
theorem dX3_gain_92 : decode cX3_gain 92 = .ok (.iload 4, 2) := by decide +kernel
theorem dX3_gain_94 : decode cX3_gain 94 = .ok (.invokevirtual 80, 3) := by decide +kernel
theorem dX3_gain_97 : decode cX3_gain 97 = .ok (.ifCond .eq 7, 3) := by decide +kernel
theorem dX3_gain_100 : decode cX3_gain 100 = .ok (.iconst 1, 1) := by decide +kernel
theorem dX3_gain_101 : decode cX3_gain 101 = .ok (.goto 4, 3) := by decide +kernel
theorem dX3_gain_104 : decode cX3_gain 104 = .ok (.iconst 0, 1) := by decide +kernel
theorem dX3_gain_105 : decode cX3_gain 105 = .ok (.isub, 1) := by decide +kernel
theorem dX3_gain_106 : decode cX3_gain 106 = .ok (.istore 5, 2) := by decide +kernel
theorem dX3_gain_108 : decode cX3_gain 108 = .ok (.iinc 6 1, 3) := by decide +kernel
theorem dX3_gain_111 : decode cX3_gain 111 = .ok (.goto (-63), 3) := by decide +kernel
theorem dX3_gain_114 : decode cX3_gain 114 = .ok (.iload 5, 2) := by decide +kernel
theorem dX3_gain_116 : decode cX3_gain 116 = .ok (.ireturn, 1) := by decide +kernel
theorem dX3_teachLowest_0 : decode cX3_teachLowest 0 = .ok (.aload_n 0, 1) := by decide +kernel
theorem dX3_teachLowest_1 : decode cX3_teachLowest 1 = .ok (.getfield 15, 3) := by decide +kernel
theorem dX3_teachLowest_4 : decode cX3_teachLowest 4 = .ok (.iload_n 1, 1) := by decide +kernel
theorem dX3_teachLowest_5 : decode cX3_teachLowest 5 = .ok (.invokevirtual 158, 3) := by decide +kernel
theorem dX3_teachLowest_8 : decode cX3_teachLowest 8 = .ok (.istore_n 2, 1) := by decide +kernel
theorem dX3_teachLowest_9 : decode cX3_teachLowest 9 = .ok (.iload_n 2, 1) := by decide +kernel
theorem dX3_teachLowest_10 : decode cX3_teachLowest 10 = .ok (.iconst (-1), 1) := by decide +kernel
theorem dX3_teachLowest_11 : decode cX3_teachLowest 11 = .ok (.if_icmp .eq 12, 3) := by decide +kernel
theorem dX3_teachLowest_14 : decode cX3_teachLowest 14 = .ok (.aload_n 0, 1) := by decide +kernel
theorem dX3_teachLowest_15 : decode cX3_teachLowest 15 = .ok (.getfield 15, 3) := by decide +kernel
theorem dX3_teachLowest_18 : decode cX3_teachLowest 18 = .ok (.iload_n 1, 1) := by decide +kernel
theorem dX3_teachLowest_19 : decode cX3_teachLowest 19 = .ok (.iload_n 2, 1) := by decide +kernel
theorem dX3_teachLowest_20 : decode cX3_teachLowest 20 = .ok (.invokevirtual 161, 3) := by decide +kernel
theorem dX3_teachLowest_23 : decode cX3_teachLowest 23 = .ok (.return_, 1) := by decide +kernel
theorem dX3_restAt_0 : decode cX3_restAt 0 = .ok (.iconst 0, 1) := by decide +kernel
theorem dX3_restAt_1 : decode cX3_restAt 1 = .ok (.istore 4, 2) := by decide +kernel
theorem dX3_restAt_3 : decode cX3_restAt 3 = .ok (.iconst 0, 1) := by decide +kernel
theorem dX3_restAt_4 : decode cX3_restAt 4 = .ok (.istore 5, 2) := by decide +kernel
theorem dX3_restAt_6 : decode cX3_restAt 6 = .ok (.iload 5, 2) := by decide +kernel
theorem dX3_restAt_8 : decode cX3_restAt 8 = .ok (.aload_n 0, 1) := by decide +kernel
theorem dX3_restAt_9 : decode cX3_restAt 9 = .ok (.getfield 9, 3) := by decide +kernel
theorem dX3_restAt_12 : decode cX3_restAt 12 = .ok (.invokevirtual 148, 3) := by decide +kernel
theorem dX3_restAt_15 : decode cX3_restAt 15 = .ok (.if_icmp .ge 85, 3) := by decide +kernel
theorem dX3_restAt_18 : decode cX3_restAt 18 = .ok (.iconst 0, 1) := by decide +kernel
theorem dX3_restAt_19 : decode cX3_restAt 19 = .ok (.istore 6, 2) := by decide +kernel
theorem dX3_restAt_21 : decode cX3_restAt 21 = .ok (.iload 6, 2) := by decide +kernel
theorem dX3_restAt_23 : decode cX3_restAt 23 = .ok (.aload_n 0, 1) := by decide +kernel
theorem dX3_restAt_24 : decode cX3_restAt 24 = .ok (.getfield 9, 3) := by decide +kernel
theorem dX3_restAt_27 : decode cX3_restAt 27 = .ok (.invokevirtual 148, 3) := by decide +kernel
theorem dX3_restAt_30 : decode cX3_restAt 30 = .ok (.if_icmp .ge 64, 3) := by decide +kernel
theorem dX3_restAt_33 : decode cX3_restAt 33 = .ok (.aload_n 0, 1) := by decide +kernel
theorem dX3_restAt_34 : decode cX3_restAt 34 = .ok (.getfield 9, 3) := by decide +kernel
theorem dX3_restAt_37 : decode cX3_restAt 37 = .ok (.iload 5, 2) := by decide +kernel
theorem dX3_restAt_39 : decode cX3_restAt 39 = .ok (.iload_n 1, 1) := by decide +kernel
theorem dX3_restAt_40 : decode cX3_restAt 40 = .ok (.invokevirtual 80, 3) := by decide +kernel
theorem dX3_restAt_43 : decode cX3_restAt 43 = .ok (.ifCond .eq 45, 3) := by decide +kernel
theorem dX3_restAt_46 : decode cX3_restAt 46 = .ok (.aload_n 0, 1) := by decide +kernel
theorem dX3_restAt_47 : decode cX3_restAt 47 = .ok (.getfield 9, 3) := by decide +kernel
theorem dX3_restAt_50 : decode cX3_restAt 50 = .ok (.iload 6, 2) := by decide +kernel
theorem dX3_restAt_52 : decode cX3_restAt 52 = .ok (.iload_n 2, 1) := by decide +kernel
theorem dX3_restAt_53 : decode cX3_restAt 53 = .ok (.invokevirtual 80, 3) := by decide +kernel
theorem dX3_restAt_56 : decode cX3_restAt 56 = .ok (.ifCond .eq 32, 3) := by decide +kernel
theorem dX3_restAt_59 : decode cX3_restAt 59 = .ok (.aload_n 0, 1) := by decide +kernel
theorem dX3_restAt_60 : decode cX3_restAt 60 = .ok (.iload 5, 2) := by decide +kernel
theorem dX3_restAt_62 : decode cX3_restAt 62 = .ok (.iload 6, 2) := by decide +kernel
theorem dX3_restAt_64 : decode cX3_restAt 64 = .ok (.invokevirtual 164, 3) := by decide +kernel
theorem dX3_restAt_67 : decode cX3_restAt 67 = .ok (.ifCond .eq 21, 3) := by decide +kernel
theorem dX3_restAt_70 : decode cX3_restAt 70 = .ok (.iload 4, 2) := by decide +kernel
theorem dX3_restAt_72 : decode cX3_restAt 72 = .ok (.iload_n 3, 1) := by decide +kernel
theorem dX3_restAt_73 : decode cX3_restAt 73 = .ok (.if_icmp .ne 12, 3) := by decide +kernel
theorem dX3_restAt_76 : decode cX3_restAt 76 = .ok (.bipush 10, 2) := by decide +kernel
theorem dX3_restAt_78 : decode cX3_restAt 78 = .ok (.iload 5, 2) := by decide +kernel
theorem dX3_restAt_80 : decode cX3_restAt 80 = .ok (.imul, 1) := by decide +kernel
theorem dX3_restAt_81 : decode cX3_restAt 81 = .ok (.iload 6, 2) := by decide +kernel
theorem dX3_restAt_83 : decode cX3_restAt 83 = .ok (.iadd, 1) := by decide +kernel
theorem dX3_restAt_84 : decode cX3_restAt 84 = .ok (.ireturn, 1) := by decide +kernel
theorem dX3_restAt_85 : decode cX3_restAt 85 = .ok (.iinc 4 1, 3) := by decide +kernel
theorem dX3_restAt_88 : decode cX3_restAt 88 = .ok (.iinc 6 1, 3) := by decide +kernel
theorem dX3_restAt_91 : decode cX3_restAt 91 = .ok (.goto (-70), 3) := by decide +kernel
theorem dX3_restAt_94 : decode cX3_restAt 94 = .ok (.iinc 5 1, 3) := by decide +kernel
theorem dX3_restAt_97 : decode cX3_restAt 97 = .ok (.goto (-91), 3) := by decide +kernel
theorem dX3_restAt_100 : decode cX3_restAt 100 = .ok (.iload_n 3, 1) := by decide +kernel
theorem dX3_restAt_101 : decode cX3_restAt 101 = .ok (.iconst (-1), 1) := by decide +kernel
theorem dX3_restAt_102 : decode cX3_restAt 102 = .ok (.if_icmp .ne 8, 3) := by decide +kernel
theorem dX3_restAt_105 : decode cX3_restAt 105 = .ok (.iload 4, 2) := by decide +kernel
theorem dX3_restAt_107 : decode cX3_restAt 107 = .ok (.goto 4, 3) := by decide +kernel
theorem dX3_restAt_110 : decode cX3_restAt 110 = .ok (.iconst (-1), 1) := by decide +kernel
theorem dX3_restAt_111 : decode cX3_restAt 111 = .ok (.ireturn, 1) := by decide +kernel
theorem dX3_weighAll_0 : decode cX3_weighAll 0 = .ok (.iconst 0, 1) := by decide +kernel
theorem dX3_weighAll_1 : decode cX3_weighAll 1 = .ok (.istore_n 3, 1) := by decide +kernel
theorem dX3_weighAll_2 : decode cX3_weighAll 2 = .ok (.iload_n 3, 1) := by decide +kernel
theorem dX3_weighAll_3 : decode cX3_weighAll 3 = .ok (.aload_n 0, 1) := by decide +kernel
theorem dX3_weighAll_4 : decode cX3_weighAll 4 = .ok (.getfield 9, 3) := by decide +kernel
theorem dX3_weighAll_7 : decode cX3_weighAll 7 = .ok (.invokevirtual 148, 3) := by decide +kernel
theorem dX3_weighAll_10 : decode cX3_weighAll 10 = .ok (.if_icmp .ge 87, 3) := by decide +kernel
theorem dX3_weighAll_13 : decode cX3_weighAll 13 = .ok (.iconst 0, 1) := by decide +kernel
theorem dX3_weighAll_14 : decode cX3_weighAll 14 = .ok (.istore 4, 2) := by decide +kernel
theorem dX3_weighAll_16 : decode cX3_weighAll 16 = .ok (.iload 4, 2) := by decide +kernel
theorem dX3_weighAll_18 : decode cX3_weighAll 18 = .ok (.aload_n 0, 1) := by decide +kernel
theorem dX3_weighAll_19 : decode cX3_weighAll 19 = .ok (.getfield 9, 3) := by decide +kernel
theorem dX3_weighAll_22 : decode cX3_weighAll 22 = .ok (.invokevirtual 148, 3) := by decide +kernel
theorem dX3_weighAll_25 : decode cX3_weighAll 25 = .ok (.if_icmp .ge 66, 3) := by decide +kernel
theorem dX3_weighAll_28 : decode cX3_weighAll 28 = .ok (.iload_n 3, 1) := by decide +kernel
theorem dX3_weighAll_29 : decode cX3_weighAll 29 = .ok (.iload 4, 2) := by decide +kernel
theorem dX3_weighAll_31 : decode cX3_weighAll 31 = .ok (.invokestatic 167, 3) := by decide +kernel
theorem dX3_weighAll_34 : decode cX3_weighAll 34 = .ok (.istore 5, 2) := by decide +kernel
theorem dX3_weighAll_36 : decode cX3_weighAll 36 = .ok (.aload_n 0, 1) := by decide +kernel
theorem dX3_weighAll_37 : decode cX3_weighAll 37 = .ok (.getfield 9, 3) := by decide +kernel
theorem dX3_weighAll_40 : decode cX3_weighAll 40 = .ok (.iload_n 3, 1) := by decide +kernel
theorem dX3_weighAll_41 : decode cX3_weighAll 41 = .ok (.iload_n 1, 1) := by decide +kernel
theorem dX3_weighAll_42 : decode cX3_weighAll 42 = .ok (.invokevirtual 80, 3) := by decide +kernel
theorem dX3_weighAll_45 : decode cX3_weighAll 45 = .ok (.ifCond .eq 40, 3) := by decide +kernel
theorem dX3_weighAll_48 : decode cX3_weighAll 48 = .ok (.aload_n 0, 1) := by decide +kernel
theorem dX3_weighAll_49 : decode cX3_weighAll 49 = .ok (.getfield 9, 3) := by decide +kernel
theorem dX3_weighAll_52 : decode cX3_weighAll 52 = .ok (.iload 4, 2) := by decide +kernel
theorem dX3_weighAll_54 : decode cX3_weighAll 54 = .ok (.iload_n 2, 1) := by decide +kernel
theorem dX3_weighAll_55 : decode cX3_weighAll 55 = .ok (.invokevirtual 80, 3) := by decide +kernel
theorem dX3_weighAll_58 : decode cX3_weighAll 58 = .ok (.ifCond .eq 27, 3) := by decide +kernel
theorem dX3_weighAll_61 : decode cX3_weighAll 61 = .ok (.iload 5, 2) := by decide +kernel
theorem dX3_weighAll_63 : decode cX3_weighAll 63 = .ok (.aload_n 0, 1) := by decide +kernel
theorem dX3_weighAll_64 : decode cX3_weighAll 64 = .ok (.getfield 31, 3) := by decide +kernel
theorem dX3_weighAll_67 : decode cX3_weighAll 67 = .ok (.arraylength, 1) := by decide +kernel
theorem dX3_weighAll_68 : decode cX3_weighAll 68 = .ok (.if_icmp .ge 17, 3) := by decide +kernel
theorem dX3_weighAll_71 : decode cX3_weighAll 71 = .ok (.aload_n 0, 1) := by decide +kernel
theorem dX3_weighAll_72 : decode cX3_weighAll 72 = .ok (.getfield 31, 3) := by decide +kernel
theorem dX3_weighAll_75 : decode cX3_weighAll 75 = .ok (.iload 5, 2) := by decide +kernel
theorem dX3_weighAll_77 : decode cX3_weighAll 77 = .ok (.aload_n 0, 1) := by decide +kernel
theorem dX3_weighAll_78 : decode cX3_weighAll 78 = .ok (.iload_n 3, 1) := by decide +kernel
theorem dX3_weighAll_79 : decode cX3_weighAll 79 = .ok (.iload 4, 2) := by decide +kernel
theorem dX3_weighAll_81 : decode cX3_weighAll 81 = .ok (.invokevirtual 170, 3) := by decide +kernel
theorem dX3_weighAll_84 : decode cX3_weighAll 84 = .ok (.iastore, 1) := by decide +kernel
theorem dX3_weighAll_85 : decode cX3_weighAll 85 = .ok (.iinc 4 1, 3) := by decide +kernel
theorem dX3_weighAll_88 : decode cX3_weighAll 88 = .ok (.goto (-72), 3) := by decide +kernel
theorem dX3_weighAll_91 : decode cX3_weighAll 91 = .ok (.iinc 3 1, 3) := by decide +kernel
theorem dX3_weighAll_94 : decode cX3_weighAll 94 = .ok (.goto (-92), 3) := by decide +kernel
theorem dX3_weighAll_97 : decode cX3_weighAll 97 = .ok (.return_, 1) := by decide +kernel
theorem dX3_placeOf_0 : decode cX3_placeOf 0 = .ok (.iload_n 0, 1) := by decide +kernel
theorem dX3_placeOf_1 : decode cX3_placeOf 1 = .ok (.bipush 8, 2) := by decide +kernel
theorem dX3_placeOf_3 : decode cX3_placeOf 3 = .ok (.imul, 1) := by decide +kernel
theorem dX3_placeOf_4 : decode cX3_placeOf 4 = .ok (.iload_n 1, 1) := by decide +kernel
theorem dX3_placeOf_5 : decode cX3_placeOf 5 = .ok (.iadd, 1) := by decide +kernel
theorem dX3_placeOf_6 : decode cX3_placeOf 6 = .ok (.ireturn, 1) := by decide +kernel
theorem dX3_weighed_0 : decode cX3_weighed 0 = .ok (.iload_n 1, 1) := by decide +kernel
theorem dX3_weighed_1 : decode cX3_weighed 1 = .ok (.iload_n 2, 1) := by decide +kernel
theorem dX3_weighed_2 : decode cX3_weighed 2 = .ok (.invokestatic 167, 3) := by decide +kernel
theorem dX3_weighed_5 : decode cX3_weighed 5 = .ok (.istore_n 3, 1) := by decide +kernel
theorem dX3_weighed_6 : decode cX3_weighed 6 = .ok (.iload_n 3, 1) := by decide +kernel
theorem dX3_weighed_7 : decode cX3_weighed 7 = .ok (.ifCond .lt 21, 3) := by decide +kernel
theorem dX3_weighed_10 : decode cX3_weighed 10 = .ok (.iload_n 3, 1) := by decide +kernel
theorem dX3_weighed_11 : decode cX3_weighed 11 = .ok (.aload_n 0, 1) := by decide +kernel
theorem dX3_weighed_12 : decode cX3_weighed 12 = .ok (.getfield 31, 3) := by decide +kernel
theorem dX3_weighed_15 : decode cX3_weighed 15 = .ok (.arraylength, 1) := by decide +kernel
theorem dX3_weighed_16 : decode cX3_weighed 16 = .ok (.if_icmp .ge 12, 3) := by decide +kernel
theorem dX3_weighed_19 : decode cX3_weighed 19 = .ok (.aload_n 0, 1) := by decide +kernel
theorem dX3_weighed_20 : decode cX3_weighed 20 = .ok (.getfield 31, 3) := by decide +kernel
theorem dX3_weighed_23 : decode cX3_weighed 23 = .ok (.iload_n 3, 1) := by decide +kernel
theorem dX3_weighed_24 : decode cX3_weighed 24 = .ok (.iaload, 1) := by decide +kernel
theorem dX3_weighed_25 : decode cX3_weighed 25 = .ok (.goto 4, 3) := by decide +kernel
theorem dX3_weighed_28 : decode cX3_weighed 28 = .ok (.iconst 0, 1) := by decide +kernel
theorem dX3_weighed_29 : decode cX3_weighed 29 = .ok (.ireturn, 1) := by decide +kernel
theorem dX3_isRest_0 : decode cX3_isRest 0 = .ok (.aload_n 0, 1) := by decide +kernel
theorem dX3_isRest_1 : decode cX3_isRest 1 = .ok (.iload_n 1, 1) := by decide +kernel
theorem dX3_isRest_2 : decode cX3_isRest 2 = .ok (.iload_n 2, 1) := by decide +kernel
theorem dX3_isRest_3 : decode cX3_isRest 3 = .ok (.invokevirtual 173, 3) := by decide +kernel
theorem dX3_isRest_6 : decode cX3_isRest 6 = .ok (.istore_n 3, 1) := by decide +kernel
theorem dX3_isRest_7 : decode cX3_isRest 7 = .ok (.aload_n 0, 1) := by decide +kernel
theorem dX3_isRest_8 : decode cX3_isRest 8 = .ok (.getfield 9, 3) := by decide +kernel
theorem dX3_isRest_11 : decode cX3_isRest 11 = .ok (.iload_n 1, 1) := by decide +kernel
theorem dX3_isRest_12 : decode cX3_isRest 12 = .ok (.iconst 3, 1) := by decide +kernel
theorem dX3_isRest_13 : decode cX3_isRest 13 = .ok (.invokevirtual 105, 3) := by decide +kernel
theorem dX3_isRest_16 : decode cX3_isRest 16 = .ok (.istore 4, 2) := by decide +kernel
theorem dX3_isRest_18 : decode cX3_isRest 18 = .ok (.aload_n 0, 1) := by decide +kernel
theorem dX3_isRest_19 : decode cX3_isRest 19 = .ok (.getfield 9, 3) := by decide +kernel
theorem dX3_isRest_22 : decode cX3_isRest 22 = .ok (.iload_n 2, 1) := by decide +kernel
theorem dX3_isRest_23 : decode cX3_isRest 23 = .ok (.iconst 3, 1) := by decide +kernel
theorem dX3_isRest_24 : decode cX3_isRest 24 = .ok (.invokevirtual 105, 3) := by decide +kernel
theorem dX3_isRest_27 : decode cX3_isRest 27 = .ok (.istore 5, 2) := by decide +kernel
theorem dX3_isRest_29 : decode cX3_isRest 29 = .ok (.iconst 0, 1) := by decide +kernel
theorem dX3_isRest_30 : decode cX3_isRest 30 = .ok (.istore 6, 2) := by decide +kernel
theorem dX3_isRest_32 : decode cX3_isRest 32 = .ok (.iload 6, 2) := by decide +kernel
theorem dX3_isRest_34 : decode cX3_isRest 34 = .ok (.aload_n 0, 1) := by decide +kernel
theorem dX3_isRest_35 : decode cX3_isRest 35 = .ok (.getfield 9, 3) := by decide +kernel
theorem dX3_isRest_38 : decode cX3_isRest 38 = .ok (.invokevirtual 148, 3) := by decide +kernel
theorem dX3_isRest_41 : decode cX3_isRest 41 = .ok (.if_icmp .ge 63, 3) := by decide +kernel
theorem dX3_isRest_44 : decode cX3_isRest 44 = .ok (.aload_n 0, 1) := by decide +kernel
theorem dX3_isRest_45 : decode cX3_isRest 45 = .ok (.getfield 9, 3) := by decide +kernel
theorem dX3_isRest_48 : decode cX3_isRest 48 = .ok (.iload 6, 2) := by decide +kernel
theorem dX3_isRest_50 : decode cX3_isRest 50 = .ok (.iload 4, 2) := by decide +kernel
theorem dX3_isRest_52 : decode cX3_isRest 52 = .ok (.invokevirtual 80, 3) := by decide +kernel
theorem dX3_isRest_55 : decode cX3_isRest 55 = .ok (.ifCond .eq 16, 3) := by decide +kernel
theorem dX3_isRest_58 : decode cX3_isRest 58 = .ok (.aload_n 0, 1) := by decide +kernel
theorem dX3_isRest_59 : decode cX3_isRest 59 = .ok (.iload 6, 2) := by decide +kernel
theorem dX3_isRest_61 : decode cX3_isRest 61 = .ok (.iload_n 2, 1) := by decide +kernel
theorem dX3_isRest_62 : decode cX3_isRest 62 = .ok (.invokevirtual 173, 3) := by decide +kernel
theorem dX3_isRest_65 : decode cX3_isRest 65 = .ok (.iload_n 3, 1) := by decide +kernel
theorem dX3_isRest_66 : decode cX3_isRest 66 = .ok (.if_icmp .le 5, 3) := by decide +kernel
theorem dX3_isRest_69 : decode cX3_isRest 69 = .ok (.iconst 0, 1) := by decide +kernel
theorem dX3_isRest_70 : decode cX3_isRest 70 = .ok (.ireturn, 1) := by decide +kernel
theorem dX3_isRest_71 : decode cX3_isRest 71 = .ok (.aload_n 0, 1) := by decide +kernel
theorem dX3_isRest_72 : decode cX3_isRest 72 = .ok (.getfield 9, 3) := by decide +kernel
theorem dX3_isRest_75 : decode cX3_isRest 75 = .ok (.iload 6, 2) := by decide +kernel
theorem dX3_isRest_77 : decode cX3_isRest 77 = .ok (.iload 5, 2) := by decide +kernel
theorem dX3_isRest_79 : decode cX3_isRest 79 = .ok (.invokevirtual 80, 3) := by decide +kernel
theorem dX3_isRest_82 : decode cX3_isRest 82 = .ok (.ifCond .eq 16, 3) := by decide +kernel
theorem dX3_isRest_85 : decode cX3_isRest 85 = .ok (.aload_n 0, 1) := by decide +kernel
theorem dX3_isRest_86 : decode cX3_isRest 86 = .ok (.iload_n 1, 1) := by decide +kernel
theorem dX3_isRest_87 : decode cX3_isRest 87 = .ok (.iload 6, 2) := by decide +kernel
theorem dX3_isRest_89 : decode cX3_isRest 89 = .ok (.invokevirtual 173, 3) := by decide +kernel
theorem dX3_isRest_92 : decode cX3_isRest 92 = .ok (.iload_n 3, 1) := by decide +kernel
theorem dX3_isRest_93 : decode cX3_isRest 93 = .ok (.if_icmp .ge 5, 3) := by decide +kernel
theorem dX3_isRest_96 : decode cX3_isRest 96 = .ok (.iconst 0, 1) := by decide +kernel
theorem dX3_isRest_97 : decode cX3_isRest 97 = .ok (.ireturn, 1) := by decide +kernel
theorem dX3_isRest_98 : decode cX3_isRest 98 = .ok (.iinc 6 1, 3) := by decide +kernel
theorem dX3_isRest_101 : decode cX3_isRest 101 = .ok (.goto (-69), 3) := by decide +kernel
theorem dX3_isRest_104 : decode cX3_isRest 104 = .ok (.iconst 1, 1) := by decide +kernel
theorem dX3_isRest_105 : decode cX3_isRest 105 = .ok (.ireturn, 1) := by decide +kernel
