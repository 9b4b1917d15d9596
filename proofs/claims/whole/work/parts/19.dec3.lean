theorem dX10_feed_0 : decode cX10_feed 0 = .ok (.iload_n 1, 1) := by decide +kernel
theorem dX10_feed_1 : decode cX10_feed 1 = .ok (.invokestatic 74, 3) := by decide +kernel
theorem dX10_feed_4 : decode cX10_feed 4 = .ok (.iload_n 2, 1) := by decide +kernel
theorem dX10_feed_5 : decode cX10_feed 5 = .ok (.invokestatic 74, 3) := by decide +kernel
theorem dX10_feed_8 : decode cX10_feed 8 = .ok (.iadd, 1) := by decide +kernel
theorem dX10_feed_9 : decode cX10_feed 9 = .ok (.iload_n 3, 1) := by decide +kernel
theorem dX10_feed_10 : decode cX10_feed 10 = .ok (.invokestatic 74, 3) := by decide +kernel
theorem dX10_feed_13 : decode cX10_feed 13 = .ok (.iadd, 1) := by decide +kernel
theorem dX10_feed_14 : decode cX10_feed 14 = .ok (.iload 4, 2) := by decide +kernel
theorem dX10_feed_16 : decode cX10_feed 16 = .ok (.invokestatic 74, 3) := by decide +kernel
theorem dX10_feed_19 : decode cX10_feed 19 = .ok (.iadd, 1) := by decide +kernel
theorem dX10_feed_20 : decode cX10_feed 20 = .ok (.iload 5, 2) := by decide +kernel
theorem dX10_feed_22 : decode cX10_feed 22 = .ok (.invokestatic 74, 3) := by decide +kernel
theorem dX10_feed_25 : decode cX10_feed 25 = .ok (.iadd, 1) := by decide +kernel
theorem dX10_feed_26 : decode cX10_feed 26 = .ok (.istore 6, 2) := by decide +kernel
theorem dX10_feed_28 : decode cX10_feed 28 = .ok (.aload_n 0, 1) := by decide +kernel
theorem dX10_feed_29 : decode cX10_feed 29 = .ok (.getfield 10, 3) := by decide +kernel
theorem dX10_feed_32 : decode cX10_feed 32 = .ok (.invokevirtual 78, 3) := by decide +kernel
theorem dX10_feed_35 : decode cX10_feed 35 = .ok (.iload 6, 2) := by decide +kernel
theorem dX10_feed_37 : decode cX10_feed 37 = .ok (.iadd, 1) := by decide +kernel
theorem dX10_feed_38 : decode cX10_feed 38 = .ok (.sipush 240, 3) := by decide +kernel
theorem dX10_feed_41 : decode cX10_feed 41 = .ok (.if_icmp .le 5, 3) := by decide +kernel
theorem dX10_feed_44 : decode cX10_feed 44 = .ok (.iconst (-1), 1) := by decide +kernel
theorem dX10_feed_45 : decode cX10_feed 45 = .ok (.ireturn, 1) := by decide +kernel
theorem dX10_feed_46 : decode cX10_feed 46 = .ok (.aload_n 0, 1) := by decide +kernel
theorem dX10_feed_47 : decode cX10_feed 47 = .ok (.getfield 10, 3) := by decide +kernel
theorem dX10_feed_50 : decode cX10_feed 50 = .ok (.iload_n 1, 1) := by decide +kernel
theorem dX10_feed_51 : decode cX10_feed 51 = .ok (.invokevirtual 82, 3) := by decide +kernel
theorem dX10_feed_54 : decode cX10_feed 54 = .ok (.aload_n 0, 1) := by decide +kernel
theorem dX10_feed_55 : decode cX10_feed 55 = .ok (.getfield 10, 3) := by decide +kernel
theorem dX10_feed_58 : decode cX10_feed 58 = .ok (.iload_n 2, 1) := by decide +kernel
theorem dX10_feed_59 : decode cX10_feed 59 = .ok (.invokevirtual 82, 3) := by decide +kernel
theorem dX10_feed_62 : decode cX10_feed 62 = .ok (.aload_n 0, 1) := by decide +kernel
theorem dX10_feed_63 : decode cX10_feed 63 = .ok (.getfield 10, 3) := by decide +kernel
theorem dX10_feed_66 : decode cX10_feed 66 = .ok (.iload_n 3, 1) := by decide +kernel
theorem dX10_feed_67 : decode cX10_feed 67 = .ok (.invokevirtual 82, 3) := by decide +kernel
theorem dX10_feed_70 : decode cX10_feed 70 = .ok (.aload_n 0, 1) := by decide +kernel
theorem dX10_feed_71 : decode cX10_feed 71 = .ok (.getfield 10, 3) := by decide +kernel
theorem dX10_feed_74 : decode cX10_feed 74 = .ok (.iload 4, 2) := by decide +kernel
theorem dX10_feed_76 : decode cX10_feed 76 = .ok (.invokevirtual 82, 3) := by decide +kernel
theorem dX10_feed_79 : decode cX10_feed 79 = .ok (.aload_n 0, 1) := by decide +kernel
theorem dX10_feed_80 : decode cX10_feed 80 = .ok (.getfield 10, 3) := by decide +kernel
theorem dX10_feed_83 : decode cX10_feed 83 = .ok (.iload 5, 2) := by decide +kernel
theorem dX10_feed_85 : decode cX10_feed 85 = .ok (.invokevirtual 82, 3) := by decide +kernel
theorem dX10_feed_88 : decode cX10_feed 88 = .ok (.aload_n 0, 1) := by decide +kernel
theorem dX10_feed_89 : decode cX10_feed 89 = .ok (.getfield 10, 3) := by decide +kernel
theorem dX10_feed_92 : decode cX10_feed 92 = .ok (.invokevirtual 78, 3) := by decide +kernel
theorem dX10_feed_95 : decode cX10_feed 95 = .ok (.ireturn, 1) := by decide +kernel
theorem dX10_end_0 : decode cX10_end 0 = .ok (.iload_n 1, 1) := by decide +kernel
theorem dX10_end_1 : decode cX10_end 1 = .ok (.ifCond .lt 14, 3) := by decide +kernel
theorem dX10_end_4 : decode cX10_end 4 = .ok (.iload_n 1, 1) := by decide +kernel
theorem dX10_end_5 : decode cX10_end 5 = .ok (.aload_n 0, 1) := by decide +kernel
theorem dX10_end_6 : decode cX10_end 6 = .ok (.getfield 10, 3) := by decide +kernel
theorem dX10_end_9 : decode cX10_end 9 = .ok (.invokevirtual 78, 3) := by decide +kernel
theorem dX10_end_12 : decode cX10_end 12 = .ok (.if_icmp .le 5, 3) := by decide +kernel
theorem dX10_end_15 : decode cX10_end 15 = .ok (.iconst 0, 1) := by decide +kernel
theorem dX10_end_16 : decode cX10_end 16 = .ok (.ireturn, 1) := by decide +kernel
theorem dX10_end_17 : decode cX10_end 17 = .ok (.aload_n 0, 1) := by decide +kernel
theorem dX10_end_18 : decode cX10_end 18 = .ok (.getfield 10, 3) := by decide +kernel
theorem dX10_end_21 : decode cX10_end 21 = .ok (.iload_n 1, 1) := by decide +kernel
theorem dX10_end_22 : decode cX10_end 22 = .ok (.invokevirtual 86, 3) := by decide +kernel
theorem dX10_end_25 : decode cX10_end 25 = .ok (.iconst 1, 1) := by decide +kernel
theorem dX10_end_26 : decode cX10_end 26 = .ok (.ireturn, 1) := by decide +kernel
theorem dX10_fault_0 : decode cX10_fault 0 = .ok (.iload_n 1, 1) := by decide +kernel
theorem dX10_fault_1 : decode cX10_fault 1 = .ok (.ifCond .ne 15, 3) := by decide +kernel
theorem dX10_fault_4 : decode cX10_fault 4 = .ok (.aload_n 0, 1) := by decide +kernel
theorem dX10_fault_5 : decode cX10_fault 5 = .ok (.getfield 31, 3) := by decide +kernel
theorem dX10_fault_8 : decode cX10_fault 8 = .ok (.aload_n 0, 1) := by decide +kernel
theorem dX10_fault_9 : decode cX10_fault 9 = .ok (.getfield 23, 3) := by decide +kernel
theorem dX10_fault_12 : decode cX10_fault 12 = .ok (.invokevirtual 89, 3) := by decide +kernel
theorem dX10_fault_15 : decode cX10_fault 15 = .ok (.ireturn, 1) := by decide +kernel
theorem dX10_fault_16 : decode cX10_fault 16 = .ok (.iload_n 1, 1) := by decide +kernel
theorem dX10_fault_17 : decode cX10_fault 17 = .ok (.iconst 1, 1) := by decide +kernel
theorem dX10_fault_18 : decode cX10_fault 18 = .ok (.if_icmp .ne 13, 3) := by decide +kernel
theorem dX10_fault_21 : decode cX10_fault 21 = .ok (.aload_n 0, 1) := by decide +kernel
theorem dX10_fault_22 : decode cX10_fault 22 = .ok (.getfield 38, 3) := by decide +kernel
theorem dX10_fault_25 : decode cX10_fault 25 = .ok (.invokevirtual 93, 3) := by decide +kernel
theorem dX10_fault_28 : decode cX10_fault 28 = .ok (.goto 5, 3) := by decide +kernel
theorem dX10_fault_31 : decode cX10_fault 31 = .ok (.bipush (-2), 2) := by decide +kernel
theorem dX10_fault_33 : decode cX10_fault 33 = .ok (.ireturn, 1) := by decide +kernel
theorem dX10_text_0 : decode cX10_text 0 = .ok (.iload_n 1, 1) := by decide +kernel
theorem dX10_text_1 : decode cX10_text 1 = .ok (.ifCond .ne 52, 3) := by decide +kernel
theorem dX10_text_4 : decode cX10_text 4 = .ok (.aload_n 0, 1) := by decide +kernel
theorem dX10_text_5 : decode cX10_text 5 = .ok (.getfield 31, 3) := by decide +kernel
theorem dX10_text_8 : decode cX10_text 8 = .ok (.aload_n 0, 1) := by decide +kernel
theorem dX10_text_9 : decode cX10_text 9 = .ok (.getfield 23, 3) := by decide +kernel
theorem dX10_text_12 : decode cX10_text 12 = .ok (.invokevirtual 89, 3) := by decide +kernel
theorem dX10_text_15 : decode cX10_text 15 = .ok (.iconst (-1), 1) := by decide +kernel
theorem dX10_text_16 : decode cX10_text 16 = .ok (.if_icmp .ne 37, 3) := by decide +kernel
theorem dX10_text_19 : decode cX10_text 19 = .ok (.aload_n 0, 1) := by decide +kernel
theorem dX10_text_20 : decode cX10_text 20 = .ok (.getfield 19, 3) := by decide +kernel
theorem dX10_text_23 : decode cX10_text 23 = .ok (.aload_n 0, 1) := by decide +kernel
theorem dX10_text_24 : decode cX10_text 24 = .ok (.getfield 23, 3) := by decide +kernel
theorem dX10_text_27 : decode cX10_text 27 = .ok (.invokevirtual 95, 3) := by decide +kernel
theorem dX10_text_30 : decode cX10_text 30 = .ok (.aload_n 0, 1) := by decide +kernel
theorem dX10_text_31 : decode cX10_text 31 = .ok (.getfield 52, 3) := by decide +kernel
theorem dX10_text_34 : decode cX10_text 34 = .ok (.invokevirtual 98, 3) := by decide +kernel
theorem dX10_text_37 : decode cX10_text 37 = .ok (.aload_n 0, 1) := by decide +kernel
theorem dX10_text_38 : decode cX10_text 38 = .ok (.getfield 10, 3) := by decide +kernel
theorem dX10_text_41 : decode cX10_text 41 = .ok (.iconst 0, 1) := by decide +kernel
theorem dX10_text_42 : decode cX10_text 42 = .ok (.invokevirtual 86, 3) := by decide +kernel
theorem dX10_text_45 : decode cX10_text 45 = .ok (.aload_n 0, 1) := by decide +kernel
theorem dX10_text_46 : decode cX10_text 46 = .ok (.getfield 19, 3) := by decide +kernel
theorem dX10_text_49 : decode cX10_text 49 = .ok (.invokevirtual 101, 3) := by decide +kernel
theorem dX10_text_52 : decode cX10_text 52 = .ok (.ireturn, 1) := by decide +kernel
theorem dX10_text_53 : decode cX10_text 53 = .ok (.iload_n 1, 1) := by decide +kernel
theorem dX10_text_54 : decode cX10_text 54 = .ok (.iconst 1, 1) := by decide +kernel
theorem dX10_text_55 : decode cX10_text 55 = .ok (.if_icmp .ne 44, 3) := by decide +kernel
theorem dX10_text_58 : decode cX10_text 58 = .ok (.aload_n 0, 1) := by decide +kernel
theorem dX10_text_59 : decode cX10_text 59 = .ok (.getfield 45, 3) := by decide +kernel
theorem dX10_text_62 : decode cX10_text 62 = .ok (.invokevirtual 104, 3) := by decide +kernel
theorem dX10_text_65 : decode cX10_text 65 = .ok (.ifCond .eq 34, 3) := by decide +kernel
theorem dX10_text_68 : decode cX10_text 68 = .ok (.aload_n 0, 1) := by decide +kernel
theorem dX10_text_69 : decode cX10_text 69 = .ok (.getfield 38, 3) := by decide +kernel
theorem dX10_text_72 : decode cX10_text 72 = .ok (.invokevirtual 93, 3) := by decide +kernel
theorem dX10_text_75 : decode cX10_text 75 = .ok (.iconst (-1), 1) := by decide +kernel
theorem dX10_text_76 : decode cX10_text 76 = .ok (.if_icmp .ne 23, 3) := by decide +kernel
theorem dX10_text_79 : decode cX10_text 79 = .ok (.aload_n 0, 1) := by decide +kernel
theorem dX10_text_80 : decode cX10_text 80 = .ok (.getfield 10, 3) := by decide +kernel
theorem dX10_text_83 : decode cX10_text 83 = .ok (.iconst 0, 1) := by decide +kernel
theorem dX10_text_84 : decode cX10_text 84 = .ok (.invokevirtual 86, 3) := by decide +kernel
theorem dX10_text_87 : decode cX10_text 87 = .ok (.aload_n 0, 1) := by decide +kernel
theorem dX10_text_88 : decode cX10_text 88 = .ok (.getfield 45, 3) := by decide +kernel
theorem dX10_text_91 : decode cX10_text 91 = .ok (.aload_n 0, 1) := by decide +kernel
theorem dX10_text_92 : decode cX10_text 92 = .ok (.getfield 38, 3) := by decide +kernel
theorem dX10_text_95 : decode cX10_text 95 = .ok (.invokevirtual 108, 3) := by decide +kernel
theorem dX10_text_98 : decode cX10_text 98 = .ok (.ireturn, 1) := by decide +kernel
theorem dX10_text_99 : decode cX10_text 99 = .ok (.iconst (-1), 1) := by decide +kernel
theorem dX10_text_100 : decode cX10_text 100 = .ok (.ireturn, 1) := by decide +kernel
theorem dX10_child_0 : decode cX10_child 0 = .ok (.aload_n 0, 1) := by decide +kernel
theorem dX10_child_1 : decode cX10_child 1 = .ok (.getfield 19, 3) := by decide +kernel
theorem dX10_child_4 : decode cX10_child 4 = .ok (.iload_n 1, 1) := by decide +kernel
theorem dX10_child_5 : decode cX10_child 5 = .ok (.invokevirtual 112, 3) := by decide +kernel
theorem dX10_child_8 : decode cX10_child 8 = .ok (.ifCond .eq 13, 3) := by decide +kernel
theorem dX10_child_11 : decode cX10_child 11 = .ok (.iload_n 2, 1) := by decide +kernel
theorem dX10_child_12 : decode cX10_child 12 = .ok (.ifCond .lt 9, 3) := by decide +kernel
theorem dX10_child_15 : decode cX10_child 15 = .ok (.iload_n 2, 1) := by decide +kernel
theorem dX10_child_16 : decode cX10_child 16 = .ok (.bipush 11, 2) := by decide +kernel
theorem dX10_child_18 : decode cX10_child 18 = .ok (.if_icmp .le 11, 3) := by decide +kernel
theorem dX10_child_21 : decode cX10_child 21 = .ok (.new 116, 3) := by decide +kernel
theorem dX10_child_24 : decode cX10_child 24 = .ok (.dup, 1) := by decide +kernel
theorem dX10_child_25 : decode cX10_child 25 = .ok (.invokespecial 118, 3) := by decide +kernel
theorem dX10_child_28 : decode cX10_child 28 = .ok (.athrow, 1) := by decide +kernel
theorem dX10_child_29 : decode cX10_child 29 = .ok (.iload_n 2, 1) := by decide +kernel
theorem dX10_child_30 : decode cX10_child 30 = .ok (.bipush 10, 2) := by decide +kernel
theorem dX10_child_32 : decode cX10_child 32 = .ok (.if_icmp .ne 12, 3) := by decide +kernel
theorem dX10_child_35 : decode cX10_child 35 = .ok (.aload_n 0, 1) := by decide +kernel
theorem dX10_child_36 : decode cX10_child 36 = .ok (.getfield 19, 3) := by decide +kernel
theorem dX10_child_39 : decode cX10_child 39 = .ok (.iload_n 1, 1) := by decide +kernel
theorem dX10_child_40 : decode cX10_child 40 = .ok (.invokevirtual 119, 3) := by decide +kernel
theorem dX10_child_43 : decode cX10_child 43 = .ok (.ireturn, 1) := by decide +kernel
theorem dX10_child_44 : decode cX10_child 44 = .ok (.iload_n 2, 1) := by decide +kernel
theorem dX10_child_45 : decode cX10_child 45 = .ok (.bipush 11, 2) := by decide +kernel
theorem dX10_child_47 : decode cX10_child 47 = .ok (.if_icmp .ne 25, 3) := by decide +kernel
theorem dX10_child_50 : decode cX10_child 50 = .ok (.aload_n 0, 1) := by decide +kernel
theorem dX10_child_51 : decode cX10_child 51 = .ok (.getfield 45, 3) := by decide +kernel
theorem dX10_child_54 : decode cX10_child 54 = .ok (.aload_n 0, 1) := by decide +kernel
theorem dX10_child_55 : decode cX10_child 55 = .ok (.getfield 19, 3) := by decide +kernel
theorem dX10_child_58 : decode cX10_child 58 = .ok (.iload_n 1, 1) := by decide +kernel
theorem dX10_child_59 : decode cX10_child 59 = .ok (.aload_n 0, 1) := by decide +kernel
theorem dX10_child_60 : decode cX10_child 60 = .ok (.getfield 45, 3) := by decide +kernel
theorem dX10_child_63 : decode cX10_child 63 = .ok (.invokevirtual 122, 3) := by decide +kernel
theorem dX10_child_66 : decode cX10_child 66 = .ok (.invokevirtual 125, 3) := by decide +kernel
theorem dX10_child_69 : decode cX10_child 69 = .ok (.goto 12, 3) := by decide +kernel
theorem dX10_child_72 : decode cX10_child 72 = .ok (.aload_n 0, 1) := by decide +kernel
theorem dX10_child_73 : decode cX10_child 73 = .ok (.getfield 19, 3) := by decide +kernel
theorem dX10_child_76 : decode cX10_child 76 = .ok (.iload_n 1, 1) := by decide +kernel
theorem dX10_child_77 : decode cX10_child 77 = .ok (.iload_n 2, 1) := by decide +kernel
theorem dX10_child_78 : decode cX10_child 78 = .ok (.invokevirtual 129, 3) := by decide +kernel
theorem dX10_child_81 : decode cX10_child 81 = .ok (.ireturn, 1) := by decide +kernel
theorem dX10_elder_0 : decode cX10_elder 0 = .ok (.aload_n 0, 1) := by decide +kernel
theorem dX10_elder_1 : decode cX10_elder 1 = .ok (.getfield 19, 3) := by decide +kernel
theorem dX10_elder_4 : decode cX10_elder 4 = .ok (.iload_n 1, 1) := by decide +kernel
theorem dX10_elder_5 : decode cX10_elder 5 = .ok (.invokevirtual 133, 3) := by decide +kernel
theorem dX10_elder_8 : decode cX10_elder 8 = .ok (.ifCond .eq 24, 3) := by decide +kernel
theorem dX10_elder_11 : decode cX10_elder 11 = .ok (.iload_n 2, 1) := by decide +kernel
theorem dX10_elder_12 : decode cX10_elder 12 = .ok (.ifCond .lt 20, 3) := by decide +kernel
theorem dX10_elder_15 : decode cX10_elder 15 = .ok (.iload_n 2, 1) := by decide +kernel
theorem dX10_elder_16 : decode cX10_elder 16 = .ok (.iconst 3, 1) := by decide +kernel
theorem dX10_elder_17 : decode cX10_elder 17 = .ok (.if_icmp .ge 15, 3) := by decide +kernel
theorem dX10_elder_20 : decode cX10_elder 20 = .ok (.aload_n 0, 1) := by decide +kernel
theorem dX10_elder_21 : decode cX10_elder 21 = .ok (.getfield 19, 3) := by decide +kernel
theorem dX10_elder_24 : decode cX10_elder 24 = .ok (.iload_n 1, 1) := by decide +kernel
theorem dX10_elder_25 : decode cX10_elder 25 = .ok (.iload_n 2, 1) := by decide +kernel
theorem dX10_elder_26 : decode cX10_elder 26 = .ok (.invokevirtual 136, 3) := by decide +kernel
theorem dX10_elder_29 : decode cX10_elder 29 = .ok (.goto 4, 3) := by decide +kernel
theorem dX10_elder_32 : decode cX10_elder 32 = .ok (.iconst (-1), 1) := by decide +kernel
theorem dX10_elder_33 : decode cX10_elder 33 = .ok (.ireturn, 1) := by decide +kernel
theorem dX10_rule_0 : decode cX10_rule 0 = .ok (.aload_n 0, 1) := by decide +kernel
theorem dX10_rule_1 : decode cX10_rule 1 = .ok (.getfield 19, 3) := by decide +kernel
theorem dX10_rule_4 : decode cX10_rule 4 = .ok (.invokevirtual 139, 3) := by decide +kernel
theorem dX10_rule_7 : decode cX10_rule 7 = .ok (.ifCond .eq 26, 3) := by decide +kernel
theorem dX10_rule_10 : decode cX10_rule 10 = .ok (.iload_n 1, 1) := by decide +kernel
theorem dX10_rule_11 : decode cX10_rule 11 = .ok (.ifCond .lt 22, 3) := by decide +kernel
theorem dX10_rule_14 : decode cX10_rule 14 = .ok (.iload_n 1, 1) := by decide +kernel
theorem dX10_rule_15 : decode cX10_rule 15 = .ok (.iconst 3, 1) := by decide +kernel
theorem dX10_rule_16 : decode cX10_rule 16 = .ok (.if_icmp .ge 17, 3) := by decide +kernel
theorem dX10_rule_19 : decode cX10_rule 19 = .ok (.aload_n 0, 1) := by decide +kernel
theorem dX10_rule_20 : decode cX10_rule 20 = .ok (.getfield 19, 3) := by decide +kernel
theorem dX10_rule_23 : decode cX10_rule 23 = .ok (.bipush 92, 2) := by decide +kernel
theorem dX10_rule_25 : decode cX10_rule 25 = .ok (.iload_n 1, 1) := by decide +kernel
theorem dX10_rule_26 : decode cX10_rule 26 = .ok (.iadd, 1) := by decide +kernel
theorem dX10_rule_27 : decode cX10_rule 27 = .ok (.invokevirtual 142, 3) := by decide +kernel
theorem dX10_rule_30 : decode cX10_rule 30 = .ok (.goto 4, 3) := by decide +kernel
theorem dX10_rule_33 : decode cX10_rule 33 = .ok (.iconst (-1), 1) := by decide +kernel
theorem dX10_rule_34 : decode cX10_rule 34 = .ok (.ireturn, 1) := by decide +kernel
theorem dX10_law_0 : decode cX10_law 0 = .ok (.aload_n 0, 1) := by decide +kernel
theorem dX10_law_1 : decode cX10_law 1 = .ok (.getfield 45, 3) := by decide +kernel
theorem dX10_law_4 : decode cX10_law 4 = .ok (.iload_n 1, 1) := by decide +kernel
theorem dX10_law_5 : decode cX10_law 5 = .ok (.invokevirtual 145, 3) := by decide +kernel
theorem dX10_law_8 : decode cX10_law 8 = .ok (.ireturn, 1) := by decide +kernel
theorem dX10_fever_0 : decode cX10_fever 0 = .ok (.iload_n 1, 1) := by decide +kernel
theorem dX10_fever_1 : decode cX10_fever 1 = .ok (.ifCond .lt 17, 3) := by decide +kernel
theorem dX10_fever_4 : decode cX10_fever 4 = .ok (.iload_n 1, 1) := by decide +kernel
theorem dX10_fever_5 : decode cX10_fever 5 = .ok (.bipush 99, 2) := by decide +kernel
theorem dX10_fever_7 : decode cX10_fever 7 = .ok (.if_icmp .gt 11, 3) := by decide +kernel
theorem dX10_fever_10 : decode cX10_fever 10 = .ok (.iload_n 1, 1) := by decide +kernel
theorem dX10_fever_11 : decode cX10_fever 11 = .ok (.aload_n 0, 1) := by decide +kernel
theorem dX10_fever_12 : decode cX10_fever 12 = .ok (.getfield 148, 3) := by decide +kernel
theorem dX10_fever_15 : decode cX10_fever 15 = .ok (.if_icmp .ne 5, 3) := by decide +kernel
theorem dX10_fever_18 : decode cX10_fever 18 = .ok (.iconst 0, 1) := by decide +kernel
theorem dX10_fever_19 : decode cX10_fever 19 = .ok (.ireturn, 1) := by decide +kernel
theorem dX10_fever_20 : decode cX10_fever 20 = .ok (.aload_n 0, 1) := by decide +kernel
theorem dX10_fever_21 : decode cX10_fever 21 = .ok (.iload_n 1, 1) := by decide +kernel
theorem dX10_fever_22 : decode cX10_fever 22 = .ok (.putfield 148, 3) := by decide +kernel
theorem dX10_fever_25 : decode cX10_fever 25 = .ok (.iconst 1, 1) := by decide +kernel
theorem dX10_fever_26 : decode cX10_fever 26 = .ok (.ireturn, 1) := by decide +kernel
theorem dX10_passes_0 : decode cX10_passes 0 = .ok (.aload_n 0, 1) := by decide +kernel
theorem dX10_passes_1 : decode cX10_passes 1 = .ok (.getfield 19, 3) := by decide +kernel
theorem dX10_passes_4 : decode cX10_passes 4 = .ok (.iload_n 1, 1) := by decide +kernel
theorem dX10_passes_5 : decode cX10_passes 5 = .ok (.invokevirtual 112, 3) := by decide +kernel
theorem dX10_passes_8 : decode cX10_passes 8 = .ok (.ifCond .eq 14, 3) := by decide +kernel
theorem dX10_passes_11 : decode cX10_passes 11 = .ok (.aload_n 0, 1) := by decide +kernel
theorem dX10_passes_12 : decode cX10_passes 12 = .ok (.getfield 19, 3) := by decide +kernel
theorem dX10_passes_15 : decode cX10_passes 15 = .ok (.iload_n 2, 1) := by decide +kernel
theorem dX10_passes_16 : decode cX10_passes 16 = .ok (.invokevirtual 133, 3) := by decide +kernel
theorem dX10_passes_19 : decode cX10_passes 19 = .ok (.ifCond .ne 5, 3) := by decide +kernel
theorem dX10_passes_22 : decode cX10_passes 22 = .ok (.iconst (-1), 1) := by decide +kernel
theorem dX10_passes_23 : decode cX10_passes 23 = .ok (.ireturn, 1) := by decide +kernel
theorem dX10_passes_24 : decode cX10_passes 24 = .ok (.aload_n 0, 1) := by decide +kernel
theorem dX10_passes_25 : decode cX10_passes 25 = .ok (.getfield 19, 3) := by decide +kernel
theorem dX10_passes_28 : decode cX10_passes 28 = .ok (.iload_n 1, 1) := by decide +kernel
theorem dX10_passes_29 : decode cX10_passes 29 = .ok (.iload_n 2, 1) := by decide +kernel
theorem dX10_passes_30 : decode cX10_passes 30 = .ok (.invokevirtual 152, 3) := by decide +kernel
theorem dX10_passes_33 : decode cX10_passes 33 = .ok (.ifCond .eq 7, 3) := by decide +kernel
theorem dX10_passes_36 : decode cX10_passes 36 = .ok (.iconst 1, 1) := by decide +kernel
theorem dX10_passes_37 : decode cX10_passes 37 = .ok (.goto 4, 3) := by decide +kernel
theorem dX10_passes_40 : decode cX10_passes 40 = .ok (.iconst 0, 1) := by decide +kernel
theorem dX10_passes_41 : decode cX10_passes 41 = .ok (.ireturn, 1) := by decide +kernel
theorem dX10_slips_0 : decode cX10_slips 0 = .ok (.aload_n 0, 1) := by decide +kernel
theorem dX10_slips_1 : decode cX10_slips 1 = .ok (.getfield 19, 3) := by decide +kernel
theorem dX10_slips_4 : decode cX10_slips 4 = .ok (.iload_n 1, 1) := by decide +kernel
theorem dX10_slips_5 : decode cX10_slips 5 = .ok (.invokevirtual 112, 3) := by decide +kernel
theorem dX10_slips_8 : decode cX10_slips 8 = .ok (.ifCond .eq 26, 3) := by decide +kernel
theorem dX10_slips_11 : decode cX10_slips 11 = .ok (.aload_n 0, 1) := by decide +kernel
theorem dX10_slips_12 : decode cX10_slips 12 = .ok (.getfield 19, 3) := by decide +kernel
theorem dX10_slips_15 : decode cX10_slips 15 = .ok (.iload_n 2, 1) := by decide +kernel
theorem dX10_slips_16 : decode cX10_slips 16 = .ok (.invokevirtual 133, 3) := by decide +kernel
theorem dX10_slips_19 : decode cX10_slips 19 = .ok (.ifCond .eq 15, 3) := by decide +kernel
theorem dX10_slips_22 : decode cX10_slips 22 = .ok (.aload_n 0, 1) := by decide +kernel
theorem dX10_slips_23 : decode cX10_slips 23 = .ok (.getfield 19, 3) := by decide +kernel
theorem dX10_slips_26 : decode cX10_slips 26 = .ok (.iload_n 1, 1) := by decide +kernel
theorem dX10_slips_27 : decode cX10_slips 27 = .ok (.iload_n 2, 1) := by decide +kernel
theorem dX10_slips_28 : decode cX10_slips 28 = .ok (.invokevirtual 156, 3) := by decide +kernel
theorem dX10_slips_31 : decode cX10_slips 31 = .ok (.goto 4, 3) := by decide +kernel
theorem dX10_slips_34 : decode cX10_slips 34 = .ok (.iconst (-1), 1) := by decide +kernel
theorem dX10_slips_35 : decode cX10_slips 35 = .ok (.ireturn, 1) := by decide +kernel
theorem dX10_examiner_0 : decode cX10_examiner 0 = .ok (.aload_n 0, 1) := by decide +kernel
theorem dX10_examiner_1 : decode cX10_examiner 1 = .ok (.getfield 19, 3) := by decide +kernel
theorem dX10_examiner_4 : decode cX10_examiner 4 = .ok (.invokevirtual 159, 3) := by decide +kernel
theorem dX10_examiner_7 : decode cX10_examiner 7 = .ok (.ireturn, 1) := by decide +kernel
theorem dX10_log_0 : decode cX10_log 0 = .ok (.iload_n 1, 1) := by decide +kernel
theorem dX10_log_1 : decode cX10_log 1 = .ok (.ifCond .lt 27, 3) := by decide +kernel
theorem dX10_log_4 : decode cX10_log 4 = .ok (.iload_n 1, 1) := by decide +kernel
theorem dX10_log_5 : decode cX10_log 5 = .ok (.aload_n 0, 1) := by decide +kernel
theorem dX10_log_6 : decode cX10_log 6 = .ok (.getfield 52, 3) := by decide +kernel
theorem dX10_log_9 : decode cX10_log 9 = .ok (.aload_n 0, 1) := by decide +kernel
theorem dX10_log_10 : decode cX10_log 10 = .ok (.getfield 19, 3) := by decide +kernel
theorem dX10_log_13 : decode cX10_log 13 = .ok (.invokevirtual 162, 3) := by decide +kernel
theorem dX10_log_16 : decode cX10_log 16 = .ok (.if_icmp .ge 12, 3) := by decide +kernel
theorem dX10_log_19 : decode cX10_log 19 = .ok (.iload_n 2, 1) := by decide +kernel
theorem dX10_log_20 : decode cX10_log 20 = .ok (.ifCond .lt 8, 3) := by decide +kernel
theorem dX10_log_23 : decode cX10_log 23 = .ok (.iload_n 2, 1) := by decide +kernel
theorem dX10_log_24 : decode cX10_log 24 = .ok (.iconst 3, 1) := by decide +kernel
theorem dX10_log_25 : decode cX10_log 25 = .ok (.if_icmp .lt 6, 3) := by decide +kernel
theorem dX10_log_28 : decode cX10_log 28 = .ok (.ldc 165, 2) := by decide +kernel
theorem dX10_log_30 : decode cX10_log 30 = .ok (.ireturn, 1) := by decide +kernel
theorem dX10_log_31 : decode cX10_log 31 = .ok (.aload_n 0, 1) := by decide +kernel
theorem dX10_log_32 : decode cX10_log 32 = .ok (.getfield 52, 3) := by decide +kernel
theorem dX10_log_35 : decode cX10_log 35 = .ok (.aload_n 0, 1) := by decide +kernel
theorem dX10_log_36 : decode cX10_log 36 = .ok (.getfield 19, 3) := by decide +kernel
theorem dX10_log_39 : decode cX10_log 39 = .ok (.bipush 97, 2) := by decide +kernel
theorem dX10_log_41 : decode cX10_log 41 = .ok (.invokevirtual 142, 3) := by decide +kernel
theorem dX10_log_44 : decode cX10_log 44 = .ok (.iload_n 1, 1) := by decide +kernel
theorem dX10_log_45 : decode cX10_log 45 = .ok (.isub, 1) := by decide +kernel
theorem dX10_log_46 : decode cX10_log 46 = .ok (.iload_n 2, 1) := by decide +kernel
theorem dX10_log_47 : decode cX10_log 47 = .ok (.invokevirtual 166, 3) := by decide +kernel
theorem dX10_log_50 : decode cX10_log 50 = .ok (.ireturn, 1) := by decide +kernel
theorem dX10_count_0 : decode cX10_count 0 = .ok (.iload_n 1, 1) := by decide +kernel
theorem dX10_count_1 : decode cX10_count 1 = .ok (.tableswitch 186 0 11 #[63, 71, 79, 87, 95, 103, 113, 121, 131, 136, 166, 178], 63) := by decide +kernel
theorem dX10_count_64 : decode cX10_count 64 = .ok (.aload_n 0, 1) := by decide +kernel
theorem dX10_count_65 : decode cX10_count 65 = .ok (.getfield 19, 3) := by decide +kernel
theorem dX10_count_68 : decode cX10_count 68 = .ok (.invokevirtual 101, 3) := by decide +kernel
theorem dX10_count_71 : decode cX10_count 71 = .ok (.ireturn, 1) := by decide +kernel
theorem dX10_count_72 : decode cX10_count 72 = .ok (.aload_n 0, 1) := by decide +kernel
theorem dX10_count_73 : decode cX10_count 73 = .ok (.getfield 19, 3) := by decide +kernel
theorem dX10_count_76 : decode cX10_count 76 = .ok (.invokevirtual 169, 3) := by decide +kernel
theorem dX10_count_79 : decode cX10_count 79 = .ok (.ireturn, 1) := by decide +kernel
theorem dX10_count_80 : decode cX10_count 80 = .ok (.aload_n 0, 1) := by decide +kernel
theorem dX10_count_81 : decode cX10_count 81 = .ok (.getfield 45, 3) := by decide +kernel
theorem dX10_count_84 : decode cX10_count 84 = .ok (.invokevirtual 172, 3) := by decide +kernel
theorem dX10_count_87 : decode cX10_count 87 = .ok (.ireturn, 1) := by decide +kernel
theorem dX10_count_88 : decode cX10_count 88 = .ok (.aload_n 0, 1) := by decide +kernel
theorem dX10_count_89 : decode cX10_count 89 = .ok (.getfield 10, 3) := by decide +kernel
theorem dX10_count_92 : decode cX10_count 92 = .ok (.invokevirtual 78, 3) := by decide +kernel
theorem dX10_count_95 : decode cX10_count 95 = .ok (.ireturn, 1) := by decide +kernel
theorem dX10_count_96 : decode cX10_count 96 = .ok (.aload_n 0, 1) := by decide +kernel
theorem dX10_count_97 : decode cX10_count 97 = .ok (.getfield 45, 3) := by decide +kernel
theorem dX10_count_100 : decode cX10_count 100 = .ok (.invokevirtual 122, 3) := by decide +kernel
theorem dX10_count_103 : decode cX10_count 103 = .ok (.ireturn, 1) := by decide +kernel
theorem dX10_count_104 : decode cX10_count 104 = .ok (.aload_n 0, 1) := by decide +kernel
theorem dX10_count_105 : decode cX10_count 105 = .ok (.getfield 19, 3) := by decide +kernel
theorem dX10_count_108 : decode cX10_count 108 = .ok (.bipush 97, 2) := by decide +kernel
theorem dX10_count_110 : decode cX10_count 110 = .ok (.invokevirtual 142, 3) := by decide +kernel
theorem dX10_count_113 : decode cX10_count 113 = .ok (.ireturn, 1) := by decide +kernel
theorem dX10_count_114 : decode cX10_count 114 = .ok (.aload_n 0, 1) := by decide +kernel
theorem dX10_count_115 : decode cX10_count 115 = .ok (.getfield 19, 3) := by decide +kernel
theorem dX10_count_118 : decode cX10_count 118 = .ok (.invokevirtual 173, 3) := by decide +kernel
theorem dX10_count_121 : decode cX10_count 121 = .ok (.ireturn, 1) := by decide +kernel
theorem dX10_count_122 : decode cX10_count 122 = .ok (.aload_n 0, 1) := by decide +kernel
theorem dX10_count_123 : decode cX10_count 123 = .ok (.getfield 19, 3) := by decide +kernel
theorem dX10_count_126 : decode cX10_count 126 = .ok (.bipush 99, 2) := by decide +kernel
theorem dX10_count_128 : decode cX10_count 128 = .ok (.invokevirtual 142, 3) := by decide +kernel
theorem dX10_count_131 : decode cX10_count 131 = .ok (.ireturn, 1) := by decide +kernel
theorem dX10_count_132 : decode cX10_count 132 = .ok (.aload_n 0, 1) := by decide +kernel
theorem dX10_count_133 : decode cX10_count 133 = .ok (.getfield 148, 3) := by decide +kernel
theorem dX10_count_136 : decode cX10_count 136 = .ok (.ireturn, 1) := by decide +kernel
theorem dX10_count_137 : decode cX10_count 137 = .ok (.aload_n 0, 1) := by decide +kernel
theorem dX10_count_138 : decode cX10_count 138 = .ok (.getfield 19, 3) := by decide +kernel
theorem dX10_count_141 : decode cX10_count 141 = .ok (.invokevirtual 173, 3) := by decide +kernel
theorem dX10_count_144 : decode cX10_count 144 = .ok (.iconst (-1), 1) := by decide +kernel
theorem dX10_count_145 : decode cX10_count 145 = .ok (.if_icmp .ne 7, 3) := by decide +kernel
theorem dX10_count_148 : decode cX10_count 148 = .ok (.iconst 0, 1) := by decide +kernel
theorem dX10_count_149 : decode cX10_count 149 = .ok (.goto 17, 3) := by decide +kernel
theorem dX10_count_152 : decode cX10_count 152 = .ok (.aload_n 0, 1) := by decide +kernel
theorem dX10_count_153 : decode cX10_count 153 = .ok (.getfield 19, 3) := by decide +kernel
theorem dX10_count_156 : decode cX10_count 156 = .ok (.aload_n 0, 1) := by decide +kernel
theorem dX10_count_157 : decode cX10_count 157 = .ok (.getfield 19, 3) := by decide +kernel
theorem dX10_count_160 : decode cX10_count 160 = .ok (.invokevirtual 173, 3) := by decide +kernel
theorem dX10_count_163 : decode cX10_count 163 = .ok (.invokevirtual 119, 3) := by decide +kernel
theorem dX10_count_166 : decode cX10_count 166 = .ok (.ireturn, 1) := by decide +kernel
theorem dX10_count_167 : decode cX10_count 167 = .ok (.aload_n 0, 1) := by decide +kernel
theorem dX10_count_168 : decode cX10_count 168 = .ok (.getfield 52, 3) := by decide +kernel
theorem dX10_count_171 : decode cX10_count 171 = .ok (.aload_n 0, 1) := by decide +kernel
theorem dX10_count_172 : decode cX10_count 172 = .ok (.getfield 19, 3) := by decide +kernel
theorem dX10_count_175 : decode cX10_count 175 = .ok (.invokevirtual 162, 3) := by decide +kernel
theorem dX10_count_178 : decode cX10_count 178 = .ok (.ireturn, 1) := by decide +kernel
theorem dX10_count_179 : decode cX10_count 179 = .ok (.aload_n 0, 1) := by decide +kernel
theorem dX10_count_180 : decode cX10_count 180 = .ok (.getfield 52, 3) := by decide +kernel
theorem dX10_count_183 : decode cX10_count 183 = .ok (.invokevirtual 176, 3) := by decide +kernel
theorem dX10_count_186 : decode cX10_count 186 = .ok (.ireturn, 1) := by decide +kernel
theorem dX10_count_187 : decode cX10_count 187 = .ok (.ldc 165, 2) := by decide +kernel
theorem dX10_count_189 : decode cX10_count 189 = .ok (.ireturn, 1) := by decide +kernel
theorem dX10_teach_0 : decode cX10_teach 0 = .ok (.aload_n 0, 1) := by decide +kernel
theorem dX10_teach_1 : decode cX10_teach 1 = .ok (.iload_n 1, 1) := by decide +kernel
theorem dX10_teach_2 : decode cX10_teach 2 = .ok (.iload_n 2, 1) := by decide +kernel
theorem dX10_teach_3 : decode cX10_teach 3 = .ok (.invokevirtual 179, 3) := by decide +kernel
theorem dX10_teach_6 : decode cX10_teach 6 = .ok (.ifCond .eq 17, 3) := by decide +kernel
theorem dX10_teach_9 : decode cX10_teach 9 = .ok (.aload_n 0, 1) := by decide +kernel
theorem dX10_teach_10 : decode cX10_teach 10 = .ok (.getfield 19, 3) := by decide +kernel
theorem dX10_teach_13 : decode cX10_teach 13 = .ok (.iload_n 1, 1) := by decide +kernel
theorem dX10_teach_14 : decode cX10_teach 14 = .ok (.bipush 6, 2) := by decide +kernel
theorem dX10_teach_16 : decode cX10_teach 16 = .ok (.invokevirtual 129, 3) := by decide +kernel
theorem dX10_teach_19 : decode cX10_teach 19 = .ok (.iconst (-1), 1) := by decide +kernel
theorem dX10_teach_20 : decode cX10_teach 20 = .ok (.if_icmp .eq 5, 3) := by decide +kernel
theorem dX10_teach_23 : decode cX10_teach 23 = .ok (.iconst (-1), 1) := by decide +kernel
theorem dX10_teach_24 : decode cX10_teach 24 = .ok (.ireturn, 1) := by decide +kernel
theorem dX10_teach_25 : decode cX10_teach 25 = .ok (.aload_n 0, 1) := by decide +kernel
theorem dX10_teach_26 : decode cX10_teach 26 = .ok (.getfield 19, 3) := by decide +kernel
theorem dX10_teach_29 : decode cX10_teach 29 = .ok (.iload_n 1, 1) := by decide +kernel
theorem dX10_teach_30 : decode cX10_teach 30 = .ok (.bipush 8, 2) := by decide +kernel
theorem dX10_teach_32 : decode cX10_teach 32 = .ok (.iload_n 2, 1) := by decide +kernel
theorem dX10_teach_33 : decode cX10_teach 33 = .ok (.invokevirtual 182, 3) := by decide +kernel
theorem dX10_teach_36 : decode cX10_teach 36 = .ok (.ifCond .ne 15, 3) := by decide +kernel
theorem dX10_teach_39 : decode cX10_teach 39 = .ok (.aload_n 0, 1) := by decide +kernel
theorem dX10_teach_40 : decode cX10_teach 40 = .ok (.getfield 19, 3) := by decide +kernel
theorem dX10_teach_43 : decode cX10_teach 43 = .ok (.iload_n 1, 1) := by decide +kernel
theorem dX10_teach_44 : decode cX10_teach 44 = .ok (.iload_n 2, 1) := by decide +kernel
theorem dX10_teach_45 : decode cX10_teach 45 = .ok (.invokevirtual 186, 3) := by decide +kernel
theorem dX10_teach_48 : decode cX10_teach 48 = .ok (.ifCond .eq 5, 3) := by decide +kernel
theorem dX10_teach_51 : decode cX10_teach 51 = .ok (.iconst (-1), 1) := by decide +kernel
theorem dX10_teach_52 : decode cX10_teach 52 = .ok (.ireturn, 1) := by decide +kernel
theorem dX10_teach_53 : decode cX10_teach 53 = .ok (.aload_n 0, 1) := by decide +kernel
theorem dX10_teach_54 : decode cX10_teach 54 = .ok (.getfield 52, 3) := by decide +kernel
theorem dX10_teach_57 : decode cX10_teach 57 = .ok (.aload_n 0, 1) := by decide +kernel
theorem dX10_teach_58 : decode cX10_teach 58 = .ok (.getfield 19, 3) := by decide +kernel
theorem dX10_teach_61 : decode cX10_teach 61 = .ok (.invokevirtual 189, 3) := by decide +kernel
theorem dX10_teach_64 : decode cX10_teach 64 = .ok (.aload_n 0, 1) := by decide +kernel
theorem dX10_teach_65 : decode cX10_teach 65 = .ok (.getfield 19, 3) := by decide +kernel
theorem dX10_teach_68 : decode cX10_teach 68 = .ok (.iload_n 1, 1) := by decide +kernel
theorem dX10_teach_69 : decode cX10_teach 69 = .ok (.iload_n 2, 1) := by decide +kernel
theorem dX10_teach_70 : decode cX10_teach 70 = .ok (.invokevirtual 192, 3) := by decide +kernel
theorem dX10_teach_73 : decode cX10_teach 73 = .ok (.aload_n 0, 1) := by decide +kernel
theorem dX10_teach_74 : decode cX10_teach 74 = .ok (.getfield 52, 3) := by decide +kernel
theorem dX10_teach_77 : decode cX10_teach 77 = .ok (.invokevirtual 176, 3) := by decide +kernel
theorem dX10_teach_80 : decode cX10_teach 80 = .ok (.ireturn, 1) := by decide +kernel
theorem dX10_wrong_0 : decode cX10_wrong 0 = .ok (.aload_n 0, 1) := by decide +kernel
theorem dX10_wrong_1 : decode cX10_wrong 1 = .ok (.iload_n 1, 1) := by decide +kernel
theorem dX10_wrong_2 : decode cX10_wrong 2 = .ok (.iload_n 2, 1) := by decide +kernel
theorem dX10_wrong_3 : decode cX10_wrong 3 = .ok (.invokevirtual 179, 3) := by decide +kernel
theorem dX10_wrong_6 : decode cX10_wrong 6 = .ok (.ifCond .eq 16, 3) := by decide +kernel
theorem dX10_wrong_9 : decode cX10_wrong 9 = .ok (.aload_n 0, 1) := by decide +kernel
theorem dX10_wrong_10 : decode cX10_wrong 10 = .ok (.getfield 19, 3) := by decide +kernel
theorem dX10_wrong_13 : decode cX10_wrong 13 = .ok (.iload_n 1, 1) := by decide +kernel
theorem dX10_wrong_14 : decode cX10_wrong 14 = .ok (.iconst 2, 1) := by decide +kernel
theorem dX10_wrong_15 : decode cX10_wrong 15 = .ok (.iload_n 2, 1) := by decide +kernel
theorem dX10_wrong_16 : decode cX10_wrong 16 = .ok (.invokevirtual 182, 3) := by decide +kernel
theorem dX10_wrong_19 : decode cX10_wrong 19 = .ok (.ifCond .eq 5, 3) := by decide +kernel
theorem dX10_wrong_22 : decode cX10_wrong 22 = .ok (.iconst (-1), 1) := by decide +kernel
theorem dX10_wrong_23 : decode cX10_wrong 23 = .ok (.ireturn, 1) := by decide +kernel
theorem dX10_wrong_24 : decode cX10_wrong 24 = .ok (.aload_n 0, 1) := by decide +kernel
theorem dX10_wrong_25 : decode cX10_wrong 25 = .ok (.getfield 52, 3) := by decide +kernel
theorem dX10_wrong_28 : decode cX10_wrong 28 = .ok (.aload_n 0, 1) := by decide +kernel
theorem dX10_wrong_29 : decode cX10_wrong 29 = .ok (.getfield 19, 3) := by decide +kernel
theorem dX10_wrong_32 : decode cX10_wrong 32 = .ok (.invokevirtual 189, 3) := by decide +kernel
theorem dX10_wrong_35 : decode cX10_wrong 35 = .ok (.aload_n 0, 1) := by decide +kernel
theorem dX10_wrong_36 : decode cX10_wrong 36 = .ok (.getfield 19, 3) := by decide +kernel
theorem dX10_wrong_39 : decode cX10_wrong 39 = .ok (.iload_n 1, 1) := by decide +kernel
theorem dX10_wrong_40 : decode cX10_wrong 40 = .ok (.iconst 2, 1) := by decide +kernel
theorem dX10_wrong_41 : decode cX10_wrong 41 = .ok (.iload_n 2, 1) := by decide +kernel
theorem dX10_wrong_42 : decode cX10_wrong 42 = .ok (.iconst 1, 1) := by decide +kernel
theorem dX10_wrong_43 : decode cX10_wrong 43 = .ok (.invokevirtual 196, 3) := by decide +kernel
theorem dX10_wrong_46 : decode cX10_wrong 46 = .ok (.aload_n 0, 1) := by decide +kernel
theorem dX10_wrong_47 : decode cX10_wrong 47 = .ok (.getfield 52, 3) := by decide +kernel
theorem dX10_wrong_50 : decode cX10_wrong 50 = .ok (.invokevirtual 176, 3) := by decide +kernel
theorem dX10_wrong_53 : decode cX10_wrong 53 = .ok (.ireturn, 1) := by decide +kernel
theorem dX10_keep_0 : decode cX10_keep 0 = .ok (.aload_n 0, 1) := by decide +kernel
theorem dX10_keep_1 : decode cX10_keep 1 = .ok (.iload_n 1, 1) := by decide +kernel
theorem dX10_keep_2 : decode cX10_keep 2 = .ok (.iload_n 2, 1) := by decide +kernel
theorem dX10_keep_3 : decode cX10_keep 3 = .ok (.invokevirtual 179, 3) := by decide +kernel
theorem dX10_keep_6 : decode cX10_keep 6 = .ok (.ifCond .eq 18, 3) := by decide +kernel
theorem dX10_keep_9 : decode cX10_keep 9 = .ok (.aload_n 0, 1) := by decide +kernel
theorem dX10_keep_10 : decode cX10_keep 10 = .ok (.getfield 19, 3) := by decide +kernel
theorem dX10_keep_13 : decode cX10_keep 13 = .ok (.iload_n 1, 1) := by decide +kernel
theorem dX10_keep_14 : decode cX10_keep 14 = .ok (.bipush 8, 2) := by decide +kernel
theorem dX10_keep_16 : decode cX10_keep 16 = .ok (.iload_n 2, 1) := by decide +kernel
theorem dX10_keep_17 : decode cX10_keep 17 = .ok (.invokevirtual 182, 3) := by decide +kernel
theorem dX10_keep_20 : decode cX10_keep 20 = .ok (.iload_n 3, 1) := by decide +kernel
theorem dX10_keep_21 : decode cX10_keep 21 = .ok (.if_icmp .ne 5, 3) := by decide +kernel
theorem dX10_keep_24 : decode cX10_keep 24 = .ok (.iconst (-1), 1) := by decide +kernel
theorem dX10_keep_25 : decode cX10_keep 25 = .ok (.ireturn, 1) := by decide +kernel
theorem dX10_keep_26 : decode cX10_keep 26 = .ok (.aload_n 0, 1) := by decide +kernel
theorem dX10_keep_27 : decode cX10_keep 27 = .ok (.getfield 52, 3) := by decide +kernel
theorem dX10_keep_30 : decode cX10_keep 30 = .ok (.aload_n 0, 1) := by decide +kernel
theorem dX10_keep_31 : decode cX10_keep 31 = .ok (.getfield 19, 3) := by decide +kernel
theorem dX10_keep_34 : decode cX10_keep 34 = .ok (.invokevirtual 189, 3) := by decide +kernel
theorem dX10_keep_37 : decode cX10_keep 37 = .ok (.aload_n 0, 1) := by decide +kernel
theorem dX10_keep_38 : decode cX10_keep 38 = .ok (.getfield 19, 3) := by decide +kernel
theorem dX10_keep_41 : decode cX10_keep 41 = .ok (.iload_n 1, 1) := by decide +kernel
theorem dX10_keep_42 : decode cX10_keep 42 = .ok (.iload_n 2, 1) := by decide +kernel
theorem dX10_keep_43 : decode cX10_keep 43 = .ok (.iload_n 3, 1) := by decide +kernel
theorem dX10_keep_44 : decode cX10_keep 44 = .ok (.invokevirtual 200, 3) := by decide +kernel
theorem dX10_keep_47 : decode cX10_keep 47 = .ok (.aload_n 0, 1) := by decide +kernel
theorem dX10_keep_48 : decode cX10_keep 48 = .ok (.getfield 52, 3) := by decide +kernel
theorem dX10_keep_51 : decode cX10_keep 51 = .ok (.invokevirtual 176, 3) := by decide +kernel
theorem dX10_keep_54 : decode cX10_keep 54 = .ok (.ireturn, 1) := by decide +kernel
theorem dX10_buy_0 : decode cX10_buy 0 = .ok (.aload_n 0, 1) := by decide +kernel
theorem dX10_buy_1 : decode cX10_buy 1 = .ok (.iload_n 1, 1) := by decide +kernel
theorem dX10_buy_2 : decode cX10_buy 2 = .ok (.iload_n 2, 1) := by decide +kernel
theorem dX10_buy_3 : decode cX10_buy 3 = .ok (.invokevirtual 179, 3) := by decide +kernel
theorem dX10_buy_6 : decode cX10_buy 6 = .ok (.ifCond .eq 15, 3) := by decide +kernel
theorem dX10_buy_9 : decode cX10_buy 9 = .ok (.aload_n 0, 1) := by decide +kernel
theorem dX10_buy_10 : decode cX10_buy 10 = .ok (.getfield 19, 3) := by decide +kernel
theorem dX10_buy_13 : decode cX10_buy 13 = .ok (.iload_n 1, 1) := by decide +kernel
theorem dX10_buy_14 : decode cX10_buy 14 = .ok (.iload_n 2, 1) := by decide +kernel
theorem dX10_buy_15 : decode cX10_buy 15 = .ok (.invokevirtual 186, 3) := by decide +kernel
theorem dX10_buy_18 : decode cX10_buy 18 = .ok (.ifCond .eq 5, 3) := by decide +kernel
theorem dX10_buy_21 : decode cX10_buy 21 = .ok (.iconst (-1), 1) := by decide +kernel
theorem dX10_buy_22 : decode cX10_buy 22 = .ok (.ireturn, 1) := by decide +kernel
theorem dX10_buy_23 : decode cX10_buy 23 = .ok (.aload_n 0, 1) := by decide +kernel
theorem dX10_buy_24 : decode cX10_buy 24 = .ok (.getfield 19, 3) := by decide +kernel
theorem dX10_buy_27 : decode cX10_buy 27 = .ok (.bipush 99, 2) := by decide +kernel
theorem dX10_buy_29 : decode cX10_buy 29 = .ok (.invokevirtual 142, 3) := by decide +kernel
theorem dX10_buy_32 : decode cX10_buy 32 = .ok (.aload_n 0, 1) := by decide +kernel
theorem dX10_buy_33 : decode cX10_buy 33 = .ok (.getfield 19, 3) := by decide +kernel
theorem dX10_buy_36 : decode cX10_buy 36 = .ok (.bipush 94, 2) := by decide +kernel
theorem dX10_buy_38 : decode cX10_buy 38 = .ok (.invokevirtual 142, 3) := by decide +kernel
theorem dX10_buy_41 : decode cX10_buy 41 = .ok (.isub, 1) := by decide +kernel
theorem dX10_buy_42 : decode cX10_buy 42 = .ok (.istore_n 3, 1) := by decide +kernel
theorem dX10_buy_43 : decode cX10_buy 43 = .ok (.iload_n 3, 1) := by decide +kernel
theorem dX10_buy_44 : decode cX10_buy 44 = .ok (.ifCond .ge 5, 3) := by decide +kernel
theorem dX10_buy_47 : decode cX10_buy 47 = .ok (.iconst (-1), 1) := by decide +kernel
theorem dX10_buy_48 : decode cX10_buy 48 = .ok (.ireturn, 1) := by decide +kernel
theorem dX10_buy_49 : decode cX10_buy 49 = .ok (.aload_n 0, 1) := by decide +kernel
theorem dX10_buy_50 : decode cX10_buy 50 = .ok (.getfield 52, 3) := by decide +kernel
theorem dX10_buy_53 : decode cX10_buy 53 = .ok (.aload_n 0, 1) := by decide +kernel
theorem dX10_buy_54 : decode cX10_buy 54 = .ok (.getfield 19, 3) := by decide +kernel
theorem dX10_buy_57 : decode cX10_buy 57 = .ok (.invokevirtual 189, 3) := by decide +kernel
theorem dX10_buy_60 : decode cX10_buy 60 = .ok (.aload_n 0, 1) := by decide +kernel
theorem dX10_buy_61 : decode cX10_buy 61 = .ok (.getfield 19, 3) := by decide +kernel
theorem dX10_buy_64 : decode cX10_buy 64 = .ok (.bipush 99, 2) := by decide +kernel
theorem dX10_buy_66 : decode cX10_buy 66 = .ok (.iload_n 3, 1) := by decide +kernel
theorem dX10_buy_67 : decode cX10_buy 67 = .ok (.invokevirtual 204, 3) := by decide +kernel
theorem dX10_buy_70 : decode cX10_buy 70 = .ok (.aload_n 0, 1) := by decide +kernel
theorem dX10_buy_71 : decode cX10_buy 71 = .ok (.getfield 19, 3) := by decide +kernel
theorem dX10_buy_74 : decode cX10_buy 74 = .ok (.iload_n 1, 1) := by decide +kernel
theorem dX10_buy_75 : decode cX10_buy 75 = .ok (.iload_n 2, 1) := by decide +kernel
theorem dX10_buy_76 : decode cX10_buy 76 = .ok (.invokevirtual 207, 3) := by decide +kernel
theorem dX10_buy_79 : decode cX10_buy 79 = .ok (.iload_n 3, 1) := by decide +kernel
theorem dX10_buy_80 : decode cX10_buy 80 = .ok (.ireturn, 1) := by decide +kernel
theorem dX10_months_0 : decode cX10_months 0 = .ok (.aload_n 0, 1) := by decide +kernel
theorem dX10_months_1 : decode cX10_months 1 = .ok (.getfield 19, 3) := by decide +kernel
theorem dX10_months_4 : decode cX10_months 4 = .ok (.invokevirtual 139, 3) := by decide +kernel
theorem dX10_months_7 : decode cX10_months 7 = .ok (.ifCond .eq 14, 3) := by decide +kernel
theorem dX10_months_10 : decode cX10_months 10 = .ok (.iload_n 1, 1) := by decide +kernel
theorem dX10_months_11 : decode cX10_months 11 = .ok (.iconst 1, 1) := by decide +kernel
theorem dX10_months_12 : decode cX10_months 12 = .ok (.if_icmp .lt 9, 3) := by decide +kernel
theorem dX10_months_15 : decode cX10_months 15 = .ok (.iload_n 1, 1) := by decide +kernel
theorem dX10_months_16 : decode cX10_months 16 = .ok (.bipush 60, 2) := by decide +kernel
theorem dX10_months_18 : decode cX10_months 18 = .ok (.if_icmp .le 5, 3) := by decide +kernel
theorem dX10_months_21 : decode cX10_months 21 = .ok (.iconst (-1), 1) := by decide +kernel
theorem dX10_months_22 : decode cX10_months 22 = .ok (.ireturn, 1) := by decide +kernel
theorem dX10_months_23 : decode cX10_months 23 = .ok (.iconst 0, 1) := by decide +kernel
theorem dX10_months_24 : decode cX10_months 24 = .ok (.istore_n 2, 1) := by decide +kernel
theorem dX10_months_25 : decode cX10_months 25 = .ok (.iload_n 2, 1) := by decide +kernel
theorem dX10_months_26 : decode cX10_months 26 = .ok (.iload_n 1, 1) := by decide +kernel
theorem dX10_months_27 : decode cX10_months 27 = .ok (.if_icmp .ge 14, 3) := by decide +kernel
theorem dX10_months_30 : decode cX10_months 30 = .ok (.aload_n 0, 1) := by decide +kernel
theorem dX10_months_31 : decode cX10_months 31 = .ok (.iconst 0, 1) := by decide +kernel
theorem dX10_months_32 : decode cX10_months 32 = .ok (.invokevirtual 210, 3) := by decide +kernel
theorem dX10_months_35 : decode cX10_months 35 = .ok (.iinc 2 1, 3) := by decide +kernel
theorem dX10_months_38 : decode cX10_months 38 = .ok (.goto (-13), 3) := by decide +kernel
theorem dX10_months_41 : decode cX10_months 41 = .ok (.aload_n 0, 1) := by decide +kernel
theorem dX10_months_42 : decode cX10_months 42 = .ok (.getfield 19, 3) := by decide +kernel
theorem dX10_months_45 : decode cX10_months 45 = .ok (.bipush 97, 2) := by decide +kernel
theorem dX10_months_47 : decode cX10_months 47 = .ok (.invokevirtual 142, 3) := by decide +kernel
theorem dX10_months_50 : decode cX10_months 50 = .ok (.ireturn, 1) := by decide +kernel
theorem dX10_fevers_0 : decode cX10_fevers 0 = .ok (.aload_n 0, 1) := by decide +kernel
theorem dX10_fevers_1 : decode cX10_fevers 1 = .ok (.getfield 19, 3) := by decide +kernel
theorem dX10_fevers_4 : decode cX10_fevers 4 = .ok (.invokevirtual 139, 3) := by decide +kernel
theorem dX10_fevers_7 : decode cX10_fevers 7 = .ok (.ifCond .eq 14, 3) := by decide +kernel
theorem dX10_fevers_10 : decode cX10_fevers 10 = .ok (.iload_n 1, 1) := by decide +kernel
theorem dX10_fevers_11 : decode cX10_fevers 11 = .ok (.iconst 1, 1) := by decide +kernel
theorem dX10_fevers_12 : decode cX10_fevers 12 = .ok (.if_icmp .lt 9, 3) := by decide +kernel
theorem dX10_fevers_15 : decode cX10_fevers 15 = .ok (.iload_n 1, 1) := by decide +kernel
theorem dX10_fevers_16 : decode cX10_fevers 16 = .ok (.bipush 60, 2) := by decide +kernel
theorem dX10_fevers_18 : decode cX10_fevers 18 = .ok (.if_icmp .le 5, 3) := by decide +kernel
theorem dX10_fevers_21 : decode cX10_fevers 21 = .ok (.iconst (-1), 1) := by decide +kernel
theorem dX10_fevers_22 : decode cX10_fevers 22 = .ok (.ireturn, 1) := by decide +kernel
theorem dX10_fevers_23 : decode cX10_fevers 23 = .ok (.aload_n 0, 1) := by decide +kernel
theorem dX10_fevers_24 : decode cX10_fevers 24 = .ok (.lload_n 2, 1) := by decide +kernel
theorem dX10_fevers_25 : decode cX10_fevers 25 = .ok (.putfield 214, 3) := by decide +kernel
theorem dX10_fevers_28 : decode cX10_fevers 28 = .ok (.iconst 0, 1) := by decide +kernel
theorem dX10_fevers_29 : decode cX10_fevers 29 = .ok (.istore 4, 2) := by decide +kernel
theorem dX10_fevers_31 : decode cX10_fevers 31 = .ok (.iload 4, 2) := by decide +kernel
theorem dX10_fevers_33 : decode cX10_fevers 33 = .ok (.iload_n 1, 1) := by decide +kernel
theorem dX10_fevers_34 : decode cX10_fevers 34 = .ok (.if_icmp .ge 14, 3) := by decide +kernel
theorem dX10_fevers_37 : decode cX10_fevers 37 = .ok (.aload_n 0, 1) := by decide +kernel
theorem dX10_fevers_38 : decode cX10_fevers 38 = .ok (.iconst 1, 1) := by decide +kernel
theorem dX10_fevers_39 : decode cX10_fevers 39 = .ok (.invokevirtual 210, 3) := by decide +kernel
theorem dX10_fevers_42 : decode cX10_fevers 42 = .ok (.iinc 4 1, 3) := by decide +kernel
theorem dX10_fevers_45 : decode cX10_fevers 45 = .ok (.goto (-14), 3) := by decide +kernel
theorem dX10_fevers_48 : decode cX10_fevers 48 = .ok (.aload_n 0, 1) := by decide +kernel
theorem dX10_fevers_49 : decode cX10_fevers 49 = .ok (.getfield 19, 3) := by decide +kernel
theorem dX10_fevers_52 : decode cX10_fevers 52 = .ok (.bipush 97, 2) := by decide +kernel
theorem dX10_fevers_54 : decode cX10_fevers 54 = .ok (.invokevirtual 142, 3) := by decide +kernel
theorem dX10_fevers_57 : decode cX10_fevers 57 = .ok (.ireturn, 1) := by decide +kernel
theorem dX10_undo_0 : decode cX10_undo 0 = .ok (.aload_n 0, 1) := by decide +kernel
theorem dX10_undo_1 : decode cX10_undo 1 = .ok (.getfield 52, 3) := by decide +kernel
theorem dX10_undo_4 : decode cX10_undo 4 = .ok (.invokevirtual 176, 3) := by decide +kernel
theorem dX10_undo_7 : decode cX10_undo 7 = .ok (.ifCond .ne 5, 3) := by decide +kernel
theorem dX10_undo_10 : decode cX10_undo 10 = .ok (.iconst (-1), 1) := by decide +kernel
theorem dX10_undo_11 : decode cX10_undo 11 = .ok (.ireturn, 1) := by decide +kernel
theorem dX10_undo_12 : decode cX10_undo 12 = .ok (.aload_n 0, 1) := by decide +kernel
theorem dX10_undo_13 : decode cX10_undo 13 = .ok (.getfield 52, 3) := by decide +kernel
theorem dX10_undo_16 : decode cX10_undo 16 = .ok (.aload_n 0, 1) := by decide +kernel
theorem dX10_undo_17 : decode cX10_undo 17 = .ok (.getfield 19, 3) := by decide +kernel
theorem dX10_undo_20 : decode cX10_undo 20 = .ok (.invokevirtual 218, 3) := by decide +kernel
theorem dX10_undo_23 : decode cX10_undo 23 = .ok (.aload_n 0, 1) := by decide +kernel
theorem dX10_undo_24 : decode cX10_undo 24 = .ok (.getfield 52, 3) := by decide +kernel
theorem dX10_undo_27 : decode cX10_undo 27 = .ok (.invokevirtual 176, 3) := by decide +kernel
theorem dX10_undo_30 : decode cX10_undo 30 = .ok (.ireturn, 1) := by decide +kernel
theorem dX10_image_0 : decode cX10_image 0 = .ok (.aload_n 0, 1) := by decide +kernel
theorem dX10_image_1 : decode cX10_image 1 = .ok (.getfield 19, 3) := by decide +kernel
theorem dX10_image_4 : decode cX10_image 4 = .ok (.invokevirtual 139, 3) := by decide +kernel
theorem dX10_image_7 : decode cX10_image 7 = .ok (.ifCond .ne 5, 3) := by decide +kernel
theorem dX10_image_10 : decode cX10_image 10 = .ok (.iconst (-1), 1) := by decide +kernel
theorem dX10_image_11 : decode cX10_image 11 = .ok (.ireturn, 1) := by decide +kernel
theorem dX10_image_12 : decode cX10_image 12 = .ok (.aload_n 0, 1) := by decide +kernel
theorem dX10_image_13 : decode cX10_image 13 = .ok (.getfield 52, 3) := by decide +kernel
theorem dX10_image_16 : decode cX10_image 16 = .ok (.aload_n 0, 1) := by decide +kernel
theorem dX10_image_17 : decode cX10_image 17 = .ok (.getfield 19, 3) := by decide +kernel
theorem dX10_image_20 : decode cX10_image 20 = .ok (.invokevirtual 221, 3) := by decide +kernel
theorem dX10_image_23 : decode cX10_image 23 = .ok (.aload_n 0, 1) := by decide +kernel
theorem dX10_image_24 : decode cX10_image 24 = .ok (.getfield 19, 3) := by decide +kernel
theorem dX10_image_27 : decode cX10_image 27 = .ok (.bipush 97, 2) := by decide +kernel
theorem dX10_image_29 : decode cX10_image 29 = .ok (.invokevirtual 142, 3) := by decide +kernel
theorem dX10_image_32 : decode cX10_image 32 = .ok (.ireturn, 1) := by decide +kernel
theorem dX10_back_0 : decode cX10_back 0 = .ok (.aload_n 0, 1) := by decide +kernel
theorem dX10_back_1 : decode cX10_back 1 = .ok (.getfield 52, 3) := by decide +kernel
theorem dX10_back_4 : decode cX10_back 4 = .ok (.invokevirtual 224, 3) := by decide +kernel
theorem dX10_back_7 : decode cX10_back 7 = .ok (.ifCond .ne 5, 3) := by decide +kernel
theorem dX10_back_10 : decode cX10_back 10 = .ok (.iconst (-1), 1) := by decide +kernel
theorem dX10_back_11 : decode cX10_back 11 = .ok (.ireturn, 1) := by decide +kernel
theorem dX10_back_12 : decode cX10_back 12 = .ok (.aload_n 0, 1) := by decide +kernel
theorem dX10_back_13 : decode cX10_back 13 = .ok (.getfield 52, 3) := by decide +kernel
theorem dX10_back_16 : decode cX10_back 16 = .ok (.aload_n 0, 1) := by decide +kernel
theorem dX10_back_17 : decode cX10_back 17 = .ok (.getfield 19, 3) := by decide +kernel
theorem dX10_back_20 : decode cX10_back 20 = .ok (.invokevirtual 227, 3) := by decide +kernel
theorem dX10_back_23 : decode cX10_back 23 = .ok (.aload_n 0, 1) := by decide +kernel
theorem dX10_back_24 : decode cX10_back 24 = .ok (.getfield 19, 3) := by decide +kernel
theorem dX10_back_27 : decode cX10_back 27 = .ok (.bipush 97, 2) := by decide +kernel
theorem dX10_back_29 : decode cX10_back 29 = .ok (.invokevirtual 142, 3) := by decide +kernel
theorem dX10_back_32 : decode cX10_back 32 = .ok (.ireturn, 1) := by decide +kernel
theorem dX10_liveMonth_0 : decode cX10_liveMonth 0 = .ok (.aload_n 0, 1) := by decide +kernel
theorem dX10_liveMonth_1 : decode cX10_liveMonth 1 = .ok (.getfield 52, 3) := by decide +kernel
theorem dX10_liveMonth_4 : decode cX10_liveMonth 4 = .ok (.aload_n 0, 1) := by decide +kernel
theorem dX10_liveMonth_5 : decode cX10_liveMonth 5 = .ok (.getfield 19, 3) := by decide +kernel
theorem dX10_liveMonth_8 : decode cX10_liveMonth 8 = .ok (.invokevirtual 189, 3) := by decide +kernel
theorem dX10_liveMonth_11 : decode cX10_liveMonth 11 = .ok (.aload_n 0, 1) := by decide +kernel
theorem dX10_liveMonth_12 : decode cX10_liveMonth 12 = .ok (.getfield 19, 3) := by decide +kernel
theorem dX10_liveMonth_15 : decode cX10_liveMonth 15 = .ok (.invokevirtual 230, 3) := by decide +kernel
theorem dX10_liveMonth_18 : decode cX10_liveMonth 18 = .ok (.iload_n 1, 1) := by decide +kernel
theorem dX10_liveMonth_19 : decode cX10_liveMonth 19 = .ok (.ifCond .eq 7, 3) := by decide +kernel
theorem dX10_liveMonth_22 : decode cX10_liveMonth 22 = .ok (.aload_n 0, 1) := by decide +kernel
theorem dX10_liveMonth_23 : decode cX10_liveMonth 23 = .ok (.invokevirtual 233, 3) := by decide +kernel
theorem dX10_liveMonth_26 : decode cX10_liveMonth 26 = .ok (.aload_n 0, 1) := by decide +kernel
theorem dX10_liveMonth_27 : decode cX10_liveMonth 27 = .ok (.getfield 19, 3) := by decide +kernel
theorem dX10_liveMonth_30 : decode cX10_liveMonth 30 = .ok (.invokevirtual 159, 3) := by decide +kernel
theorem dX10_liveMonth_33 : decode cX10_liveMonth 33 = .ok (.istore_n 2, 1) := by decide +kernel
theorem dX10_liveMonth_34 : decode cX10_liveMonth 34 = .ok (.aload_n 0, 1) := by decide +kernel
theorem dX10_liveMonth_35 : decode cX10_liveMonth 35 = .ok (.getfield 19, 3) := by decide +kernel
theorem dX10_liveMonth_38 : decode cX10_liveMonth 38 = .ok (.iload_n 2, 1) := by decide +kernel
theorem dX10_liveMonth_39 : decode cX10_liveMonth 39 = .ok (.invokevirtual 236, 3) := by decide +kernel
theorem dX10_liveMonth_42 : decode cX10_liveMonth 42 = .ok (.aload_n 0, 1) := by decide +kernel
theorem dX10_liveMonth_43 : decode cX10_liveMonth 43 = .ok (.getfield 19, 3) := by decide +kernel
theorem dX10_liveMonth_46 : decode cX10_liveMonth 46 = .ok (.invokevirtual 173, 3) := by decide +kernel
theorem dX10_liveMonth_49 : decode cX10_liveMonth 49 = .ok (.iconst (-1), 1) := by decide +kernel
theorem dX10_liveMonth_50 : decode cX10_liveMonth 50 = .ok (.if_icmp .ne 7, 3) := by decide +kernel
theorem dX10_liveMonth_53 : decode cX10_liveMonth 53 = .ok (.iconst 0, 1) := by decide +kernel
theorem dX10_liveMonth_54 : decode cX10_liveMonth 54 = .ok (.goto 28, 3) := by decide +kernel
theorem dX10_liveMonth_57 : decode cX10_liveMonth 57 = .ok (.aload_n 0, 1) := by decide +kernel
theorem dX10_liveMonth_58 : decode cX10_liveMonth 58 = .ok (.getfield 45, 3) := by decide +kernel
theorem dX10_liveMonth_61 : decode cX10_liveMonth 61 = .ok (.aload_n 0, 1) := by decide +kernel
theorem dX10_liveMonth_62 : decode cX10_liveMonth 62 = .ok (.getfield 19, 3) := by decide +kernel
theorem dX10_liveMonth_65 : decode cX10_liveMonth 65 = .ok (.aload_n 0, 1) := by decide +kernel
theorem dX10_liveMonth_66 : decode cX10_liveMonth 66 = .ok (.getfield 19, 3) := by decide +kernel
theorem dX10_liveMonth_69 : decode cX10_liveMonth 69 = .ok (.invokevirtual 173, 3) := by decide +kernel
theorem dX10_liveMonth_72 : decode cX10_liveMonth 72 = .ok (.aload_n 0, 1) := by decide +kernel
theorem dX10_liveMonth_73 : decode cX10_liveMonth 73 = .ok (.getfield 45, 3) := by decide +kernel
theorem dX10_liveMonth_76 : decode cX10_liveMonth 76 = .ok (.invokevirtual 122, 3) := by decide +kernel
theorem dX10_liveMonth_79 : decode cX10_liveMonth 79 = .ok (.invokevirtual 125, 3) := by decide +kernel
theorem dX10_liveMonth_82 : decode cX10_liveMonth 82 = .ok (.istore_n 3, 1) := by decide +kernel
theorem dX10_liveMonth_83 : decode cX10_liveMonth 83 = .ok (.aload_n 0, 1) := by decide +kernel
theorem dX10_liveMonth_84 : decode cX10_liveMonth 84 = .ok (.getfield 19, 3) := by decide +kernel
theorem dX10_liveMonth_87 : decode cX10_liveMonth 87 = .ok (.iload_n 3, 1) := by decide +kernel
theorem dX10_liveMonth_88 : decode cX10_liveMonth 88 = .ok (.invokevirtual 239, 3) := by decide +kernel
theorem dX10_liveMonth_91 : decode cX10_liveMonth 91 = .ok (.aload_n 0, 1) := by decide +kernel
theorem dX10_liveMonth_92 : decode cX10_liveMonth 92 = .ok (.getfield 52, 3) := by decide +kernel
theorem dX10_liveMonth_95 : decode cX10_liveMonth 95 = .ok (.aload_n 0, 1) := by decide +kernel
theorem dX10_liveMonth_96 : decode cX10_liveMonth 96 = .ok (.getfield 19, 3) := by decide +kernel
theorem dX10_liveMonth_99 : decode cX10_liveMonth 99 = .ok (.iload_n 2, 1) := by decide +kernel
theorem dX10_liveMonth_100 : decode cX10_liveMonth 100 = .ok (.iload_n 3, 1) := by decide +kernel
theorem dX10_liveMonth_101 : decode cX10_liveMonth 101 = .ok (.invokevirtual 242, 3) := by decide +kernel
theorem dX10_liveMonth_104 : decode cX10_liveMonth 104 = .ok (.return_, 1) := by decide +kernel
theorem dX10_spreadFever_0 : decode cX10_spreadFever 0 = .ok (.iconst 0, 1) := by decide +kernel
theorem dX10_spreadFever_1 : decode cX10_spreadFever 1 = .ok (.istore_n 1, 1) := by decide +kernel
theorem dX10_spreadFever_2 : decode cX10_spreadFever 2 = .ok (.iload_n 1, 1) := by decide +kernel
theorem dX10_spreadFever_3 : decode cX10_spreadFever 3 = .ok (.aload_n 0, 1) := by decide +kernel
theorem dX10_spreadFever_4 : decode cX10_spreadFever 4 = .ok (.getfield 19, 3) := by decide +kernel
theorem dX10_spreadFever_7 : decode cX10_spreadFever 7 = .ok (.invokevirtual 101, 3) := by decide +kernel
theorem dX10_spreadFever_10 : decode cX10_spreadFever 10 = .ok (.if_icmp .ge 34, 3) := by decide +kernel
theorem dX10_spreadFever_13 : decode cX10_spreadFever 13 = .ok (.aload_n 0, 1) := by decide +kernel
theorem dX10_spreadFever_14 : decode cX10_spreadFever 14 = .ok (.bipush 100, 2) := by decide +kernel
theorem dX10_spreadFever_16 : decode cX10_spreadFever 16 = .ok (.invokevirtual 246, 3) := by decide +kernel
theorem dX10_spreadFever_19 : decode cX10_spreadFever 19 = .ok (.aload_n 0, 1) := by decide +kernel
theorem dX10_spreadFever_20 : decode cX10_spreadFever 20 = .ok (.getfield 148, 3) := by decide +kernel
theorem dX10_spreadFever_23 : decode cX10_spreadFever 23 = .ok (.if_icmp .ge 15, 3) := by decide +kernel
theorem dX10_spreadFever_26 : decode cX10_spreadFever 26 = .ok (.aload_n 0, 1) := by decide +kernel
theorem dX10_spreadFever_27 : decode cX10_spreadFever 27 = .ok (.getfield 19, 3) := by decide +kernel
theorem dX10_spreadFever_30 : decode cX10_spreadFever 30 = .ok (.iload_n 1, 1) := by decide +kernel
theorem dX10_spreadFever_31 : decode cX10_spreadFever 31 = .ok (.iconst 1, 1) := by decide +kernel
theorem dX10_spreadFever_32 : decode cX10_spreadFever 32 = .ok (.bipush 7, 2) := by decide +kernel
theorem dX10_spreadFever_34 : decode cX10_spreadFever 34 = .ok (.iconst 0, 1) := by decide +kernel
theorem dX10_spreadFever_35 : decode cX10_spreadFever 35 = .ok (.invokevirtual 196, 3) := by decide +kernel
theorem dX10_spreadFever_38 : decode cX10_spreadFever 38 = .ok (.iinc 1 1, 3) := by decide +kernel
theorem dX10_spreadFever_41 : decode cX10_spreadFever 41 = .ok (.goto (-39), 3) := by decide +kernel
theorem dX10_spreadFever_44 : decode cX10_spreadFever 44 = .ok (.return_, 1) := by decide +kernel
theorem dX10_draw_0 : decode cX10_draw 0 = .ok (.aload_n 0, 1) := by decide +kernel
theorem dX10_draw_1 : decode cX10_draw 1 = .ok (.aload_n 0, 1) := by decide +kernel
theorem dX10_draw_2 : decode cX10_draw 2 = .ok (.getfield 214, 3) := by decide +kernel
theorem dX10_draw_5 : decode cX10_draw 5 = .ok (.ldc2_w 249, 3) := by decide +kernel
theorem dX10_draw_8 : decode cX10_draw 8 = .ok (.lmul, 1) := by decide +kernel
theorem dX10_draw_9 : decode cX10_draw 9 = .ok (.ldc2_w 251, 3) := by decide +kernel
theorem dX10_draw_12 : decode cX10_draw 12 = .ok (.ladd, 1) := by decide +kernel
theorem dX10_draw_13 : decode cX10_draw 13 = .ok (.putfield 214, 3) := by decide +kernel
theorem dX10_draw_16 : decode cX10_draw 16 = .ok (.iload_n 1, 1) := by decide +kernel
theorem dX10_draw_17 : decode cX10_draw 17 = .ok (.ifCond .le 17, 3) := by decide +kernel
theorem dX10_draw_20 : decode cX10_draw 20 = .ok (.aload_n 0, 1) := by decide +kernel
theorem dX10_draw_21 : decode cX10_draw 21 = .ok (.getfield 214, 3) := by decide +kernel
theorem dX10_draw_24 : decode cX10_draw 24 = .ok (.bipush 33, 2) := by decide +kernel
theorem dX10_draw_26 : decode cX10_draw 26 = .ok (.lushr, 1) := by decide +kernel
theorem dX10_draw_27 : decode cX10_draw 27 = .ok (.iload_n 1, 1) := by decide +kernel
theorem dX10_draw_28 : decode cX10_draw 28 = .ok (.i2l, 1) := by decide +kernel
theorem dX10_draw_29 : decode cX10_draw 29 = .ok (.lrem, 1) := by decide +kernel
theorem dX10_draw_30 : decode cX10_draw 30 = .ok (.l2i, 1) := by decide +kernel
theorem dX10_draw_31 : decode cX10_draw 31 = .ok (.goto 4, 3) := by decide +kernel
theorem dX10_draw_34 : decode cX10_draw 34 = .ok (.iconst 0, 1) := by decide +kernel
theorem dX10_draw_35 : decode cX10_draw 35 = .ok (.ireturn, 1) := by decide +kernel
theorem dX10_ahead_0 : decode cX10_ahead 0 = .ok (.aload_n 0, 1) := by decide +kernel
theorem dX10_ahead_1 : decode cX10_ahead 1 = .ok (.getfield 19, 3) := by decide +kernel
theorem dX10_ahead_4 : decode cX10_ahead 4 = .ok (.invokevirtual 139, 3) := by decide +kernel
theorem dX10_ahead_7 : decode cX10_ahead 7 = .ok (.ifCond .eq 20, 3) := by decide +kernel
theorem dX10_ahead_10 : decode cX10_ahead 10 = .ok (.iload_n 1, 1) := by decide +kernel
theorem dX10_ahead_11 : decode cX10_ahead 11 = .ok (.ifCond .lt 16, 3) := by decide +kernel
theorem dX10_ahead_14 : decode cX10_ahead 14 = .ok (.iload_n 1, 1) := by decide +kernel
theorem dX10_ahead_15 : decode cX10_ahead 15 = .ok (.bipush 60, 2) := by decide +kernel
theorem dX10_ahead_17 : decode cX10_ahead 17 = .ok (.if_icmp .gt 10, 3) := by decide +kernel
theorem dX10_ahead_20 : decode cX10_ahead 20 = .ok (.iload_n 2, 1) := by decide +kernel
theorem dX10_ahead_21 : decode cX10_ahead 21 = .ok (.invokestatic 253, 3) := by decide +kernel
theorem dX10_ahead_24 : decode cX10_ahead 24 = .ok (.ifCond .ne 6, 3) := by decide +kernel
theorem dX10_ahead_27 : decode cX10_ahead 27 = .ok (.ldc 165, 2) := by decide +kernel
theorem dX10_ahead_29 : decode cX10_ahead 29 = .ok (.ireturn, 1) := by decide +kernel
theorem dX10_ahead_30 : decode cX10_ahead 30 = .ok (.aload_n 0, 1) := by decide +kernel
theorem dX10_ahead_31 : decode cX10_ahead 31 = .ok (.getfield 70, 3) := by decide +kernel
theorem dX10_ahead_34 : decode cX10_ahead 34 = .ok (.iload_n 1, 1) := by decide +kernel
theorem dX10_ahead_35 : decode cX10_ahead 35 = .ok (.aload_n 0, 1) := by decide +kernel
theorem dX10_ahead_36 : decode cX10_ahead 36 = .ok (.getfield 45, 3) := by decide +kernel
theorem dX10_ahead_39 : decode cX10_ahead 39 = .ok (.invokevirtual 122, 3) := by decide +kernel
theorem dX10_ahead_42 : decode cX10_ahead 42 = .ok (.invokevirtual 256, 3) := by decide +kernel
theorem dX10_ahead_45 : decode cX10_ahead 45 = .ok (.iload_n 2, 1) := by decide +kernel
theorem dX10_ahead_46 : decode cX10_ahead 46 = .ok (.ifCond .ne 13, 3) := by decide +kernel
theorem dX10_ahead_49 : decode cX10_ahead 49 = .ok (.aload_n 0, 1) := by decide +kernel
theorem dX10_ahead_50 : decode cX10_ahead 50 = .ok (.getfield 23, 3) := by decide +kernel
theorem dX10_ahead_53 : decode cX10_ahead 53 = .ok (.invokevirtual 173, 3) := by decide +kernel
theorem dX10_ahead_56 : decode cX10_ahead 56 = .ok (.goto 12, 3) := by decide +kernel
theorem dX10_ahead_59 : decode cX10_ahead 59 = .ok (.aload_n 0, 1) := by decide +kernel
theorem dX10_ahead_60 : decode cX10_ahead 60 = .ok (.getfield 23, 3) := by decide +kernel
theorem dX10_ahead_63 : decode cX10_ahead 63 = .ok (.bipush 99, 2) := by decide +kernel
theorem dX10_ahead_65 : decode cX10_ahead 65 = .ok (.invokevirtual 142, 3) := by decide +kernel
theorem dX10_ahead_68 : decode cX10_ahead 68 = .ok (.ireturn, 1) := by decide +kernel
theorem dX10_reign_0 : decode cX10_reign 0 = .ok (.aload_n 0, 1) := by decide +kernel
theorem dX10_reign_1 : decode cX10_reign 1 = .ok (.getfield 19, 3) := by decide +kernel
theorem dX10_reign_4 : decode cX10_reign 4 = .ok (.invokevirtual 139, 3) := by decide +kernel
theorem dX10_reign_7 : decode cX10_reign 7 = .ok (.ifCond .eq 21, 3) := by decide +kernel
theorem dX10_reign_10 : decode cX10_reign 10 = .ok (.iload_n 2, 1) := by decide +kernel
theorem dX10_reign_11 : decode cX10_reign 11 = .ok (.iconst 1, 1) := by decide +kernel
theorem dX10_reign_12 : decode cX10_reign 12 = .ok (.if_icmp .lt 16, 3) := by decide +kernel
theorem dX10_reign_15 : decode cX10_reign 15 = .ok (.iload_n 2, 1) := by decide +kernel
theorem dX10_reign_16 : decode cX10_reign 16 = .ok (.bipush 60, 2) := by decide +kernel
theorem dX10_reign_18 : decode cX10_reign 18 = .ok (.if_icmp .gt 10, 3) := by decide +kernel
theorem dX10_reign_21 : decode cX10_reign 21 = .ok (.iload_n 3, 1) := by decide +kernel
theorem dX10_reign_22 : decode cX10_reign 22 = .ok (.invokestatic 253, 3) := by decide +kernel
theorem dX10_reign_25 : decode cX10_reign 25 = .ok (.ifCond .ne 5, 3) := by decide +kernel
theorem dX10_reign_28 : decode cX10_reign 28 = .ok (.iconst (-1), 1) := by decide +kernel
theorem dX10_reign_29 : decode cX10_reign 29 = .ok (.ireturn, 1) := by decide +kernel
theorem dX10_reign_30 : decode cX10_reign 30 = .ok (.iload_n 3, 1) := by decide +kernel
theorem dX10_reign_31 : decode cX10_reign 31 = .ok (.ifCond .ne 28, 3) := by decide +kernel
theorem dX10_reign_34 : decode cX10_reign 34 = .ok (.aload_n 0, 1) := by decide +kernel
theorem dX10_reign_35 : decode cX10_reign 35 = .ok (.getfield 19, 3) := by decide +kernel
theorem dX10_reign_38 : decode cX10_reign 38 = .ok (.iload_n 1, 1) := by decide +kernel
theorem dX10_reign_39 : decode cX10_reign 39 = .ok (.invokevirtual 112, 3) := by decide +kernel
theorem dX10_reign_42 : decode cX10_reign 42 = .ok (.ifCond .eq 15, 3) := by decide +kernel
theorem dX10_reign_45 : decode cX10_reign 45 = .ok (.aload_n 0, 1) := by decide +kernel
theorem dX10_reign_46 : decode cX10_reign 46 = .ok (.getfield 70, 3) := by decide +kernel
theorem dX10_reign_49 : decode cX10_reign 49 = .ok (.iload_n 1, 1) := by decide +kernel
theorem dX10_reign_50 : decode cX10_reign 50 = .ok (.iload_n 2, 1) := by decide +kernel
theorem dX10_reign_51 : decode cX10_reign 51 = .ok (.invokevirtual 259, 3) := by decide +kernel
theorem dX10_reign_54 : decode cX10_reign 54 = .ok (.goto 4, 3) := by decide +kernel
theorem dX10_reign_57 : decode cX10_reign 57 = .ok (.iconst (-1), 1) := by decide +kernel
theorem dX10_reign_58 : decode cX10_reign 58 = .ok (.ireturn, 1) := by decide +kernel
theorem dX10_reign_59 : decode cX10_reign 59 = .ok (.iload_n 1, 1) := by decide +kernel
theorem dX10_reign_60 : decode cX10_reign 60 = .ok (.invokestatic 262, 3) := by decide +kernel
theorem dX10_reign_63 : decode cX10_reign 63 = .ok (.ifCond .eq 15, 3) := by decide +kernel
theorem dX10_reign_66 : decode cX10_reign 66 = .ok (.aload_n 0, 1) := by decide +kernel
theorem dX10_reign_67 : decode cX10_reign 67 = .ok (.getfield 70, 3) := by decide +kernel
theorem dX10_reign_70 : decode cX10_reign 70 = .ok (.iload_n 1, 1) := by decide +kernel
theorem dX10_reign_71 : decode cX10_reign 71 = .ok (.iload_n 2, 1) := by decide +kernel
theorem dX10_reign_72 : decode cX10_reign 72 = .ok (.invokevirtual 265, 3) := by decide +kernel
theorem dX10_reign_75 : decode cX10_reign 75 = .ok (.goto 4, 3) := by decide +kernel
theorem dX10_reign_78 : decode cX10_reign 78 = .ok (.iconst (-1), 1) := by decide +kernel
theorem dX10_reign_79 : decode cX10_reign 79 = .ok (.ireturn, 1) := by decide +kernel
theorem dX10_plan_0 : decode cX10_plan 0 = .ok (.aload_n 0, 1) := by decide +kernel
theorem dX10_plan_1 : decode cX10_plan 1 = .ok (.getfield 19, 3) := by decide +kernel
theorem dX10_plan_4 : decode cX10_plan 4 = .ok (.iload_n 1, 1) := by decide +kernel
theorem dX10_plan_5 : decode cX10_plan 5 = .ok (.invokevirtual 112, 3) := by decide +kernel
theorem dX10_plan_8 : decode cX10_plan 8 = .ok (.ifCond .eq 23, 3) := by decide +kernel
theorem dX10_plan_11 : decode cX10_plan 11 = .ok (.iload_n 2, 1) := by decide +kernel
theorem dX10_plan_12 : decode cX10_plan 12 = .ok (.iconst 1, 1) := by decide +kernel
theorem dX10_plan_13 : decode cX10_plan 13 = .ok (.if_icmp .lt 18, 3) := by decide +kernel
theorem dX10_plan_16 : decode cX10_plan 16 = .ok (.iload_n 2, 1) := by decide +kernel
theorem dX10_plan_17 : decode cX10_plan 17 = .ok (.bipush 24, 2) := by decide +kernel
theorem dX10_plan_19 : decode cX10_plan 19 = .ok (.if_icmp .gt 12, 3) := by decide +kernel
theorem dX10_plan_22 : decode cX10_plan 22 = .ok (.iload_n 3, 1) := by decide +kernel
theorem dX10_plan_23 : decode cX10_plan 23 = .ok (.ifCond .lt 8, 3) := by decide +kernel
theorem dX10_plan_26 : decode cX10_plan 26 = .ok (.iload_n 3, 1) := by decide +kernel
theorem dX10_plan_27 : decode cX10_plan 27 = .ok (.iconst 2, 1) := by decide +kernel
theorem dX10_plan_28 : decode cX10_plan 28 = .ok (.if_icmp .le 6, 3) := by decide +kernel
theorem dX10_plan_31 : decode cX10_plan 31 = .ok (.ldc 165, 2) := by decide +kernel
theorem dX10_plan_33 : decode cX10_plan 33 = .ok (.ireturn, 1) := by decide +kernel
theorem dX10_plan_34 : decode cX10_plan 34 = .ok (.aload_n 0, 1) := by decide +kernel
theorem dX10_plan_35 : decode cX10_plan 35 = .ok (.getfield 19, 3) := by decide +kernel
theorem dX10_plan_38 : decode cX10_plan 38 = .ok (.iload_n 1, 1) := by decide +kernel
theorem dX10_plan_39 : decode cX10_plan 39 = .ok (.bipush 6, 2) := by decide +kernel
theorem dX10_plan_41 : decode cX10_plan 41 = .ok (.invokevirtual 129, 3) := by decide +kernel
theorem dX10_plan_44 : decode cX10_plan 44 = .ok (.iconst (-1), 1) := by decide +kernel
theorem dX10_plan_45 : decode cX10_plan 45 = .ok (.if_icmp .eq 6, 3) := by decide +kernel
theorem dX10_plan_48 : decode cX10_plan 48 = .ok (.ldc 165, 2) := by decide +kernel
theorem dX10_plan_50 : decode cX10_plan 50 = .ok (.ireturn, 1) := by decide +kernel
theorem dX10_plan_51 : decode cX10_plan 51 = .ok (.aload_n 0, 1) := by decide +kernel
theorem dX10_plan_52 : decode cX10_plan 52 = .ok (.getfield 70, 3) := by decide +kernel
theorem dX10_plan_55 : decode cX10_plan 55 = .ok (.iload_n 1, 1) := by decide +kernel
theorem dX10_plan_56 : decode cX10_plan 56 = .ok (.iload_n 2, 1) := by decide +kernel
theorem dX10_plan_57 : decode cX10_plan 57 = .ok (.invokevirtual 268, 3) := by decide +kernel
theorem dX10_plan_60 : decode cX10_plan 60 = .ok (.iload_n 3, 1) := by decide +kernel
theorem dX10_plan_61 : decode cX10_plan 61 = .ok (.ifCond .ne 11, 3) := by decide +kernel
theorem dX10_plan_64 : decode cX10_plan 64 = .ok (.aload_n 0, 1) := by decide +kernel
theorem dX10_plan_65 : decode cX10_plan 65 = .ok (.getfield 70, 3) := by decide +kernel
theorem dX10_plan_68 : decode cX10_plan 68 = .ok (.invokevirtual 271, 3) := by decide +kernel
theorem dX10_plan_71 : decode cX10_plan 71 = .ok (.ireturn, 1) := by decide +kernel
theorem dX10_plan_72 : decode cX10_plan 72 = .ok (.iload_n 3, 1) := by decide +kernel
theorem dX10_plan_73 : decode cX10_plan 73 = .ok (.iconst 1, 1) := by decide +kernel
theorem dX10_plan_74 : decode cX10_plan 74 = .ok (.if_icmp .ne 13, 3) := by decide +kernel
theorem dX10_plan_77 : decode cX10_plan 77 = .ok (.aload_n 0, 1) := by decide +kernel
theorem dX10_plan_78 : decode cX10_plan 78 = .ok (.getfield 70, 3) := by decide +kernel
theorem dX10_plan_81 : decode cX10_plan 81 = .ok (.invokevirtual 274, 3) := by decide +kernel
theorem dX10_plan_84 : decode cX10_plan 84 = .ok (.goto 10, 3) := by decide +kernel
theorem dX10_plan_87 : decode cX10_plan 87 = .ok (.aload_n 0, 1) := by decide +kernel
theorem dX10_plan_88 : decode cX10_plan 88 = .ok (.getfield 70, 3) := by decide +kernel
theorem dX10_plan_91 : decode cX10_plan 91 = .ok (.invokevirtual 277, 3) := by decide +kernel
theorem dX10_plan_94 : decode cX10_plan 94 = .ok (.ireturn, 1) := by decide +kernel
theorem dX10_keepers_0 : decode cX10_keepers 0 = .ok (.aload_n 0, 1) := by decide +kernel
theorem dX10_keepers_1 : decode cX10_keepers 1 = .ok (.iload_n 1, 1) := by decide +kernel
theorem dX10_keepers_2 : decode cX10_keepers 2 = .ok (.iload_n 2, 1) := by decide +kernel
theorem dX10_keepers_3 : decode cX10_keepers 3 = .ok (.invokevirtual 179, 3) := by decide +kernel
theorem dX10_keepers_6 : decode cX10_keepers 6 = .ok (.ifCond .eq 14, 3) := by decide +kernel
theorem dX10_keepers_9 : decode cX10_keepers 9 = .ok (.iload_n 3, 1) := by decide +kernel
theorem dX10_keepers_10 : decode cX10_keepers 10 = .ok (.iconst 1, 1) := by decide +kernel
theorem dX10_keepers_11 : decode cX10_keepers 11 = .ok (.if_icmp .lt 9, 3) := by decide +kernel
theorem dX10_keepers_14 : decode cX10_keepers 14 = .ok (.iload_n 3, 1) := by decide +kernel
theorem dX10_keepers_15 : decode cX10_keepers 15 = .ok (.bipush 12, 2) := by decide +kernel
theorem dX10_keepers_17 : decode cX10_keepers 17 = .ok (.if_icmp .le 5, 3) := by decide +kernel
theorem dX10_keepers_20 : decode cX10_keepers 20 = .ok (.iconst (-1), 1) := by decide +kernel
theorem dX10_keepers_21 : decode cX10_keepers 21 = .ok (.ireturn, 1) := by decide +kernel
theorem dX10_keepers_22 : decode cX10_keepers 22 = .ok (.aload_n 0, 1) := by decide +kernel
theorem dX10_keepers_23 : decode cX10_keepers 23 = .ok (.getfield 70, 3) := by decide +kernel
theorem dX10_keepers_26 : decode cX10_keepers 26 = .ok (.iload_n 1, 1) := by decide +kernel
theorem dX10_keepers_27 : decode cX10_keepers 27 = .ok (.iload_n 2, 1) := by decide +kernel
theorem dX10_keepers_28 : decode cX10_keepers 28 = .ok (.iload_n 3, 1) := by decide +kernel
theorem dX10_keepers_29 : decode cX10_keepers 29 = .ok (.invokevirtual 280, 3) := by decide +kernel
theorem dX10_keepers_32 : decode cX10_keepers 32 = .ok (.ireturn, 1) := by decide +kernel
theorem dX10_duel_0 : decode cX10_duel 0 = .ok (.iload_n 1, 1) := by decide +kernel
theorem dX10_duel_1 : decode cX10_duel 1 = .ok (.iload_n 2, 1) := by decide +kernel
theorem dX10_duel_2 : decode cX10_duel 2 = .ok (.invokestatic 284, 3) := by decide +kernel
theorem dX10_duel_5 : decode cX10_duel 5 = .ok (.ifCond .eq 28, 3) := by decide +kernel
theorem dX10_duel_8 : decode cX10_duel 8 = .ok (.aload_n 0, 1) := by decide +kernel
theorem dX10_duel_9 : decode cX10_duel 9 = .ok (.getfield 19, 3) := by decide +kernel
theorem dX10_duel_12 : decode cX10_duel 12 = .ok (.iload_n 3, 1) := by decide +kernel
theorem dX10_duel_13 : decode cX10_duel 13 = .ok (.iload_n 1, 1) := by decide +kernel
theorem dX10_duel_14 : decode cX10_duel 14 = .ok (.invokevirtual 287, 3) := by decide +kernel
theorem dX10_duel_17 : decode cX10_duel 17 = .ok (.ifCond .eq 16, 3) := by decide +kernel
theorem dX10_duel_20 : decode cX10_duel 20 = .ok (.aload_n 0, 1) := by decide +kernel
theorem dX10_duel_21 : decode cX10_duel 21 = .ok (.getfield 19, 3) := by decide +kernel
theorem dX10_duel_24 : decode cX10_duel 24 = .ok (.iload 4, 2) := by decide +kernel
theorem dX10_duel_26 : decode cX10_duel 26 = .ok (.iload_n 2, 1) := by decide +kernel
theorem dX10_duel_27 : decode cX10_duel 27 = .ok (.invokevirtual 287, 3) := by decide +kernel
theorem dX10_duel_30 : decode cX10_duel 30 = .ok (.ifCond .ne 6, 3) := by decide +kernel
theorem dX10_duel_33 : decode cX10_duel 33 = .ok (.ldc 165, 2) := by decide +kernel
theorem dX10_duel_35 : decode cX10_duel 35 = .ok (.ireturn, 1) := by decide +kernel
theorem dX10_duel_36 : decode cX10_duel 36 = .ok (.aload_n 0, 1) := by decide +kernel
theorem dX10_duel_37 : decode cX10_duel 37 = .ok (.getfield 70, 3) := by decide +kernel
theorem dX10_duel_40 : decode cX10_duel 40 = .ok (.iload_n 3, 1) := by decide +kernel
theorem dX10_duel_41 : decode cX10_duel 41 = .ok (.iload 4, 2) := by decide +kernel
theorem dX10_duel_43 : decode cX10_duel 43 = .ok (.invokevirtual 290, 3) := by decide +kernel
theorem dX10_duel_46 : decode cX10_duel 46 = .ok (.ireturn, 1) := by decide +kernel
theorem dX10_rests_0 : decode cX10_rests 0 = .ok (.aload_n 0, 1) := by decide +kernel
theorem dX10_rests_1 : decode cX10_rests 1 = .ok (.getfield 19, 3) := by decide +kernel
theorem dX10_rests_4 : decode cX10_rests 4 = .ok (.invokevirtual 139, 3) := by decide +kernel
theorem dX10_rests_7 : decode cX10_rests 7 = .ok (.ifCond .eq 16, 3) := by decide +kernel
theorem dX10_rests_10 : decode cX10_rests 10 = .ok (.iload_n 1, 1) := by decide +kernel
theorem dX10_rests_11 : decode cX10_rests 11 = .ok (.iload_n 2, 1) := by decide +kernel
theorem dX10_rests_12 : decode cX10_rests 12 = .ok (.invokestatic 284, 3) := by decide +kernel
theorem dX10_rests_15 : decode cX10_rests 15 = .ok (.ifCond .eq 8, 3) := by decide +kernel
theorem dX10_rests_18 : decode cX10_rests 18 = .ok (.iload_n 3, 1) := by decide +kernel
theorem dX10_rests_19 : decode cX10_rests 19 = .ok (.iconst (-1), 1) := by decide +kernel
theorem dX10_rests_20 : decode cX10_rests 20 = .ok (.if_icmp .ge 5, 3) := by decide +kernel
theorem dX10_rests_23 : decode cX10_rests 23 = .ok (.iconst (-1), 1) := by decide +kernel
theorem dX10_rests_24 : decode cX10_rests 24 = .ok (.ireturn, 1) := by decide +kernel
theorem dX10_rests_25 : decode cX10_rests 25 = .ok (.aload_n 0, 1) := by decide +kernel
theorem dX10_rests_26 : decode cX10_rests 26 = .ok (.getfield 70, 3) := by decide +kernel
theorem dX10_rests_29 : decode cX10_rests 29 = .ok (.iload_n 1, 1) := by decide +kernel
theorem dX10_rests_30 : decode cX10_rests 30 = .ok (.iload_n 2, 1) := by decide +kernel
theorem dX10_rests_31 : decode cX10_rests 31 = .ok (.invokevirtual 293, 3) := by decide +kernel
theorem dX10_rests_34 : decode cX10_rests 34 = .ok (.aload_n 0, 1) := by decide +kernel
theorem dX10_rests_35 : decode cX10_rests 35 = .ok (.getfield 70, 3) := by decide +kernel
theorem dX10_rests_38 : decode cX10_rests 38 = .ok (.iload_n 1, 1) := by decide +kernel
theorem dX10_rests_39 : decode cX10_rests 39 = .ok (.iload_n 2, 1) := by decide +kernel
theorem dX10_rests_40 : decode cX10_rests 40 = .ok (.iload_n 3, 1) := by decide +kernel
theorem dX10_rests_41 : decode cX10_rests 41 = .ok (.invokevirtual 296, 3) := by decide +kernel
theorem dX10_rests_44 : decode cX10_rests 44 = .ok (.ireturn, 1) := by decide +kernel
theorem dX10_late_0 : decode cX10_late 0 = .ok (.aload_n 0, 1) := by decide +kernel
theorem dX10_late_1 : decode cX10_late 1 = .ok (.getfield 19, 3) := by decide +kernel
theorem dX10_late_4 : decode cX10_late 4 = .ok (.invokevirtual 139, 3) := by decide +kernel
theorem dX10_late_7 : decode cX10_late 7 = .ok (.ifCond .eq 15, 3) := by decide +kernel
theorem dX10_late_10 : decode cX10_late 10 = .ok (.aload_n 0, 1) := by decide +kernel
theorem dX10_late_11 : decode cX10_late 11 = .ok (.getfield 70, 3) := by decide +kernel
theorem dX10_late_14 : decode cX10_late 14 = .ok (.bipush 60, 2) := by decide +kernel
theorem dX10_late_16 : decode cX10_late 16 = .ok (.invokevirtual 299, 3) := by decide +kernel
theorem dX10_late_19 : decode cX10_late 19 = .ok (.goto 4, 3) := by decide +kernel
theorem dX10_late_22 : decode cX10_late 22 = .ok (.iconst (-1), 1) := by decide +kernel
theorem dX10_late_23 : decode cX10_late 23 = .ok (.ireturn, 1) := by decide +kernel
theorem dX10_richest_0 : decode cX10_richest 0 = .ok (.aload_n 0, 1) := by decide +kernel
theorem dX10_richest_1 : decode cX10_richest 1 = .ok (.getfield 19, 3) := by decide +kernel
theorem dX10_richest_4 : decode cX10_richest 4 = .ok (.invokevirtual 139, 3) := by decide +kernel
theorem dX10_richest_7 : decode cX10_richest 7 = .ok (.ifCond .eq 21, 3) := by decide +kernel
theorem dX10_richest_10 : decode cX10_richest 10 = .ok (.iload_n 1, 1) := by decide +kernel
theorem dX10_richest_11 : decode cX10_richest 11 = .ok (.iconst 1, 1) := by decide +kernel
theorem dX10_richest_12 : decode cX10_richest 12 = .ok (.if_icmp .lt 16, 3) := by decide +kernel
theorem dX10_richest_15 : decode cX10_richest 15 = .ok (.iload_n 1, 1) := by decide +kernel
theorem dX10_richest_16 : decode cX10_richest 16 = .ok (.bipush 24, 2) := by decide +kernel
theorem dX10_richest_18 : decode cX10_richest 18 = .ok (.if_icmp .gt 10, 3) := by decide +kernel
theorem dX10_richest_21 : decode cX10_richest 21 = .ok (.iload_n 2, 1) := by decide +kernel
theorem dX10_richest_22 : decode cX10_richest 22 = .ok (.invokestatic 253, 3) := by decide +kernel
theorem dX10_richest_25 : decode cX10_richest 25 = .ok (.ifCond .ne 6, 3) := by decide +kernel
theorem dX10_richest_28 : decode cX10_richest 28 = .ok (.ldc 165, 2) := by decide +kernel
theorem dX10_richest_30 : decode cX10_richest 30 = .ok (.ireturn, 1) := by decide +kernel
theorem dX10_richest_31 : decode cX10_richest 31 = .ok (.aload_n 0, 1) := by decide +kernel
theorem dX10_richest_32 : decode cX10_richest 32 = .ok (.getfield 70, 3) := by decide +kernel
theorem dX10_richest_35 : decode cX10_richest 35 = .ok (.iload_n 1, 1) := by decide +kernel
theorem dX10_richest_36 : decode cX10_richest 36 = .ok (.invokevirtual 302, 3) := by decide +kernel
theorem dX10_richest_39 : decode cX10_richest 39 = .ok (.iload_n 2, 1) := by decide +kernel
theorem dX10_richest_40 : decode cX10_richest 40 = .ok (.ifCond .ne 13, 3) := by decide +kernel
theorem dX10_richest_43 : decode cX10_richest 43 = .ok (.aload_n 0, 1) := by decide +kernel
theorem dX10_richest_44 : decode cX10_richest 44 = .ok (.getfield 70, 3) := by decide +kernel
theorem dX10_richest_47 : decode cX10_richest 47 = .ok (.invokevirtual 305, 3) := by decide +kernel
theorem dX10_richest_50 : decode cX10_richest 50 = .ok (.goto 10, 3) := by decide +kernel
theorem dX10_richest_53 : decode cX10_richest 53 = .ok (.aload_n 0, 1) := by decide +kernel
theorem dX10_richest_54 : decode cX10_richest 54 = .ok (.getfield 70, 3) := by decide +kernel
theorem dX10_richest_57 : decode cX10_richest 57 = .ok (.invokevirtual 308, 3) := by decide +kernel
theorem dX10_richest_60 : decode cX10_richest 60 = .ok (.ireturn, 1) := by decide +kernel
theorem dX10_plums_0 : decode cX10_plums 0 = .ok (.aload_n 0, 1) := by decide +kernel
theorem dX10_plums_1 : decode cX10_plums 1 = .ok (.getfield 19, 3) := by decide +kernel
theorem dX10_plums_4 : decode cX10_plums 4 = .ok (.invokevirtual 159, 3) := by decide +kernel
theorem dX10_plums_7 : decode cX10_plums 7 = .ok (.istore_n 2, 1) := by decide +kernel
theorem dX10_plums_8 : decode cX10_plums 8 = .ok (.iload_n 2, 1) := by decide +kernel
theorem dX10_plums_9 : decode cX10_plums 9 = .ok (.iconst (-1), 1) := by decide +kernel
theorem dX10_plums_10 : decode cX10_plums 10 = .ok (.if_icmp .eq 14, 3) := by decide +kernel
theorem dX10_plums_13 : decode cX10_plums 13 = .ok (.aload_n 0, 1) := by decide +kernel
theorem dX10_plums_14 : decode cX10_plums 14 = .ok (.getfield 19, 3) := by decide +kernel
theorem dX10_plums_17 : decode cX10_plums 17 = .ok (.iload_n 1, 1) := by decide +kernel
theorem dX10_plums_18 : decode cX10_plums 18 = .ok (.invokevirtual 112, 3) := by decide +kernel
theorem dX10_plums_21 : decode cX10_plums 21 = .ok (.ifCond .ne 7, 3) := by decide +kernel
theorem dX10_plums_24 : decode cX10_plums 24 = .ok (.iconst (-1), 1) := by decide +kernel
theorem dX10_plums_25 : decode cX10_plums 25 = .ok (.goto 12, 3) := by decide +kernel
theorem dX10_plums_28 : decode cX10_plums 28 = .ok (.aload_n 0, 1) := by decide +kernel
theorem dX10_plums_29 : decode cX10_plums 29 = .ok (.getfield 19, 3) := by decide +kernel
theorem dX10_plums_32 : decode cX10_plums 32 = .ok (.iload_n 1, 1) := by decide +kernel
theorem dX10_plums_33 : decode cX10_plums 33 = .ok (.iload_n 2, 1) := by decide +kernel
theorem dX10_plums_34 : decode cX10_plums 34 = .ok (.invokevirtual 311, 3) := by decide +kernel
theorem dX10_plums_37 : decode cX10_plums 37 = .ok (.ireturn, 1) := by decide +kernel
theorem dX10_peace_0 : decode cX10_peace 0 = .ok (.aload_n 0, 1) := by decide +kernel
theorem dX10_peace_1 : decode cX10_peace 1 = .ok (.getfield 19, 3) := by decide +kernel
theorem dX10_peace_4 : decode cX10_peace 4 = .ok (.invokevirtual 159, 3) := by decide +kernel
theorem dX10_peace_7 : decode cX10_peace 7 = .ok (.istore_n 3, 1) := by decide +kernel
theorem dX10_peace_8 : decode cX10_peace 8 = .ok (.iload_n 3, 1) := by decide +kernel
theorem dX10_peace_9 : decode cX10_peace 9 = .ok (.iconst (-1), 1) := by decide +kernel
theorem dX10_peace_10 : decode cX10_peace 10 = .ok (.if_icmp .eq 17, 3) := by decide +kernel
theorem dX10_peace_13 : decode cX10_peace 13 = .ok (.iload_n 1, 1) := by decide +kernel
theorem dX10_peace_14 : decode cX10_peace 14 = .ok (.invokestatic 262, 3) := by decide +kernel
theorem dX10_peace_17 : decode cX10_peace 17 = .ok (.ifCond .eq 10, 3) := by decide +kernel
theorem dX10_peace_20 : decode cX10_peace 20 = .ok (.iload_n 2, 1) := by decide +kernel
theorem dX10_peace_21 : decode cX10_peace 21 = .ok (.invokestatic 253, 3) := by decide +kernel
theorem dX10_peace_24 : decode cX10_peace 24 = .ok (.ifCond .ne 5, 3) := by decide +kernel
theorem dX10_peace_27 : decode cX10_peace 27 = .ok (.iconst (-1), 1) := by decide +kernel
theorem dX10_peace_28 : decode cX10_peace 28 = .ok (.ireturn, 1) := by decide +kernel
theorem dX10_peace_29 : decode cX10_peace 29 = .ok (.aload_n 0, 1) := by decide +kernel
theorem dX10_peace_30 : decode cX10_peace 30 = .ok (.getfield 61, 3) := by decide +kernel
theorem dX10_peace_33 : decode cX10_peace 33 = .ok (.iload_n 1, 1) := by decide +kernel
theorem dX10_peace_34 : decode cX10_peace 34 = .ok (.iload_n 3, 1) := by decide +kernel
theorem dX10_peace_35 : decode cX10_peace 35 = .ok (.invokevirtual 314, 3) := by decide +kernel
theorem dX10_peace_38 : decode cX10_peace 38 = .ok (.istore 4, 2) := by decide +kernel
theorem dX10_peace_40 : decode cX10_peace 40 = .ok (.iload 4, 2) := by decide +kernel
theorem dX10_peace_42 : decode cX10_peace 42 = .ok (.iconst (-1), 1) := by decide +kernel
theorem dX10_peace_43 : decode cX10_peace 43 = .ok (.if_icmp .eq 8, 3) := by decide +kernel
theorem dX10_peace_46 : decode cX10_peace 46 = .ok (.iload_n 2, 1) := by decide +kernel
theorem dX10_peace_47 : decode cX10_peace 47 = .ok (.iconst 1, 1) := by decide +kernel
theorem dX10_peace_48 : decode cX10_peace 48 = .ok (.if_icmp .ne 8, 3) := by decide +kernel
theorem dX10_peace_51 : decode cX10_peace 51 = .ok (.iload 4, 2) := by decide +kernel
theorem dX10_peace_53 : decode cX10_peace 53 = .ok (.goto 13, 3) := by decide +kernel
theorem dX10_peace_56 : decode cX10_peace 56 = .ok (.aload_n 0, 1) := by decide +kernel
theorem dX10_peace_57 : decode cX10_peace 57 = .ok (.getfield 19, 3) := by decide +kernel
theorem dX10_peace_60 : decode cX10_peace 60 = .ok (.iload 4, 2) := by decide +kernel
theorem dX10_peace_62 : decode cX10_peace 62 = .ok (.iload_n 3, 1) := by decide +kernel
theorem dX10_peace_63 : decode cX10_peace 63 = .ok (.invokevirtual 317, 3) := by decide +kernel
theorem dX10_peace_66 : decode cX10_peace 66 = .ok (.ireturn, 1) := by decide +kernel
theorem dX10_teachers_0 : decode cX10_teachers 0 = .ok (.aload_n 0, 1) := by decide +kernel
theorem dX10_teachers_1 : decode cX10_teachers 1 = .ok (.getfield 19, 3) := by decide +kernel
theorem dX10_teachers_4 : decode cX10_teachers 4 = .ok (.iload_n 1, 1) := by decide +kernel
theorem dX10_teachers_5 : decode cX10_teachers 5 = .ok (.invokevirtual 112, 3) := by decide +kernel
theorem dX10_teachers_8 : decode cX10_teachers 8 = .ok (.ifCond .eq 20, 3) := by decide +kernel
theorem dX10_teachers_11 : decode cX10_teachers 11 = .ok (.iload_n 2, 1) := by decide +kernel
theorem dX10_teachers_12 : decode cX10_teachers 12 = .ok (.iconst (-1), 1) := by decide +kernel
theorem dX10_teachers_13 : decode cX10_teachers 13 = .ok (.if_icmp .lt 15, 3) := by decide +kernel
theorem dX10_teachers_16 : decode cX10_teachers 16 = .ok (.aload_n 0, 1) := by decide +kernel
theorem dX10_teachers_17 : decode cX10_teachers 17 = .ok (.getfield 61, 3) := by decide +kernel
theorem dX10_teachers_20 : decode cX10_teachers 20 = .ok (.iload_n 1, 1) := by decide +kernel
theorem dX10_teachers_21 : decode cX10_teachers 21 = .ok (.iload_n 2, 1) := by decide +kernel
theorem dX10_teachers_22 : decode cX10_teachers 22 = .ok (.invokevirtual 320, 3) := by decide +kernel
theorem dX10_teachers_25 : decode cX10_teachers 25 = .ok (.goto 4, 3) := by decide +kernel
theorem dX10_teachers_28 : decode cX10_teachers 28 = .ok (.iconst (-1), 1) := by decide +kernel
theorem dX10_teachers_29 : decode cX10_teachers 29 = .ok (.ireturn, 1) := by decide +kernel
theorem dX10_spans_0 : decode cX10_spans 0 = .ok (.aload_n 0, 1) := by decide +kernel
theorem dX10_spans_1 : decode cX10_spans 1 = .ok (.getfield 19, 3) := by decide +kernel
theorem dX10_spans_4 : decode cX10_spans 4 = .ok (.iload_n 1, 1) := by decide +kernel
theorem dX10_spans_5 : decode cX10_spans 5 = .ok (.invokevirtual 112, 3) := by decide +kernel
theorem dX10_spans_8 : decode cX10_spans 8 = .ok (.ifCond .eq 13, 3) := by decide +kernel
theorem dX10_spans_11 : decode cX10_spans 11 = .ok (.iload_n 2, 1) := by decide +kernel
theorem dX10_spans_12 : decode cX10_spans 12 = .ok (.ifCond .lt 9, 3) := by decide +kernel
theorem dX10_spans_15 : decode cX10_spans 15 = .ok (.iload_n 2, 1) := by decide +kernel
theorem dX10_spans_16 : decode cX10_spans 16 = .ok (.bipush 99, 2) := by decide +kernel
theorem dX10_spans_18 : decode cX10_spans 18 = .ok (.if_icmp .le 5, 3) := by decide +kernel
theorem dX10_spans_21 : decode cX10_spans 21 = .ok (.iconst (-1), 1) := by decide +kernel
theorem dX10_spans_22 : decode cX10_spans 22 = .ok (.ireturn, 1) := by decide +kernel
theorem dX10_spans_23 : decode cX10_spans 23 = .ok (.iconst 0, 1) := by decide +kernel
theorem dX10_spans_24 : decode cX10_spans 24 = .ok (.istore_n 3, 1) := by decide +kernel
theorem dX10_spans_25 : decode cX10_spans 25 = .ok (.iconst 0, 1) := by decide +kernel
theorem dX10_spans_26 : decode cX10_spans 26 = .ok (.istore 4, 2) := by decide +kernel
theorem dX10_spans_28 : decode cX10_spans 28 = .ok (.iload 4, 2) := by decide +kernel
theorem dX10_spans_30 : decode cX10_spans 30 = .ok (.bipush 9, 2) := by decide +kernel
theorem dX10_spans_32 : decode cX10_spans 32 = .ok (.if_icmp .gt 34, 3) := by decide +kernel
theorem dX10_spans_35 : decode cX10_spans 35 = .ok (.aload_n 0, 1) := by decide +kernel
theorem dX10_spans_36 : decode cX10_spans 36 = .ok (.getfield 45, 3) := by decide +kernel
theorem dX10_spans_39 : decode cX10_spans 39 = .ok (.aload_n 0, 1) := by decide +kernel
theorem dX10_spans_40 : decode cX10_spans 40 = .ok (.getfield 19, 3) := by decide +kernel
theorem dX10_spans_43 : decode cX10_spans 43 = .ok (.iload_n 1, 1) := by decide +kernel
theorem dX10_spans_44 : decode cX10_spans 44 = .ok (.iload 4, 2) := by decide +kernel
theorem dX10_spans_46 : decode cX10_spans 46 = .ok (.invokevirtual 323, 3) := by decide +kernel
theorem dX10_spans_49 : decode cX10_spans 49 = .ok (.iload_n 2, 1) := by decide +kernel
theorem dX10_spans_50 : decode cX10_spans 50 = .ok (.if_icmp .ne 10, 3) := by decide +kernel
theorem dX10_spans_53 : decode cX10_spans 53 = .ok (.iload_n 3, 1) := by decide +kernel
theorem dX10_spans_54 : decode cX10_spans 54 = .ok (.iconst 1, 1) := by decide +kernel
theorem dX10_spans_55 : decode cX10_spans 55 = .ok (.iload 4, 2) := by decide +kernel
theorem dX10_spans_57 : decode cX10_spans 57 = .ok (.ishl, 1) := by decide +kernel
theorem dX10_spans_58 : decode cX10_spans 58 = .ok (.ior, 1) := by decide +kernel
theorem dX10_spans_59 : decode cX10_spans 59 = .ok (.istore_n 3, 1) := by decide +kernel
theorem dX10_spans_60 : decode cX10_spans 60 = .ok (.iinc 4 1, 3) := by decide +kernel
theorem dX10_spans_63 : decode cX10_spans 63 = .ok (.goto (-35), 3) := by decide +kernel
theorem dX10_spans_66 : decode cX10_spans 66 = .ok (.iload_n 3, 1) := by decide +kernel
theorem dX10_spans_67 : decode cX10_spans 67 = .ok (.ireturn, 1) := by decide +kernel
theorem dX10_chain_0 : decode cX10_chain 0 = .ok (.aload_n 0, 1) := by decide +kernel
theorem dX10_chain_1 : decode cX10_chain 1 = .ok (.getfield 19, 3) := by decide +kernel
theorem dX10_chain_4 : decode cX10_chain 4 = .ok (.invokevirtual 139, 3) := by decide +kernel
theorem dX10_chain_7 : decode cX10_chain 7 = .ok (.ifCond .eq 10, 3) := by decide +kernel
theorem dX10_chain_10 : decode cX10_chain 10 = .ok (.iload_n 1, 1) := by decide +kernel
theorem dX10_chain_11 : decode cX10_chain 11 = .ok (.invokestatic 253, 3) := by decide +kernel
theorem dX10_chain_14 : decode cX10_chain 14 = .ok (.ifCond .ne 5, 3) := by decide +kernel
theorem dX10_chain_17 : decode cX10_chain 17 = .ok (.iconst (-1), 1) := by decide +kernel
theorem dX10_chain_18 : decode cX10_chain 18 = .ok (.ireturn, 1) := by decide +kernel
theorem dX10_chain_19 : decode cX10_chain 19 = .ok (.aload_n 0, 1) := by decide +kernel
theorem dX10_chain_20 : decode cX10_chain 20 = .ok (.getfield 61, 3) := by decide +kernel
theorem dX10_chain_23 : decode cX10_chain 23 = .ok (.invokevirtual 326, 3) := by decide +kernel
theorem dX10_chain_26 : decode cX10_chain 26 = .ok (.istore_n 2, 1) := by decide +kernel
theorem dX10_chain_27 : decode cX10_chain 27 = .ok (.iload_n 1, 1) := by decide +kernel
theorem dX10_chain_28 : decode cX10_chain 28 = .ok (.ifCond .ne 10, 3) := by decide +kernel
theorem dX10_chain_31 : decode cX10_chain 31 = .ok (.iload_n 2, 1) := by decide +kernel
theorem dX10_chain_32 : decode cX10_chain 32 = .ok (.invokestatic 329, 3) := by decide +kernel
theorem dX10_chain_35 : decode cX10_chain 35 = .ok (.goto 4, 3) := by decide +kernel
theorem dX10_chain_38 : decode cX10_chain 38 = .ok (.iload_n 2, 1) := by decide +kernel
theorem dX10_chain_39 : decode cX10_chain 39 = .ok (.ireturn, 1) := by decide +kernel
theorem dX10_threes_0 : decode cX10_threes 0 = .ok (.aload_n 0, 1) := by decide +kernel
theorem dX10_threes_1 : decode cX10_threes 1 = .ok (.getfield 19, 3) := by decide +kernel
theorem dX10_threes_4 : decode cX10_threes 4 = .ok (.invokevirtual 159, 3) := by decide +kernel
theorem dX10_threes_7 : decode cX10_threes 7 = .ok (.istore_n 1, 1) := by decide +kernel
theorem dX10_threes_8 : decode cX10_threes 8 = .ok (.iload_n 1, 1) := by decide +kernel
theorem dX10_threes_9 : decode cX10_threes 9 = .ok (.iconst (-1), 1) := by decide +kernel
theorem dX10_threes_10 : decode cX10_threes 10 = .ok (.if_icmp .ne 7, 3) := by decide +kernel
theorem dX10_threes_13 : decode cX10_threes 13 = .ok (.iconst (-1), 1) := by decide +kernel
theorem dX10_threes_14 : decode cX10_threes 14 = .ok (.goto 11, 3) := by decide +kernel
theorem dX10_threes_17 : decode cX10_threes 17 = .ok (.aload_n 0, 1) := by decide +kernel
theorem dX10_threes_18 : decode cX10_threes 18 = .ok (.getfield 61, 3) := by decide +kernel
theorem dX10_threes_21 : decode cX10_threes 21 = .ok (.iload_n 1, 1) := by decide +kernel
theorem dX10_threes_22 : decode cX10_threes 22 = .ok (.invokevirtual 334, 3) := by decide +kernel
theorem dX10_threes_25 : decode cX10_threes 25 = .ok (.ireturn, 1) := by decide +kernel
theorem dX10_party_0 : decode cX10_party 0 = .ok (.aload_n 0, 1) := by decide +kernel
theorem dX10_party_1 : decode cX10_party 1 = .ok (.getfield 19, 3) := by decide +kernel
theorem dX10_party_4 : decode cX10_party 4 = .ok (.invokevirtual 139, 3) := by decide +kernel
theorem dX10_party_7 : decode cX10_party 7 = .ok (.ifCond .eq 21, 3) := by decide +kernel
theorem dX10_party_10 : decode cX10_party 10 = .ok (.iload_n 1, 1) := by decide +kernel
theorem dX10_party_11 : decode cX10_party 11 = .ok (.invokestatic 262, 3) := by decide +kernel
theorem dX10_party_14 : decode cX10_party 14 = .ok (.ifCond .eq 14, 3) := by decide +kernel
theorem dX10_party_17 : decode cX10_party 17 = .ok (.aload_n 0, 1) := by decide +kernel
theorem dX10_party_18 : decode cX10_party 18 = .ok (.getfield 61, 3) := by decide +kernel
theorem dX10_party_21 : decode cX10_party 21 = .ok (.iload_n 1, 1) := by decide +kernel
theorem dX10_party_22 : decode cX10_party 22 = .ok (.invokevirtual 337, 3) := by decide +kernel
theorem dX10_party_25 : decode cX10_party 25 = .ok (.goto 4, 3) := by decide +kernel
theorem dX10_party_28 : decode cX10_party 28 = .ok (.iconst (-1), 1) := by decide +kernel
theorem dX10_party_29 : decode cX10_party 29 = .ok (.ireturn, 1) := by decide +kernel
theorem dX10_heir_0 : decode cX10_heir 0 = .ok (.aload_n 0, 1) := by decide +kernel
theorem dX10_heir_1 : decode cX10_heir 1 = .ok (.getfield 19, 3) := by decide +kernel
theorem dX10_heir_4 : decode cX10_heir 4 = .ok (.invokevirtual 159, 3) := by decide +kernel
theorem dX10_heir_7 : decode cX10_heir 7 = .ok (.istore_n 1, 1) := by decide +kernel
theorem dX10_heir_8 : decode cX10_heir 8 = .ok (.iload_n 1, 1) := by decide +kernel
theorem dX10_heir_9 : decode cX10_heir 9 = .ok (.iconst (-1), 1) := by decide +kernel
theorem dX10_heir_10 : decode cX10_heir 10 = .ok (.if_icmp .ne 7, 3) := by decide +kernel
theorem dX10_heir_13 : decode cX10_heir 13 = .ok (.iconst (-1), 1) := by decide +kernel
theorem dX10_heir_14 : decode cX10_heir 14 = .ok (.goto 25, 3) := by decide +kernel
theorem dX10_heir_17 : decode cX10_heir 17 = .ok (.aload_n 0, 1) := by decide +kernel
theorem dX10_heir_18 : decode cX10_heir 18 = .ok (.getfield 19, 3) := by decide +kernel
theorem dX10_heir_21 : decode cX10_heir 21 = .ok (.aload_n 0, 1) := by decide +kernel
theorem dX10_heir_22 : decode cX10_heir 22 = .ok (.getfield 19, 3) := by decide +kernel
theorem dX10_heir_25 : decode cX10_heir 25 = .ok (.iload_n 1, 1) := by decide +kernel
theorem dX10_heir_26 : decode cX10_heir 26 = .ok (.invokevirtual 340, 3) := by decide +kernel
theorem dX10_heir_29 : decode cX10_heir 29 = .ok (.aload_n 0, 1) := by decide +kernel
theorem dX10_heir_30 : decode cX10_heir 30 = .ok (.getfield 19, 3) := by decide +kernel
theorem dX10_heir_33 : decode cX10_heir 33 = .ok (.invokevirtual 173, 3) := by decide +kernel
theorem dX10_heir_36 : decode cX10_heir 36 = .ok (.invokevirtual 343, 3) := by decide +kernel
theorem dX10_heir_39 : decode cX10_heir 39 = .ok (.ireturn, 1) := by decide +kernel
theorem dX10_before_0 : decode cX10_before 0 = .ok (.aload_n 0, 1) := by decide +kernel
theorem dX10_before_1 : decode cX10_before 1 = .ok (.getfield 19, 3) := by decide +kernel
theorem dX10_before_4 : decode cX10_before 4 = .ok (.iload_n 1, 1) := by decide +kernel
theorem dX10_before_5 : decode cX10_before 5 = .ok (.invokevirtual 112, 3) := by decide +kernel
theorem dX10_before_8 : decode cX10_before 8 = .ok (.ifCond .eq 14, 3) := by decide +kernel
theorem dX10_before_11 : decode cX10_before 11 = .ok (.aload_n 0, 1) := by decide +kernel
theorem dX10_before_12 : decode cX10_before 12 = .ok (.getfield 61, 3) := by decide +kernel
theorem dX10_before_15 : decode cX10_before 15 = .ok (.iload_n 1, 1) := by decide +kernel
theorem dX10_before_16 : decode cX10_before 16 = .ok (.invokevirtual 346, 3) := by decide +kernel
theorem dX10_before_19 : decode cX10_before 19 = .ok (.goto 4, 3) := by decide +kernel
theorem dX10_before_22 : decode cX10_before 22 = .ok (.iconst (-1), 1) := by decide +kernel
theorem dX10_before_23 : decode cX10_before 23 = .ok (.ireturn, 1) := by decide +kernel
theorem dX10_without_0 : decode cX10_without 0 = .ok (.aload_n 0, 1) := by decide +kernel
theorem dX10_without_1 : decode cX10_without 1 = .ok (.getfield 19, 3) := by decide +kernel
theorem dX10_without_4 : decode cX10_without 4 = .ok (.iload_n 1, 1) := by decide +kernel
theorem dX10_without_5 : decode cX10_without 5 = .ok (.invokevirtual 112, 3) := by decide +kernel
theorem dX10_without_8 : decode cX10_without 8 = .ok (.ifCond .eq 14, 3) := by decide +kernel
theorem dX10_without_11 : decode cX10_without 11 = .ok (.aload_n 0, 1) := by decide +kernel
theorem dX10_without_12 : decode cX10_without 12 = .ok (.getfield 61, 3) := by decide +kernel
theorem dX10_without_15 : decode cX10_without 15 = .ok (.iload_n 1, 1) := by decide +kernel
theorem dX10_without_16 : decode cX10_without 16 = .ok (.invokevirtual 349, 3) := by decide +kernel
theorem dX10_without_19 : decode cX10_without 19 = .ok (.goto 4, 3) := by decide +kernel
theorem dX10_without_22 : decode cX10_without 22 = .ok (.iconst (-1), 1) := by decide +kernel
theorem dX10_without_23 : decode cX10_without 23 = .ok (.ireturn, 1) := by decide +kernel
theorem dX10_spoil_0 : decode cX10_spoil 0 = .ok (.aload_n 0, 1) := by decide +kernel
theorem dX10_spoil_1 : decode cX10_spoil 1 = .ok (.getfield 19, 3) := by decide +kernel
theorem dX10_spoil_4 : decode cX10_spoil 4 = .ok (.invokevirtual 159, 3) := by decide +kernel
theorem dX10_spoil_7 : decode cX10_spoil 7 = .ok (.istore_n 2, 1) := by decide +kernel
theorem dX10_spoil_8 : decode cX10_spoil 8 = .ok (.iload_n 2, 1) := by decide +kernel
theorem dX10_spoil_9 : decode cX10_spoil 9 = .ok (.iconst (-1), 1) := by decide +kernel
theorem dX10_spoil_10 : decode cX10_spoil 10 = .ok (.if_icmp .eq 26, 3) := by decide +kernel
theorem dX10_spoil_13 : decode cX10_spoil 13 = .ok (.aload_n 0, 1) := by decide +kernel
theorem dX10_spoil_14 : decode cX10_spoil 14 = .ok (.getfield 19, 3) := by decide +kernel
theorem dX10_spoil_17 : decode cX10_spoil 17 = .ok (.iload_n 1, 1) := by decide +kernel
theorem dX10_spoil_18 : decode cX10_spoil 18 = .ok (.invokevirtual 112, 3) := by decide +kernel
theorem dX10_spoil_21 : decode cX10_spoil 21 = .ok (.ifCond .eq 15, 3) := by decide +kernel
theorem dX10_spoil_24 : decode cX10_spoil 24 = .ok (.aload_n 0, 1) := by decide +kernel
theorem dX10_spoil_25 : decode cX10_spoil 25 = .ok (.getfield 19, 3) := by decide +kernel
theorem dX10_spoil_28 : decode cX10_spoil 28 = .ok (.iload_n 1, 1) := by decide +kernel
theorem dX10_spoil_29 : decode cX10_spoil 29 = .ok (.iload_n 2, 1) := by decide +kernel
theorem dX10_spoil_30 : decode cX10_spoil 30 = .ok (.invokevirtual 152, 3) := by decide +kernel
theorem dX10_spoil_33 : decode cX10_spoil 33 = .ok (.ifCond .ne 5, 3) := by decide +kernel
theorem dX10_spoil_36 : decode cX10_spoil 36 = .ok (.iconst (-1), 1) := by decide +kernel
theorem dX10_spoil_37 : decode cX10_spoil 37 = .ok (.ireturn, 1) := by decide +kernel
theorem dX10_spoil_38 : decode cX10_spoil 38 = .ok (.aload_n 0, 1) := by decide +kernel
theorem dX10_spoil_39 : decode cX10_spoil 39 = .ok (.getfield 19, 3) := by decide +kernel
theorem dX10_spoil_42 : decode cX10_spoil 42 = .ok (.iload_n 1, 1) := by decide +kernel
theorem dX10_spoil_43 : decode cX10_spoil 43 = .ok (.aload_n 0, 1) := by decide +kernel
theorem dX10_spoil_44 : decode cX10_spoil 44 = .ok (.getfield 19, 3) := by decide +kernel
theorem dX10_spoil_47 : decode cX10_spoil 47 = .ok (.iload_n 2, 1) := by decide +kernel
theorem dX10_spoil_48 : decode cX10_spoil 48 = .ok (.invokevirtual 340, 3) := by decide +kernel
theorem dX10_spoil_51 : decode cX10_spoil 51 = .ok (.invokevirtual 352, 3) := by decide +kernel
theorem dX10_spoil_54 : decode cX10_spoil 54 = .ok (.invokestatic 355, 3) := by decide +kernel
theorem dX10_spoil_57 : decode cX10_spoil 57 = .ok (.ireturn, 1) := by decide +kernel
theorem dX10_soon_0 : decode cX10_soon 0 = .ok (.aload_n 0, 1) := by decide +kernel
theorem dX10_soon_1 : decode cX10_soon 1 = .ok (.getfield 19, 3) := by decide +kernel
theorem dX10_soon_4 : decode cX10_soon 4 = .ok (.invokevirtual 159, 3) := by decide +kernel
theorem dX10_soon_7 : decode cX10_soon 7 = .ok (.istore_n 2, 1) := by decide +kernel
theorem dX10_soon_8 : decode cX10_soon 8 = .ok (.iload_n 2, 1) := by decide +kernel
theorem dX10_soon_9 : decode cX10_soon 9 = .ok (.iconst (-1), 1) := by decide +kernel
theorem dX10_soon_10 : decode cX10_soon 10 = .ok (.if_icmp .eq 14, 3) := by decide +kernel
theorem dX10_soon_13 : decode cX10_soon 13 = .ok (.aload_n 0, 1) := by decide +kernel
theorem dX10_soon_14 : decode cX10_soon 14 = .ok (.getfield 19, 3) := by decide +kernel
theorem dX10_soon_17 : decode cX10_soon 17 = .ok (.iload_n 1, 1) := by decide +kernel
theorem dX10_soon_18 : decode cX10_soon 18 = .ok (.invokevirtual 112, 3) := by decide +kernel
theorem dX10_soon_21 : decode cX10_soon 21 = .ok (.ifCond .ne 7, 3) := by decide +kernel
theorem dX10_soon_24 : decode cX10_soon 24 = .ok (.iconst (-1), 1) := by decide +kernel
theorem dX10_soon_25 : decode cX10_soon 25 = .ok (.goto 12, 3) := by decide +kernel
theorem dX10_soon_28 : decode cX10_soon 28 = .ok (.aload_n 0, 1) := by decide +kernel
theorem dX10_soon_29 : decode cX10_soon 29 = .ok (.getfield 19, 3) := by decide +kernel
theorem dX10_soon_32 : decode cX10_soon 32 = .ok (.iload_n 1, 1) := by decide +kernel
theorem dX10_soon_33 : decode cX10_soon 33 = .ok (.iload_n 2, 1) := by decide +kernel
theorem dX10_soon_34 : decode cX10_soon 34 = .ok (.invokevirtual 358, 3) := by decide +kernel
theorem dX10_soon_37 : decode cX10_soon 37 = .ok (.ireturn, 1) := by decide +kernel
theorem dX10_fevered_0 : decode cX10_fevered 0 = .ok (.aload_n 0, 1) := by decide +kernel
theorem dX10_fevered_1 : decode cX10_fevered 1 = .ok (.getfield 19, 3) := by decide +kernel
theorem dX10_fevered_4 : decode cX10_fevered 4 = .ok (.invokevirtual 159, 3) := by decide +kernel
theorem dX10_fevered_7 : decode cX10_fevered 7 = .ok (.istore_n 1, 1) := by decide +kernel
theorem dX10_fevered_8 : decode cX10_fevered 8 = .ok (.iload_n 1, 1) := by decide +kernel
theorem dX10_fevered_9 : decode cX10_fevered 9 = .ok (.iconst (-1), 1) := by decide +kernel
theorem dX10_fevered_10 : decode cX10_fevered 10 = .ok (.if_icmp .ne 7, 3) := by decide +kernel
theorem dX10_fevered_13 : decode cX10_fevered 13 = .ok (.iconst (-1), 1) := by decide +kernel
theorem dX10_fevered_14 : decode cX10_fevered 14 = .ok (.goto 11, 3) := by decide +kernel
theorem dX10_fevered_17 : decode cX10_fevered 17 = .ok (.aload_n 0, 1) := by decide +kernel
theorem dX10_fevered_18 : decode cX10_fevered 18 = .ok (.getfield 61, 3) := by decide +kernel
theorem dX10_fevered_21 : decode cX10_fevered 21 = .ok (.iload_n 1, 1) := by decide +kernel
theorem dX10_fevered_22 : decode cX10_fevered 22 = .ok (.invokevirtual 361, 3) := by decide +kernel
theorem dX10_fevered_25 : decode cX10_fevered 25 = .ok (.ireturn, 1) := by decide +kernel
theorem dX10_youngest_0 : decode cX10_youngest 0 = .ok (.aload_n 0, 1) := by decide +kernel
theorem dX10_youngest_1 : decode cX10_youngest 1 = .ok (.getfield 61, 3) := by decide +kernel
theorem dX10_youngest_4 : decode cX10_youngest 4 = .ok (.iload_n 1, 1) := by decide +kernel
theorem dX10_youngest_5 : decode cX10_youngest 5 = .ok (.invokevirtual 364, 3) := by decide +kernel
theorem dX10_youngest_8 : decode cX10_youngest 8 = .ok (.ireturn, 1) := by decide +kernel
theorem dX10_rivals_0 : decode cX10_rivals 0 = .ok (.aload_n 0, 1) := by decide +kernel
theorem dX10_rivals_1 : decode cX10_rivals 1 = .ok (.getfield 19, 3) := by decide +kernel
theorem dX10_rivals_4 : decode cX10_rivals 4 = .ok (.invokevirtual 159, 3) := by decide +kernel
theorem dX10_rivals_7 : decode cX10_rivals 7 = .ok (.istore_n 2, 1) := by decide +kernel
theorem dX10_rivals_8 : decode cX10_rivals 8 = .ok (.iload_n 2, 1) := by decide +kernel
theorem dX10_rivals_9 : decode cX10_rivals 9 = .ok (.iconst (-1), 1) := by decide +kernel
theorem dX10_rivals_10 : decode cX10_rivals 10 = .ok (.if_icmp .eq 14, 3) := by decide +kernel
theorem dX10_rivals_13 : decode cX10_rivals 13 = .ok (.aload_n 0, 1) := by decide +kernel
theorem dX10_rivals_14 : decode cX10_rivals 14 = .ok (.getfield 19, 3) := by decide +kernel
theorem dX10_rivals_17 : decode cX10_rivals 17 = .ok (.iload_n 1, 1) := by decide +kernel
theorem dX10_rivals_18 : decode cX10_rivals 18 = .ok (.invokevirtual 112, 3) := by decide +kernel
theorem dX10_rivals_21 : decode cX10_rivals 21 = .ok (.ifCond .ne 7, 3) := by decide +kernel
theorem dX10_rivals_24 : decode cX10_rivals 24 = .ok (.iconst (-1), 1) := by decide +kernel
theorem dX10_rivals_25 : decode cX10_rivals 25 = .ok (.goto 12, 3) := by decide +kernel
theorem dX10_rivals_28 : decode cX10_rivals 28 = .ok (.aload_n 0, 1) := by decide +kernel
theorem dX10_rivals_29 : decode cX10_rivals 29 = .ok (.getfield 61, 3) := by decide +kernel
theorem dX10_rivals_32 : decode cX10_rivals 32 = .ok (.iload_n 1, 1) := by decide +kernel
theorem dX10_rivals_33 : decode cX10_rivals 33 = .ok (.iload_n 2, 1) := by decide +kernel
theorem dX10_rivals_34 : decode cX10_rivals 34 = .ok (.invokevirtual 367, 3) := by decide +kernel
theorem dX10_rivals_37 : decode cX10_rivals 37 = .ok (.ireturn, 1) := by decide +kernel
theorem dX10_forgotten_0 : decode cX10_forgotten 0 = .ok (.aload_n 0, 1) := by decide +kernel
theorem dX10_forgotten_1 : decode cX10_forgotten 1 = .ok (.getfield 19, 3) := by decide +kernel
theorem dX10_forgotten_4 : decode cX10_forgotten 4 = .ok (.invokevirtual 139, 3) := by decide +kernel
theorem dX10_forgotten_7 : decode cX10_forgotten 7 = .ok (.ifCond .eq 13, 3) := by decide +kernel
theorem dX10_forgotten_10 : decode cX10_forgotten 10 = .ok (.aload_n 0, 1) := by decide +kernel
theorem dX10_forgotten_11 : decode cX10_forgotten 11 = .ok (.getfield 61, 3) := by decide +kernel
theorem dX10_forgotten_14 : decode cX10_forgotten 14 = .ok (.invokevirtual 370, 3) := by decide +kernel
theorem dX10_forgotten_17 : decode cX10_forgotten 17 = .ok (.goto 4, 3) := by decide +kernel
theorem dX10_forgotten_20 : decode cX10_forgotten 20 = .ok (.iconst (-1), 1) := by decide +kernel
theorem dX10_forgotten_21 : decode cX10_forgotten 21 = .ok (.ireturn, 1) := by decide +kernel
theorem dX10_hasChildAndTen_0 : decode cX10_hasChildAndTen 0 = .ok (.aload_n 0, 1) := by decide +kernel
theorem dX10_hasChildAndTen_1 : decode cX10_hasChildAndTen 1 = .ok (.getfield 19, 3) := by decide +kernel
theorem dX10_hasChildAndTen_4 : decode cX10_hasChildAndTen 4 = .ok (.iload_n 1, 1) := by decide +kernel
theorem dX10_hasChildAndTen_5 : decode cX10_hasChildAndTen 5 = .ok (.invokevirtual 112, 3) := by decide +kernel
theorem dX10_hasChildAndTen_8 : decode cX10_hasChildAndTen 8 = .ok (.ifCond .eq 17, 3) := by decide +kernel
theorem dX10_hasChildAndTen_11 : decode cX10_hasChildAndTen 11 = .ok (.iload_n 2, 1) := by decide +kernel
theorem dX10_hasChildAndTen_12 : decode cX10_hasChildAndTen 12 = .ok (.ifCond .lt 13, 3) := by decide +kernel
theorem dX10_hasChildAndTen_15 : decode cX10_hasChildAndTen 15 = .ok (.iload_n 2, 1) := by decide +kernel
theorem dX10_hasChildAndTen_16 : decode cX10_hasChildAndTen 16 = .ok (.bipush 9, 2) := by decide +kernel
theorem dX10_hasChildAndTen_18 : decode cX10_hasChildAndTen 18 = .ok (.if_icmp .ge 7, 3) := by decide +kernel
theorem dX10_hasChildAndTen_21 : decode cX10_hasChildAndTen 21 = .ok (.iconst 1, 1) := by decide +kernel
theorem dX10_hasChildAndTen_22 : decode cX10_hasChildAndTen 22 = .ok (.goto 4, 3) := by decide +kernel
theorem dX10_hasChildAndTen_25 : decode cX10_hasChildAndTen 25 = .ok (.iconst 0, 1) := by decide +kernel
theorem dX10_hasChildAndTen_26 : decode cX10_hasChildAndTen 26 = .ok (.ireturn, 1) := by decide +kernel
theorem dX10_isOneOfTwo_0 : decode cX10_isOneOfTwo 0 = .ok (.iload_n 0, 1) := by decide +kernel
theorem dX10_isOneOfTwo_1 : decode cX10_isOneOfTwo 1 = .ok (.ifCond .eq 8, 3) := by decide +kernel
theorem dX10_isOneOfTwo_4 : decode cX10_isOneOfTwo 4 = .ok (.iload_n 0, 1) := by decide +kernel
theorem dX10_isOneOfTwo_5 : decode cX10_isOneOfTwo 5 = .ok (.iconst 1, 1) := by decide +kernel
theorem dX10_isOneOfTwo_6 : decode cX10_isOneOfTwo 6 = .ok (.if_icmp .ne 7, 3) := by decide +kernel
theorem dX10_isOneOfTwo_9 : decode cX10_isOneOfTwo 9 = .ok (.iconst 1, 1) := by decide +kernel
theorem dX10_isOneOfTwo_10 : decode cX10_isOneOfTwo 10 = .ok (.goto 4, 3) := by decide +kernel
theorem dX10_isOneOfTwo_13 : decode cX10_isOneOfTwo 13 = .ok (.iconst 0, 1) := by decide +kernel
theorem dX10_isOneOfTwo_14 : decode cX10_isOneOfTwo 14 = .ok (.ireturn, 1) := by decide +kernel
theorem dX10_areTwoNurseries_0 : decode cX10_areTwoNurseries 0 = .ok (.iload_n 0, 1) := by decide +kernel
theorem dX10_areTwoNurseries_1 : decode cX10_areTwoNurseries 1 = .ok (.invokestatic 262, 3) := by decide +kernel
theorem dX10_areTwoNurseries_4 : decode cX10_areTwoNurseries 4 = .ok (.ifCond .eq 19, 3) := by decide +kernel
theorem dX10_areTwoNurseries_7 : decode cX10_areTwoNurseries 7 = .ok (.iload_n 1, 1) := by decide +kernel
theorem dX10_areTwoNurseries_8 : decode cX10_areTwoNurseries 8 = .ok (.invokestatic 262, 3) := by decide +kernel
theorem dX10_areTwoNurseries_11 : decode cX10_areTwoNurseries 11 = .ok (.ifCond .eq 12, 3) := by decide +kernel
theorem dX10_areTwoNurseries_14 : decode cX10_areTwoNurseries 14 = .ok (.iload_n 0, 1) := by decide +kernel
theorem dX10_areTwoNurseries_15 : decode cX10_areTwoNurseries 15 = .ok (.iload_n 1, 1) := by decide +kernel
theorem dX10_areTwoNurseries_16 : decode cX10_areTwoNurseries 16 = .ok (.if_icmp .eq 7, 3) := by decide +kernel
theorem dX10_areTwoNurseries_19 : decode cX10_areTwoNurseries 19 = .ok (.iconst 1, 1) := by decide +kernel
theorem dX10_areTwoNurseries_20 : decode cX10_areTwoNurseries 20 = .ok (.goto 4, 3) := by decide +kernel
theorem dX10_areTwoNurseries_23 : decode cX10_areTwoNurseries 23 = .ok (.iconst 0, 1) := by decide +kernel
theorem dX10_areTwoNurseries_24 : decode cX10_areTwoNurseries 24 = .ok (.ireturn, 1) := by decide +kernel
