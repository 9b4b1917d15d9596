theorem dX11_thrown_0 : decode cX11_thrown 0 = .ok (.aload_n 0, 1) := by decide +kernel
theorem dX11_thrown_1 : decode cX11_thrown 1 = .ok (.getfield 80, 3) := by decide +kernel
theorem dX11_thrown_4 : decode cX11_thrown 4 = .ok (.ireturn, 1) := by decide +kernel
theorem dX11_isIn_0 : decode cX11_isIn 0 = .ok (.lload_n 0, 1) := by decide +kernel
theorem dX11_isIn_1 : decode cX11_isIn 1 = .ok (.lload_n 2, 1) := by decide +kernel
theorem dX11_isIn_2 : decode cX11_isIn 2 = .ok (.lcmp, 1) := by decide +kernel
theorem dX11_isIn_3 : decode cX11_isIn 3 = .ok (.ifCond .lt 14, 3) := by decide +kernel
theorem dX11_isIn_6 : decode cX11_isIn 6 = .ok (.lload_n 0, 1) := by decide +kernel
theorem dX11_isIn_7 : decode cX11_isIn 7 = .ok (.lload 4, 2) := by decide +kernel
theorem dX11_isIn_9 : decode cX11_isIn 9 = .ok (.lcmp, 1) := by decide +kernel
theorem dX11_isIn_10 : decode cX11_isIn 10 = .ok (.ifCond .gt 7, 3) := by decide +kernel
theorem dX11_isIn_13 : decode cX11_isIn 13 = .ok (.iconst 1, 1) := by decide +kernel
theorem dX11_isIn_14 : decode cX11_isIn 14 = .ok (.goto 4, 3) := by decide +kernel
theorem dX11_isIn_17 : decode cX11_isIn 17 = .ok (.iconst 0, 1) := by decide +kernel
theorem dX11_isIn_18 : decode cX11_isIn 18 = .ok (.ireturn, 1) := by decide +kernel
theorem dX11_has_0 : decode cX11_has 0 = .ok (.iload_n 0, 1) := by decide +kernel
theorem dX11_has_1 : decode cX11_has 1 = .ok (.iload_n 1, 1) := by decide +kernel
theorem dX11_has_2 : decode cX11_has 2 = .ok (.ishr, 1) := by decide +kernel
theorem dX11_has_3 : decode cX11_has 3 = .ok (.iconst 1, 1) := by decide +kernel
theorem dX11_has_4 : decode cX11_has 4 = .ok (.iand, 1) := by decide +kernel
theorem dX11_has_5 : decode cX11_has 5 = .ok (.iconst 1, 1) := by decide +kernel
theorem dX11_has_6 : decode cX11_has 6 = .ok (.if_icmp .ne 7, 3) := by decide +kernel
theorem dX11_has_9 : decode cX11_has 9 = .ok (.iconst 1, 1) := by decide +kernel
theorem dX11_has_10 : decode cX11_has 10 = .ok (.goto 4, 3) := by decide +kernel
theorem dX11_has_13 : decode cX11_has 13 = .ok (.iconst 0, 1) := by decide +kernel
theorem dX11_has_14 : decode cX11_has 14 = .ok (.ireturn, 1) := by decide +kernel
theorem dX11_isAmong_0 : decode cX11_isAmong 0 = .ok (.iconst 0, 1) := by decide +kernel
theorem dX11_isAmong_1 : decode cX11_isAmong 1 = .ok (.istore_n 2, 1) := by decide +kernel
theorem dX11_isAmong_2 : decode cX11_isAmong 2 = .ok (.iload_n 2, 1) := by decide +kernel
theorem dX11_isAmong_3 : decode cX11_isAmong 3 = .ok (.aload_n 0, 1) := by decide +kernel
theorem dX11_isAmong_4 : decode cX11_isAmong 4 = .ok (.invokevirtual 83, 3) := by decide +kernel
theorem dX11_isAmong_7 : decode cX11_isAmong 7 = .ok (.if_icmp .ge 20, 3) := by decide +kernel
theorem dX11_isAmong_10 : decode cX11_isAmong 10 = .ok (.aload_n 0, 1) := by decide +kernel
theorem dX11_isAmong_11 : decode cX11_isAmong 11 = .ok (.iload_n 2, 1) := by decide +kernel
theorem dX11_isAmong_12 : decode cX11_isAmong 12 = .ok (.invokevirtual 89, 3) := by decide +kernel
theorem dX11_isAmong_15 : decode cX11_isAmong 15 = .ok (.iload_n 1, 1) := by decide +kernel
theorem dX11_isAmong_16 : decode cX11_isAmong 16 = .ok (.if_icmp .ne 5, 3) := by decide +kernel
theorem dX11_isAmong_19 : decode cX11_isAmong 19 = .ok (.iconst 1, 1) := by decide +kernel
theorem dX11_isAmong_20 : decode cX11_isAmong 20 = .ok (.ireturn, 1) := by decide +kernel
theorem dX11_isAmong_21 : decode cX11_isAmong 21 = .ok (.iinc 2 1, 3) := by decide +kernel
theorem dX11_isAmong_24 : decode cX11_isAmong 24 = .ok (.goto (-22), 3) := by decide +kernel
theorem dX11_isAmong_27 : decode cX11_isAmong 27 = .ok (.iconst 0, 1) := by decide +kernel
theorem dX11_isAmong_28 : decode cX11_isAmong 28 = .ok (.ireturn, 1) := by decide +kernel
theorem dX11_bytesIn_0 : decode cX11_bytesIn 0 = .ok (.iconst 0, 1) := by decide +kernel
theorem dX11_bytesIn_1 : decode cX11_bytesIn 1 = .ok (.istore_n 1, 1) := by decide +kernel
theorem dX11_bytesIn_2 : decode cX11_bytesIn 2 = .ok (.bipush 24, 2) := by decide +kernel
theorem dX11_bytesIn_4 : decode cX11_bytesIn 4 = .ok (.istore_n 2, 1) := by decide +kernel
theorem dX11_bytesIn_5 : decode cX11_bytesIn 5 = .ok (.iload_n 2, 1) := by decide +kernel
theorem dX11_bytesIn_6 : decode cX11_bytesIn 6 = .ok (.ifCond .lt 27, 3) := by decide +kernel
theorem dX11_bytesIn_9 : decode cX11_bytesIn 9 = .ok (.iload_n 1, 1) := by decide +kernel
theorem dX11_bytesIn_10 : decode cX11_bytesIn 10 = .ok (.iload_n 0, 1) := by decide +kernel
theorem dX11_bytesIn_11 : decode cX11_bytesIn 11 = .ok (.iload_n 2, 1) := by decide +kernel
theorem dX11_bytesIn_12 : decode cX11_bytesIn 12 = .ok (.ishr, 1) := by decide +kernel
theorem dX11_bytesIn_13 : decode cX11_bytesIn 13 = .ok (.sipush 255, 3) := by decide +kernel
theorem dX11_bytesIn_16 : decode cX11_bytesIn 16 = .ok (.iand, 1) := by decide +kernel
theorem dX11_bytesIn_17 : decode cX11_bytesIn 17 = .ok (.ifCond .eq 7, 3) := by decide +kernel
theorem dX11_bytesIn_20 : decode cX11_bytesIn 20 = .ok (.iconst 1, 1) := by decide +kernel
theorem dX11_bytesIn_21 : decode cX11_bytesIn 21 = .ok (.goto 4, 3) := by decide +kernel
theorem dX11_bytesIn_24 : decode cX11_bytesIn 24 = .ok (.iconst 0, 1) := by decide +kernel
theorem dX11_bytesIn_25 : decode cX11_bytesIn 25 = .ok (.iadd, 1) := by decide +kernel
theorem dX11_bytesIn_26 : decode cX11_bytesIn 26 = .ok (.istore_n 1, 1) := by decide +kernel
theorem dX11_bytesIn_27 : decode cX11_bytesIn 27 = .ok (.iinc 2 (-8), 3) := by decide +kernel
theorem dX11_bytesIn_30 : decode cX11_bytesIn 30 = .ok (.goto (-25), 3) := by decide +kernel
theorem dX11_bytesIn_33 : decode cX11_bytesIn 33 = .ok (.iload_n 1, 1) := by decide +kernel
theorem dX11_bytesIn_34 : decode cX11_bytesIn 34 = .ok (.ireturn, 1) := by decide +kernel
theorem dX11_put_0 : decode cX11_put 0 = .ok (.bipush 24, 2) := by decide +kernel
theorem dX11_put_2 : decode cX11_put 2 = .ok (.istore_n 2, 1) := by decide +kernel
theorem dX11_put_3 : decode cX11_put 3 = .ok (.iload_n 2, 1) := by decide +kernel
theorem dX11_put_4 : decode cX11_put 4 = .ok (.ifCond .lt 45, 3) := by decide +kernel
theorem dX11_put_7 : decode cX11_put 7 = .ok (.iload_n 1, 1) := by decide +kernel
theorem dX11_put_8 : decode cX11_put 8 = .ok (.iload_n 2, 1) := by decide +kernel
theorem dX11_put_9 : decode cX11_put 9 = .ok (.ishr, 1) := by decide +kernel
theorem dX11_put_10 : decode cX11_put 10 = .ok (.sipush 255, 3) := by decide +kernel
theorem dX11_put_13 : decode cX11_put 13 = .ok (.iand, 1) := by decide +kernel
theorem dX11_put_14 : decode cX11_put 14 = .ok (.ifCond .ne 6, 3) := by decide +kernel
theorem dX11_put_17 : decode cX11_put 17 = .ok (.goto 26, 3) := by decide +kernel
theorem dX11_put_20 : decode cX11_put 20 = .ok (.aload_n 0, 1) := by decide +kernel
theorem dX11_put_21 : decode cX11_put 21 = .ok (.getfield 9, 3) := by decide +kernel
theorem dX11_put_24 : decode cX11_put 24 = .ok (.aload_n 0, 1) := by decide +kernel
theorem dX11_put_25 : decode cX11_put 25 = .ok (.getfield 93, 3) := by decide +kernel
theorem dX11_put_28 : decode cX11_put 28 = .ok (.iload_n 1, 1) := by decide +kernel
theorem dX11_put_29 : decode cX11_put 29 = .ok (.iload_n 2, 1) := by decide +kernel
theorem dX11_put_30 : decode cX11_put 30 = .ok (.ishr, 1) := by decide +kernel
theorem dX11_put_31 : decode cX11_put 31 = .ok (.i2b, 1) := by decide +kernel
theorem dX11_put_32 : decode cX11_put 32 = .ok (.bastore, 1) := by decide +kernel
theorem dX11_put_33 : decode cX11_put 33 = .ok (.aload_n 0, 1) := by decide +kernel
theorem dX11_put_34 : decode cX11_put 34 = .ok (.dup, 1) := by decide +kernel
theorem dX11_put_35 : decode cX11_put 35 = .ok (.getfield 93, 3) := by decide +kernel
theorem dX11_put_38 : decode cX11_put 38 = .ok (.iconst 1, 1) := by decide +kernel
theorem dX11_put_39 : decode cX11_put 39 = .ok (.iadd, 1) := by decide +kernel
theorem dX11_put_40 : decode cX11_put 40 = .ok (.putfield 93, 3) := by decide +kernel
theorem dX11_put_43 : decode cX11_put 43 = .ok (.iinc 2 (-8), 3) := by decide +kernel
theorem dX11_put_46 : decode cX11_put 46 = .ok (.goto (-43), 3) := by decide +kernel
theorem dX11_put_49 : decode cX11_put 49 = .ok (.return_, 1) := by decide +kernel
theorem dX11_feed_0 : decode cX11_feed 0 = .ok (.aload_n 0, 1) := by decide +kernel
theorem dX11_feed_1 : decode cX11_feed 1 = .ok (.iconst 0, 1) := by decide +kernel
theorem dX11_feed_2 : decode cX11_feed 2 = .ok (.putfield 80, 3) := by decide +kernel
theorem dX11_feed_5 : decode cX11_feed 5 = .ok (.aload_n 0, 1) := by decide +kernel
theorem dX11_feed_6 : decode cX11_feed 6 = .ok (.getfield 93, 3) := by decide +kernel
theorem dX11_feed_9 : decode cX11_feed 9 = .ok (.iload_n 1, 1) := by decide +kernel
theorem dX11_feed_10 : decode cX11_feed 10 = .ok (.invokestatic 95, 3) := by decide +kernel
theorem dX11_feed_13 : decode cX11_feed 13 = .ok (.iadd, 1) := by decide +kernel
theorem dX11_feed_14 : decode cX11_feed 14 = .ok (.iload_n 2, 1) := by decide +kernel
theorem dX11_feed_15 : decode cX11_feed 15 = .ok (.invokestatic 95, 3) := by decide +kernel
theorem dX11_feed_18 : decode cX11_feed 18 = .ok (.iadd, 1) := by decide +kernel
theorem dX11_feed_19 : decode cX11_feed 19 = .ok (.iload_n 3, 1) := by decide +kernel
theorem dX11_feed_20 : decode cX11_feed 20 = .ok (.invokestatic 95, 3) := by decide +kernel
theorem dX11_feed_23 : decode cX11_feed 23 = .ok (.iadd, 1) := by decide +kernel
theorem dX11_feed_24 : decode cX11_feed 24 = .ok (.iload 4, 2) := by decide +kernel
theorem dX11_feed_26 : decode cX11_feed 26 = .ok (.invokestatic 95, 3) := by decide +kernel
theorem dX11_feed_29 : decode cX11_feed 29 = .ok (.iadd, 1) := by decide +kernel
theorem dX11_feed_30 : decode cX11_feed 30 = .ok (.iload 5, 2) := by decide +kernel
theorem dX11_feed_32 : decode cX11_feed 32 = .ok (.invokestatic 95, 3) := by decide +kernel
theorem dX11_feed_35 : decode cX11_feed 35 = .ok (.iadd, 1) := by decide +kernel
theorem dX11_feed_36 : decode cX11_feed 36 = .ok (.sipush 240, 3) := by decide +kernel
theorem dX11_feed_39 : decode cX11_feed 39 = .ok (.if_icmp .le 5, 3) := by decide +kernel
theorem dX11_feed_42 : decode cX11_feed 42 = .ok (.iconst (-1), 1) := by decide +kernel
theorem dX11_feed_43 : decode cX11_feed 43 = .ok (.ireturn, 1) := by decide +kernel
theorem dX11_feed_44 : decode cX11_feed 44 = .ok (.aload_n 0, 1) := by decide +kernel
theorem dX11_feed_45 : decode cX11_feed 45 = .ok (.iload_n 1, 1) := by decide +kernel
theorem dX11_feed_46 : decode cX11_feed 46 = .ok (.invokevirtual 99, 3) := by decide +kernel
theorem dX11_feed_49 : decode cX11_feed 49 = .ok (.aload_n 0, 1) := by decide +kernel
theorem dX11_feed_50 : decode cX11_feed 50 = .ok (.iload_n 2, 1) := by decide +kernel
theorem dX11_feed_51 : decode cX11_feed 51 = .ok (.invokevirtual 99, 3) := by decide +kernel
theorem dX11_feed_54 : decode cX11_feed 54 = .ok (.aload_n 0, 1) := by decide +kernel
theorem dX11_feed_55 : decode cX11_feed 55 = .ok (.iload_n 3, 1) := by decide +kernel
theorem dX11_feed_56 : decode cX11_feed 56 = .ok (.invokevirtual 99, 3) := by decide +kernel
theorem dX11_feed_59 : decode cX11_feed 59 = .ok (.aload_n 0, 1) := by decide +kernel
theorem dX11_feed_60 : decode cX11_feed 60 = .ok (.iload 4, 2) := by decide +kernel
theorem dX11_feed_62 : decode cX11_feed 62 = .ok (.invokevirtual 99, 3) := by decide +kernel
theorem dX11_feed_65 : decode cX11_feed 65 = .ok (.aload_n 0, 1) := by decide +kernel
theorem dX11_feed_66 : decode cX11_feed 66 = .ok (.iload 5, 2) := by decide +kernel
theorem dX11_feed_68 : decode cX11_feed 68 = .ok (.invokevirtual 99, 3) := by decide +kernel
theorem dX11_feed_71 : decode cX11_feed 71 = .ok (.aload_n 0, 1) := by decide +kernel
theorem dX11_feed_72 : decode cX11_feed 72 = .ok (.getfield 93, 3) := by decide +kernel
theorem dX11_feed_75 : decode cX11_feed 75 = .ok (.ireturn, 1) := by decide +kernel
theorem dX11_end_0 : decode cX11_end 0 = .ok (.aload_n 0, 1) := by decide +kernel
theorem dX11_end_1 : decode cX11_end 1 = .ok (.iconst 0, 1) := by decide +kernel
theorem dX11_end_2 : decode cX11_end 2 = .ok (.putfield 80, 3) := by decide +kernel
theorem dX11_end_5 : decode cX11_end 5 = .ok (.iload_n 1, 1) := by decide +kernel
theorem dX11_end_6 : decode cX11_end 6 = .ok (.ifCond .lt 11, 3) := by decide +kernel
theorem dX11_end_9 : decode cX11_end 9 = .ok (.iload_n 1, 1) := by decide +kernel
theorem dX11_end_10 : decode cX11_end 10 = .ok (.aload_n 0, 1) := by decide +kernel
theorem dX11_end_11 : decode cX11_end 11 = .ok (.getfield 93, 3) := by decide +kernel
theorem dX11_end_14 : decode cX11_end 14 = .ok (.if_icmp .le 5, 3) := by decide +kernel
theorem dX11_end_17 : decode cX11_end 17 = .ok (.iconst 0, 1) := by decide +kernel
theorem dX11_end_18 : decode cX11_end 18 = .ok (.ireturn, 1) := by decide +kernel
theorem dX11_end_19 : decode cX11_end 19 = .ok (.aload_n 0, 1) := by decide +kernel
theorem dX11_end_20 : decode cX11_end 20 = .ok (.iload_n 1, 1) := by decide +kernel
theorem dX11_end_21 : decode cX11_end 21 = .ok (.putfield 93, 3) := by decide +kernel
theorem dX11_end_24 : decode cX11_end 24 = .ok (.iconst 1, 1) := by decide +kernel
theorem dX11_end_25 : decode cX11_end 25 = .ok (.ireturn, 1) := by decide +kernel
theorem dX11_look_0 : decode cX11_look 0 = .ok (.aload_n 0, 1) := by decide +kernel
theorem dX11_look_1 : decode cX11_look 1 = .ok (.getfield 103, 3) := by decide +kernel
theorem dX11_look_4 : decode cX11_look 4 = .ok (.aload_n 0, 1) := by decide +kernel
theorem dX11_look_5 : decode cX11_look 5 = .ok (.getfield 106, 3) := by decide +kernel
theorem dX11_look_8 : decode cX11_look 8 = .ok (.if_icmp .ge 35, 3) := by decide +kernel
theorem dX11_look_11 : decode cX11_look 11 = .ok (.aload_n 0, 1) := by decide +kernel
theorem dX11_look_12 : decode cX11_look 12 = .ok (.getfield 23, 3) := by decide +kernel
theorem dX11_look_15 : decode cX11_look 15 = .ok (.aload_n 0, 1) := by decide +kernel
theorem dX11_look_16 : decode cX11_look 16 = .ok (.getfield 109, 3) := by decide +kernel
theorem dX11_look_19 : decode cX11_look 19 = .ok (.aload_n 0, 1) := by decide +kernel
theorem dX11_look_20 : decode cX11_look 20 = .ok (.getfield 103, 3) := by decide +kernel
theorem dX11_look_23 : decode cX11_look 23 = .ok (.iadd, 1) := by decide +kernel
theorem dX11_look_24 : decode cX11_look 24 = .ok (.baload, 1) := by decide +kernel
theorem dX11_look_25 : decode cX11_look 25 = .ok (.bipush 32, 2) := by decide +kernel
theorem dX11_look_27 : decode cX11_look 27 = .ok (.if_icmp .ne 16, 3) := by decide +kernel
theorem dX11_look_30 : decode cX11_look 30 = .ok (.aload_n 0, 1) := by decide +kernel
theorem dX11_look_31 : decode cX11_look 31 = .ok (.dup, 1) := by decide +kernel
theorem dX11_look_32 : decode cX11_look 32 = .ok (.getfield 103, 3) := by decide +kernel
theorem dX11_look_35 : decode cX11_look 35 = .ok (.iconst 1, 1) := by decide +kernel
theorem dX11_look_36 : decode cX11_look 36 = .ok (.iadd, 1) := by decide +kernel
theorem dX11_look_37 : decode cX11_look 37 = .ok (.putfield 103, 3) := by decide +kernel
theorem dX11_look_40 : decode cX11_look 40 = .ok (.goto (-40), 3) := by decide +kernel
theorem dX11_look_43 : decode cX11_look 43 = .ok (.aload_n 0, 1) := by decide +kernel
theorem dX11_look_44 : decode cX11_look 44 = .ok (.getfield 103, 3) := by decide +kernel
theorem dX11_look_47 : decode cX11_look 47 = .ok (.aload_n 0, 1) := by decide +kernel
theorem dX11_look_48 : decode cX11_look 48 = .ok (.getfield 106, 3) := by decide +kernel
theorem dX11_look_51 : decode cX11_look 51 = .ok (.if_icmp .ge 24, 3) := by decide +kernel
theorem dX11_look_54 : decode cX11_look 54 = .ok (.aload_n 0, 1) := by decide +kernel
theorem dX11_look_55 : decode cX11_look 55 = .ok (.getfield 23, 3) := by decide +kernel
theorem dX11_look_58 : decode cX11_look 58 = .ok (.aload_n 0, 1) := by decide +kernel
theorem dX11_look_59 : decode cX11_look 59 = .ok (.getfield 109, 3) := by decide +kernel
theorem dX11_look_62 : decode cX11_look 62 = .ok (.aload_n 0, 1) := by decide +kernel
theorem dX11_look_63 : decode cX11_look 63 = .ok (.getfield 103, 3) := by decide +kernel
theorem dX11_look_66 : decode cX11_look 66 = .ok (.iadd, 1) := by decide +kernel
theorem dX11_look_67 : decode cX11_look 67 = .ok (.baload, 1) := by decide +kernel
theorem dX11_look_68 : decode cX11_look 68 = .ok (.sipush 255, 3) := by decide +kernel
theorem dX11_look_71 : decode cX11_look 71 = .ok (.iand, 1) := by decide +kernel
theorem dX11_look_72 : decode cX11_look 72 = .ok (.goto 4, 3) := by decide +kernel
theorem dX11_look_75 : decode cX11_look 75 = .ok (.iconst (-1), 1) := by decide +kernel
theorem dX11_look_76 : decode cX11_look 76 = .ok (.ireturn, 1) := by decide +kernel
theorem dX11_fails_0 : decode cX11_fails 0 = .ok (.aload_n 0, 1) := by decide +kernel
theorem dX11_fails_1 : decode cX11_fails 1 = .ok (.getfield 112, 3) := by decide +kernel
theorem dX11_fails_4 : decode cX11_fails 4 = .ok (.iconst (-1), 1) := by decide +kernel
theorem dX11_fails_5 : decode cX11_fails 5 = .ok (.if_icmp .ne 11, 3) := by decide +kernel
theorem dX11_fails_8 : decode cX11_fails 8 = .ok (.aload_n 0, 1) := by decide +kernel
theorem dX11_fails_9 : decode cX11_fails 9 = .ok (.aload_n 0, 1) := by decide +kernel
theorem dX11_fails_10 : decode cX11_fails 10 = .ok (.getfield 103, 3) := by decide +kernel
theorem dX11_fails_13 : decode cX11_fails 13 = .ok (.putfield 112, 3) := by decide +kernel
theorem dX11_fails_16 : decode cX11_fails 16 = .ok (.iconst 0, 1) := by decide +kernel
theorem dX11_fails_17 : decode cX11_fails 17 = .ok (.ireturn, 1) := by decide +kernel
theorem dX11_goesIn_0 : decode cX11_goesIn 0 = .ok (.aload_n 0, 1) := by decide +kernel
theorem dX11_goesIn_1 : decode cX11_goesIn 1 = .ok (.getfield 115, 3) := by decide +kernel
theorem dX11_goesIn_4 : decode cX11_goesIn 4 = .ok (.bipush 6, 2) := by decide +kernel
theorem dX11_goesIn_6 : decode cX11_goesIn 6 = .ok (.if_icmp .ne 8, 3) := by decide +kernel
theorem dX11_goesIn_9 : decode cX11_goesIn 9 = .ok (.aload_n 0, 1) := by decide +kernel
theorem dX11_goesIn_10 : decode cX11_goesIn 10 = .ok (.invokevirtual 118, 3) := by decide +kernel
theorem dX11_goesIn_13 : decode cX11_goesIn 13 = .ok (.ireturn, 1) := by decide +kernel
theorem dX11_goesIn_14 : decode cX11_goesIn 14 = .ok (.aload_n 0, 1) := by decide +kernel
theorem dX11_goesIn_15 : decode cX11_goesIn 15 = .ok (.dup, 1) := by decide +kernel
theorem dX11_goesIn_16 : decode cX11_goesIn 16 = .ok (.getfield 115, 3) := by decide +kernel
theorem dX11_goesIn_19 : decode cX11_goesIn 19 = .ok (.iconst 1, 1) := by decide +kernel
theorem dX11_goesIn_20 : decode cX11_goesIn 20 = .ok (.iadd, 1) := by decide +kernel
theorem dX11_goesIn_21 : decode cX11_goesIn 21 = .ok (.putfield 115, 3) := by decide +kernel
theorem dX11_goesIn_24 : decode cX11_goesIn 24 = .ok (.aload_n 0, 1) := by decide +kernel
theorem dX11_goesIn_25 : decode cX11_goesIn 25 = .ok (.dup, 1) := by decide +kernel
theorem dX11_goesIn_26 : decode cX11_goesIn 26 = .ok (.getfield 103, 3) := by decide +kernel
theorem dX11_goesIn_29 : decode cX11_goesIn 29 = .ok (.iconst 1, 1) := by decide +kernel
theorem dX11_goesIn_30 : decode cX11_goesIn 30 = .ok (.iadd, 1) := by decide +kernel
theorem dX11_goesIn_31 : decode cX11_goesIn 31 = .ok (.putfield 103, 3) := by decide +kernel
theorem dX11_goesIn_34 : decode cX11_goesIn 34 = .ok (.iconst 1, 1) := by decide +kernel
theorem dX11_goesIn_35 : decode cX11_goesIn 35 = .ok (.ireturn, 1) := by decide +kernel
theorem dX11_takes_0 : decode cX11_takes 0 = .ok (.aload_n 0, 1) := by decide +kernel
theorem dX11_takes_1 : decode cX11_takes 1 = .ok (.getfield 112, 3) := by decide +kernel
theorem dX11_takes_4 : decode cX11_takes 4 = .ok (.iconst (-1), 1) := by decide +kernel
theorem dX11_takes_5 : decode cX11_takes 5 = .ok (.if_icmp .ne 11, 3) := by decide +kernel
theorem dX11_takes_8 : decode cX11_takes 8 = .ok (.aload_n 0, 1) := by decide +kernel
theorem dX11_takes_9 : decode cX11_takes 9 = .ok (.invokevirtual 122, 3) := by decide +kernel
theorem dX11_takes_12 : decode cX11_takes 12 = .ok (.iload_n 1, 1) := by decide +kernel
theorem dX11_takes_13 : decode cX11_takes 13 = .ok (.if_icmp .eq 8, 3) := by decide +kernel
theorem dX11_takes_16 : decode cX11_takes 16 = .ok (.aload_n 0, 1) := by decide +kernel
theorem dX11_takes_17 : decode cX11_takes 17 = .ok (.invokevirtual 118, 3) := by decide +kernel
theorem dX11_takes_20 : decode cX11_takes 20 = .ok (.ireturn, 1) := by decide +kernel
theorem dX11_takes_21 : decode cX11_takes 21 = .ok (.aload_n 0, 1) := by decide +kernel
theorem dX11_takes_22 : decode cX11_takes 22 = .ok (.dup, 1) := by decide +kernel
theorem dX11_takes_23 : decode cX11_takes 23 = .ok (.getfield 103, 3) := by decide +kernel
theorem dX11_takes_26 : decode cX11_takes 26 = .ok (.iconst 1, 1) := by decide +kernel
theorem dX11_takes_27 : decode cX11_takes 27 = .ok (.iadd, 1) := by decide +kernel
theorem dX11_takes_28 : decode cX11_takes 28 = .ok (.putfield 103, 3) := by decide +kernel
theorem dX11_takes_31 : decode cX11_takes 31 = .ok (.iconst 1, 1) := by decide +kernel
theorem dX11_takes_32 : decode cX11_takes 32 = .ok (.ireturn, 1) := by decide +kernel
theorem dX11_isDigit_0 : decode cX11_isDigit 0 = .ok (.aload_n 0, 1) := by decide +kernel
theorem dX11_isDigit_1 : decode cX11_isDigit 1 = .ok (.getfield 103, 3) := by decide +kernel
theorem dX11_isDigit_4 : decode cX11_isDigit 4 = .ok (.aload_n 0, 1) := by decide +kernel
theorem dX11_isDigit_5 : decode cX11_isDigit 5 = .ok (.getfield 106, 3) := by decide +kernel
theorem dX11_isDigit_8 : decode cX11_isDigit 8 = .ok (.if_icmp .ge 45, 3) := by decide +kernel
theorem dX11_isDigit_11 : decode cX11_isDigit 11 = .ok (.aload_n 0, 1) := by decide +kernel
theorem dX11_isDigit_12 : decode cX11_isDigit 12 = .ok (.getfield 23, 3) := by decide +kernel
theorem dX11_isDigit_15 : decode cX11_isDigit 15 = .ok (.aload_n 0, 1) := by decide +kernel
theorem dX11_isDigit_16 : decode cX11_isDigit 16 = .ok (.getfield 109, 3) := by decide +kernel
theorem dX11_isDigit_19 : decode cX11_isDigit 19 = .ok (.aload_n 0, 1) := by decide +kernel
theorem dX11_isDigit_20 : decode cX11_isDigit 20 = .ok (.getfield 103, 3) := by decide +kernel
theorem dX11_isDigit_23 : decode cX11_isDigit 23 = .ok (.iadd, 1) := by decide +kernel
theorem dX11_isDigit_24 : decode cX11_isDigit 24 = .ok (.baload, 1) := by decide +kernel
theorem dX11_isDigit_25 : decode cX11_isDigit 25 = .ok (.bipush 48, 2) := by decide +kernel
theorem dX11_isDigit_27 : decode cX11_isDigit 27 = .ok (.if_icmp .lt 26, 3) := by decide +kernel
theorem dX11_isDigit_30 : decode cX11_isDigit 30 = .ok (.aload_n 0, 1) := by decide +kernel
theorem dX11_isDigit_31 : decode cX11_isDigit 31 = .ok (.getfield 23, 3) := by decide +kernel
theorem dX11_isDigit_34 : decode cX11_isDigit 34 = .ok (.aload_n 0, 1) := by decide +kernel
theorem dX11_isDigit_35 : decode cX11_isDigit 35 = .ok (.getfield 109, 3) := by decide +kernel
theorem dX11_isDigit_38 : decode cX11_isDigit 38 = .ok (.aload_n 0, 1) := by decide +kernel
theorem dX11_isDigit_39 : decode cX11_isDigit 39 = .ok (.getfield 103, 3) := by decide +kernel
theorem dX11_isDigit_42 : decode cX11_isDigit 42 = .ok (.iadd, 1) := by decide +kernel
theorem dX11_isDigit_43 : decode cX11_isDigit 43 = .ok (.baload, 1) := by decide +kernel
theorem dX11_isDigit_44 : decode cX11_isDigit 44 = .ok (.bipush 57, 2) := by decide +kernel
theorem dX11_isDigit_46 : decode cX11_isDigit 46 = .ok (.if_icmp .gt 7, 3) := by decide +kernel
theorem dX11_isDigit_49 : decode cX11_isDigit 49 = .ok (.iconst 1, 1) := by decide +kernel
theorem dX11_isDigit_50 : decode cX11_isDigit 50 = .ok (.goto 4, 3) := by decide +kernel
theorem dX11_isDigit_53 : decode cX11_isDigit 53 = .ok (.iconst 0, 1) := by decide +kernel
theorem dX11_isDigit_54 : decode cX11_isDigit 54 = .ok (.ireturn, 1) := by decide +kernel
theorem dX11_within_0 : decode cX11_within 0 = .ok (.ldc2_w 125, 3) := by decide +kernel
theorem dX11_within_3 : decode cX11_within 3 = .ok (.ldc2_w 127, 3) := by decide +kernel
theorem dX11_within_6 : decode cX11_within 6 = .ok (.lload_n 0, 1) := by decide +kernel
theorem dX11_within_7 : decode cX11_within 7 = .ok (.invokestatic 129, 3) := by decide +kernel
theorem dX11_within_10 : decode cX11_within 10 = .ok (.invokestatic 135, 3) := by decide +kernel
theorem dX11_within_13 : decode cX11_within 13 = .ok (.l2i, 1) := by decide +kernel
theorem dX11_within_14 : decode cX11_within 14 = .ok (.ireturn, 1) := by decide +kernel
theorem dX11_atom_0 : decode cX11_atom 0 = .ok (.aload_n 0, 1) := by decide +kernel
theorem dX11_atom_1 : decode cX11_atom 1 = .ok (.invokevirtual 122, 3) := by decide +kernel
theorem dX11_atom_4 : decode cX11_atom 4 = .ok (.istore_n 1, 1) := by decide +kernel
theorem dX11_atom_5 : decode cX11_atom 5 = .ok (.ldc 32, 2) := by decide +kernel
theorem dX11_atom_7 : decode cX11_atom 7 = .ok (.iload_n 1, 1) := by decide +kernel
theorem dX11_atom_8 : decode cX11_atom 8 = .ok (.invokestatic 138, 3) := by decide +kernel
theorem dX11_atom_11 : decode cX11_atom 11 = .ok (.ifCond .eq 20, 3) := by decide +kernel
theorem dX11_atom_14 : decode cX11_atom 14 = .ok (.aload_n 0, 1) := by decide +kernel
theorem dX11_atom_15 : decode cX11_atom 15 = .ok (.dup, 1) := by decide +kernel
theorem dX11_atom_16 : decode cX11_atom 16 = .ok (.getfield 103, 3) := by decide +kernel
theorem dX11_atom_19 : decode cX11_atom 19 = .ok (.iconst 1, 1) := by decide +kernel
theorem dX11_atom_20 : decode cX11_atom 20 = .ok (.iadd, 1) := by decide +kernel
theorem dX11_atom_21 : decode cX11_atom 21 = .ok (.putfield 103, 3) := by decide +kernel
theorem dX11_atom_24 : decode cX11_atom 24 = .ok (.aload_n 0, 1) := by decide +kernel
theorem dX11_atom_25 : decode cX11_atom 25 = .ok (.getfield 20, 3) := by decide +kernel
theorem dX11_atom_28 : decode cX11_atom 28 = .ok (.iload_n 1, 1) := by decide +kernel
theorem dX11_atom_29 : decode cX11_atom 29 = .ok (.iaload, 1) := by decide +kernel
theorem dX11_atom_30 : decode cX11_atom 30 = .ok (.ireturn, 1) := by decide +kernel
theorem dX11_atom_31 : decode cX11_atom 31 = .ok (.iload_n 1, 1) := by decide +kernel
theorem dX11_atom_32 : decode cX11_atom 32 = .ok (.bipush 91, 2) := by decide +kernel
theorem dX11_atom_34 : decode cX11_atom 34 = .ok (.if_icmp .ne 40, 3) := by decide +kernel
theorem dX11_atom_37 : decode cX11_atom 37 = .ok (.aload_n 0, 1) := by decide +kernel
theorem dX11_atom_38 : decode cX11_atom 38 = .ok (.invokevirtual 142, 3) := by decide +kernel
theorem dX11_atom_41 : decode cX11_atom 41 = .ok (.ifCond .ne 5, 3) := by decide +kernel
theorem dX11_atom_44 : decode cX11_atom 44 = .ok (.iconst 0, 1) := by decide +kernel
theorem dX11_atom_45 : decode cX11_atom 45 = .ok (.ireturn, 1) := by decide +kernel
theorem dX11_atom_46 : decode cX11_atom 46 = .ok (.aload_n 0, 1) := by decide +kernel
theorem dX11_atom_47 : decode cX11_atom 47 = .ok (.invokevirtual 145, 3) := by decide +kernel
theorem dX11_atom_50 : decode cX11_atom 50 = .ok (.istore_n 2, 1) := by decide +kernel
theorem dX11_atom_51 : decode cX11_atom 51 = .ok (.aload_n 0, 1) := by decide +kernel
theorem dX11_atom_52 : decode cX11_atom 52 = .ok (.bipush 93, 2) := by decide +kernel
theorem dX11_atom_54 : decode cX11_atom 54 = .ok (.invokevirtual 148, 3) := by decide +kernel
theorem dX11_atom_57 : decode cX11_atom 57 = .ok (.ifCond .ne 5, 3) := by decide +kernel
theorem dX11_atom_60 : decode cX11_atom 60 = .ok (.iconst 0, 1) := by decide +kernel
theorem dX11_atom_61 : decode cX11_atom 61 = .ok (.ireturn, 1) := by decide +kernel
theorem dX11_atom_62 : decode cX11_atom 62 = .ok (.aload_n 0, 1) := by decide +kernel
theorem dX11_atom_63 : decode cX11_atom 63 = .ok (.dup, 1) := by decide +kernel
theorem dX11_atom_64 : decode cX11_atom 64 = .ok (.getfield 115, 3) := by decide +kernel
theorem dX11_atom_67 : decode cX11_atom 67 = .ok (.iconst 1, 1) := by decide +kernel
theorem dX11_atom_68 : decode cX11_atom 68 = .ok (.isub, 1) := by decide +kernel
theorem dX11_atom_69 : decode cX11_atom 69 = .ok (.putfield 115, 3) := by decide +kernel
theorem dX11_atom_72 : decode cX11_atom 72 = .ok (.iload_n 2, 1) := by decide +kernel
theorem dX11_atom_73 : decode cX11_atom 73 = .ok (.ireturn, 1) := by decide +kernel
theorem dX11_atom_74 : decode cX11_atom 74 = .ok (.aload_n 0, 1) := by decide +kernel
theorem dX11_atom_75 : decode cX11_atom 75 = .ok (.invokevirtual 152, 3) := by decide +kernel
theorem dX11_atom_78 : decode cX11_atom 78 = .ok (.ifCond .ne 8, 3) := by decide +kernel
theorem dX11_atom_81 : decode cX11_atom 81 = .ok (.aload_n 0, 1) := by decide +kernel
theorem dX11_atom_82 : decode cX11_atom 82 = .ok (.invokevirtual 118, 3) := by decide +kernel
theorem dX11_atom_85 : decode cX11_atom 85 = .ok (.pop, 1) := by decide +kernel
theorem dX11_atom_86 : decode cX11_atom 86 = .ok (.iconst 0, 1) := by decide +kernel
theorem dX11_atom_87 : decode cX11_atom 87 = .ok (.istore_n 2, 1) := by decide +kernel
theorem dX11_atom_88 : decode cX11_atom 88 = .ok (.iconst 0, 1) := by decide +kernel
theorem dX11_atom_89 : decode cX11_atom 89 = .ok (.istore_n 3, 1) := by decide +kernel
theorem dX11_atom_90 : decode cX11_atom 90 = .ok (.aload_n 0, 1) := by decide +kernel
theorem dX11_atom_91 : decode cX11_atom 91 = .ok (.invokevirtual 152, 3) := by decide +kernel
theorem dX11_atom_94 : decode cX11_atom 94 = .ok (.ifCond .eq 62, 3) := by decide +kernel
theorem dX11_atom_97 : decode cX11_atom 97 = .ok (.aload_n 0, 1) := by decide +kernel
theorem dX11_atom_98 : decode cX11_atom 98 = .ok (.getfield 112, 3) := by decide +kernel
theorem dX11_atom_101 : decode cX11_atom 101 = .ok (.iconst (-1), 1) := by decide +kernel
theorem dX11_atom_102 : decode cX11_atom 102 = .ok (.if_icmp .ne 54, 3) := by decide +kernel
theorem dX11_atom_105 : decode cX11_atom 105 = .ok (.iload_n 3, 1) := by decide +kernel
theorem dX11_atom_106 : decode cX11_atom 106 = .ok (.iconst 4, 1) := by decide +kernel
theorem dX11_atom_107 : decode cX11_atom 107 = .ok (.if_icmp .ne 10, 3) := by decide +kernel
theorem dX11_atom_110 : decode cX11_atom 110 = .ok (.aload_n 0, 1) := by decide +kernel
theorem dX11_atom_111 : decode cX11_atom 111 = .ok (.invokevirtual 118, 3) := by decide +kernel
theorem dX11_atom_114 : decode cX11_atom 114 = .ok (.pop, 1) := by decide +kernel
theorem dX11_atom_115 : decode cX11_atom 115 = .ok (.iconst 0, 1) := by decide +kernel
theorem dX11_atom_116 : decode cX11_atom 116 = .ok (.ireturn, 1) := by decide +kernel
theorem dX11_atom_117 : decode cX11_atom 117 = .ok (.bipush 10, 2) := by decide +kernel
theorem dX11_atom_119 : decode cX11_atom 119 = .ok (.iload_n 2, 1) := by decide +kernel
theorem dX11_atom_120 : decode cX11_atom 120 = .ok (.imul, 1) := by decide +kernel
theorem dX11_atom_121 : decode cX11_atom 121 = .ok (.aload_n 0, 1) := by decide +kernel
theorem dX11_atom_122 : decode cX11_atom 122 = .ok (.getfield 23, 3) := by decide +kernel
theorem dX11_atom_125 : decode cX11_atom 125 = .ok (.aload_n 0, 1) := by decide +kernel
theorem dX11_atom_126 : decode cX11_atom 126 = .ok (.getfield 109, 3) := by decide +kernel
theorem dX11_atom_129 : decode cX11_atom 129 = .ok (.aload_n 0, 1) := by decide +kernel
theorem dX11_atom_130 : decode cX11_atom 130 = .ok (.getfield 103, 3) := by decide +kernel
theorem dX11_atom_133 : decode cX11_atom 133 = .ok (.iadd, 1) := by decide +kernel
theorem dX11_atom_134 : decode cX11_atom 134 = .ok (.baload, 1) := by decide +kernel
theorem dX11_atom_135 : decode cX11_atom 135 = .ok (.iadd, 1) := by decide +kernel
theorem dX11_atom_136 : decode cX11_atom 136 = .ok (.bipush 48, 2) := by decide +kernel
theorem dX11_atom_138 : decode cX11_atom 138 = .ok (.isub, 1) := by decide +kernel
theorem dX11_atom_139 : decode cX11_atom 139 = .ok (.istore_n 2, 1) := by decide +kernel
theorem dX11_atom_140 : decode cX11_atom 140 = .ok (.aload_n 0, 1) := by decide +kernel
theorem dX11_atom_141 : decode cX11_atom 141 = .ok (.dup, 1) := by decide +kernel
theorem dX11_atom_142 : decode cX11_atom 142 = .ok (.getfield 103, 3) := by decide +kernel
theorem dX11_atom_145 : decode cX11_atom 145 = .ok (.iconst 1, 1) := by decide +kernel
theorem dX11_atom_146 : decode cX11_atom 146 = .ok (.iadd, 1) := by decide +kernel
theorem dX11_atom_147 : decode cX11_atom 147 = .ok (.putfield 103, 3) := by decide +kernel
theorem dX11_atom_150 : decode cX11_atom 150 = .ok (.iinc 3 1, 3) := by decide +kernel
theorem dX11_atom_153 : decode cX11_atom 153 = .ok (.goto (-63), 3) := by decide +kernel
theorem dX11_atom_156 : decode cX11_atom 156 = .ok (.iload_n 2, 1) := by decide +kernel
theorem dX11_atom_157 : decode cX11_atom 157 = .ok (.ireturn, 1) := by decide +kernel
theorem dX11_term_0 : decode cX11_term 0 = .ok (.aload_n 0, 1) := by decide +kernel
theorem dX11_term_1 : decode cX11_term 1 = .ok (.invokevirtual 155, 3) := by decide +kernel
theorem dX11_term_4 : decode cX11_term 4 = .ok (.istore_n 1, 1) := by decide +kernel
theorem dX11_term_5 : decode cX11_term 5 = .ok (.aload_n 0, 1) := by decide +kernel
theorem dX11_term_6 : decode cX11_term 6 = .ok (.getfield 112, 3) := by decide +kernel
theorem dX11_term_9 : decode cX11_term 9 = .ok (.iconst (-1), 1) := by decide +kernel
theorem dX11_term_10 : decode cX11_term 10 = .ok (.if_icmp .ne 84, 3) := by decide +kernel
theorem dX11_term_13 : decode cX11_term 13 = .ok (.aload_n 0, 1) := by decide +kernel
theorem dX11_term_14 : decode cX11_term 14 = .ok (.invokevirtual 122, 3) := by decide +kernel
theorem dX11_term_17 : decode cX11_term 17 = .ok (.bipush 42, 2) := by decide +kernel
theorem dX11_term_19 : decode cX11_term 19 = .ok (.if_icmp .eq 12, 3) := by decide +kernel
theorem dX11_term_22 : decode cX11_term 22 = .ok (.aload_n 0, 1) := by decide +kernel
theorem dX11_term_23 : decode cX11_term 23 = .ok (.invokevirtual 122, 3) := by decide +kernel
theorem dX11_term_26 : decode cX11_term 26 = .ok (.bipush 47, 2) := by decide +kernel
theorem dX11_term_28 : decode cX11_term 28 = .ok (.if_icmp .ne 66, 3) := by decide +kernel
theorem dX11_term_31 : decode cX11_term 31 = .ok (.aload_n 0, 1) := by decide +kernel
theorem dX11_term_32 : decode cX11_term 32 = .ok (.invokevirtual 122, 3) := by decide +kernel
theorem dX11_term_35 : decode cX11_term 35 = .ok (.bipush 42, 2) := by decide +kernel
theorem dX11_term_37 : decode cX11_term 37 = .ok (.if_icmp .ne 7, 3) := by decide +kernel
theorem dX11_term_40 : decode cX11_term 40 = .ok (.iconst 1, 1) := by decide +kernel
theorem dX11_term_41 : decode cX11_term 41 = .ok (.goto 4, 3) := by decide +kernel
theorem dX11_term_44 : decode cX11_term 44 = .ok (.iconst 0, 1) := by decide +kernel
theorem dX11_term_45 : decode cX11_term 45 = .ok (.istore_n 2, 1) := by decide +kernel
theorem dX11_term_46 : decode cX11_term 46 = .ok (.aload_n 0, 1) := by decide +kernel
theorem dX11_term_47 : decode cX11_term 47 = .ok (.dup, 1) := by decide +kernel
theorem dX11_term_48 : decode cX11_term 48 = .ok (.getfield 103, 3) := by decide +kernel
theorem dX11_term_51 : decode cX11_term 51 = .ok (.iconst 1, 1) := by decide +kernel
theorem dX11_term_52 : decode cX11_term 52 = .ok (.iadd, 1) := by decide +kernel
theorem dX11_term_53 : decode cX11_term 53 = .ok (.putfield 103, 3) := by decide +kernel
theorem dX11_term_56 : decode cX11_term 56 = .ok (.aload_n 0, 1) := by decide +kernel
theorem dX11_term_57 : decode cX11_term 57 = .ok (.invokevirtual 155, 3) := by decide +kernel
theorem dX11_term_60 : decode cX11_term 60 = .ok (.i2l, 1) := by decide +kernel
theorem dX11_term_61 : decode cX11_term 61 = .ok (.lstore_n 3, 1) := by decide +kernel
theorem dX11_term_62 : decode cX11_term 62 = .ok (.iload_n 2, 1) := by decide +kernel
theorem dX11_term_63 : decode cX11_term 63 = .ok (.ifCond .eq 10, 3) := by decide +kernel
theorem dX11_term_66 : decode cX11_term 66 = .ok (.iload_n 1, 1) := by decide +kernel
theorem dX11_term_67 : decode cX11_term 67 = .ok (.i2l, 1) := by decide +kernel
theorem dX11_term_68 : decode cX11_term 68 = .ok (.lload_n 3, 1) := by decide +kernel
theorem dX11_term_69 : decode cX11_term 69 = .ok (.lmul, 1) := by decide +kernel
theorem dX11_term_70 : decode cX11_term 70 = .ok (.goto 17, 3) := by decide +kernel
theorem dX11_term_73 : decode cX11_term 73 = .ok (.lload_n 3, 1) := by decide +kernel
theorem dX11_term_74 : decode cX11_term 74 = .ok (.lconst 0, 1) := by decide +kernel
theorem dX11_term_75 : decode cX11_term 75 = .ok (.lcmp, 1) := by decide +kernel
theorem dX11_term_76 : decode cX11_term 76 = .ok (.ifCond .ne 7, 3) := by decide +kernel
theorem dX11_term_79 : decode cX11_term 79 = .ok (.lconst 0, 1) := by decide +kernel
theorem dX11_term_80 : decode cX11_term 80 = .ok (.goto 7, 3) := by decide +kernel
theorem dX11_term_83 : decode cX11_term 83 = .ok (.iload_n 1, 1) := by decide +kernel
theorem dX11_term_84 : decode cX11_term 84 = .ok (.i2l, 1) := by decide +kernel
theorem dX11_term_85 : decode cX11_term 85 = .ok (.lload_n 3, 1) := by decide +kernel
theorem dX11_term_86 : decode cX11_term 86 = .ok (.ldiv, 1) := by decide +kernel
theorem dX11_term_87 : decode cX11_term 87 = .ok (.invokestatic 158, 3) := by decide +kernel
theorem dX11_term_90 : decode cX11_term 90 = .ok (.istore_n 1, 1) := by decide +kernel
theorem dX11_term_91 : decode cX11_term 91 = .ok (.goto (-86), 3) := by decide +kernel
theorem dX11_term_94 : decode cX11_term 94 = .ok (.iload_n 1, 1) := by decide +kernel
theorem dX11_term_95 : decode cX11_term 95 = .ok (.ireturn, 1) := by decide +kernel
theorem dX11_sum_0 : decode cX11_sum 0 = .ok (.aload_n 0, 1) := by decide +kernel
theorem dX11_sum_1 : decode cX11_sum 1 = .ok (.invokevirtual 162, 3) := by decide +kernel
theorem dX11_sum_4 : decode cX11_sum 4 = .ok (.istore_n 1, 1) := by decide +kernel
theorem dX11_sum_5 : decode cX11_sum 5 = .ok (.aload_n 0, 1) := by decide +kernel
theorem dX11_sum_6 : decode cX11_sum 6 = .ok (.getfield 112, 3) := by decide +kernel
theorem dX11_sum_9 : decode cX11_sum 9 = .ok (.iconst (-1), 1) := by decide +kernel
theorem dX11_sum_10 : decode cX11_sum 10 = .ok (.if_icmp .ne 74, 3) := by decide +kernel
theorem dX11_sum_13 : decode cX11_sum 13 = .ok (.aload_n 0, 1) := by decide +kernel
theorem dX11_sum_14 : decode cX11_sum 14 = .ok (.invokevirtual 122, 3) := by decide +kernel
theorem dX11_sum_17 : decode cX11_sum 17 = .ok (.bipush 43, 2) := by decide +kernel
theorem dX11_sum_19 : decode cX11_sum 19 = .ok (.if_icmp .eq 12, 3) := by decide +kernel
theorem dX11_sum_22 : decode cX11_sum 22 = .ok (.aload_n 0, 1) := by decide +kernel
theorem dX11_sum_23 : decode cX11_sum 23 = .ok (.invokevirtual 122, 3) := by decide +kernel
theorem dX11_sum_26 : decode cX11_sum 26 = .ok (.bipush 45, 2) := by decide +kernel
theorem dX11_sum_28 : decode cX11_sum 28 = .ok (.if_icmp .ne 56, 3) := by decide +kernel
theorem dX11_sum_31 : decode cX11_sum 31 = .ok (.aload_n 0, 1) := by decide +kernel
theorem dX11_sum_32 : decode cX11_sum 32 = .ok (.invokevirtual 122, 3) := by decide +kernel
theorem dX11_sum_35 : decode cX11_sum 35 = .ok (.bipush 43, 2) := by decide +kernel
theorem dX11_sum_37 : decode cX11_sum 37 = .ok (.if_icmp .ne 7, 3) := by decide +kernel
theorem dX11_sum_40 : decode cX11_sum 40 = .ok (.iconst 1, 1) := by decide +kernel
theorem dX11_sum_41 : decode cX11_sum 41 = .ok (.goto 4, 3) := by decide +kernel
theorem dX11_sum_44 : decode cX11_sum 44 = .ok (.iconst 0, 1) := by decide +kernel
theorem dX11_sum_45 : decode cX11_sum 45 = .ok (.istore_n 2, 1) := by decide +kernel
theorem dX11_sum_46 : decode cX11_sum 46 = .ok (.aload_n 0, 1) := by decide +kernel
theorem dX11_sum_47 : decode cX11_sum 47 = .ok (.dup, 1) := by decide +kernel
theorem dX11_sum_48 : decode cX11_sum 48 = .ok (.getfield 103, 3) := by decide +kernel
theorem dX11_sum_51 : decode cX11_sum 51 = .ok (.iconst 1, 1) := by decide +kernel
theorem dX11_sum_52 : decode cX11_sum 52 = .ok (.iadd, 1) := by decide +kernel
theorem dX11_sum_53 : decode cX11_sum 53 = .ok (.putfield 103, 3) := by decide +kernel
theorem dX11_sum_56 : decode cX11_sum 56 = .ok (.aload_n 0, 1) := by decide +kernel
theorem dX11_sum_57 : decode cX11_sum 57 = .ok (.invokevirtual 162, 3) := by decide +kernel
theorem dX11_sum_60 : decode cX11_sum 60 = .ok (.i2l, 1) := by decide +kernel
theorem dX11_sum_61 : decode cX11_sum 61 = .ok (.lstore_n 3, 1) := by decide +kernel
theorem dX11_sum_62 : decode cX11_sum 62 = .ok (.iload_n 2, 1) := by decide +kernel
theorem dX11_sum_63 : decode cX11_sum 63 = .ok (.ifCond .eq 10, 3) := by decide +kernel
theorem dX11_sum_66 : decode cX11_sum 66 = .ok (.iload_n 1, 1) := by decide +kernel
theorem dX11_sum_67 : decode cX11_sum 67 = .ok (.i2l, 1) := by decide +kernel
theorem dX11_sum_68 : decode cX11_sum 68 = .ok (.lload_n 3, 1) := by decide +kernel
theorem dX11_sum_69 : decode cX11_sum 69 = .ok (.ladd, 1) := by decide +kernel
theorem dX11_sum_70 : decode cX11_sum 70 = .ok (.goto 7, 3) := by decide +kernel
theorem dX11_sum_73 : decode cX11_sum 73 = .ok (.iload_n 1, 1) := by decide +kernel
theorem dX11_sum_74 : decode cX11_sum 74 = .ok (.i2l, 1) := by decide +kernel
theorem dX11_sum_75 : decode cX11_sum 75 = .ok (.lload_n 3, 1) := by decide +kernel
theorem dX11_sum_76 : decode cX11_sum 76 = .ok (.lsub, 1) := by decide +kernel
theorem dX11_sum_77 : decode cX11_sum 77 = .ok (.invokestatic 158, 3) := by decide +kernel
theorem dX11_sum_80 : decode cX11_sum 80 = .ok (.istore_n 1, 1) := by decide +kernel
theorem dX11_sum_81 : decode cX11_sum 81 = .ok (.goto (-76), 3) := by decide +kernel
theorem dX11_sum_84 : decode cX11_sum 84 = .ok (.iload_n 1, 1) := by decide +kernel
theorem dX11_sum_85 : decode cX11_sum 85 = .ok (.ireturn, 1) := by decide +kernel
theorem dX11_isSign_0 : decode cX11_isSign 0 = .ok (.iload_n 0, 1) := by decide +kernel
theorem dX11_isSign_1 : decode cX11_isSign 1 = .ok (.bipush 61, 2) := by decide +kernel
theorem dX11_isSign_3 : decode cX11_isSign 3 = .ok (.if_icmp .eq 15, 3) := by decide +kernel
theorem dX11_isSign_6 : decode cX11_isSign 6 = .ok (.iload_n 0, 1) := by decide +kernel
theorem dX11_isSign_7 : decode cX11_isSign 7 = .ok (.bipush 60, 2) := by decide +kernel
theorem dX11_isSign_9 : decode cX11_isSign 9 = .ok (.if_icmp .eq 9, 3) := by decide +kernel
theorem dX11_isSign_12 : decode cX11_isSign 12 = .ok (.iload_n 0, 1) := by decide +kernel
theorem dX11_isSign_13 : decode cX11_isSign 13 = .ok (.bipush 62, 2) := by decide +kernel
theorem dX11_isSign_15 : decode cX11_isSign 15 = .ok (.if_icmp .ne 7, 3) := by decide +kernel
theorem dX11_isSign_18 : decode cX11_isSign 18 = .ok (.iconst 1, 1) := by decide +kernel
theorem dX11_isSign_19 : decode cX11_isSign 19 = .ok (.goto 4, 3) := by decide +kernel
theorem dX11_isSign_22 : decode cX11_isSign 22 = .ok (.iconst 0, 1) := by decide +kernel
theorem dX11_isSign_23 : decode cX11_isSign 23 = .ok (.ireturn, 1) := by decide +kernel
theorem dX11_compares_0 : decode cX11_compares 0 = .ok (.iload_n 1, 1) := by decide +kernel
theorem dX11_compares_1 : decode cX11_compares 1 = .ok (.ifCond .eq 7, 3) := by decide +kernel
theorem dX11_compares_4 : decode cX11_compares 4 = .ok (.iload_n 2, 1) := by decide +kernel
theorem dX11_compares_5 : decode cX11_compares 5 = .ok (.goto 7, 3) := by decide +kernel
theorem dX11_compares_8 : decode cX11_compares 8 = .ok (.aload_n 0, 1) := by decide +kernel
theorem dX11_compares_9 : decode cX11_compares 9 = .ok (.invokevirtual 145, 3) := by decide +kernel
theorem dX11_compares_12 : decode cX11_compares 12 = .ok (.istore_n 3, 1) := by decide +kernel
theorem dX11_compares_13 : decode cX11_compares 13 = .ok (.aload_n 0, 1) := by decide +kernel
theorem dX11_compares_14 : decode cX11_compares 14 = .ok (.getfield 112, 3) := by decide +kernel
theorem dX11_compares_17 : decode cX11_compares 17 = .ok (.iconst (-1), 1) := by decide +kernel
theorem dX11_compares_18 : decode cX11_compares 18 = .ok (.if_icmp .eq 5, 3) := by decide +kernel
theorem dX11_compares_21 : decode cX11_compares 21 = .ok (.iconst 0, 1) := by decide +kernel
theorem dX11_compares_22 : decode cX11_compares 22 = .ok (.ireturn, 1) := by decide +kernel
theorem dX11_compares_23 : decode cX11_compares 23 = .ok (.aload_n 0, 1) := by decide +kernel
theorem dX11_compares_24 : decode cX11_compares 24 = .ok (.invokevirtual 122, 3) := by decide +kernel
theorem dX11_compares_27 : decode cX11_compares 27 = .ok (.istore 4, 2) := by decide +kernel
theorem dX11_compares_29 : decode cX11_compares 29 = .ok (.iload 4, 2) := by decide +kernel
theorem dX11_compares_31 : decode cX11_compares 31 = .ok (.invokestatic 165, 3) := by decide +kernel
theorem dX11_compares_34 : decode cX11_compares 34 = .ok (.ifCond .ne 8, 3) := by decide +kernel
theorem dX11_compares_37 : decode cX11_compares 37 = .ok (.aload_n 0, 1) := by decide +kernel
theorem dX11_compares_38 : decode cX11_compares 38 = .ok (.invokevirtual 118, 3) := by decide +kernel
theorem dX11_compares_41 : decode cX11_compares 41 = .ok (.ireturn, 1) := by decide +kernel
theorem dX11_compares_42 : decode cX11_compares 42 = .ok (.aload_n 0, 1) := by decide +kernel
theorem dX11_compares_43 : decode cX11_compares 43 = .ok (.dup, 1) := by decide +kernel
theorem dX11_compares_44 : decode cX11_compares 44 = .ok (.getfield 103, 3) := by decide +kernel
theorem dX11_compares_47 : decode cX11_compares 47 = .ok (.iconst 1, 1) := by decide +kernel
theorem dX11_compares_48 : decode cX11_compares 48 = .ok (.iadd, 1) := by decide +kernel
theorem dX11_compares_49 : decode cX11_compares 49 = .ok (.putfield 103, 3) := by decide +kernel
theorem dX11_compares_52 : decode cX11_compares 52 = .ok (.aload_n 0, 1) := by decide +kernel
theorem dX11_compares_53 : decode cX11_compares 53 = .ok (.invokevirtual 145, 3) := by decide +kernel
theorem dX11_compares_56 : decode cX11_compares 56 = .ok (.istore 5, 2) := by decide +kernel
theorem dX11_compares_58 : decode cX11_compares 58 = .ok (.iload 4, 2) := by decide +kernel
theorem dX11_compares_60 : decode cX11_compares 60 = .ok (.bipush 61, 2) := by decide +kernel
theorem dX11_compares_62 : decode cX11_compares 62 = .ok (.if_icmp .ne 17, 3) := by decide +kernel
theorem dX11_compares_65 : decode cX11_compares 65 = .ok (.iload_n 3, 1) := by decide +kernel
theorem dX11_compares_66 : decode cX11_compares 66 = .ok (.iload 5, 2) := by decide +kernel
theorem dX11_compares_68 : decode cX11_compares 68 = .ok (.if_icmp .ne 7, 3) := by decide +kernel
theorem dX11_compares_71 : decode cX11_compares 71 = .ok (.iconst 1, 1) := by decide +kernel
theorem dX11_compares_72 : decode cX11_compares 72 = .ok (.goto 39, 3) := by decide +kernel
theorem dX11_compares_75 : decode cX11_compares 75 = .ok (.iconst 0, 1) := by decide +kernel
theorem dX11_compares_76 : decode cX11_compares 76 = .ok (.goto 35, 3) := by decide +kernel
theorem dX11_compares_79 : decode cX11_compares 79 = .ok (.iload 4, 2) := by decide +kernel
theorem dX11_compares_81 : decode cX11_compares 81 = .ok (.bipush 60, 2) := by decide +kernel
theorem dX11_compares_83 : decode cX11_compares 83 = .ok (.if_icmp .ne 17, 3) := by decide +kernel
theorem dX11_compares_86 : decode cX11_compares 86 = .ok (.iload_n 3, 1) := by decide +kernel
theorem dX11_compares_87 : decode cX11_compares 87 = .ok (.iload 5, 2) := by decide +kernel
theorem dX11_compares_89 : decode cX11_compares 89 = .ok (.if_icmp .ge 7, 3) := by decide +kernel
theorem dX11_compares_92 : decode cX11_compares 92 = .ok (.iconst 1, 1) := by decide +kernel
theorem dX11_compares_93 : decode cX11_compares 93 = .ok (.goto 18, 3) := by decide +kernel
theorem dX11_compares_96 : decode cX11_compares 96 = .ok (.iconst 0, 1) := by decide +kernel
theorem dX11_compares_97 : decode cX11_compares 97 = .ok (.goto 14, 3) := by decide +kernel
theorem dX11_compares_100 : decode cX11_compares 100 = .ok (.iload_n 3, 1) := by decide +kernel
theorem dX11_compares_101 : decode cX11_compares 101 = .ok (.iload 5, 2) := by decide +kernel
theorem dX11_compares_103 : decode cX11_compares 103 = .ok (.if_icmp .le 7, 3) := by decide +kernel
theorem dX11_compares_106 : decode cX11_compares 106 = .ok (.iconst 1, 1) := by decide +kernel
theorem dX11_compares_107 : decode cX11_compares 107 = .ok (.goto 4, 3) := by decide +kernel
theorem dX11_compares_110 : decode cX11_compares 110 = .ok (.iconst 0, 1) := by decide +kernel
theorem dX11_compares_111 : decode cX11_compares 111 = .ok (.ireturn, 1) := by decide +kernel
theorem dX11_unit_0 : decode cX11_unit 0 = .ok (.aload_n 0, 1) := by decide +kernel
theorem dX11_unit_1 : decode cX11_unit 1 = .ok (.invokevirtual 122, 3) := by decide +kernel
theorem dX11_unit_4 : decode cX11_unit 4 = .ok (.istore_n 1, 1) := by decide +kernel
theorem dX11_unit_5 : decode cX11_unit 5 = .ok (.iload_n 1, 1) := by decide +kernel
theorem dX11_unit_6 : decode cX11_unit 6 = .ok (.bipush 33, 2) := by decide +kernel
theorem dX11_unit_8 : decode cX11_unit 8 = .ok (.if_icmp .ne 37, 3) := by decide +kernel
theorem dX11_unit_11 : decode cX11_unit 11 = .ok (.aload_n 0, 1) := by decide +kernel
theorem dX11_unit_12 : decode cX11_unit 12 = .ok (.invokevirtual 142, 3) := by decide +kernel
theorem dX11_unit_15 : decode cX11_unit 15 = .ok (.ifCond .ne 5, 3) := by decide +kernel
theorem dX11_unit_18 : decode cX11_unit 18 = .ok (.iconst 0, 1) := by decide +kernel
theorem dX11_unit_19 : decode cX11_unit 19 = .ok (.ireturn, 1) := by decide +kernel
theorem dX11_unit_20 : decode cX11_unit 20 = .ok (.aload_n 0, 1) := by decide +kernel
theorem dX11_unit_21 : decode cX11_unit 21 = .ok (.invokevirtual 168, 3) := by decide +kernel
theorem dX11_unit_24 : decode cX11_unit 24 = .ok (.istore_n 2, 1) := by decide +kernel
theorem dX11_unit_25 : decode cX11_unit 25 = .ok (.aload_n 0, 1) := by decide +kernel
theorem dX11_unit_26 : decode cX11_unit 26 = .ok (.dup, 1) := by decide +kernel
theorem dX11_unit_27 : decode cX11_unit 27 = .ok (.getfield 115, 3) := by decide +kernel
theorem dX11_unit_30 : decode cX11_unit 30 = .ok (.iconst 1, 1) := by decide +kernel
theorem dX11_unit_31 : decode cX11_unit 31 = .ok (.isub, 1) := by decide +kernel
theorem dX11_unit_32 : decode cX11_unit 32 = .ok (.putfield 115, 3) := by decide +kernel
theorem dX11_unit_35 : decode cX11_unit 35 = .ok (.iload_n 2, 1) := by decide +kernel
theorem dX11_unit_36 : decode cX11_unit 36 = .ok (.ifCond .ne 7, 3) := by decide +kernel
theorem dX11_unit_39 : decode cX11_unit 39 = .ok (.iconst 1, 1) := by decide +kernel
theorem dX11_unit_40 : decode cX11_unit 40 = .ok (.goto 4, 3) := by decide +kernel
theorem dX11_unit_43 : decode cX11_unit 43 = .ok (.iconst 0, 1) := by decide +kernel
theorem dX11_unit_44 : decode cX11_unit 44 = .ok (.ireturn, 1) := by decide +kernel
theorem dX11_unit_45 : decode cX11_unit 45 = .ok (.iload_n 1, 1) := by decide +kernel
theorem dX11_unit_46 : decode cX11_unit 46 = .ok (.bipush 40, 2) := by decide +kernel
theorem dX11_unit_48 : decode cX11_unit 48 = .ok (.if_icmp .ne 42, 3) := by decide +kernel
theorem dX11_unit_51 : decode cX11_unit 51 = .ok (.aload_n 0, 1) := by decide +kernel
theorem dX11_unit_52 : decode cX11_unit 52 = .ok (.invokevirtual 142, 3) := by decide +kernel
theorem dX11_unit_55 : decode cX11_unit 55 = .ok (.ifCond .ne 5, 3) := by decide +kernel
theorem dX11_unit_58 : decode cX11_unit 58 = .ok (.iconst 0, 1) := by decide +kernel
theorem dX11_unit_59 : decode cX11_unit 59 = .ok (.ireturn, 1) := by decide +kernel
theorem dX11_unit_60 : decode cX11_unit 60 = .ok (.aload_n 0, 1) := by decide +kernel
theorem dX11_unit_61 : decode cX11_unit 61 = .ok (.iconst 0, 1) := by decide +kernel
theorem dX11_unit_62 : decode cX11_unit 62 = .ok (.iconst 0, 1) := by decide +kernel
theorem dX11_unit_63 : decode cX11_unit 63 = .ok (.invokevirtual 171, 3) := by decide +kernel
theorem dX11_unit_66 : decode cX11_unit 66 = .ok (.istore_n 2, 1) := by decide +kernel
theorem dX11_unit_67 : decode cX11_unit 67 = .ok (.aload_n 0, 1) := by decide +kernel
theorem dX11_unit_68 : decode cX11_unit 68 = .ok (.bipush 41, 2) := by decide +kernel
theorem dX11_unit_70 : decode cX11_unit 70 = .ok (.invokevirtual 148, 3) := by decide +kernel
theorem dX11_unit_73 : decode cX11_unit 73 = .ok (.ifCond .ne 5, 3) := by decide +kernel
theorem dX11_unit_76 : decode cX11_unit 76 = .ok (.iconst 0, 1) := by decide +kernel
theorem dX11_unit_77 : decode cX11_unit 77 = .ok (.ireturn, 1) := by decide +kernel
theorem dX11_unit_78 : decode cX11_unit 78 = .ok (.aload_n 0, 1) := by decide +kernel
theorem dX11_unit_79 : decode cX11_unit 79 = .ok (.dup, 1) := by decide +kernel
theorem dX11_unit_80 : decode cX11_unit 80 = .ok (.getfield 115, 3) := by decide +kernel
theorem dX11_unit_83 : decode cX11_unit 83 = .ok (.iconst 1, 1) := by decide +kernel
theorem dX11_unit_84 : decode cX11_unit 84 = .ok (.isub, 1) := by decide +kernel
theorem dX11_unit_85 : decode cX11_unit 85 = .ok (.putfield 115, 3) := by decide +kernel
theorem dX11_unit_88 : decode cX11_unit 88 = .ok (.iload_n 2, 1) := by decide +kernel
theorem dX11_unit_89 : decode cX11_unit 89 = .ok (.ireturn, 1) := by decide +kernel
theorem dX11_unit_90 : decode cX11_unit 90 = .ok (.aload_n 0, 1) := by decide +kernel
theorem dX11_unit_91 : decode cX11_unit 91 = .ok (.iconst 0, 1) := by decide +kernel
theorem dX11_unit_92 : decode cX11_unit 92 = .ok (.iconst 0, 1) := by decide +kernel
theorem dX11_unit_93 : decode cX11_unit 93 = .ok (.invokevirtual 175, 3) := by decide +kernel
theorem dX11_unit_96 : decode cX11_unit 96 = .ok (.ireturn, 1) := by decide +kernel
theorem dX11_part_0 : decode cX11_part 0 = .ok (.iload_n 1, 1) := by decide +kernel
theorem dX11_part_1 : decode cX11_part 1 = .ok (.ifCond .eq 12, 3) := by decide +kernel
theorem dX11_part_4 : decode cX11_part 4 = .ok (.aload_n 0, 1) := by decide +kernel
theorem dX11_part_5 : decode cX11_part 5 = .ok (.iconst 1, 1) := by decide +kernel
theorem dX11_part_6 : decode cX11_part 6 = .ok (.iload_n 2, 1) := by decide +kernel
theorem dX11_part_7 : decode cX11_part 7 = .ok (.invokevirtual 175, 3) := by decide +kernel
theorem dX11_part_10 : decode cX11_part 10 = .ok (.goto 7, 3) := by decide +kernel
theorem dX11_part_13 : decode cX11_part 13 = .ok (.aload_n 0, 1) := by decide +kernel
theorem dX11_part_14 : decode cX11_part 14 = .ok (.invokevirtual 168, 3) := by decide +kernel
theorem dX11_part_17 : decode cX11_part 17 = .ok (.istore_n 3, 1) := by decide +kernel
theorem dX11_part_18 : decode cX11_part 18 = .ok (.aload_n 0, 1) := by decide +kernel
theorem dX11_part_19 : decode cX11_part 19 = .ok (.getfield 112, 3) := by decide +kernel
theorem dX11_part_22 : decode cX11_part 22 = .ok (.iconst (-1), 1) := by decide +kernel
theorem dX11_part_23 : decode cX11_part 23 = .ok (.if_icmp .ne 46, 3) := by decide +kernel
theorem dX11_part_26 : decode cX11_part 26 = .ok (.aload_n 0, 1) := by decide +kernel
theorem dX11_part_27 : decode cX11_part 27 = .ok (.invokevirtual 122, 3) := by decide +kernel
theorem dX11_part_30 : decode cX11_part 30 = .ok (.bipush 38, 2) := by decide +kernel
theorem dX11_part_32 : decode cX11_part 32 = .ok (.if_icmp .ne 37, 3) := by decide +kernel
theorem dX11_part_35 : decode cX11_part 35 = .ok (.aload_n 0, 1) := by decide +kernel
theorem dX11_part_36 : decode cX11_part 36 = .ok (.dup, 1) := by decide +kernel
theorem dX11_part_37 : decode cX11_part 37 = .ok (.getfield 103, 3) := by decide +kernel
theorem dX11_part_40 : decode cX11_part 40 = .ok (.iconst 1, 1) := by decide +kernel
theorem dX11_part_41 : decode cX11_part 41 = .ok (.iadd, 1) := by decide +kernel
theorem dX11_part_42 : decode cX11_part 42 = .ok (.putfield 103, 3) := by decide +kernel
theorem dX11_part_45 : decode cX11_part 45 = .ok (.aload_n 0, 1) := by decide +kernel
theorem dX11_part_46 : decode cX11_part 46 = .ok (.invokevirtual 168, 3) := by decide +kernel
theorem dX11_part_49 : decode cX11_part 49 = .ok (.istore 4, 2) := by decide +kernel
theorem dX11_part_51 : decode cX11_part 51 = .ok (.iload_n 3, 1) := by decide +kernel
theorem dX11_part_52 : decode cX11_part 52 = .ok (.ifCond .eq 12, 3) := by decide +kernel
theorem dX11_part_55 : decode cX11_part 55 = .ok (.iload 4, 2) := by decide +kernel
theorem dX11_part_57 : decode cX11_part 57 = .ok (.ifCond .eq 7, 3) := by decide +kernel
theorem dX11_part_60 : decode cX11_part 60 = .ok (.iconst 1, 1) := by decide +kernel
theorem dX11_part_61 : decode cX11_part 61 = .ok (.goto 4, 3) := by decide +kernel
theorem dX11_part_64 : decode cX11_part 64 = .ok (.iconst 0, 1) := by decide +kernel
theorem dX11_part_65 : decode cX11_part 65 = .ok (.istore_n 3, 1) := by decide +kernel
theorem dX11_part_66 : decode cX11_part 66 = .ok (.goto (-48), 3) := by decide +kernel
theorem dX11_part_69 : decode cX11_part 69 = .ok (.iload_n 3, 1) := by decide +kernel
theorem dX11_part_70 : decode cX11_part 70 = .ok (.ireturn, 1) := by decide +kernel
theorem dX11_condition_0 : decode cX11_condition 0 = .ok (.aload_n 0, 1) := by decide +kernel
theorem dX11_condition_1 : decode cX11_condition 1 = .ok (.iload_n 1, 1) := by decide +kernel
theorem dX11_condition_2 : decode cX11_condition 2 = .ok (.iload_n 2, 1) := by decide +kernel
theorem dX11_condition_3 : decode cX11_condition 3 = .ok (.invokevirtual 178, 3) := by decide +kernel
theorem dX11_condition_6 : decode cX11_condition 6 = .ok (.istore_n 3, 1) := by decide +kernel
theorem dX11_condition_7 : decode cX11_condition 7 = .ok (.aload_n 0, 1) := by decide +kernel
theorem dX11_condition_8 : decode cX11_condition 8 = .ok (.getfield 112, 3) := by decide +kernel
theorem dX11_condition_11 : decode cX11_condition 11 = .ok (.iconst (-1), 1) := by decide +kernel
theorem dX11_condition_12 : decode cX11_condition 12 = .ok (.if_icmp .ne 48, 3) := by decide +kernel
theorem dX11_condition_15 : decode cX11_condition 15 = .ok (.aload_n 0, 1) := by decide +kernel
theorem dX11_condition_16 : decode cX11_condition 16 = .ok (.invokevirtual 122, 3) := by decide +kernel
theorem dX11_condition_19 : decode cX11_condition 19 = .ok (.bipush 124, 2) := by decide +kernel
theorem dX11_condition_21 : decode cX11_condition 21 = .ok (.if_icmp .ne 39, 3) := by decide +kernel
theorem dX11_condition_24 : decode cX11_condition 24 = .ok (.aload_n 0, 1) := by decide +kernel
theorem dX11_condition_25 : decode cX11_condition 25 = .ok (.dup, 1) := by decide +kernel
theorem dX11_condition_26 : decode cX11_condition 26 = .ok (.getfield 103, 3) := by decide +kernel
theorem dX11_condition_29 : decode cX11_condition 29 = .ok (.iconst 1, 1) := by decide +kernel
theorem dX11_condition_30 : decode cX11_condition 30 = .ok (.iadd, 1) := by decide +kernel
theorem dX11_condition_31 : decode cX11_condition 31 = .ok (.putfield 103, 3) := by decide +kernel
theorem dX11_condition_34 : decode cX11_condition 34 = .ok (.aload_n 0, 1) := by decide +kernel
theorem dX11_condition_35 : decode cX11_condition 35 = .ok (.iconst 0, 1) := by decide +kernel
theorem dX11_condition_36 : decode cX11_condition 36 = .ok (.iconst 0, 1) := by decide +kernel
theorem dX11_condition_37 : decode cX11_condition 37 = .ok (.invokevirtual 178, 3) := by decide +kernel
theorem dX11_condition_40 : decode cX11_condition 40 = .ok (.istore 4, 2) := by decide +kernel
theorem dX11_condition_42 : decode cX11_condition 42 = .ok (.iload_n 3, 1) := by decide +kernel
theorem dX11_condition_43 : decode cX11_condition 43 = .ok (.ifCond .ne 8, 3) := by decide +kernel
theorem dX11_condition_46 : decode cX11_condition 46 = .ok (.iload 4, 2) := by decide +kernel
theorem dX11_condition_48 : decode cX11_condition 48 = .ok (.ifCond .eq 7, 3) := by decide +kernel
theorem dX11_condition_51 : decode cX11_condition 51 = .ok (.iconst 1, 1) := by decide +kernel
theorem dX11_condition_52 : decode cX11_condition 52 = .ok (.goto 4, 3) := by decide +kernel
theorem dX11_condition_55 : decode cX11_condition 55 = .ok (.iconst 0, 1) := by decide +kernel
theorem dX11_condition_56 : decode cX11_condition 56 = .ok (.istore_n 3, 1) := by decide +kernel
theorem dX11_condition_57 : decode cX11_condition 57 = .ok (.goto (-50), 3) := by decide +kernel
theorem dX11_condition_60 : decode cX11_condition 60 = .ok (.iload_n 3, 1) := by decide +kernel
theorem dX11_condition_61 : decode cX11_condition 61 = .ok (.ireturn, 1) := by decide +kernel
theorem dX11_clause_0 : decode cX11_clause 0 = .ok (.aload_n 0, 1) := by decide +kernel
theorem dX11_clause_1 : decode cX11_clause 1 = .ok (.invokevirtual 122, 3) := by decide +kernel
theorem dX11_clause_4 : decode cX11_clause 4 = .ok (.istore_n 1, 1) := by decide +kernel
theorem dX11_clause_5 : decode cX11_clause 5 = .ok (.ldc 26, 2) := by decide +kernel
theorem dX11_clause_7 : decode cX11_clause 7 = .ok (.iload_n 1, 1) := by decide +kernel
theorem dX11_clause_8 : decode cX11_clause 8 = .ok (.invokestatic 138, 3) := by decide +kernel
theorem dX11_clause_11 : decode cX11_clause 11 = .ok (.ifCond .ne 9, 3) := by decide +kernel
theorem dX11_clause_14 : decode cX11_clause 14 = .ok (.aload_n 0, 1) := by decide +kernel
theorem dX11_clause_15 : decode cX11_clause 15 = .ok (.invokevirtual 118, 3) := by decide +kernel
theorem dX11_clause_18 : decode cX11_clause 18 = .ok (.pop, 1) := by decide +kernel
theorem dX11_clause_19 : decode cX11_clause 19 = .ok (.return_, 1) := by decide +kernel
theorem dX11_clause_20 : decode cX11_clause 20 = .ok (.aload_n 0, 1) := by decide +kernel
theorem dX11_clause_21 : decode cX11_clause 21 = .ok (.dup, 1) := by decide +kernel
theorem dX11_clause_22 : decode cX11_clause 22 = .ok (.getfield 103, 3) := by decide +kernel
theorem dX11_clause_25 : decode cX11_clause 25 = .ok (.iconst 1, 1) := by decide +kernel
theorem dX11_clause_26 : decode cX11_clause 26 = .ok (.iadd, 1) := by decide +kernel
theorem dX11_clause_27 : decode cX11_clause 27 = .ok (.putfield 103, 3) := by decide +kernel
theorem dX11_clause_30 : decode cX11_clause 30 = .ok (.aload_n 0, 1) := by decide +kernel
theorem dX11_clause_31 : decode cX11_clause 31 = .ok (.bipush 58, 2) := by decide +kernel
theorem dX11_clause_33 : decode cX11_clause 33 = .ok (.invokevirtual 148, 3) := by decide +kernel
theorem dX11_clause_36 : decode cX11_clause 36 = .ok (.ifCond .ne 4, 3) := by decide +kernel
theorem dX11_clause_39 : decode cX11_clause 39 = .ok (.return_, 1) := by decide +kernel
theorem dX11_clause_40 : decode cX11_clause 40 = .ok (.iconst 1, 1) := by decide +kernel
theorem dX11_clause_41 : decode cX11_clause 41 = .ok (.istore_n 2, 1) := by decide +kernel
theorem dX11_clause_42 : decode cX11_clause 42 = .ok (.iconst 0, 1) := by decide +kernel
theorem dX11_clause_43 : decode cX11_clause 43 = .ok (.istore_n 3, 1) := by decide +kernel
theorem dX11_clause_44 : decode cX11_clause 44 = .ok (.aload_n 0, 1) := by decide +kernel
theorem dX11_clause_45 : decode cX11_clause 45 = .ok (.invokevirtual 122, 3) := by decide +kernel
theorem dX11_clause_48 : decode cX11_clause 48 = .ok (.istore 4, 2) := by decide +kernel
theorem dX11_clause_50 : decode cX11_clause 50 = .ok (.iload 4, 2) := by decide +kernel
theorem dX11_clause_52 : decode cX11_clause 52 = .ok (.bipush 33, 2) := by decide +kernel
theorem dX11_clause_54 : decode cX11_clause 54 = .ok (.if_icmp .eq 10, 3) := by decide +kernel
theorem dX11_clause_57 : decode cX11_clause 57 = .ok (.iload 4, 2) := by decide +kernel
theorem dX11_clause_59 : decode cX11_clause 59 = .ok (.bipush 40, 2) := by decide +kernel
theorem dX11_clause_61 : decode cX11_clause 61 = .ok (.if_icmp .ne 28, 3) := by decide +kernel
theorem dX11_clause_64 : decode cX11_clause 64 = .ok (.aload_n 0, 1) := by decide +kernel
theorem dX11_clause_65 : decode cX11_clause 65 = .ok (.iconst 0, 1) := by decide +kernel
theorem dX11_clause_66 : decode cX11_clause 66 = .ok (.iconst 0, 1) := by decide +kernel
theorem dX11_clause_67 : decode cX11_clause 67 = .ok (.invokevirtual 171, 3) := by decide +kernel
theorem dX11_clause_70 : decode cX11_clause 70 = .ok (.istore_n 2, 1) := by decide +kernel
theorem dX11_clause_71 : decode cX11_clause 71 = .ok (.aload_n 0, 1) := by decide +kernel
theorem dX11_clause_72 : decode cX11_clause 72 = .ok (.bipush 63, 2) := by decide +kernel
theorem dX11_clause_74 : decode cX11_clause 74 = .ok (.invokevirtual 148, 3) := by decide +kernel
theorem dX11_clause_77 : decode cX11_clause 77 = .ok (.ifCond .ne 4, 3) := by decide +kernel
theorem dX11_clause_80 : decode cX11_clause 80 = .ok (.return_, 1) := by decide +kernel
theorem dX11_clause_81 : decode cX11_clause 81 = .ok (.aload_n 0, 1) := by decide +kernel
theorem dX11_clause_82 : decode cX11_clause 82 = .ok (.invokevirtual 145, 3) := by decide +kernel
theorem dX11_clause_85 : decode cX11_clause 85 = .ok (.istore_n 3, 1) := by decide +kernel
theorem dX11_clause_86 : decode cX11_clause 86 = .ok (.goto 48, 3) := by decide +kernel
theorem dX11_clause_89 : decode cX11_clause 89 = .ok (.aload_n 0, 1) := by decide +kernel
theorem dX11_clause_90 : decode cX11_clause 90 = .ok (.invokevirtual 145, 3) := by decide +kernel
theorem dX11_clause_93 : decode cX11_clause 93 = .ok (.istore_n 3, 1) := by decide +kernel
theorem dX11_clause_94 : decode cX11_clause 94 = .ok (.aload_n 0, 1) := by decide +kernel
theorem dX11_clause_95 : decode cX11_clause 95 = .ok (.getfield 112, 3) := by decide +kernel
theorem dX11_clause_98 : decode cX11_clause 98 = .ok (.iconst (-1), 1) := by decide +kernel
theorem dX11_clause_99 : decode cX11_clause 99 = .ok (.if_icmp .ne 35, 3) := by decide +kernel
theorem dX11_clause_102 : decode cX11_clause 102 = .ok (.aload_n 0, 1) := by decide +kernel
theorem dX11_clause_103 : decode cX11_clause 103 = .ok (.invokevirtual 122, 3) := by decide +kernel
theorem dX11_clause_106 : decode cX11_clause 106 = .ok (.invokestatic 165, 3) := by decide +kernel
theorem dX11_clause_109 : decode cX11_clause 109 = .ok (.ifCond .eq 25, 3) := by decide +kernel
theorem dX11_clause_112 : decode cX11_clause 112 = .ok (.aload_n 0, 1) := by decide +kernel
theorem dX11_clause_113 : decode cX11_clause 113 = .ok (.iconst 1, 1) := by decide +kernel
theorem dX11_clause_114 : decode cX11_clause 114 = .ok (.iload_n 3, 1) := by decide +kernel
theorem dX11_clause_115 : decode cX11_clause 115 = .ok (.invokevirtual 171, 3) := by decide +kernel
theorem dX11_clause_118 : decode cX11_clause 118 = .ok (.istore_n 2, 1) := by decide +kernel
theorem dX11_clause_119 : decode cX11_clause 119 = .ok (.aload_n 0, 1) := by decide +kernel
theorem dX11_clause_120 : decode cX11_clause 120 = .ok (.bipush 63, 2) := by decide +kernel
theorem dX11_clause_122 : decode cX11_clause 122 = .ok (.invokevirtual 148, 3) := by decide +kernel
theorem dX11_clause_125 : decode cX11_clause 125 = .ok (.ifCond .ne 4, 3) := by decide +kernel
theorem dX11_clause_128 : decode cX11_clause 128 = .ok (.return_, 1) := by decide +kernel
theorem dX11_clause_129 : decode cX11_clause 129 = .ok (.aload_n 0, 1) := by decide +kernel
theorem dX11_clause_130 : decode cX11_clause 130 = .ok (.invokevirtual 145, 3) := by decide +kernel
theorem dX11_clause_133 : decode cX11_clause 133 = .ok (.istore_n 3, 1) := by decide +kernel
theorem dX11_clause_134 : decode cX11_clause 134 = .ok (.aload_n 0, 1) := by decide +kernel
theorem dX11_clause_135 : decode cX11_clause 135 = .ok (.getfield 112, 3) := by decide +kernel
theorem dX11_clause_138 : decode cX11_clause 138 = .ok (.iconst (-1), 1) := by decide +kernel
theorem dX11_clause_139 : decode cX11_clause 139 = .ok (.if_icmp .ne 22, 3) := by decide +kernel
theorem dX11_clause_142 : decode cX11_clause 142 = .ok (.aload_n 0, 1) := by decide +kernel
theorem dX11_clause_143 : decode cX11_clause 143 = .ok (.getfield 181, 3) := by decide +kernel
theorem dX11_clause_146 : decode cX11_clause 146 = .ok (.ifCond .ne 15, 3) := by decide +kernel
theorem dX11_clause_149 : decode cX11_clause 149 = .ok (.iload_n 1, 1) := by decide +kernel
theorem dX11_clause_150 : decode cX11_clause 150 = .ok (.aload_n 0, 1) := by decide +kernel
theorem dX11_clause_151 : decode cX11_clause 151 = .ok (.getfield 185, 3) := by decide +kernel
theorem dX11_clause_154 : decode cX11_clause 154 = .ok (.if_icmp .ne 7, 3) := by decide +kernel
theorem dX11_clause_157 : decode cX11_clause 157 = .ok (.iload_n 2, 1) := by decide +kernel
theorem dX11_clause_158 : decode cX11_clause 158 = .ok (.ifCond .ne 4, 3) := by decide +kernel
theorem dX11_clause_161 : decode cX11_clause 161 = .ok (.return_, 1) := by decide +kernel
theorem dX11_clause_162 : decode cX11_clause 162 = .ok (.aload_n 0, 1) := by decide +kernel
theorem dX11_clause_163 : decode cX11_clause 163 = .ok (.iconst 1, 1) := by decide +kernel
theorem dX11_clause_164 : decode cX11_clause 164 = .ok (.putfield 181, 3) := by decide +kernel
theorem dX11_clause_167 : decode cX11_clause 167 = .ok (.aload_n 0, 1) := by decide +kernel
theorem dX11_clause_168 : decode cX11_clause 168 = .ok (.iload_n 3, 1) := by decide +kernel
theorem dX11_clause_169 : decode cX11_clause 169 = .ok (.putfield 188, 3) := by decide +kernel
theorem dX11_clause_172 : decode cX11_clause 172 = .ok (.return_, 1) := by decide +kernel
theorem dX11_starts_0 : decode cX11_starts 0 = .ok (.aload_n 0, 1) := by decide +kernel
theorem dX11_starts_1 : decode cX11_starts 1 = .ok (.aload_n 1, 1) := by decide +kernel
theorem dX11_starts_2 : decode cX11_starts 2 = .ok (.putfield 23, 3) := by decide +kernel
theorem dX11_starts_5 : decode cX11_starts 5 = .ok (.aload_n 0, 1) := by decide +kernel
theorem dX11_starts_6 : decode cX11_starts 6 = .ok (.iload_n 2, 1) := by decide +kernel
theorem dX11_starts_7 : decode cX11_starts 7 = .ok (.putfield 109, 3) := by decide +kernel
theorem dX11_starts_10 : decode cX11_starts 10 = .ok (.aload_n 0, 1) := by decide +kernel
theorem dX11_starts_11 : decode cX11_starts 11 = .ok (.iload_n 3, 1) := by decide +kernel
theorem dX11_starts_12 : decode cX11_starts 12 = .ok (.putfield 106, 3) := by decide +kernel
theorem dX11_starts_15 : decode cX11_starts 15 = .ok (.aload_n 0, 1) := by decide +kernel
theorem dX11_starts_16 : decode cX11_starts 16 = .ok (.iconst 0, 1) := by decide +kernel
theorem dX11_starts_17 : decode cX11_starts 17 = .ok (.putfield 103, 3) := by decide +kernel
theorem dX11_starts_20 : decode cX11_starts 20 = .ok (.aload_n 0, 1) := by decide +kernel
theorem dX11_starts_21 : decode cX11_starts 21 = .ok (.iconst (-1), 1) := by decide +kernel
theorem dX11_starts_22 : decode cX11_starts 22 = .ok (.putfield 112, 3) := by decide +kernel
theorem dX11_starts_25 : decode cX11_starts 25 = .ok (.return_, 1) := by decide +kernel
theorem dX11_goThrough_0 : decode cX11_goThrough 0 = .ok (.aload_n 0, 1) := by decide +kernel
theorem dX11_goThrough_1 : decode cX11_goThrough 1 = .ok (.aload_n 1, 1) := by decide +kernel
theorem dX11_goThrough_2 : decode cX11_goThrough 2 = .ok (.iload_n 2, 1) := by decide +kernel
theorem dX11_goThrough_3 : decode cX11_goThrough 3 = .ok (.iload_n 3, 1) := by decide +kernel
theorem dX11_goThrough_4 : decode cX11_goThrough 4 = .ok (.invokevirtual 191, 3) := by decide +kernel
theorem dX11_goThrough_7 : decode cX11_goThrough 7 = .ok (.aload_n 0, 1) := by decide +kernel
theorem dX11_goThrough_8 : decode cX11_goThrough 8 = .ok (.bipush 121, 2) := by decide +kernel
theorem dX11_goThrough_10 : decode cX11_goThrough 10 = .ok (.putfield 185, 3) := by decide +kernel
theorem dX11_goThrough_13 : decode cX11_goThrough 13 = .ok (.aload_n 0, 1) := by decide +kernel
theorem dX11_goThrough_14 : decode cX11_goThrough 14 = .ok (.iconst 0, 1) := by decide +kernel
theorem dX11_goThrough_15 : decode cX11_goThrough 15 = .ok (.putfield 115, 3) := by decide +kernel
theorem dX11_goThrough_18 : decode cX11_goThrough 18 = .ok (.aload_n 0, 1) := by decide +kernel
theorem dX11_goThrough_19 : decode cX11_goThrough 19 = .ok (.iconst 0, 1) := by decide +kernel
theorem dX11_goThrough_20 : decode cX11_goThrough 20 = .ok (.putfield 181, 3) := by decide +kernel
theorem dX11_goThrough_23 : decode cX11_goThrough 23 = .ok (.aload_n 0, 1) := by decide +kernel
theorem dX11_goThrough_24 : decode cX11_goThrough 24 = .ok (.iconst 0, 1) := by decide +kernel
theorem dX11_goThrough_25 : decode cX11_goThrough 25 = .ok (.putfield 188, 3) := by decide +kernel
theorem dX11_goThrough_28 : decode cX11_goThrough 28 = .ok (.aload_n 0, 1) := by decide +kernel
theorem dX11_goThrough_29 : decode cX11_goThrough 29 = .ok (.invokevirtual 195, 3) := by decide +kernel
theorem dX11_goThrough_32 : decode cX11_goThrough 32 = .ok (.aload_n 0, 1) := by decide +kernel
theorem dX11_goThrough_33 : decode cX11_goThrough 33 = .ok (.getfield 112, 3) := by decide +kernel
theorem dX11_goThrough_36 : decode cX11_goThrough 36 = .ok (.iconst (-1), 1) := by decide +kernel
theorem dX11_goThrough_37 : decode cX11_goThrough 37 = .ok (.if_icmp .ne 29, 3) := by decide +kernel
theorem dX11_goThrough_40 : decode cX11_goThrough 40 = .ok (.aload_n 0, 1) := by decide +kernel
theorem dX11_goThrough_41 : decode cX11_goThrough 41 = .ok (.invokevirtual 122, 3) := by decide +kernel
theorem dX11_goThrough_44 : decode cX11_goThrough 44 = .ok (.bipush 59, 2) := by decide +kernel
theorem dX11_goThrough_46 : decode cX11_goThrough 46 = .ok (.if_icmp .ne 20, 3) := by decide +kernel
theorem dX11_goThrough_49 : decode cX11_goThrough 49 = .ok (.aload_n 0, 1) := by decide +kernel
theorem dX11_goThrough_50 : decode cX11_goThrough 50 = .ok (.dup, 1) := by decide +kernel
theorem dX11_goThrough_51 : decode cX11_goThrough 51 = .ok (.getfield 103, 3) := by decide +kernel
theorem dX11_goThrough_54 : decode cX11_goThrough 54 = .ok (.iconst 1, 1) := by decide +kernel
theorem dX11_goThrough_55 : decode cX11_goThrough 55 = .ok (.iadd, 1) := by decide +kernel
theorem dX11_goThrough_56 : decode cX11_goThrough 56 = .ok (.putfield 103, 3) := by decide +kernel
theorem dX11_goThrough_59 : decode cX11_goThrough 59 = .ok (.aload_n 0, 1) := by decide +kernel
theorem dX11_goThrough_60 : decode cX11_goThrough 60 = .ok (.invokevirtual 195, 3) := by decide +kernel
theorem dX11_goThrough_63 : decode cX11_goThrough 63 = .ok (.goto (-31), 3) := by decide +kernel
theorem dX11_goThrough_66 : decode cX11_goThrough 66 = .ok (.aload_n 0, 1) := by decide +kernel
theorem dX11_goThrough_67 : decode cX11_goThrough 67 = .ok (.getfield 112, 3) := by decide +kernel
theorem dX11_goThrough_70 : decode cX11_goThrough 70 = .ok (.iconst (-1), 1) := by decide +kernel
theorem dX11_goThrough_71 : decode cX11_goThrough 71 = .ok (.if_icmp .ne 16, 3) := by decide +kernel
theorem dX11_goThrough_74 : decode cX11_goThrough 74 = .ok (.aload_n 0, 1) := by decide +kernel
theorem dX11_goThrough_75 : decode cX11_goThrough 75 = .ok (.invokevirtual 122, 3) := by decide +kernel
theorem dX11_goThrough_78 : decode cX11_goThrough 78 = .ok (.iconst (-1), 1) := by decide +kernel
theorem dX11_goThrough_79 : decode cX11_goThrough 79 = .ok (.if_icmp .eq 8, 3) := by decide +kernel
theorem dX11_goThrough_82 : decode cX11_goThrough 82 = .ok (.aload_n 0, 1) := by decide +kernel
theorem dX11_goThrough_83 : decode cX11_goThrough 83 = .ok (.invokevirtual 118, 3) := by decide +kernel
theorem dX11_goThrough_86 : decode cX11_goThrough 86 = .ok (.pop, 1) := by decide +kernel
theorem dX11_goThrough_87 : decode cX11_goThrough 87 = .ok (.return_, 1) := by decide +kernel
theorem dX11_here_0 : decode cX11_here 0 = .ok (.aload_n 0, 1) := by decide +kernel
theorem dX11_here_1 : decode cX11_here 1 = .ok (.getfield 103, 3) := by decide +kernel
theorem dX11_here_4 : decode cX11_here 4 = .ok (.aload_n 0, 1) := by decide +kernel
theorem dX11_here_5 : decode cX11_here 5 = .ok (.getfield 106, 3) := by decide +kernel
theorem dX11_here_8 : decode cX11_here 8 = .ok (.if_icmp .ge 24, 3) := by decide +kernel
theorem dX11_here_11 : decode cX11_here 11 = .ok (.aload_n 0, 1) := by decide +kernel
theorem dX11_here_12 : decode cX11_here 12 = .ok (.getfield 23, 3) := by decide +kernel
theorem dX11_here_15 : decode cX11_here 15 = .ok (.aload_n 0, 1) := by decide +kernel
theorem dX11_here_16 : decode cX11_here 16 = .ok (.getfield 109, 3) := by decide +kernel
theorem dX11_here_19 : decode cX11_here 19 = .ok (.aload_n 0, 1) := by decide +kernel
theorem dX11_here_20 : decode cX11_here 20 = .ok (.getfield 103, 3) := by decide +kernel
theorem dX11_here_23 : decode cX11_here 23 = .ok (.iadd, 1) := by decide +kernel
theorem dX11_here_24 : decode cX11_here 24 = .ok (.baload, 1) := by decide +kernel
theorem dX11_here_25 : decode cX11_here 25 = .ok (.sipush 255, 3) := by decide +kernel
theorem dX11_here_28 : decode cX11_here 28 = .ok (.iand, 1) := by decide +kernel
theorem dX11_here_29 : decode cX11_here 29 = .ok (.goto 4, 3) := by decide +kernel
theorem dX11_here_32 : decode cX11_here 32 = .ok (.iconst (-1), 1) := by decide +kernel
theorem dX11_here_33 : decode cX11_here 33 = .ok (.ireturn, 1) := by decide +kernel
theorem dX11_spotOf_0 : decode cX11_spotOf 0 = .ok (.iconst 0, 1) := by decide +kernel
theorem dX11_spotOf_1 : decode cX11_spotOf 1 = .ok (.istore_n 2, 1) := by decide +kernel
theorem dX11_spotOf_2 : decode cX11_spotOf 2 = .ok (.iload_n 2, 1) := by decide +kernel
theorem dX11_spotOf_3 : decode cX11_spotOf 3 = .ok (.aload_n 0, 1) := by decide +kernel
theorem dX11_spotOf_4 : decode cX11_spotOf 4 = .ok (.invokevirtual 83, 3) := by decide +kernel
theorem dX11_spotOf_7 : decode cX11_spotOf 7 = .ok (.if_icmp .ge 20, 3) := by decide +kernel
theorem dX11_spotOf_10 : decode cX11_spotOf 10 = .ok (.aload_n 0, 1) := by decide +kernel
theorem dX11_spotOf_11 : decode cX11_spotOf 11 = .ok (.iload_n 2, 1) := by decide +kernel
theorem dX11_spotOf_12 : decode cX11_spotOf 12 = .ok (.invokevirtual 89, 3) := by decide +kernel
theorem dX11_spotOf_15 : decode cX11_spotOf 15 = .ok (.iload_n 1, 1) := by decide +kernel
theorem dX11_spotOf_16 : decode cX11_spotOf 16 = .ok (.if_icmp .ne 5, 3) := by decide +kernel
theorem dX11_spotOf_19 : decode cX11_spotOf 19 = .ok (.iload_n 2, 1) := by decide +kernel
theorem dX11_spotOf_20 : decode cX11_spotOf 20 = .ok (.ireturn, 1) := by decide +kernel
theorem dX11_spotOf_21 : decode cX11_spotOf 21 = .ok (.iinc 2 1, 3) := by decide +kernel
theorem dX11_spotOf_24 : decode cX11_spotOf 24 = .ok (.goto (-22), 3) := by decide +kernel
theorem dX11_spotOf_27 : decode cX11_spotOf 27 = .ok (.iconst (-1), 1) := by decide +kernel
theorem dX11_spotOf_28 : decode cX11_spotOf 28 = .ok (.ireturn, 1) := by decide +kernel
theorem dX11_readItem_0 : decode cX11_readItem 0 = .ok (.aload_n 0, 1) := by decide +kernel
theorem dX11_readItem_1 : decode cX11_readItem 1 = .ok (.dup, 1) := by decide +kernel
theorem dX11_readItem_2 : decode cX11_readItem 2 = .ok (.getfield 103, 3) := by decide +kernel
theorem dX11_readItem_5 : decode cX11_readItem 5 = .ok (.iconst 1, 1) := by decide +kernel
theorem dX11_readItem_6 : decode cX11_readItem 6 = .ok (.iadd, 1) := by decide +kernel
theorem dX11_readItem_7 : decode cX11_readItem 7 = .ok (.putfield 103, 3) := by decide +kernel
theorem dX11_readItem_10 : decode cX11_readItem 10 = .ok (.aload_n 0, 1) := by decide +kernel
theorem dX11_readItem_11 : decode cX11_readItem 11 = .ok (.invokevirtual 122, 3) := by decide +kernel
theorem dX11_readItem_14 : decode cX11_readItem 14 = .ok (.istore 5, 2) := by decide +kernel
theorem dX11_readItem_16 : decode cX11_readItem 16 = .ok (.aload_n 0, 1) := by decide +kernel
theorem dX11_readItem_17 : decode cX11_readItem 17 = .ok (.invokevirtual 152, 3) := by decide +kernel
theorem dX11_readItem_20 : decode cX11_readItem 20 = .ok (.ifCond .ne 9, 3) := by decide +kernel
theorem dX11_readItem_23 : decode cX11_readItem 23 = .ok (.aload_n 0, 1) := by decide +kernel
theorem dX11_readItem_24 : decode cX11_readItem 24 = .ok (.invokevirtual 118, 3) := by decide +kernel
theorem dX11_readItem_27 : decode cX11_readItem 27 = .ok (.pop, 1) := by decide +kernel
theorem dX11_readItem_28 : decode cX11_readItem 28 = .ok (.return_, 1) := by decide +kernel
theorem dX11_readItem_29 : decode cX11_readItem 29 = .ok (.iload 5, 2) := by decide +kernel
theorem dX11_readItem_31 : decode cX11_readItem 31 = .ok (.bipush 48, 2) := by decide +kernel
theorem dX11_readItem_33 : decode cX11_readItem 33 = .ok (.isub, 1) := by decide +kernel
theorem dX11_readItem_34 : decode cX11_readItem 34 = .ok (.istore 6, 2) := by decide +kernel
theorem dX11_readItem_36 : decode cX11_readItem 36 = .ok (.aload_n 0, 1) := by decide +kernel
theorem dX11_readItem_37 : decode cX11_readItem 37 = .ok (.dup, 1) := by decide +kernel
theorem dX11_readItem_38 : decode cX11_readItem 38 = .ok (.getfield 103, 3) := by decide +kernel
theorem dX11_readItem_41 : decode cX11_readItem 41 = .ok (.iconst 1, 1) := by decide +kernel
theorem dX11_readItem_42 : decode cX11_readItem 42 = .ok (.iadd, 1) := by decide +kernel
theorem dX11_readItem_43 : decode cX11_readItem 43 = .ok (.putfield 103, 3) := by decide +kernel
theorem dX11_readItem_46 : decode cX11_readItem 46 = .ok (.aload_n 0, 1) := by decide +kernel
theorem dX11_readItem_47 : decode cX11_readItem 47 = .ok (.invokevirtual 152, 3) := by decide +kernel
theorem dX11_readItem_50 : decode cX11_readItem 50 = .ok (.ifCond .eq 28, 3) := by decide +kernel
theorem dX11_readItem_53 : decode cX11_readItem 53 = .ok (.bipush 10, 2) := by decide +kernel
theorem dX11_readItem_55 : decode cX11_readItem 55 = .ok (.iload 6, 2) := by decide +kernel
theorem dX11_readItem_57 : decode cX11_readItem 57 = .ok (.imul, 1) := by decide +kernel
theorem dX11_readItem_58 : decode cX11_readItem 58 = .ok (.aload_n 0, 1) := by decide +kernel
theorem dX11_readItem_59 : decode cX11_readItem 59 = .ok (.invokevirtual 198, 3) := by decide +kernel
theorem dX11_readItem_62 : decode cX11_readItem 62 = .ok (.iadd, 1) := by decide +kernel
theorem dX11_readItem_63 : decode cX11_readItem 63 = .ok (.bipush 48, 2) := by decide +kernel
theorem dX11_readItem_65 : decode cX11_readItem 65 = .ok (.isub, 1) := by decide +kernel
theorem dX11_readItem_66 : decode cX11_readItem 66 = .ok (.istore 6, 2) := by decide +kernel
theorem dX11_readItem_68 : decode cX11_readItem 68 = .ok (.aload_n 0, 1) := by decide +kernel
theorem dX11_readItem_69 : decode cX11_readItem 69 = .ok (.dup, 1) := by decide +kernel
theorem dX11_readItem_70 : decode cX11_readItem 70 = .ok (.getfield 103, 3) := by decide +kernel
theorem dX11_readItem_73 : decode cX11_readItem 73 = .ok (.iconst 1, 1) := by decide +kernel
theorem dX11_readItem_74 : decode cX11_readItem 74 = .ok (.iadd, 1) := by decide +kernel
theorem dX11_readItem_75 : decode cX11_readItem 75 = .ok (.putfield 103, 3) := by decide +kernel
theorem dX11_readItem_78 : decode cX11_readItem 78 = .ok (.aload_n 0, 1) := by decide +kernel
theorem dX11_readItem_79 : decode cX11_readItem 79 = .ok (.invokevirtual 152, 3) := by decide +kernel
theorem dX11_readItem_82 : decode cX11_readItem 82 = .ok (.ifCond .eq 9, 3) := by decide +kernel
theorem dX11_readItem_85 : decode cX11_readItem 85 = .ok (.aload_n 0, 1) := by decide +kernel
theorem dX11_readItem_86 : decode cX11_readItem 86 = .ok (.invokevirtual 118, 3) := by decide +kernel
theorem dX11_readItem_89 : decode cX11_readItem 89 = .ok (.pop, 1) := by decide +kernel
theorem dX11_readItem_90 : decode cX11_readItem 90 = .ok (.return_, 1) := by decide +kernel
theorem dX11_readItem_91 : decode cX11_readItem 91 = .ok (.iload 6, 2) := by decide +kernel
theorem dX11_readItem_93 : decode cX11_readItem 93 = .ok (.i2l, 1) := by decide +kernel
theorem dX11_readItem_94 : decode cX11_readItem 94 = .ok (.iload_n 3, 1) := by decide +kernel
theorem dX11_readItem_95 : decode cX11_readItem 95 = .ok (.i2l, 1) := by decide +kernel
theorem dX11_readItem_96 : decode cX11_readItem 96 = .ok (.iload 4, 2) := by decide +kernel
theorem dX11_readItem_98 : decode cX11_readItem 98 = .ok (.i2l, 1) := by decide +kernel
theorem dX11_readItem_99 : decode cX11_readItem 99 = .ok (.invokestatic 201, 3) := by decide +kernel
theorem dX11_readItem_102 : decode cX11_readItem 102 = .ok (.ifCond .ne 19, 3) := by decide +kernel
theorem dX11_readItem_105 : decode cX11_readItem 105 = .ok (.aload_n 0, 1) := by decide +kernel
theorem dX11_readItem_106 : decode cX11_readItem 106 = .ok (.dup, 1) := by decide +kernel
theorem dX11_readItem_107 : decode cX11_readItem 107 = .ok (.getfield 103, 3) := by decide +kernel
theorem dX11_readItem_110 : decode cX11_readItem 110 = .ok (.iconst 1, 1) := by decide +kernel
theorem dX11_readItem_111 : decode cX11_readItem 111 = .ok (.isub, 1) := by decide +kernel
theorem dX11_readItem_112 : decode cX11_readItem 112 = .ok (.putfield 103, 3) := by decide +kernel
theorem dX11_readItem_115 : decode cX11_readItem 115 = .ok (.aload_n 0, 1) := by decide +kernel
theorem dX11_readItem_116 : decode cX11_readItem 116 = .ok (.invokevirtual 118, 3) := by decide +kernel
theorem dX11_readItem_119 : decode cX11_readItem 119 = .ok (.pop, 1) := by decide +kernel
theorem dX11_readItem_120 : decode cX11_readItem 120 = .ok (.return_, 1) := by decide +kernel
theorem dX11_readItem_121 : decode cX11_readItem 121 = .ok (.aload_n 1, 1) := by decide +kernel
theorem dX11_readItem_122 : decode cX11_readItem 122 = .ok (.iload_n 2, 1) := by decide +kernel
theorem dX11_readItem_123 : decode cX11_readItem 123 = .ok (.iload 6, 2) := by decide +kernel
theorem dX11_readItem_125 : decode cX11_readItem 125 = .ok (.iastore, 1) := by decide +kernel
theorem dX11_readItem_126 : decode cX11_readItem 126 = .ok (.return_, 1) := by decide +kernel
theorem dX11_mostOf_0 : decode cX11_mostOf 0 = .ok (.iload_n 0, 1) := by decide +kernel
theorem dX11_mostOf_1 : decode cX11_mostOf 1 = .ok (.bipush 101, 2) := by decide +kernel
theorem dX11_mostOf_3 : decode cX11_mostOf 3 = .ok (.if_icmp .ne 15, 3) := by decide +kernel
theorem dX11_mostOf_6 : decode cX11_mostOf 6 = .ok (.iload_n 1, 1) := by decide +kernel
theorem dX11_mostOf_7 : decode cX11_mostOf 7 = .ok (.ifCond .ne 8, 3) := by decide +kernel
theorem dX11_mostOf_10 : decode cX11_mostOf 10 = .ok (.bipush 99, 2) := by decide +kernel
theorem dX11_mostOf_12 : decode cX11_mostOf 12 = .ok (.goto 5, 3) := by decide +kernel
theorem dX11_mostOf_15 : decode cX11_mostOf 15 = .ok (.bipush 9, 2) := by decide +kernel
theorem dX11_mostOf_17 : decode cX11_mostOf 17 = .ok (.ireturn, 1) := by decide +kernel
theorem dX11_mostOf_18 : decode cX11_mostOf 18 = .ok (.iload_n 0, 1) := by decide +kernel
theorem dX11_mostOf_19 : decode cX11_mostOf 19 = .ok (.bipush 114, 2) := by decide +kernel
theorem dX11_mostOf_21 : decode cX11_mostOf 21 = .ok (.if_icmp .ne 15, 3) := by decide +kernel
theorem dX11_mostOf_24 : decode cX11_mostOf 24 = .ok (.iload_n 1, 1) := by decide +kernel
theorem dX11_mostOf_25 : decode cX11_mostOf 25 = .ok (.ifCond .ne 8, 3) := by decide +kernel
theorem dX11_mostOf_28 : decode cX11_mostOf 28 = .ok (.bipush 99, 2) := by decide +kernel
theorem dX11_mostOf_30 : decode cX11_mostOf 30 = .ok (.goto 5, 3) := by decide +kernel
theorem dX11_mostOf_33 : decode cX11_mostOf 33 = .ok (.bipush 9, 2) := by decide +kernel
theorem dX11_mostOf_35 : decode cX11_mostOf 35 = .ok (.ireturn, 1) := by decide +kernel
theorem dX11_mostOf_36 : decode cX11_mostOf 36 = .ok (.iload_n 1, 1) := by decide +kernel
theorem dX11_mostOf_37 : decode cX11_mostOf 37 = .ok (.ifCond .ne 8, 3) := by decide +kernel
theorem dX11_mostOf_40 : decode cX11_mostOf 40 = .ok (.bipush 99, 2) := by decide +kernel
theorem dX11_mostOf_42 : decode cX11_mostOf 42 = .ok (.goto 23, 3) := by decide +kernel
theorem dX11_mostOf_45 : decode cX11_mostOf 45 = .ok (.iload_n 1, 1) := by decide +kernel
theorem dX11_mostOf_46 : decode cX11_mostOf 46 = .ok (.iconst 3, 1) := by decide +kernel
theorem dX11_mostOf_47 : decode cX11_mostOf 47 = .ok (.if_icmp .ne 7, 3) := by decide +kernel
theorem dX11_mostOf_50 : decode cX11_mostOf 50 = .ok (.iconst 4, 1) := by decide +kernel
theorem dX11_mostOf_51 : decode cX11_mostOf 51 = .ok (.goto 14, 3) := by decide +kernel
theorem dX11_mostOf_54 : decode cX11_mostOf 54 = .ok (.iload_n 1, 1) := by decide +kernel
theorem dX11_mostOf_55 : decode cX11_mostOf 55 = .ok (.iconst 5, 1) := by decide +kernel
theorem dX11_mostOf_56 : decode cX11_mostOf 56 = .ok (.if_icmp .ne 7, 3) := by decide +kernel
theorem dX11_mostOf_59 : decode cX11_mostOf 59 = .ok (.iconst 3, 1) := by decide +kernel
theorem dX11_mostOf_60 : decode cX11_mostOf 60 = .ok (.goto 5, 3) := by decide +kernel
theorem dX11_mostOf_63 : decode cX11_mostOf 63 = .ok (.bipush 9, 2) := by decide +kernel
theorem dX11_mostOf_65 : decode cX11_mostOf 65 = .ok (.ireturn, 1) := by decide +kernel
theorem dX11_leastOf_0 : decode cX11_leastOf 0 = .ok (.iload_n 0, 1) := by decide +kernel
theorem dX11_leastOf_1 : decode cX11_leastOf 1 = .ok (.bipush 99, 2) := by decide +kernel
theorem dX11_leastOf_3 : decode cX11_leastOf 3 = .ok (.if_icmp .ne 8, 3) := by decide +kernel
theorem dX11_leastOf_6 : decode cX11_leastOf 6 = .ok (.iload_n 1, 1) := by decide +kernel
theorem dX11_leastOf_7 : decode cX11_leastOf 7 = .ok (.iconst 3, 1) := by decide +kernel
theorem dX11_leastOf_8 : decode cX11_leastOf 8 = .ok (.if_icmp .gt 14, 3) := by decide +kernel
theorem dX11_leastOf_11 : decode cX11_leastOf 11 = .ok (.iload_n 0, 1) := by decide +kernel
theorem dX11_leastOf_12 : decode cX11_leastOf 12 = .ok (.bipush 114, 2) := by decide +kernel
theorem dX11_leastOf_14 : decode cX11_leastOf 14 = .ok (.if_icmp .ne 12, 3) := by decide +kernel
theorem dX11_leastOf_17 : decode cX11_leastOf 17 = .ok (.iload_n 1, 1) := by decide +kernel
theorem dX11_leastOf_18 : decode cX11_leastOf 18 = .ok (.iconst 2, 1) := by decide +kernel
theorem dX11_leastOf_19 : decode cX11_leastOf 19 = .ok (.if_icmp .ge 7, 3) := by decide +kernel
theorem dX11_leastOf_22 : decode cX11_leastOf 22 = .ok (.iconst 1, 1) := by decide +kernel
theorem dX11_leastOf_23 : decode cX11_leastOf 23 = .ok (.goto 4, 3) := by decide +kernel
theorem dX11_leastOf_26 : decode cX11_leastOf 26 = .ok (.iconst 0, 1) := by decide +kernel
theorem dX11_leastOf_27 : decode cX11_leastOf 27 = .ok (.ireturn, 1) := by decide +kernel
theorem dX11_usual_0 : decode cX11_usual 0 = .ok (.iload_n 0, 1) := by decide +kernel
theorem dX11_usual_1 : decode cX11_usual 1 = .ok (.bipush 101, 2) := by decide +kernel
theorem dX11_usual_3 : decode cX11_usual 3 = .ok (.if_icmp .ne 24, 3) := by decide +kernel
theorem dX11_usual_6 : decode cX11_usual 6 = .ok (.iload_n 1, 1) := by decide +kernel
theorem dX11_usual_7 : decode cX11_usual 7 = .ok (.ifCond .ne 8, 3) := by decide +kernel
theorem dX11_usual_10 : decode cX11_usual 10 = .ok (.bipush 70, 2) := by decide +kernel
theorem dX11_usual_12 : decode cX11_usual 12 = .ok (.goto 14, 3) := by decide +kernel
theorem dX11_usual_15 : decode cX11_usual 15 = .ok (.iload_n 1, 1) := by decide +kernel
theorem dX11_usual_16 : decode cX11_usual 16 = .ok (.iconst 1, 1) := by decide +kernel
theorem dX11_usual_17 : decode cX11_usual 17 = .ok (.if_icmp .ne 7, 3) := by decide +kernel
theorem dX11_usual_20 : decode cX11_usual 20 = .ok (.iconst 0, 1) := by decide +kernel
theorem dX11_usual_21 : decode cX11_usual 21 = .ok (.goto 5, 3) := by decide +kernel
theorem dX11_usual_24 : decode cX11_usual 24 = .ok (.bipush 9, 2) := by decide +kernel
theorem dX11_usual_26 : decode cX11_usual 26 = .ok (.ireturn, 1) := by decide +kernel
theorem dX11_usual_27 : decode cX11_usual 27 = .ok (.iload_n 0, 1) := by decide +kernel
theorem dX11_usual_28 : decode cX11_usual 28 = .ok (.bipush 114, 2) := by decide +kernel
theorem dX11_usual_30 : decode cX11_usual 30 = .ok (.if_icmp .ne 24, 3) := by decide +kernel
theorem dX11_usual_33 : decode cX11_usual 33 = .ok (.iload_n 1, 1) := by decide +kernel
theorem dX11_usual_34 : decode cX11_usual 34 = .ok (.ifCond .ne 8, 3) := by decide +kernel
theorem dX11_usual_37 : decode cX11_usual 37 = .ok (.bipush 90, 2) := by decide +kernel
theorem dX11_usual_39 : decode cX11_usual 39 = .ok (.goto 14, 3) := by decide +kernel
theorem dX11_usual_42 : decode cX11_usual 42 = .ok (.iload_n 1, 1) := by decide +kernel
theorem dX11_usual_43 : decode cX11_usual 43 = .ok (.iconst 1, 1) := by decide +kernel
theorem dX11_usual_44 : decode cX11_usual 44 = .ok (.if_icmp .ne 8, 3) := by decide +kernel
theorem dX11_usual_47 : decode cX11_usual 47 = .ok (.bipush 9, 2) := by decide +kernel
theorem dX11_usual_49 : decode cX11_usual 49 = .ok (.goto 4, 3) := by decide +kernel
theorem dX11_usual_52 : decode cX11_usual 52 = .ok (.iconst 1, 1) := by decide +kernel
theorem dX11_usual_53 : decode cX11_usual 53 = .ok (.ireturn, 1) := by decide +kernel
theorem dX11_usual_54 : decode cX11_usual 54 = .ok (.iload_n 1, 1) := by decide +kernel
theorem dX11_usual_55 : decode cX11_usual 55 = .ok (.ifCond .ne 8, 3) := by decide +kernel
theorem dX11_usual_58 : decode cX11_usual 58 = .ok (.bipush 40, 2) := by decide +kernel
theorem dX11_usual_60 : decode cX11_usual 60 = .ok (.goto 32, 3) := by decide +kernel
theorem dX11_usual_63 : decode cX11_usual 63 = .ok (.iload_n 1, 1) := by decide +kernel
theorem dX11_usual_64 : decode cX11_usual 64 = .ok (.iconst 2, 1) := by decide +kernel
theorem dX11_usual_65 : decode cX11_usual 65 = .ok (.if_icmp .ne 8, 3) := by decide +kernel
theorem dX11_usual_68 : decode cX11_usual 68 = .ok (.bipush 9, 2) := by decide +kernel
theorem dX11_usual_70 : decode cX11_usual 70 = .ok (.goto 22, 3) := by decide +kernel
theorem dX11_usual_73 : decode cX11_usual 73 = .ok (.iload_n 1, 1) := by decide +kernel
theorem dX11_usual_74 : decode cX11_usual 74 = .ok (.iconst 4, 1) := by decide +kernel
theorem dX11_usual_75 : decode cX11_usual 75 = .ok (.if_icmp .ne 7, 3) := by decide +kernel
theorem dX11_usual_78 : decode cX11_usual 78 = .ok (.iconst 2, 1) := by decide +kernel
theorem dX11_usual_79 : decode cX11_usual 79 = .ok (.goto 13, 3) := by decide +kernel
theorem dX11_usual_82 : decode cX11_usual 82 = .ok (.iload_n 1, 1) := by decide +kernel
theorem dX11_usual_83 : decode cX11_usual 83 = .ok (.iconst 5, 1) := by decide +kernel
theorem dX11_usual_84 : decode cX11_usual 84 = .ok (.if_icmp .ne 7, 3) := by decide +kernel
theorem dX11_usual_87 : decode cX11_usual 87 = .ok (.iconst 1, 1) := by decide +kernel
theorem dX11_usual_88 : decode cX11_usual 88 = .ok (.goto 4, 3) := by decide +kernel
theorem dX11_usual_91 : decode cX11_usual 91 = .ok (.iconst 0, 1) := by decide +kernel
theorem dX11_usual_92 : decode cX11_usual 92 = .ok (.ireturn, 1) := by decide +kernel
theorem dX11_readItems_0 : decode cX11_readItems 0 = .ok (.iconst 0, 1) := by decide +kernel
theorem dX11_readItems_1 : decode cX11_readItems 1 = .ok (.istore 5, 2) := by decide +kernel
theorem dX11_readItems_3 : decode cX11_readItems 3 = .ok (.iload 5, 2) := by decide +kernel
theorem dX11_readItems_5 : decode cX11_readItems 5 = .ok (.aload 4, 2) := by decide +kernel
theorem dX11_readItems_7 : decode cX11_readItems 7 = .ok (.invokevirtual 83, 3) := by decide +kernel
theorem dX11_readItems_10 : decode cX11_readItems 10 = .ok (.if_icmp .ge 21, 3) := by decide +kernel
theorem dX11_readItems_13 : decode cX11_readItems 13 = .ok (.aload_n 2, 1) := by decide +kernel
theorem dX11_readItems_14 : decode cX11_readItems 14 = .ok (.iload_n 3, 1) := by decide +kernel
theorem dX11_readItems_15 : decode cX11_readItems 15 = .ok (.iload 5, 2) := by decide +kernel
theorem dX11_readItems_17 : decode cX11_readItems 17 = .ok (.iadd, 1) := by decide +kernel
theorem dX11_readItems_18 : decode cX11_readItems 18 = .ok (.iload_n 1, 1) := by decide +kernel
theorem dX11_readItems_19 : decode cX11_readItems 19 = .ok (.iload 5, 2) := by decide +kernel
theorem dX11_readItems_21 : decode cX11_readItems 21 = .ok (.invokestatic 205, 3) := by decide +kernel
theorem dX11_readItems_24 : decode cX11_readItems 24 = .ok (.iastore, 1) := by decide +kernel
theorem dX11_readItems_25 : decode cX11_readItems 25 = .ok (.iinc 5 1, 3) := by decide +kernel
theorem dX11_readItems_28 : decode cX11_readItems 28 = .ok (.goto (-25), 3) := by decide +kernel
theorem dX11_readItems_31 : decode cX11_readItems 31 = .ok (.iconst 0, 1) := by decide +kernel
theorem dX11_readItems_32 : decode cX11_readItems 32 = .ok (.istore 5, 2) := by decide +kernel
theorem dX11_readItems_34 : decode cX11_readItems 34 = .ok (.aload 4, 2) := by decide +kernel
theorem dX11_readItems_36 : decode cX11_readItems 36 = .ok (.aload_n 0, 1) := by decide +kernel
theorem dX11_readItems_37 : decode cX11_readItems 37 = .ok (.invokevirtual 122, 3) := by decide +kernel
theorem dX11_readItems_40 : decode cX11_readItems 40 = .ok (.invokestatic 209, 3) := by decide +kernel
theorem dX11_readItems_43 : decode cX11_readItems 43 = .ok (.istore 6, 2) := by decide +kernel
theorem dX11_readItems_45 : decode cX11_readItems 45 = .ok (.iload 6, 2) := by decide +kernel
theorem dX11_readItems_47 : decode cX11_readItems 47 = .ok (.iconst (-1), 1) := by decide +kernel
theorem dX11_readItems_48 : decode cX11_readItems 48 = .ok (.if_icmp .eq 79, 3) := by decide +kernel
theorem dX11_readItems_51 : decode cX11_readItems 51 = .ok (.aload_n 0, 1) := by decide +kernel
theorem dX11_readItems_52 : decode cX11_readItems 52 = .ok (.getfield 112, 3) := by decide +kernel
theorem dX11_readItems_55 : decode cX11_readItems 55 = .ok (.iconst (-1), 1) := by decide +kernel
theorem dX11_readItems_56 : decode cX11_readItems 56 = .ok (.if_icmp .ne 71, 3) := by decide +kernel
theorem dX11_readItems_59 : decode cX11_readItems 59 = .ok (.iload 5, 2) := by decide +kernel
theorem dX11_readItems_61 : decode cX11_readItems 61 = .ok (.iload 6, 2) := by decide +kernel
theorem dX11_readItems_63 : decode cX11_readItems 63 = .ok (.invokestatic 213, 3) := by decide +kernel
theorem dX11_readItems_66 : decode cX11_readItems 66 = .ok (.ifCond .eq 9, 3) := by decide +kernel
theorem dX11_readItems_69 : decode cX11_readItems 69 = .ok (.aload_n 0, 1) := by decide +kernel
theorem dX11_readItems_70 : decode cX11_readItems 70 = .ok (.invokevirtual 118, 3) := by decide +kernel
theorem dX11_readItems_73 : decode cX11_readItems 73 = .ok (.pop, 1) := by decide +kernel
theorem dX11_readItems_74 : decode cX11_readItems 74 = .ok (.return_, 1) := by decide +kernel
theorem dX11_readItems_75 : decode cX11_readItems 75 = .ok (.iload 5, 2) := by decide +kernel
theorem dX11_readItems_77 : decode cX11_readItems 77 = .ok (.iconst 1, 1) := by decide +kernel
theorem dX11_readItems_78 : decode cX11_readItems 78 = .ok (.iload 6, 2) := by decide +kernel
theorem dX11_readItems_80 : decode cX11_readItems 80 = .ok (.ishl, 1) := by decide +kernel
theorem dX11_readItems_81 : decode cX11_readItems 81 = .ok (.ior, 1) := by decide +kernel
theorem dX11_readItems_82 : decode cX11_readItems 82 = .ok (.istore 5, 2) := by decide +kernel
theorem dX11_readItems_84 : decode cX11_readItems 84 = .ok (.aload_n 0, 1) := by decide +kernel
theorem dX11_readItems_85 : decode cX11_readItems 85 = .ok (.aload_n 2, 1) := by decide +kernel
theorem dX11_readItems_86 : decode cX11_readItems 86 = .ok (.iload_n 3, 1) := by decide +kernel
theorem dX11_readItems_87 : decode cX11_readItems 87 = .ok (.iload 6, 2) := by decide +kernel
theorem dX11_readItems_89 : decode cX11_readItems 89 = .ok (.iadd, 1) := by decide +kernel
theorem dX11_readItems_90 : decode cX11_readItems 90 = .ok (.iload_n 1, 1) := by decide +kernel
theorem dX11_readItems_91 : decode cX11_readItems 91 = .ok (.iload 6, 2) := by decide +kernel
theorem dX11_readItems_93 : decode cX11_readItems 93 = .ok (.invokestatic 217, 3) := by decide +kernel
theorem dX11_readItems_96 : decode cX11_readItems 96 = .ok (.iload_n 1, 1) := by decide +kernel
theorem dX11_readItems_97 : decode cX11_readItems 97 = .ok (.iload 6, 2) := by decide +kernel
theorem dX11_readItems_99 : decode cX11_readItems 99 = .ok (.invokestatic 220, 3) := by decide +kernel
theorem dX11_readItems_102 : decode cX11_readItems 102 = .ok (.invokevirtual 223, 3) := by decide +kernel
theorem dX11_readItems_105 : decode cX11_readItems 105 = .ok (.aload_n 0, 1) := by decide +kernel
theorem dX11_readItems_106 : decode cX11_readItems 106 = .ok (.getfield 112, 3) := by decide +kernel
theorem dX11_readItems_109 : decode cX11_readItems 109 = .ok (.iconst (-1), 1) := by decide +kernel
theorem dX11_readItems_110 : decode cX11_readItems 110 = .ok (.if_icmp .ne (-65), 3) := by decide +kernel
theorem dX11_readItems_113 : decode cX11_readItems 113 = .ok (.aload 4, 2) := by decide +kernel
theorem dX11_readItems_115 : decode cX11_readItems 115 = .ok (.aload_n 0, 1) := by decide +kernel
theorem dX11_readItems_116 : decode cX11_readItems 116 = .ok (.invokevirtual 122, 3) := by decide +kernel
theorem dX11_readItems_119 : decode cX11_readItems 119 = .ok (.invokestatic 209, 3) := by decide +kernel
theorem dX11_readItems_122 : decode cX11_readItems 122 = .ok (.istore 6, 2) := by decide +kernel
theorem dX11_readItems_124 : decode cX11_readItems 124 = .ok (.goto (-79), 3) := by decide +kernel
theorem dX11_readItems_127 : decode cX11_readItems 127 = .ok (.return_, 1) := by decide +kernel
theorem dX11_readClause_0 : decode cX11_readClause 0 = .ok (.aload_n 0, 1) := by decide +kernel
theorem dX11_readClause_1 : decode cX11_readClause 1 = .ok (.invokevirtual 122, 3) := by decide +kernel
theorem dX11_readClause_4 : decode cX11_readClause 4 = .ok (.istore_n 1, 1) := by decide +kernel
theorem dX11_readClause_5 : decode cX11_readClause 5 = .ok (.iload_n 1, 1) := by decide +kernel
theorem dX11_readClause_6 : decode cX11_readClause 6 = .ok (.bipush 99, 2) := by decide +kernel
theorem dX11_readClause_8 : decode cX11_readClause 8 = .ok (.if_icmp .ne 12, 3) := by decide +kernel
theorem dX11_readClause_11 : decode cX11_readClause 11 = .ok (.aload_n 0, 1) := by decide +kernel
theorem dX11_readClause_12 : decode cX11_readClause 12 = .ok (.getfield 227, 3) := by decide +kernel
theorem dX11_readClause_15 : decode cX11_readClause 15 = .ok (.bipush 8, 2) := by decide +kernel
theorem dX11_readClause_17 : decode cX11_readClause 17 = .ok (.if_icmp .lt 30, 3) := by decide +kernel
theorem dX11_readClause_20 : decode cX11_readClause 20 = .ok (.iload_n 1, 1) := by decide +kernel
theorem dX11_readClause_21 : decode cX11_readClause 21 = .ok (.bipush 101, 2) := by decide +kernel
theorem dX11_readClause_23 : decode cX11_readClause 23 = .ok (.if_icmp .ne 11, 3) := by decide +kernel
theorem dX11_readClause_26 : decode cX11_readClause 26 = .ok (.aload_n 0, 1) := by decide +kernel
theorem dX11_readClause_27 : decode cX11_readClause 27 = .ok (.getfield 230, 3) := by decide +kernel
theorem dX11_readClause_30 : decode cX11_readClause 30 = .ok (.iconst 4, 1) := by decide +kernel
theorem dX11_readClause_31 : decode cX11_readClause 31 = .ok (.if_icmp .lt 16, 3) := by decide +kernel
theorem dX11_readClause_34 : decode cX11_readClause 34 = .ok (.iload_n 1, 1) := by decide +kernel
theorem dX11_readClause_35 : decode cX11_readClause 35 = .ok (.bipush 114, 2) := by decide +kernel
theorem dX11_readClause_37 : decode cX11_readClause 37 = .ok (.if_icmp .ne 14, 3) := by decide +kernel
theorem dX11_readClause_40 : decode cX11_readClause 40 = .ok (.aload_n 0, 1) := by decide +kernel
theorem dX11_readClause_41 : decode cX11_readClause 41 = .ok (.getfield 233, 3) := by decide +kernel
theorem dX11_readClause_44 : decode cX11_readClause 44 = .ok (.ifCond .ne 7, 3) := by decide +kernel
theorem dX11_readClause_47 : decode cX11_readClause 47 = .ok (.iconst 1, 1) := by decide +kernel
theorem dX11_readClause_48 : decode cX11_readClause 48 = .ok (.goto 4, 3) := by decide +kernel
theorem dX11_readClause_51 : decode cX11_readClause 51 = .ok (.iconst 0, 1) := by decide +kernel
theorem dX11_readClause_52 : decode cX11_readClause 52 = .ok (.istore_n 2, 1) := by decide +kernel
theorem dX11_readClause_53 : decode cX11_readClause 53 = .ok (.iload_n 2, 1) := by decide +kernel
theorem dX11_readClause_54 : decode cX11_readClause 54 = .ok (.ifCond .ne 9, 3) := by decide +kernel
theorem dX11_readClause_57 : decode cX11_readClause 57 = .ok (.aload_n 0, 1) := by decide +kernel
theorem dX11_readClause_58 : decode cX11_readClause 58 = .ok (.invokevirtual 118, 3) := by decide +kernel
theorem dX11_readClause_61 : decode cX11_readClause 61 = .ok (.pop, 1) := by decide +kernel
theorem dX11_readClause_62 : decode cX11_readClause 62 = .ok (.return_, 1) := by decide +kernel
theorem dX11_readClause_63 : decode cX11_readClause 63 = .ok (.aload_n 0, 1) := by decide +kernel
theorem dX11_readClause_64 : decode cX11_readClause 64 = .ok (.dup, 1) := by decide +kernel
theorem dX11_readClause_65 : decode cX11_readClause 65 = .ok (.getfield 103, 3) := by decide +kernel
theorem dX11_readClause_68 : decode cX11_readClause 68 = .ok (.iconst 1, 1) := by decide +kernel
theorem dX11_readClause_69 : decode cX11_readClause 69 = .ok (.iadd, 1) := by decide +kernel
theorem dX11_readClause_70 : decode cX11_readClause 70 = .ok (.putfield 103, 3) := by decide +kernel
theorem dX11_readClause_73 : decode cX11_readClause 73 = .ok (.iload_n 1, 1) := by decide +kernel
theorem dX11_readClause_74 : decode cX11_readClause 74 = .ok (.bipush 99, 2) := by decide +kernel
theorem dX11_readClause_76 : decode cX11_readClause 76 = .ok (.if_icmp .ne 36, 3) := by decide +kernel
theorem dX11_readClause_79 : decode cX11_readClause 79 = .ok (.aload_n 0, 1) := by decide +kernel
theorem dX11_readClause_80 : decode cX11_readClause 80 = .ok (.dup, 1) := by decide +kernel
theorem dX11_readClause_81 : decode cX11_readClause 81 = .ok (.getfield 227, 3) := by decide +kernel
theorem dX11_readClause_84 : decode cX11_readClause 84 = .ok (.iconst 1, 1) := by decide +kernel
theorem dX11_readClause_85 : decode cX11_readClause 85 = .ok (.iadd, 1) := by decide +kernel
theorem dX11_readClause_86 : decode cX11_readClause 86 = .ok (.putfield 227, 3) := by decide +kernel
theorem dX11_readClause_89 : decode cX11_readClause 89 = .ok (.aload_n 0, 1) := by decide +kernel
theorem dX11_readClause_90 : decode cX11_readClause 90 = .ok (.iload_n 1, 1) := by decide +kernel
theorem dX11_readClause_91 : decode cX11_readClause 91 = .ok (.aload_n 0, 1) := by decide +kernel
theorem dX11_readClause_92 : decode cX11_readClause 92 = .ok (.getfield 40, 3) := by decide +kernel
theorem dX11_readClause_95 : decode cX11_readClause 95 = .ok (.bipush 6, 2) := by decide +kernel
theorem dX11_readClause_97 : decode cX11_readClause 97 = .ok (.aload_n 0, 1) := by decide +kernel
theorem dX11_readClause_98 : decode cX11_readClause 98 = .ok (.getfield 227, 3) := by decide +kernel
theorem dX11_readClause_101 : decode cX11_readClause 101 = .ok (.iconst 1, 1) := by decide +kernel
theorem dX11_readClause_102 : decode cX11_readClause 102 = .ok (.isub, 1) := by decide +kernel
theorem dX11_readClause_103 : decode cX11_readClause 103 = .ok (.imul, 1) := by decide +kernel
theorem dX11_readClause_104 : decode cX11_readClause 104 = .ok (.ldc 236, 2) := by decide +kernel
theorem dX11_readClause_106 : decode cX11_readClause 106 = .ok (.invokevirtual 238, 3) := by decide +kernel
theorem dX11_readClause_109 : decode cX11_readClause 109 = .ok (.goto 58, 3) := by decide +kernel
theorem dX11_readClause_112 : decode cX11_readClause 112 = .ok (.iload_n 1, 1) := by decide +kernel
theorem dX11_readClause_113 : decode cX11_readClause 113 = .ok (.bipush 101, 2) := by decide +kernel
theorem dX11_readClause_115 : decode cX11_readClause 115 = .ok (.if_icmp .ne 35, 3) := by decide +kernel
theorem dX11_readClause_118 : decode cX11_readClause 118 = .ok (.aload_n 0, 1) := by decide +kernel
theorem dX11_readClause_119 : decode cX11_readClause 119 = .ok (.dup, 1) := by decide +kernel
theorem dX11_readClause_120 : decode cX11_readClause 120 = .ok (.getfield 230, 3) := by decide +kernel
theorem dX11_readClause_123 : decode cX11_readClause 123 = .ok (.iconst 1, 1) := by decide +kernel
theorem dX11_readClause_124 : decode cX11_readClause 124 = .ok (.iadd, 1) := by decide +kernel
theorem dX11_readClause_125 : decode cX11_readClause 125 = .ok (.putfield 230, 3) := by decide +kernel
theorem dX11_readClause_128 : decode cX11_readClause 128 = .ok (.aload_n 0, 1) := by decide +kernel
theorem dX11_readClause_129 : decode cX11_readClause 129 = .ok (.iload_n 1, 1) := by decide +kernel
theorem dX11_readClause_130 : decode cX11_readClause 130 = .ok (.aload_n 0, 1) := by decide +kernel
theorem dX11_readClause_131 : decode cX11_readClause 131 = .ok (.getfield 46, 3) := by decide +kernel
theorem dX11_readClause_134 : decode cX11_readClause 134 = .ok (.iconst 3, 1) := by decide +kernel
theorem dX11_readClause_135 : decode cX11_readClause 135 = .ok (.aload_n 0, 1) := by decide +kernel
theorem dX11_readClause_136 : decode cX11_readClause 136 = .ok (.getfield 230, 3) := by decide +kernel
theorem dX11_readClause_139 : decode cX11_readClause 139 = .ok (.iconst 1, 1) := by decide +kernel
theorem dX11_readClause_140 : decode cX11_readClause 140 = .ok (.isub, 1) := by decide +kernel
theorem dX11_readClause_141 : decode cX11_readClause 141 = .ok (.imul, 1) := by decide +kernel
theorem dX11_readClause_142 : decode cX11_readClause 142 = .ok (.ldc 242, 2) := by decide +kernel
theorem dX11_readClause_144 : decode cX11_readClause 144 = .ok (.invokevirtual 238, 3) := by decide +kernel
theorem dX11_readClause_147 : decode cX11_readClause 147 = .ok (.goto 20, 3) := by decide +kernel
theorem dX11_readClause_150 : decode cX11_readClause 150 = .ok (.aload_n 0, 1) := by decide +kernel
theorem dX11_readClause_151 : decode cX11_readClause 151 = .ok (.iconst 1, 1) := by decide +kernel
theorem dX11_readClause_152 : decode cX11_readClause 152 = .ok (.putfield 233, 3) := by decide +kernel
theorem dX11_readClause_155 : decode cX11_readClause 155 = .ok (.aload_n 0, 1) := by decide +kernel
theorem dX11_readClause_156 : decode cX11_readClause 156 = .ok (.iload_n 1, 1) := by decide +kernel
theorem dX11_readClause_157 : decode cX11_readClause 157 = .ok (.aload_n 0, 1) := by decide +kernel
theorem dX11_readClause_158 : decode cX11_readClause 158 = .ok (.getfield 52, 3) := by decide +kernel
theorem dX11_readClause_161 : decode cX11_readClause 161 = .ok (.iconst 0, 1) := by decide +kernel
theorem dX11_readClause_162 : decode cX11_readClause 162 = .ok (.ldc 244, 2) := by decide +kernel
theorem dX11_readClause_164 : decode cX11_readClause 164 = .ok (.invokevirtual 238, 3) := by decide +kernel
theorem dX11_readClause_167 : decode cX11_readClause 167 = .ok (.return_, 1) := by decide +kernel
theorem dX11_readCounty_0 : decode cX11_readCounty 0 = .ok (.aload_n 0, 1) := by decide +kernel
theorem dX11_readCounty_1 : decode cX11_readCounty 1 = .ok (.aload_n 0, 1) := by decide +kernel
theorem dX11_readCounty_2 : decode cX11_readCounty 2 = .ok (.getfield 9, 3) := by decide +kernel
theorem dX11_readCounty_5 : decode cX11_readCounty 5 = .ok (.iconst 0, 1) := by decide +kernel
theorem dX11_readCounty_6 : decode cX11_readCounty 6 = .ok (.aload_n 0, 1) := by decide +kernel
theorem dX11_readCounty_7 : decode cX11_readCounty 7 = .ok (.getfield 93, 3) := by decide +kernel
theorem dX11_readCounty_10 : decode cX11_readCounty 10 = .ok (.invokevirtual 191, 3) := by decide +kernel
theorem dX11_readCounty_13 : decode cX11_readCounty 13 = .ok (.aload_n 0, 1) := by decide +kernel
theorem dX11_readCounty_14 : decode cX11_readCounty 14 = .ok (.iconst 0, 1) := by decide +kernel
theorem dX11_readCounty_15 : decode cX11_readCounty 15 = .ok (.putfield 227, 3) := by decide +kernel
theorem dX11_readCounty_18 : decode cX11_readCounty 18 = .ok (.aload_n 0, 1) := by decide +kernel
theorem dX11_readCounty_19 : decode cX11_readCounty 19 = .ok (.iconst 0, 1) := by decide +kernel
theorem dX11_readCounty_20 : decode cX11_readCounty 20 = .ok (.putfield 230, 3) := by decide +kernel
theorem dX11_readCounty_23 : decode cX11_readCounty 23 = .ok (.aload_n 0, 1) := by decide +kernel
theorem dX11_readCounty_24 : decode cX11_readCounty 24 = .ok (.iconst 0, 1) := by decide +kernel
theorem dX11_readCounty_25 : decode cX11_readCounty 25 = .ok (.putfield 233, 3) := by decide +kernel
theorem dX11_readCounty_28 : decode cX11_readCounty 28 = .ok (.iconst 0, 1) := by decide +kernel
theorem dX11_readCounty_29 : decode cX11_readCounty 29 = .ok (.istore_n 1, 1) := by decide +kernel
theorem dX11_readCounty_30 : decode cX11_readCounty 30 = .ok (.iload_n 1, 1) := by decide +kernel
theorem dX11_readCounty_31 : decode cX11_readCounty 31 = .ok (.iconst 3, 1) := by decide +kernel
theorem dX11_readCounty_32 : decode cX11_readCounty 32 = .ok (.if_icmp .ge 21, 3) := by decide +kernel
theorem dX11_readCounty_35 : decode cX11_readCounty 35 = .ok (.aload_n 0, 1) := by decide +kernel
theorem dX11_readCounty_36 : decode cX11_readCounty 36 = .ok (.getfield 52, 3) := by decide +kernel
theorem dX11_readCounty_39 : decode cX11_readCounty 39 = .ok (.iload_n 1, 1) := by decide +kernel
theorem dX11_readCounty_40 : decode cX11_readCounty 40 = .ok (.bipush 114, 2) := by decide +kernel
theorem dX11_readCounty_42 : decode cX11_readCounty 42 = .ok (.iload_n 1, 1) := by decide +kernel
theorem dX11_readCounty_43 : decode cX11_readCounty 43 = .ok (.invokestatic 205, 3) := by decide +kernel
theorem dX11_readCounty_46 : decode cX11_readCounty 46 = .ok (.iastore, 1) := by decide +kernel
theorem dX11_readCounty_47 : decode cX11_readCounty 47 = .ok (.iinc 1 1, 3) := by decide +kernel
theorem dX11_readCounty_50 : decode cX11_readCounty 50 = .ok (.goto (-20), 3) := by decide +kernel
theorem dX11_readCounty_53 : decode cX11_readCounty 53 = .ok (.iconst 1, 1) := by decide +kernel
theorem dX11_readCounty_54 : decode cX11_readCounty 54 = .ok (.istore_n 1, 1) := by decide +kernel
theorem dX11_readCounty_55 : decode cX11_readCounty 55 = .ok (.iload_n 1, 1) := by decide +kernel
theorem dX11_readCounty_56 : decode cX11_readCounty 56 = .ok (.ifCond .eq 55, 3) := by decide +kernel
theorem dX11_readCounty_59 : decode cX11_readCounty 59 = .ok (.aload_n 0, 1) := by decide +kernel
theorem dX11_readCounty_60 : decode cX11_readCounty 60 = .ok (.getfield 112, 3) := by decide +kernel
theorem dX11_readCounty_63 : decode cX11_readCounty 63 = .ok (.iconst (-1), 1) := by decide +kernel
theorem dX11_readCounty_64 : decode cX11_readCounty 64 = .ok (.if_icmp .ne 47, 3) := by decide +kernel
theorem dX11_readCounty_67 : decode cX11_readCounty 67 = .ok (.aload_n 0, 1) := by decide +kernel
theorem dX11_readCounty_68 : decode cX11_readCounty 68 = .ok (.invokevirtual 246, 3) := by decide +kernel
theorem dX11_readCounty_71 : decode cX11_readCounty 71 = .ok (.aload_n 0, 1) := by decide +kernel
theorem dX11_readCounty_72 : decode cX11_readCounty 72 = .ok (.getfield 112, 3) := by decide +kernel
theorem dX11_readCounty_75 : decode cX11_readCounty 75 = .ok (.iconst (-1), 1) := by decide +kernel
theorem dX11_readCounty_76 : decode cX11_readCounty 76 = .ok (.if_icmp .ne 16, 3) := by decide +kernel
theorem dX11_readCounty_79 : decode cX11_readCounty 79 = .ok (.aload_n 0, 1) := by decide +kernel
theorem dX11_readCounty_80 : decode cX11_readCounty 80 = .ok (.invokevirtual 122, 3) := by decide +kernel
theorem dX11_readCounty_83 : decode cX11_readCounty 83 = .ok (.bipush 59, 2) := by decide +kernel
theorem dX11_readCounty_85 : decode cX11_readCounty 85 = .ok (.if_icmp .ne 7, 3) := by decide +kernel
theorem dX11_readCounty_88 : decode cX11_readCounty 88 = .ok (.iconst 1, 1) := by decide +kernel
theorem dX11_readCounty_89 : decode cX11_readCounty 89 = .ok (.goto 4, 3) := by decide +kernel
theorem dX11_readCounty_92 : decode cX11_readCounty 92 = .ok (.iconst 0, 1) := by decide +kernel
theorem dX11_readCounty_93 : decode cX11_readCounty 93 = .ok (.istore_n 1, 1) := by decide +kernel
theorem dX11_readCounty_94 : decode cX11_readCounty 94 = .ok (.iload_n 1, 1) := by decide +kernel
theorem dX11_readCounty_95 : decode cX11_readCounty 95 = .ok (.ifCond .eq (-40), 3) := by decide +kernel
theorem dX11_readCounty_98 : decode cX11_readCounty 98 = .ok (.aload_n 0, 1) := by decide +kernel
theorem dX11_readCounty_99 : decode cX11_readCounty 99 = .ok (.dup, 1) := by decide +kernel
theorem dX11_readCounty_100 : decode cX11_readCounty 100 = .ok (.getfield 103, 3) := by decide +kernel
theorem dX11_readCounty_103 : decode cX11_readCounty 103 = .ok (.iconst 1, 1) := by decide +kernel
theorem dX11_readCounty_104 : decode cX11_readCounty 104 = .ok (.iadd, 1) := by decide +kernel
theorem dX11_readCounty_105 : decode cX11_readCounty 105 = .ok (.putfield 103, 3) := by decide +kernel
theorem dX11_readCounty_108 : decode cX11_readCounty 108 = .ok (.goto (-53), 3) := by decide +kernel
theorem dX11_readCounty_111 : decode cX11_readCounty 111 = .ok (.aload_n 0, 1) := by decide +kernel
theorem dX11_readCounty_112 : decode cX11_readCounty 112 = .ok (.getfield 112, 3) := by decide +kernel
theorem dX11_readCounty_115 : decode cX11_readCounty 115 = .ok (.iconst (-1), 1) := by decide +kernel
theorem dX11_readCounty_116 : decode cX11_readCounty 116 = .ok (.if_icmp .ne 23, 3) := by decide +kernel
theorem dX11_readCounty_119 : decode cX11_readCounty 119 = .ok (.aload_n 0, 1) := by decide +kernel
theorem dX11_readCounty_120 : decode cX11_readCounty 120 = .ok (.invokevirtual 122, 3) := by decide +kernel
theorem dX11_readCounty_123 : decode cX11_readCounty 123 = .ok (.iconst (-1), 1) := by decide +kernel
theorem dX11_readCounty_124 : decode cX11_readCounty 124 = .ok (.if_icmp .ne 10, 3) := by decide +kernel
theorem dX11_readCounty_127 : decode cX11_readCounty 127 = .ok (.aload_n 0, 1) := by decide +kernel
theorem dX11_readCounty_128 : decode cX11_readCounty 128 = .ok (.getfield 227, 3) := by decide +kernel
theorem dX11_readCounty_131 : decode cX11_readCounty 131 = .ok (.ifCond .ne 8, 3) := by decide +kernel
theorem dX11_readCounty_134 : decode cX11_readCounty 134 = .ok (.aload_n 0, 1) := by decide +kernel
theorem dX11_readCounty_135 : decode cX11_readCounty 135 = .ok (.invokevirtual 118, 3) := by decide +kernel
theorem dX11_readCounty_138 : decode cX11_readCounty 138 = .ok (.pop, 1) := by decide +kernel
theorem dX11_readCounty_139 : decode cX11_readCounty 139 = .ok (.return_, 1) := by decide +kernel
theorem dX11_fault_0 : decode cX11_fault 0 = .ok (.aload_n 0, 1) := by decide +kernel
theorem dX11_fault_1 : decode cX11_fault 1 = .ok (.iconst 0, 1) := by decide +kernel
theorem dX11_fault_2 : decode cX11_fault 2 = .ok (.putfield 80, 3) := by decide +kernel
theorem dX11_fault_5 : decode cX11_fault 5 = .ok (.iload_n 1, 1) := by decide +kernel
theorem dX11_fault_6 : decode cX11_fault 6 = .ok (.i2l, 1) := by decide +kernel
theorem dX11_fault_7 : decode cX11_fault 7 = .ok (.lconst 0, 1) := by decide +kernel
theorem dX11_fault_8 : decode cX11_fault 8 = .ok (.lconst 1, 1) := by decide +kernel
theorem dX11_fault_9 : decode cX11_fault 9 = .ok (.invokestatic 201, 3) := by decide +kernel
theorem dX11_fault_12 : decode cX11_fault 12 = .ok (.ifCond .ne 6, 3) := by decide +kernel
theorem dX11_fault_15 : decode cX11_fault 15 = .ok (.bipush (-2), 2) := by decide +kernel
theorem dX11_fault_17 : decode cX11_fault 17 = .ok (.ireturn, 1) := by decide +kernel
theorem dX11_fault_18 : decode cX11_fault 18 = .ok (.iload_n 1, 1) := by decide +kernel
theorem dX11_fault_19 : decode cX11_fault 19 = .ok (.ifCond .ne 10, 3) := by decide +kernel
theorem dX11_fault_22 : decode cX11_fault 22 = .ok (.aload_n 0, 1) := by decide +kernel
theorem dX11_fault_23 : decode cX11_fault 23 = .ok (.invokevirtual 249, 3) := by decide +kernel
theorem dX11_fault_26 : decode cX11_fault 26 = .ok (.goto 16, 3) := by decide +kernel
theorem dX11_fault_29 : decode cX11_fault 29 = .ok (.aload_n 0, 1) := by decide +kernel
theorem dX11_fault_30 : decode cX11_fault 30 = .ok (.aload_n 0, 1) := by decide +kernel
theorem dX11_fault_31 : decode cX11_fault 31 = .ok (.getfield 9, 3) := by decide +kernel
theorem dX11_fault_34 : decode cX11_fault 34 = .ok (.iconst 0, 1) := by decide +kernel
theorem dX11_fault_35 : decode cX11_fault 35 = .ok (.aload_n 0, 1) := by decide +kernel
theorem dX11_fault_36 : decode cX11_fault 36 = .ok (.getfield 93, 3) := by decide +kernel
theorem dX11_fault_39 : decode cX11_fault 39 = .ok (.invokevirtual 252, 3) := by decide +kernel
theorem dX11_fault_42 : decode cX11_fault 42 = .ok (.aload_n 0, 1) := by decide +kernel
theorem dX11_fault_43 : decode cX11_fault 43 = .ok (.getfield 112, 3) := by decide +kernel
theorem dX11_fault_46 : decode cX11_fault 46 = .ok (.ireturn, 1) := by decide +kernel
theorem dX11_text_0 : decode cX11_text 0 = .ok (.aload_n 0, 1) := by decide +kernel
theorem dX11_text_1 : decode cX11_text 1 = .ok (.iconst 0, 1) := by decide +kernel
theorem dX11_text_2 : decode cX11_text 2 = .ok (.putfield 80, 3) := by decide +kernel
theorem dX11_text_5 : decode cX11_text 5 = .ok (.iload_n 1, 1) := by decide +kernel
theorem dX11_text_6 : decode cX11_text 6 = .ok (.i2l, 1) := by decide +kernel
theorem dX11_text_7 : decode cX11_text 7 = .ok (.lconst 0, 1) := by decide +kernel
theorem dX11_text_8 : decode cX11_text 8 = .ok (.lconst 1, 1) := by decide +kernel
theorem dX11_text_9 : decode cX11_text 9 = .ok (.invokestatic 201, 3) := by decide +kernel
theorem dX11_text_12 : decode cX11_text 12 = .ok (.ifCond .eq 25, 3) := by decide +kernel
theorem dX11_text_15 : decode cX11_text 15 = .ok (.iload_n 1, 1) := by decide +kernel
theorem dX11_text_16 : decode cX11_text 16 = .ok (.iconst 1, 1) := by decide +kernel
theorem dX11_text_17 : decode cX11_text 17 = .ok (.if_icmp .ne 11, 3) := by decide +kernel
theorem dX11_text_20 : decode cX11_text 20 = .ok (.aload_n 0, 1) := by decide +kernel
theorem dX11_text_21 : decode cX11_text 21 = .ok (.getfield 255, 3) := by decide +kernel
theorem dX11_text_24 : decode cX11_text 24 = .ok (.iconst 4, 1) := by decide +kernel
theorem dX11_text_25 : decode cX11_text 25 = .ok (.if_icmp .eq 12, 3) := by decide +kernel
theorem dX11_text_28 : decode cX11_text 28 = .ok (.aload_n 0, 1) := by decide +kernel
theorem dX11_text_29 : decode cX11_text 29 = .ok (.iload_n 1, 1) := by decide +kernel
theorem dX11_text_30 : decode cX11_text 30 = .ok (.invokevirtual 258, 3) := by decide +kernel
theorem dX11_text_33 : decode cX11_text 33 = .ok (.iconst (-1), 1) := by decide +kernel
theorem dX11_text_34 : decode cX11_text 34 = .ok (.if_icmp .eq 5, 3) := by decide +kernel
theorem dX11_text_37 : decode cX11_text 37 = .ok (.iconst (-1), 1) := by decide +kernel
theorem dX11_text_38 : decode cX11_text 38 = .ok (.ireturn, 1) := by decide +kernel
theorem dX11_text_39 : decode cX11_text 39 = .ok (.aload_n 0, 1) := by decide +kernel
theorem dX11_text_40 : decode cX11_text 40 = .ok (.getfield 93, 3) := by decide +kernel
theorem dX11_text_43 : decode cX11_text 43 = .ok (.istore_n 2, 1) := by decide +kernel
theorem dX11_text_44 : decode cX11_text 44 = .ok (.aload_n 0, 1) := by decide +kernel
theorem dX11_text_45 : decode cX11_text 45 = .ok (.iconst 0, 1) := by decide +kernel
theorem dX11_text_46 : decode cX11_text 46 = .ok (.putfield 93, 3) := by decide +kernel
theorem dX11_text_49 : decode cX11_text 49 = .ok (.iload_n 1, 1) := by decide +kernel
theorem dX11_text_50 : decode cX11_text 50 = .ok (.iconst 1, 1) := by decide +kernel
theorem dX11_text_51 : decode cX11_text 51 = .ok (.if_icmp .ne 64, 3) := by decide +kernel
theorem dX11_text_54 : decode cX11_text 54 = .ok (.iconst 0, 1) := by decide +kernel
theorem dX11_text_55 : decode cX11_text 55 = .ok (.istore_n 3, 1) := by decide +kernel
theorem dX11_text_56 : decode cX11_text 56 = .ok (.iload_n 3, 1) := by decide +kernel
theorem dX11_text_57 : decode cX11_text 57 = .ok (.iload_n 2, 1) := by decide +kernel
theorem dX11_text_58 : decode cX11_text 58 = .ok (.if_icmp .ge 30, 3) := by decide +kernel
theorem dX11_text_61 : decode cX11_text 61 = .ok (.aload_n 0, 1) := by decide +kernel
theorem dX11_text_62 : decode cX11_text 62 = .ok (.getfield 13, 3) := by decide +kernel
theorem dX11_text_65 : decode cX11_text 65 = .ok (.sipush 240, 3) := by decide +kernel
theorem dX11_text_68 : decode cX11_text 68 = .ok (.aload_n 0, 1) := by decide +kernel
theorem dX11_text_69 : decode cX11_text 69 = .ok (.getfield 255, 3) := by decide +kernel
theorem dX11_text_72 : decode cX11_text 72 = .ok (.imul, 1) := by decide +kernel
theorem dX11_text_73 : decode cX11_text 73 = .ok (.iload_n 3, 1) := by decide +kernel
theorem dX11_text_74 : decode cX11_text 74 = .ok (.iadd, 1) := by decide +kernel
theorem dX11_text_75 : decode cX11_text 75 = .ok (.aload_n 0, 1) := by decide +kernel
theorem dX11_text_76 : decode cX11_text 76 = .ok (.getfield 9, 3) := by decide +kernel
theorem dX11_text_79 : decode cX11_text 79 = .ok (.iload_n 3, 1) := by decide +kernel
theorem dX11_text_80 : decode cX11_text 80 = .ok (.baload, 1) := by decide +kernel
theorem dX11_text_81 : decode cX11_text 81 = .ok (.bastore, 1) := by decide +kernel
theorem dX11_text_82 : decode cX11_text 82 = .ok (.iinc 3 1, 3) := by decide +kernel
theorem dX11_text_85 : decode cX11_text 85 = .ok (.goto (-29), 3) := by decide +kernel
theorem dX11_text_88 : decode cX11_text 88 = .ok (.aload_n 0, 1) := by decide +kernel
theorem dX11_text_89 : decode cX11_text 89 = .ok (.getfield 16, 3) := by decide +kernel
theorem dX11_text_92 : decode cX11_text 92 = .ok (.aload_n 0, 1) := by decide +kernel
theorem dX11_text_93 : decode cX11_text 93 = .ok (.getfield 255, 3) := by decide +kernel
theorem dX11_text_96 : decode cX11_text 96 = .ok (.iload_n 2, 1) := by decide +kernel
theorem dX11_text_97 : decode cX11_text 97 = .ok (.iastore, 1) := by decide +kernel
theorem dX11_text_98 : decode cX11_text 98 = .ok (.aload_n 0, 1) := by decide +kernel
theorem dX11_text_99 : decode cX11_text 99 = .ok (.dup, 1) := by decide +kernel
theorem dX11_text_100 : decode cX11_text 100 = .ok (.getfield 255, 3) := by decide +kernel
theorem dX11_text_103 : decode cX11_text 103 = .ok (.iconst 1, 1) := by decide +kernel
theorem dX11_text_104 : decode cX11_text 104 = .ok (.iadd, 1) := by decide +kernel
theorem dX11_text_105 : decode cX11_text 105 = .ok (.putfield 255, 3) := by decide +kernel
theorem dX11_text_108 : decode cX11_text 108 = .ok (.aload_n 0, 1) := by decide +kernel
theorem dX11_text_109 : decode cX11_text 109 = .ok (.getfield 255, 3) := by decide +kernel
theorem dX11_text_112 : decode cX11_text 112 = .ok (.iconst 1, 1) := by decide +kernel
theorem dX11_text_113 : decode cX11_text 113 = .ok (.isub, 1) := by decide +kernel
theorem dX11_text_114 : decode cX11_text 114 = .ok (.ireturn, 1) := by decide +kernel
theorem dX11_text_115 : decode cX11_text 115 = .ok (.aload_n 0, 1) := by decide +kernel
theorem dX11_text_116 : decode cX11_text 116 = .ok (.aload_n 0, 1) := by decide +kernel
theorem dX11_text_117 : decode cX11_text 117 = .ok (.getfield 227, 3) := by decide +kernel
theorem dX11_text_120 : decode cX11_text 120 = .ok (.putfield 260, 3) := by decide +kernel
theorem dX11_text_123 : decode cX11_text 123 = .ok (.aload_n 0, 1) := by decide +kernel
theorem dX11_text_124 : decode cX11_text 124 = .ok (.aload_n 0, 1) := by decide +kernel
theorem dX11_text_125 : decode cX11_text 125 = .ok (.getfield 230, 3) := by decide +kernel
theorem dX11_text_128 : decode cX11_text 128 = .ok (.putfield 263, 3) := by decide +kernel
theorem dX11_text_131 : decode cX11_text 131 = .ok (.iconst 0, 1) := by decide +kernel
theorem dX11_text_132 : decode cX11_text 132 = .ok (.istore_n 3, 1) := by decide +kernel
theorem dX11_text_133 : decode cX11_text 133 = .ok (.iload_n 3, 1) := by decide +kernel
theorem dX11_text_134 : decode cX11_text 134 = .ok (.bipush 48, 2) := by decide +kernel
theorem dX11_text_136 : decode cX11_text 136 = .ok (.if_icmp .ge 21, 3) := by decide +kernel
theorem dX11_text_139 : decode cX11_text 139 = .ok (.aload_n 0, 1) := by decide +kernel
theorem dX11_text_140 : decode cX11_text 140 = .ok (.getfield 37, 3) := by decide +kernel
theorem dX11_text_143 : decode cX11_text 143 = .ok (.iload_n 3, 1) := by decide +kernel
theorem dX11_text_144 : decode cX11_text 144 = .ok (.aload_n 0, 1) := by decide +kernel
theorem dX11_text_145 : decode cX11_text 145 = .ok (.getfield 40, 3) := by decide +kernel
theorem dX11_text_148 : decode cX11_text 148 = .ok (.iload_n 3, 1) := by decide +kernel
theorem dX11_text_149 : decode cX11_text 149 = .ok (.iaload, 1) := by decide +kernel
theorem dX11_text_150 : decode cX11_text 150 = .ok (.iastore, 1) := by decide +kernel
theorem dX11_text_151 : decode cX11_text 151 = .ok (.iinc 3 1, 3) := by decide +kernel
theorem dX11_text_154 : decode cX11_text 154 = .ok (.goto (-21), 3) := by decide +kernel
theorem dX11_text_157 : decode cX11_text 157 = .ok (.iconst 0, 1) := by decide +kernel
theorem dX11_text_158 : decode cX11_text 158 = .ok (.istore_n 3, 1) := by decide +kernel
theorem dX11_text_159 : decode cX11_text 159 = .ok (.iload_n 3, 1) := by decide +kernel
theorem dX11_text_160 : decode cX11_text 160 = .ok (.bipush 12, 2) := by decide +kernel
theorem dX11_text_162 : decode cX11_text 162 = .ok (.if_icmp .ge 21, 3) := by decide +kernel
theorem dX11_text_165 : decode cX11_text 165 = .ok (.aload_n 0, 1) := by decide +kernel
theorem dX11_text_166 : decode cX11_text 166 = .ok (.getfield 43, 3) := by decide +kernel
theorem dX11_text_169 : decode cX11_text 169 = .ok (.iload_n 3, 1) := by decide +kernel
theorem dX11_text_170 : decode cX11_text 170 = .ok (.aload_n 0, 1) := by decide +kernel
theorem dX11_text_171 : decode cX11_text 171 = .ok (.getfield 46, 3) := by decide +kernel
theorem dX11_text_174 : decode cX11_text 174 = .ok (.iload_n 3, 1) := by decide +kernel
theorem dX11_text_175 : decode cX11_text 175 = .ok (.iaload, 1) := by decide +kernel
theorem dX11_text_176 : decode cX11_text 176 = .ok (.iastore, 1) := by decide +kernel
theorem dX11_text_177 : decode cX11_text 177 = .ok (.iinc 3 1, 3) := by decide +kernel
theorem dX11_text_180 : decode cX11_text 180 = .ok (.goto (-21), 3) := by decide +kernel
theorem dX11_text_183 : decode cX11_text 183 = .ok (.iconst 0, 1) := by decide +kernel
theorem dX11_text_184 : decode cX11_text 184 = .ok (.istore_n 3, 1) := by decide +kernel
theorem dX11_text_185 : decode cX11_text 185 = .ok (.iload_n 3, 1) := by decide +kernel
theorem dX11_text_186 : decode cX11_text 186 = .ok (.iconst 3, 1) := by decide +kernel
theorem dX11_text_187 : decode cX11_text 187 = .ok (.if_icmp .ge 21, 3) := by decide +kernel
theorem dX11_text_190 : decode cX11_text 190 = .ok (.aload_n 0, 1) := by decide +kernel
theorem dX11_text_191 : decode cX11_text 191 = .ok (.getfield 49, 3) := by decide +kernel
theorem dX11_text_194 : decode cX11_text 194 = .ok (.iload_n 3, 1) := by decide +kernel
theorem dX11_text_195 : decode cX11_text 195 = .ok (.aload_n 0, 1) := by decide +kernel
theorem dX11_text_196 : decode cX11_text 196 = .ok (.getfield 52, 3) := by decide +kernel
theorem dX11_text_199 : decode cX11_text 199 = .ok (.iload_n 3, 1) := by decide +kernel
theorem dX11_text_200 : decode cX11_text 200 = .ok (.iaload, 1) := by decide +kernel
theorem dX11_text_201 : decode cX11_text 201 = .ok (.iastore, 1) := by decide +kernel
theorem dX11_text_202 : decode cX11_text 202 = .ok (.iinc 3 1, 3) := by decide +kernel
theorem dX11_text_205 : decode cX11_text 205 = .ok (.goto (-20), 3) := by decide +kernel
theorem dX11_text_208 : decode cX11_text 208 = .ok (.iconst 0, 1) := by decide +kernel
theorem dX11_text_209 : decode cX11_text 209 = .ok (.istore_n 3, 1) := by decide +kernel
theorem dX11_text_210 : decode cX11_text 210 = .ok (.iload_n 3, 1) := by decide +kernel
theorem dX11_text_211 : decode cX11_text 211 = .ok (.sipush 244, 3) := by decide +kernel
theorem dX11_text_214 : decode cX11_text 214 = .ok (.if_icmp .ge 16, 3) := by decide +kernel
theorem dX11_text_217 : decode cX11_text 217 = .ok (.aload_n 0, 1) := by decide +kernel
theorem dX11_text_218 : decode cX11_text 218 = .ok (.getfield 55, 3) := by decide +kernel
theorem dX11_text_221 : decode cX11_text 221 = .ok (.iload_n 3, 1) := by decide +kernel
theorem dX11_text_222 : decode cX11_text 222 = .ok (.iconst 0, 1) := by decide +kernel
theorem dX11_text_223 : decode cX11_text 223 = .ok (.iastore, 1) := by decide +kernel
theorem dX11_text_224 : decode cX11_text 224 = .ok (.iinc 3 1, 3) := by decide +kernel
theorem dX11_text_227 : decode cX11_text 227 = .ok (.goto (-17), 3) := by decide +kernel
theorem dX11_text_230 : decode cX11_text 230 = .ok (.iconst 0, 1) := by decide +kernel
theorem dX11_text_231 : decode cX11_text 231 = .ok (.istore_n 3, 1) := by decide +kernel
theorem dX11_text_232 : decode cX11_text 232 = .ok (.iload_n 3, 1) := by decide +kernel
theorem dX11_text_233 : decode cX11_text 233 = .ok (.aload_n 0, 1) := by decide +kernel
theorem dX11_text_234 : decode cX11_text 234 = .ok (.getfield 260, 3) := by decide +kernel
theorem dX11_text_237 : decode cX11_text 237 = .ok (.if_icmp .ge 111, 3) := by decide +kernel
theorem dX11_text_240 : decode cX11_text 240 = .ok (.aload_n 0, 1) := by decide +kernel
theorem dX11_text_241 : decode cX11_text 241 = .ok (.getfield 55, 3) := by decide +kernel
theorem dX11_text_244 : decode cX11_text 244 = .ok (.bipush 7, 2) := by decide +kernel
theorem dX11_text_246 : decode cX11_text 246 = .ok (.iload_n 3, 1) := by decide +kernel
theorem dX11_text_247 : decode cX11_text 247 = .ok (.imul, 1) := by decide +kernel
theorem dX11_text_248 : decode cX11_text 248 = .ok (.iconst 0, 1) := by decide +kernel
theorem dX11_text_249 : decode cX11_text 249 = .ok (.iadd, 1) := by decide +kernel
theorem dX11_text_250 : decode cX11_text 250 = .ok (.aload_n 0, 1) := by decide +kernel
theorem dX11_text_251 : decode cX11_text 251 = .ok (.getfield 37, 3) := by decide +kernel
theorem dX11_text_254 : decode cX11_text 254 = .ok (.bipush 6, 2) := by decide +kernel
theorem dX11_text_256 : decode cX11_text 256 = .ok (.iload_n 3, 1) := by decide +kernel
theorem dX11_text_257 : decode cX11_text 257 = .ok (.imul, 1) := by decide +kernel
theorem dX11_text_258 : decode cX11_text 258 = .ok (.iaload, 1) := by decide +kernel
theorem dX11_text_259 : decode cX11_text 259 = .ok (.iastore, 1) := by decide +kernel
theorem dX11_text_260 : decode cX11_text 260 = .ok (.aload_n 0, 1) := by decide +kernel
theorem dX11_text_261 : decode cX11_text 261 = .ok (.getfield 55, 3) := by decide +kernel
theorem dX11_text_264 : decode cX11_text 264 = .ok (.bipush 7, 2) := by decide +kernel
theorem dX11_text_266 : decode cX11_text 266 = .ok (.iload_n 3, 1) := by decide +kernel
theorem dX11_text_267 : decode cX11_text 267 = .ok (.imul, 1) := by decide +kernel
theorem dX11_text_268 : decode cX11_text 268 = .ok (.iconst 1, 1) := by decide +kernel
theorem dX11_text_269 : decode cX11_text 269 = .ok (.iadd, 1) := by decide +kernel
theorem dX11_text_270 : decode cX11_text 270 = .ok (.iconst 1, 1) := by decide +kernel
theorem dX11_text_271 : decode cX11_text 271 = .ok (.aload_n 0, 1) := by decide +kernel
theorem dX11_text_272 : decode cX11_text 272 = .ok (.getfield 37, 3) := by decide +kernel
theorem dX11_text_275 : decode cX11_text 275 = .ok (.bipush 6, 2) := by decide +kernel
theorem dX11_text_277 : decode cX11_text 277 = .ok (.iload_n 3, 1) := by decide +kernel
theorem dX11_text_278 : decode cX11_text 278 = .ok (.imul, 1) := by decide +kernel
theorem dX11_text_279 : decode cX11_text 279 = .ok (.iconst 1, 1) := by decide +kernel
theorem dX11_text_280 : decode cX11_text 280 = .ok (.iadd, 1) := by decide +kernel
theorem dX11_text_281 : decode cX11_text 281 = .ok (.iaload, 1) := by decide +kernel
theorem dX11_text_282 : decode cX11_text 282 = .ok (.ishl, 1) := by decide +kernel
theorem dX11_text_283 : decode cX11_text 283 = .ok (.iconst 1, 1) := by decide +kernel
theorem dX11_text_284 : decode cX11_text 284 = .ok (.isub, 1) := by decide +kernel
theorem dX11_text_285 : decode cX11_text 285 = .ok (.iastore, 1) := by decide +kernel
theorem dX11_text_286 : decode cX11_text 286 = .ok (.aload_n 0, 1) := by decide +kernel
theorem dX11_text_287 : decode cX11_text 287 = .ok (.getfield 55, 3) := by decide +kernel
theorem dX11_text_290 : decode cX11_text 290 = .ok (.bipush 7, 2) := by decide +kernel
theorem dX11_text_292 : decode cX11_text 292 = .ok (.iload_n 3, 1) := by decide +kernel
theorem dX11_text_293 : decode cX11_text 293 = .ok (.imul, 1) := by decide +kernel
theorem dX11_text_294 : decode cX11_text 294 = .ok (.iconst 2, 1) := by decide +kernel
theorem dX11_text_295 : decode cX11_text 295 = .ok (.iadd, 1) := by decide +kernel
theorem dX11_text_296 : decode cX11_text 296 = .ok (.aload_n 0, 1) := by decide +kernel
theorem dX11_text_297 : decode cX11_text 297 = .ok (.getfield 37, 3) := by decide +kernel
theorem dX11_text_300 : decode cX11_text 300 = .ok (.bipush 6, 2) := by decide +kernel
theorem dX11_text_302 : decode cX11_text 302 = .ok (.iload_n 3, 1) := by decide +kernel
theorem dX11_text_303 : decode cX11_text 303 = .ok (.imul, 1) := by decide +kernel
theorem dX11_text_304 : decode cX11_text 304 = .ok (.iconst 2, 1) := by decide +kernel
theorem dX11_text_305 : decode cX11_text 305 = .ok (.iadd, 1) := by decide +kernel
theorem dX11_text_306 : decode cX11_text 306 = .ok (.iaload, 1) := by decide +kernel
theorem dX11_text_307 : decode cX11_text 307 = .ok (.bipush 9, 2) := by decide +kernel
theorem dX11_text_309 : decode cX11_text 309 = .ok (.if_icmp .ne 7, 3) := by decide +kernel
theorem dX11_text_312 : decode cX11_text 312 = .ok (.iconst 0, 1) := by decide +kernel
theorem dX11_text_313 : decode cX11_text 313 = .ok (.goto 16, 3) := by decide +kernel
theorem dX11_text_316 : decode cX11_text 316 = .ok (.iconst 1, 1) := by decide +kernel
theorem dX11_text_317 : decode cX11_text 317 = .ok (.aload_n 0, 1) := by decide +kernel
theorem dX11_text_318 : decode cX11_text 318 = .ok (.getfield 37, 3) := by decide +kernel
theorem dX11_text_321 : decode cX11_text 321 = .ok (.bipush 6, 2) := by decide +kernel
theorem dX11_text_323 : decode cX11_text 323 = .ok (.iload_n 3, 1) := by decide +kernel
theorem dX11_text_324 : decode cX11_text 324 = .ok (.imul, 1) := by decide +kernel
theorem dX11_text_325 : decode cX11_text 325 = .ok (.iconst 2, 1) := by decide +kernel
theorem dX11_text_326 : decode cX11_text 326 = .ok (.iadd, 1) := by decide +kernel
theorem dX11_text_327 : decode cX11_text 327 = .ok (.iaload, 1) := by decide +kernel
theorem dX11_text_328 : decode cX11_text 328 = .ok (.ishl, 1) := by decide +kernel
theorem dX11_text_329 : decode cX11_text 329 = .ok (.iastore, 1) := by decide +kernel
theorem dX11_text_330 : decode cX11_text 330 = .ok (.aload_n 0, 1) := by decide +kernel
theorem dX11_text_331 : decode cX11_text 331 = .ok (.getfield 55, 3) := by decide +kernel
theorem dX11_text_334 : decode cX11_text 334 = .ok (.bipush 7, 2) := by decide +kernel
theorem dX11_text_336 : decode cX11_text 336 = .ok (.iload_n 3, 1) := by decide +kernel
theorem dX11_text_337 : decode cX11_text 337 = .ok (.imul, 1) := by decide +kernel
theorem dX11_text_338 : decode cX11_text 338 = .ok (.iconst 3, 1) := by decide +kernel
theorem dX11_text_339 : decode cX11_text 339 = .ok (.iadd, 1) := by decide +kernel
theorem dX11_text_340 : decode cX11_text 340 = .ok (.iconst (-1), 1) := by decide +kernel
theorem dX11_text_341 : decode cX11_text 341 = .ok (.iastore, 1) := by decide +kernel
theorem dX11_text_342 : decode cX11_text 342 = .ok (.iinc 3 1, 3) := by decide +kernel
theorem dX11_text_345 : decode cX11_text 345 = .ok (.goto (-113), 3) := by decide +kernel
theorem dX11_text_348 : decode cX11_text 348 = .ok (.iconst 0, 1) := by decide +kernel
theorem dX11_text_349 : decode cX11_text 349 = .ok (.istore_n 3, 1) := by decide +kernel
theorem dX11_text_350 : decode cX11_text 350 = .ok (.iload_n 3, 1) := by decide +kernel
theorem dX11_text_351 : decode cX11_text 351 = .ok (.aload_n 0, 1) := by decide +kernel
theorem dX11_text_352 : decode cX11_text 352 = .ok (.getfield 263, 3) := by decide +kernel
theorem dX11_text_355 : decode cX11_text 355 = .ok (.if_icmp .ge 32, 3) := by decide +kernel
theorem dX11_text_358 : decode cX11_text 358 = .ok (.aload_n 0, 1) := by decide +kernel
theorem dX11_text_359 : decode cX11_text 359 = .ok (.getfield 55, 3) := by decide +kernel
theorem dX11_text_362 : decode cX11_text 362 = .ok (.bipush 56, 2) := by decide +kernel
theorem dX11_text_364 : decode cX11_text 364 = .ok (.iload_n 3, 1) := by decide +kernel
theorem dX11_text_365 : decode cX11_text 365 = .ok (.iadd, 1) := by decide +kernel
theorem dX11_text_366 : decode cX11_text 366 = .ok (.iconst 1, 1) := by decide +kernel
theorem dX11_text_367 : decode cX11_text 367 = .ok (.aload_n 0, 1) := by decide +kernel
theorem dX11_text_368 : decode cX11_text 368 = .ok (.getfield 43, 3) := by decide +kernel
theorem dX11_text_371 : decode cX11_text 371 = .ok (.iconst 3, 1) := by decide +kernel
theorem dX11_text_372 : decode cX11_text 372 = .ok (.iload_n 3, 1) := by decide +kernel
theorem dX11_text_373 : decode cX11_text 373 = .ok (.imul, 1) := by decide +kernel
theorem dX11_text_374 : decode cX11_text 374 = .ok (.iconst 2, 1) := by decide +kernel
theorem dX11_text_375 : decode cX11_text 375 = .ok (.iadd, 1) := by decide +kernel
theorem dX11_text_376 : decode cX11_text 376 = .ok (.iaload, 1) := by decide +kernel
theorem dX11_text_377 : decode cX11_text 377 = .ok (.ishl, 1) := by decide +kernel
theorem dX11_text_378 : decode cX11_text 378 = .ok (.iconst 1, 1) := by decide +kernel
theorem dX11_text_379 : decode cX11_text 379 = .ok (.isub, 1) := by decide +kernel
theorem dX11_text_380 : decode cX11_text 380 = .ok (.iastore, 1) := by decide +kernel
theorem dX11_text_381 : decode cX11_text 381 = .ok (.iinc 3 1, 3) := by decide +kernel
theorem dX11_text_384 : decode cX11_text 384 = .ok (.goto (-34), 3) := by decide +kernel
theorem dX11_text_387 : decode cX11_text 387 = .ok (.aload_n 0, 1) := by decide +kernel
theorem dX11_text_388 : decode cX11_text 388 = .ok (.getfield 55, 3) := by decide +kernel
theorem dX11_text_391 : decode cX11_text 391 = .ok (.bipush 61, 2) := by decide +kernel
theorem dX11_text_393 : decode cX11_text 393 = .ok (.iconst (-1), 1) := by decide +kernel
theorem dX11_text_394 : decode cX11_text 394 = .ok (.iastore, 1) := by decide +kernel
theorem dX11_text_395 : decode cX11_text 395 = .ok (.aload_n 0, 1) := by decide +kernel
theorem dX11_text_396 : decode cX11_text 396 = .ok (.iconst 0, 1) := by decide +kernel
theorem dX11_text_397 : decode cX11_text 397 = .ok (.putfield 266, 3) := by decide +kernel
theorem dX11_text_400 : decode cX11_text 400 = .ok (.aload_n 0, 1) := by decide +kernel
theorem dX11_text_401 : decode cX11_text 401 = .ok (.iconst 0, 1) := by decide +kernel
theorem dX11_text_402 : decode cX11_text 402 = .ok (.putfield 269, 3) := by decide +kernel
theorem dX11_text_405 : decode cX11_text 405 = .ok (.aload_n 0, 1) := by decide +kernel
theorem dX11_text_406 : decode cX11_text 406 = .ok (.getfield 260, 3) := by decide +kernel
theorem dX11_text_409 : decode cX11_text 409 = .ok (.ireturn, 1) := by decide +kernel
theorem dX11_copy_0 : decode cX11_copy 0 = .ok (.iconst 0, 1) := by decide +kernel
theorem dX11_copy_1 : decode cX11_copy 1 = .ok (.istore_n 2, 1) := by decide +kernel
theorem dX11_copy_2 : decode cX11_copy 2 = .ok (.iload_n 2, 1) := by decide +kernel
theorem dX11_copy_3 : decode cX11_copy 3 = .ok (.sipush 244, 3) := by decide +kernel
theorem dX11_copy_6 : decode cX11_copy 6 = .ok (.if_icmp .ge 15, 3) := by decide +kernel
theorem dX11_copy_9 : decode cX11_copy 9 = .ok (.aload_n 1, 1) := by decide +kernel
theorem dX11_copy_10 : decode cX11_copy 10 = .ok (.iload_n 2, 1) := by decide +kernel
theorem dX11_copy_11 : decode cX11_copy 11 = .ok (.aload_n 0, 1) := by decide +kernel
theorem dX11_copy_12 : decode cX11_copy 12 = .ok (.iload_n 2, 1) := by decide +kernel
theorem dX11_copy_13 : decode cX11_copy 13 = .ok (.iaload, 1) := by decide +kernel
theorem dX11_copy_14 : decode cX11_copy 14 = .ok (.iastore, 1) := by decide +kernel
theorem dX11_copy_15 : decode cX11_copy 15 = .ok (.iinc 2 1, 3) := by decide +kernel
theorem dX11_copy_18 : decode cX11_copy 18 = .ok (.goto (-16), 3) := by decide +kernel
theorem dX11_copy_21 : decode cX11_copy 21 = .ok (.return_, 1) := by decide +kernel
theorem dX11_isChild_0 : decode cX11_isChild 0 = .ok (.iload_n 1, 1) := by decide +kernel
theorem dX11_isChild_1 : decode cX11_isChild 1 = .ok (.ifCond .lt 15, 3) := by decide +kernel
theorem dX11_isChild_4 : decode cX11_isChild 4 = .ok (.iload_n 1, 1) := by decide +kernel
theorem dX11_isChild_5 : decode cX11_isChild 5 = .ok (.aload_n 0, 1) := by decide +kernel
theorem dX11_isChild_6 : decode cX11_isChild 6 = .ok (.getfield 260, 3) := by decide +kernel
theorem dX11_isChild_9 : decode cX11_isChild 9 = .ok (.if_icmp .ge 7, 3) := by decide +kernel
theorem dX11_isChild_12 : decode cX11_isChild 12 = .ok (.iconst 1, 1) := by decide +kernel
theorem dX11_isChild_13 : decode cX11_isChild 13 = .ok (.goto 4, 3) := by decide +kernel
theorem dX11_isChild_16 : decode cX11_isChild 16 = .ok (.iconst 0, 1) := by decide +kernel
theorem dX11_isChild_17 : decode cX11_isChild 17 = .ok (.ireturn, 1) := by decide +kernel
theorem dX11_isElder_0 : decode cX11_isElder 0 = .ok (.iload_n 1, 1) := by decide +kernel
theorem dX11_isElder_1 : decode cX11_isElder 1 = .ok (.ifCond .lt 15, 3) := by decide +kernel
theorem dX11_isElder_4 : decode cX11_isElder 4 = .ok (.iload_n 1, 1) := by decide +kernel
theorem dX11_isElder_5 : decode cX11_isElder 5 = .ok (.aload_n 0, 1) := by decide +kernel
theorem dX11_isElder_6 : decode cX11_isElder 6 = .ok (.getfield 263, 3) := by decide +kernel
theorem dX11_isElder_9 : decode cX11_isElder 9 = .ok (.if_icmp .ge 7, 3) := by decide +kernel
theorem dX11_isElder_12 : decode cX11_isElder 12 = .ok (.iconst 1, 1) := by decide +kernel
theorem dX11_isElder_13 : decode cX11_isElder 13 = .ok (.goto 4, 3) := by decide +kernel
theorem dX11_isElder_16 : decode cX11_isElder 16 = .ok (.iconst 0, 1) := by decide +kernel
theorem dX11_isElder_17 : decode cX11_isElder 17 = .ok (.ireturn, 1) := by decide +kernel
theorem dX11_rightOf_0 : decode cX11_rightOf 0 = .ok (.aload_n 0, 1) := by decide +kernel
theorem dX11_rightOf_1 : decode cX11_rightOf 1 = .ok (.bipush 7, 2) := by decide +kernel
theorem dX11_rightOf_3 : decode cX11_rightOf 3 = .ok (.iload_n 1, 1) := by decide +kernel
theorem dX11_rightOf_4 : decode cX11_rightOf 4 = .ok (.imul, 1) := by decide +kernel
theorem dX11_rightOf_5 : decode cX11_rightOf 5 = .ok (.iconst 1, 1) := by decide +kernel
theorem dX11_rightOf_6 : decode cX11_rightOf 6 = .ok (.iadd, 1) := by decide +kernel
theorem dX11_rightOf_7 : decode cX11_rightOf 7 = .ok (.iaload, 1) := by decide +kernel
theorem dX11_rightOf_8 : decode cX11_rightOf 8 = .ok (.aload_n 0, 1) := by decide +kernel
theorem dX11_rightOf_9 : decode cX11_rightOf 9 = .ok (.bipush 7, 2) := by decide +kernel
theorem dX11_rightOf_11 : decode cX11_rightOf 11 = .ok (.iload_n 1, 1) := by decide +kernel
theorem dX11_rightOf_12 : decode cX11_rightOf 12 = .ok (.imul, 1) := by decide +kernel
theorem dX11_rightOf_13 : decode cX11_rightOf 13 = .ok (.iconst 2, 1) := by decide +kernel
theorem dX11_rightOf_14 : decode cX11_rightOf 14 = .ok (.iadd, 1) := by decide +kernel
theorem dX11_rightOf_15 : decode cX11_rightOf 15 = .ok (.iaload, 1) := by decide +kernel
theorem dX11_rightOf_16 : decode cX11_rightOf 16 = .ok (.iconst (-1), 1) := by decide +kernel
theorem dX11_rightOf_17 : decode cX11_rightOf 17 = .ok (.ixor, 1) := by decide +kernel
theorem dX11_rightOf_18 : decode cX11_rightOf 18 = .ok (.iand, 1) := by decide +kernel
theorem dX11_rightOf_19 : decode cX11_rightOf 19 = .ok (.ireturn, 1) := by decide +kernel
theorem dX11_countOf_0 : decode cX11_countOf 0 = .ok (.iconst 0, 1) := by decide +kernel
theorem dX11_countOf_1 : decode cX11_countOf 1 = .ok (.istore_n 2, 1) := by decide +kernel
theorem dX11_countOf_2 : decode cX11_countOf 2 = .ok (.iload_n 2, 1) := by decide +kernel
theorem dX11_countOf_3 : decode cX11_countOf 3 = .ok (.bipush 9, 2) := by decide +kernel
theorem dX11_countOf_5 : decode cX11_countOf 5 = .ok (.if_icmp .ge 21, 3) := by decide +kernel
theorem dX11_countOf_8 : decode cX11_countOf 8 = .ok (.aload_n 0, 1) := by decide +kernel
theorem dX11_countOf_9 : decode cX11_countOf 9 = .ok (.iload_n 1, 1) := by decide +kernel
theorem dX11_countOf_10 : decode cX11_countOf 10 = .ok (.invokestatic 272, 3) := by decide +kernel
theorem dX11_countOf_13 : decode cX11_countOf 13 = .ok (.iload_n 2, 1) := by decide +kernel
theorem dX11_countOf_14 : decode cX11_countOf 14 = .ok (.invokestatic 213, 3) := by decide +kernel
theorem dX11_countOf_17 : decode cX11_countOf 17 = .ok (.ifCond .eq 9, 3) := by decide +kernel
theorem dX11_countOf_20 : decode cX11_countOf 20 = .ok (.iinc 2 1, 3) := by decide +kernel
theorem dX11_countOf_23 : decode cX11_countOf 23 = .ok (.goto (-21), 3) := by decide +kernel
theorem dX11_countOf_26 : decode cX11_countOf 26 = .ok (.bipush 10, 2) := by decide +kernel
theorem dX11_countOf_28 : decode cX11_countOf 28 = .ok (.iload_n 2, 1) := by decide +kernel
theorem dX11_countOf_29 : decode cX11_countOf 29 = .ok (.imul, 1) := by decide +kernel
theorem dX11_countOf_30 : decode cX11_countOf 30 = .ok (.ireturn, 1) := by decide +kernel
theorem dX11_asks_0 : decode cX11_asks 0 = .ok (.iconst 0, 1) := by decide +kernel
theorem dX11_asks_1 : decode cX11_asks 1 = .ok (.istore 4, 2) := by decide +kernel
theorem dX11_asks_3 : decode cX11_asks 3 = .ok (.iconst 0, 1) := by decide +kernel
theorem dX11_asks_4 : decode cX11_asks 4 = .ok (.istore 5, 2) := by decide +kernel
theorem dX11_asks_6 : decode cX11_asks 6 = .ok (.iload 5, 2) := by decide +kernel
theorem dX11_asks_8 : decode cX11_asks 8 = .ok (.aload_n 0, 1) := by decide +kernel
theorem dX11_asks_9 : decode cX11_asks 9 = .ok (.getfield 49, 3) := by decide +kernel
theorem dX11_asks_12 : decode cX11_asks 12 = .ok (.iconst 1, 1) := by decide +kernel
theorem dX11_asks_13 : decode cX11_asks 13 = .ok (.iaload, 1) := by decide +kernel
theorem dX11_asks_14 : decode cX11_asks 14 = .ok (.if_icmp .ge 43, 3) := by decide +kernel
theorem dX11_asks_17 : decode cX11_asks 17 = .ok (.iload 4, 2) := by decide +kernel
theorem dX11_asks_19 : decode cX11_asks 19 = .ok (.aload_n 1, 1) := by decide +kernel
theorem dX11_asks_20 : decode cX11_asks 20 = .ok (.bipush 56, 2) := by decide +kernel
theorem dX11_asks_22 : decode cX11_asks 22 = .ok (.iload_n 2, 1) := by decide +kernel
theorem dX11_asks_23 : decode cX11_asks 23 = .ok (.iadd, 1) := by decide +kernel
theorem dX11_asks_24 : decode cX11_asks 24 = .ok (.iaload, 1) := by decide +kernel
theorem dX11_asks_25 : decode cX11_asks 25 = .ok (.iload 5, 2) := by decide +kernel
theorem dX11_asks_27 : decode cX11_asks 27 = .ok (.invokestatic 213, 3) := by decide +kernel
theorem dX11_asks_30 : decode cX11_asks 30 = .ok (.ifCond .eq 17, 3) := by decide +kernel
theorem dX11_asks_33 : decode cX11_asks 33 = .ok (.iload 5, 2) := by decide +kernel
theorem dX11_asks_35 : decode cX11_asks 35 = .ok (.iload_n 3, 1) := by decide +kernel
theorem dX11_asks_36 : decode cX11_asks 36 = .ok (.irem, 1) := by decide +kernel
theorem dX11_asks_37 : decode cX11_asks 37 = .ok (.ifCond .ne 10, 3) := by decide +kernel
theorem dX11_asks_40 : decode cX11_asks 40 = .ok (.iconst 1, 1) := by decide +kernel
theorem dX11_asks_41 : decode cX11_asks 41 = .ok (.iload 5, 2) := by decide +kernel
theorem dX11_asks_43 : decode cX11_asks 43 = .ok (.ishl, 1) := by decide +kernel
theorem dX11_asks_44 : decode cX11_asks 44 = .ok (.goto 4, 3) := by decide +kernel
theorem dX11_asks_47 : decode cX11_asks 47 = .ok (.iconst 0, 1) := by decide +kernel
theorem dX11_asks_48 : decode cX11_asks 48 = .ok (.ior, 1) := by decide +kernel
theorem dX11_asks_49 : decode cX11_asks 49 = .ok (.istore 4, 2) := by decide +kernel
theorem dX11_asks_51 : decode cX11_asks 51 = .ok (.iinc 5 1, 3) := by decide +kernel
theorem dX11_asks_54 : decode cX11_asks 54 = .ok (.goto (-48), 3) := by decide +kernel
theorem dX11_asks_57 : decode cX11_asks 57 = .ok (.iload 4, 2) := by decide +kernel
theorem dX11_asks_59 : decode cX11_asks 59 = .ok (.ireturn, 1) := by decide +kernel
theorem dX11_slipsOf_0 : decode cX11_slipsOf 0 = .ok (.aload_n 0, 1) := by decide +kernel
theorem dX11_slipsOf_1 : decode cX11_slipsOf 1 = .ok (.aload_n 1, 1) := by decide +kernel
theorem dX11_slipsOf_2 : decode cX11_slipsOf 2 = .ok (.iload_n 3, 1) := by decide +kernel
theorem dX11_slipsOf_3 : decode cX11_slipsOf 3 = .ok (.aload_n 0, 1) := by decide +kernel
theorem dX11_slipsOf_4 : decode cX11_slipsOf 4 = .ok (.getfield 37, 3) := by decide +kernel
theorem dX11_slipsOf_7 : decode cX11_slipsOf 7 = .ok (.bipush 6, 2) := by decide +kernel
theorem dX11_slipsOf_9 : decode cX11_slipsOf 9 = .ok (.iload_n 2, 1) := by decide +kernel
theorem dX11_slipsOf_10 : decode cX11_slipsOf 10 = .ok (.imul, 1) := by decide +kernel
theorem dX11_slipsOf_11 : decode cX11_slipsOf 11 = .ok (.iconst 5, 1) := by decide +kernel
theorem dX11_slipsOf_12 : decode cX11_slipsOf 12 = .ok (.iadd, 1) := by decide +kernel
theorem dX11_slipsOf_13 : decode cX11_slipsOf 13 = .ok (.iaload, 1) := by decide +kernel
theorem dX11_slipsOf_14 : decode cX11_slipsOf 14 = .ok (.invokevirtual 276, 3) := by decide +kernel
theorem dX11_slipsOf_17 : decode cX11_slipsOf 17 = .ok (.aload_n 1, 1) := by decide +kernel
theorem dX11_slipsOf_18 : decode cX11_slipsOf 18 = .ok (.iload_n 2, 1) := by decide +kernel
theorem dX11_slipsOf_19 : decode cX11_slipsOf 19 = .ok (.invokestatic 272, 3) := by decide +kernel
theorem dX11_slipsOf_22 : decode cX11_slipsOf 22 = .ok (.iconst (-1), 1) := by decide +kernel
theorem dX11_slipsOf_23 : decode cX11_slipsOf 23 = .ok (.ixor, 1) := by decide +kernel
theorem dX11_slipsOf_24 : decode cX11_slipsOf 24 = .ok (.iand, 1) := by decide +kernel
theorem dX11_slipsOf_25 : decode cX11_slipsOf 25 = .ok (.ireturn, 1) := by decide +kernel
theorem dX11_examinerOf_0 : decode cX11_examinerOf 0 = .ok (.iconst (-1), 1) := by decide +kernel
theorem dX11_examinerOf_1 : decode cX11_examinerOf 1 = .ok (.istore_n 3, 1) := by decide +kernel
theorem dX11_examinerOf_2 : decode cX11_examinerOf 2 = .ok (.iconst 0, 1) := by decide +kernel
theorem dX11_examinerOf_3 : decode cX11_examinerOf 3 = .ok (.istore 4, 2) := by decide +kernel
theorem dX11_examinerOf_5 : decode cX11_examinerOf 5 = .ok (.iload 4, 2) := by decide +kernel
theorem dX11_examinerOf_7 : decode cX11_examinerOf 7 = .ok (.aload_n 0, 1) := by decide +kernel
theorem dX11_examinerOf_8 : decode cX11_examinerOf 8 = .ok (.getfield 263, 3) := by decide +kernel
theorem dX11_examinerOf_11 : decode cX11_examinerOf 11 = .ok (.if_icmp .ge 60, 3) := by decide +kernel
theorem dX11_examinerOf_14 : decode cX11_examinerOf 14 = .ok (.iload_n 2, 1) := by decide +kernel
theorem dX11_examinerOf_15 : decode cX11_examinerOf 15 = .ok (.iload 4, 2) := by decide +kernel
theorem dX11_examinerOf_17 : decode cX11_examinerOf 17 = .ok (.invokestatic 213, 3) := by decide +kernel
theorem dX11_examinerOf_20 : decode cX11_examinerOf 20 = .ok (.ifCond .ne 45, 3) := by decide +kernel
theorem dX11_examinerOf_23 : decode cX11_examinerOf 23 = .ok (.aload_n 0, 1) := by decide +kernel
theorem dX11_examinerOf_24 : decode cX11_examinerOf 24 = .ok (.aload_n 1, 1) := by decide +kernel
theorem dX11_examinerOf_25 : decode cX11_examinerOf 25 = .ok (.iload 4, 2) := by decide +kernel
theorem dX11_examinerOf_27 : decode cX11_examinerOf 27 = .ok (.iconst 1, 1) := by decide +kernel
theorem dX11_examinerOf_28 : decode cX11_examinerOf 28 = .ok (.invokevirtual 276, 3) := by decide +kernel
theorem dX11_examinerOf_31 : decode cX11_examinerOf 31 = .ok (.ifCond .ne 6, 3) := by decide +kernel
theorem dX11_examinerOf_34 : decode cX11_examinerOf 34 = .ok (.goto 31, 3) := by decide +kernel
theorem dX11_examinerOf_37 : decode cX11_examinerOf 37 = .ok (.iload_n 3, 1) := by decide +kernel
theorem dX11_examinerOf_38 : decode cX11_examinerOf 38 = .ok (.iconst (-1), 1) := by decide +kernel
theorem dX11_examinerOf_39 : decode cX11_examinerOf 39 = .ok (.if_icmp .eq 23, 3) := by decide +kernel
theorem dX11_examinerOf_42 : decode cX11_examinerOf 42 = .ok (.aload_n 0, 1) := by decide +kernel
theorem dX11_examinerOf_43 : decode cX11_examinerOf 43 = .ok (.getfield 43, 3) := by decide +kernel
theorem dX11_examinerOf_46 : decode cX11_examinerOf 46 = .ok (.iconst 3, 1) := by decide +kernel
theorem dX11_examinerOf_47 : decode cX11_examinerOf 47 = .ok (.iload 4, 2) := by decide +kernel
theorem dX11_examinerOf_49 : decode cX11_examinerOf 49 = .ok (.imul, 1) := by decide +kernel
theorem dX11_examinerOf_50 : decode cX11_examinerOf 50 = .ok (.iaload, 1) := by decide +kernel
theorem dX11_examinerOf_51 : decode cX11_examinerOf 51 = .ok (.aload_n 0, 1) := by decide +kernel
theorem dX11_examinerOf_52 : decode cX11_examinerOf 52 = .ok (.getfield 43, 3) := by decide +kernel
theorem dX11_examinerOf_55 : decode cX11_examinerOf 55 = .ok (.iconst 3, 1) := by decide +kernel
theorem dX11_examinerOf_56 : decode cX11_examinerOf 56 = .ok (.iload_n 3, 1) := by decide +kernel
theorem dX11_examinerOf_57 : decode cX11_examinerOf 57 = .ok (.imul, 1) := by decide +kernel
theorem dX11_examinerOf_58 : decode cX11_examinerOf 58 = .ok (.iaload, 1) := by decide +kernel
theorem dX11_examinerOf_59 : decode cX11_examinerOf 59 = .ok (.if_icmp .le 6, 3) := by decide +kernel
theorem dX11_examinerOf_62 : decode cX11_examinerOf 62 = .ok (.iload 4, 2) := by decide +kernel
theorem dX11_examinerOf_64 : decode cX11_examinerOf 64 = .ok (.istore_n 3, 1) := by decide +kernel
theorem dX11_examinerOf_65 : decode cX11_examinerOf 65 = .ok (.iinc 4 1, 3) := by decide +kernel
theorem dX11_examinerOf_68 : decode cX11_examinerOf 68 = .ok (.goto (-63), 3) := by decide +kernel
theorem dX11_examinerOf_71 : decode cX11_examinerOf 71 = .ok (.iload_n 3, 1) := by decide +kernel
theorem dX11_examinerOf_72 : decode cX11_examinerOf 72 = .ok (.ireturn, 1) := by decide +kernel
theorem dX11_taxBy_0 : decode cX11_taxBy 0 = .ok (.aload_n 0, 1) := by decide +kernel
theorem dX11_taxBy_1 : decode cX11_taxBy 1 = .ok (.getfield 61, 3) := by decide +kernel
theorem dX11_taxBy_4 : decode cX11_taxBy 4 = .ok (.iconst (-1), 1) := by decide +kernel
theorem dX11_taxBy_5 : decode cX11_taxBy 5 = .ok (.if_icmp .ne 5, 3) := by decide +kernel
theorem dX11_taxBy_8 : decode cX11_taxBy 8 = .ok (.iload_n 1, 1) := by decide +kernel
theorem dX11_taxBy_9 : decode cX11_taxBy 9 = .ok (.ireturn, 1) := by decide +kernel
theorem dX11_taxBy_10 : decode cX11_taxBy 10 = .ok (.aload_n 0, 1) := by decide +kernel
theorem dX11_taxBy_11 : decode cX11_taxBy 11 = .ok (.getfield 20, 3) := by decide +kernel
theorem dX11_taxBy_14 : decode cX11_taxBy 14 = .ok (.bipush 99, 2) := by decide +kernel
theorem dX11_taxBy_16 : decode cX11_taxBy 16 = .ok (.iload_n 1, 1) := by decide +kernel
theorem dX11_taxBy_17 : decode cX11_taxBy 17 = .ok (.iastore, 1) := by decide +kernel
theorem dX11_taxBy_18 : decode cX11_taxBy 18 = .ok (.aload_n 0, 1) := by decide +kernel
theorem dX11_taxBy_19 : decode cX11_taxBy 19 = .ok (.getfield 20, 3) := by decide +kernel
theorem dX11_taxBy_22 : decode cX11_taxBy 22 = .ok (.bipush 97, 2) := by decide +kernel
theorem dX11_taxBy_24 : decode cX11_taxBy 24 = .ok (.iload_n 2, 1) := by decide +kernel
theorem dX11_taxBy_25 : decode cX11_taxBy 25 = .ok (.iastore, 1) := by decide +kernel
theorem dX11_taxBy_26 : decode cX11_taxBy 26 = .ok (.aload_n 0, 1) := by decide +kernel
theorem dX11_taxBy_27 : decode cX11_taxBy 27 = .ok (.getfield 20, 3) := by decide +kernel
theorem dX11_taxBy_30 : decode cX11_taxBy 30 = .ok (.bipush 107, 2) := by decide +kernel
theorem dX11_taxBy_32 : decode cX11_taxBy 32 = .ok (.iload_n 3, 1) := by decide +kernel
theorem dX11_taxBy_33 : decode cX11_taxBy 33 = .ok (.iastore, 1) := by decide +kernel
theorem dX11_taxBy_34 : decode cX11_taxBy 34 = .ok (.aload_n 0, 1) := by decide +kernel
theorem dX11_taxBy_35 : decode cX11_taxBy 35 = .ok (.getfield 20, 3) := by decide +kernel
theorem dX11_taxBy_38 : decode cX11_taxBy 38 = .ok (.bipush 110, 2) := by decide +kernel
theorem dX11_taxBy_40 : decode cX11_taxBy 40 = .ok (.iload 4, 2) := by decide +kernel
theorem dX11_taxBy_42 : decode cX11_taxBy 42 = .ok (.iastore, 1) := by decide +kernel
theorem dX11_taxBy_43 : decode cX11_taxBy 43 = .ok (.aload_n 0, 1) := by decide +kernel
theorem dX11_taxBy_44 : decode cX11_taxBy 44 = .ok (.getfield 20, 3) := by decide +kernel
theorem dX11_taxBy_47 : decode cX11_taxBy 47 = .ok (.bipush 109, 2) := by decide +kernel
theorem dX11_taxBy_49 : decode cX11_taxBy 49 = .ok (.iload 5, 2) := by decide +kernel
theorem dX11_taxBy_51 : decode cX11_taxBy 51 = .ok (.iastore, 1) := by decide +kernel
theorem dX11_taxBy_52 : decode cX11_taxBy 52 = .ok (.aload_n 0, 1) := by decide +kernel
theorem dX11_taxBy_53 : decode cX11_taxBy 53 = .ok (.getfield 20, 3) := by decide +kernel
theorem dX11_taxBy_56 : decode cX11_taxBy 56 = .ok (.bipush 119, 2) := by decide +kernel
theorem dX11_taxBy_58 : decode cX11_taxBy 58 = .ok (.iload 6, 2) := by decide +kernel
theorem dX11_taxBy_60 : decode cX11_taxBy 60 = .ok (.iastore, 1) := by decide +kernel
theorem dX11_taxBy_61 : decode cX11_taxBy 61 = .ok (.aload_n 0, 1) := by decide +kernel
theorem dX11_taxBy_62 : decode cX11_taxBy 62 = .ok (.aload_n 0, 1) := by decide +kernel
theorem dX11_taxBy_63 : decode cX11_taxBy 63 = .ok (.getfield 13, 3) := by decide +kernel
theorem dX11_taxBy_66 : decode cX11_taxBy 66 = .ok (.sipush 240, 3) := by decide +kernel
theorem dX11_taxBy_69 : decode cX11_taxBy 69 = .ok (.aload_n 0, 1) := by decide +kernel
theorem dX11_taxBy_70 : decode cX11_taxBy 70 = .ok (.getfield 61, 3) := by decide +kernel
theorem dX11_taxBy_73 : decode cX11_taxBy 73 = .ok (.imul, 1) := by decide +kernel
theorem dX11_taxBy_74 : decode cX11_taxBy 74 = .ok (.aload_n 0, 1) := by decide +kernel
theorem dX11_taxBy_75 : decode cX11_taxBy 75 = .ok (.getfield 16, 3) := by decide +kernel
theorem dX11_taxBy_78 : decode cX11_taxBy 78 = .ok (.aload_n 0, 1) := by decide +kernel
theorem dX11_taxBy_79 : decode cX11_taxBy 79 = .ok (.getfield 61, 3) := by decide +kernel
theorem dX11_taxBy_82 : decode cX11_taxBy 82 = .ok (.iaload, 1) := by decide +kernel
theorem dX11_taxBy_83 : decode cX11_taxBy 83 = .ok (.invokevirtual 252, 3) := by decide +kernel
theorem dX11_taxBy_86 : decode cX11_taxBy 86 = .ok (.iconst 0, 1) := by decide +kernel
theorem dX11_taxBy_87 : decode cX11_taxBy 87 = .ok (.iload_n 1, 1) := by decide +kernel
theorem dX11_taxBy_88 : decode cX11_taxBy 88 = .ok (.aload_n 0, 1) := by decide +kernel
theorem dX11_taxBy_89 : decode cX11_taxBy 89 = .ok (.getfield 188, 3) := by decide +kernel
theorem dX11_taxBy_92 : decode cX11_taxBy 92 = .ok (.invokestatic 280, 3) := by decide +kernel
theorem dX11_taxBy_95 : decode cX11_taxBy 95 = .ok (.invokestatic 282, 3) := by decide +kernel
theorem dX11_taxBy_98 : decode cX11_taxBy 98 = .ok (.ireturn, 1) := by decide +kernel
theorem dX11_taxOf_0 : decode cX11_taxOf 0 = .ok (.aload_n 0, 1) := by decide +kernel
theorem dX11_taxOf_1 : decode cX11_taxOf 1 = .ok (.aload_n 1, 1) := by decide +kernel
theorem dX11_taxOf_2 : decode cX11_taxOf 2 = .ok (.iload_n 2, 1) := by decide +kernel
theorem dX11_taxOf_3 : decode cX11_taxOf 3 = .ok (.invokestatic 284, 3) := by decide +kernel
theorem dX11_taxOf_6 : decode cX11_taxOf 6 = .ok (.aload_n 1, 1) := by decide +kernel
theorem dX11_taxOf_7 : decode cX11_taxOf 7 = .ok (.bipush 7, 2) := by decide +kernel
theorem dX11_taxOf_9 : decode cX11_taxOf 9 = .ok (.iload_n 2, 1) := by decide +kernel
theorem dX11_taxOf_10 : decode cX11_taxOf 10 = .ok (.imul, 1) := by decide +kernel
theorem dX11_taxOf_11 : decode cX11_taxOf 11 = .ok (.iconst 0, 1) := by decide +kernel
theorem dX11_taxOf_12 : decode cX11_taxOf 12 = .ok (.iadd, 1) := by decide +kernel
theorem dX11_taxOf_13 : decode cX11_taxOf 13 = .ok (.iaload, 1) := by decide +kernel
theorem dX11_taxOf_14 : decode cX11_taxOf 14 = .ok (.aload_n 1, 1) := by decide +kernel
theorem dX11_taxOf_15 : decode cX11_taxOf 15 = .ok (.iload_n 2, 1) := by decide +kernel
theorem dX11_taxOf_16 : decode cX11_taxOf 16 = .ok (.invokestatic 272, 3) := by decide +kernel
theorem dX11_taxOf_19 : decode cX11_taxOf 19 = .ok (.invokestatic 287, 3) := by decide +kernel
theorem dX11_taxOf_22 : decode cX11_taxOf 22 = .ok (.aload_n 0, 1) := by decide +kernel
theorem dX11_taxOf_23 : decode cX11_taxOf 23 = .ok (.getfield 37, 3) := by decide +kernel
theorem dX11_taxOf_26 : decode cX11_taxOf 26 = .ok (.bipush 6, 2) := by decide +kernel
theorem dX11_taxOf_28 : decode cX11_taxOf 28 = .ok (.iload_n 2, 1) := by decide +kernel
theorem dX11_taxOf_29 : decode cX11_taxOf 29 = .ok (.imul, 1) := by decide +kernel
theorem dX11_taxOf_30 : decode cX11_taxOf 30 = .ok (.iconst 3, 1) := by decide +kernel
theorem dX11_taxOf_31 : decode cX11_taxOf 31 = .ok (.iadd, 1) := by decide +kernel
theorem dX11_taxOf_32 : decode cX11_taxOf 32 = .ok (.iaload, 1) := by decide +kernel
theorem dX11_taxOf_33 : decode cX11_taxOf 33 = .ok (.aload_n 1, 1) := by decide +kernel
theorem dX11_taxOf_34 : decode cX11_taxOf 34 = .ok (.bipush 60, 2) := by decide +kernel
theorem dX11_taxOf_36 : decode cX11_taxOf 36 = .ok (.iaload, 1) := by decide +kernel
theorem dX11_taxOf_37 : decode cX11_taxOf 37 = .ok (.aload_n 1, 1) := by decide +kernel
theorem dX11_taxOf_38 : decode cX11_taxOf 38 = .ok (.bipush 7, 2) := by decide +kernel
theorem dX11_taxOf_40 : decode cX11_taxOf 40 = .ok (.iload_n 2, 1) := by decide +kernel
theorem dX11_taxOf_41 : decode cX11_taxOf 41 = .ok (.imul, 1) := by decide +kernel
theorem dX11_taxOf_42 : decode cX11_taxOf 42 = .ok (.iconst 2, 1) := by decide +kernel
theorem dX11_taxOf_43 : decode cX11_taxOf 43 = .ok (.iadd, 1) := by decide +kernel
theorem dX11_taxOf_44 : decode cX11_taxOf 44 = .ok (.iaload, 1) := by decide +kernel
theorem dX11_taxOf_45 : decode cX11_taxOf 45 = .ok (.invokestatic 287, 3) := by decide +kernel
theorem dX11_taxOf_48 : decode cX11_taxOf 48 = .ok (.invokevirtual 292, 3) := by decide +kernel
theorem dX11_taxOf_51 : decode cX11_taxOf 51 = .ok (.ireturn, 1) := by decide +kernel
theorem dX11_child_0 : decode cX11_child 0 = .ok (.aload_n 0, 1) := by decide +kernel
theorem dX11_child_1 : decode cX11_child 1 = .ok (.aload_n 0, 1) := by decide +kernel
theorem dX11_child_2 : decode cX11_child 2 = .ok (.iload_n 1, 1) := by decide +kernel
theorem dX11_child_3 : decode cX11_child 3 = .ok (.invokevirtual 296, 3) := by decide +kernel
theorem dX11_child_6 : decode cX11_child 6 = .ok (.ifCond .eq 19, 3) := by decide +kernel
theorem dX11_child_9 : decode cX11_child 9 = .ok (.iload_n 2, 1) := by decide +kernel
theorem dX11_child_10 : decode cX11_child 10 = .ok (.i2l, 1) := by decide +kernel
theorem dX11_child_11 : decode cX11_child 11 = .ok (.lconst 0, 1) := by decide +kernel
theorem dX11_child_12 : decode cX11_child 12 = .ok (.ldc2_w 299, 3) := by decide +kernel
theorem dX11_child_15 : decode cX11_child 15 = .ok (.invokestatic 201, 3) := by decide +kernel
theorem dX11_child_18 : decode cX11_child 18 = .ok (.ifCond .eq 7, 3) := by decide +kernel
theorem dX11_child_21 : decode cX11_child 21 = .ok (.iconst 0, 1) := by decide +kernel
theorem dX11_child_22 : decode cX11_child 22 = .ok (.goto 4, 3) := by decide +kernel
theorem dX11_child_25 : decode cX11_child 25 = .ok (.iconst 1, 1) := by decide +kernel
theorem dX11_child_26 : decode cX11_child 26 = .ok (.putfield 80, 3) := by decide +kernel
theorem dX11_child_29 : decode cX11_child 29 = .ok (.aload_n 0, 1) := by decide +kernel
theorem dX11_child_30 : decode cX11_child 30 = .ok (.getfield 80, 3) := by decide +kernel
theorem dX11_child_33 : decode cX11_child 33 = .ok (.ifCond .le 5, 3) := by decide +kernel
theorem dX11_child_36 : decode cX11_child 36 = .ok (.iconst 0, 1) := by decide +kernel
theorem dX11_child_37 : decode cX11_child 37 = .ok (.ireturn, 1) := by decide +kernel
theorem dX11_child_38 : decode cX11_child 38 = .ok (.iload_n 2, 1) := by decide +kernel
theorem dX11_child_39 : decode cX11_child 39 = .ok (.tableswitch 128 0 11 #[61, 73, 85, 97, 97, 97, 128, 128, 128, 128, 109, 118], 61) := by decide +kernel
theorem dX11_child_100 : decode cX11_child 100 = .ok (.aload_n 0, 1) := by decide +kernel
theorem dX11_child_101 : decode cX11_child 101 = .ok (.getfield 55, 3) := by decide +kernel
theorem dX11_child_104 : decode cX11_child 104 = .ok (.bipush 7, 2) := by decide +kernel
theorem dX11_child_106 : decode cX11_child 106 = .ok (.iload_n 1, 1) := by decide +kernel
theorem dX11_child_107 : decode cX11_child 107 = .ok (.imul, 1) := by decide +kernel
theorem dX11_child_108 : decode cX11_child 108 = .ok (.iconst 0, 1) := by decide +kernel
theorem dX11_child_109 : decode cX11_child 109 = .ok (.iadd, 1) := by decide +kernel
theorem dX11_child_110 : decode cX11_child 110 = .ok (.iaload, 1) := by decide +kernel
theorem dX11_child_111 : decode cX11_child 111 = .ok (.ireturn, 1) := by decide +kernel
theorem dX11_child_112 : decode cX11_child 112 = .ok (.aload_n 0, 1) := by decide +kernel
theorem dX11_child_113 : decode cX11_child 113 = .ok (.getfield 55, 3) := by decide +kernel
theorem dX11_child_116 : decode cX11_child 116 = .ok (.bipush 7, 2) := by decide +kernel
theorem dX11_child_118 : decode cX11_child 118 = .ok (.iload_n 1, 1) := by decide +kernel
theorem dX11_child_119 : decode cX11_child 119 = .ok (.imul, 1) := by decide +kernel
theorem dX11_child_120 : decode cX11_child 120 = .ok (.iconst 1, 1) := by decide +kernel
theorem dX11_child_121 : decode cX11_child 121 = .ok (.iadd, 1) := by decide +kernel
theorem dX11_child_122 : decode cX11_child 122 = .ok (.iaload, 1) := by decide +kernel
theorem dX11_child_123 : decode cX11_child 123 = .ok (.ireturn, 1) := by decide +kernel
theorem dX11_child_124 : decode cX11_child 124 = .ok (.aload_n 0, 1) := by decide +kernel
theorem dX11_child_125 : decode cX11_child 125 = .ok (.getfield 55, 3) := by decide +kernel
theorem dX11_child_128 : decode cX11_child 128 = .ok (.bipush 7, 2) := by decide +kernel
theorem dX11_child_130 : decode cX11_child 130 = .ok (.iload_n 1, 1) := by decide +kernel
theorem dX11_child_131 : decode cX11_child 131 = .ok (.imul, 1) := by decide +kernel
theorem dX11_child_132 : decode cX11_child 132 = .ok (.iconst 2, 1) := by decide +kernel
theorem dX11_child_133 : decode cX11_child 133 = .ok (.iadd, 1) := by decide +kernel
theorem dX11_child_134 : decode cX11_child 134 = .ok (.iaload, 1) := by decide +kernel
theorem dX11_child_135 : decode cX11_child 135 = .ok (.ireturn, 1) := by decide +kernel
theorem dX11_child_136 : decode cX11_child 136 = .ok (.aload_n 0, 1) := by decide +kernel
theorem dX11_child_137 : decode cX11_child 137 = .ok (.getfield 37, 3) := by decide +kernel
theorem dX11_child_140 : decode cX11_child 140 = .ok (.bipush 6, 2) := by decide +kernel
theorem dX11_child_142 : decode cX11_child 142 = .ok (.iload_n 1, 1) := by decide +kernel
theorem dX11_child_143 : decode cX11_child 143 = .ok (.imul, 1) := by decide +kernel
theorem dX11_child_144 : decode cX11_child 144 = .ok (.iload_n 2, 1) := by decide +kernel
theorem dX11_child_145 : decode cX11_child 145 = .ok (.iadd, 1) := by decide +kernel
theorem dX11_child_146 : decode cX11_child 146 = .ok (.iaload, 1) := by decide +kernel
theorem dX11_child_147 : decode cX11_child 147 = .ok (.ireturn, 1) := by decide +kernel
theorem dX11_child_148 : decode cX11_child 148 = .ok (.aload_n 0, 1) := by decide +kernel
theorem dX11_child_149 : decode cX11_child 149 = .ok (.getfield 55, 3) := by decide +kernel
theorem dX11_child_152 : decode cX11_child 152 = .ok (.iload_n 1, 1) := by decide +kernel
theorem dX11_child_153 : decode cX11_child 153 = .ok (.invokestatic 284, 3) := by decide +kernel
theorem dX11_child_156 : decode cX11_child 156 = .ok (.ireturn, 1) := by decide +kernel
theorem dX11_child_157 : decode cX11_child 157 = .ok (.aload_n 0, 1) := by decide +kernel
theorem dX11_child_158 : decode cX11_child 158 = .ok (.aload_n 0, 1) := by decide +kernel
theorem dX11_child_159 : decode cX11_child 159 = .ok (.getfield 55, 3) := by decide +kernel
theorem dX11_child_162 : decode cX11_child 162 = .ok (.iload_n 1, 1) := by decide +kernel
theorem dX11_child_163 : decode cX11_child 163 = .ok (.invokevirtual 301, 3) := by decide +kernel
theorem dX11_child_166 : decode cX11_child 166 = .ok (.ireturn, 1) := by decide +kernel
theorem dX11_child_167 : decode cX11_child 167 = .ok (.aload_n 0, 1) := by decide +kernel
theorem dX11_child_168 : decode cX11_child 168 = .ok (.getfield 55, 3) := by decide +kernel
theorem dX11_child_171 : decode cX11_child 171 = .ok (.bipush 7, 2) := by decide +kernel
theorem dX11_child_173 : decode cX11_child 173 = .ok (.iload_n 1, 1) := by decide +kernel
theorem dX11_child_174 : decode cX11_child 174 = .ok (.imul, 1) := by decide +kernel
theorem dX11_child_175 : decode cX11_child 175 = .ok (.iload_n 2, 1) := by decide +kernel
theorem dX11_child_176 : decode cX11_child 176 = .ok (.iadd, 1) := by decide +kernel
theorem dX11_child_177 : decode cX11_child 177 = .ok (.iconst 3, 1) := by decide +kernel
theorem dX11_child_178 : decode cX11_child 178 = .ok (.isub, 1) := by decide +kernel
theorem dX11_child_179 : decode cX11_child 179 = .ok (.iaload, 1) := by decide +kernel
theorem dX11_child_180 : decode cX11_child 180 = .ok (.ireturn, 1) := by decide +kernel
theorem dX11_elder_0 : decode cX11_elder 0 = .ok (.aload_n 0, 1) := by decide +kernel
theorem dX11_elder_1 : decode cX11_elder 1 = .ok (.iconst 0, 1) := by decide +kernel
theorem dX11_elder_2 : decode cX11_elder 2 = .ok (.putfield 80, 3) := by decide +kernel
theorem dX11_elder_5 : decode cX11_elder 5 = .ok (.aload_n 0, 1) := by decide +kernel
theorem dX11_elder_6 : decode cX11_elder 6 = .ok (.iload_n 1, 1) := by decide +kernel
theorem dX11_elder_7 : decode cX11_elder 7 = .ok (.invokevirtual 304, 3) := by decide +kernel
theorem dX11_elder_10 : decode cX11_elder 10 = .ok (.ifCond .eq 15, 3) := by decide +kernel
theorem dX11_elder_13 : decode cX11_elder 13 = .ok (.iload_n 2, 1) := by decide +kernel
theorem dX11_elder_14 : decode cX11_elder 14 = .ok (.i2l, 1) := by decide +kernel
theorem dX11_elder_15 : decode cX11_elder 15 = .ok (.lconst 0, 1) := by decide +kernel
theorem dX11_elder_16 : decode cX11_elder 16 = .ok (.ldc2_w 307, 3) := by decide +kernel
theorem dX11_elder_19 : decode cX11_elder 19 = .ok (.invokestatic 201, 3) := by decide +kernel
theorem dX11_elder_22 : decode cX11_elder 22 = .ok (.ifCond .ne 5, 3) := by decide +kernel
theorem dX11_elder_25 : decode cX11_elder 25 = .ok (.iconst (-1), 1) := by decide +kernel
theorem dX11_elder_26 : decode cX11_elder 26 = .ok (.ireturn, 1) := by decide +kernel
theorem dX11_elder_27 : decode cX11_elder 27 = .ok (.iload_n 2, 1) := by decide +kernel
theorem dX11_elder_28 : decode cX11_elder 28 = .ok (.iconst 2, 1) := by decide +kernel
theorem dX11_elder_29 : decode cX11_elder 29 = .ok (.if_icmp .ne 15, 3) := by decide +kernel
theorem dX11_elder_32 : decode cX11_elder 32 = .ok (.aload_n 0, 1) := by decide +kernel
theorem dX11_elder_33 : decode cX11_elder 33 = .ok (.getfield 55, 3) := by decide +kernel
theorem dX11_elder_36 : decode cX11_elder 36 = .ok (.bipush 56, 2) := by decide +kernel
theorem dX11_elder_38 : decode cX11_elder 38 = .ok (.iload_n 1, 1) := by decide +kernel
theorem dX11_elder_39 : decode cX11_elder 39 = .ok (.iadd, 1) := by decide +kernel
theorem dX11_elder_40 : decode cX11_elder 40 = .ok (.iaload, 1) := by decide +kernel
theorem dX11_elder_41 : decode cX11_elder 41 = .ok (.goto 13, 3) := by decide +kernel
theorem dX11_elder_44 : decode cX11_elder 44 = .ok (.aload_n 0, 1) := by decide +kernel
theorem dX11_elder_45 : decode cX11_elder 45 = .ok (.getfield 43, 3) := by decide +kernel
theorem dX11_elder_48 : decode cX11_elder 48 = .ok (.iconst 3, 1) := by decide +kernel
theorem dX11_elder_49 : decode cX11_elder 49 = .ok (.iload_n 1, 1) := by decide +kernel
theorem dX11_elder_50 : decode cX11_elder 50 = .ok (.imul, 1) := by decide +kernel
theorem dX11_elder_51 : decode cX11_elder 51 = .ok (.iload_n 2, 1) := by decide +kernel
theorem dX11_elder_52 : decode cX11_elder 52 = .ok (.iadd, 1) := by decide +kernel
theorem dX11_elder_53 : decode cX11_elder 53 = .ok (.iaload, 1) := by decide +kernel
theorem dX11_elder_54 : decode cX11_elder 54 = .ok (.ireturn, 1) := by decide +kernel
theorem dX11_rule_0 : decode cX11_rule 0 = .ok (.aload_n 0, 1) := by decide +kernel
theorem dX11_rule_1 : decode cX11_rule 1 = .ok (.iconst 0, 1) := by decide +kernel
theorem dX11_rule_2 : decode cX11_rule 2 = .ok (.putfield 80, 3) := by decide +kernel
theorem dX11_rule_5 : decode cX11_rule 5 = .ok (.aload_n 0, 1) := by decide +kernel
theorem dX11_rule_6 : decode cX11_rule 6 = .ok (.getfield 260, 3) := by decide +kernel
theorem dX11_rule_9 : decode cX11_rule 9 = .ok (.ifCond .le 24, 3) := by decide +kernel
theorem dX11_rule_12 : decode cX11_rule 12 = .ok (.iload_n 1, 1) := by decide +kernel
theorem dX11_rule_13 : decode cX11_rule 13 = .ok (.i2l, 1) := by decide +kernel
theorem dX11_rule_14 : decode cX11_rule 14 = .ok (.lconst 0, 1) := by decide +kernel
theorem dX11_rule_15 : decode cX11_rule 15 = .ok (.ldc2_w 307, 3) := by decide +kernel
theorem dX11_rule_18 : decode cX11_rule 18 = .ok (.invokestatic 201, 3) := by decide +kernel
theorem dX11_rule_21 : decode cX11_rule 21 = .ok (.ifCond .eq 12, 3) := by decide +kernel
theorem dX11_rule_24 : decode cX11_rule 24 = .ok (.aload_n 0, 1) := by decide +kernel
theorem dX11_rule_25 : decode cX11_rule 25 = .ok (.getfield 49, 3) := by decide +kernel
theorem dX11_rule_28 : decode cX11_rule 28 = .ok (.iload_n 1, 1) := by decide +kernel
theorem dX11_rule_29 : decode cX11_rule 29 = .ok (.iaload, 1) := by decide +kernel
theorem dX11_rule_30 : decode cX11_rule 30 = .ok (.goto 4, 3) := by decide +kernel
theorem dX11_rule_33 : decode cX11_rule 33 = .ok (.iconst (-1), 1) := by decide +kernel
theorem dX11_rule_34 : decode cX11_rule 34 = .ok (.ireturn, 1) := by decide +kernel
theorem dX11_law_0 : decode cX11_law 0 = .ok (.aload_n 0, 1) := by decide +kernel
theorem dX11_law_1 : decode cX11_law 1 = .ok (.iconst 0, 1) := by decide +kernel
theorem dX11_law_2 : decode cX11_law 2 = .ok (.putfield 80, 3) := by decide +kernel
theorem dX11_law_5 : decode cX11_law 5 = .ok (.iload_n 1, 1) := by decide +kernel
theorem dX11_law_6 : decode cX11_law 6 = .ok (.iconst (-1), 1) := by decide +kernel
theorem dX11_law_7 : decode cX11_law 7 = .ok (.if_icmp .eq 21, 3) := by decide +kernel
theorem dX11_law_10 : decode cX11_law 10 = .ok (.iload_n 1, 1) := by decide +kernel
theorem dX11_law_11 : decode cX11_law 11 = .ok (.i2l, 1) := by decide +kernel
theorem dX11_law_12 : decode cX11_law 12 = .ok (.lconst 0, 1) := by decide +kernel
theorem dX11_law_13 : decode cX11_law 13 = .ok (.aload_n 0, 1) := by decide +kernel
theorem dX11_law_14 : decode cX11_law 14 = .ok (.getfield 255, 3) := by decide +kernel
theorem dX11_law_17 : decode cX11_law 17 = .ok (.iconst 1, 1) := by decide +kernel
theorem dX11_law_18 : decode cX11_law 18 = .ok (.isub, 1) := by decide +kernel
theorem dX11_law_19 : decode cX11_law 19 = .ok (.i2l, 1) := by decide +kernel
theorem dX11_law_20 : decode cX11_law 20 = .ok (.invokestatic 201, 3) := by decide +kernel
theorem dX11_law_23 : decode cX11_law 23 = .ok (.ifCond .ne 5, 3) := by decide +kernel
theorem dX11_law_26 : decode cX11_law 26 = .ok (.iconst 0, 1) := by decide +kernel
theorem dX11_law_27 : decode cX11_law 27 = .ok (.ireturn, 1) := by decide +kernel
theorem dX11_law_28 : decode cX11_law 28 = .ok (.aload_n 0, 1) := by decide +kernel
theorem dX11_law_29 : decode cX11_law 29 = .ok (.iload_n 1, 1) := by decide +kernel
theorem dX11_law_30 : decode cX11_law 30 = .ok (.putfield 61, 3) := by decide +kernel
theorem dX11_law_33 : decode cX11_law 33 = .ok (.iconst 1, 1) := by decide +kernel
theorem dX11_law_34 : decode cX11_law 34 = .ok (.ireturn, 1) := by decide +kernel
theorem dX11_fever_0 : decode cX11_fever 0 = .ok (.aload_n 0, 1) := by decide +kernel
theorem dX11_fever_1 : decode cX11_fever 1 = .ok (.iconst 0, 1) := by decide +kernel
theorem dX11_fever_2 : decode cX11_fever 2 = .ok (.putfield 80, 3) := by decide +kernel
theorem dX11_fever_5 : decode cX11_fever 5 = .ok (.iload_n 1, 1) := by decide +kernel
theorem dX11_fever_6 : decode cX11_fever 6 = .ok (.i2l, 1) := by decide +kernel
theorem dX11_fever_7 : decode cX11_fever 7 = .ok (.lconst 0, 1) := by decide +kernel
theorem dX11_fever_8 : decode cX11_fever 8 = .ok (.ldc2_w 309, 3) := by decide +kernel
theorem dX11_fever_11 : decode cX11_fever 11 = .ok (.invokestatic 201, 3) := by decide +kernel
theorem dX11_fever_14 : decode cX11_fever 14 = .ok (.ifCond .eq 11, 3) := by decide +kernel
theorem dX11_fever_17 : decode cX11_fever 17 = .ok (.iload_n 1, 1) := by decide +kernel
theorem dX11_fever_18 : decode cX11_fever 18 = .ok (.aload_n 0, 1) := by decide +kernel
theorem dX11_fever_19 : decode cX11_fever 19 = .ok (.getfield 311, 3) := by decide +kernel
theorem dX11_fever_22 : decode cX11_fever 22 = .ok (.if_icmp .ne 5, 3) := by decide +kernel
theorem dX11_fever_25 : decode cX11_fever 25 = .ok (.iconst 0, 1) := by decide +kernel
theorem dX11_fever_26 : decode cX11_fever 26 = .ok (.ireturn, 1) := by decide +kernel
theorem dX11_fever_27 : decode cX11_fever 27 = .ok (.aload_n 0, 1) := by decide +kernel
theorem dX11_fever_28 : decode cX11_fever 28 = .ok (.iload_n 1, 1) := by decide +kernel
theorem dX11_fever_29 : decode cX11_fever 29 = .ok (.putfield 311, 3) := by decide +kernel
theorem dX11_fever_32 : decode cX11_fever 32 = .ok (.iconst 1, 1) := by decide +kernel
theorem dX11_fever_33 : decode cX11_fever 33 = .ok (.ireturn, 1) := by decide +kernel
theorem dX11_passes_0 : decode cX11_passes 0 = .ok (.aload_n 0, 1) := by decide +kernel
theorem dX11_passes_1 : decode cX11_passes 1 = .ok (.iconst 0, 1) := by decide +kernel
theorem dX11_passes_2 : decode cX11_passes 2 = .ok (.putfield 80, 3) := by decide +kernel
theorem dX11_passes_5 : decode cX11_passes 5 = .ok (.aload_n 0, 1) := by decide +kernel
theorem dX11_passes_6 : decode cX11_passes 6 = .ok (.iload_n 1, 1) := by decide +kernel
theorem dX11_passes_7 : decode cX11_passes 7 = .ok (.invokevirtual 296, 3) := by decide +kernel
theorem dX11_passes_10 : decode cX11_passes 10 = .ok (.ifCond .eq 11, 3) := by decide +kernel
theorem dX11_passes_13 : decode cX11_passes 13 = .ok (.aload_n 0, 1) := by decide +kernel
theorem dX11_passes_14 : decode cX11_passes 14 = .ok (.iload_n 2, 1) := by decide +kernel
theorem dX11_passes_15 : decode cX11_passes 15 = .ok (.invokevirtual 304, 3) := by decide +kernel
theorem dX11_passes_18 : decode cX11_passes 18 = .ok (.ifCond .ne 5, 3) := by decide +kernel
theorem dX11_passes_21 : decode cX11_passes 21 = .ok (.iconst (-1), 1) := by decide +kernel
theorem dX11_passes_22 : decode cX11_passes 22 = .ok (.ireturn, 1) := by decide +kernel
theorem dX11_passes_23 : decode cX11_passes 23 = .ok (.aload_n 0, 1) := by decide +kernel
theorem dX11_passes_24 : decode cX11_passes 24 = .ok (.aload_n 0, 1) := by decide +kernel
theorem dX11_passes_25 : decode cX11_passes 25 = .ok (.getfield 55, 3) := by decide +kernel
theorem dX11_passes_28 : decode cX11_passes 28 = .ok (.iload_n 1, 1) := by decide +kernel
theorem dX11_passes_29 : decode cX11_passes 29 = .ok (.iload_n 2, 1) := by decide +kernel
theorem dX11_passes_30 : decode cX11_passes 30 = .ok (.invokevirtual 314, 3) := by decide +kernel
theorem dX11_passes_33 : decode cX11_passes 33 = .ok (.ifCond .ne 7, 3) := by decide +kernel
theorem dX11_passes_36 : decode cX11_passes 36 = .ok (.iconst 1, 1) := by decide +kernel
theorem dX11_passes_37 : decode cX11_passes 37 = .ok (.goto 4, 3) := by decide +kernel
theorem dX11_passes_40 : decode cX11_passes 40 = .ok (.iconst 0, 1) := by decide +kernel
theorem dX11_passes_41 : decode cX11_passes 41 = .ok (.ireturn, 1) := by decide +kernel
theorem dX11_slips_0 : decode cX11_slips 0 = .ok (.aload_n 0, 1) := by decide +kernel
theorem dX11_slips_1 : decode cX11_slips 1 = .ok (.iconst 0, 1) := by decide +kernel
theorem dX11_slips_2 : decode cX11_slips 2 = .ok (.putfield 80, 3) := by decide +kernel
theorem dX11_slips_5 : decode cX11_slips 5 = .ok (.aload_n 0, 1) := by decide +kernel
theorem dX11_slips_6 : decode cX11_slips 6 = .ok (.iload_n 1, 1) := by decide +kernel
theorem dX11_slips_7 : decode cX11_slips 7 = .ok (.invokevirtual 296, 3) := by decide +kernel
theorem dX11_slips_10 : decode cX11_slips 10 = .ok (.ifCond .eq 24, 3) := by decide +kernel
theorem dX11_slips_13 : decode cX11_slips 13 = .ok (.aload_n 0, 1) := by decide +kernel
theorem dX11_slips_14 : decode cX11_slips 14 = .ok (.iload_n 2, 1) := by decide +kernel
theorem dX11_slips_15 : decode cX11_slips 15 = .ok (.invokevirtual 304, 3) := by decide +kernel
theorem dX11_slips_18 : decode cX11_slips 18 = .ok (.ifCond .eq 16, 3) := by decide +kernel
theorem dX11_slips_21 : decode cX11_slips 21 = .ok (.aload_n 0, 1) := by decide +kernel
theorem dX11_slips_22 : decode cX11_slips 22 = .ok (.aload_n 0, 1) := by decide +kernel
theorem dX11_slips_23 : decode cX11_slips 23 = .ok (.getfield 55, 3) := by decide +kernel
theorem dX11_slips_26 : decode cX11_slips 26 = .ok (.iload_n 1, 1) := by decide +kernel
theorem dX11_slips_27 : decode cX11_slips 27 = .ok (.iload_n 2, 1) := by decide +kernel
theorem dX11_slips_28 : decode cX11_slips 28 = .ok (.invokevirtual 314, 3) := by decide +kernel
theorem dX11_slips_31 : decode cX11_slips 31 = .ok (.goto 4, 3) := by decide +kernel
theorem dX11_slips_34 : decode cX11_slips 34 = .ok (.iconst (-1), 1) := by decide +kernel
theorem dX11_slips_35 : decode cX11_slips 35 = .ok (.ireturn, 1) := by decide +kernel
theorem dX11_examiner_0 : decode cX11_examiner 0 = .ok (.aload_n 0, 1) := by decide +kernel
theorem dX11_examiner_1 : decode cX11_examiner 1 = .ok (.iconst 0, 1) := by decide +kernel
theorem dX11_examiner_2 : decode cX11_examiner 2 = .ok (.putfield 80, 3) := by decide +kernel
theorem dX11_examiner_5 : decode cX11_examiner 5 = .ok (.aload_n 0, 1) := by decide +kernel
theorem dX11_examiner_6 : decode cX11_examiner 6 = .ok (.getfield 260, 3) := by decide +kernel
theorem dX11_examiner_9 : decode cX11_examiner 9 = .ok (.ifCond .ne 7, 3) := by decide +kernel
theorem dX11_examiner_12 : decode cX11_examiner 12 = .ok (.iconst (-1), 1) := by decide +kernel
theorem dX11_examiner_13 : decode cX11_examiner 13 = .ok (.goto 12, 3) := by decide +kernel
theorem dX11_examiner_16 : decode cX11_examiner 16 = .ok (.aload_n 0, 1) := by decide +kernel
theorem dX11_examiner_17 : decode cX11_examiner 17 = .ok (.aload_n 0, 1) := by decide +kernel
theorem dX11_examiner_18 : decode cX11_examiner 18 = .ok (.getfield 55, 3) := by decide +kernel
theorem dX11_examiner_21 : decode cX11_examiner 21 = .ok (.iconst 0, 1) := by decide +kernel
theorem dX11_examiner_22 : decode cX11_examiner 22 = .ok (.invokevirtual 317, 3) := by decide +kernel
theorem dX11_examiner_25 : decode cX11_examiner 25 = .ok (.ireturn, 1) := by decide +kernel
theorem dX11_draw_0 : decode cX11_draw 0 = .ok (.aload_n 0, 1) := by decide +kernel
theorem dX11_draw_1 : decode cX11_draw 1 = .ok (.aload_n 0, 1) := by decide +kernel
theorem dX11_draw_2 : decode cX11_draw 2 = .ok (.getfield 320, 3) := by decide +kernel
theorem dX11_draw_5 : decode cX11_draw 5 = .ok (.ldc2_w 324, 3) := by decide +kernel
theorem dX11_draw_8 : decode cX11_draw 8 = .ok (.lmul, 1) := by decide +kernel
theorem dX11_draw_9 : decode cX11_draw 9 = .ok (.ldc2_w 326, 3) := by decide +kernel
theorem dX11_draw_12 : decode cX11_draw 12 = .ok (.ladd, 1) := by decide +kernel
theorem dX11_draw_13 : decode cX11_draw 13 = .ok (.putfield 320, 3) := by decide +kernel
theorem dX11_draw_16 : decode cX11_draw 16 = .ok (.aload_n 0, 1) := by decide +kernel
theorem dX11_draw_17 : decode cX11_draw 17 = .ok (.getfield 320, 3) := by decide +kernel
theorem dX11_draw_20 : decode cX11_draw 20 = .ok (.bipush 33, 2) := by decide +kernel
theorem dX11_draw_22 : decode cX11_draw 22 = .ok (.lushr, 1) := by decide +kernel
theorem dX11_draw_23 : decode cX11_draw 23 = .ok (.iload_n 1, 1) := by decide +kernel
theorem dX11_draw_24 : decode cX11_draw 24 = .ok (.i2l, 1) := by decide +kernel
theorem dX11_draw_25 : decode cX11_draw 25 = .ok (.lrem, 1) := by decide +kernel
theorem dX11_draw_26 : decode cX11_draw 26 = .ok (.l2i, 1) := by decide +kernel
theorem dX11_draw_27 : decode cX11_draw 27 = .ok (.ireturn, 1) := by decide +kernel
theorem dX11_learns_0 : decode cX11_learns 0 = .ok (.bipush 7, 2) := by decide +kernel
theorem dX11_learns_2 : decode cX11_learns 2 = .ok (.iload_n 2, 1) := by decide +kernel
theorem dX11_learns_3 : decode cX11_learns 3 = .ok (.imul, 1) := by decide +kernel
theorem dX11_learns_4 : decode cX11_learns 4 = .ok (.istore_n 3, 1) := by decide +kernel
theorem dX11_learns_5 : decode cX11_learns 5 = .ok (.aload_n 1, 1) := by decide +kernel
theorem dX11_learns_6 : decode cX11_learns 6 = .ok (.iload_n 3, 1) := by decide +kernel
theorem dX11_learns_7 : decode cX11_learns 7 = .ok (.iconst 3, 1) := by decide +kernel
theorem dX11_learns_8 : decode cX11_learns 8 = .ok (.iadd, 1) := by decide +kernel
theorem dX11_learns_9 : decode cX11_learns 9 = .ok (.iaload, 1) := by decide +kernel
theorem dX11_learns_10 : decode cX11_learns 10 = .ok (.iconst (-1), 1) := by decide +kernel
theorem dX11_learns_11 : decode cX11_learns 11 = .ok (.if_icmp .ne 4, 3) := by decide +kernel
theorem dX11_learns_14 : decode cX11_learns 14 = .ok (.return_, 1) := by decide +kernel
theorem dX11_learns_15 : decode cX11_learns 15 = .ok (.aload_n 1, 1) := by decide +kernel
theorem dX11_learns_16 : decode cX11_learns 16 = .ok (.iload_n 3, 1) := by decide +kernel
theorem dX11_learns_17 : decode cX11_learns 17 = .ok (.iconst 4, 1) := by decide +kernel
theorem dX11_learns_18 : decode cX11_learns 18 = .ok (.iadd, 1) := by decide +kernel
theorem dX11_learns_19 : decode cX11_learns 19 = .ok (.dup2, 1) := by decide +kernel
theorem dX11_learns_20 : decode cX11_learns 20 = .ok (.iaload, 1) := by decide +kernel
theorem dX11_learns_21 : decode cX11_learns 21 = .ok (.iconst 1, 1) := by decide +kernel
theorem dX11_learns_22 : decode cX11_learns 22 = .ok (.isub, 1) := by decide +kernel
theorem dX11_learns_23 : decode cX11_learns 23 = .ok (.iastore, 1) := by decide +kernel
theorem dX11_learns_24 : decode cX11_learns 24 = .ok (.aload_n 1, 1) := by decide +kernel
theorem dX11_learns_25 : decode cX11_learns 25 = .ok (.iload_n 3, 1) := by decide +kernel
theorem dX11_learns_26 : decode cX11_learns 26 = .ok (.iconst 4, 1) := by decide +kernel
theorem dX11_learns_27 : decode cX11_learns 27 = .ok (.iadd, 1) := by decide +kernel
theorem dX11_learns_28 : decode cX11_learns 28 = .ok (.iaload, 1) := by decide +kernel
theorem dX11_learns_29 : decode cX11_learns 29 = .ok (.ifCond .le 4, 3) := by decide +kernel
theorem dX11_learns_32 : decode cX11_learns 32 = .ok (.return_, 1) := by decide +kernel
theorem dX11_learns_33 : decode cX11_learns 33 = .ok (.aload_n 1, 1) := by decide +kernel
theorem dX11_learns_34 : decode cX11_learns 34 = .ok (.iload_n 3, 1) := by decide +kernel
theorem dX11_learns_35 : decode cX11_learns 35 = .ok (.iconst 1, 1) := by decide +kernel
theorem dX11_learns_36 : decode cX11_learns 36 = .ok (.iadd, 1) := by decide +kernel
theorem dX11_learns_37 : decode cX11_learns 37 = .ok (.dup2, 1) := by decide +kernel
theorem dX11_learns_38 : decode cX11_learns 38 = .ok (.iaload, 1) := by decide +kernel
theorem dX11_learns_39 : decode cX11_learns 39 = .ok (.iconst 1, 1) := by decide +kernel
theorem dX11_learns_40 : decode cX11_learns 40 = .ok (.aload_n 1, 1) := by decide +kernel
theorem dX11_learns_41 : decode cX11_learns 41 = .ok (.iload_n 3, 1) := by decide +kernel
theorem dX11_learns_42 : decode cX11_learns 42 = .ok (.iconst 3, 1) := by decide +kernel
theorem dX11_learns_43 : decode cX11_learns 43 = .ok (.iadd, 1) := by decide +kernel
theorem dX11_learns_44 : decode cX11_learns 44 = .ok (.iaload, 1) := by decide +kernel
theorem dX11_learns_45 : decode cX11_learns 45 = .ok (.ishl, 1) := by decide +kernel
theorem dX11_learns_46 : decode cX11_learns 46 = .ok (.ior, 1) := by decide +kernel
theorem dX11_learns_47 : decode cX11_learns 47 = .ok (.iastore, 1) := by decide +kernel
theorem dX11_learns_48 : decode cX11_learns 48 = .ok (.aload_n 1, 1) := by decide +kernel
theorem dX11_learns_49 : decode cX11_learns 49 = .ok (.iload_n 3, 1) := by decide +kernel
theorem dX11_learns_50 : decode cX11_learns 50 = .ok (.iconst 2, 1) := by decide +kernel
theorem dX11_learns_51 : decode cX11_learns 51 = .ok (.iadd, 1) := by decide +kernel
theorem dX11_learns_52 : decode cX11_learns 52 = .ok (.dup2, 1) := by decide +kernel
theorem dX11_learns_53 : decode cX11_learns 53 = .ok (.iaload, 1) := by decide +kernel
theorem dX11_learns_54 : decode cX11_learns 54 = .ok (.iconst 1, 1) := by decide +kernel
theorem dX11_learns_55 : decode cX11_learns 55 = .ok (.aload_n 1, 1) := by decide +kernel
theorem dX11_learns_56 : decode cX11_learns 56 = .ok (.iload_n 3, 1) := by decide +kernel
theorem dX11_learns_57 : decode cX11_learns 57 = .ok (.iconst 3, 1) := by decide +kernel
theorem dX11_learns_58 : decode cX11_learns 58 = .ok (.iadd, 1) := by decide +kernel
theorem dX11_learns_59 : decode cX11_learns 59 = .ok (.iaload, 1) := by decide +kernel
theorem dX11_learns_60 : decode cX11_learns 60 = .ok (.ishl, 1) := by decide +kernel
theorem dX11_learns_61 : decode cX11_learns 61 = .ok (.iconst (-1), 1) := by decide +kernel
theorem dX11_learns_62 : decode cX11_learns 62 = .ok (.ixor, 1) := by decide +kernel
theorem dX11_learns_63 : decode cX11_learns 63 = .ok (.iand, 1) := by decide +kernel
theorem dX11_learns_64 : decode cX11_learns 64 = .ok (.iastore, 1) := by decide +kernel
theorem dX11_learns_65 : decode cX11_learns 65 = .ok (.aload_n 1, 1) := by decide +kernel
theorem dX11_learns_66 : decode cX11_learns 66 = .ok (.iload_n 3, 1) := by decide +kernel
theorem dX11_learns_67 : decode cX11_learns 67 = .ok (.iconst 3, 1) := by decide +kernel
theorem dX11_learns_68 : decode cX11_learns 68 = .ok (.iadd, 1) := by decide +kernel
theorem dX11_learns_69 : decode cX11_learns 69 = .ok (.iconst (-1), 1) := by decide +kernel
theorem dX11_learns_70 : decode cX11_learns 70 = .ok (.iastore, 1) := by decide +kernel
theorem dX11_learns_71 : decode cX11_learns 71 = .ok (.iload_n 2, 1) := by decide +kernel
theorem dX11_learns_72 : decode cX11_learns 72 = .ok (.aload_n 0, 1) := by decide +kernel
theorem dX11_learns_73 : decode cX11_learns 73 = .ok (.getfield 65, 3) := by decide +kernel
theorem dX11_learns_76 : decode cX11_learns 76 = .ok (.if_icmp .ne 20, 3) := by decide +kernel
theorem dX11_learns_79 : decode cX11_learns 79 = .ok (.aload_n 0, 1) := by decide +kernel
theorem dX11_learns_80 : decode cX11_learns 80 = .ok (.getfield 328, 3) := by decide +kernel
theorem dX11_learns_83 : decode cX11_learns 83 = .ok (.aload_n 0, 1) := by decide +kernel
theorem dX11_learns_84 : decode cX11_learns 84 = .ok (.getfield 331, 3) := by decide +kernel
theorem dX11_learns_87 : decode cX11_learns 87 = .ok (.if_icmp .ge 9, 3) := by decide +kernel
theorem dX11_learns_90 : decode cX11_learns 90 = .ok (.aload_n 0, 1) := by decide +kernel
theorem dX11_learns_91 : decode cX11_learns 91 = .ok (.aload_n 1, 1) := by decide +kernel
theorem dX11_learns_92 : decode cX11_learns 92 = .ok (.iload_n 2, 1) := by decide +kernel
theorem dX11_learns_93 : decode cX11_learns 93 = .ok (.invokevirtual 334, 3) := by decide +kernel
theorem dX11_learns_96 : decode cX11_learns 96 = .ok (.return_, 1) := by decide +kernel
theorem dX11_begins_0 : decode cX11_begins 0 = .ok (.aload_n 1, 1) := by decide +kernel
theorem dX11_begins_1 : decode cX11_begins 1 = .ok (.bipush 7, 2) := by decide +kernel
theorem dX11_begins_3 : decode cX11_begins 3 = .ok (.iload_n 2, 1) := by decide +kernel
theorem dX11_begins_4 : decode cX11_begins 4 = .ok (.imul, 1) := by decide +kernel
theorem dX11_begins_5 : decode cX11_begins 5 = .ok (.iconst 3, 1) := by decide +kernel
theorem dX11_begins_6 : decode cX11_begins 6 = .ok (.iadd, 1) := by decide +kernel
theorem dX11_begins_7 : decode cX11_begins 7 = .ok (.aload_n 0, 1) := by decide +kernel
theorem dX11_begins_8 : decode cX11_begins 8 = .ok (.getfield 68, 3) := by decide +kernel
theorem dX11_begins_11 : decode cX11_begins 11 = .ok (.aload_n 0, 1) := by decide +kernel
theorem dX11_begins_12 : decode cX11_begins 12 = .ok (.getfield 328, 3) := by decide +kernel
theorem dX11_begins_15 : decode cX11_begins 15 = .ok (.iaload, 1) := by decide +kernel
theorem dX11_begins_16 : decode cX11_begins 16 = .ok (.iastore, 1) := by decide +kernel
theorem dX11_begins_17 : decode cX11_begins 17 = .ok (.aload_n 1, 1) := by decide +kernel
theorem dX11_begins_18 : decode cX11_begins 18 = .ok (.bipush 7, 2) := by decide +kernel
theorem dX11_begins_20 : decode cX11_begins 20 = .ok (.iload_n 2, 1) := by decide +kernel
theorem dX11_begins_21 : decode cX11_begins 21 = .ok (.imul, 1) := by decide +kernel
theorem dX11_begins_22 : decode cX11_begins 22 = .ok (.iconst 4, 1) := by decide +kernel
theorem dX11_begins_23 : decode cX11_begins 23 = .ok (.iadd, 1) := by decide +kernel
theorem dX11_begins_24 : decode cX11_begins 24 = .ok (.aload_n 0, 1) := by decide +kernel
theorem dX11_begins_25 : decode cX11_begins 25 = .ok (.getfield 37, 3) := by decide +kernel
theorem dX11_begins_28 : decode cX11_begins 28 = .ok (.bipush 6, 2) := by decide +kernel
theorem dX11_begins_30 : decode cX11_begins 30 = .ok (.iload_n 2, 1) := by decide +kernel
theorem dX11_begins_31 : decode cX11_begins 31 = .ok (.imul, 1) := by decide +kernel
theorem dX11_begins_32 : decode cX11_begins 32 = .ok (.iconst 4, 1) := by decide +kernel
theorem dX11_begins_33 : decode cX11_begins 33 = .ok (.iadd, 1) := by decide +kernel
theorem dX11_begins_34 : decode cX11_begins 34 = .ok (.iaload, 1) := by decide +kernel
theorem dX11_begins_35 : decode cX11_begins 35 = .ok (.iastore, 1) := by decide +kernel
theorem dX11_begins_36 : decode cX11_begins 36 = .ok (.aload_n 0, 1) := by decide +kernel
theorem dX11_begins_37 : decode cX11_begins 37 = .ok (.dup, 1) := by decide +kernel
theorem dX11_begins_38 : decode cX11_begins 38 = .ok (.getfield 328, 3) := by decide +kernel
theorem dX11_begins_41 : decode cX11_begins 41 = .ok (.iconst 1, 1) := by decide +kernel
theorem dX11_begins_42 : decode cX11_begins 42 = .ok (.iadd, 1) := by decide +kernel
theorem dX11_begins_43 : decode cX11_begins 43 = .ok (.putfield 328, 3) := by decide +kernel
theorem dX11_begins_46 : decode cX11_begins 46 = .ok (.return_, 1) := by decide +kernel
theorem dX11_isRival_0 : decode cX11_isRival 0 = .ok (.aload_n 1, 1) := by decide +kernel
theorem dX11_isRival_1 : decode cX11_isRival 1 = .ok (.bipush 61, 2) := by decide +kernel
theorem dX11_isRival_3 : decode cX11_isRival 3 = .ok (.iaload, 1) := by decide +kernel
theorem dX11_isRival_4 : decode cX11_isRival 4 = .ok (.istore 4, 2) := by decide +kernel
theorem dX11_isRival_6 : decode cX11_isRival 6 = .ok (.aload_n 1, 1) := by decide +kernel
theorem dX11_isRival_7 : decode cX11_isRival 7 = .ok (.bipush 7, 2) := by decide +kernel
theorem dX11_isRival_9 : decode cX11_isRival 9 = .ok (.iload_n 2, 1) := by decide +kernel
theorem dX11_isRival_10 : decode cX11_isRival 10 = .ok (.imul, 1) := by decide +kernel
theorem dX11_isRival_11 : decode cX11_isRival 11 = .ok (.iconst 0, 1) := by decide +kernel
theorem dX11_isRival_12 : decode cX11_isRival 12 = .ok (.iadd, 1) := by decide +kernel
theorem dX11_isRival_13 : decode cX11_isRival 13 = .ok (.iaload, 1) := by decide +kernel
theorem dX11_isRival_14 : decode cX11_isRival 14 = .ok (.aload_n 0, 1) := by decide +kernel
theorem dX11_isRival_15 : decode cX11_isRival 15 = .ok (.getfield 49, 3) := by decide +kernel
theorem dX11_isRival_18 : decode cX11_isRival 18 = .ok (.iconst 0, 1) := by decide +kernel
theorem dX11_isRival_19 : decode cX11_isRival 19 = .ok (.iaload, 1) := by decide +kernel
theorem dX11_isRival_20 : decode cX11_isRival 20 = .ok (.if_icmp .ge 43, 3) := by decide +kernel
theorem dX11_isRival_23 : decode cX11_isRival 23 = .ok (.aload_n 0, 1) := by decide +kernel
theorem dX11_isRival_24 : decode cX11_isRival 24 = .ok (.aload_n 1, 1) := by decide +kernel
theorem dX11_isRival_25 : decode cX11_isRival 25 = .ok (.iload_n 2, 1) := by decide +kernel
theorem dX11_isRival_26 : decode cX11_isRival 26 = .ok (.iload_n 3, 1) := by decide +kernel
theorem dX11_isRival_27 : decode cX11_isRival 27 = .ok (.invokevirtual 314, 3) := by decide +kernel
theorem dX11_isRival_30 : decode cX11_isRival 30 = .ok (.ifCond .ne 33, 3) := by decide +kernel
theorem dX11_isRival_33 : decode cX11_isRival 33 = .ok (.iload 4, 2) := by decide +kernel
theorem dX11_isRival_35 : decode cX11_isRival 35 = .ok (.iconst (-1), 1) := by decide +kernel
theorem dX11_isRival_36 : decode cX11_isRival 36 = .ok (.if_icmp .eq 23, 3) := by decide +kernel
theorem dX11_isRival_39 : decode cX11_isRival 39 = .ok (.aload_n 1, 1) := by decide +kernel
theorem dX11_isRival_40 : decode cX11_isRival 40 = .ok (.bipush 7, 2) := by decide +kernel
theorem dX11_isRival_42 : decode cX11_isRival 42 = .ok (.iload_n 2, 1) := by decide +kernel
theorem dX11_isRival_43 : decode cX11_isRival 43 = .ok (.imul, 1) := by decide +kernel
theorem dX11_isRival_44 : decode cX11_isRival 44 = .ok (.iconst 0, 1) := by decide +kernel
theorem dX11_isRival_45 : decode cX11_isRival 45 = .ok (.iadd, 1) := by decide +kernel
theorem dX11_isRival_46 : decode cX11_isRival 46 = .ok (.iaload, 1) := by decide +kernel
theorem dX11_isRival_47 : decode cX11_isRival 47 = .ok (.aload_n 1, 1) := by decide +kernel
theorem dX11_isRival_48 : decode cX11_isRival 48 = .ok (.bipush 7, 2) := by decide +kernel
theorem dX11_isRival_50 : decode cX11_isRival 50 = .ok (.iload 4, 2) := by decide +kernel
theorem dX11_isRival_52 : decode cX11_isRival 52 = .ok (.imul, 1) := by decide +kernel
theorem dX11_isRival_53 : decode cX11_isRival 53 = .ok (.iconst 0, 1) := by decide +kernel
theorem dX11_isRival_54 : decode cX11_isRival 54 = .ok (.iadd, 1) := by decide +kernel
theorem dX11_isRival_55 : decode cX11_isRival 55 = .ok (.iaload, 1) := by decide +kernel
theorem dX11_isRival_56 : decode cX11_isRival 56 = .ok (.if_icmp .ge 7, 3) := by decide +kernel
theorem dX11_isRival_59 : decode cX11_isRival 59 = .ok (.iconst 1, 1) := by decide +kernel
theorem dX11_isRival_60 : decode cX11_isRival 60 = .ok (.goto 4, 3) := by decide +kernel
theorem dX11_isRival_63 : decode cX11_isRival 63 = .ok (.iconst 0, 1) := by decide +kernel
theorem dX11_isRival_64 : decode cX11_isRival 64 = .ok (.ireturn, 1) := by decide +kernel
theorem dX11_goMonth_0 : decode cX11_goMonth 0 = .ok (.aload_n 1, 1) := by decide +kernel
theorem dX11_goMonth_1 : decode cX11_goMonth 1 = .ok (.bipush 60, 2) := by decide +kernel
theorem dX11_goMonth_3 : decode cX11_goMonth 3 = .ok (.dup2, 1) := by decide +kernel
theorem dX11_goMonth_4 : decode cX11_goMonth 4 = .ok (.iaload, 1) := by decide +kernel
theorem dX11_goMonth_5 : decode cX11_goMonth 5 = .ok (.iconst 1, 1) := by decide +kernel
theorem dX11_goMonth_6 : decode cX11_goMonth 6 = .ok (.iadd, 1) := by decide +kernel
theorem dX11_goMonth_7 : decode cX11_goMonth 7 = .ok (.iastore, 1) := by decide +kernel
theorem dX11_goMonth_8 : decode cX11_goMonth 8 = .ok (.iconst 0, 1) := by decide +kernel
theorem dX11_goMonth_9 : decode cX11_goMonth 9 = .ok (.istore_n 3, 1) := by decide +kernel
theorem dX11_goMonth_10 : decode cX11_goMonth 10 = .ok (.iload_n 3, 1) := by decide +kernel
theorem dX11_goMonth_11 : decode cX11_goMonth 11 = .ok (.aload_n 0, 1) := by decide +kernel
theorem dX11_goMonth_12 : decode cX11_goMonth 12 = .ok (.getfield 260, 3) := by decide +kernel
theorem dX11_goMonth_15 : decode cX11_goMonth 15 = .ok (.if_icmp .ge 21, 3) := by decide +kernel
theorem dX11_goMonth_18 : decode cX11_goMonth 18 = .ok (.aload_n 1, 1) := by decide +kernel
theorem dX11_goMonth_19 : decode cX11_goMonth 19 = .ok (.bipush 7, 2) := by decide +kernel
theorem dX11_goMonth_21 : decode cX11_goMonth 21 = .ok (.iload_n 3, 1) := by decide +kernel
theorem dX11_goMonth_22 : decode cX11_goMonth 22 = .ok (.imul, 1) := by decide +kernel
theorem dX11_goMonth_23 : decode cX11_goMonth 23 = .ok (.iconst 0, 1) := by decide +kernel
theorem dX11_goMonth_24 : decode cX11_goMonth 24 = .ok (.iadd, 1) := by decide +kernel
theorem dX11_goMonth_25 : decode cX11_goMonth 25 = .ok (.dup2, 1) := by decide +kernel
theorem dX11_goMonth_26 : decode cX11_goMonth 26 = .ok (.iaload, 1) := by decide +kernel
theorem dX11_goMonth_27 : decode cX11_goMonth 27 = .ok (.iconst 1, 1) := by decide +kernel
theorem dX11_goMonth_28 : decode cX11_goMonth 28 = .ok (.iadd, 1) := by decide +kernel
theorem dX11_goMonth_29 : decode cX11_goMonth 29 = .ok (.iastore, 1) := by decide +kernel
theorem dX11_goMonth_30 : decode cX11_goMonth 30 = .ok (.iinc 3 1, 3) := by decide +kernel
theorem dX11_goMonth_33 : decode cX11_goMonth 33 = .ok (.goto (-23), 3) := by decide +kernel
theorem dX11_goMonth_36 : decode cX11_goMonth 36 = .ok (.iconst 0, 1) := by decide +kernel
theorem dX11_goMonth_37 : decode cX11_goMonth 37 = .ok (.istore_n 3, 1) := by decide +kernel
theorem dX11_goMonth_38 : decode cX11_goMonth 38 = .ok (.iload_n 3, 1) := by decide +kernel
theorem dX11_goMonth_39 : decode cX11_goMonth 39 = .ok (.aload_n 0, 1) := by decide +kernel
theorem dX11_goMonth_40 : decode cX11_goMonth 40 = .ok (.getfield 263, 3) := by decide +kernel
theorem dX11_goMonth_43 : decode cX11_goMonth 43 = .ok (.if_icmp .ge 56, 3) := by decide +kernel
theorem dX11_goMonth_46 : decode cX11_goMonth 46 = .ok (.aload_n 0, 1) := by decide +kernel
theorem dX11_goMonth_47 : decode cX11_goMonth 47 = .ok (.getfield 43, 3) := by decide +kernel
theorem dX11_goMonth_50 : decode cX11_goMonth 50 = .ok (.iconst 3, 1) := by decide +kernel
theorem dX11_goMonth_51 : decode cX11_goMonth 51 = .ok (.iload_n 3, 1) := by decide +kernel
theorem dX11_goMonth_52 : decode cX11_goMonth 52 = .ok (.imul, 1) := by decide +kernel
theorem dX11_goMonth_53 : decode cX11_goMonth 53 = .ok (.iconst 1, 1) := by decide +kernel
theorem dX11_goMonth_54 : decode cX11_goMonth 54 = .ok (.iadd, 1) := by decide +kernel
theorem dX11_goMonth_55 : decode cX11_goMonth 55 = .ok (.iaload, 1) := by decide +kernel
theorem dX11_goMonth_56 : decode cX11_goMonth 56 = .ok (.istore 4, 2) := by decide +kernel
theorem dX11_goMonth_58 : decode cX11_goMonth 58 = .ok (.iload 4, 2) := by decide +kernel
theorem dX11_goMonth_60 : decode cX11_goMonth 60 = .ok (.ifCond .le 33, 3) := by decide +kernel
theorem dX11_goMonth_63 : decode cX11_goMonth 63 = .ok (.aload_n 1, 1) := by decide +kernel
theorem dX11_goMonth_64 : decode cX11_goMonth 64 = .ok (.bipush 60, 2) := by decide +kernel
theorem dX11_goMonth_66 : decode cX11_goMonth 66 = .ok (.iaload, 1) := by decide +kernel
theorem dX11_goMonth_67 : decode cX11_goMonth 67 = .ok (.iload 4, 2) := by decide +kernel
theorem dX11_goMonth_69 : decode cX11_goMonth 69 = .ok (.irem, 1) := by decide +kernel
theorem dX11_goMonth_70 : decode cX11_goMonth 70 = .ok (.ifCond .ne 23, 3) := by decide +kernel
theorem dX11_goMonth_73 : decode cX11_goMonth 73 = .ok (.aload_n 1, 1) := by decide +kernel
theorem dX11_goMonth_74 : decode cX11_goMonth 74 = .ok (.bipush 56, 2) := by decide +kernel
theorem dX11_goMonth_76 : decode cX11_goMonth 76 = .ok (.iload_n 3, 1) := by decide +kernel
theorem dX11_goMonth_77 : decode cX11_goMonth 77 = .ok (.iadd, 1) := by decide +kernel
theorem dX11_goMonth_78 : decode cX11_goMonth 78 = .ok (.dup2, 1) := by decide +kernel
theorem dX11_goMonth_79 : decode cX11_goMonth 79 = .ok (.iaload, 1) := by decide +kernel
theorem dX11_goMonth_80 : decode cX11_goMonth 80 = .ok (.aload_n 1, 1) := by decide +kernel
theorem dX11_goMonth_81 : decode cX11_goMonth 81 = .ok (.bipush 56, 2) := by decide +kernel
theorem dX11_goMonth_83 : decode cX11_goMonth 83 = .ok (.iload_n 3, 1) := by decide +kernel
theorem dX11_goMonth_84 : decode cX11_goMonth 84 = .ok (.iadd, 1) := by decide +kernel
theorem dX11_goMonth_85 : decode cX11_goMonth 85 = .ok (.iaload, 1) := by decide +kernel
theorem dX11_goMonth_86 : decode cX11_goMonth 86 = .ok (.invokestatic 337, 3) := by decide +kernel
theorem dX11_goMonth_89 : decode cX11_goMonth 89 = .ok (.iconst (-1), 1) := by decide +kernel
theorem dX11_goMonth_90 : decode cX11_goMonth 90 = .ok (.ixor, 1) := by decide +kernel
theorem dX11_goMonth_91 : decode cX11_goMonth 91 = .ok (.iand, 1) := by decide +kernel
theorem dX11_goMonth_92 : decode cX11_goMonth 92 = .ok (.iastore, 1) := by decide +kernel
theorem dX11_goMonth_93 : decode cX11_goMonth 93 = .ok (.iinc 3 1, 3) := by decide +kernel
theorem dX11_goMonth_96 : decode cX11_goMonth 96 = .ok (.goto (-58), 3) := by decide +kernel
theorem dX11_goMonth_99 : decode cX11_goMonth 99 = .ok (.iconst 0, 1) := by decide +kernel
theorem dX11_goMonth_100 : decode cX11_goMonth 100 = .ok (.istore_n 3, 1) := by decide +kernel
theorem dX11_goMonth_101 : decode cX11_goMonth 101 = .ok (.iload_n 3, 1) := by decide +kernel
theorem dX11_goMonth_102 : decode cX11_goMonth 102 = .ok (.aload_n 0, 1) := by decide +kernel
theorem dX11_goMonth_103 : decode cX11_goMonth 103 = .ok (.getfield 260, 3) := by decide +kernel
theorem dX11_goMonth_106 : decode cX11_goMonth 106 = .ok (.if_icmp .ge 15, 3) := by decide +kernel
theorem dX11_goMonth_109 : decode cX11_goMonth 109 = .ok (.aload_n 0, 1) := by decide +kernel
theorem dX11_goMonth_110 : decode cX11_goMonth 110 = .ok (.aload_n 1, 1) := by decide +kernel
theorem dX11_goMonth_111 : decode cX11_goMonth 111 = .ok (.iload_n 3, 1) := by decide +kernel
theorem dX11_goMonth_112 : decode cX11_goMonth 112 = .ok (.invokevirtual 340, 3) := by decide +kernel
theorem dX11_goMonth_115 : decode cX11_goMonth 115 = .ok (.iinc 3 1, 3) := by decide +kernel
theorem dX11_goMonth_118 : decode cX11_goMonth 118 = .ok (.goto (-17), 3) := by decide +kernel
theorem dX11_goMonth_121 : decode cX11_goMonth 121 = .ok (.iconst 0, 1) := by decide +kernel
theorem dX11_goMonth_122 : decode cX11_goMonth 122 = .ok (.istore_n 3, 1) := by decide +kernel
theorem dX11_goMonth_123 : decode cX11_goMonth 123 = .ok (.iload_n 3, 1) := by decide +kernel
theorem dX11_goMonth_124 : decode cX11_goMonth 124 = .ok (.aload_n 0, 1) := by decide +kernel
theorem dX11_goMonth_125 : decode cX11_goMonth 125 = .ok (.getfield 260, 3) := by decide +kernel
theorem dX11_goMonth_128 : decode cX11_goMonth 128 = .ok (.if_icmp .ge 40, 3) := by decide +kernel
theorem dX11_goMonth_131 : decode cX11_goMonth 131 = .ok (.iload_n 2, 1) := by decide +kernel
theorem dX11_goMonth_132 : decode cX11_goMonth 132 = .ok (.ifCond .eq 30, 3) := by decide +kernel
theorem dX11_goMonth_135 : decode cX11_goMonth 135 = .ok (.aload_n 0, 1) := by decide +kernel
theorem dX11_goMonth_136 : decode cX11_goMonth 136 = .ok (.bipush 100, 2) := by decide +kernel
theorem dX11_goMonth_138 : decode cX11_goMonth 138 = .ok (.invokevirtual 343, 3) := by decide +kernel
theorem dX11_goMonth_141 : decode cX11_goMonth 141 = .ok (.aload_n 0, 1) := by decide +kernel
theorem dX11_goMonth_142 : decode cX11_goMonth 142 = .ok (.getfield 311, 3) := by decide +kernel
theorem dX11_goMonth_145 : decode cX11_goMonth 145 = .ok (.if_icmp .ge 17, 3) := by decide +kernel
theorem dX11_goMonth_148 : decode cX11_goMonth 148 = .ok (.aload_n 1, 1) := by decide +kernel
theorem dX11_goMonth_149 : decode cX11_goMonth 149 = .ok (.bipush 7, 2) := by decide +kernel
theorem dX11_goMonth_151 : decode cX11_goMonth 151 = .ok (.iload_n 3, 1) := by decide +kernel
theorem dX11_goMonth_152 : decode cX11_goMonth 152 = .ok (.imul, 1) := by decide +kernel
theorem dX11_goMonth_153 : decode cX11_goMonth 153 = .ok (.iconst 1, 1) := by decide +kernel
theorem dX11_goMonth_154 : decode cX11_goMonth 154 = .ok (.iadd, 1) := by decide +kernel
theorem dX11_goMonth_155 : decode cX11_goMonth 155 = .ok (.dup2, 1) := by decide +kernel
theorem dX11_goMonth_156 : decode cX11_goMonth 156 = .ok (.iaload, 1) := by decide +kernel
theorem dX11_goMonth_157 : decode cX11_goMonth 157 = .ok (.sipush (-129), 3) := by decide +kernel
theorem dX11_goMonth_160 : decode cX11_goMonth 160 = .ok (.iand, 1) := by decide +kernel
theorem dX11_goMonth_161 : decode cX11_goMonth 161 = .ok (.iastore, 1) := by decide +kernel
theorem dX11_goMonth_162 : decode cX11_goMonth 162 = .ok (.iinc 3 1, 3) := by decide +kernel
theorem dX11_goMonth_165 : decode cX11_goMonth 165 = .ok (.goto (-42), 3) := by decide +kernel
theorem dX11_goMonth_168 : decode cX11_goMonth 168 = .ok (.aload_n 1, 1) := by decide +kernel
theorem dX11_goMonth_169 : decode cX11_goMonth 169 = .ok (.bipush 61, 2) := by decide +kernel
theorem dX11_goMonth_171 : decode cX11_goMonth 171 = .ok (.iaload, 1) := by decide +kernel
theorem dX11_goMonth_172 : decode cX11_goMonth 172 = .ok (.iconst (-1), 1) := by decide +kernel
theorem dX11_goMonth_173 : decode cX11_goMonth 173 = .ok (.if_icmp .eq 28, 3) := by decide +kernel
theorem dX11_goMonth_176 : decode cX11_goMonth 176 = .ok (.aload_n 1, 1) := by decide +kernel
theorem dX11_goMonth_177 : decode cX11_goMonth 177 = .ok (.bipush 7, 2) := by decide +kernel
theorem dX11_goMonth_179 : decode cX11_goMonth 179 = .ok (.aload_n 1, 1) := by decide +kernel
theorem dX11_goMonth_180 : decode cX11_goMonth 180 = .ok (.bipush 61, 2) := by decide +kernel
theorem dX11_goMonth_182 : decode cX11_goMonth 182 = .ok (.iaload, 1) := by decide +kernel
theorem dX11_goMonth_183 : decode cX11_goMonth 183 = .ok (.imul, 1) := by decide +kernel
theorem dX11_goMonth_184 : decode cX11_goMonth 184 = .ok (.iconst 0, 1) := by decide +kernel
theorem dX11_goMonth_185 : decode cX11_goMonth 185 = .ok (.iadd, 1) := by decide +kernel
theorem dX11_goMonth_186 : decode cX11_goMonth 186 = .ok (.iaload, 1) := by decide +kernel
theorem dX11_goMonth_187 : decode cX11_goMonth 187 = .ok (.aload_n 0, 1) := by decide +kernel
theorem dX11_goMonth_188 : decode cX11_goMonth 188 = .ok (.getfield 49, 3) := by decide +kernel
theorem dX11_goMonth_191 : decode cX11_goMonth 191 = .ok (.iconst 0, 1) := by decide +kernel
theorem dX11_goMonth_192 : decode cX11_goMonth 192 = .ok (.iaload, 1) := by decide +kernel
theorem dX11_goMonth_193 : decode cX11_goMonth 193 = .ok (.if_icmp .lt 8, 3) := by decide +kernel
theorem dX11_goMonth_196 : decode cX11_goMonth 196 = .ok (.aload_n 1, 1) := by decide +kernel
theorem dX11_goMonth_197 : decode cX11_goMonth 197 = .ok (.bipush 61, 2) := by decide +kernel
theorem dX11_goMonth_199 : decode cX11_goMonth 199 = .ok (.iconst (-1), 1) := by decide +kernel
theorem dX11_goMonth_200 : decode cX11_goMonth 200 = .ok (.iastore, 1) := by decide +kernel
theorem dX11_goMonth_201 : decode cX11_goMonth 201 = .ok (.aload_n 0, 1) := by decide +kernel
theorem dX11_goMonth_202 : decode cX11_goMonth 202 = .ok (.aload_n 1, 1) := by decide +kernel
theorem dX11_goMonth_203 : decode cX11_goMonth 203 = .ok (.iconst 0, 1) := by decide +kernel
theorem dX11_goMonth_204 : decode cX11_goMonth 204 = .ok (.invokevirtual 317, 3) := by decide +kernel
theorem dX11_goMonth_207 : decode cX11_goMonth 207 = .ok (.istore_n 3, 1) := by decide +kernel
theorem dX11_goMonth_208 : decode cX11_goMonth 208 = .ok (.iconst (-1), 1) := by decide +kernel
theorem dX11_goMonth_209 : decode cX11_goMonth 209 = .ok (.istore 4, 2) := by decide +kernel
theorem dX11_goMonth_211 : decode cX11_goMonth 211 = .ok (.iconst 0, 1) := by decide +kernel
theorem dX11_goMonth_212 : decode cX11_goMonth 212 = .ok (.istore 5, 2) := by decide +kernel
theorem dX11_goMonth_214 : decode cX11_goMonth 214 = .ok (.iload 5, 2) := by decide +kernel
theorem dX11_goMonth_216 : decode cX11_goMonth 216 = .ok (.aload_n 0, 1) := by decide +kernel
theorem dX11_goMonth_217 : decode cX11_goMonth 217 = .ok (.getfield 260, 3) := by decide +kernel
theorem dX11_goMonth_220 : decode cX11_goMonth 220 = .ok (.if_icmp .ge 56, 3) := by decide +kernel
theorem dX11_goMonth_223 : decode cX11_goMonth 223 = .ok (.iload_n 3, 1) := by decide +kernel
theorem dX11_goMonth_224 : decode cX11_goMonth 224 = .ok (.iconst (-1), 1) := by decide +kernel
theorem dX11_goMonth_225 : decode cX11_goMonth 225 = .ok (.if_icmp .eq 51, 3) := by decide +kernel
theorem dX11_goMonth_228 : decode cX11_goMonth 228 = .ok (.aload_n 0, 1) := by decide +kernel
theorem dX11_goMonth_229 : decode cX11_goMonth 229 = .ok (.aload_n 1, 1) := by decide +kernel
theorem dX11_goMonth_230 : decode cX11_goMonth 230 = .ok (.iload 5, 2) := by decide +kernel
theorem dX11_goMonth_232 : decode cX11_goMonth 232 = .ok (.iload_n 3, 1) := by decide +kernel
theorem dX11_goMonth_233 : decode cX11_goMonth 233 = .ok (.invokevirtual 346, 3) := by decide +kernel
theorem dX11_goMonth_236 : decode cX11_goMonth 236 = .ok (.ifCond .eq 34, 3) := by decide +kernel
theorem dX11_goMonth_239 : decode cX11_goMonth 239 = .ok (.iload 4, 2) := by decide +kernel
theorem dX11_goMonth_241 : decode cX11_goMonth 241 = .ok (.iconst (-1), 1) := by decide +kernel
theorem dX11_goMonth_242 : decode cX11_goMonth 242 = .ok (.if_icmp .eq 24, 3) := by decide +kernel
theorem dX11_goMonth_245 : decode cX11_goMonth 245 = .ok (.aload_n 1, 1) := by decide +kernel
theorem dX11_goMonth_246 : decode cX11_goMonth 246 = .ok (.bipush 7, 2) := by decide +kernel
theorem dX11_goMonth_248 : decode cX11_goMonth 248 = .ok (.iload 5, 2) := by decide +kernel
theorem dX11_goMonth_250 : decode cX11_goMonth 250 = .ok (.imul, 1) := by decide +kernel
theorem dX11_goMonth_251 : decode cX11_goMonth 251 = .ok (.iconst 0, 1) := by decide +kernel
theorem dX11_goMonth_252 : decode cX11_goMonth 252 = .ok (.iadd, 1) := by decide +kernel
theorem dX11_goMonth_253 : decode cX11_goMonth 253 = .ok (.iaload, 1) := by decide +kernel
theorem dX11_goMonth_254 : decode cX11_goMonth 254 = .ok (.aload_n 1, 1) := by decide +kernel
theorem dX11_goMonth_255 : decode cX11_goMonth 255 = .ok (.bipush 7, 2) := by decide +kernel
theorem dX11_goMonth_257 : decode cX11_goMonth 257 = .ok (.iload 4, 2) := by decide +kernel
theorem dX11_goMonth_259 : decode cX11_goMonth 259 = .ok (.imul, 1) := by decide +kernel
theorem dX11_goMonth_260 : decode cX11_goMonth 260 = .ok (.iconst 0, 1) := by decide +kernel
theorem dX11_goMonth_261 : decode cX11_goMonth 261 = .ok (.iadd, 1) := by decide +kernel
theorem dX11_goMonth_262 : decode cX11_goMonth 262 = .ok (.iaload, 1) := by decide +kernel
theorem dX11_goMonth_263 : decode cX11_goMonth 263 = .ok (.if_icmp .ge 7, 3) := by decide +kernel
theorem dX11_goMonth_266 : decode cX11_goMonth 266 = .ok (.iload 5, 2) := by decide +kernel
theorem dX11_goMonth_268 : decode cX11_goMonth 268 = .ok (.istore 4, 2) := by decide +kernel
theorem dX11_goMonth_270 : decode cX11_goMonth 270 = .ok (.iinc 5 1, 3) := by decide +kernel
theorem dX11_goMonth_273 : decode cX11_goMonth 273 = .ok (.goto (-59), 3) := by decide +kernel
theorem dX11_goMonth_276 : decode cX11_goMonth 276 = .ok (.iload 4, 2) := by decide +kernel
theorem dX11_goMonth_278 : decode cX11_goMonth 278 = .ok (.iconst (-1), 1) := by decide +kernel
theorem dX11_goMonth_279 : decode cX11_goMonth 279 = .ok (.if_icmp .eq 9, 3) := by decide +kernel
theorem dX11_goMonth_282 : decode cX11_goMonth 282 = .ok (.aload_n 1, 1) := by decide +kernel
theorem dX11_goMonth_283 : decode cX11_goMonth 283 = .ok (.bipush 61, 2) := by decide +kernel
theorem dX11_goMonth_285 : decode cX11_goMonth 285 = .ok (.iload 4, 2) := by decide +kernel
theorem dX11_goMonth_287 : decode cX11_goMonth 287 = .ok (.iastore, 1) := by decide +kernel
theorem dX11_goMonth_288 : decode cX11_goMonth 288 = .ok (.iconst 0, 1) := by decide +kernel
theorem dX11_goMonth_289 : decode cX11_goMonth 289 = .ok (.istore 5, 2) := by decide +kernel
theorem dX11_goMonth_291 : decode cX11_goMonth 291 = .ok (.aload_n 1, 1) := by decide +kernel
theorem dX11_goMonth_292 : decode cX11_goMonth 292 = .ok (.bipush 61, 2) := by decide +kernel
theorem dX11_goMonth_294 : decode cX11_goMonth 294 = .ok (.iaload, 1) := by decide +kernel
theorem dX11_goMonth_295 : decode cX11_goMonth 295 = .ok (.iconst (-1), 1) := by decide +kernel
theorem dX11_goMonth_296 : decode cX11_goMonth 296 = .ok (.if_icmp .eq 39, 3) := by decide +kernel
theorem dX11_goMonth_299 : decode cX11_goMonth 299 = .ok (.aload_n 1, 1) := by decide +kernel
theorem dX11_goMonth_300 : decode cX11_goMonth 300 = .ok (.bipush 7, 2) := by decide +kernel
theorem dX11_goMonth_302 : decode cX11_goMonth 302 = .ok (.aload_n 1, 1) := by decide +kernel
theorem dX11_goMonth_303 : decode cX11_goMonth 303 = .ok (.bipush 61, 2) := by decide +kernel
theorem dX11_goMonth_305 : decode cX11_goMonth 305 = .ok (.iaload, 1) := by decide +kernel
theorem dX11_goMonth_306 : decode cX11_goMonth 306 = .ok (.imul, 1) := by decide +kernel
theorem dX11_goMonth_307 : decode cX11_goMonth 307 = .ok (.bipush 6, 2) := by decide +kernel
theorem dX11_goMonth_309 : decode cX11_goMonth 309 = .ok (.iadd, 1) := by decide +kernel
theorem dX11_goMonth_310 : decode cX11_goMonth 310 = .ok (.dup2, 1) := by decide +kernel
theorem dX11_goMonth_311 : decode cX11_goMonth 311 = .ok (.iaload, 1) := by decide +kernel
theorem dX11_goMonth_312 : decode cX11_goMonth 312 = .ok (.iconst 1, 1) := by decide +kernel
theorem dX11_goMonth_313 : decode cX11_goMonth 313 = .ok (.iadd, 1) := by decide +kernel
theorem dX11_goMonth_314 : decode cX11_goMonth 314 = .ok (.iastore, 1) := by decide +kernel
theorem dX11_goMonth_315 : decode cX11_goMonth 315 = .ok (.aload_n 0, 1) := by decide +kernel
theorem dX11_goMonth_316 : decode cX11_goMonth 316 = .ok (.aload_n 1, 1) := by decide +kernel
theorem dX11_goMonth_317 : decode cX11_goMonth 317 = .ok (.aload_n 1, 1) := by decide +kernel
theorem dX11_goMonth_318 : decode cX11_goMonth 318 = .ok (.bipush 61, 2) := by decide +kernel
theorem dX11_goMonth_320 : decode cX11_goMonth 320 = .ok (.iaload, 1) := by decide +kernel
theorem dX11_goMonth_321 : decode cX11_goMonth 321 = .ok (.invokevirtual 301, 3) := by decide +kernel
theorem dX11_goMonth_324 : decode cX11_goMonth 324 = .ok (.istore 5, 2) := by decide +kernel
theorem dX11_goMonth_326 : decode cX11_goMonth 326 = .ok (.aload_n 1, 1) := by decide +kernel
theorem dX11_goMonth_327 : decode cX11_goMonth 327 = .ok (.bipush 62, 2) := by decide +kernel
theorem dX11_goMonth_329 : decode cX11_goMonth 329 = .ok (.dup2, 1) := by decide +kernel
theorem dX11_goMonth_330 : decode cX11_goMonth 330 = .ok (.iaload, 1) := by decide +kernel
theorem dX11_goMonth_331 : decode cX11_goMonth 331 = .ok (.iload 5, 2) := by decide +kernel
theorem dX11_goMonth_333 : decode cX11_goMonth 333 = .ok (.iadd, 1) := by decide +kernel
theorem dX11_goMonth_334 : decode cX11_goMonth 334 = .ok (.iastore, 1) := by decide +kernel
theorem dX11_goMonth_335 : decode cX11_goMonth 335 = .ok (.aload_n 0, 1) := by decide +kernel
theorem dX11_goMonth_336 : decode cX11_goMonth 336 = .ok (.aload_n 1, 1) := by decide +kernel
theorem dX11_goMonth_337 : decode cX11_goMonth 337 = .ok (.iload_n 3, 1) := by decide +kernel
theorem dX11_goMonth_338 : decode cX11_goMonth 338 = .ok (.iload 5, 2) := by decide +kernel
theorem dX11_goMonth_340 : decode cX11_goMonth 340 = .ok (.invokevirtual 350, 3) := by decide +kernel
theorem dX11_goMonth_343 : decode cX11_goMonth 343 = .ok (.return_, 1) := by decide +kernel
theorem dX11_writes_0 : decode cX11_writes 0 = .ok (.aload_n 1, 1) := by decide +kernel
theorem dX11_writes_1 : decode cX11_writes 1 = .ok (.bipush 63, 2) := by decide +kernel
theorem dX11_writes_3 : decode cX11_writes 3 = .ok (.iaload, 1) := by decide +kernel
theorem dX11_writes_4 : decode cX11_writes 4 = .ok (.bipush 60, 2) := by decide +kernel
theorem dX11_writes_6 : decode cX11_writes 6 = .ok (.if_icmp .ne 44, 3) := by decide +kernel
theorem dX11_writes_9 : decode cX11_writes 9 = .ok (.iconst 1, 1) := by decide +kernel
theorem dX11_writes_10 : decode cX11_writes 10 = .ok (.istore 4, 2) := by decide +kernel
theorem dX11_writes_12 : decode cX11_writes 12 = .ok (.iload 4, 2) := by decide +kernel
theorem dX11_writes_14 : decode cX11_writes 14 = .ok (.sipush 177, 3) := by decide +kernel
theorem dX11_writes_17 : decode cX11_writes 17 = .ok (.if_icmp .gt 25, 3) := by decide +kernel
theorem dX11_writes_20 : decode cX11_writes 20 = .ok (.aload_n 1, 1) := by decide +kernel
theorem dX11_writes_21 : decode cX11_writes 21 = .ok (.bipush 63, 2) := by decide +kernel
theorem dX11_writes_23 : decode cX11_writes 23 = .ok (.iload 4, 2) := by decide +kernel
theorem dX11_writes_25 : decode cX11_writes 25 = .ok (.iadd, 1) := by decide +kernel
theorem dX11_writes_26 : decode cX11_writes 26 = .ok (.aload_n 1, 1) := by decide +kernel
theorem dX11_writes_27 : decode cX11_writes 27 = .ok (.bipush 63, 2) := by decide +kernel
theorem dX11_writes_29 : decode cX11_writes 29 = .ok (.iload 4, 2) := by decide +kernel
theorem dX11_writes_31 : decode cX11_writes 31 = .ok (.iadd, 1) := by decide +kernel
theorem dX11_writes_32 : decode cX11_writes 32 = .ok (.iconst 3, 1) := by decide +kernel
theorem dX11_writes_33 : decode cX11_writes 33 = .ok (.iadd, 1) := by decide +kernel
theorem dX11_writes_34 : decode cX11_writes 34 = .ok (.iaload, 1) := by decide +kernel
theorem dX11_writes_35 : decode cX11_writes 35 = .ok (.iastore, 1) := by decide +kernel
theorem dX11_writes_36 : decode cX11_writes 36 = .ok (.iinc 4 1, 3) := by decide +kernel
theorem dX11_writes_39 : decode cX11_writes 39 = .ok (.goto (-27), 3) := by decide +kernel
theorem dX11_writes_42 : decode cX11_writes 42 = .ok (.aload_n 1, 1) := by decide +kernel
theorem dX11_writes_43 : decode cX11_writes 43 = .ok (.bipush 63, 2) := by decide +kernel
theorem dX11_writes_45 : decode cX11_writes 45 = .ok (.dup2, 1) := by decide +kernel
theorem dX11_writes_46 : decode cX11_writes 46 = .ok (.iaload, 1) := by decide +kernel
theorem dX11_writes_47 : decode cX11_writes 47 = .ok (.iconst 1, 1) := by decide +kernel
theorem dX11_writes_48 : decode cX11_writes 48 = .ok (.isub, 1) := by decide +kernel
theorem dX11_writes_49 : decode cX11_writes 49 = .ok (.iastore, 1) := by decide +kernel
theorem dX11_writes_50 : decode cX11_writes 50 = .ok (.bipush 64, 2) := by decide +kernel
theorem dX11_writes_52 : decode cX11_writes 52 = .ok (.iconst 3, 1) := by decide +kernel
theorem dX11_writes_53 : decode cX11_writes 53 = .ok (.aload_n 1, 1) := by decide +kernel
theorem dX11_writes_54 : decode cX11_writes 54 = .ok (.bipush 63, 2) := by decide +kernel
theorem dX11_writes_56 : decode cX11_writes 56 = .ok (.iaload, 1) := by decide +kernel
theorem dX11_writes_57 : decode cX11_writes 57 = .ok (.imul, 1) := by decide +kernel
theorem dX11_writes_58 : decode cX11_writes 58 = .ok (.iadd, 1) := by decide +kernel
theorem dX11_writes_59 : decode cX11_writes 59 = .ok (.istore 4, 2) := by decide +kernel
theorem dX11_writes_61 : decode cX11_writes 61 = .ok (.aload_n 1, 1) := by decide +kernel
theorem dX11_writes_62 : decode cX11_writes 62 = .ok (.iload 4, 2) := by decide +kernel
theorem dX11_writes_64 : decode cX11_writes 64 = .ok (.aload_n 1, 1) := by decide +kernel
theorem dX11_writes_65 : decode cX11_writes 65 = .ok (.bipush 61, 2) := by decide +kernel
theorem dX11_writes_67 : decode cX11_writes 67 = .ok (.iaload, 1) := by decide +kernel
theorem dX11_writes_68 : decode cX11_writes 68 = .ok (.iastore, 1) := by decide +kernel
theorem dX11_writes_69 : decode cX11_writes 69 = .ok (.aload_n 1, 1) := by decide +kernel
theorem dX11_writes_70 : decode cX11_writes 70 = .ok (.iload 4, 2) := by decide +kernel
theorem dX11_writes_72 : decode cX11_writes 72 = .ok (.iconst 1, 1) := by decide +kernel
theorem dX11_writes_73 : decode cX11_writes 73 = .ok (.iadd, 1) := by decide +kernel
theorem dX11_writes_74 : decode cX11_writes 74 = .ok (.iload_n 2, 1) := by decide +kernel
theorem dX11_writes_75 : decode cX11_writes 75 = .ok (.iastore, 1) := by decide +kernel
theorem dX11_writes_76 : decode cX11_writes 76 = .ok (.aload_n 1, 1) := by decide +kernel
theorem dX11_writes_77 : decode cX11_writes 77 = .ok (.iload 4, 2) := by decide +kernel
theorem dX11_writes_79 : decode cX11_writes 79 = .ok (.iconst 2, 1) := by decide +kernel
theorem dX11_writes_80 : decode cX11_writes 80 = .ok (.iadd, 1) := by decide +kernel
theorem dX11_writes_81 : decode cX11_writes 81 = .ok (.iload_n 3, 1) := by decide +kernel
theorem dX11_writes_82 : decode cX11_writes 82 = .ok (.iastore, 1) := by decide +kernel
theorem dX11_writes_83 : decode cX11_writes 83 = .ok (.aload_n 1, 1) := by decide +kernel
theorem dX11_writes_84 : decode cX11_writes 84 = .ok (.bipush 63, 2) := by decide +kernel
theorem dX11_writes_86 : decode cX11_writes 86 = .ok (.dup2, 1) := by decide +kernel
theorem dX11_writes_87 : decode cX11_writes 87 = .ok (.iaload, 1) := by decide +kernel
theorem dX11_writes_88 : decode cX11_writes 88 = .ok (.iconst 1, 1) := by decide +kernel
theorem dX11_writes_89 : decode cX11_writes 89 = .ok (.iadd, 1) := by decide +kernel
theorem dX11_writes_90 : decode cX11_writes 90 = .ok (.iastore, 1) := by decide +kernel
theorem dX11_writes_91 : decode cX11_writes 91 = .ok (.return_, 1) := by decide +kernel
theorem dX11_remember_0 : decode cX11_remember 0 = .ok (.aload_n 0, 1) := by decide +kernel
theorem dX11_remember_1 : decode cX11_remember 1 = .ok (.getfield 266, 3) := by decide +kernel
theorem dX11_remember_4 : decode cX11_remember 4 = .ok (.bipush 40, 2) := by decide +kernel
theorem dX11_remember_6 : decode cX11_remember 6 = .ok (.if_icmp .ne 44, 3) := by decide +kernel
theorem dX11_remember_9 : decode cX11_remember 9 = .ok (.iconst 0, 1) := by decide +kernel
theorem dX11_remember_10 : decode cX11_remember 10 = .ok (.istore_n 1, 1) := by decide +kernel
theorem dX11_remember_11 : decode cX11_remember 11 = .ok (.iload_n 1, 1) := by decide +kernel
theorem dX11_remember_12 : decode cX11_remember 12 = .ok (.sipush 9516, 3) := by decide +kernel
theorem dX11_remember_15 : decode cX11_remember 15 = .ok (.if_icmp .ge 25, 3) := by decide +kernel
theorem dX11_remember_18 : decode cX11_remember 18 = .ok (.aload_n 0, 1) := by decide +kernel
theorem dX11_remember_19 : decode cX11_remember 19 = .ok (.getfield 71, 3) := by decide +kernel
theorem dX11_remember_22 : decode cX11_remember 22 = .ok (.iload_n 1, 1) := by decide +kernel
theorem dX11_remember_23 : decode cX11_remember 23 = .ok (.aload_n 0, 1) := by decide +kernel
theorem dX11_remember_24 : decode cX11_remember 24 = .ok (.getfield 71, 3) := by decide +kernel
theorem dX11_remember_27 : decode cX11_remember 27 = .ok (.iload_n 1, 1) := by decide +kernel
theorem dX11_remember_28 : decode cX11_remember 28 = .ok (.sipush 244, 3) := by decide +kernel
theorem dX11_remember_31 : decode cX11_remember 31 = .ok (.iadd, 1) := by decide +kernel
theorem dX11_remember_32 : decode cX11_remember 32 = .ok (.iaload, 1) := by decide +kernel
theorem dX11_remember_33 : decode cX11_remember 33 = .ok (.iastore, 1) := by decide +kernel
theorem dX11_remember_34 : decode cX11_remember 34 = .ok (.iinc 1 1, 3) := by decide +kernel
theorem dX11_remember_37 : decode cX11_remember 37 = .ok (.goto (-26), 3) := by decide +kernel
theorem dX11_remember_40 : decode cX11_remember 40 = .ok (.aload_n 0, 1) := by decide +kernel
theorem dX11_remember_41 : decode cX11_remember 41 = .ok (.dup, 1) := by decide +kernel
theorem dX11_remember_42 : decode cX11_remember 42 = .ok (.getfield 266, 3) := by decide +kernel
theorem dX11_remember_45 : decode cX11_remember 45 = .ok (.iconst 1, 1) := by decide +kernel
theorem dX11_remember_46 : decode cX11_remember 46 = .ok (.isub, 1) := by decide +kernel
theorem dX11_remember_47 : decode cX11_remember 47 = .ok (.putfield 266, 3) := by decide +kernel
theorem dX11_remember_50 : decode cX11_remember 50 = .ok (.iconst 0, 1) := by decide +kernel
theorem dX11_remember_51 : decode cX11_remember 51 = .ok (.istore_n 1, 1) := by decide +kernel
theorem dX11_remember_52 : decode cX11_remember 52 = .ok (.iload_n 1, 1) := by decide +kernel
theorem dX11_remember_53 : decode cX11_remember 53 = .ok (.sipush 244, 3) := by decide +kernel
theorem dX11_remember_56 : decode cX11_remember 56 = .ok (.if_icmp .ge 30, 3) := by decide +kernel
theorem dX11_remember_59 : decode cX11_remember 59 = .ok (.aload_n 0, 1) := by decide +kernel
theorem dX11_remember_60 : decode cX11_remember 60 = .ok (.getfield 71, 3) := by decide +kernel
theorem dX11_remember_63 : decode cX11_remember 63 = .ok (.sipush 244, 3) := by decide +kernel
theorem dX11_remember_66 : decode cX11_remember 66 = .ok (.aload_n 0, 1) := by decide +kernel
theorem dX11_remember_67 : decode cX11_remember 67 = .ok (.getfield 266, 3) := by decide +kernel
theorem dX11_remember_70 : decode cX11_remember 70 = .ok (.imul, 1) := by decide +kernel
theorem dX11_remember_71 : decode cX11_remember 71 = .ok (.iload_n 1, 1) := by decide +kernel
theorem dX11_remember_72 : decode cX11_remember 72 = .ok (.iadd, 1) := by decide +kernel
theorem dX11_remember_73 : decode cX11_remember 73 = .ok (.aload_n 0, 1) := by decide +kernel
theorem dX11_remember_74 : decode cX11_remember 74 = .ok (.getfield 55, 3) := by decide +kernel
theorem dX11_remember_77 : decode cX11_remember 77 = .ok (.iload_n 1, 1) := by decide +kernel
theorem dX11_remember_78 : decode cX11_remember 78 = .ok (.iaload, 1) := by decide +kernel
theorem dX11_remember_79 : decode cX11_remember 79 = .ok (.iastore, 1) := by decide +kernel
theorem dX11_remember_80 : decode cX11_remember 80 = .ok (.iinc 1 1, 3) := by decide +kernel
theorem dX11_remember_83 : decode cX11_remember 83 = .ok (.goto (-31), 3) := by decide +kernel
theorem dX11_remember_86 : decode cX11_remember 86 = .ok (.aload_n 0, 1) := by decide +kernel
theorem dX11_remember_87 : decode cX11_remember 87 = .ok (.dup, 1) := by decide +kernel
theorem dX11_remember_88 : decode cX11_remember 88 = .ok (.getfield 266, 3) := by decide +kernel
theorem dX11_remember_91 : decode cX11_remember 91 = .ok (.iconst 1, 1) := by decide +kernel
theorem dX11_remember_92 : decode cX11_remember 92 = .ok (.iadd, 1) := by decide +kernel
theorem dX11_remember_93 : decode cX11_remember 93 = .ok (.putfield 266, 3) := by decide +kernel
theorem dX11_remember_96 : decode cX11_remember 96 = .ok (.return_, 1) := by decide +kernel
theorem dX11_isTen_0 : decode cX11_isTen 0 = .ok (.iload_n 0, 1) := by decide +kernel
theorem dX11_isTen_1 : decode cX11_isTen 1 = .ok (.i2l, 1) := by decide +kernel
theorem dX11_isTen_2 : decode cX11_isTen 2 = .ok (.lconst 0, 1) := by decide +kernel
theorem dX11_isTen_3 : decode cX11_isTen 3 = .ok (.ldc2_w 354, 3) := by decide +kernel
theorem dX11_isTen_6 : decode cX11_isTen 6 = .ok (.invokestatic 201, 3) := by decide +kernel
theorem dX11_isTen_9 : decode cX11_isTen 9 = .ok (.ireturn, 1) := by decide +kernel
theorem dX11_teach_0 : decode cX11_teach 0 = .ok (.aload_n 0, 1) := by decide +kernel
theorem dX11_teach_1 : decode cX11_teach 1 = .ok (.iconst 0, 1) := by decide +kernel
theorem dX11_teach_2 : decode cX11_teach 2 = .ok (.putfield 80, 3) := by decide +kernel
theorem dX11_teach_5 : decode cX11_teach 5 = .ok (.aload_n 0, 1) := by decide +kernel
theorem dX11_teach_6 : decode cX11_teach 6 = .ok (.iload_n 1, 1) := by decide +kernel
theorem dX11_teach_7 : decode cX11_teach 7 = .ok (.invokevirtual 296, 3) := by decide +kernel
theorem dX11_teach_10 : decode cX11_teach 10 = .ok (.ifCond .eq 58, 3) := by decide +kernel
theorem dX11_teach_13 : decode cX11_teach 13 = .ok (.iload_n 2, 1) := by decide +kernel
theorem dX11_teach_14 : decode cX11_teach 14 = .ok (.invokestatic 356, 3) := by decide +kernel
theorem dX11_teach_17 : decode cX11_teach 17 = .ok (.ifCond .eq 51, 3) := by decide +kernel
theorem dX11_teach_20 : decode cX11_teach 20 = .ok (.aload_n 0, 1) := by decide +kernel
theorem dX11_teach_21 : decode cX11_teach 21 = .ok (.getfield 55, 3) := by decide +kernel
theorem dX11_teach_24 : decode cX11_teach 24 = .ok (.bipush 7, 2) := by decide +kernel
theorem dX11_teach_26 : decode cX11_teach 26 = .ok (.iload_n 1, 1) := by decide +kernel
theorem dX11_teach_27 : decode cX11_teach 27 = .ok (.imul, 1) := by decide +kernel
theorem dX11_teach_28 : decode cX11_teach 28 = .ok (.iconst 3, 1) := by decide +kernel
theorem dX11_teach_29 : decode cX11_teach 29 = .ok (.iadd, 1) := by decide +kernel
theorem dX11_teach_30 : decode cX11_teach 30 = .ok (.iaload, 1) := by decide +kernel
theorem dX11_teach_31 : decode cX11_teach 31 = .ok (.iconst (-1), 1) := by decide +kernel
theorem dX11_teach_32 : decode cX11_teach 32 = .ok (.if_icmp .ne 36, 3) := by decide +kernel
theorem dX11_teach_35 : decode cX11_teach 35 = .ok (.aload_n 0, 1) := by decide +kernel
theorem dX11_teach_36 : decode cX11_teach 36 = .ok (.getfield 55, 3) := by decide +kernel
theorem dX11_teach_39 : decode cX11_teach 39 = .ok (.bipush 7, 2) := by decide +kernel
theorem dX11_teach_41 : decode cX11_teach 41 = .ok (.iload_n 1, 1) := by decide +kernel
theorem dX11_teach_42 : decode cX11_teach 42 = .ok (.imul, 1) := by decide +kernel
theorem dX11_teach_43 : decode cX11_teach 43 = .ok (.iconst 5, 1) := by decide +kernel
theorem dX11_teach_44 : decode cX11_teach 44 = .ok (.iadd, 1) := by decide +kernel
theorem dX11_teach_45 : decode cX11_teach 45 = .ok (.iaload, 1) := by decide +kernel
theorem dX11_teach_46 : decode cX11_teach 46 = .ok (.iload_n 2, 1) := by decide +kernel
theorem dX11_teach_47 : decode cX11_teach 47 = .ok (.invokestatic 213, 3) := by decide +kernel
theorem dX11_teach_50 : decode cX11_teach 50 = .ok (.ifCond .ne 18, 3) := by decide +kernel
theorem dX11_teach_53 : decode cX11_teach 53 = .ok (.aload_n 0, 1) := by decide +kernel
theorem dX11_teach_54 : decode cX11_teach 54 = .ok (.getfield 55, 3) := by decide +kernel
theorem dX11_teach_57 : decode cX11_teach 57 = .ok (.iload_n 1, 1) := by decide +kernel
theorem dX11_teach_58 : decode cX11_teach 58 = .ok (.invokestatic 272, 3) := by decide +kernel
theorem dX11_teach_61 : decode cX11_teach 61 = .ok (.iload_n 2, 1) := by decide +kernel
theorem dX11_teach_62 : decode cX11_teach 62 = .ok (.invokestatic 213, 3) := by decide +kernel
theorem dX11_teach_65 : decode cX11_teach 65 = .ok (.ifCond .eq 5, 3) := by decide +kernel
theorem dX11_teach_68 : decode cX11_teach 68 = .ok (.iconst (-1), 1) := by decide +kernel
theorem dX11_teach_69 : decode cX11_teach 69 = .ok (.ireturn, 1) := by decide +kernel
theorem dX11_teach_70 : decode cX11_teach 70 = .ok (.aload_n 0, 1) := by decide +kernel
theorem dX11_teach_71 : decode cX11_teach 71 = .ok (.invokevirtual 359, 3) := by decide +kernel
theorem dX11_teach_74 : decode cX11_teach 74 = .ok (.aload_n 0, 1) := by decide +kernel
theorem dX11_teach_75 : decode cX11_teach 75 = .ok (.getfield 55, 3) := by decide +kernel
theorem dX11_teach_78 : decode cX11_teach 78 = .ok (.bipush 7, 2) := by decide +kernel
theorem dX11_teach_80 : decode cX11_teach 80 = .ok (.iload_n 1, 1) := by decide +kernel
theorem dX11_teach_81 : decode cX11_teach 81 = .ok (.imul, 1) := by decide +kernel
theorem dX11_teach_82 : decode cX11_teach 82 = .ok (.iconst 3, 1) := by decide +kernel
theorem dX11_teach_83 : decode cX11_teach 83 = .ok (.iadd, 1) := by decide +kernel
theorem dX11_teach_84 : decode cX11_teach 84 = .ok (.iload_n 2, 1) := by decide +kernel
theorem dX11_teach_85 : decode cX11_teach 85 = .ok (.iastore, 1) := by decide +kernel
theorem dX11_teach_86 : decode cX11_teach 86 = .ok (.aload_n 0, 1) := by decide +kernel
theorem dX11_teach_87 : decode cX11_teach 87 = .ok (.getfield 55, 3) := by decide +kernel
theorem dX11_teach_90 : decode cX11_teach 90 = .ok (.bipush 7, 2) := by decide +kernel
theorem dX11_teach_92 : decode cX11_teach 92 = .ok (.iload_n 1, 1) := by decide +kernel
theorem dX11_teach_93 : decode cX11_teach 93 = .ok (.imul, 1) := by decide +kernel
theorem dX11_teach_94 : decode cX11_teach 94 = .ok (.iconst 4, 1) := by decide +kernel
theorem dX11_teach_95 : decode cX11_teach 95 = .ok (.iadd, 1) := by decide +kernel
theorem dX11_teach_96 : decode cX11_teach 96 = .ok (.aload_n 0, 1) := by decide +kernel
theorem dX11_teach_97 : decode cX11_teach 97 = .ok (.getfield 37, 3) := by decide +kernel
theorem dX11_teach_100 : decode cX11_teach 100 = .ok (.bipush 6, 2) := by decide +kernel
theorem dX11_teach_102 : decode cX11_teach 102 = .ok (.iload_n 1, 1) := by decide +kernel
theorem dX11_teach_103 : decode cX11_teach 103 = .ok (.imul, 1) := by decide +kernel
theorem dX11_teach_104 : decode cX11_teach 104 = .ok (.iconst 4, 1) := by decide +kernel
theorem dX11_teach_105 : decode cX11_teach 105 = .ok (.iadd, 1) := by decide +kernel
theorem dX11_teach_106 : decode cX11_teach 106 = .ok (.iaload, 1) := by decide +kernel
theorem dX11_teach_107 : decode cX11_teach 107 = .ok (.iastore, 1) := by decide +kernel
theorem dX11_teach_108 : decode cX11_teach 108 = .ok (.aload_n 0, 1) := by decide +kernel
theorem dX11_teach_109 : decode cX11_teach 109 = .ok (.getfield 266, 3) := by decide +kernel
theorem dX11_teach_112 : decode cX11_teach 112 = .ok (.ireturn, 1) := by decide +kernel
theorem dX11_wrong_0 : decode cX11_wrong 0 = .ok (.aload_n 0, 1) := by decide +kernel
theorem dX11_wrong_1 : decode cX11_wrong 1 = .ok (.iconst 0, 1) := by decide +kernel
theorem dX11_wrong_2 : decode cX11_wrong 2 = .ok (.putfield 80, 3) := by decide +kernel
theorem dX11_wrong_5 : decode cX11_wrong 5 = .ok (.aload_n 0, 1) := by decide +kernel
theorem dX11_wrong_6 : decode cX11_wrong 6 = .ok (.iload_n 1, 1) := by decide +kernel
theorem dX11_wrong_7 : decode cX11_wrong 7 = .ok (.invokevirtual 296, 3) := by decide +kernel
theorem dX11_wrong_10 : decode cX11_wrong 10 = .ok (.ifCond .eq 28, 3) := by decide +kernel
theorem dX11_wrong_13 : decode cX11_wrong 13 = .ok (.iload_n 2, 1) := by decide +kernel
theorem dX11_wrong_14 : decode cX11_wrong 14 = .ok (.invokestatic 356, 3) := by decide +kernel
theorem dX11_wrong_17 : decode cX11_wrong 17 = .ok (.ifCond .eq 21, 3) := by decide +kernel
theorem dX11_wrong_20 : decode cX11_wrong 20 = .ok (.aload_n 0, 1) := by decide +kernel
theorem dX11_wrong_21 : decode cX11_wrong 21 = .ok (.getfield 55, 3) := by decide +kernel
theorem dX11_wrong_24 : decode cX11_wrong 24 = .ok (.bipush 7, 2) := by decide +kernel
theorem dX11_wrong_26 : decode cX11_wrong 26 = .ok (.iload_n 1, 1) := by decide +kernel
theorem dX11_wrong_27 : decode cX11_wrong 27 = .ok (.imul, 1) := by decide +kernel
theorem dX11_wrong_28 : decode cX11_wrong 28 = .ok (.iconst 2, 1) := by decide +kernel
theorem dX11_wrong_29 : decode cX11_wrong 29 = .ok (.iadd, 1) := by decide +kernel
theorem dX11_wrong_30 : decode cX11_wrong 30 = .ok (.iaload, 1) := by decide +kernel
theorem dX11_wrong_31 : decode cX11_wrong 31 = .ok (.iload_n 2, 1) := by decide +kernel
theorem dX11_wrong_32 : decode cX11_wrong 32 = .ok (.invokestatic 213, 3) := by decide +kernel
theorem dX11_wrong_35 : decode cX11_wrong 35 = .ok (.ifCond .eq 5, 3) := by decide +kernel
theorem dX11_wrong_38 : decode cX11_wrong 38 = .ok (.iconst (-1), 1) := by decide +kernel
theorem dX11_wrong_39 : decode cX11_wrong 39 = .ok (.ireturn, 1) := by decide +kernel
theorem dX11_wrong_40 : decode cX11_wrong 40 = .ok (.aload_n 0, 1) := by decide +kernel
theorem dX11_wrong_41 : decode cX11_wrong 41 = .ok (.invokevirtual 359, 3) := by decide +kernel
theorem dX11_wrong_44 : decode cX11_wrong 44 = .ok (.aload_n 0, 1) := by decide +kernel
theorem dX11_wrong_45 : decode cX11_wrong 45 = .ok (.getfield 55, 3) := by decide +kernel
theorem dX11_wrong_48 : decode cX11_wrong 48 = .ok (.bipush 7, 2) := by decide +kernel
theorem dX11_wrong_50 : decode cX11_wrong 50 = .ok (.iload_n 1, 1) := by decide +kernel
theorem dX11_wrong_51 : decode cX11_wrong 51 = .ok (.imul, 1) := by decide +kernel
theorem dX11_wrong_52 : decode cX11_wrong 52 = .ok (.iconst 2, 1) := by decide +kernel
theorem dX11_wrong_53 : decode cX11_wrong 53 = .ok (.iadd, 1) := by decide +kernel
theorem dX11_wrong_54 : decode cX11_wrong 54 = .ok (.dup2, 1) := by decide +kernel
theorem dX11_wrong_55 : decode cX11_wrong 55 = .ok (.iaload, 1) := by decide +kernel
theorem dX11_wrong_56 : decode cX11_wrong 56 = .ok (.iconst 1, 1) := by decide +kernel
theorem dX11_wrong_57 : decode cX11_wrong 57 = .ok (.iload_n 2, 1) := by decide +kernel
theorem dX11_wrong_58 : decode cX11_wrong 58 = .ok (.ishl, 1) := by decide +kernel
theorem dX11_wrong_59 : decode cX11_wrong 59 = .ok (.ior, 1) := by decide +kernel
theorem dX11_wrong_60 : decode cX11_wrong 60 = .ok (.iastore, 1) := by decide +kernel
theorem dX11_wrong_61 : decode cX11_wrong 61 = .ok (.aload_n 0, 1) := by decide +kernel
theorem dX11_wrong_62 : decode cX11_wrong 62 = .ok (.getfield 266, 3) := by decide +kernel
theorem dX11_wrong_65 : decode cX11_wrong 65 = .ok (.ireturn, 1) := by decide +kernel
theorem dX11_keeps_0 : decode cX11_keeps 0 = .ok (.aload_n 0, 1) := by decide +kernel
theorem dX11_keeps_1 : decode cX11_keeps 1 = .ok (.bipush 7, 2) := by decide +kernel
theorem dX11_keeps_3 : decode cX11_keeps 3 = .ok (.iload_n 1, 1) := by decide +kernel
theorem dX11_keeps_4 : decode cX11_keeps 4 = .ok (.imul, 1) := by decide +kernel
theorem dX11_keeps_5 : decode cX11_keeps 5 = .ok (.iconst 5, 1) := by decide +kernel
theorem dX11_keeps_6 : decode cX11_keeps 6 = .ok (.iadd, 1) := by decide +kernel
theorem dX11_keeps_7 : decode cX11_keeps 7 = .ok (.dup2, 1) := by decide +kernel
theorem dX11_keeps_8 : decode cX11_keeps 8 = .ok (.iaload, 1) := by decide +kernel
theorem dX11_keeps_9 : decode cX11_keeps 9 = .ok (.iconst 1, 1) := by decide +kernel
theorem dX11_keeps_10 : decode cX11_keeps 10 = .ok (.iload_n 2, 1) := by decide +kernel
theorem dX11_keeps_11 : decode cX11_keeps 11 = .ok (.ishl, 1) := by decide +kernel
theorem dX11_keeps_12 : decode cX11_keeps 12 = .ok (.ior, 1) := by decide +kernel
theorem dX11_keeps_13 : decode cX11_keeps 13 = .ok (.iastore, 1) := by decide +kernel
theorem dX11_keeps_14 : decode cX11_keeps 14 = .ok (.aload_n 0, 1) := by decide +kernel
theorem dX11_keeps_15 : decode cX11_keeps 15 = .ok (.bipush 7, 2) := by decide +kernel
theorem dX11_keeps_17 : decode cX11_keeps 17 = .ok (.iload_n 1, 1) := by decide +kernel
theorem dX11_keeps_18 : decode cX11_keeps 18 = .ok (.imul, 1) := by decide +kernel
theorem dX11_keeps_19 : decode cX11_keeps 19 = .ok (.iconst 3, 1) := by decide +kernel
theorem dX11_keeps_20 : decode cX11_keeps 20 = .ok (.iadd, 1) := by decide +kernel
theorem dX11_keeps_21 : decode cX11_keeps 21 = .ok (.iaload, 1) := by decide +kernel
theorem dX11_keeps_22 : decode cX11_keeps 22 = .ok (.iload_n 2, 1) := by decide +kernel
theorem dX11_keeps_23 : decode cX11_keeps 23 = .ok (.if_icmp .eq 4, 3) := by decide +kernel
theorem dX11_keeps_26 : decode cX11_keeps 26 = .ok (.return_, 1) := by decide +kernel
theorem dX11_keeps_27 : decode cX11_keeps 27 = .ok (.aload_n 0, 1) := by decide +kernel
theorem dX11_keeps_28 : decode cX11_keeps 28 = .ok (.bipush 7, 2) := by decide +kernel
theorem dX11_keeps_30 : decode cX11_keeps 30 = .ok (.iload_n 1, 1) := by decide +kernel
theorem dX11_keeps_31 : decode cX11_keeps 31 = .ok (.imul, 1) := by decide +kernel
theorem dX11_keeps_32 : decode cX11_keeps 32 = .ok (.iconst 3, 1) := by decide +kernel
theorem dX11_keeps_33 : decode cX11_keeps 33 = .ok (.iadd, 1) := by decide +kernel
theorem dX11_keeps_34 : decode cX11_keeps 34 = .ok (.iconst (-1), 1) := by decide +kernel
theorem dX11_keeps_35 : decode cX11_keeps 35 = .ok (.iastore, 1) := by decide +kernel
theorem dX11_keeps_36 : decode cX11_keeps 36 = .ok (.aload_n 0, 1) := by decide +kernel
theorem dX11_keeps_37 : decode cX11_keeps 37 = .ok (.bipush 7, 2) := by decide +kernel
theorem dX11_keeps_39 : decode cX11_keeps 39 = .ok (.iload_n 1, 1) := by decide +kernel
theorem dX11_keeps_40 : decode cX11_keeps 40 = .ok (.imul, 1) := by decide +kernel
theorem dX11_keeps_41 : decode cX11_keeps 41 = .ok (.iconst 4, 1) := by decide +kernel
theorem dX11_keeps_42 : decode cX11_keeps 42 = .ok (.iadd, 1) := by decide +kernel
theorem dX11_keeps_43 : decode cX11_keeps 43 = .ok (.iconst 0, 1) := by decide +kernel
theorem dX11_keeps_44 : decode cX11_keeps 44 = .ok (.iastore, 1) := by decide +kernel
theorem dX11_keeps_45 : decode cX11_keeps 45 = .ok (.return_, 1) := by decide +kernel
theorem dX11_keep_0 : decode cX11_keep 0 = .ok (.aload_n 0, 1) := by decide +kernel
theorem dX11_keep_1 : decode cX11_keep 1 = .ok (.iconst 0, 1) := by decide +kernel
theorem dX11_keep_2 : decode cX11_keep 2 = .ok (.putfield 80, 3) := by decide +kernel
theorem dX11_keep_5 : decode cX11_keep 5 = .ok (.aload_n 0, 1) := by decide +kernel
theorem dX11_keep_6 : decode cX11_keep 6 = .ok (.iload_n 1, 1) := by decide +kernel
theorem dX11_keep_7 : decode cX11_keep 7 = .ok (.invokevirtual 296, 3) := by decide +kernel
theorem dX11_keep_10 : decode cX11_keep 10 = .ok (.ifCond .eq 29, 3) := by decide +kernel
theorem dX11_keep_13 : decode cX11_keep 13 = .ok (.iload_n 2, 1) := by decide +kernel
theorem dX11_keep_14 : decode cX11_keep 14 = .ok (.invokestatic 356, 3) := by decide +kernel
theorem dX11_keep_17 : decode cX11_keep 17 = .ok (.ifCond .eq 22, 3) := by decide +kernel
theorem dX11_keep_20 : decode cX11_keep 20 = .ok (.aload_n 0, 1) := by decide +kernel
theorem dX11_keep_21 : decode cX11_keep 21 = .ok (.getfield 55, 3) := by decide +kernel
theorem dX11_keep_24 : decode cX11_keep 24 = .ok (.bipush 7, 2) := by decide +kernel
theorem dX11_keep_26 : decode cX11_keep 26 = .ok (.iload_n 1, 1) := by decide +kernel
theorem dX11_keep_27 : decode cX11_keep 27 = .ok (.imul, 1) := by decide +kernel
theorem dX11_keep_28 : decode cX11_keep 28 = .ok (.iconst 5, 1) := by decide +kernel
theorem dX11_keep_29 : decode cX11_keep 29 = .ok (.iadd, 1) := by decide +kernel
theorem dX11_keep_30 : decode cX11_keep 30 = .ok (.iaload, 1) := by decide +kernel
theorem dX11_keep_31 : decode cX11_keep 31 = .ok (.iload_n 2, 1) := by decide +kernel
theorem dX11_keep_32 : decode cX11_keep 32 = .ok (.invokestatic 213, 3) := by decide +kernel
theorem dX11_keep_35 : decode cX11_keep 35 = .ok (.iload_n 3, 1) := by decide +kernel
theorem dX11_keep_36 : decode cX11_keep 36 = .ok (.if_icmp .ne 5, 3) := by decide +kernel
theorem dX11_keep_39 : decode cX11_keep 39 = .ok (.iconst (-1), 1) := by decide +kernel
theorem dX11_keep_40 : decode cX11_keep 40 = .ok (.ireturn, 1) := by decide +kernel
theorem dX11_keep_41 : decode cX11_keep 41 = .ok (.aload_n 0, 1) := by decide +kernel
theorem dX11_keep_42 : decode cX11_keep 42 = .ok (.invokevirtual 359, 3) := by decide +kernel
theorem dX11_keep_45 : decode cX11_keep 45 = .ok (.iload_n 3, 1) := by decide +kernel
theorem dX11_keep_46 : decode cX11_keep 46 = .ok (.ifCond .eq 15, 3) := by decide +kernel
theorem dX11_keep_49 : decode cX11_keep 49 = .ok (.aload_n 0, 1) := by decide +kernel
theorem dX11_keep_50 : decode cX11_keep 50 = .ok (.getfield 55, 3) := by decide +kernel
theorem dX11_keep_53 : decode cX11_keep 53 = .ok (.iload_n 1, 1) := by decide +kernel
theorem dX11_keep_54 : decode cX11_keep 54 = .ok (.iload_n 2, 1) := by decide +kernel
theorem dX11_keep_55 : decode cX11_keep 55 = .ok (.invokestatic 362, 3) := by decide +kernel
theorem dX11_keep_58 : decode cX11_keep 58 = .ok (.goto 22, 3) := by decide +kernel
theorem dX11_keep_61 : decode cX11_keep 61 = .ok (.aload_n 0, 1) := by decide +kernel
theorem dX11_keep_62 : decode cX11_keep 62 = .ok (.getfield 55, 3) := by decide +kernel
theorem dX11_keep_65 : decode cX11_keep 65 = .ok (.bipush 7, 2) := by decide +kernel
theorem dX11_keep_67 : decode cX11_keep 67 = .ok (.iload_n 1, 1) := by decide +kernel
theorem dX11_keep_68 : decode cX11_keep 68 = .ok (.imul, 1) := by decide +kernel
theorem dX11_keep_69 : decode cX11_keep 69 = .ok (.iconst 5, 1) := by decide +kernel
theorem dX11_keep_70 : decode cX11_keep 70 = .ok (.iadd, 1) := by decide +kernel
theorem dX11_keep_71 : decode cX11_keep 71 = .ok (.dup2, 1) := by decide +kernel
theorem dX11_keep_72 : decode cX11_keep 72 = .ok (.iaload, 1) := by decide +kernel
theorem dX11_keep_73 : decode cX11_keep 73 = .ok (.iconst 1, 1) := by decide +kernel
theorem dX11_keep_74 : decode cX11_keep 74 = .ok (.iload_n 2, 1) := by decide +kernel
theorem dX11_keep_75 : decode cX11_keep 75 = .ok (.ishl, 1) := by decide +kernel
theorem dX11_keep_76 : decode cX11_keep 76 = .ok (.iconst (-1), 1) := by decide +kernel
theorem dX11_keep_77 : decode cX11_keep 77 = .ok (.ixor, 1) := by decide +kernel
theorem dX11_keep_78 : decode cX11_keep 78 = .ok (.iand, 1) := by decide +kernel
theorem dX11_keep_79 : decode cX11_keep 79 = .ok (.iastore, 1) := by decide +kernel
theorem dX11_keep_80 : decode cX11_keep 80 = .ok (.aload_n 0, 1) := by decide +kernel
theorem dX11_keep_81 : decode cX11_keep 81 = .ok (.getfield 266, 3) := by decide +kernel
theorem dX11_keep_84 : decode cX11_keep 84 = .ok (.ireturn, 1) := by decide +kernel
theorem dX11_isRight_0 : decode cX11_isRight 0 = .ok (.aload_n 0, 1) := by decide +kernel
theorem dX11_isRight_1 : decode cX11_isRight 1 = .ok (.bipush 7, 2) := by decide +kernel
theorem dX11_isRight_3 : decode cX11_isRight 3 = .ok (.iload_n 1, 1) := by decide +kernel
theorem dX11_isRight_4 : decode cX11_isRight 4 = .ok (.imul, 1) := by decide +kernel
theorem dX11_isRight_5 : decode cX11_isRight 5 = .ok (.iconst 1, 1) := by decide +kernel
theorem dX11_isRight_6 : decode cX11_isRight 6 = .ok (.iadd, 1) := by decide +kernel
theorem dX11_isRight_7 : decode cX11_isRight 7 = .ok (.dup2, 1) := by decide +kernel
theorem dX11_isRight_8 : decode cX11_isRight 8 = .ok (.iaload, 1) := by decide +kernel
theorem dX11_isRight_9 : decode cX11_isRight 9 = .ok (.iconst 1, 1) := by decide +kernel
theorem dX11_isRight_10 : decode cX11_isRight 10 = .ok (.iload_n 2, 1) := by decide +kernel
theorem dX11_isRight_11 : decode cX11_isRight 11 = .ok (.ishl, 1) := by decide +kernel
theorem dX11_isRight_12 : decode cX11_isRight 12 = .ok (.ior, 1) := by decide +kernel
theorem dX11_isRight_13 : decode cX11_isRight 13 = .ok (.iastore, 1) := by decide +kernel
theorem dX11_isRight_14 : decode cX11_isRight 14 = .ok (.aload_n 0, 1) := by decide +kernel
theorem dX11_isRight_15 : decode cX11_isRight 15 = .ok (.bipush 7, 2) := by decide +kernel
theorem dX11_isRight_17 : decode cX11_isRight 17 = .ok (.iload_n 1, 1) := by decide +kernel
theorem dX11_isRight_18 : decode cX11_isRight 18 = .ok (.imul, 1) := by decide +kernel
theorem dX11_isRight_19 : decode cX11_isRight 19 = .ok (.iconst 2, 1) := by decide +kernel
theorem dX11_isRight_20 : decode cX11_isRight 20 = .ok (.iadd, 1) := by decide +kernel
theorem dX11_isRight_21 : decode cX11_isRight 21 = .ok (.dup2, 1) := by decide +kernel
theorem dX11_isRight_22 : decode cX11_isRight 22 = .ok (.iaload, 1) := by decide +kernel
theorem dX11_isRight_23 : decode cX11_isRight 23 = .ok (.iconst 1, 1) := by decide +kernel
theorem dX11_isRight_24 : decode cX11_isRight 24 = .ok (.iload_n 2, 1) := by decide +kernel
theorem dX11_isRight_25 : decode cX11_isRight 25 = .ok (.ishl, 1) := by decide +kernel
theorem dX11_isRight_26 : decode cX11_isRight 26 = .ok (.iconst (-1), 1) := by decide +kernel
theorem dX11_isRight_27 : decode cX11_isRight 27 = .ok (.ixor, 1) := by decide +kernel
theorem dX11_isRight_28 : decode cX11_isRight 28 = .ok (.iand, 1) := by decide +kernel
theorem dX11_isRight_29 : decode cX11_isRight 29 = .ok (.iastore, 1) := by decide +kernel
theorem dX11_isRight_30 : decode cX11_isRight 30 = .ok (.return_, 1) := by decide +kernel
theorem dX11_buy_0 : decode cX11_buy 0 = .ok (.aload_n 0, 1) := by decide +kernel
theorem dX11_buy_1 : decode cX11_buy 1 = .ok (.iconst 0, 1) := by decide +kernel
theorem dX11_buy_2 : decode cX11_buy 2 = .ok (.putfield 80, 3) := by decide +kernel
theorem dX11_buy_5 : decode cX11_buy 5 = .ok (.aload_n 0, 1) := by decide +kernel
theorem dX11_buy_6 : decode cX11_buy 6 = .ok (.iload_n 1, 1) := by decide +kernel
theorem dX11_buy_7 : decode cX11_buy 7 = .ok (.invokevirtual 296, 3) := by decide +kernel
theorem dX11_buy_10 : decode cX11_buy 10 = .ok (.ifCond .eq 41, 3) := by decide +kernel
theorem dX11_buy_13 : decode cX11_buy 13 = .ok (.iload_n 2, 1) := by decide +kernel
theorem dX11_buy_14 : decode cX11_buy 14 = .ok (.invokestatic 356, 3) := by decide +kernel
theorem dX11_buy_17 : decode cX11_buy 17 = .ok (.ifCond .eq 34, 3) := by decide +kernel
theorem dX11_buy_20 : decode cX11_buy 20 = .ok (.aload_n 0, 1) := by decide +kernel
theorem dX11_buy_21 : decode cX11_buy 21 = .ok (.getfield 55, 3) := by decide +kernel
theorem dX11_buy_24 : decode cX11_buy 24 = .ok (.iload_n 1, 1) := by decide +kernel
theorem dX11_buy_25 : decode cX11_buy 25 = .ok (.invokestatic 272, 3) := by decide +kernel
theorem dX11_buy_28 : decode cX11_buy 28 = .ok (.iload_n 2, 1) := by decide +kernel
theorem dX11_buy_29 : decode cX11_buy 29 = .ok (.invokestatic 213, 3) := by decide +kernel
theorem dX11_buy_32 : decode cX11_buy 32 = .ok (.ifCond .ne 19, 3) := by decide +kernel
theorem dX11_buy_35 : decode cX11_buy 35 = .ok (.aload_n 0, 1) := by decide +kernel
theorem dX11_buy_36 : decode cX11_buy 36 = .ok (.getfield 55, 3) := by decide +kernel
theorem dX11_buy_39 : decode cX11_buy 39 = .ok (.bipush 62, 2) := by decide +kernel
theorem dX11_buy_41 : decode cX11_buy 41 = .ok (.iaload, 1) := by decide +kernel
theorem dX11_buy_42 : decode cX11_buy 42 = .ok (.aload_n 0, 1) := by decide +kernel
theorem dX11_buy_43 : decode cX11_buy 43 = .ok (.getfield 49, 3) := by decide +kernel
theorem dX11_buy_46 : decode cX11_buy 46 = .ok (.iconst 2, 1) := by decide +kernel
theorem dX11_buy_47 : decode cX11_buy 47 = .ok (.iaload, 1) := by decide +kernel
theorem dX11_buy_48 : decode cX11_buy 48 = .ok (.if_icmp .ge 5, 3) := by decide +kernel
theorem dX11_buy_51 : decode cX11_buy 51 = .ok (.iconst (-1), 1) := by decide +kernel
theorem dX11_buy_52 : decode cX11_buy 52 = .ok (.ireturn, 1) := by decide +kernel
theorem dX11_buy_53 : decode cX11_buy 53 = .ok (.aload_n 0, 1) := by decide +kernel
theorem dX11_buy_54 : decode cX11_buy 54 = .ok (.invokevirtual 359, 3) := by decide +kernel
theorem dX11_buy_57 : decode cX11_buy 57 = .ok (.aload_n 0, 1) := by decide +kernel
theorem dX11_buy_58 : decode cX11_buy 58 = .ok (.getfield 55, 3) := by decide +kernel
theorem dX11_buy_61 : decode cX11_buy 61 = .ok (.bipush 62, 2) := by decide +kernel
theorem dX11_buy_63 : decode cX11_buy 63 = .ok (.dup2, 1) := by decide +kernel
theorem dX11_buy_64 : decode cX11_buy 64 = .ok (.iaload, 1) := by decide +kernel
theorem dX11_buy_65 : decode cX11_buy 65 = .ok (.aload_n 0, 1) := by decide +kernel
theorem dX11_buy_66 : decode cX11_buy 66 = .ok (.getfield 49, 3) := by decide +kernel
theorem dX11_buy_69 : decode cX11_buy 69 = .ok (.iconst 2, 1) := by decide +kernel
theorem dX11_buy_70 : decode cX11_buy 70 = .ok (.iaload, 1) := by decide +kernel
theorem dX11_buy_71 : decode cX11_buy 71 = .ok (.isub, 1) := by decide +kernel
theorem dX11_buy_72 : decode cX11_buy 72 = .ok (.iastore, 1) := by decide +kernel
theorem dX11_buy_73 : decode cX11_buy 73 = .ok (.aload_n 0, 1) := by decide +kernel
theorem dX11_buy_74 : decode cX11_buy 74 = .ok (.getfield 55, 3) := by decide +kernel
theorem dX11_buy_77 : decode cX11_buy 77 = .ok (.iload_n 1, 1) := by decide +kernel
theorem dX11_buy_78 : decode cX11_buy 78 = .ok (.iload_n 2, 1) := by decide +kernel
theorem dX11_buy_79 : decode cX11_buy 79 = .ok (.invokestatic 365, 3) := by decide +kernel
theorem dX11_buy_82 : decode cX11_buy 82 = .ok (.aload_n 0, 1) := by decide +kernel
theorem dX11_buy_83 : decode cX11_buy 83 = .ok (.getfield 55, 3) := by decide +kernel
theorem dX11_buy_86 : decode cX11_buy 86 = .ok (.bipush 62, 2) := by decide +kernel
theorem dX11_buy_88 : decode cX11_buy 88 = .ok (.iaload, 1) := by decide +kernel
theorem dX11_buy_89 : decode cX11_buy 89 = .ok (.ireturn, 1) := by decide +kernel
theorem dX11_goMonths_0 : decode cX11_goMonths 0 = .ok (.aload_n 0, 1) := by decide +kernel
theorem dX11_goMonths_1 : decode cX11_goMonths 1 = .ok (.getfield 260, 3) := by decide +kernel
theorem dX11_goMonths_4 : decode cX11_goMonths 4 = .ok (.ifCond .eq 15, 3) := by decide +kernel
theorem dX11_goMonths_7 : decode cX11_goMonths 7 = .ok (.iload_n 1, 1) := by decide +kernel
theorem dX11_goMonths_8 : decode cX11_goMonths 8 = .ok (.i2l, 1) := by decide +kernel
theorem dX11_goMonths_9 : decode cX11_goMonths 9 = .ok (.lconst 1, 1) := by decide +kernel
theorem dX11_goMonths_10 : decode cX11_goMonths 10 = .ok (.ldc2_w 368, 3) := by decide +kernel
theorem dX11_goMonths_13 : decode cX11_goMonths 13 = .ok (.invokestatic 201, 3) := by decide +kernel
theorem dX11_goMonths_16 : decode cX11_goMonths 16 = .ok (.ifCond .ne 5, 3) := by decide +kernel
theorem dX11_goMonths_19 : decode cX11_goMonths 19 = .ok (.iconst (-1), 1) := by decide +kernel
theorem dX11_goMonths_20 : decode cX11_goMonths 20 = .ok (.ireturn, 1) := by decide +kernel
theorem dX11_goMonths_21 : decode cX11_goMonths 21 = .ok (.iconst 0, 1) := by decide +kernel
theorem dX11_goMonths_22 : decode cX11_goMonths 22 = .ok (.istore_n 3, 1) := by decide +kernel
theorem dX11_goMonths_23 : decode cX11_goMonths 23 = .ok (.iload_n 3, 1) := by decide +kernel
theorem dX11_goMonths_24 : decode cX11_goMonths 24 = .ok (.iload_n 1, 1) := by decide +kernel
theorem dX11_goMonths_25 : decode cX11_goMonths 25 = .ok (.if_icmp .ge 22, 3) := by decide +kernel
theorem dX11_goMonths_28 : decode cX11_goMonths 28 = .ok (.aload_n 0, 1) := by decide +kernel
theorem dX11_goMonths_29 : decode cX11_goMonths 29 = .ok (.invokevirtual 359, 3) := by decide +kernel
theorem dX11_goMonths_32 : decode cX11_goMonths 32 = .ok (.aload_n 0, 1) := by decide +kernel
theorem dX11_goMonths_33 : decode cX11_goMonths 33 = .ok (.aload_n 0, 1) := by decide +kernel
theorem dX11_goMonths_34 : decode cX11_goMonths 34 = .ok (.getfield 55, 3) := by decide +kernel
theorem dX11_goMonths_37 : decode cX11_goMonths 37 = .ok (.iload_n 2, 1) := by decide +kernel
theorem dX11_goMonths_38 : decode cX11_goMonths 38 = .ok (.invokevirtual 370, 3) := by decide +kernel
theorem dX11_goMonths_41 : decode cX11_goMonths 41 = .ok (.iinc 3 1, 3) := by decide +kernel
theorem dX11_goMonths_44 : decode cX11_goMonths 44 = .ok (.goto (-21), 3) := by decide +kernel
theorem dX11_goMonths_47 : decode cX11_goMonths 47 = .ok (.aload_n 0, 1) := by decide +kernel
theorem dX11_goMonths_48 : decode cX11_goMonths 48 = .ok (.getfield 55, 3) := by decide +kernel
theorem dX11_goMonths_51 : decode cX11_goMonths 51 = .ok (.bipush 60, 2) := by decide +kernel
theorem dX11_goMonths_53 : decode cX11_goMonths 53 = .ok (.iaload, 1) := by decide +kernel
theorem dX11_goMonths_54 : decode cX11_goMonths 54 = .ok (.ireturn, 1) := by decide +kernel
theorem dX11_months_0 : decode cX11_months 0 = .ok (.aload_n 0, 1) := by decide +kernel
theorem dX11_months_1 : decode cX11_months 1 = .ok (.iconst 0, 1) := by decide +kernel
theorem dX11_months_2 : decode cX11_months 2 = .ok (.putfield 80, 3) := by decide +kernel
theorem dX11_months_5 : decode cX11_months 5 = .ok (.aload_n 0, 1) := by decide +kernel
theorem dX11_months_6 : decode cX11_months 6 = .ok (.iload_n 1, 1) := by decide +kernel
theorem dX11_months_7 : decode cX11_months 7 = .ok (.iconst 0, 1) := by decide +kernel
theorem dX11_months_8 : decode cX11_months 8 = .ok (.invokevirtual 374, 3) := by decide +kernel
theorem dX11_months_11 : decode cX11_months 11 = .ok (.ireturn, 1) := by decide +kernel
theorem dX11_fevers_0 : decode cX11_fevers 0 = .ok (.aload_n 0, 1) := by decide +kernel
theorem dX11_fevers_1 : decode cX11_fevers 1 = .ok (.iconst 0, 1) := by decide +kernel
theorem dX11_fevers_2 : decode cX11_fevers 2 = .ok (.putfield 80, 3) := by decide +kernel
theorem dX11_fevers_5 : decode cX11_fevers 5 = .ok (.aload_n 0, 1) := by decide +kernel
theorem dX11_fevers_6 : decode cX11_fevers 6 = .ok (.lload_n 2, 1) := by decide +kernel
theorem dX11_fevers_7 : decode cX11_fevers 7 = .ok (.putfield 320, 3) := by decide +kernel
theorem dX11_fevers_10 : decode cX11_fevers 10 = .ok (.aload_n 0, 1) := by decide +kernel
theorem dX11_fevers_11 : decode cX11_fevers 11 = .ok (.iload_n 1, 1) := by decide +kernel
theorem dX11_fevers_12 : decode cX11_fevers 12 = .ok (.iconst 1, 1) := by decide +kernel
theorem dX11_fevers_13 : decode cX11_fevers 13 = .ok (.invokevirtual 374, 3) := by decide +kernel
theorem dX11_fevers_16 : decode cX11_fevers 16 = .ok (.ireturn, 1) := by decide +kernel
theorem dX11_undo_0 : decode cX11_undo 0 = .ok (.aload_n 0, 1) := by decide +kernel
theorem dX11_undo_1 : decode cX11_undo 1 = .ok (.iconst 0, 1) := by decide +kernel
theorem dX11_undo_2 : decode cX11_undo 2 = .ok (.putfield 80, 3) := by decide +kernel
theorem dX11_undo_5 : decode cX11_undo 5 = .ok (.aload_n 0, 1) := by decide +kernel
theorem dX11_undo_6 : decode cX11_undo 6 = .ok (.getfield 266, 3) := by decide +kernel
theorem dX11_undo_9 : decode cX11_undo 9 = .ok (.ifCond .ne 5, 3) := by decide +kernel
theorem dX11_undo_12 : decode cX11_undo 12 = .ok (.iconst (-1), 1) := by decide +kernel
theorem dX11_undo_13 : decode cX11_undo 13 = .ok (.ireturn, 1) := by decide +kernel
theorem dX11_undo_14 : decode cX11_undo 14 = .ok (.aload_n 0, 1) := by decide +kernel
theorem dX11_undo_15 : decode cX11_undo 15 = .ok (.dup, 1) := by decide +kernel
theorem dX11_undo_16 : decode cX11_undo 16 = .ok (.getfield 266, 3) := by decide +kernel
theorem dX11_undo_19 : decode cX11_undo 19 = .ok (.iconst 1, 1) := by decide +kernel
theorem dX11_undo_20 : decode cX11_undo 20 = .ok (.isub, 1) := by decide +kernel
theorem dX11_undo_21 : decode cX11_undo 21 = .ok (.putfield 266, 3) := by decide +kernel
theorem dX11_undo_24 : decode cX11_undo 24 = .ok (.iconst 0, 1) := by decide +kernel
theorem dX11_undo_25 : decode cX11_undo 25 = .ok (.istore_n 1, 1) := by decide +kernel
theorem dX11_undo_26 : decode cX11_undo 26 = .ok (.iload_n 1, 1) := by decide +kernel
theorem dX11_undo_27 : decode cX11_undo 27 = .ok (.sipush 244, 3) := by decide +kernel
theorem dX11_undo_30 : decode cX11_undo 30 = .ok (.if_icmp .ge 30, 3) := by decide +kernel
theorem dX11_undo_33 : decode cX11_undo 33 = .ok (.aload_n 0, 1) := by decide +kernel
theorem dX11_undo_34 : decode cX11_undo 34 = .ok (.getfield 55, 3) := by decide +kernel
theorem dX11_undo_37 : decode cX11_undo 37 = .ok (.iload_n 1, 1) := by decide +kernel
theorem dX11_undo_38 : decode cX11_undo 38 = .ok (.aload_n 0, 1) := by decide +kernel
theorem dX11_undo_39 : decode cX11_undo 39 = .ok (.getfield 71, 3) := by decide +kernel
theorem dX11_undo_42 : decode cX11_undo 42 = .ok (.sipush 244, 3) := by decide +kernel
theorem dX11_undo_45 : decode cX11_undo 45 = .ok (.aload_n 0, 1) := by decide +kernel
theorem dX11_undo_46 : decode cX11_undo 46 = .ok (.getfield 266, 3) := by decide +kernel
theorem dX11_undo_49 : decode cX11_undo 49 = .ok (.imul, 1) := by decide +kernel
theorem dX11_undo_50 : decode cX11_undo 50 = .ok (.iload_n 1, 1) := by decide +kernel
theorem dX11_undo_51 : decode cX11_undo 51 = .ok (.iadd, 1) := by decide +kernel
theorem dX11_undo_52 : decode cX11_undo 52 = .ok (.iaload, 1) := by decide +kernel
theorem dX11_undo_53 : decode cX11_undo 53 = .ok (.iastore, 1) := by decide +kernel
theorem dX11_undo_54 : decode cX11_undo 54 = .ok (.iinc 1 1, 3) := by decide +kernel
theorem dX11_undo_57 : decode cX11_undo 57 = .ok (.goto (-31), 3) := by decide +kernel
theorem dX11_undo_60 : decode cX11_undo 60 = .ok (.aload_n 0, 1) := by decide +kernel
theorem dX11_undo_61 : decode cX11_undo 61 = .ok (.getfield 266, 3) := by decide +kernel
theorem dX11_undo_64 : decode cX11_undo 64 = .ok (.ireturn, 1) := by decide +kernel
theorem dX11_log_0 : decode cX11_log 0 = .ok (.aload_n 0, 1) := by decide +kernel
theorem dX11_log_1 : decode cX11_log 1 = .ok (.iconst 0, 1) := by decide +kernel
theorem dX11_log_2 : decode cX11_log 2 = .ok (.putfield 80, 3) := by decide +kernel
theorem dX11_log_5 : decode cX11_log 5 = .ok (.iload_n 1, 1) := by decide +kernel
theorem dX11_log_6 : decode cX11_log 6 = .ok (.i2l, 1) := by decide +kernel
theorem dX11_log_7 : decode cX11_log 7 = .ok (.lconst 0, 1) := by decide +kernel
theorem dX11_log_8 : decode cX11_log 8 = .ok (.aload_n 0, 1) := by decide +kernel
theorem dX11_log_9 : decode cX11_log 9 = .ok (.getfield 55, 3) := by decide +kernel
theorem dX11_log_12 : decode cX11_log 12 = .ok (.bipush 63, 2) := by decide +kernel
theorem dX11_log_14 : decode cX11_log 14 = .ok (.iaload, 1) := by decide +kernel
theorem dX11_log_15 : decode cX11_log 15 = .ok (.iconst 1, 1) := by decide +kernel
theorem dX11_log_16 : decode cX11_log 16 = .ok (.isub, 1) := by decide +kernel
theorem dX11_log_17 : decode cX11_log 17 = .ok (.i2l, 1) := by decide +kernel
theorem dX11_log_18 : decode cX11_log 18 = .ok (.invokestatic 201, 3) := by decide +kernel
theorem dX11_log_21 : decode cX11_log 21 = .ok (.ifCond .eq 41, 3) := by decide +kernel
theorem dX11_log_24 : decode cX11_log 24 = .ok (.iload_n 2, 1) := by decide +kernel
theorem dX11_log_25 : decode cX11_log 25 = .ok (.i2l, 1) := by decide +kernel
theorem dX11_log_26 : decode cX11_log 26 = .ok (.lconst 0, 1) := by decide +kernel
theorem dX11_log_27 : decode cX11_log 27 = .ok (.ldc2_w 307, 3) := by decide +kernel
theorem dX11_log_30 : decode cX11_log 30 = .ok (.invokestatic 201, 3) := by decide +kernel
theorem dX11_log_33 : decode cX11_log 33 = .ok (.ifCond .eq 29, 3) := by decide +kernel
theorem dX11_log_36 : decode cX11_log 36 = .ok (.aload_n 0, 1) := by decide +kernel
theorem dX11_log_37 : decode cX11_log 37 = .ok (.getfield 55, 3) := by decide +kernel
theorem dX11_log_40 : decode cX11_log 40 = .ok (.bipush 64, 2) := by decide +kernel
theorem dX11_log_42 : decode cX11_log 42 = .ok (.iconst 3, 1) := by decide +kernel
theorem dX11_log_43 : decode cX11_log 43 = .ok (.aload_n 0, 1) := by decide +kernel
theorem dX11_log_44 : decode cX11_log 44 = .ok (.getfield 55, 3) := by decide +kernel
theorem dX11_log_47 : decode cX11_log 47 = .ok (.bipush 63, 2) := by decide +kernel
theorem dX11_log_49 : decode cX11_log 49 = .ok (.iaload, 1) := by decide +kernel
theorem dX11_log_50 : decode cX11_log 50 = .ok (.iconst 1, 1) := by decide +kernel
theorem dX11_log_51 : decode cX11_log 51 = .ok (.isub, 1) := by decide +kernel
theorem dX11_log_52 : decode cX11_log 52 = .ok (.iload_n 1, 1) := by decide +kernel
theorem dX11_log_53 : decode cX11_log 53 = .ok (.isub, 1) := by decide +kernel
theorem dX11_log_54 : decode cX11_log 54 = .ok (.imul, 1) := by decide +kernel
theorem dX11_log_55 : decode cX11_log 55 = .ok (.iadd, 1) := by decide +kernel
theorem dX11_log_56 : decode cX11_log 56 = .ok (.iload_n 2, 1) := by decide +kernel
theorem dX11_log_57 : decode cX11_log 57 = .ok (.iadd, 1) := by decide +kernel
theorem dX11_log_58 : decode cX11_log 58 = .ok (.iaload, 1) := by decide +kernel
theorem dX11_log_59 : decode cX11_log 59 = .ok (.goto 6, 3) := by decide +kernel
theorem dX11_log_62 : decode cX11_log 62 = .ok (.ldc_w 378, 3) := by decide +kernel
theorem dX11_log_65 : decode cX11_log 65 = .ok (.ireturn, 1) := by decide +kernel
theorem dX11_ahead_0 : decode cX11_ahead 0 = .ok (.aload_n 0, 1) := by decide +kernel
theorem dX11_ahead_1 : decode cX11_ahead 1 = .ok (.iconst 0, 1) := by decide +kernel
theorem dX11_ahead_2 : decode cX11_ahead 2 = .ok (.putfield 80, 3) := by decide +kernel
theorem dX11_ahead_5 : decode cX11_ahead 5 = .ok (.aload_n 0, 1) := by decide +kernel
theorem dX11_ahead_6 : decode cX11_ahead 6 = .ok (.getfield 260, 3) := by decide +kernel
theorem dX11_ahead_9 : decode cX11_ahead 9 = .ok (.ifCond .eq 25, 3) := by decide +kernel
theorem dX11_ahead_12 : decode cX11_ahead 12 = .ok (.iload_n 1, 1) := by decide +kernel
theorem dX11_ahead_13 : decode cX11_ahead 13 = .ok (.i2l, 1) := by decide +kernel
theorem dX11_ahead_14 : decode cX11_ahead 14 = .ok (.lconst 0, 1) := by decide +kernel
theorem dX11_ahead_15 : decode cX11_ahead 15 = .ok (.ldc2_w 368, 3) := by decide +kernel
theorem dX11_ahead_18 : decode cX11_ahead 18 = .ok (.invokestatic 201, 3) := by decide +kernel
theorem dX11_ahead_21 : decode cX11_ahead 21 = .ok (.ifCond .eq 13, 3) := by decide +kernel
theorem dX11_ahead_24 : decode cX11_ahead 24 = .ok (.iload_n 2, 1) := by decide +kernel
theorem dX11_ahead_25 : decode cX11_ahead 25 = .ok (.i2l, 1) := by decide +kernel
theorem dX11_ahead_26 : decode cX11_ahead 26 = .ok (.lconst 0, 1) := by decide +kernel
theorem dX11_ahead_27 : decode cX11_ahead 27 = .ok (.lconst 1, 1) := by decide +kernel
theorem dX11_ahead_28 : decode cX11_ahead 28 = .ok (.invokestatic 201, 3) := by decide +kernel
theorem dX11_ahead_31 : decode cX11_ahead 31 = .ok (.ifCond .ne 7, 3) := by decide +kernel
theorem dX11_ahead_34 : decode cX11_ahead 34 = .ok (.ldc_w 378, 3) := by decide +kernel
theorem dX11_ahead_37 : decode cX11_ahead 37 = .ok (.ireturn, 1) := by decide +kernel
theorem dX11_ahead_38 : decode cX11_ahead 38 = .ok (.aload_n 0, 1) := by decide +kernel
theorem dX11_ahead_39 : decode cX11_ahead 39 = .ok (.getfield 55, 3) := by decide +kernel
theorem dX11_ahead_42 : decode cX11_ahead 42 = .ok (.aload_n 0, 1) := by decide +kernel
theorem dX11_ahead_43 : decode cX11_ahead 43 = .ok (.getfield 58, 3) := by decide +kernel
theorem dX11_ahead_46 : decode cX11_ahead 46 = .ok (.invokestatic 379, 3) := by decide +kernel
theorem dX11_ahead_49 : decode cX11_ahead 49 = .ok (.iconst 0, 1) := by decide +kernel
theorem dX11_ahead_50 : decode cX11_ahead 50 = .ok (.istore_n 3, 1) := by decide +kernel
theorem dX11_ahead_51 : decode cX11_ahead 51 = .ok (.iload_n 3, 1) := by decide +kernel
theorem dX11_ahead_52 : decode cX11_ahead 52 = .ok (.iload_n 1, 1) := by decide +kernel
theorem dX11_ahead_53 : decode cX11_ahead 53 = .ok (.if_icmp .ge 18, 3) := by decide +kernel
theorem dX11_ahead_56 : decode cX11_ahead 56 = .ok (.aload_n 0, 1) := by decide +kernel
theorem dX11_ahead_57 : decode cX11_ahead 57 = .ok (.aload_n 0, 1) := by decide +kernel
theorem dX11_ahead_58 : decode cX11_ahead 58 = .ok (.getfield 58, 3) := by decide +kernel
theorem dX11_ahead_61 : decode cX11_ahead 61 = .ok (.iconst 0, 1) := by decide +kernel
theorem dX11_ahead_62 : decode cX11_ahead 62 = .ok (.invokevirtual 370, 3) := by decide +kernel
theorem dX11_ahead_65 : decode cX11_ahead 65 = .ok (.iinc 3 1, 3) := by decide +kernel
theorem dX11_ahead_68 : decode cX11_ahead 68 = .ok (.goto (-17), 3) := by decide +kernel
theorem dX11_ahead_71 : decode cX11_ahead 71 = .ok (.iload_n 2, 1) := by decide +kernel
theorem dX11_ahead_72 : decode cX11_ahead 72 = .ok (.ifCond .ne 13, 3) := by decide +kernel
theorem dX11_ahead_75 : decode cX11_ahead 75 = .ok (.aload_n 0, 1) := by decide +kernel
theorem dX11_ahead_76 : decode cX11_ahead 76 = .ok (.getfield 58, 3) := by decide +kernel
theorem dX11_ahead_79 : decode cX11_ahead 79 = .ok (.bipush 61, 2) := by decide +kernel
theorem dX11_ahead_81 : decode cX11_ahead 81 = .ok (.iaload, 1) := by decide +kernel
theorem dX11_ahead_82 : decode cX11_ahead 82 = .ok (.goto 10, 3) := by decide +kernel
theorem dX11_ahead_85 : decode cX11_ahead 85 = .ok (.aload_n 0, 1) := by decide +kernel
theorem dX11_ahead_86 : decode cX11_ahead 86 = .ok (.getfield 58, 3) := by decide +kernel
theorem dX11_ahead_89 : decode cX11_ahead 89 = .ok (.bipush 62, 2) := by decide +kernel
theorem dX11_ahead_91 : decode cX11_ahead 91 = .ok (.iaload, 1) := by decide +kernel
theorem dX11_ahead_92 : decode cX11_ahead 92 = .ok (.ireturn, 1) := by decide +kernel
theorem dX11_reigns_0 : decode cX11_reigns 0 = .ok (.iconst 0, 1) := by decide +kernel
theorem dX11_reigns_1 : decode cX11_reigns 1 = .ok (.istore 4, 2) := by decide +kernel
theorem dX11_reigns_3 : decode cX11_reigns 3 = .ok (.iconst 0, 1) := by decide +kernel
theorem dX11_reigns_4 : decode cX11_reigns 4 = .ok (.istore 5, 2) := by decide +kernel
theorem dX11_reigns_6 : decode cX11_reigns 6 = .ok (.iload 5, 2) := by decide +kernel
theorem dX11_reigns_8 : decode cX11_reigns 8 = .ok (.iload_n 2, 1) := by decide +kernel
theorem dX11_reigns_9 : decode cX11_reigns 9 = .ok (.if_icmp .ge 72, 3) := by decide +kernel
theorem dX11_reigns_12 : decode cX11_reigns 12 = .ok (.aload_n 0, 1) := by decide +kernel
theorem dX11_reigns_13 : decode cX11_reigns 13 = .ok (.aload_n 0, 1) := by decide +kernel
theorem dX11_reigns_14 : decode cX11_reigns 14 = .ok (.getfield 58, 3) := by decide +kernel
theorem dX11_reigns_17 : decode cX11_reigns 17 = .ok (.iconst 0, 1) := by decide +kernel
theorem dX11_reigns_18 : decode cX11_reigns 18 = .ok (.invokevirtual 370, 3) := by decide +kernel
theorem dX11_reigns_21 : decode cX11_reigns 21 = .ok (.aload_n 0, 1) := by decide +kernel
theorem dX11_reigns_22 : decode cX11_reigns 22 = .ok (.getfield 58, 3) := by decide +kernel
theorem dX11_reigns_25 : decode cX11_reigns 25 = .ok (.bipush 61, 2) := by decide +kernel
theorem dX11_reigns_27 : decode cX11_reigns 27 = .ok (.iaload, 1) := by decide +kernel
theorem dX11_reigns_28 : decode cX11_reigns 28 = .ok (.istore 6, 2) := by decide +kernel
theorem dX11_reigns_30 : decode cX11_reigns 30 = .ok (.iload 4, 2) := by decide +kernel
theorem dX11_reigns_32 : decode cX11_reigns 32 = .ok (.iload 6, 2) := by decide +kernel
theorem dX11_reigns_34 : decode cX11_reigns 34 = .ok (.iconst (-1), 1) := by decide +kernel
theorem dX11_reigns_35 : decode cX11_reigns 35 = .ok (.if_icmp .eq 36, 3) := by decide +kernel
theorem dX11_reigns_38 : decode cX11_reigns 38 = .ok (.iload_n 3, 1) := by decide +kernel
theorem dX11_reigns_39 : decode cX11_reigns 39 = .ok (.ifCond .ne 12, 3) := by decide +kernel
theorem dX11_reigns_42 : decode cX11_reigns 42 = .ok (.iload 6, 2) := by decide +kernel
theorem dX11_reigns_44 : decode cX11_reigns 44 = .ok (.iload_n 1, 1) := by decide +kernel
theorem dX11_reigns_45 : decode cX11_reigns 45 = .ok (.if_icmp .ne 26, 3) := by decide +kernel
theorem dX11_reigns_48 : decode cX11_reigns 48 = .ok (.goto 19, 3) := by decide +kernel
theorem dX11_reigns_51 : decode cX11_reigns 51 = .ok (.aload_n 0, 1) := by decide +kernel
theorem dX11_reigns_52 : decode cX11_reigns 52 = .ok (.getfield 37, 3) := by decide +kernel
theorem dX11_reigns_55 : decode cX11_reigns 55 = .ok (.bipush 6, 2) := by decide +kernel
theorem dX11_reigns_57 : decode cX11_reigns 57 = .ok (.iload 6, 2) := by decide +kernel
theorem dX11_reigns_59 : decode cX11_reigns 59 = .ok (.imul, 1) := by decide +kernel
theorem dX11_reigns_60 : decode cX11_reigns 60 = .ok (.iconst 3, 1) := by decide +kernel
theorem dX11_reigns_61 : decode cX11_reigns 61 = .ok (.iadd, 1) := by decide +kernel
theorem dX11_reigns_62 : decode cX11_reigns 62 = .ok (.iaload, 1) := by decide +kernel
theorem dX11_reigns_63 : decode cX11_reigns 63 = .ok (.iload_n 1, 1) := by decide +kernel
theorem dX11_reigns_64 : decode cX11_reigns 64 = .ok (.if_icmp .ne 7, 3) := by decide +kernel
theorem dX11_reigns_67 : decode cX11_reigns 67 = .ok (.iconst 1, 1) := by decide +kernel
theorem dX11_reigns_68 : decode cX11_reigns 68 = .ok (.goto 4, 3) := by decide +kernel
theorem dX11_reigns_71 : decode cX11_reigns 71 = .ok (.iconst 0, 1) := by decide +kernel
theorem dX11_reigns_72 : decode cX11_reigns 72 = .ok (.iadd, 1) := by decide +kernel
theorem dX11_reigns_73 : decode cX11_reigns 73 = .ok (.istore 4, 2) := by decide +kernel
theorem dX11_reigns_75 : decode cX11_reigns 75 = .ok (.iinc 5 1, 3) := by decide +kernel
theorem dX11_reigns_78 : decode cX11_reigns 78 = .ok (.goto (-72), 3) := by decide +kernel
theorem dX11_reigns_81 : decode cX11_reigns 81 = .ok (.iload 4, 2) := by decide +kernel
theorem dX11_reigns_83 : decode cX11_reigns 83 = .ok (.ireturn, 1) := by decide +kernel
theorem dX11_isNursery_0 : decode cX11_isNursery 0 = .ok (.aload_n 0, 1) := by decide +kernel
theorem dX11_isNursery_1 : decode cX11_isNursery 1 = .ok (.getfield 260, 3) := by decide +kernel
theorem dX11_isNursery_4 : decode cX11_isNursery 4 = .ok (.ifCond .le 19, 3) := by decide +kernel
theorem dX11_isNursery_7 : decode cX11_isNursery 7 = .ok (.iload_n 1, 1) := by decide +kernel
theorem dX11_isNursery_8 : decode cX11_isNursery 8 = .ok (.i2l, 1) := by decide +kernel
theorem dX11_isNursery_9 : decode cX11_isNursery 9 = .ok (.lconst 0, 1) := by decide +kernel
theorem dX11_isNursery_10 : decode cX11_isNursery 10 = .ok (.ldc2_w 383, 3) := by decide +kernel
theorem dX11_isNursery_13 : decode cX11_isNursery 13 = .ok (.invokestatic 201, 3) := by decide +kernel
theorem dX11_isNursery_16 : decode cX11_isNursery 16 = .ok (.ifCond .eq 7, 3) := by decide +kernel
theorem dX11_isNursery_19 : decode cX11_isNursery 19 = .ok (.iconst 1, 1) := by decide +kernel
theorem dX11_isNursery_20 : decode cX11_isNursery 20 = .ok (.goto 4, 3) := by decide +kernel
theorem dX11_isNursery_23 : decode cX11_isNursery 23 = .ok (.iconst 0, 1) := by decide +kernel
theorem dX11_isNursery_24 : decode cX11_isNursery 24 = .ok (.ireturn, 1) := by decide +kernel
theorem dX11_reign_0 : decode cX11_reign 0 = .ok (.aload_n 0, 1) := by decide +kernel
theorem dX11_reign_1 : decode cX11_reign 1 = .ok (.iconst 0, 1) := by decide +kernel
theorem dX11_reign_2 : decode cX11_reign 2 = .ok (.putfield 80, 3) := by decide +kernel
theorem dX11_reign_5 : decode cX11_reign 5 = .ok (.iload_n 3, 1) := by decide +kernel
theorem dX11_reign_6 : decode cX11_reign 6 = .ok (.i2l, 1) := by decide +kernel
theorem dX11_reign_7 : decode cX11_reign 7 = .ok (.lconst 0, 1) := by decide +kernel
theorem dX11_reign_8 : decode cX11_reign 8 = .ok (.lconst 1, 1) := by decide +kernel
theorem dX11_reign_9 : decode cX11_reign 9 = .ok (.invokestatic 201, 3) := by decide +kernel
theorem dX11_reign_12 : decode cX11_reign 12 = .ok (.ifCond .eq 38, 3) := by decide +kernel
theorem dX11_reign_15 : decode cX11_reign 15 = .ok (.iload_n 2, 1) := by decide +kernel
theorem dX11_reign_16 : decode cX11_reign 16 = .ok (.i2l, 1) := by decide +kernel
theorem dX11_reign_17 : decode cX11_reign 17 = .ok (.lconst 1, 1) := by decide +kernel
theorem dX11_reign_18 : decode cX11_reign 18 = .ok (.ldc2_w 368, 3) := by decide +kernel
theorem dX11_reign_21 : decode cX11_reign 21 = .ok (.invokestatic 201, 3) := by decide +kernel
theorem dX11_reign_24 : decode cX11_reign 24 = .ok (.ifCond .eq 26, 3) := by decide +kernel
theorem dX11_reign_27 : decode cX11_reign 27 = .ok (.iload_n 3, 1) := by decide +kernel
theorem dX11_reign_28 : decode cX11_reign 28 = .ok (.ifCond .ne 14, 3) := by decide +kernel
theorem dX11_reign_31 : decode cX11_reign 31 = .ok (.aload_n 0, 1) := by decide +kernel
theorem dX11_reign_32 : decode cX11_reign 32 = .ok (.iload_n 1, 1) := by decide +kernel
theorem dX11_reign_33 : decode cX11_reign 33 = .ok (.invokevirtual 296, 3) := by decide +kernel
theorem dX11_reign_36 : decode cX11_reign 36 = .ok (.ifCond .ne 16, 3) := by decide +kernel
theorem dX11_reign_39 : decode cX11_reign 39 = .ok (.goto 11, 3) := by decide +kernel
theorem dX11_reign_42 : decode cX11_reign 42 = .ok (.aload_n 0, 1) := by decide +kernel
theorem dX11_reign_43 : decode cX11_reign 43 = .ok (.iload_n 1, 1) := by decide +kernel
theorem dX11_reign_44 : decode cX11_reign 44 = .ok (.invokevirtual 385, 3) := by decide +kernel
theorem dX11_reign_47 : decode cX11_reign 47 = .ok (.ifCond .ne 5, 3) := by decide +kernel
theorem dX11_reign_50 : decode cX11_reign 50 = .ok (.iconst (-1), 1) := by decide +kernel
theorem dX11_reign_51 : decode cX11_reign 51 = .ok (.ireturn, 1) := by decide +kernel
theorem dX11_reign_52 : decode cX11_reign 52 = .ok (.aload_n 0, 1) := by decide +kernel
theorem dX11_reign_53 : decode cX11_reign 53 = .ok (.getfield 55, 3) := by decide +kernel
theorem dX11_reign_56 : decode cX11_reign 56 = .ok (.aload_n 0, 1) := by decide +kernel
theorem dX11_reign_57 : decode cX11_reign 57 = .ok (.getfield 58, 3) := by decide +kernel
theorem dX11_reign_60 : decode cX11_reign 60 = .ok (.invokestatic 379, 3) := by decide +kernel
theorem dX11_reign_63 : decode cX11_reign 63 = .ok (.aload_n 0, 1) := by decide +kernel
theorem dX11_reign_64 : decode cX11_reign 64 = .ok (.iload_n 1, 1) := by decide +kernel
theorem dX11_reign_65 : decode cX11_reign 65 = .ok (.iload_n 2, 1) := by decide +kernel
theorem dX11_reign_66 : decode cX11_reign 66 = .ok (.iload_n 3, 1) := by decide +kernel
theorem dX11_reign_67 : decode cX11_reign 67 = .ok (.invokevirtual 388, 3) := by decide +kernel
theorem dX11_reign_70 : decode cX11_reign 70 = .ok (.ireturn, 1) := by decide +kernel
theorem dX11_reignBy_0 : decode cX11_reignBy 0 = .ok (.aload_n 0, 1) := by decide +kernel
theorem dX11_reignBy_1 : decode cX11_reignBy 1 = .ok (.getfield 55, 3) := by decide +kernel
theorem dX11_reignBy_4 : decode cX11_reignBy 4 = .ok (.aload_n 0, 1) := by decide +kernel
theorem dX11_reignBy_5 : decode cX11_reignBy 5 = .ok (.getfield 58, 3) := by decide +kernel
theorem dX11_reignBy_8 : decode cX11_reignBy 8 = .ok (.invokestatic 379, 3) := by decide +kernel
theorem dX11_reignBy_11 : decode cX11_reignBy 11 = .ok (.aload_n 0, 1) := by decide +kernel
theorem dX11_reignBy_12 : decode cX11_reignBy 12 = .ok (.iload_n 1, 1) := by decide +kernel
theorem dX11_reignBy_13 : decode cX11_reignBy 13 = .ok (.putfield 65, 3) := by decide +kernel
theorem dX11_reignBy_16 : decode cX11_reignBy 16 = .ok (.aload_n 0, 1) := by decide +kernel
theorem dX11_reignBy_17 : decode cX11_reignBy 17 = .ok (.iconst 0, 1) := by decide +kernel
theorem dX11_reignBy_18 : decode cX11_reignBy 18 = .ok (.putfield 328, 3) := by decide +kernel
theorem dX11_reignBy_21 : decode cX11_reignBy 21 = .ok (.aload_n 0, 1) := by decide +kernel
theorem dX11_reignBy_22 : decode cX11_reignBy 22 = .ok (.iload_n 3, 1) := by decide +kernel
theorem dX11_reignBy_23 : decode cX11_reignBy 23 = .ok (.putfield 331, 3) := by decide +kernel
theorem dX11_reignBy_26 : decode cX11_reignBy 26 = .ok (.iload_n 3, 1) := by decide +kernel
theorem dX11_reignBy_27 : decode cX11_reignBy 27 = .ok (.ifCond .le 12, 3) := by decide +kernel
theorem dX11_reignBy_30 : decode cX11_reignBy 30 = .ok (.aload_n 0, 1) := by decide +kernel
theorem dX11_reignBy_31 : decode cX11_reignBy 31 = .ok (.aload_n 0, 1) := by decide +kernel
theorem dX11_reignBy_32 : decode cX11_reignBy 32 = .ok (.getfield 58, 3) := by decide +kernel
theorem dX11_reignBy_35 : decode cX11_reignBy 35 = .ok (.iload_n 1, 1) := by decide +kernel
theorem dX11_reignBy_36 : decode cX11_reignBy 36 = .ok (.invokevirtual 334, 3) := by decide +kernel
theorem dX11_reignBy_39 : decode cX11_reignBy 39 = .ok (.aload_n 0, 1) := by decide +kernel
theorem dX11_reignBy_40 : decode cX11_reignBy 40 = .ok (.iload_n 1, 1) := by decide +kernel
theorem dX11_reignBy_41 : decode cX11_reignBy 41 = .ok (.iload_n 2, 1) := by decide +kernel
theorem dX11_reignBy_42 : decode cX11_reignBy 42 = .ok (.iconst 0, 1) := by decide +kernel
theorem dX11_reignBy_43 : decode cX11_reignBy 43 = .ok (.invokevirtual 388, 3) := by decide +kernel
theorem dX11_reignBy_46 : decode cX11_reignBy 46 = .ok (.istore 4, 2) := by decide +kernel
theorem dX11_reignBy_48 : decode cX11_reignBy 48 = .ok (.aload_n 0, 1) := by decide +kernel
theorem dX11_reignBy_49 : decode cX11_reignBy 49 = .ok (.iconst (-1), 1) := by decide +kernel
theorem dX11_reignBy_50 : decode cX11_reignBy 50 = .ok (.putfield 65, 3) := by decide +kernel
theorem dX11_reignBy_53 : decode cX11_reignBy 53 = .ok (.iload 4, 2) := by decide +kernel
theorem dX11_reignBy_55 : decode cX11_reignBy 55 = .ok (.ireturn, 1) := by decide +kernel
theorem dX11_goPlan_0 : decode cX11_goPlan 0 = .ok (.iload_n 3, 1) := by decide +kernel
theorem dX11_goPlan_1 : decode cX11_goPlan 1 = .ok (.iload 4, 2) := by decide +kernel
theorem dX11_goPlan_3 : decode cX11_goPlan 3 = .ok (.if_icmp .ne 40, 3) := by decide +kernel
theorem dX11_goPlan_6 : decode cX11_goPlan 6 = .ok (.aload_n 0, 1) := by decide +kernel
theorem dX11_goPlan_7 : decode cX11_goPlan 7 = .ok (.iload_n 1, 1) := by decide +kernel
theorem dX11_goPlan_8 : decode cX11_goPlan 8 = .ok (.iload_n 2, 1) := by decide +kernel
theorem dX11_goPlan_9 : decode cX11_goPlan 9 = .ok (.iload_n 3, 1) := by decide +kernel
theorem dX11_goPlan_10 : decode cX11_goPlan 10 = .ok (.invokevirtual 392, 3) := by decide +kernel
theorem dX11_goPlan_13 : decode cX11_goPlan 13 = .ok (.istore 6, 2) := by decide +kernel
theorem dX11_goPlan_15 : decode cX11_goPlan 15 = .ok (.iload 6, 2) := by decide +kernel
theorem dX11_goPlan_17 : decode cX11_goPlan 17 = .ok (.aload_n 0, 1) := by decide +kernel
theorem dX11_goPlan_18 : decode cX11_goPlan 18 = .ok (.getfield 395, 3) := by decide +kernel
theorem dX11_goPlan_21 : decode cX11_goPlan 21 = .ok (.if_icmp .gt 4, 3) := by decide +kernel
theorem dX11_goPlan_24 : decode cX11_goPlan 24 = .ok (.return_, 1) := by decide +kernel
theorem dX11_goPlan_25 : decode cX11_goPlan 25 = .ok (.aload_n 0, 1) := by decide +kernel
theorem dX11_goPlan_26 : decode cX11_goPlan 26 = .ok (.iload 6, 2) := by decide +kernel
theorem dX11_goPlan_28 : decode cX11_goPlan 28 = .ok (.putfield 395, 3) := by decide +kernel
theorem dX11_goPlan_31 : decode cX11_goPlan 31 = .ok (.aload_n 0, 1) := by decide +kernel
theorem dX11_goPlan_32 : decode cX11_goPlan 32 = .ok (.iload 5, 2) := by decide +kernel
theorem dX11_goPlan_34 : decode cX11_goPlan 34 = .ok (.putfield 398, 3) := by decide +kernel
theorem dX11_goPlan_37 : decode cX11_goPlan 37 = .ok (.aload_n 0, 1) := by decide +kernel
theorem dX11_goPlan_38 : decode cX11_goPlan 38 = .ok (.iload_n 3, 1) := by decide +kernel
theorem dX11_goPlan_39 : decode cX11_goPlan 39 = .ok (.putfield 401, 3) := by decide +kernel
theorem dX11_goPlan_42 : decode cX11_goPlan 42 = .ok (.return_, 1) := by decide +kernel
theorem dX11_goPlan_43 : decode cX11_goPlan 43 = .ok (.iconst 0, 1) := by decide +kernel
theorem dX11_goPlan_44 : decode cX11_goPlan 44 = .ok (.istore 6, 2) := by decide +kernel
theorem dX11_goPlan_46 : decode cX11_goPlan 46 = .ok (.iload 6, 2) := by decide +kernel
theorem dX11_goPlan_48 : decode cX11_goPlan 48 = .ok (.bipush 9, 2) := by decide +kernel
theorem dX11_goPlan_50 : decode cX11_goPlan 50 = .ok (.if_icmp .ge 125, 3) := by decide +kernel
theorem dX11_goPlan_53 : decode cX11_goPlan 53 = .ok (.aload_n 0, 1) := by decide +kernel
theorem dX11_goPlan_54 : decode cX11_goPlan 54 = .ok (.getfield 55, 3) := by decide +kernel
theorem dX11_goPlan_57 : decode cX11_goPlan 57 = .ok (.iload_n 1, 1) := by decide +kernel
theorem dX11_goPlan_58 : decode cX11_goPlan 58 = .ok (.invokestatic 272, 3) := by decide +kernel
theorem dX11_goPlan_61 : decode cX11_goPlan 61 = .ok (.iload 6, 2) := by decide +kernel
theorem dX11_goPlan_63 : decode cX11_goPlan 63 = .ok (.invokestatic 213, 3) := by decide +kernel
theorem dX11_goPlan_66 : decode cX11_goPlan 66 = .ok (.ifCond .ne 26, 3) := by decide +kernel
theorem dX11_goPlan_69 : decode cX11_goPlan 69 = .ok (.aload_n 0, 1) := by decide +kernel
theorem dX11_goPlan_70 : decode cX11_goPlan 70 = .ok (.getfield 55, 3) := by decide +kernel
theorem dX11_goPlan_73 : decode cX11_goPlan 73 = .ok (.bipush 7, 2) := by decide +kernel
theorem dX11_goPlan_75 : decode cX11_goPlan 75 = .ok (.iload_n 1, 1) := by decide +kernel
theorem dX11_goPlan_76 : decode cX11_goPlan 76 = .ok (.imul, 1) := by decide +kernel
theorem dX11_goPlan_77 : decode cX11_goPlan 77 = .ok (.iconst 5, 1) := by decide +kernel
theorem dX11_goPlan_78 : decode cX11_goPlan 78 = .ok (.iadd, 1) := by decide +kernel
theorem dX11_goPlan_79 : decode cX11_goPlan 79 = .ok (.iaload, 1) := by decide +kernel
theorem dX11_goPlan_80 : decode cX11_goPlan 80 = .ok (.iload 6, 2) := by decide +kernel
theorem dX11_goPlan_82 : decode cX11_goPlan 82 = .ok (.invokestatic 213, 3) := by decide +kernel
theorem dX11_goPlan_85 : decode cX11_goPlan 85 = .ok (.ifCond .ne 7, 3) := by decide +kernel
theorem dX11_goPlan_88 : decode cX11_goPlan 88 = .ok (.iconst 1, 1) := by decide +kernel
theorem dX11_goPlan_89 : decode cX11_goPlan 89 = .ok (.goto 4, 3) := by decide +kernel
theorem dX11_goPlan_92 : decode cX11_goPlan 92 = .ok (.iconst 0, 1) := by decide +kernel
theorem dX11_goPlan_93 : decode cX11_goPlan 93 = .ok (.istore 7, 2) := by decide +kernel
theorem dX11_goPlan_95 : decode cX11_goPlan 95 = .ok (.iconst 0, 1) := by decide +kernel
theorem dX11_goPlan_96 : decode cX11_goPlan 96 = .ok (.istore 8, 2) := by decide +kernel
theorem dX11_goPlan_98 : decode cX11_goPlan 98 = .ok (.iload 8, 2) := by decide +kernel
theorem dX11_goPlan_100 : decode cX11_goPlan 100 = .ok (.iload_n 3, 1) := by decide +kernel
theorem dX11_goPlan_101 : decode cX11_goPlan 101 = .ok (.if_icmp .ge 33, 3) := by decide +kernel
theorem dX11_goPlan_104 : decode cX11_goPlan 104 = .ok (.iload 7, 2) := by decide +kernel
theorem dX11_goPlan_106 : decode cX11_goPlan 106 = .ok (.ifCond .eq 19, 3) := by decide +kernel
theorem dX11_goPlan_109 : decode cX11_goPlan 109 = .ok (.aload_n 0, 1) := by decide +kernel
theorem dX11_goPlan_110 : decode cX11_goPlan 110 = .ok (.getfield 68, 3) := by decide +kernel
theorem dX11_goPlan_113 : decode cX11_goPlan 113 = .ok (.iload 8, 2) := by decide +kernel
theorem dX11_goPlan_115 : decode cX11_goPlan 115 = .ok (.iaload, 1) := by decide +kernel
theorem dX11_goPlan_116 : decode cX11_goPlan 116 = .ok (.iload 6, 2) := by decide +kernel
theorem dX11_goPlan_118 : decode cX11_goPlan 118 = .ok (.if_icmp .eq 7, 3) := by decide +kernel
theorem dX11_goPlan_121 : decode cX11_goPlan 121 = .ok (.iconst 1, 1) := by decide +kernel
theorem dX11_goPlan_122 : decode cX11_goPlan 122 = .ok (.goto 4, 3) := by decide +kernel
theorem dX11_goPlan_125 : decode cX11_goPlan 125 = .ok (.iconst 0, 1) := by decide +kernel
theorem dX11_goPlan_126 : decode cX11_goPlan 126 = .ok (.istore 7, 2) := by decide +kernel
theorem dX11_goPlan_128 : decode cX11_goPlan 128 = .ok (.iinc 8 1, 3) := by decide +kernel
theorem dX11_goPlan_131 : decode cX11_goPlan 131 = .ok (.goto (-33), 3) := by decide +kernel
theorem dX11_goPlan_134 : decode cX11_goPlan 134 = .ok (.iload 7, 2) := by decide +kernel
theorem dX11_goPlan_136 : decode cX11_goPlan 136 = .ok (.ifCond .ne 6, 3) := by decide +kernel
theorem dX11_goPlan_139 : decode cX11_goPlan 139 = .ok (.goto 30, 3) := by decide +kernel
theorem dX11_goPlan_142 : decode cX11_goPlan 142 = .ok (.aload_n 0, 1) := by decide +kernel
theorem dX11_goPlan_143 : decode cX11_goPlan 143 = .ok (.getfield 68, 3) := by decide +kernel
theorem dX11_goPlan_146 : decode cX11_goPlan 146 = .ok (.iload_n 3, 1) := by decide +kernel
theorem dX11_goPlan_147 : decode cX11_goPlan 147 = .ok (.iload 6, 2) := by decide +kernel
theorem dX11_goPlan_149 : decode cX11_goPlan 149 = .ok (.iastore, 1) := by decide +kernel
theorem dX11_goPlan_150 : decode cX11_goPlan 150 = .ok (.aload_n 0, 1) := by decide +kernel
theorem dX11_goPlan_151 : decode cX11_goPlan 151 = .ok (.iload_n 1, 1) := by decide +kernel
theorem dX11_goPlan_152 : decode cX11_goPlan 152 = .ok (.iload_n 2, 1) := by decide +kernel
theorem dX11_goPlan_153 : decode cX11_goPlan 153 = .ok (.iload_n 3, 1) := by decide +kernel
theorem dX11_goPlan_154 : decode cX11_goPlan 154 = .ok (.iconst 1, 1) := by decide +kernel
theorem dX11_goPlan_155 : decode cX11_goPlan 155 = .ok (.iadd, 1) := by decide +kernel
theorem dX11_goPlan_156 : decode cX11_goPlan 156 = .ok (.iload 4, 2) := by decide +kernel
theorem dX11_goPlan_158 : decode cX11_goPlan 158 = .ok (.bipush 10, 2) := by decide +kernel
theorem dX11_goPlan_160 : decode cX11_goPlan 160 = .ok (.iload 5, 2) := by decide +kernel
theorem dX11_goPlan_162 : decode cX11_goPlan 162 = .ok (.imul, 1) := by decide +kernel
theorem dX11_goPlan_163 : decode cX11_goPlan 163 = .ok (.iload 6, 2) := by decide +kernel
theorem dX11_goPlan_165 : decode cX11_goPlan 165 = .ok (.iadd, 1) := by decide +kernel
theorem dX11_goPlan_166 : decode cX11_goPlan 166 = .ok (.invokevirtual 404, 3) := by decide +kernel
theorem dX11_goPlan_169 : decode cX11_goPlan 169 = .ok (.iinc 6 1, 3) := by decide +kernel
theorem dX11_goPlan_172 : decode cX11_goPlan 172 = .ok (.goto (-126), 3) := by decide +kernel
theorem dX11_goPlan_175 : decode cX11_goPlan 175 = .ok (.return_, 1) := by decide +kernel
theorem dX11_plan_0 : decode cX11_plan 0 = .ok (.aload_n 0, 1) := by decide +kernel
theorem dX11_plan_1 : decode cX11_plan 1 = .ok (.iconst 0, 1) := by decide +kernel
theorem dX11_plan_2 : decode cX11_plan 2 = .ok (.putfield 80, 3) := by decide +kernel
theorem dX11_plan_5 : decode cX11_plan 5 = .ok (.aload_n 0, 1) := by decide +kernel
theorem dX11_plan_6 : decode cX11_plan 6 = .ok (.iload_n 1, 1) := by decide +kernel
theorem dX11_plan_7 : decode cX11_plan 7 = .ok (.invokevirtual 296, 3) := by decide +kernel
theorem dX11_plan_10 : decode cX11_plan 10 = .ok (.ifCond .eq 42, 3) := by decide +kernel
theorem dX11_plan_13 : decode cX11_plan 13 = .ok (.aload_n 0, 1) := by decide +kernel
theorem dX11_plan_14 : decode cX11_plan 14 = .ok (.getfield 55, 3) := by decide +kernel
theorem dX11_plan_17 : decode cX11_plan 17 = .ok (.bipush 7, 2) := by decide +kernel
theorem dX11_plan_19 : decode cX11_plan 19 = .ok (.iload_n 1, 1) := by decide +kernel
theorem dX11_plan_20 : decode cX11_plan 20 = .ok (.imul, 1) := by decide +kernel
theorem dX11_plan_21 : decode cX11_plan 21 = .ok (.iconst 3, 1) := by decide +kernel
theorem dX11_plan_22 : decode cX11_plan 22 = .ok (.iadd, 1) := by decide +kernel
theorem dX11_plan_23 : decode cX11_plan 23 = .ok (.iaload, 1) := by decide +kernel
theorem dX11_plan_24 : decode cX11_plan 24 = .ok (.iconst (-1), 1) := by decide +kernel
theorem dX11_plan_25 : decode cX11_plan 25 = .ok (.if_icmp .ne 27, 3) := by decide +kernel
theorem dX11_plan_28 : decode cX11_plan 28 = .ok (.iload_n 2, 1) := by decide +kernel
theorem dX11_plan_29 : decode cX11_plan 29 = .ok (.i2l, 1) := by decide +kernel
theorem dX11_plan_30 : decode cX11_plan 30 = .ok (.lconst 1, 1) := by decide +kernel
theorem dX11_plan_31 : decode cX11_plan 31 = .ok (.ldc2_w 408, 3) := by decide +kernel
theorem dX11_plan_34 : decode cX11_plan 34 = .ok (.invokestatic 201, 3) := by decide +kernel
theorem dX11_plan_37 : decode cX11_plan 37 = .ok (.ifCond .eq 15, 3) := by decide +kernel
theorem dX11_plan_40 : decode cX11_plan 40 = .ok (.iload_n 3, 1) := by decide +kernel
theorem dX11_plan_41 : decode cX11_plan 41 = .ok (.i2l, 1) := by decide +kernel
theorem dX11_plan_42 : decode cX11_plan 42 = .ok (.lconst 0, 1) := by decide +kernel
theorem dX11_plan_43 : decode cX11_plan 43 = .ok (.ldc2_w 307, 3) := by decide +kernel
theorem dX11_plan_46 : decode cX11_plan 46 = .ok (.invokestatic 201, 3) := by decide +kernel
theorem dX11_plan_49 : decode cX11_plan 49 = .ok (.ifCond .ne 7, 3) := by decide +kernel
theorem dX11_plan_52 : decode cX11_plan 52 = .ok (.ldc_w 378, 3) := by decide +kernel
theorem dX11_plan_55 : decode cX11_plan 55 = .ok (.ireturn, 1) := by decide +kernel
theorem dX11_plan_56 : decode cX11_plan 56 = .ok (.aload_n 0, 1) := by decide +kernel
theorem dX11_plan_57 : decode cX11_plan 57 = .ok (.iconst (-1), 1) := by decide +kernel
theorem dX11_plan_58 : decode cX11_plan 58 = .ok (.putfield 395, 3) := by decide +kernel
theorem dX11_plan_61 : decode cX11_plan 61 = .ok (.iconst 0, 1) := by decide +kernel
theorem dX11_plan_62 : decode cX11_plan 62 = .ok (.istore 4, 2) := by decide +kernel
theorem dX11_plan_64 : decode cX11_plan 64 = .ok (.iload 4, 2) := by decide +kernel
theorem dX11_plan_66 : decode cX11_plan 66 = .ok (.iconst 4, 1) := by decide +kernel
theorem dX11_plan_67 : decode cX11_plan 67 = .ok (.if_icmp .ge 19, 3) := by decide +kernel
theorem dX11_plan_70 : decode cX11_plan 70 = .ok (.aload_n 0, 1) := by decide +kernel
theorem dX11_plan_71 : decode cX11_plan 71 = .ok (.iload_n 1, 1) := by decide +kernel
theorem dX11_plan_72 : decode cX11_plan 72 = .ok (.iload_n 2, 1) := by decide +kernel
theorem dX11_plan_73 : decode cX11_plan 73 = .ok (.iconst 0, 1) := by decide +kernel
theorem dX11_plan_74 : decode cX11_plan 74 = .ok (.iload 4, 2) := by decide +kernel
theorem dX11_plan_76 : decode cX11_plan 76 = .ok (.iconst 0, 1) := by decide +kernel
theorem dX11_plan_77 : decode cX11_plan 77 = .ok (.invokevirtual 404, 3) := by decide +kernel
theorem dX11_plan_80 : decode cX11_plan 80 = .ok (.iinc 4 1, 3) := by decide +kernel
theorem dX11_plan_83 : decode cX11_plan 83 = .ok (.goto (-19), 3) := by decide +kernel
theorem dX11_plan_86 : decode cX11_plan 86 = .ok (.iload_n 3, 1) := by decide +kernel
theorem dX11_plan_87 : decode cX11_plan 87 = .ok (.ifCond .ne 19, 3) := by decide +kernel
theorem dX11_plan_90 : decode cX11_plan 90 = .ok (.aload_n 0, 1) := by decide +kernel
theorem dX11_plan_91 : decode cX11_plan 91 = .ok (.getfield 401, 3) := by decide +kernel
theorem dX11_plan_94 : decode cX11_plan 94 = .ok (.ifCond .ne 7, 3) := by decide +kernel
theorem dX11_plan_97 : decode cX11_plan 97 = .ok (.iconst (-1), 1) := by decide +kernel
theorem dX11_plan_98 : decode cX11_plan 98 = .ok (.goto 7, 3) := by decide +kernel
theorem dX11_plan_101 : decode cX11_plan 101 = .ok (.aload_n 0, 1) := by decide +kernel
theorem dX11_plan_102 : decode cX11_plan 102 = .ok (.getfield 398, 3) := by decide +kernel
theorem dX11_plan_105 : decode cX11_plan 105 = .ok (.ireturn, 1) := by decide +kernel
theorem dX11_plan_106 : decode cX11_plan 106 = .ok (.iload_n 3, 1) := by decide +kernel
theorem dX11_plan_107 : decode cX11_plan 107 = .ok (.iconst 1, 1) := by decide +kernel
theorem dX11_plan_108 : decode cX11_plan 108 = .ok (.if_icmp .ne 10, 3) := by decide +kernel
theorem dX11_plan_111 : decode cX11_plan 111 = .ok (.aload_n 0, 1) := by decide +kernel
theorem dX11_plan_112 : decode cX11_plan 112 = .ok (.getfield 395, 3) := by decide +kernel
theorem dX11_plan_115 : decode cX11_plan 115 = .ok (.goto 7, 3) := by decide +kernel
theorem dX11_plan_118 : decode cX11_plan 118 = .ok (.aload_n 0, 1) := by decide +kernel
theorem dX11_plan_119 : decode cX11_plan 119 = .ok (.getfield 401, 3) := by decide +kernel
theorem dX11_plan_122 : decode cX11_plan 122 = .ok (.ireturn, 1) := by decide +kernel
theorem dX11_rulesAll_0 : decode cX11_rulesAll 0 = .ok (.aload_n 0, 1) := by decide +kernel
theorem dX11_rulesAll_1 : decode cX11_rulesAll 1 = .ok (.getfield 55, 3) := by decide +kernel
theorem dX11_rulesAll_4 : decode cX11_rulesAll 4 = .ok (.aload_n 0, 1) := by decide +kernel
theorem dX11_rulesAll_5 : decode cX11_rulesAll 5 = .ok (.getfield 58, 3) := by decide +kernel
theorem dX11_rulesAll_8 : decode cX11_rulesAll 8 = .ok (.invokestatic 379, 3) := by decide +kernel
theorem dX11_rulesAll_11 : decode cX11_rulesAll 11 = .ok (.iconst 0, 1) := by decide +kernel
theorem dX11_rulesAll_12 : decode cX11_rulesAll 12 = .ok (.istore 5, 2) := by decide +kernel
theorem dX11_rulesAll_14 : decode cX11_rulesAll 14 = .ok (.iload 5, 2) := by decide +kernel
theorem dX11_rulesAll_16 : decode cX11_rulesAll 16 = .ok (.aload_n 0, 1) := by decide +kernel
theorem dX11_rulesAll_17 : decode cX11_rulesAll 17 = .ok (.getfield 260, 3) := by decide +kernel
theorem dX11_rulesAll_20 : decode cX11_rulesAll 20 = .ok (.if_icmp .ge 29, 3) := by decide +kernel
theorem dX11_rulesAll_23 : decode cX11_rulesAll 23 = .ok (.iload 4, 2) := by decide +kernel
theorem dX11_rulesAll_25 : decode cX11_rulesAll 25 = .ok (.iload 5, 2) := by decide +kernel
theorem dX11_rulesAll_27 : decode cX11_rulesAll 27 = .ok (.invokestatic 213, 3) := by decide +kernel
theorem dX11_rulesAll_30 : decode cX11_rulesAll 30 = .ok (.ifCond .eq 13, 3) := by decide +kernel
theorem dX11_rulesAll_33 : decode cX11_rulesAll 33 = .ok (.aload_n 0, 1) := by decide +kernel
theorem dX11_rulesAll_34 : decode cX11_rulesAll 34 = .ok (.getfield 58, 3) := by decide +kernel
theorem dX11_rulesAll_37 : decode cX11_rulesAll 37 = .ok (.iload 5, 2) := by decide +kernel
theorem dX11_rulesAll_39 : decode cX11_rulesAll 39 = .ok (.iload_n 2, 1) := by decide +kernel
theorem dX11_rulesAll_40 : decode cX11_rulesAll 40 = .ok (.invokestatic 362, 3) := by decide +kernel
theorem dX11_rulesAll_43 : decode cX11_rulesAll 43 = .ok (.iinc 5 1, 3) := by decide +kernel
theorem dX11_rulesAll_46 : decode cX11_rulesAll 46 = .ok (.goto (-32), 3) := by decide +kernel
theorem dX11_rulesAll_49 : decode cX11_rulesAll 49 = .ok (.aload_n 0, 1) := by decide +kernel
theorem dX11_rulesAll_50 : decode cX11_rulesAll 50 = .ok (.iload_n 1, 1) := by decide +kernel
theorem dX11_rulesAll_51 : decode cX11_rulesAll 51 = .ok (.iload_n 3, 1) := by decide +kernel
theorem dX11_rulesAll_52 : decode cX11_rulesAll 52 = .ok (.iconst 0, 1) := by decide +kernel
theorem dX11_rulesAll_53 : decode cX11_rulesAll 53 = .ok (.invokevirtual 388, 3) := by decide +kernel
theorem dX11_rulesAll_56 : decode cX11_rulesAll 56 = .ok (.iload_n 3, 1) := by decide +kernel
theorem dX11_rulesAll_57 : decode cX11_rulesAll 57 = .ok (.if_icmp .ne 7, 3) := by decide +kernel
theorem dX11_rulesAll_60 : decode cX11_rulesAll 60 = .ok (.iconst 1, 1) := by decide +kernel
theorem dX11_rulesAll_61 : decode cX11_rulesAll 61 = .ok (.goto 4, 3) := by decide +kernel
theorem dX11_rulesAll_64 : decode cX11_rulesAll 64 = .ok (.iconst 0, 1) := by decide +kernel
theorem dX11_rulesAll_65 : decode cX11_rulesAll 65 = .ok (.ireturn, 1) := by decide +kernel
theorem dX11_keepers_0 : decode cX11_keepers 0 = .ok (.aload_n 0, 1) := by decide +kernel
theorem dX11_keepers_1 : decode cX11_keepers 1 = .ok (.iconst 0, 1) := by decide +kernel
theorem dX11_keepers_2 : decode cX11_keepers 2 = .ok (.putfield 80, 3) := by decide +kernel
theorem dX11_keepers_5 : decode cX11_keepers 5 = .ok (.aload_n 0, 1) := by decide +kernel
theorem dX11_keepers_6 : decode cX11_keepers 6 = .ok (.iload_n 1, 1) := by decide +kernel
theorem dX11_keepers_7 : decode cX11_keepers 7 = .ok (.invokevirtual 296, 3) := by decide +kernel
theorem dX11_keepers_10 : decode cX11_keepers 10 = .ok (.ifCond .eq 22, 3) := by decide +kernel
theorem dX11_keepers_13 : decode cX11_keepers 13 = .ok (.iload_n 2, 1) := by decide +kernel
theorem dX11_keepers_14 : decode cX11_keepers 14 = .ok (.invokestatic 356, 3) := by decide +kernel
theorem dX11_keepers_17 : decode cX11_keepers 17 = .ok (.ifCond .eq 15, 3) := by decide +kernel
theorem dX11_keepers_20 : decode cX11_keepers 20 = .ok (.iload_n 3, 1) := by decide +kernel
theorem dX11_keepers_21 : decode cX11_keepers 21 = .ok (.i2l, 1) := by decide +kernel
theorem dX11_keepers_22 : decode cX11_keepers 22 = .ok (.lconst 1, 1) := by decide +kernel
theorem dX11_keepers_23 : decode cX11_keepers 23 = .ok (.ldc2_w 410, 3) := by decide +kernel
theorem dX11_keepers_26 : decode cX11_keepers 26 = .ok (.invokestatic 201, 3) := by decide +kernel
theorem dX11_keepers_29 : decode cX11_keepers 29 = .ok (.ifCond .ne 5, 3) := by decide +kernel
theorem dX11_keepers_32 : decode cX11_keepers 32 = .ok (.iconst (-1), 1) := by decide +kernel
theorem dX11_keepers_33 : decode cX11_keepers 33 = .ok (.ireturn, 1) := by decide +kernel
theorem dX11_keepers_34 : decode cX11_keepers 34 = .ok (.iconst (-1), 1) := by decide +kernel
theorem dX11_keepers_35 : decode cX11_keepers 35 = .ok (.istore 4, 2) := by decide +kernel
theorem dX11_keepers_37 : decode cX11_keepers 37 = .ok (.iconst 0, 1) := by decide +kernel
theorem dX11_keepers_38 : decode cX11_keepers 38 = .ok (.istore 5, 2) := by decide +kernel
theorem dX11_keepers_40 : decode cX11_keepers 40 = .ok (.iload 5, 2) := by decide +kernel
theorem dX11_keepers_42 : decode cX11_keepers 42 = .ok (.iconst 1, 1) := by decide +kernel
theorem dX11_keepers_43 : decode cX11_keepers 43 = .ok (.aload_n 0, 1) := by decide +kernel
theorem dX11_keepers_44 : decode cX11_keepers 44 = .ok (.getfield 260, 3) := by decide +kernel
theorem dX11_keepers_47 : decode cX11_keepers 47 = .ok (.ishl, 1) := by decide +kernel
theorem dX11_keepers_48 : decode cX11_keepers 48 = .ok (.if_icmp .ge 53, 3) := by decide +kernel
theorem dX11_keepers_51 : decode cX11_keepers 51 = .ok (.iload 5, 2) := by decide +kernel
theorem dX11_keepers_53 : decode cX11_keepers 53 = .ok (.iload_n 1, 1) := by decide +kernel
theorem dX11_keepers_54 : decode cX11_keepers 54 = .ok (.invokestatic 213, 3) := by decide +kernel
theorem dX11_keepers_57 : decode cX11_keepers 57 = .ok (.ifCond .ne 38, 3) := by decide +kernel
theorem dX11_keepers_60 : decode cX11_keepers 60 = .ok (.iload 4, 2) := by decide +kernel
theorem dX11_keepers_62 : decode cX11_keepers 62 = .ok (.iconst (-1), 1) := by decide +kernel
theorem dX11_keepers_63 : decode cX11_keepers 63 = .ok (.if_icmp .eq 16, 3) := by decide +kernel
theorem dX11_keepers_66 : decode cX11_keepers 66 = .ok (.iload 5, 2) := by decide +kernel
theorem dX11_keepers_68 : decode cX11_keepers 68 = .ok (.invokestatic 287, 3) := by decide +kernel
theorem dX11_keepers_71 : decode cX11_keepers 71 = .ok (.iload 4, 2) := by decide +kernel
theorem dX11_keepers_73 : decode cX11_keepers 73 = .ok (.invokestatic 287, 3) := by decide +kernel
theorem dX11_keepers_76 : decode cX11_keepers 76 = .ok (.if_icmp .ge 19, 3) := by decide +kernel
theorem dX11_keepers_79 : decode cX11_keepers 79 = .ok (.aload_n 0, 1) := by decide +kernel
theorem dX11_keepers_80 : decode cX11_keepers 80 = .ok (.iload_n 1, 1) := by decide +kernel
theorem dX11_keepers_81 : decode cX11_keepers 81 = .ok (.iload_n 2, 1) := by decide +kernel
theorem dX11_keepers_82 : decode cX11_keepers 82 = .ok (.iload_n 3, 1) := by decide +kernel
theorem dX11_keepers_83 : decode cX11_keepers 83 = .ok (.iload 5, 2) := by decide +kernel
theorem dX11_keepers_85 : decode cX11_keepers 85 = .ok (.invokevirtual 412, 3) := by decide +kernel
theorem dX11_keepers_88 : decode cX11_keepers 88 = .ok (.ifCond .eq 7, 3) := by decide +kernel
theorem dX11_keepers_91 : decode cX11_keepers 91 = .ok (.iload 5, 2) := by decide +kernel
theorem dX11_keepers_93 : decode cX11_keepers 93 = .ok (.istore 4, 2) := by decide +kernel
theorem dX11_keepers_95 : decode cX11_keepers 95 = .ok (.iinc 5 1, 3) := by decide +kernel
theorem dX11_keepers_98 : decode cX11_keepers 98 = .ok (.goto (-58), 3) := by decide +kernel
theorem dX11_keepers_101 : decode cX11_keepers 101 = .ok (.iload 4, 2) := by decide +kernel
theorem dX11_keepers_103 : decode cX11_keepers 103 = .ok (.ireturn, 1) := by decide +kernel
theorem dX11_plumsOf_0 : decode cX11_plumsOf 0 = .ok (.aload_n 0, 1) := by decide +kernel
theorem dX11_plumsOf_1 : decode cX11_plumsOf 1 = .ok (.getfield 49, 3) := by decide +kernel
theorem dX11_plumsOf_4 : decode cX11_plumsOf 4 = .ok (.iconst 2, 1) := by decide +kernel
theorem dX11_plumsOf_5 : decode cX11_plumsOf 5 = .ok (.iaload, 1) := by decide +kernel
theorem dX11_plumsOf_6 : decode cX11_plumsOf 6 = .ok (.aload_n 0, 1) := by decide +kernel
theorem dX11_plumsOf_7 : decode cX11_plumsOf 7 = .ok (.aload_n 0, 1) := by decide +kernel
theorem dX11_plumsOf_8 : decode cX11_plumsOf 8 = .ok (.getfield 55, 3) := by decide +kernel
theorem dX11_plumsOf_11 : decode cX11_plumsOf 11 = .ok (.iload_n 1, 1) := by decide +kernel
theorem dX11_plumsOf_12 : decode cX11_plumsOf 12 = .ok (.iload_n 2, 1) := by decide +kernel
theorem dX11_plumsOf_13 : decode cX11_plumsOf 13 = .ok (.invokevirtual 314, 3) := by decide +kernel
theorem dX11_plumsOf_16 : decode cX11_plumsOf 16 = .ok (.invokestatic 287, 3) := by decide +kernel
theorem dX11_plumsOf_19 : decode cX11_plumsOf 19 = .ok (.imul, 1) := by decide +kernel
theorem dX11_plumsOf_20 : decode cX11_plumsOf 20 = .ok (.ireturn, 1) := by decide +kernel
theorem dX11_plums_0 : decode cX11_plums 0 = .ok (.aload_n 0, 1) := by decide +kernel
theorem dX11_plums_1 : decode cX11_plums 1 = .ok (.iconst 0, 1) := by decide +kernel
theorem dX11_plums_2 : decode cX11_plums 2 = .ok (.putfield 80, 3) := by decide +kernel
theorem dX11_plums_5 : decode cX11_plums 5 = .ok (.aload_n 0, 1) := by decide +kernel
theorem dX11_plums_6 : decode cX11_plums 6 = .ok (.getfield 260, 3) := by decide +kernel
theorem dX11_plums_9 : decode cX11_plums 9 = .ok (.ifCond .ne 7, 3) := by decide +kernel
theorem dX11_plums_12 : decode cX11_plums 12 = .ok (.iconst (-1), 1) := by decide +kernel
theorem dX11_plums_13 : decode cX11_plums 13 = .ok (.goto 12, 3) := by decide +kernel
theorem dX11_plums_16 : decode cX11_plums 16 = .ok (.aload_n 0, 1) := by decide +kernel
theorem dX11_plums_17 : decode cX11_plums 17 = .ok (.aload_n 0, 1) := by decide +kernel
theorem dX11_plums_18 : decode cX11_plums 18 = .ok (.getfield 55, 3) := by decide +kernel
theorem dX11_plums_21 : decode cX11_plums 21 = .ok (.iconst 0, 1) := by decide +kernel
theorem dX11_plums_22 : decode cX11_plums 22 = .ok (.invokevirtual 317, 3) := by decide +kernel
theorem dX11_plums_25 : decode cX11_plums 25 = .ok (.istore_n 2, 1) := by decide +kernel
theorem dX11_plums_26 : decode cX11_plums 26 = .ok (.iload_n 2, 1) := by decide +kernel
theorem dX11_plums_27 : decode cX11_plums 27 = .ok (.iconst (-1), 1) := by decide +kernel
theorem dX11_plums_28 : decode cX11_plums 28 = .ok (.if_icmp .eq 11, 3) := by decide +kernel
theorem dX11_plums_31 : decode cX11_plums 31 = .ok (.aload_n 0, 1) := by decide +kernel
theorem dX11_plums_32 : decode cX11_plums 32 = .ok (.iload_n 1, 1) := by decide +kernel
theorem dX11_plums_33 : decode cX11_plums 33 = .ok (.invokevirtual 296, 3) := by decide +kernel
theorem dX11_plums_36 : decode cX11_plums 36 = .ok (.ifCond .ne 7, 3) := by decide +kernel
theorem dX11_plums_39 : decode cX11_plums 39 = .ok (.iconst (-1), 1) := by decide +kernel
theorem dX11_plums_40 : decode cX11_plums 40 = .ok (.goto 9, 3) := by decide +kernel
theorem dX11_plums_43 : decode cX11_plums 43 = .ok (.aload_n 0, 1) := by decide +kernel
theorem dX11_plums_44 : decode cX11_plums 44 = .ok (.iload_n 1, 1) := by decide +kernel
theorem dX11_plums_45 : decode cX11_plums 45 = .ok (.iload_n 2, 1) := by decide +kernel
theorem dX11_plums_46 : decode cX11_plums 46 = .ok (.invokevirtual 416, 3) := by decide +kernel
theorem dX11_plums_49 : decode cX11_plums 49 = .ok (.ireturn, 1) := by decide +kernel
theorem dX11_peace_0 : decode cX11_peace 0 = .ok (.aload_n 0, 1) := by decide +kernel
theorem dX11_peace_1 : decode cX11_peace 1 = .ok (.iconst 0, 1) := by decide +kernel
theorem dX11_peace_2 : decode cX11_peace 2 = .ok (.putfield 80, 3) := by decide +kernel
theorem dX11_peace_5 : decode cX11_peace 5 = .ok (.aload_n 0, 1) := by decide +kernel
theorem dX11_peace_6 : decode cX11_peace 6 = .ok (.getfield 260, 3) := by decide +kernel
theorem dX11_peace_9 : decode cX11_peace 9 = .ok (.ifCond .ne 7, 3) := by decide +kernel
theorem dX11_peace_12 : decode cX11_peace 12 = .ok (.iconst (-1), 1) := by decide +kernel
theorem dX11_peace_13 : decode cX11_peace 13 = .ok (.goto 12, 3) := by decide +kernel
theorem dX11_peace_16 : decode cX11_peace 16 = .ok (.aload_n 0, 1) := by decide +kernel
theorem dX11_peace_17 : decode cX11_peace 17 = .ok (.aload_n 0, 1) := by decide +kernel
theorem dX11_peace_18 : decode cX11_peace 18 = .ok (.getfield 55, 3) := by decide +kernel
theorem dX11_peace_21 : decode cX11_peace 21 = .ok (.iconst 0, 1) := by decide +kernel
theorem dX11_peace_22 : decode cX11_peace 22 = .ok (.invokevirtual 317, 3) := by decide +kernel
theorem dX11_peace_25 : decode cX11_peace 25 = .ok (.istore_n 3, 1) := by decide +kernel
theorem dX11_peace_26 : decode cX11_peace 26 = .ok (.iload_n 3, 1) := by decide +kernel
theorem dX11_peace_27 : decode cX11_peace 27 = .ok (.iconst (-1), 1) := by decide +kernel
theorem dX11_peace_28 : decode cX11_peace 28 = .ok (.if_icmp .eq 21, 3) := by decide +kernel
theorem dX11_peace_31 : decode cX11_peace 31 = .ok (.aload_n 0, 1) := by decide +kernel
theorem dX11_peace_32 : decode cX11_peace 32 = .ok (.iload_n 1, 1) := by decide +kernel
theorem dX11_peace_33 : decode cX11_peace 33 = .ok (.invokevirtual 385, 3) := by decide +kernel
theorem dX11_peace_36 : decode cX11_peace 36 = .ok (.ifCond .eq 13, 3) := by decide +kernel
theorem dX11_peace_39 : decode cX11_peace 39 = .ok (.iload_n 2, 1) := by decide +kernel
theorem dX11_peace_40 : decode cX11_peace 40 = .ok (.i2l, 1) := by decide +kernel
theorem dX11_peace_41 : decode cX11_peace 41 = .ok (.lconst 0, 1) := by decide +kernel
theorem dX11_peace_42 : decode cX11_peace 42 = .ok (.lconst 1, 1) := by decide +kernel
theorem dX11_peace_43 : decode cX11_peace 43 = .ok (.invokestatic 201, 3) := by decide +kernel
theorem dX11_peace_46 : decode cX11_peace 46 = .ok (.ifCond .ne 5, 3) := by decide +kernel
theorem dX11_peace_49 : decode cX11_peace 49 = .ok (.iconst (-1), 1) := by decide +kernel
theorem dX11_peace_50 : decode cX11_peace 50 = .ok (.ireturn, 1) := by decide +kernel
theorem dX11_peace_51 : decode cX11_peace 51 = .ok (.iconst (-1), 1) := by decide +kernel
theorem dX11_peace_52 : decode cX11_peace 52 = .ok (.istore 4, 2) := by decide +kernel
theorem dX11_peace_54 : decode cX11_peace 54 = .ok (.iconst 0, 1) := by decide +kernel
theorem dX11_peace_55 : decode cX11_peace 55 = .ok (.istore 5, 2) := by decide +kernel
theorem dX11_peace_57 : decode cX11_peace 57 = .ok (.aload_n 0, 1) := by decide +kernel
theorem dX11_peace_58 : decode cX11_peace 58 = .ok (.getfield 55, 3) := by decide +kernel
theorem dX11_peace_61 : decode cX11_peace 61 = .ok (.bipush 61, 2) := by decide +kernel
theorem dX11_peace_63 : decode cX11_peace 63 = .ok (.iaload, 1) := by decide +kernel
theorem dX11_peace_64 : decode cX11_peace 64 = .ok (.istore 6, 2) := by decide +kernel
theorem dX11_peace_66 : decode cX11_peace 66 = .ok (.iconst 0, 1) := by decide +kernel
theorem dX11_peace_67 : decode cX11_peace 67 = .ok (.istore 7, 2) := by decide +kernel
theorem dX11_peace_69 : decode cX11_peace 69 = .ok (.iload 7, 2) := by decide +kernel
theorem dX11_peace_71 : decode cX11_peace 71 = .ok (.aload_n 0, 1) := by decide +kernel
theorem dX11_peace_72 : decode cX11_peace 72 = .ok (.getfield 260, 3) := by decide +kernel
theorem dX11_peace_75 : decode cX11_peace 75 = .ok (.if_icmp .ge 136, 3) := by decide +kernel
theorem dX11_peace_78 : decode cX11_peace 78 = .ok (.aload_n 0, 1) := by decide +kernel
theorem dX11_peace_79 : decode cX11_peace 79 = .ok (.getfield 37, 3) := by decide +kernel
theorem dX11_peace_82 : decode cX11_peace 82 = .ok (.bipush 6, 2) := by decide +kernel
theorem dX11_peace_84 : decode cX11_peace 84 = .ok (.iload 7, 2) := by decide +kernel
theorem dX11_peace_86 : decode cX11_peace 86 = .ok (.imul, 1) := by decide +kernel
theorem dX11_peace_87 : decode cX11_peace 87 = .ok (.iconst 3, 1) := by decide +kernel
theorem dX11_peace_88 : decode cX11_peace 88 = .ok (.iadd, 1) := by decide +kernel
theorem dX11_peace_89 : decode cX11_peace 89 = .ok (.iaload, 1) := by decide +kernel
theorem dX11_peace_90 : decode cX11_peace 90 = .ok (.iload_n 1, 1) := by decide +kernel
theorem dX11_peace_91 : decode cX11_peace 91 = .ok (.if_icmp .ne 114, 3) := by decide +kernel
theorem dX11_peace_94 : decode cX11_peace 94 = .ok (.aload_n 0, 1) := by decide +kernel
theorem dX11_peace_95 : decode cX11_peace 95 = .ok (.getfield 55, 3) := by decide +kernel
theorem dX11_peace_98 : decode cX11_peace 98 = .ok (.bipush 7, 2) := by decide +kernel
theorem dX11_peace_100 : decode cX11_peace 100 = .ok (.iload 7, 2) := by decide +kernel
theorem dX11_peace_102 : decode cX11_peace 102 = .ok (.imul, 1) := by decide +kernel
theorem dX11_peace_103 : decode cX11_peace 103 = .ok (.iconst 0, 1) := by decide +kernel
theorem dX11_peace_104 : decode cX11_peace 104 = .ok (.iadd, 1) := by decide +kernel
theorem dX11_peace_105 : decode cX11_peace 105 = .ok (.iaload, 1) := by decide +kernel
theorem dX11_peace_106 : decode cX11_peace 106 = .ok (.aload_n 0, 1) := by decide +kernel
theorem dX11_peace_107 : decode cX11_peace 107 = .ok (.getfield 49, 3) := by decide +kernel
theorem dX11_peace_110 : decode cX11_peace 110 = .ok (.iconst 0, 1) := by decide +kernel
theorem dX11_peace_111 : decode cX11_peace 111 = .ok (.iaload, 1) := by decide +kernel
theorem dX11_peace_112 : decode cX11_peace 112 = .ok (.if_icmp .lt 6, 3) := by decide +kernel
theorem dX11_peace_115 : decode cX11_peace 115 = .ok (.goto 90, 3) := by decide +kernel
theorem dX11_peace_118 : decode cX11_peace 118 = .ok (.iload 6, 2) := by decide +kernel
theorem dX11_peace_120 : decode cX11_peace 120 = .ok (.iconst (-1), 1) := by decide +kernel
theorem dX11_peace_121 : decode cX11_peace 121 = .ok (.if_icmp .eq 40, 3) := by decide +kernel
theorem dX11_peace_124 : decode cX11_peace 124 = .ok (.iload 6, 2) := by decide +kernel
theorem dX11_peace_126 : decode cX11_peace 126 = .ok (.iload 7, 2) := by decide +kernel
theorem dX11_peace_128 : decode cX11_peace 128 = .ok (.if_icmp .eq 33, 3) := by decide +kernel
theorem dX11_peace_131 : decode cX11_peace 131 = .ok (.aload_n 0, 1) := by decide +kernel
theorem dX11_peace_132 : decode cX11_peace 132 = .ok (.getfield 55, 3) := by decide +kernel
theorem dX11_peace_135 : decode cX11_peace 135 = .ok (.bipush 7, 2) := by decide +kernel
theorem dX11_peace_137 : decode cX11_peace 137 = .ok (.iload 7, 2) := by decide +kernel
theorem dX11_peace_139 : decode cX11_peace 139 = .ok (.imul, 1) := by decide +kernel
theorem dX11_peace_140 : decode cX11_peace 140 = .ok (.iconst 0, 1) := by decide +kernel
theorem dX11_peace_141 : decode cX11_peace 141 = .ok (.iadd, 1) := by decide +kernel
theorem dX11_peace_142 : decode cX11_peace 142 = .ok (.iaload, 1) := by decide +kernel
theorem dX11_peace_143 : decode cX11_peace 143 = .ok (.aload_n 0, 1) := by decide +kernel
theorem dX11_peace_144 : decode cX11_peace 144 = .ok (.getfield 55, 3) := by decide +kernel
theorem dX11_peace_147 : decode cX11_peace 147 = .ok (.bipush 7, 2) := by decide +kernel
theorem dX11_peace_149 : decode cX11_peace 149 = .ok (.iload 6, 2) := by decide +kernel
theorem dX11_peace_151 : decode cX11_peace 151 = .ok (.imul, 1) := by decide +kernel
theorem dX11_peace_152 : decode cX11_peace 152 = .ok (.iconst 0, 1) := by decide +kernel
theorem dX11_peace_153 : decode cX11_peace 153 = .ok (.iadd, 1) := by decide +kernel
theorem dX11_peace_154 : decode cX11_peace 154 = .ok (.iaload, 1) := by decide +kernel
theorem dX11_peace_155 : decode cX11_peace 155 = .ok (.if_icmp .lt 6, 3) := by decide +kernel
theorem dX11_peace_158 : decode cX11_peace 158 = .ok (.goto 47, 3) := by decide +kernel
theorem dX11_peace_161 : decode cX11_peace 161 = .ok (.iload 6, 2) := by decide +kernel
theorem dX11_peace_163 : decode cX11_peace 163 = .ok (.iload 7, 2) := by decide +kernel
theorem dX11_peace_165 : decode cX11_peace 165 = .ok (.if_icmp .ne 7, 3) := by decide +kernel
theorem dX11_peace_168 : decode cX11_peace 168 = .ok (.iconst 0, 1) := by decide +kernel
theorem dX11_peace_169 : decode cX11_peace 169 = .ok (.goto 10, 3) := by decide +kernel
theorem dX11_peace_172 : decode cX11_peace 172 = .ok (.aload_n 0, 1) := by decide +kernel
theorem dX11_peace_173 : decode cX11_peace 173 = .ok (.iload 7, 2) := by decide +kernel
theorem dX11_peace_175 : decode cX11_peace 175 = .ok (.iload_n 3, 1) := by decide +kernel
theorem dX11_peace_176 : decode cX11_peace 176 = .ok (.invokevirtual 416, 3) := by decide +kernel
theorem dX11_peace_179 : decode cX11_peace 179 = .ok (.istore 8, 2) := by decide +kernel
theorem dX11_peace_181 : decode cX11_peace 181 = .ok (.iload 4, 2) := by decide +kernel
theorem dX11_peace_183 : decode cX11_peace 183 = .ok (.iconst (-1), 1) := by decide +kernel
theorem dX11_peace_184 : decode cX11_peace 184 = .ok (.if_icmp .eq 13, 3) := by decide +kernel
theorem dX11_peace_187 : decode cX11_peace 187 = .ok (.iload 8, 2) := by decide +kernel
theorem dX11_peace_189 : decode cX11_peace 189 = .ok (.iload 5, 2) := by decide +kernel
theorem dX11_peace_191 : decode cX11_peace 191 = .ok (.if_icmp .lt 6, 3) := by decide +kernel
theorem dX11_peace_194 : decode cX11_peace 194 = .ok (.goto 11, 3) := by decide +kernel
theorem dX11_peace_197 : decode cX11_peace 197 = .ok (.iload 7, 2) := by decide +kernel
theorem dX11_peace_199 : decode cX11_peace 199 = .ok (.istore 4, 2) := by decide +kernel
theorem dX11_peace_201 : decode cX11_peace 201 = .ok (.iload 8, 2) := by decide +kernel
theorem dX11_peace_203 : decode cX11_peace 203 = .ok (.istore 5, 2) := by decide +kernel
theorem dX11_peace_205 : decode cX11_peace 205 = .ok (.iinc 7 1, 3) := by decide +kernel
theorem dX11_peace_208 : decode cX11_peace 208 = .ok (.goto (-139), 3) := by decide +kernel
theorem dX11_peace_211 : decode cX11_peace 211 = .ok (.iload 4, 2) := by decide +kernel
theorem dX11_peace_213 : decode cX11_peace 213 = .ok (.iconst (-1), 1) := by decide +kernel
theorem dX11_peace_214 : decode cX11_peace 214 = .ok (.if_icmp .ne 7, 3) := by decide +kernel
theorem dX11_peace_217 : decode cX11_peace 217 = .ok (.iconst (-1), 1) := by decide +kernel
theorem dX11_peace_218 : decode cX11_peace 218 = .ok (.goto 14, 3) := by decide +kernel
theorem dX11_peace_221 : decode cX11_peace 221 = .ok (.iload_n 2, 1) := by decide +kernel
theorem dX11_peace_222 : decode cX11_peace 222 = .ok (.ifCond .ne 8, 3) := by decide +kernel
theorem dX11_peace_225 : decode cX11_peace 225 = .ok (.iload 5, 2) := by decide +kernel
theorem dX11_peace_227 : decode cX11_peace 227 = .ok (.goto 5, 3) := by decide +kernel
theorem dX11_peace_230 : decode cX11_peace 230 = .ok (.iload 4, 2) := by decide +kernel
theorem dX11_peace_232 : decode cX11_peace 232 = .ok (.ireturn, 1) := by decide +kernel
theorem dX11_teachesAtOnce_0 : decode cX11_teachesAtOnce 0 = .ok (.aload_n 0, 1) := by decide +kernel
theorem dX11_teachesAtOnce_1 : decode cX11_teachesAtOnce 1 = .ok (.getfield 58, 3) := by decide +kernel
theorem dX11_teachesAtOnce_4 : decode cX11_teachesAtOnce 4 = .ok (.iload_n 1, 1) := by decide +kernel
theorem dX11_teachesAtOnce_5 : decode cX11_teachesAtOnce 5 = .ok (.invokestatic 284, 3) := by decide +kernel
theorem dX11_teachesAtOnce_8 : decode cX11_teachesAtOnce 8 = .ok (.bipush 10, 2) := by decide +kernel
theorem dX11_teachesAtOnce_10 : decode cX11_teachesAtOnce 10 = .ok (.idiv, 1) := by decide +kernel
theorem dX11_teachesAtOnce_11 : decode cX11_teachesAtOnce 11 = .ok (.istore_n 2, 1) := by decide +kernel
theorem dX11_teachesAtOnce_12 : decode cX11_teachesAtOnce 12 = .ok (.iload_n 2, 1) := by decide +kernel
theorem dX11_teachesAtOnce_13 : decode cX11_teachesAtOnce 13 = .ok (.bipush 9, 2) := by decide +kernel
theorem dX11_teachesAtOnce_15 : decode cX11_teachesAtOnce 15 = .ok (.if_icmp .ge 12, 3) := by decide +kernel
theorem dX11_teachesAtOnce_18 : decode cX11_teachesAtOnce 18 = .ok (.aload_n 0, 1) := by decide +kernel
theorem dX11_teachesAtOnce_19 : decode cX11_teachesAtOnce 19 = .ok (.getfield 58, 3) := by decide +kernel
theorem dX11_teachesAtOnce_22 : decode cX11_teachesAtOnce 22 = .ok (.iload_n 1, 1) := by decide +kernel
theorem dX11_teachesAtOnce_23 : decode cX11_teachesAtOnce 23 = .ok (.iload_n 2, 1) := by decide +kernel
theorem dX11_teachesAtOnce_24 : decode cX11_teachesAtOnce 24 = .ok (.invokestatic 365, 3) := by decide +kernel
theorem dX11_teachesAtOnce_27 : decode cX11_teachesAtOnce 27 = .ok (.return_, 1) := by decide +kernel
theorem dX11_duelOf_0 : decode cX11_duelOf 0 = .ok (.aload_n 0, 1) := by decide +kernel
theorem dX11_duelOf_1 : decode cX11_duelOf 1 = .ok (.getfield 55, 3) := by decide +kernel
theorem dX11_duelOf_4 : decode cX11_duelOf 4 = .ok (.aload_n 0, 1) := by decide +kernel
theorem dX11_duelOf_5 : decode cX11_duelOf 5 = .ok (.getfield 58, 3) := by decide +kernel
theorem dX11_duelOf_8 : decode cX11_duelOf 8 = .ok (.invokestatic 379, 3) := by decide +kernel
theorem dX11_duelOf_11 : decode cX11_duelOf 11 = .ok (.aload_n 0, 1) := by decide +kernel
theorem dX11_duelOf_12 : decode cX11_duelOf 12 = .ok (.iload_n 3, 1) := by decide +kernel
theorem dX11_duelOf_13 : decode cX11_duelOf 13 = .ok (.invokevirtual 419, 3) := by decide +kernel
theorem dX11_duelOf_16 : decode cX11_duelOf 16 = .ok (.aload_n 0, 1) := by decide +kernel
theorem dX11_duelOf_17 : decode cX11_duelOf 17 = .ok (.iload 4, 2) := by decide +kernel
theorem dX11_duelOf_19 : decode cX11_duelOf 19 = .ok (.invokevirtual 419, 3) := by decide +kernel
theorem dX11_duelOf_22 : decode cX11_duelOf 22 = .ok (.iconst 0, 1) := by decide +kernel
theorem dX11_duelOf_23 : decode cX11_duelOf 23 = .ok (.istore 5, 2) := by decide +kernel
theorem dX11_duelOf_25 : decode cX11_duelOf 25 = .ok (.iconst 0, 1) := by decide +kernel
theorem dX11_duelOf_26 : decode cX11_duelOf 26 = .ok (.istore 6, 2) := by decide +kernel
theorem dX11_duelOf_28 : decode cX11_duelOf 28 = .ok (.iload 6, 2) := by decide +kernel
theorem dX11_duelOf_30 : decode cX11_duelOf 30 = .ok (.bipush 12, 2) := by decide +kernel
theorem dX11_duelOf_32 : decode cX11_duelOf 32 = .ok (.if_icmp .ge 82, 3) := by decide +kernel
theorem dX11_duelOf_35 : decode cX11_duelOf 35 = .ok (.aload_n 0, 1) := by decide +kernel
theorem dX11_duelOf_36 : decode cX11_duelOf 36 = .ok (.aload_n 0, 1) := by decide +kernel
theorem dX11_duelOf_37 : decode cX11_duelOf 37 = .ok (.getfield 58, 3) := by decide +kernel
theorem dX11_duelOf_40 : decode cX11_duelOf 40 = .ok (.iconst 0, 1) := by decide +kernel
theorem dX11_duelOf_41 : decode cX11_duelOf 41 = .ok (.invokevirtual 370, 3) := by decide +kernel
theorem dX11_duelOf_44 : decode cX11_duelOf 44 = .ok (.aload_n 0, 1) := by decide +kernel
theorem dX11_duelOf_45 : decode cX11_duelOf 45 = .ok (.getfield 58, 3) := by decide +kernel
theorem dX11_duelOf_48 : decode cX11_duelOf 48 = .ok (.bipush 61, 2) := by decide +kernel
theorem dX11_duelOf_50 : decode cX11_duelOf 50 = .ok (.iaload, 1) := by decide +kernel
theorem dX11_duelOf_51 : decode cX11_duelOf 51 = .ok (.istore 7, 2) := by decide +kernel
theorem dX11_duelOf_53 : decode cX11_duelOf 53 = .ok (.iload 7, 2) := by decide +kernel
theorem dX11_duelOf_55 : decode cX11_duelOf 55 = .ok (.iconst (-1), 1) := by decide +kernel
theorem dX11_duelOf_56 : decode cX11_duelOf 56 = .ok (.if_icmp .ne 6, 3) := by decide +kernel
theorem dX11_duelOf_59 : decode cX11_duelOf 59 = .ok (.goto 49, 3) := by decide +kernel
theorem dX11_duelOf_62 : decode cX11_duelOf 62 = .ok (.iload 5, 2) := by decide +kernel
theorem dX11_duelOf_64 : decode cX11_duelOf 64 = .ok (.aload_n 0, 1) := by decide +kernel
theorem dX11_duelOf_65 : decode cX11_duelOf 65 = .ok (.getfield 37, 3) := by decide +kernel
theorem dX11_duelOf_68 : decode cX11_duelOf 68 = .ok (.bipush 6, 2) := by decide +kernel
theorem dX11_duelOf_70 : decode cX11_duelOf 70 = .ok (.iload 7, 2) := by decide +kernel
theorem dX11_duelOf_72 : decode cX11_duelOf 72 = .ok (.imul, 1) := by decide +kernel
theorem dX11_duelOf_73 : decode cX11_duelOf 73 = .ok (.iconst 3, 1) := by decide +kernel
theorem dX11_duelOf_74 : decode cX11_duelOf 74 = .ok (.iadd, 1) := by decide +kernel
theorem dX11_duelOf_75 : decode cX11_duelOf 75 = .ok (.iaload, 1) := by decide +kernel
theorem dX11_duelOf_76 : decode cX11_duelOf 76 = .ok (.iload_n 1, 1) := by decide +kernel
theorem dX11_duelOf_77 : decode cX11_duelOf 77 = .ok (.if_icmp .ne 7, 3) := by decide +kernel
theorem dX11_duelOf_80 : decode cX11_duelOf 80 = .ok (.iconst 1, 1) := by decide +kernel
theorem dX11_duelOf_81 : decode cX11_duelOf 81 = .ok (.goto 24, 3) := by decide +kernel
theorem dX11_duelOf_84 : decode cX11_duelOf 84 = .ok (.aload_n 0, 1) := by decide +kernel
theorem dX11_duelOf_85 : decode cX11_duelOf 85 = .ok (.getfield 37, 3) := by decide +kernel
theorem dX11_duelOf_88 : decode cX11_duelOf 88 = .ok (.bipush 6, 2) := by decide +kernel
theorem dX11_duelOf_90 : decode cX11_duelOf 90 = .ok (.iload 7, 2) := by decide +kernel
theorem dX11_duelOf_92 : decode cX11_duelOf 92 = .ok (.imul, 1) := by decide +kernel
theorem dX11_duelOf_93 : decode cX11_duelOf 93 = .ok (.iconst 3, 1) := by decide +kernel
theorem dX11_duelOf_94 : decode cX11_duelOf 94 = .ok (.iadd, 1) := by decide +kernel
theorem dX11_duelOf_95 : decode cX11_duelOf 95 = .ok (.iaload, 1) := by decide +kernel
theorem dX11_duelOf_96 : decode cX11_duelOf 96 = .ok (.iload_n 2, 1) := by decide +kernel
theorem dX11_duelOf_97 : decode cX11_duelOf 97 = .ok (.if_icmp .ne 7, 3) := by decide +kernel
theorem dX11_duelOf_100 : decode cX11_duelOf 100 = .ok (.iconst (-1), 1) := by decide +kernel
theorem dX11_duelOf_101 : decode cX11_duelOf 101 = .ok (.goto 4, 3) := by decide +kernel
theorem dX11_duelOf_104 : decode cX11_duelOf 104 = .ok (.iconst 0, 1) := by decide +kernel
theorem dX11_duelOf_105 : decode cX11_duelOf 105 = .ok (.iadd, 1) := by decide +kernel
theorem dX11_duelOf_106 : decode cX11_duelOf 106 = .ok (.istore 5, 2) := by decide +kernel
theorem dX11_duelOf_108 : decode cX11_duelOf 108 = .ok (.iinc 6 1, 3) := by decide +kernel
theorem dX11_duelOf_111 : decode cX11_duelOf 111 = .ok (.goto (-83), 3) := by decide +kernel
theorem dX11_duelOf_114 : decode cX11_duelOf 114 = .ok (.iload 5, 2) := by decide +kernel
theorem dX11_duelOf_116 : decode cX11_duelOf 116 = .ok (.ireturn, 1) := by decide +kernel
theorem dX11_isOf_0 : decode cX11_isOf 0 = .ok (.aload_n 0, 1) := by decide +kernel
theorem dX11_isOf_1 : decode cX11_isOf 1 = .ok (.iload_n 1, 1) := by decide +kernel
theorem dX11_isOf_2 : decode cX11_isOf 2 = .ok (.invokevirtual 296, 3) := by decide +kernel
theorem dX11_isOf_5 : decode cX11_isOf 5 = .ok (.ifCond .eq 22, 3) := by decide +kernel
theorem dX11_isOf_8 : decode cX11_isOf 8 = .ok (.aload_n 0, 1) := by decide +kernel
theorem dX11_isOf_9 : decode cX11_isOf 9 = .ok (.getfield 37, 3) := by decide +kernel
theorem dX11_isOf_12 : decode cX11_isOf 12 = .ok (.bipush 6, 2) := by decide +kernel
theorem dX11_isOf_14 : decode cX11_isOf 14 = .ok (.iload_n 1, 1) := by decide +kernel
theorem dX11_isOf_15 : decode cX11_isOf 15 = .ok (.imul, 1) := by decide +kernel
theorem dX11_isOf_16 : decode cX11_isOf 16 = .ok (.iconst 3, 1) := by decide +kernel
theorem dX11_isOf_17 : decode cX11_isOf 17 = .ok (.iadd, 1) := by decide +kernel
theorem dX11_isOf_18 : decode cX11_isOf 18 = .ok (.iaload, 1) := by decide +kernel
theorem dX11_isOf_19 : decode cX11_isOf 19 = .ok (.iload_n 2, 1) := by decide +kernel
theorem dX11_isOf_20 : decode cX11_isOf 20 = .ok (.if_icmp .ne 7, 3) := by decide +kernel
theorem dX11_isOf_23 : decode cX11_isOf 23 = .ok (.iconst 1, 1) := by decide +kernel
theorem dX11_isOf_24 : decode cX11_isOf 24 = .ok (.goto 4, 3) := by decide +kernel
theorem dX11_isOf_27 : decode cX11_isOf 27 = .ok (.iconst 0, 1) := by decide +kernel
theorem dX11_isOf_28 : decode cX11_isOf 28 = .ok (.ireturn, 1) := by decide +kernel
theorem dX11_duel_0 : decode cX11_duel 0 = .ok (.aload_n 0, 1) := by decide +kernel
theorem dX11_duel_1 : decode cX11_duel 1 = .ok (.iconst 0, 1) := by decide +kernel
theorem dX11_duel_2 : decode cX11_duel 2 = .ok (.putfield 80, 3) := by decide +kernel
theorem dX11_duel_5 : decode cX11_duel 5 = .ok (.aload_n 0, 1) := by decide +kernel
theorem dX11_duel_6 : decode cX11_duel 6 = .ok (.iload_n 1, 1) := by decide +kernel
theorem dX11_duel_7 : decode cX11_duel 7 = .ok (.invokevirtual 385, 3) := by decide +kernel
theorem dX11_duel_10 : decode cX11_duel 10 = .ok (.ifCond .eq 47, 3) := by decide +kernel
theorem dX11_duel_13 : decode cX11_duel 13 = .ok (.aload_n 0, 1) := by decide +kernel
theorem dX11_duel_14 : decode cX11_duel 14 = .ok (.iload_n 2, 1) := by decide +kernel
theorem dX11_duel_15 : decode cX11_duel 15 = .ok (.invokevirtual 385, 3) := by decide +kernel
theorem dX11_duel_18 : decode cX11_duel 18 = .ok (.ifCond .eq 39, 3) := by decide +kernel
theorem dX11_duel_21 : decode cX11_duel 21 = .ok (.iload_n 1, 1) := by decide +kernel
theorem dX11_duel_22 : decode cX11_duel 22 = .ok (.iload_n 2, 1) := by decide +kernel
theorem dX11_duel_23 : decode cX11_duel 23 = .ok (.if_icmp .eq 34, 3) := by decide +kernel
theorem dX11_duel_26 : decode cX11_duel 26 = .ok (.aload_n 0, 1) := by decide +kernel
theorem dX11_duel_27 : decode cX11_duel 27 = .ok (.iload_n 3, 1) := by decide +kernel
theorem dX11_duel_28 : decode cX11_duel 28 = .ok (.iload_n 1, 1) := by decide +kernel
theorem dX11_duel_29 : decode cX11_duel 29 = .ok (.invokevirtual 422, 3) := by decide +kernel
theorem dX11_duel_32 : decode cX11_duel 32 = .ok (.ifCond .eq 25, 3) := by decide +kernel
theorem dX11_duel_35 : decode cX11_duel 35 = .ok (.aload_n 0, 1) := by decide +kernel
theorem dX11_duel_36 : decode cX11_duel 36 = .ok (.iload 4, 2) := by decide +kernel
theorem dX11_duel_38 : decode cX11_duel 38 = .ok (.iload_n 2, 1) := by decide +kernel
theorem dX11_duel_39 : decode cX11_duel 39 = .ok (.invokevirtual 422, 3) := by decide +kernel
theorem dX11_duel_42 : decode cX11_duel 42 = .ok (.ifCond .eq 15, 3) := by decide +kernel
theorem dX11_duel_45 : decode cX11_duel 45 = .ok (.aload_n 0, 1) := by decide +kernel
theorem dX11_duel_46 : decode cX11_duel 46 = .ok (.iload_n 1, 1) := by decide +kernel
theorem dX11_duel_47 : decode cX11_duel 47 = .ok (.iload_n 2, 1) := by decide +kernel
theorem dX11_duel_48 : decode cX11_duel 48 = .ok (.iload_n 3, 1) := by decide +kernel
theorem dX11_duel_49 : decode cX11_duel 49 = .ok (.iload 4, 2) := by decide +kernel
theorem dX11_duel_51 : decode cX11_duel 51 = .ok (.invokevirtual 425, 3) := by decide +kernel
theorem dX11_duel_54 : decode cX11_duel 54 = .ok (.goto 6, 3) := by decide +kernel
theorem dX11_duel_57 : decode cX11_duel 57 = .ok (.ldc_w 378, 3) := by decide +kernel
theorem dX11_duel_60 : decode cX11_duel 60 = .ok (.ireturn, 1) := by decide +kernel
theorem dX11_isRest_0 : decode cX11_isRest 0 = .ok (.aload_n 0, 1) := by decide +kernel
theorem dX11_isRest_1 : decode cX11_isRest 1 = .ok (.getfield 74, 3) := by decide +kernel
theorem dX11_isRest_4 : decode cX11_isRest 4 = .ok (.bipush 8, 2) := by decide +kernel
theorem dX11_isRest_6 : decode cX11_isRest 6 = .ok (.iload_n 3, 1) := by decide +kernel
theorem dX11_isRest_7 : decode cX11_isRest 7 = .ok (.imul, 1) := by decide +kernel
theorem dX11_isRest_8 : decode cX11_isRest 8 = .ok (.iload 4, 2) := by decide +kernel
theorem dX11_isRest_10 : decode cX11_isRest 10 = .ok (.iadd, 1) := by decide +kernel
theorem dX11_isRest_11 : decode cX11_isRest 11 = .ok (.iaload, 1) := by decide +kernel
theorem dX11_isRest_12 : decode cX11_isRest 12 = .ok (.istore 5, 2) := by decide +kernel
theorem dX11_isRest_14 : decode cX11_isRest 14 = .ok (.iconst 0, 1) := by decide +kernel
theorem dX11_isRest_15 : decode cX11_isRest 15 = .ok (.istore 6, 2) := by decide +kernel
theorem dX11_isRest_17 : decode cX11_isRest 17 = .ok (.iload 6, 2) := by decide +kernel
theorem dX11_isRest_19 : decode cX11_isRest 19 = .ok (.aload_n 0, 1) := by decide +kernel
theorem dX11_isRest_20 : decode cX11_isRest 20 = .ok (.getfield 260, 3) := by decide +kernel
theorem dX11_isRest_23 : decode cX11_isRest 23 = .ok (.if_icmp .ge 66, 3) := by decide +kernel
theorem dX11_isRest_26 : decode cX11_isRest 26 = .ok (.aload_n 0, 1) := by decide +kernel
theorem dX11_isRest_27 : decode cX11_isRest 27 = .ok (.iload 6, 2) := by decide +kernel
theorem dX11_isRest_29 : decode cX11_isRest 29 = .ok (.iload_n 1, 1) := by decide +kernel
theorem dX11_isRest_30 : decode cX11_isRest 30 = .ok (.invokevirtual 422, 3) := by decide +kernel
theorem dX11_isRest_33 : decode cX11_isRest 33 = .ok (.ifCond .eq 21, 3) := by decide +kernel
theorem dX11_isRest_36 : decode cX11_isRest 36 = .ok (.aload_n 0, 1) := by decide +kernel
theorem dX11_isRest_37 : decode cX11_isRest 37 = .ok (.getfield 74, 3) := by decide +kernel
theorem dX11_isRest_40 : decode cX11_isRest 40 = .ok (.bipush 8, 2) := by decide +kernel
theorem dX11_isRest_42 : decode cX11_isRest 42 = .ok (.iload 6, 2) := by decide +kernel
theorem dX11_isRest_44 : decode cX11_isRest 44 = .ok (.imul, 1) := by decide +kernel
theorem dX11_isRest_45 : decode cX11_isRest 45 = .ok (.iload 4, 2) := by decide +kernel
theorem dX11_isRest_47 : decode cX11_isRest 47 = .ok (.iadd, 1) := by decide +kernel
theorem dX11_isRest_48 : decode cX11_isRest 48 = .ok (.iaload, 1) := by decide +kernel
theorem dX11_isRest_49 : decode cX11_isRest 49 = .ok (.iload 5, 2) := by decide +kernel
theorem dX11_isRest_51 : decode cX11_isRest 51 = .ok (.if_icmp .gt 30, 3) := by decide +kernel
theorem dX11_isRest_54 : decode cX11_isRest 54 = .ok (.aload_n 0, 1) := by decide +kernel
theorem dX11_isRest_55 : decode cX11_isRest 55 = .ok (.iload 6, 2) := by decide +kernel
theorem dX11_isRest_57 : decode cX11_isRest 57 = .ok (.iload_n 2, 1) := by decide +kernel
theorem dX11_isRest_58 : decode cX11_isRest 58 = .ok (.invokevirtual 422, 3) := by decide +kernel
theorem dX11_isRest_61 : decode cX11_isRest 61 = .ok (.ifCond .eq 22, 3) := by decide +kernel
theorem dX11_isRest_64 : decode cX11_isRest 64 = .ok (.aload_n 0, 1) := by decide +kernel
theorem dX11_isRest_65 : decode cX11_isRest 65 = .ok (.getfield 74, 3) := by decide +kernel
theorem dX11_isRest_68 : decode cX11_isRest 68 = .ok (.bipush 8, 2) := by decide +kernel
theorem dX11_isRest_70 : decode cX11_isRest 70 = .ok (.iload_n 3, 1) := by decide +kernel
theorem dX11_isRest_71 : decode cX11_isRest 71 = .ok (.imul, 1) := by decide +kernel
theorem dX11_isRest_72 : decode cX11_isRest 72 = .ok (.iload 6, 2) := by decide +kernel
theorem dX11_isRest_74 : decode cX11_isRest 74 = .ok (.iadd, 1) := by decide +kernel
theorem dX11_isRest_75 : decode cX11_isRest 75 = .ok (.iaload, 1) := by decide +kernel
theorem dX11_isRest_76 : decode cX11_isRest 76 = .ok (.iload 5, 2) := by decide +kernel
theorem dX11_isRest_78 : decode cX11_isRest 78 = .ok (.if_icmp .ge 5, 3) := by decide +kernel
theorem dX11_isRest_81 : decode cX11_isRest 81 = .ok (.iconst 0, 1) := by decide +kernel
theorem dX11_isRest_82 : decode cX11_isRest 82 = .ok (.ireturn, 1) := by decide +kernel
theorem dX11_isRest_83 : decode cX11_isRest 83 = .ok (.iinc 6 1, 3) := by decide +kernel
theorem dX11_isRest_86 : decode cX11_isRest 86 = .ok (.goto (-69), 3) := by decide +kernel
theorem dX11_isRest_89 : decode cX11_isRest 89 = .ok (.iconst 1, 1) := by decide +kernel
theorem dX11_isRest_90 : decode cX11_isRest 90 = .ok (.ireturn, 1) := by decide +kernel
theorem dX11_rests_0 : decode cX11_rests 0 = .ok (.aload_n 0, 1) := by decide +kernel
theorem dX11_rests_1 : decode cX11_rests 1 = .ok (.iconst 0, 1) := by decide +kernel
theorem dX11_rests_2 : decode cX11_rests 2 = .ok (.putfield 80, 3) := by decide +kernel
theorem dX11_rests_5 : decode cX11_rests 5 = .ok (.aload_n 0, 1) := by decide +kernel
theorem dX11_rests_6 : decode cX11_rests 6 = .ok (.iload_n 1, 1) := by decide +kernel
theorem dX11_rests_7 : decode cX11_rests 7 = .ok (.invokevirtual 385, 3) := by decide +kernel
theorem dX11_rests_10 : decode cX11_rests 10 = .ok (.ifCond .eq 21, 3) := by decide +kernel
theorem dX11_rests_13 : decode cX11_rests 13 = .ok (.aload_n 0, 1) := by decide +kernel
theorem dX11_rests_14 : decode cX11_rests 14 = .ok (.iload_n 2, 1) := by decide +kernel
theorem dX11_rests_15 : decode cX11_rests 15 = .ok (.invokevirtual 385, 3) := by decide +kernel
theorem dX11_rests_18 : decode cX11_rests 18 = .ok (.ifCond .eq 13, 3) := by decide +kernel
theorem dX11_rests_21 : decode cX11_rests 21 = .ok (.iload_n 1, 1) := by decide +kernel
theorem dX11_rests_22 : decode cX11_rests 22 = .ok (.iload_n 2, 1) := by decide +kernel
theorem dX11_rests_23 : decode cX11_rests 23 = .ok (.if_icmp .eq 8, 3) := by decide +kernel
theorem dX11_rests_26 : decode cX11_rests 26 = .ok (.iload_n 3, 1) := by decide +kernel
theorem dX11_rests_27 : decode cX11_rests 27 = .ok (.iconst (-1), 1) := by decide +kernel
theorem dX11_rests_28 : decode cX11_rests 28 = .ok (.if_icmp .ge 5, 3) := by decide +kernel
theorem dX11_rests_31 : decode cX11_rests 31 = .ok (.iconst (-1), 1) := by decide +kernel
theorem dX11_rests_32 : decode cX11_rests 32 = .ok (.ireturn, 1) := by decide +kernel
theorem dX11_rests_33 : decode cX11_rests 33 = .ok (.iconst 0, 1) := by decide +kernel
theorem dX11_rests_34 : decode cX11_rests 34 = .ok (.istore 4, 2) := by decide +kernel
theorem dX11_rests_36 : decode cX11_rests 36 = .ok (.iload 4, 2) := by decide +kernel
theorem dX11_rests_38 : decode cX11_rests 38 = .ok (.aload_n 0, 1) := by decide +kernel
theorem dX11_rests_39 : decode cX11_rests 39 = .ok (.getfield 260, 3) := by decide +kernel
theorem dX11_rests_42 : decode cX11_rests 42 = .ok (.if_icmp .ge 70, 3) := by decide +kernel
theorem dX11_rests_45 : decode cX11_rests 45 = .ok (.iconst 0, 1) := by decide +kernel
theorem dX11_rests_46 : decode cX11_rests 46 = .ok (.istore 5, 2) := by decide +kernel
theorem dX11_rests_48 : decode cX11_rests 48 = .ok (.iload 5, 2) := by decide +kernel
theorem dX11_rests_50 : decode cX11_rests 50 = .ok (.aload_n 0, 1) := by decide +kernel
theorem dX11_rests_51 : decode cX11_rests 51 = .ok (.getfield 260, 3) := by decide +kernel
theorem dX11_rests_54 : decode cX11_rests 54 = .ok (.if_icmp .ge 52, 3) := by decide +kernel
theorem dX11_rests_57 : decode cX11_rests 57 = .ok (.aload_n 0, 1) := by decide +kernel
theorem dX11_rests_58 : decode cX11_rests 58 = .ok (.iload 4, 2) := by decide +kernel
theorem dX11_rests_60 : decode cX11_rests 60 = .ok (.iload_n 1, 1) := by decide +kernel
theorem dX11_rests_61 : decode cX11_rests 61 = .ok (.invokevirtual 422, 3) := by decide +kernel
theorem dX11_rests_64 : decode cX11_rests 64 = .ok (.ifCond .eq 36, 3) := by decide +kernel
theorem dX11_rests_67 : decode cX11_rests 67 = .ok (.aload_n 0, 1) := by decide +kernel
theorem dX11_rests_68 : decode cX11_rests 68 = .ok (.iload 5, 2) := by decide +kernel
theorem dX11_rests_70 : decode cX11_rests 70 = .ok (.iload_n 2, 1) := by decide +kernel
theorem dX11_rests_71 : decode cX11_rests 71 = .ok (.invokevirtual 422, 3) := by decide +kernel
theorem dX11_rests_74 : decode cX11_rests 74 = .ok (.ifCond .eq 26, 3) := by decide +kernel
theorem dX11_rests_77 : decode cX11_rests 77 = .ok (.aload_n 0, 1) := by decide +kernel
theorem dX11_rests_78 : decode cX11_rests 78 = .ok (.getfield 74, 3) := by decide +kernel
theorem dX11_rests_81 : decode cX11_rests 81 = .ok (.bipush 8, 2) := by decide +kernel
theorem dX11_rests_83 : decode cX11_rests 83 = .ok (.iload 4, 2) := by decide +kernel
theorem dX11_rests_85 : decode cX11_rests 85 = .ok (.imul, 1) := by decide +kernel
theorem dX11_rests_86 : decode cX11_rests 86 = .ok (.iload 5, 2) := by decide +kernel
theorem dX11_rests_88 : decode cX11_rests 88 = .ok (.iadd, 1) := by decide +kernel
theorem dX11_rests_89 : decode cX11_rests 89 = .ok (.aload_n 0, 1) := by decide +kernel
theorem dX11_rests_90 : decode cX11_rests 90 = .ok (.iload_n 1, 1) := by decide +kernel
theorem dX11_rests_91 : decode cX11_rests 91 = .ok (.iload_n 2, 1) := by decide +kernel
theorem dX11_rests_92 : decode cX11_rests 92 = .ok (.iload 4, 2) := by decide +kernel
theorem dX11_rests_94 : decode cX11_rests 94 = .ok (.iload 5, 2) := by decide +kernel
theorem dX11_rests_96 : decode cX11_rests 96 = .ok (.invokevirtual 425, 3) := by decide +kernel
theorem dX11_rests_99 : decode cX11_rests 99 = .ok (.iastore, 1) := by decide +kernel
theorem dX11_rests_100 : decode cX11_rests 100 = .ok (.iinc 5 1, 3) := by decide +kernel
theorem dX11_rests_103 : decode cX11_rests 103 = .ok (.goto (-55), 3) := by decide +kernel
theorem dX11_rests_106 : decode cX11_rests 106 = .ok (.iinc 4 1, 3) := by decide +kernel
theorem dX11_rests_109 : decode cX11_rests 109 = .ok (.goto (-73), 3) := by decide +kernel
theorem dX11_rests_112 : decode cX11_rests 112 = .ok (.iconst 0, 1) := by decide +kernel
theorem dX11_rests_113 : decode cX11_rests 113 = .ok (.istore 4, 2) := by decide +kernel
theorem dX11_rests_115 : decode cX11_rests 115 = .ok (.iconst 0, 1) := by decide +kernel
theorem dX11_rests_116 : decode cX11_rests 116 = .ok (.istore 5, 2) := by decide +kernel
theorem dX11_rests_118 : decode cX11_rests 118 = .ok (.iload 5, 2) := by decide +kernel
theorem dX11_rests_120 : decode cX11_rests 120 = .ok (.aload_n 0, 1) := by decide +kernel
theorem dX11_rests_121 : decode cX11_rests 121 = .ok (.getfield 260, 3) := by decide +kernel
theorem dX11_rests_124 : decode cX11_rests 124 = .ok (.if_icmp .ge 81, 3) := by decide +kernel
theorem dX11_rests_127 : decode cX11_rests 127 = .ok (.iconst 0, 1) := by decide +kernel
theorem dX11_rests_128 : decode cX11_rests 128 = .ok (.istore 6, 2) := by decide +kernel
theorem dX11_rests_130 : decode cX11_rests 130 = .ok (.iload 6, 2) := by decide +kernel
theorem dX11_rests_132 : decode cX11_rests 132 = .ok (.aload_n 0, 1) := by decide +kernel
theorem dX11_rests_133 : decode cX11_rests 133 = .ok (.getfield 260, 3) := by decide +kernel
theorem dX11_rests_136 : decode cX11_rests 136 = .ok (.if_icmp .ge 63, 3) := by decide +kernel
theorem dX11_rests_139 : decode cX11_rests 139 = .ok (.aload_n 0, 1) := by decide +kernel
theorem dX11_rests_140 : decode cX11_rests 140 = .ok (.iload 5, 2) := by decide +kernel
theorem dX11_rests_142 : decode cX11_rests 142 = .ok (.iload_n 1, 1) := by decide +kernel
theorem dX11_rests_143 : decode cX11_rests 143 = .ok (.invokevirtual 422, 3) := by decide +kernel
theorem dX11_rests_146 : decode cX11_rests 146 = .ok (.ifCond .eq 47, 3) := by decide +kernel
theorem dX11_rests_149 : decode cX11_rests 149 = .ok (.aload_n 0, 1) := by decide +kernel
theorem dX11_rests_150 : decode cX11_rests 150 = .ok (.iload 6, 2) := by decide +kernel
theorem dX11_rests_152 : decode cX11_rests 152 = .ok (.iload_n 2, 1) := by decide +kernel
theorem dX11_rests_153 : decode cX11_rests 153 = .ok (.invokevirtual 422, 3) := by decide +kernel
theorem dX11_rests_156 : decode cX11_rests 156 = .ok (.ifCond .eq 37, 3) := by decide +kernel
theorem dX11_rests_159 : decode cX11_rests 159 = .ok (.aload_n 0, 1) := by decide +kernel
theorem dX11_rests_160 : decode cX11_rests 160 = .ok (.iload_n 1, 1) := by decide +kernel
theorem dX11_rests_161 : decode cX11_rests 161 = .ok (.iload_n 2, 1) := by decide +kernel
theorem dX11_rests_162 : decode cX11_rests 162 = .ok (.iload 5, 2) := by decide +kernel
theorem dX11_rests_164 : decode cX11_rests 164 = .ok (.iload 6, 2) := by decide +kernel
theorem dX11_rests_166 : decode cX11_rests 166 = .ok (.invokevirtual 429, 3) := by decide +kernel
theorem dX11_rests_169 : decode cX11_rests 169 = .ok (.ifCond .ne 6, 3) := by decide +kernel
theorem dX11_rests_172 : decode cX11_rests 172 = .ok (.goto 21, 3) := by decide +kernel
theorem dX11_rests_175 : decode cX11_rests 175 = .ok (.iload 4, 2) := by decide +kernel
theorem dX11_rests_177 : decode cX11_rests 177 = .ok (.iload_n 3, 1) := by decide +kernel
theorem dX11_rests_178 : decode cX11_rests 178 = .ok (.if_icmp .ne 12, 3) := by decide +kernel
theorem dX11_rests_181 : decode cX11_rests 181 = .ok (.bipush 10, 2) := by decide +kernel
theorem dX11_rests_183 : decode cX11_rests 183 = .ok (.iload 5, 2) := by decide +kernel
theorem dX11_rests_185 : decode cX11_rests 185 = .ok (.imul, 1) := by decide +kernel
theorem dX11_rests_186 : decode cX11_rests 186 = .ok (.iload 6, 2) := by decide +kernel
theorem dX11_rests_188 : decode cX11_rests 188 = .ok (.iadd, 1) := by decide +kernel
theorem dX11_rests_189 : decode cX11_rests 189 = .ok (.ireturn, 1) := by decide +kernel
theorem dX11_rests_190 : decode cX11_rests 190 = .ok (.iinc 4 1, 3) := by decide +kernel
theorem dX11_rests_193 : decode cX11_rests 193 = .ok (.iinc 6 1, 3) := by decide +kernel
theorem dX11_rests_196 : decode cX11_rests 196 = .ok (.goto (-66), 3) := by decide +kernel
theorem dX11_rests_199 : decode cX11_rests 199 = .ok (.iinc 5 1, 3) := by decide +kernel
theorem dX11_rests_202 : decode cX11_rests 202 = .ok (.goto (-84), 3) := by decide +kernel
theorem dX11_rests_205 : decode cX11_rests 205 = .ok (.iload_n 3, 1) := by decide +kernel
theorem dX11_rests_206 : decode cX11_rests 206 = .ok (.iconst (-1), 1) := by decide +kernel
theorem dX11_rests_207 : decode cX11_rests 207 = .ok (.if_icmp .ne 8, 3) := by decide +kernel
theorem dX11_rests_210 : decode cX11_rests 210 = .ok (.iload 4, 2) := by decide +kernel
theorem dX11_rests_212 : decode cX11_rests 212 = .ok (.goto 4, 3) := by decide +kernel
theorem dX11_rests_215 : decode cX11_rests 215 = .ok (.iconst (-1), 1) := by decide +kernel
theorem dX11_rests_216 : decode cX11_rests 216 = .ok (.ireturn, 1) := by decide +kernel
theorem dX11_couldTeach_0 : decode cX11_couldTeach 0 = .ok (.iconst 0, 1) := by decide +kernel
theorem dX11_couldTeach_1 : decode cX11_couldTeach 1 = .ok (.istore_n 3, 1) := by decide +kernel
theorem dX11_couldTeach_2 : decode cX11_couldTeach 2 = .ok (.iconst 0, 1) := by decide +kernel
theorem dX11_couldTeach_3 : decode cX11_couldTeach 3 = .ok (.istore 4, 2) := by decide +kernel
theorem dX11_couldTeach_5 : decode cX11_couldTeach 5 = .ok (.iload 4, 2) := by decide +kernel
theorem dX11_couldTeach_7 : decode cX11_couldTeach 7 = .ok (.aload_n 0, 1) := by decide +kernel
theorem dX11_couldTeach_8 : decode cX11_couldTeach 8 = .ok (.getfield 263, 3) := by decide +kernel
theorem dX11_couldTeach_11 : decode cX11_couldTeach 11 = .ok (.if_icmp .ge 35, 3) := by decide +kernel
theorem dX11_couldTeach_14 : decode cX11_couldTeach 14 = .ok (.iload_n 3, 1) := by decide +kernel
theorem dX11_couldTeach_15 : decode cX11_couldTeach 15 = .ok (.iload_n 2, 1) := by decide +kernel
theorem dX11_couldTeach_16 : decode cX11_couldTeach 16 = .ok (.iload 4, 2) := by decide +kernel
theorem dX11_couldTeach_18 : decode cX11_couldTeach 18 = .ok (.invokestatic 213, 3) := by decide +kernel
theorem dX11_couldTeach_21 : decode cX11_couldTeach 21 = .ok (.ifCond .eq 16, 3) := by decide +kernel
theorem dX11_couldTeach_24 : decode cX11_couldTeach 24 = .ok (.aload_n 0, 1) := by decide +kernel
theorem dX11_couldTeach_25 : decode cX11_couldTeach 25 = .ok (.getfield 55, 3) := by decide +kernel
theorem dX11_couldTeach_28 : decode cX11_couldTeach 28 = .ok (.bipush 56, 2) := by decide +kernel
theorem dX11_couldTeach_30 : decode cX11_couldTeach 30 = .ok (.iload 4, 2) := by decide +kernel
theorem dX11_couldTeach_32 : decode cX11_couldTeach 32 = .ok (.iadd, 1) := by decide +kernel
theorem dX11_couldTeach_33 : decode cX11_couldTeach 33 = .ok (.iaload, 1) := by decide +kernel
theorem dX11_couldTeach_34 : decode cX11_couldTeach 34 = .ok (.goto 4, 3) := by decide +kernel
theorem dX11_couldTeach_37 : decode cX11_couldTeach 37 = .ok (.iconst 0, 1) := by decide +kernel
theorem dX11_couldTeach_38 : decode cX11_couldTeach 38 = .ok (.ior, 1) := by decide +kernel
theorem dX11_couldTeach_39 : decode cX11_couldTeach 39 = .ok (.istore_n 3, 1) := by decide +kernel
theorem dX11_couldTeach_40 : decode cX11_couldTeach 40 = .ok (.iinc 4 1, 3) := by decide +kernel
theorem dX11_couldTeach_43 : decode cX11_couldTeach 43 = .ok (.goto (-38), 3) := by decide +kernel
theorem dX11_couldTeach_46 : decode cX11_couldTeach 46 = .ok (.aload_n 0, 1) := by decide +kernel
theorem dX11_couldTeach_47 : decode cX11_couldTeach 47 = .ok (.getfield 55, 3) := by decide +kernel
theorem dX11_couldTeach_50 : decode cX11_couldTeach 50 = .ok (.iload_n 1, 1) := by decide +kernel
theorem dX11_couldTeach_51 : decode cX11_couldTeach 51 = .ok (.invokestatic 272, 3) := by decide +kernel
theorem dX11_couldTeach_54 : decode cX11_couldTeach 54 = .ok (.iload_n 3, 1) := by decide +kernel
theorem dX11_couldTeach_55 : decode cX11_couldTeach 55 = .ok (.iconst (-1), 1) := by decide +kernel
theorem dX11_couldTeach_56 : decode cX11_couldTeach 56 = .ok (.ixor, 1) := by decide +kernel
theorem dX11_couldTeach_57 : decode cX11_couldTeach 57 = .ok (.iand, 1) := by decide +kernel
theorem dX11_couldTeach_58 : decode cX11_couldTeach 58 = .ok (.ifCond .ne 23, 3) := by decide +kernel
theorem dX11_couldTeach_61 : decode cX11_couldTeach 61 = .ok (.aload_n 0, 1) := by decide +kernel
theorem dX11_couldTeach_62 : decode cX11_couldTeach 62 = .ok (.getfield 55, 3) := by decide +kernel
theorem dX11_couldTeach_65 : decode cX11_couldTeach 65 = .ok (.bipush 7, 2) := by decide +kernel
theorem dX11_couldTeach_67 : decode cX11_couldTeach 67 = .ok (.iload_n 1, 1) := by decide +kernel
theorem dX11_couldTeach_68 : decode cX11_couldTeach 68 = .ok (.imul, 1) := by decide +kernel
theorem dX11_couldTeach_69 : decode cX11_couldTeach 69 = .ok (.iconst 2, 1) := by decide +kernel
theorem dX11_couldTeach_70 : decode cX11_couldTeach 70 = .ok (.iadd, 1) := by decide +kernel
theorem dX11_couldTeach_71 : decode cX11_couldTeach 71 = .ok (.iaload, 1) := by decide +kernel
theorem dX11_couldTeach_72 : decode cX11_couldTeach 72 = .ok (.iload_n 3, 1) := by decide +kernel
theorem dX11_couldTeach_73 : decode cX11_couldTeach 73 = .ok (.iand, 1) := by decide +kernel
theorem dX11_couldTeach_74 : decode cX11_couldTeach 74 = .ok (.ifCond .ne 7, 3) := by decide +kernel
theorem dX11_couldTeach_77 : decode cX11_couldTeach 77 = .ok (.iconst 1, 1) := by decide +kernel
theorem dX11_couldTeach_78 : decode cX11_couldTeach 78 = .ok (.goto 4, 3) := by decide +kernel
theorem dX11_couldTeach_81 : decode cX11_couldTeach 81 = .ok (.iconst 0, 1) := by decide +kernel
theorem dX11_couldTeach_82 : decode cX11_couldTeach 82 = .ok (.ireturn, 1) := by decide +kernel
theorem dX11_teachers_0 : decode cX11_teachers 0 = .ok (.aload_n 0, 1) := by decide +kernel
theorem dX11_teachers_1 : decode cX11_teachers 1 = .ok (.iconst 0, 1) := by decide +kernel
theorem dX11_teachers_2 : decode cX11_teachers 2 = .ok (.putfield 80, 3) := by decide +kernel
theorem dX11_teachers_5 : decode cX11_teachers 5 = .ok (.aload_n 0, 1) := by decide +kernel
theorem dX11_teachers_6 : decode cX11_teachers 6 = .ok (.iload_n 1, 1) := by decide +kernel
theorem dX11_teachers_7 : decode cX11_teachers 7 = .ok (.invokevirtual 296, 3) := by decide +kernel
theorem dX11_teachers_10 : decode cX11_teachers 10 = .ok (.ifCond .eq 8, 3) := by decide +kernel
theorem dX11_teachers_13 : decode cX11_teachers 13 = .ok (.iload_n 2, 1) := by decide +kernel
theorem dX11_teachers_14 : decode cX11_teachers 14 = .ok (.iconst (-1), 1) := by decide +kernel
theorem dX11_teachers_15 : decode cX11_teachers 15 = .ok (.if_icmp .ge 5, 3) := by decide +kernel
theorem dX11_teachers_18 : decode cX11_teachers 18 = .ok (.iconst (-1), 1) := by decide +kernel
theorem dX11_teachers_19 : decode cX11_teachers 19 = .ok (.ireturn, 1) := by decide +kernel
theorem dX11_teachers_20 : decode cX11_teachers 20 = .ok (.iconst 0, 1) := by decide +kernel
theorem dX11_teachers_21 : decode cX11_teachers 21 = .ok (.istore_n 3, 1) := by decide +kernel
theorem dX11_teachers_22 : decode cX11_teachers 22 = .ok (.iconst 1, 1) := by decide +kernel
theorem dX11_teachers_23 : decode cX11_teachers 23 = .ok (.istore 4, 2) := by decide +kernel
theorem dX11_teachers_25 : decode cX11_teachers 25 = .ok (.iload 4, 2) := by decide +kernel
theorem dX11_teachers_27 : decode cX11_teachers 27 = .ok (.iconst 1, 1) := by decide +kernel
theorem dX11_teachers_28 : decode cX11_teachers 28 = .ok (.aload_n 0, 1) := by decide +kernel
theorem dX11_teachers_29 : decode cX11_teachers 29 = .ok (.getfield 263, 3) := by decide +kernel
theorem dX11_teachers_32 : decode cX11_teachers 32 = .ok (.ishl, 1) := by decide +kernel
theorem dX11_teachers_33 : decode cX11_teachers 33 = .ok (.if_icmp .ge 33, 3) := by decide +kernel
theorem dX11_teachers_36 : decode cX11_teachers 36 = .ok (.aload_n 0, 1) := by decide +kernel
theorem dX11_teachers_37 : decode cX11_teachers 37 = .ok (.iload_n 1, 1) := by decide +kernel
theorem dX11_teachers_38 : decode cX11_teachers 38 = .ok (.iload 4, 2) := by decide +kernel
theorem dX11_teachers_40 : decode cX11_teachers 40 = .ok (.invokevirtual 432, 3) := by decide +kernel
theorem dX11_teachers_43 : decode cX11_teachers 43 = .ok (.ifCond .ne 6, 3) := by decide +kernel
theorem dX11_teachers_46 : decode cX11_teachers 46 = .ok (.goto 14, 3) := by decide +kernel
theorem dX11_teachers_49 : decode cX11_teachers 49 = .ok (.iload_n 3, 1) := by decide +kernel
theorem dX11_teachers_50 : decode cX11_teachers 50 = .ok (.iload_n 2, 1) := by decide +kernel
theorem dX11_teachers_51 : decode cX11_teachers 51 = .ok (.if_icmp .ne 6, 3) := by decide +kernel
theorem dX11_teachers_54 : decode cX11_teachers 54 = .ok (.iload 4, 2) := by decide +kernel
theorem dX11_teachers_56 : decode cX11_teachers 56 = .ok (.ireturn, 1) := by decide +kernel
theorem dX11_teachers_57 : decode cX11_teachers 57 = .ok (.iinc 3 1, 3) := by decide +kernel
theorem dX11_teachers_60 : decode cX11_teachers 60 = .ok (.iinc 4 1, 3) := by decide +kernel
theorem dX11_teachers_63 : decode cX11_teachers 63 = .ok (.goto (-38), 3) := by decide +kernel
theorem dX11_teachers_66 : decode cX11_teachers 66 = .ok (.iload_n 2, 1) := by decide +kernel
theorem dX11_teachers_67 : decode cX11_teachers 67 = .ok (.iconst (-1), 1) := by decide +kernel
theorem dX11_teachers_68 : decode cX11_teachers 68 = .ok (.if_icmp .ne 7, 3) := by decide +kernel
theorem dX11_teachers_71 : decode cX11_teachers 71 = .ok (.iload_n 3, 1) := by decide +kernel
theorem dX11_teachers_72 : decode cX11_teachers 72 = .ok (.goto 4, 3) := by decide +kernel
theorem dX11_teachers_75 : decode cX11_teachers 75 = .ok (.iconst (-1), 1) := by decide +kernel
theorem dX11_teachers_76 : decode cX11_teachers 76 = .ok (.ireturn, 1) := by decide +kernel
theorem dX11_spans_0 : decode cX11_spans 0 = .ok (.aload_n 0, 1) := by decide +kernel
theorem dX11_spans_1 : decode cX11_spans 1 = .ok (.iconst 0, 1) := by decide +kernel
theorem dX11_spans_2 : decode cX11_spans 2 = .ok (.putfield 80, 3) := by decide +kernel
theorem dX11_spans_5 : decode cX11_spans 5 = .ok (.aload_n 0, 1) := by decide +kernel
theorem dX11_spans_6 : decode cX11_spans 6 = .ok (.iload_n 1, 1) := by decide +kernel
theorem dX11_spans_7 : decode cX11_spans 7 = .ok (.invokevirtual 296, 3) := by decide +kernel
theorem dX11_spans_10 : decode cX11_spans 10 = .ok (.ifCond .eq 15, 3) := by decide +kernel
theorem dX11_spans_13 : decode cX11_spans 13 = .ok (.iload_n 2, 1) := by decide +kernel
theorem dX11_spans_14 : decode cX11_spans 14 = .ok (.i2l, 1) := by decide +kernel
theorem dX11_spans_15 : decode cX11_spans 15 = .ok (.lconst 0, 1) := by decide +kernel
theorem dX11_spans_16 : decode cX11_spans 16 = .ok (.ldc2_w 309, 3) := by decide +kernel
theorem dX11_spans_19 : decode cX11_spans 19 = .ok (.invokestatic 201, 3) := by decide +kernel
theorem dX11_spans_22 : decode cX11_spans 22 = .ok (.ifCond .ne 5, 3) := by decide +kernel
theorem dX11_spans_25 : decode cX11_spans 25 = .ok (.iconst (-1), 1) := by decide +kernel
theorem dX11_spans_26 : decode cX11_spans 26 = .ok (.ireturn, 1) := by decide +kernel
theorem dX11_spans_27 : decode cX11_spans 27 = .ok (.iconst 0, 1) := by decide +kernel
theorem dX11_spans_28 : decode cX11_spans 28 = .ok (.istore_n 3, 1) := by decide +kernel
theorem dX11_spans_29 : decode cX11_spans 29 = .ok (.iconst 0, 1) := by decide +kernel
theorem dX11_spans_30 : decode cX11_spans 30 = .ok (.istore 4, 2) := by decide +kernel
theorem dX11_spans_32 : decode cX11_spans 32 = .ok (.iload 4, 2) := by decide +kernel
theorem dX11_spans_34 : decode cX11_spans 34 = .ok (.bipush 9, 2) := by decide +kernel
theorem dX11_spans_36 : decode cX11_spans 36 = .ok (.if_icmp .gt 65, 3) := by decide +kernel
theorem dX11_spans_39 : decode cX11_spans 39 = .ok (.iload_n 3, 1) := by decide +kernel
theorem dX11_spans_40 : decode cX11_spans 40 = .ok (.aload_n 0, 1) := by decide +kernel
theorem dX11_spans_41 : decode cX11_spans 41 = .ok (.bipush 10, 2) := by decide +kernel
theorem dX11_spans_43 : decode cX11_spans 43 = .ok (.iload 4, 2) := by decide +kernel
theorem dX11_spans_45 : decode cX11_spans 45 = .ok (.imul, 1) := by decide +kernel
theorem dX11_spans_46 : decode cX11_spans 46 = .ok (.aload_n 0, 1) := by decide +kernel
theorem dX11_spans_47 : decode cX11_spans 47 = .ok (.getfield 55, 3) := by decide +kernel
theorem dX11_spans_50 : decode cX11_spans 50 = .ok (.bipush 7, 2) := by decide +kernel
theorem dX11_spans_52 : decode cX11_spans 52 = .ok (.iload_n 1, 1) := by decide +kernel
theorem dX11_spans_53 : decode cX11_spans 53 = .ok (.imul, 1) := by decide +kernel
theorem dX11_spans_54 : decode cX11_spans 54 = .ok (.iconst 0, 1) := by decide +kernel
theorem dX11_spans_55 : decode cX11_spans 55 = .ok (.iadd, 1) := by decide +kernel
theorem dX11_spans_56 : decode cX11_spans 56 = .ok (.iaload, 1) := by decide +kernel
theorem dX11_spans_57 : decode cX11_spans 57 = .ok (.iload 4, 2) := by decide +kernel
theorem dX11_spans_59 : decode cX11_spans 59 = .ok (.aload_n 0, 1) := by decide +kernel
theorem dX11_spans_60 : decode cX11_spans 60 = .ok (.getfield 37, 3) := by decide +kernel
theorem dX11_spans_63 : decode cX11_spans 63 = .ok (.bipush 6, 2) := by decide +kernel
theorem dX11_spans_65 : decode cX11_spans 65 = .ok (.iload_n 1, 1) := by decide +kernel
theorem dX11_spans_66 : decode cX11_spans 66 = .ok (.imul, 1) := by decide +kernel
theorem dX11_spans_67 : decode cX11_spans 67 = .ok (.iconst 3, 1) := by decide +kernel
theorem dX11_spans_68 : decode cX11_spans 68 = .ok (.iadd, 1) := by decide +kernel
theorem dX11_spans_69 : decode cX11_spans 69 = .ok (.iaload, 1) := by decide +kernel
theorem dX11_spans_70 : decode cX11_spans 70 = .ok (.aload_n 0, 1) := by decide +kernel
theorem dX11_spans_71 : decode cX11_spans 71 = .ok (.getfield 55, 3) := by decide +kernel
theorem dX11_spans_74 : decode cX11_spans 74 = .ok (.bipush 60, 2) := by decide +kernel
theorem dX11_spans_76 : decode cX11_spans 76 = .ok (.iaload, 1) := by decide +kernel
theorem dX11_spans_77 : decode cX11_spans 77 = .ok (.iconst 0, 1) := by decide +kernel
theorem dX11_spans_78 : decode cX11_spans 78 = .ok (.invokevirtual 292, 3) := by decide +kernel
theorem dX11_spans_81 : decode cX11_spans 81 = .ok (.iload_n 2, 1) := by decide +kernel
theorem dX11_spans_82 : decode cX11_spans 82 = .ok (.if_icmp .ne 10, 3) := by decide +kernel
theorem dX11_spans_85 : decode cX11_spans 85 = .ok (.iconst 1, 1) := by decide +kernel
theorem dX11_spans_86 : decode cX11_spans 86 = .ok (.iload 4, 2) := by decide +kernel
theorem dX11_spans_88 : decode cX11_spans 88 = .ok (.ishl, 1) := by decide +kernel
theorem dX11_spans_89 : decode cX11_spans 89 = .ok (.goto 4, 3) := by decide +kernel
theorem dX11_spans_92 : decode cX11_spans 92 = .ok (.iconst 0, 1) := by decide +kernel
theorem dX11_spans_93 : decode cX11_spans 93 = .ok (.ior, 1) := by decide +kernel
theorem dX11_spans_94 : decode cX11_spans 94 = .ok (.istore_n 3, 1) := by decide +kernel
theorem dX11_spans_95 : decode cX11_spans 95 = .ok (.iinc 4 1, 3) := by decide +kernel
theorem dX11_spans_98 : decode cX11_spans 98 = .ok (.goto (-66), 3) := by decide +kernel
theorem dX11_spans_101 : decode cX11_spans 101 = .ok (.iload_n 3, 1) := by decide +kernel
theorem dX11_spans_102 : decode cX11_spans 102 = .ok (.ireturn, 1) := by decide +kernel
theorem dX11_isChain_0 : decode cX11_isChain 0 = .ok (.iconst 0, 1) := by decide +kernel
theorem dX11_isChain_1 : decode cX11_isChain 1 = .ok (.istore_n 2, 1) := by decide +kernel
theorem dX11_isChain_2 : decode cX11_isChain 2 = .ok (.iload_n 2, 1) := by decide +kernel
theorem dX11_isChain_3 : decode cX11_isChain 3 = .ok (.aload_n 0, 1) := by decide +kernel
theorem dX11_isChain_4 : decode cX11_isChain 4 = .ok (.getfield 260, 3) := by decide +kernel
theorem dX11_isChain_7 : decode cX11_isChain 7 = .ok (.if_icmp .ge 105, 3) := by decide +kernel
theorem dX11_isChain_10 : decode cX11_isChain 10 = .ok (.iconst 0, 1) := by decide +kernel
theorem dX11_isChain_11 : decode cX11_isChain 11 = .ok (.istore_n 3, 1) := by decide +kernel
theorem dX11_isChain_12 : decode cX11_isChain 12 = .ok (.iload_n 3, 1) := by decide +kernel
theorem dX11_isChain_13 : decode cX11_isChain 13 = .ok (.aload_n 0, 1) := by decide +kernel
theorem dX11_isChain_14 : decode cX11_isChain 14 = .ok (.getfield 260, 3) := by decide +kernel
theorem dX11_isChain_17 : decode cX11_isChain 17 = .ok (.if_icmp .ge 89, 3) := by decide +kernel
theorem dX11_isChain_20 : decode cX11_isChain 20 = .ok (.iload_n 2, 1) := by decide +kernel
theorem dX11_isChain_21 : decode cX11_isChain 21 = .ok (.iload_n 3, 1) := by decide +kernel
theorem dX11_isChain_22 : decode cX11_isChain 22 = .ok (.if_icmp .eq 78, 3) := by decide +kernel
theorem dX11_isChain_25 : decode cX11_isChain 25 = .ok (.iload_n 1, 1) := by decide +kernel
theorem dX11_isChain_26 : decode cX11_isChain 26 = .ok (.iload_n 2, 1) := by decide +kernel
theorem dX11_isChain_27 : decode cX11_isChain 27 = .ok (.invokestatic 213, 3) := by decide +kernel
theorem dX11_isChain_30 : decode cX11_isChain 30 = .ok (.ifCond .eq 70, 3) := by decide +kernel
theorem dX11_isChain_33 : decode cX11_isChain 33 = .ok (.iload_n 1, 1) := by decide +kernel
theorem dX11_isChain_34 : decode cX11_isChain 34 = .ok (.iload_n 3, 1) := by decide +kernel
theorem dX11_isChain_35 : decode cX11_isChain 35 = .ok (.invokestatic 213, 3) := by decide +kernel
theorem dX11_isChain_38 : decode cX11_isChain 38 = .ok (.ifCond .ne 6, 3) := by decide +kernel
theorem dX11_isChain_41 : decode cX11_isChain 41 = .ok (.goto 59, 3) := by decide +kernel
theorem dX11_isChain_44 : decode cX11_isChain 44 = .ok (.aload_n 0, 1) := by decide +kernel
theorem dX11_isChain_45 : decode cX11_isChain 45 = .ok (.getfield 55, 3) := by decide +kernel
theorem dX11_isChain_48 : decode cX11_isChain 48 = .ok (.bipush 7, 2) := by decide +kernel
theorem dX11_isChain_50 : decode cX11_isChain 50 = .ok (.iload_n 2, 1) := by decide +kernel
theorem dX11_isChain_51 : decode cX11_isChain 51 = .ok (.imul, 1) := by decide +kernel
theorem dX11_isChain_52 : decode cX11_isChain 52 = .ok (.iconst 0, 1) := by decide +kernel
theorem dX11_isChain_53 : decode cX11_isChain 53 = .ok (.iadd, 1) := by decide +kernel
theorem dX11_isChain_54 : decode cX11_isChain 54 = .ok (.iaload, 1) := by decide +kernel
theorem dX11_isChain_55 : decode cX11_isChain 55 = .ok (.aload_n 0, 1) := by decide +kernel
theorem dX11_isChain_56 : decode cX11_isChain 56 = .ok (.getfield 55, 3) := by decide +kernel
theorem dX11_isChain_59 : decode cX11_isChain 59 = .ok (.bipush 7, 2) := by decide +kernel
theorem dX11_isChain_61 : decode cX11_isChain 61 = .ok (.iload_n 3, 1) := by decide +kernel
theorem dX11_isChain_62 : decode cX11_isChain 62 = .ok (.imul, 1) := by decide +kernel
theorem dX11_isChain_63 : decode cX11_isChain 63 = .ok (.iconst 0, 1) := by decide +kernel
theorem dX11_isChain_64 : decode cX11_isChain 64 = .ok (.iadd, 1) := by decide +kernel
theorem dX11_isChain_65 : decode cX11_isChain 65 = .ok (.iaload, 1) := by decide +kernel
theorem dX11_isChain_66 : decode cX11_isChain 66 = .ok (.isub, 1) := by decide +kernel
theorem dX11_isChain_67 : decode cX11_isChain 67 = .ok (.istore 4, 2) := by decide +kernel
theorem dX11_isChain_69 : decode cX11_isChain 69 = .ok (.iload 4, 2) := by decide +kernel
theorem dX11_isChain_71 : decode cX11_isChain 71 = .ok (.ifCond .eq 27, 3) := by decide +kernel
theorem dX11_isChain_74 : decode cX11_isChain 74 = .ok (.iload 4, 2) := by decide +kernel
theorem dX11_isChain_76 : decode cX11_isChain 76 = .ok (.ifCond .ge 24, 3) := by decide +kernel
theorem dX11_isChain_79 : decode cX11_isChain 79 = .ok (.aload_n 0, 1) := by decide +kernel
theorem dX11_isChain_80 : decode cX11_isChain 80 = .ok (.getfield 55, 3) := by decide +kernel
theorem dX11_isChain_83 : decode cX11_isChain 83 = .ok (.iload_n 2, 1) := by decide +kernel
theorem dX11_isChain_84 : decode cX11_isChain 84 = .ok (.invokestatic 284, 3) := by decide +kernel
theorem dX11_isChain_87 : decode cX11_isChain 87 = .ok (.aload_n 0, 1) := by decide +kernel
theorem dX11_isChain_88 : decode cX11_isChain 88 = .ok (.getfield 55, 3) := by decide +kernel
theorem dX11_isChain_91 : decode cX11_isChain 91 = .ok (.iload_n 3, 1) := by decide +kernel
theorem dX11_isChain_92 : decode cX11_isChain 92 = .ok (.invokestatic 284, 3) := by decide +kernel
theorem dX11_isChain_95 : decode cX11_isChain 95 = .ok (.if_icmp .lt 5, 3) := by decide +kernel
theorem dX11_isChain_98 : decode cX11_isChain 98 = .ok (.iconst 0, 1) := by decide +kernel
theorem dX11_isChain_99 : decode cX11_isChain 99 = .ok (.ireturn, 1) := by decide +kernel
theorem dX11_isChain_100 : decode cX11_isChain 100 = .ok (.iinc 3 1, 3) := by decide +kernel
theorem dX11_isChain_103 : decode cX11_isChain 103 = .ok (.goto (-91), 3) := by decide +kernel
theorem dX11_isChain_106 : decode cX11_isChain 106 = .ok (.iinc 2 1, 3) := by decide +kernel
theorem dX11_isChain_109 : decode cX11_isChain 109 = .ok (.goto (-107), 3) := by decide +kernel
theorem dX11_isChain_112 : decode cX11_isChain 112 = .ok (.iconst 1, 1) := by decide +kernel
theorem dX11_isChain_113 : decode cX11_isChain 113 = .ok (.ireturn, 1) := by decide +kernel
theorem dX11_chain_0 : decode cX11_chain 0 = .ok (.aload_n 0, 1) := by decide +kernel
theorem dX11_chain_1 : decode cX11_chain 1 = .ok (.iconst 0, 1) := by decide +kernel
theorem dX11_chain_2 : decode cX11_chain 2 = .ok (.putfield 80, 3) := by decide +kernel
theorem dX11_chain_5 : decode cX11_chain 5 = .ok (.aload_n 0, 1) := by decide +kernel
theorem dX11_chain_6 : decode cX11_chain 6 = .ok (.getfield 260, 3) := by decide +kernel
theorem dX11_chain_9 : decode cX11_chain 9 = .ok (.ifCond .eq 13, 3) := by decide +kernel
theorem dX11_chain_12 : decode cX11_chain 12 = .ok (.iload_n 1, 1) := by decide +kernel
theorem dX11_chain_13 : decode cX11_chain 13 = .ok (.i2l, 1) := by decide +kernel
theorem dX11_chain_14 : decode cX11_chain 14 = .ok (.lconst 0, 1) := by decide +kernel
theorem dX11_chain_15 : decode cX11_chain 15 = .ok (.lconst 1, 1) := by decide +kernel
theorem dX11_chain_16 : decode cX11_chain 16 = .ok (.invokestatic 201, 3) := by decide +kernel
theorem dX11_chain_19 : decode cX11_chain 19 = .ok (.ifCond .ne 5, 3) := by decide +kernel
theorem dX11_chain_22 : decode cX11_chain 22 = .ok (.iconst (-1), 1) := by decide +kernel
theorem dX11_chain_23 : decode cX11_chain 23 = .ok (.ireturn, 1) := by decide +kernel
theorem dX11_chain_24 : decode cX11_chain 24 = .ok (.iconst 0, 1) := by decide +kernel
theorem dX11_chain_25 : decode cX11_chain 25 = .ok (.istore_n 2, 1) := by decide +kernel
theorem dX11_chain_26 : decode cX11_chain 26 = .ok (.iconst 1, 1) := by decide +kernel
theorem dX11_chain_27 : decode cX11_chain 27 = .ok (.istore_n 3, 1) := by decide +kernel
theorem dX11_chain_28 : decode cX11_chain 28 = .ok (.iload_n 3, 1) := by decide +kernel
theorem dX11_chain_29 : decode cX11_chain 29 = .ok (.iconst 1, 1) := by decide +kernel
theorem dX11_chain_30 : decode cX11_chain 30 = .ok (.aload_n 0, 1) := by decide +kernel
theorem dX11_chain_31 : decode cX11_chain 31 = .ok (.getfield 260, 3) := by decide +kernel
theorem dX11_chain_34 : decode cX11_chain 34 = .ok (.ishl, 1) := by decide +kernel
theorem dX11_chain_35 : decode cX11_chain 35 = .ok (.if_icmp .ge 30, 3) := by decide +kernel
theorem dX11_chain_38 : decode cX11_chain 38 = .ok (.iload_n 3, 1) := by decide +kernel
theorem dX11_chain_39 : decode cX11_chain 39 = .ok (.invokestatic 287, 3) := by decide +kernel
theorem dX11_chain_42 : decode cX11_chain 42 = .ok (.iload_n 2, 1) := by decide +kernel
theorem dX11_chain_43 : decode cX11_chain 43 = .ok (.invokestatic 287, 3) := by decide +kernel
theorem dX11_chain_46 : decode cX11_chain 46 = .ok (.if_icmp .le 13, 3) := by decide +kernel
theorem dX11_chain_49 : decode cX11_chain 49 = .ok (.aload_n 0, 1) := by decide +kernel
theorem dX11_chain_50 : decode cX11_chain 50 = .ok (.iload_n 3, 1) := by decide +kernel
theorem dX11_chain_51 : decode cX11_chain 51 = .ok (.invokevirtual 435, 3) := by decide +kernel
theorem dX11_chain_54 : decode cX11_chain 54 = .ok (.ifCond .eq 5, 3) := by decide +kernel
theorem dX11_chain_57 : decode cX11_chain 57 = .ok (.iload_n 3, 1) := by decide +kernel
theorem dX11_chain_58 : decode cX11_chain 58 = .ok (.istore_n 2, 1) := by decide +kernel
theorem dX11_chain_59 : decode cX11_chain 59 = .ok (.iinc 3 1, 3) := by decide +kernel
theorem dX11_chain_62 : decode cX11_chain 62 = .ok (.goto (-34), 3) := by decide +kernel
theorem dX11_chain_65 : decode cX11_chain 65 = .ok (.iload_n 1, 1) := by decide +kernel
theorem dX11_chain_66 : decode cX11_chain 66 = .ok (.ifCond .ne 10, 3) := by decide +kernel
theorem dX11_chain_69 : decode cX11_chain 69 = .ok (.iload_n 2, 1) := by decide +kernel
theorem dX11_chain_70 : decode cX11_chain 70 = .ok (.invokestatic 287, 3) := by decide +kernel
theorem dX11_chain_73 : decode cX11_chain 73 = .ok (.goto 4, 3) := by decide +kernel
theorem dX11_chain_76 : decode cX11_chain 76 = .ok (.iload_n 2, 1) := by decide +kernel
theorem dX11_chain_77 : decode cX11_chain 77 = .ok (.ireturn, 1) := by decide +kernel
theorem dX11_threes_0 : decode cX11_threes 0 = .ok (.aload_n 0, 1) := by decide +kernel
theorem dX11_threes_1 : decode cX11_threes 1 = .ok (.iconst 0, 1) := by decide +kernel
theorem dX11_threes_2 : decode cX11_threes 2 = .ok (.putfield 80, 3) := by decide +kernel
theorem dX11_threes_5 : decode cX11_threes 5 = .ok (.aload_n 0, 1) := by decide +kernel
theorem dX11_threes_6 : decode cX11_threes 6 = .ok (.invokevirtual 438, 3) := by decide +kernel
theorem dX11_threes_9 : decode cX11_threes 9 = .ok (.istore_n 1, 1) := by decide +kernel
theorem dX11_threes_10 : decode cX11_threes 10 = .ok (.iload_n 1, 1) := by decide +kernel
theorem dX11_threes_11 : decode cX11_threes 11 = .ok (.iconst (-1), 1) := by decide +kernel
theorem dX11_threes_12 : decode cX11_threes 12 = .ok (.if_icmp .ne 5, 3) := by decide +kernel
theorem dX11_threes_15 : decode cX11_threes 15 = .ok (.iconst (-1), 1) := by decide +kernel
theorem dX11_threes_16 : decode cX11_threes 16 = .ok (.ireturn, 1) := by decide +kernel
theorem dX11_threes_17 : decode cX11_threes 17 = .ok (.iconst 0, 1) := by decide +kernel
theorem dX11_threes_18 : decode cX11_threes 18 = .ok (.istore_n 2, 1) := by decide +kernel
theorem dX11_threes_19 : decode cX11_threes 19 = .ok (.iconst 0, 1) := by decide +kernel
theorem dX11_threes_20 : decode cX11_threes 20 = .ok (.istore_n 3, 1) := by decide +kernel
theorem dX11_threes_21 : decode cX11_threes 21 = .ok (.iload_n 3, 1) := by decide +kernel
theorem dX11_threes_22 : decode cX11_threes 22 = .ok (.aload_n 0, 1) := by decide +kernel
theorem dX11_threes_23 : decode cX11_threes 23 = .ok (.getfield 260, 3) := by decide +kernel
theorem dX11_threes_26 : decode cX11_threes 26 = .ok (.if_icmp .ge 56, 3) := by decide +kernel
theorem dX11_threes_29 : decode cX11_threes 29 = .ok (.iload_n 2, 1) := by decide +kernel
theorem dX11_threes_30 : decode cX11_threes 30 = .ok (.aload_n 0, 1) := by decide +kernel
theorem dX11_threes_31 : decode cX11_threes 31 = .ok (.aload_n 0, 1) := by decide +kernel
theorem dX11_threes_32 : decode cX11_threes 32 = .ok (.getfield 55, 3) := by decide +kernel
theorem dX11_threes_35 : decode cX11_threes 35 = .ok (.iload_n 3, 1) := by decide +kernel
theorem dX11_threes_36 : decode cX11_threes 36 = .ok (.iload_n 1, 1) := by decide +kernel
theorem dX11_threes_37 : decode cX11_threes 37 = .ok (.invokevirtual 314, 3) := by decide +kernel
theorem dX11_threes_40 : decode cX11_threes 40 = .ok (.ifCond .ne 33, 3) := by decide +kernel
theorem dX11_threes_43 : decode cX11_threes 43 = .ok (.aload_n 0, 1) := by decide +kernel
theorem dX11_threes_44 : decode cX11_threes 44 = .ok (.aload_n 0, 1) := by decide +kernel
theorem dX11_threes_45 : decode cX11_threes 45 = .ok (.getfield 55, 3) := by decide +kernel
theorem dX11_threes_48 : decode cX11_threes 48 = .ok (.iload_n 1, 1) := by decide +kernel
theorem dX11_threes_49 : decode cX11_threes 49 = .ok (.iconst 1, 1) := by decide +kernel
theorem dX11_threes_50 : decode cX11_threes 50 = .ok (.invokevirtual 276, 3) := by decide +kernel
theorem dX11_threes_53 : decode cX11_threes 53 = .ok (.aload_n 0, 1) := by decide +kernel
theorem dX11_threes_54 : decode cX11_threes 54 = .ok (.getfield 55, 3) := by decide +kernel
theorem dX11_threes_57 : decode cX11_threes 57 = .ok (.iload_n 3, 1) := by decide +kernel
theorem dX11_threes_58 : decode cX11_threes 58 = .ok (.invokestatic 272, 3) := by decide +kernel
theorem dX11_threes_61 : decode cX11_threes 61 = .ok (.iconst (-1), 1) := by decide +kernel
theorem dX11_threes_62 : decode cX11_threes 62 = .ok (.ixor, 1) := by decide +kernel
theorem dX11_threes_63 : decode cX11_threes 63 = .ok (.iand, 1) := by decide +kernel
theorem dX11_threes_64 : decode cX11_threes 64 = .ok (.ifCond .eq 9, 3) := by decide +kernel
theorem dX11_threes_67 : decode cX11_threes 67 = .ok (.iconst 1, 1) := by decide +kernel
theorem dX11_threes_68 : decode cX11_threes 68 = .ok (.iload_n 3, 1) := by decide +kernel
theorem dX11_threes_69 : decode cX11_threes 69 = .ok (.ishl, 1) := by decide +kernel
theorem dX11_threes_70 : decode cX11_threes 70 = .ok (.goto 4, 3) := by decide +kernel
theorem dX11_threes_73 : decode cX11_threes 73 = .ok (.iconst 0, 1) := by decide +kernel
theorem dX11_threes_74 : decode cX11_threes 74 = .ok (.ior, 1) := by decide +kernel
theorem dX11_threes_75 : decode cX11_threes 75 = .ok (.istore_n 2, 1) := by decide +kernel
theorem dX11_threes_76 : decode cX11_threes 76 = .ok (.iinc 3 1, 3) := by decide +kernel
theorem dX11_threes_79 : decode cX11_threes 79 = .ok (.goto (-58), 3) := by decide +kernel
theorem dX11_threes_82 : decode cX11_threes 82 = .ok (.iload_n 2, 1) := by decide +kernel
theorem dX11_threes_83 : decode cX11_threes 83 = .ok (.ireturn, 1) := by decide +kernel
theorem dX11_party_0 : decode cX11_party 0 = .ok (.aload_n 0, 1) := by decide +kernel
theorem dX11_party_1 : decode cX11_party 1 = .ok (.iconst 0, 1) := by decide +kernel
theorem dX11_party_2 : decode cX11_party 2 = .ok (.putfield 80, 3) := by decide +kernel
theorem dX11_party_5 : decode cX11_party 5 = .ok (.aload_n 0, 1) := by decide +kernel
theorem dX11_party_6 : decode cX11_party 6 = .ok (.iload_n 1, 1) := by decide +kernel
theorem dX11_party_7 : decode cX11_party 7 = .ok (.invokevirtual 385, 3) := by decide +kernel
theorem dX11_party_10 : decode cX11_party 10 = .ok (.ifCond .ne 5, 3) := by decide +kernel
theorem dX11_party_13 : decode cX11_party 13 = .ok (.iconst (-1), 1) := by decide +kernel
theorem dX11_party_14 : decode cX11_party 14 = .ok (.ireturn, 1) := by decide +kernel
theorem dX11_party_15 : decode cX11_party 15 = .ok (.iconst 0, 1) := by decide +kernel
theorem dX11_party_16 : decode cX11_party 16 = .ok (.istore_n 2, 1) := by decide +kernel
theorem dX11_party_17 : decode cX11_party 17 = .ok (.iconst 0, 1) := by decide +kernel
theorem dX11_party_18 : decode cX11_party 18 = .ok (.istore_n 3, 1) := by decide +kernel
theorem dX11_party_19 : decode cX11_party 19 = .ok (.iload_n 3, 1) := by decide +kernel
theorem dX11_party_20 : decode cX11_party 20 = .ok (.aload_n 0, 1) := by decide +kernel
theorem dX11_party_21 : decode cX11_party 21 = .ok (.getfield 260, 3) := by decide +kernel
theorem dX11_party_24 : decode cX11_party 24 = .ok (.if_icmp .ge 33, 3) := by decide +kernel
theorem dX11_party_27 : decode cX11_party 27 = .ok (.iload_n 2, 1) := by decide +kernel
theorem dX11_party_28 : decode cX11_party 28 = .ok (.aload_n 0, 1) := by decide +kernel
theorem dX11_party_29 : decode cX11_party 29 = .ok (.iload_n 3, 1) := by decide +kernel
theorem dX11_party_30 : decode cX11_party 30 = .ok (.iload_n 1, 1) := by decide +kernel
theorem dX11_party_31 : decode cX11_party 31 = .ok (.invokevirtual 422, 3) := by decide +kernel
theorem dX11_party_34 : decode cX11_party 34 = .ok (.ifCond .eq 14, 3) := by decide +kernel
theorem dX11_party_37 : decode cX11_party 37 = .ok (.aload_n 0, 1) := by decide +kernel
theorem dX11_party_38 : decode cX11_party 38 = .ok (.getfield 55, 3) := by decide +kernel
theorem dX11_party_41 : decode cX11_party 41 = .ok (.iload_n 3, 1) := by decide +kernel
theorem dX11_party_42 : decode cX11_party 42 = .ok (.invokestatic 272, 3) := by decide +kernel
theorem dX11_party_45 : decode cX11_party 45 = .ok (.goto 4, 3) := by decide +kernel
theorem dX11_party_48 : decode cX11_party 48 = .ok (.iconst 0, 1) := by decide +kernel
theorem dX11_party_49 : decode cX11_party 49 = .ok (.ior, 1) := by decide +kernel
theorem dX11_party_50 : decode cX11_party 50 = .ok (.istore_n 2, 1) := by decide +kernel
theorem dX11_party_51 : decode cX11_party 51 = .ok (.iinc 3 1, 3) := by decide +kernel
theorem dX11_party_54 : decode cX11_party 54 = .ok (.goto (-35), 3) := by decide +kernel
theorem dX11_party_57 : decode cX11_party 57 = .ok (.iload_n 2, 1) := by decide +kernel
theorem dX11_party_58 : decode cX11_party 58 = .ok (.ireturn, 1) := by decide +kernel
theorem dX11_heir_0 : decode cX11_heir 0 = .ok (.aload_n 0, 1) := by decide +kernel
theorem dX11_heir_1 : decode cX11_heir 1 = .ok (.iconst 0, 1) := by decide +kernel
theorem dX11_heir_2 : decode cX11_heir 2 = .ok (.putfield 80, 3) := by decide +kernel
theorem dX11_heir_5 : decode cX11_heir 5 = .ok (.aload_n 0, 1) := by decide +kernel
theorem dX11_heir_6 : decode cX11_heir 6 = .ok (.invokevirtual 438, 3) := by decide +kernel
theorem dX11_heir_9 : decode cX11_heir 9 = .ok (.istore_n 1, 1) := by decide +kernel
theorem dX11_heir_10 : decode cX11_heir 10 = .ok (.iconst (-1), 1) := by decide +kernel
theorem dX11_heir_11 : decode cX11_heir 11 = .ok (.istore_n 2, 1) := by decide +kernel
theorem dX11_heir_12 : decode cX11_heir 12 = .ok (.iconst 0, 1) := by decide +kernel
theorem dX11_heir_13 : decode cX11_heir 13 = .ok (.istore_n 3, 1) := by decide +kernel
theorem dX11_heir_14 : decode cX11_heir 14 = .ok (.iload_n 3, 1) := by decide +kernel
theorem dX11_heir_15 : decode cX11_heir 15 = .ok (.aload_n 0, 1) := by decide +kernel
theorem dX11_heir_16 : decode cX11_heir 16 = .ok (.getfield 260, 3) := by decide +kernel
theorem dX11_heir_19 : decode cX11_heir 19 = .ok (.if_icmp .ge 93, 3) := by decide +kernel
theorem dX11_heir_22 : decode cX11_heir 22 = .ok (.iload_n 1, 1) := by decide +kernel
theorem dX11_heir_23 : decode cX11_heir 23 = .ok (.iconst (-1), 1) := by decide +kernel
theorem dX11_heir_24 : decode cX11_heir 24 = .ok (.if_icmp .eq 88, 3) := by decide +kernel
theorem dX11_heir_27 : decode cX11_heir 27 = .ok (.iload_n 3, 1) := by decide +kernel
theorem dX11_heir_28 : decode cX11_heir 28 = .ok (.aload_n 0, 1) := by decide +kernel
theorem dX11_heir_29 : decode cX11_heir 29 = .ok (.getfield 55, 3) := by decide +kernel
theorem dX11_heir_32 : decode cX11_heir 32 = .ok (.bipush 61, 2) := by decide +kernel
theorem dX11_heir_34 : decode cX11_heir 34 = .ok (.iaload, 1) := by decide +kernel
theorem dX11_heir_35 : decode cX11_heir 35 = .ok (.if_icmp .eq 71, 3) := by decide +kernel
theorem dX11_heir_38 : decode cX11_heir 38 = .ok (.aload_n 0, 1) := by decide +kernel
theorem dX11_heir_39 : decode cX11_heir 39 = .ok (.getfield 55, 3) := by decide +kernel
theorem dX11_heir_42 : decode cX11_heir 42 = .ok (.bipush 7, 2) := by decide +kernel
theorem dX11_heir_44 : decode cX11_heir 44 = .ok (.iload_n 3, 1) := by decide +kernel
theorem dX11_heir_45 : decode cX11_heir 45 = .ok (.imul, 1) := by decide +kernel
theorem dX11_heir_46 : decode cX11_heir 46 = .ok (.iconst 0, 1) := by decide +kernel
theorem dX11_heir_47 : decode cX11_heir 47 = .ok (.iadd, 1) := by decide +kernel
theorem dX11_heir_48 : decode cX11_heir 48 = .ok (.iaload, 1) := by decide +kernel
theorem dX11_heir_49 : decode cX11_heir 49 = .ok (.aload_n 0, 1) := by decide +kernel
theorem dX11_heir_50 : decode cX11_heir 50 = .ok (.getfield 49, 3) := by decide +kernel
theorem dX11_heir_53 : decode cX11_heir 53 = .ok (.iconst 0, 1) := by decide +kernel
theorem dX11_heir_54 : decode cX11_heir 54 = .ok (.iaload, 1) := by decide +kernel
theorem dX11_heir_55 : decode cX11_heir 55 = .ok (.if_icmp .ge 51, 3) := by decide +kernel
theorem dX11_heir_58 : decode cX11_heir 58 = .ok (.aload_n 0, 1) := by decide +kernel
theorem dX11_heir_59 : decode cX11_heir 59 = .ok (.aload_n 0, 1) := by decide +kernel
theorem dX11_heir_60 : decode cX11_heir 60 = .ok (.getfield 55, 3) := by decide +kernel
theorem dX11_heir_63 : decode cX11_heir 63 = .ok (.iload_n 3, 1) := by decide +kernel
theorem dX11_heir_64 : decode cX11_heir 64 = .ok (.iload_n 1, 1) := by decide +kernel
theorem dX11_heir_65 : decode cX11_heir 65 = .ok (.invokevirtual 314, 3) := by decide +kernel
theorem dX11_heir_68 : decode cX11_heir 68 = .ok (.ifCond .eq 6, 3) := by decide +kernel
theorem dX11_heir_71 : decode cX11_heir 71 = .ok (.goto 35, 3) := by decide +kernel
theorem dX11_heir_74 : decode cX11_heir 74 = .ok (.iload_n 2, 1) := by decide +kernel
theorem dX11_heir_75 : decode cX11_heir 75 = .ok (.iconst (-1), 1) := by decide +kernel
theorem dX11_heir_76 : decode cX11_heir 76 = .ok (.if_icmp .eq 28, 3) := by decide +kernel
theorem dX11_heir_79 : decode cX11_heir 79 = .ok (.aload_n 0, 1) := by decide +kernel
theorem dX11_heir_80 : decode cX11_heir 80 = .ok (.getfield 55, 3) := by decide +kernel
theorem dX11_heir_83 : decode cX11_heir 83 = .ok (.bipush 7, 2) := by decide +kernel
theorem dX11_heir_85 : decode cX11_heir 85 = .ok (.iload_n 3, 1) := by decide +kernel
theorem dX11_heir_86 : decode cX11_heir 86 = .ok (.imul, 1) := by decide +kernel
theorem dX11_heir_87 : decode cX11_heir 87 = .ok (.iconst 0, 1) := by decide +kernel
theorem dX11_heir_88 : decode cX11_heir 88 = .ok (.iadd, 1) := by decide +kernel
theorem dX11_heir_89 : decode cX11_heir 89 = .ok (.iaload, 1) := by decide +kernel
theorem dX11_heir_90 : decode cX11_heir 90 = .ok (.aload_n 0, 1) := by decide +kernel
theorem dX11_heir_91 : decode cX11_heir 91 = .ok (.getfield 55, 3) := by decide +kernel
theorem dX11_heir_94 : decode cX11_heir 94 = .ok (.bipush 7, 2) := by decide +kernel
theorem dX11_heir_96 : decode cX11_heir 96 = .ok (.iload_n 2, 1) := by decide +kernel
theorem dX11_heir_97 : decode cX11_heir 97 = .ok (.imul, 1) := by decide +kernel
theorem dX11_heir_98 : decode cX11_heir 98 = .ok (.iconst 0, 1) := by decide +kernel
theorem dX11_heir_99 : decode cX11_heir 99 = .ok (.iadd, 1) := by decide +kernel
theorem dX11_heir_100 : decode cX11_heir 100 = .ok (.iaload, 1) := by decide +kernel
theorem dX11_heir_101 : decode cX11_heir 101 = .ok (.if_icmp .ge 5, 3) := by decide +kernel
theorem dX11_heir_104 : decode cX11_heir 104 = .ok (.iload_n 3, 1) := by decide +kernel
theorem dX11_heir_105 : decode cX11_heir 105 = .ok (.istore_n 2, 1) := by decide +kernel
theorem dX11_heir_106 : decode cX11_heir 106 = .ok (.iinc 3 1, 3) := by decide +kernel
theorem dX11_heir_109 : decode cX11_heir 109 = .ok (.goto (-95), 3) := by decide +kernel
theorem dX11_heir_112 : decode cX11_heir 112 = .ok (.iload_n 2, 1) := by decide +kernel
theorem dX11_heir_113 : decode cX11_heir 113 = .ok (.ireturn, 1) := by decide +kernel
theorem dX11_late_0 : decode cX11_late 0 = .ok (.aload_n 0, 1) := by decide +kernel
theorem dX11_late_1 : decode cX11_late 1 = .ok (.iconst 0, 1) := by decide +kernel
theorem dX11_late_2 : decode cX11_late 2 = .ok (.putfield 80, 3) := by decide +kernel
theorem dX11_late_5 : decode cX11_late 5 = .ok (.aload_n 0, 1) := by decide +kernel
theorem dX11_late_6 : decode cX11_late 6 = .ok (.getfield 260, 3) := by decide +kernel
theorem dX11_late_9 : decode cX11_late 9 = .ok (.ifCond .ne 5, 3) := by decide +kernel
theorem dX11_late_12 : decode cX11_late 12 = .ok (.iconst (-1), 1) := by decide +kernel
theorem dX11_late_13 : decode cX11_late 13 = .ok (.ireturn, 1) := by decide +kernel
theorem dX11_late_14 : decode cX11_late 14 = .ok (.aload_n 0, 1) := by decide +kernel
theorem dX11_late_15 : decode cX11_late 15 = .ok (.getfield 55, 3) := by decide +kernel
theorem dX11_late_18 : decode cX11_late 18 = .ok (.aload_n 0, 1) := by decide +kernel
theorem dX11_late_19 : decode cX11_late 19 = .ok (.getfield 58, 3) := by decide +kernel
theorem dX11_late_22 : decode cX11_late 22 = .ok (.invokestatic 379, 3) := by decide +kernel
theorem dX11_late_25 : decode cX11_late 25 = .ok (.iconst 0, 1) := by decide +kernel
theorem dX11_late_26 : decode cX11_late 26 = .ok (.istore_n 1, 1) := by decide +kernel
theorem dX11_late_27 : decode cX11_late 27 = .ok (.iload_n 1, 1) := by decide +kernel
theorem dX11_late_28 : decode cX11_late 28 = .ok (.bipush 60, 2) := by decide +kernel
theorem dX11_late_30 : decode cX11_late 30 = .ok (.if_icmp .gt 33, 3) := by decide +kernel
theorem dX11_late_33 : decode cX11_late 33 = .ok (.aload_n 0, 1) := by decide +kernel
theorem dX11_late_34 : decode cX11_late 34 = .ok (.aload_n 0, 1) := by decide +kernel
theorem dX11_late_35 : decode cX11_late 35 = .ok (.getfield 58, 3) := by decide +kernel
theorem dX11_late_38 : decode cX11_late 38 = .ok (.iconst 0, 1) := by decide +kernel
theorem dX11_late_39 : decode cX11_late 39 = .ok (.invokevirtual 317, 3) := by decide +kernel
theorem dX11_late_42 : decode cX11_late 42 = .ok (.iconst (-1), 1) := by decide +kernel
theorem dX11_late_43 : decode cX11_late 43 = .ok (.if_icmp .ne 5, 3) := by decide +kernel
theorem dX11_late_46 : decode cX11_late 46 = .ok (.iload_n 1, 1) := by decide +kernel
theorem dX11_late_47 : decode cX11_late 47 = .ok (.ireturn, 1) := by decide +kernel
theorem dX11_late_48 : decode cX11_late 48 = .ok (.aload_n 0, 1) := by decide +kernel
theorem dX11_late_49 : decode cX11_late 49 = .ok (.aload_n 0, 1) := by decide +kernel
theorem dX11_late_50 : decode cX11_late 50 = .ok (.getfield 58, 3) := by decide +kernel
theorem dX11_late_53 : decode cX11_late 53 = .ok (.iconst 0, 1) := by decide +kernel
theorem dX11_late_54 : decode cX11_late 54 = .ok (.invokevirtual 370, 3) := by decide +kernel
theorem dX11_late_57 : decode cX11_late 57 = .ok (.iinc 1 1, 3) := by decide +kernel
theorem dX11_late_60 : decode cX11_late 60 = .ok (.goto (-33), 3) := by decide +kernel
theorem dX11_late_63 : decode cX11_late 63 = .ok (.iconst (-1), 1) := by decide +kernel
theorem dX11_late_64 : decode cX11_late 64 = .ok (.ireturn, 1) := by decide +kernel
theorem dX11_before_0 : decode cX11_before 0 = .ok (.aload_n 0, 1) := by decide +kernel
theorem dX11_before_1 : decode cX11_before 1 = .ok (.iconst 0, 1) := by decide +kernel
theorem dX11_before_2 : decode cX11_before 2 = .ok (.putfield 80, 3) := by decide +kernel
theorem dX11_before_5 : decode cX11_before 5 = .ok (.aload_n 0, 1) := by decide +kernel
theorem dX11_before_6 : decode cX11_before 6 = .ok (.iload_n 1, 1) := by decide +kernel
theorem dX11_before_7 : decode cX11_before 7 = .ok (.invokevirtual 296, 3) := by decide +kernel
theorem dX11_before_10 : decode cX11_before 10 = .ok (.ifCond .ne 5, 3) := by decide +kernel
theorem dX11_before_13 : decode cX11_before 13 = .ok (.iconst (-1), 1) := by decide +kernel
theorem dX11_before_14 : decode cX11_before 14 = .ok (.ireturn, 1) := by decide +kernel
theorem dX11_before_15 : decode cX11_before 15 = .ok (.iconst 0, 1) := by decide +kernel
theorem dX11_before_16 : decode cX11_before 16 = .ok (.istore_n 2, 1) := by decide +kernel
theorem dX11_before_17 : decode cX11_before 17 = .ok (.iconst 0, 1) := by decide +kernel
theorem dX11_before_18 : decode cX11_before 18 = .ok (.istore_n 3, 1) := by decide +kernel
theorem dX11_before_19 : decode cX11_before 19 = .ok (.iload_n 3, 1) := by decide +kernel
theorem dX11_before_20 : decode cX11_before 20 = .ok (.aload_n 0, 1) := by decide +kernel
theorem dX11_before_21 : decode cX11_before 21 = .ok (.getfield 263, 3) := by decide +kernel
theorem dX11_before_24 : decode cX11_before 24 = .ok (.if_icmp .ge 32, 3) := by decide +kernel
theorem dX11_before_27 : decode cX11_before 27 = .ok (.iload_n 2, 1) := by decide +kernel
theorem dX11_before_28 : decode cX11_before 28 = .ok (.aload_n 0, 1) := by decide +kernel
theorem dX11_before_29 : decode cX11_before 29 = .ok (.aload_n 0, 1) := by decide +kernel
theorem dX11_before_30 : decode cX11_before 30 = .ok (.getfield 55, 3) := by decide +kernel
theorem dX11_before_33 : decode cX11_before 33 = .ok (.iload_n 1, 1) := by decide +kernel
theorem dX11_before_34 : decode cX11_before 34 = .ok (.iload_n 3, 1) := by decide +kernel
theorem dX11_before_35 : decode cX11_before 35 = .ok (.invokevirtual 314, 3) := by decide +kernel
theorem dX11_before_38 : decode cX11_before 38 = .ok (.ifCond .ne 9, 3) := by decide +kernel
theorem dX11_before_41 : decode cX11_before 41 = .ok (.iconst 1, 1) := by decide +kernel
theorem dX11_before_42 : decode cX11_before 42 = .ok (.iload_n 3, 1) := by decide +kernel
theorem dX11_before_43 : decode cX11_before 43 = .ok (.ishl, 1) := by decide +kernel
theorem dX11_before_44 : decode cX11_before 44 = .ok (.goto 4, 3) := by decide +kernel
theorem dX11_before_47 : decode cX11_before 47 = .ok (.iconst 0, 1) := by decide +kernel
theorem dX11_before_48 : decode cX11_before 48 = .ok (.ior, 1) := by decide +kernel
theorem dX11_before_49 : decode cX11_before 49 = .ok (.istore_n 2, 1) := by decide +kernel
theorem dX11_before_50 : decode cX11_before 50 = .ok (.iinc 3 1, 3) := by decide +kernel
theorem dX11_before_53 : decode cX11_before 53 = .ok (.goto (-34), 3) := by decide +kernel
theorem dX11_before_56 : decode cX11_before 56 = .ok (.iload_n 2, 1) := by decide +kernel
theorem dX11_before_57 : decode cX11_before 57 = .ok (.ireturn, 1) := by decide +kernel
theorem dX11_without_0 : decode cX11_without 0 = .ok (.aload_n 0, 1) := by decide +kernel
theorem dX11_without_1 : decode cX11_without 1 = .ok (.iconst 0, 1) := by decide +kernel
theorem dX11_without_2 : decode cX11_without 2 = .ok (.putfield 80, 3) := by decide +kernel
theorem dX11_without_5 : decode cX11_without 5 = .ok (.aload_n 0, 1) := by decide +kernel
theorem dX11_without_6 : decode cX11_without 6 = .ok (.iload_n 1, 1) := by decide +kernel
theorem dX11_without_7 : decode cX11_without 7 = .ok (.invokevirtual 296, 3) := by decide +kernel
theorem dX11_without_10 : decode cX11_without 10 = .ok (.ifCond .ne 5, 3) := by decide +kernel
theorem dX11_without_13 : decode cX11_without 13 = .ok (.iconst (-1), 1) := by decide +kernel
theorem dX11_without_14 : decode cX11_without 14 = .ok (.ireturn, 1) := by decide +kernel
theorem dX11_without_15 : decode cX11_without 15 = .ok (.iconst (-1), 1) := by decide +kernel
theorem dX11_without_16 : decode cX11_without 16 = .ok (.istore_n 2, 1) := by decide +kernel
theorem dX11_without_17 : decode cX11_without 17 = .ok (.iconst 0, 1) := by decide +kernel
theorem dX11_without_18 : decode cX11_without 18 = .ok (.istore_n 3, 1) := by decide +kernel
theorem dX11_without_19 : decode cX11_without 19 = .ok (.iload_n 3, 1) := by decide +kernel
theorem dX11_without_20 : decode cX11_without 20 = .ok (.iconst 1, 1) := by decide +kernel
theorem dX11_without_21 : decode cX11_without 21 = .ok (.aload_n 0, 1) := by decide +kernel
theorem dX11_without_22 : decode cX11_without 22 = .ok (.getfield 263, 3) := by decide +kernel
theorem dX11_without_25 : decode cX11_without 25 = .ok (.ishl, 1) := by decide +kernel
theorem dX11_without_26 : decode cX11_without 26 = .ok (.if_icmp .ge 61, 3) := by decide +kernel
theorem dX11_without_29 : decode cX11_without 29 = .ok (.aload_n 0, 1) := by decide +kernel
theorem dX11_without_30 : decode cX11_without 30 = .ok (.aload_n 0, 1) := by decide +kernel
theorem dX11_without_31 : decode cX11_without 31 = .ok (.getfield 55, 3) := by decide +kernel
theorem dX11_without_34 : decode cX11_without 34 = .ok (.iload_n 3, 1) := by decide +kernel
theorem dX11_without_35 : decode cX11_without 35 = .ok (.invokevirtual 317, 3) := by decide +kernel
theorem dX11_without_38 : decode cX11_without 38 = .ok (.istore 4, 2) := by decide +kernel
theorem dX11_without_40 : decode cX11_without 40 = .ok (.iload 4, 2) := by decide +kernel
theorem dX11_without_42 : decode cX11_without 42 = .ok (.iconst (-1), 1) := by decide +kernel
theorem dX11_without_43 : decode cX11_without 43 = .ok (.if_icmp .eq 38, 3) := by decide +kernel
theorem dX11_without_46 : decode cX11_without 46 = .ok (.aload_n 0, 1) := by decide +kernel
theorem dX11_without_47 : decode cX11_without 47 = .ok (.aload_n 0, 1) := by decide +kernel
theorem dX11_without_48 : decode cX11_without 48 = .ok (.getfield 55, 3) := by decide +kernel
theorem dX11_without_51 : decode cX11_without 51 = .ok (.iload_n 1, 1) := by decide +kernel
theorem dX11_without_52 : decode cX11_without 52 = .ok (.iload 4, 2) := by decide +kernel
theorem dX11_without_54 : decode cX11_without 54 = .ok (.invokevirtual 314, 3) := by decide +kernel
theorem dX11_without_57 : decode cX11_without 57 = .ok (.ifCond .eq 6, 3) := by decide +kernel
theorem dX11_without_60 : decode cX11_without 60 = .ok (.goto 21, 3) := by decide +kernel
theorem dX11_without_63 : decode cX11_without 63 = .ok (.iload_n 2, 1) := by decide +kernel
theorem dX11_without_64 : decode cX11_without 64 = .ok (.iconst (-1), 1) := by decide +kernel
theorem dX11_without_65 : decode cX11_without 65 = .ok (.if_icmp .eq 14, 3) := by decide +kernel
theorem dX11_without_68 : decode cX11_without 68 = .ok (.iload_n 3, 1) := by decide +kernel
theorem dX11_without_69 : decode cX11_without 69 = .ok (.invokestatic 287, 3) := by decide +kernel
theorem dX11_without_72 : decode cX11_without 72 = .ok (.iload_n 2, 1) := by decide +kernel
theorem dX11_without_73 : decode cX11_without 73 = .ok (.invokestatic 287, 3) := by decide +kernel
theorem dX11_without_76 : decode cX11_without 76 = .ok (.if_icmp .ge 5, 3) := by decide +kernel
theorem dX11_without_79 : decode cX11_without 79 = .ok (.iload_n 3, 1) := by decide +kernel
theorem dX11_without_80 : decode cX11_without 80 = .ok (.istore_n 2, 1) := by decide +kernel
theorem dX11_without_81 : decode cX11_without 81 = .ok (.iinc 3 1, 3) := by decide +kernel
theorem dX11_without_84 : decode cX11_without 84 = .ok (.goto (-65), 3) := by decide +kernel
theorem dX11_without_87 : decode cX11_without 87 = .ok (.iload_n 2, 1) := by decide +kernel
theorem dX11_without_88 : decode cX11_without 88 = .ok (.ireturn, 1) := by decide +kernel
theorem dX11_spoil_0 : decode cX11_spoil 0 = .ok (.aload_n 0, 1) := by decide +kernel
theorem dX11_spoil_1 : decode cX11_spoil 1 = .ok (.iconst 0, 1) := by decide +kernel
theorem dX11_spoil_2 : decode cX11_spoil 2 = .ok (.putfield 80, 3) := by decide +kernel
theorem dX11_spoil_5 : decode cX11_spoil 5 = .ok (.aload_n 0, 1) := by decide +kernel
theorem dX11_spoil_6 : decode cX11_spoil 6 = .ok (.invokevirtual 438, 3) := by decide +kernel
theorem dX11_spoil_9 : decode cX11_spoil 9 = .ok (.istore_n 2, 1) := by decide +kernel
theorem dX11_spoil_10 : decode cX11_spoil 10 = .ok (.iload_n 2, 1) := by decide +kernel
theorem dX11_spoil_11 : decode cX11_spoil 11 = .ok (.iconst (-1), 1) := by decide +kernel
theorem dX11_spoil_12 : decode cX11_spoil 12 = .ok (.if_icmp .eq 24, 3) := by decide +kernel
theorem dX11_spoil_15 : decode cX11_spoil 15 = .ok (.aload_n 0, 1) := by decide +kernel
theorem dX11_spoil_16 : decode cX11_spoil 16 = .ok (.iload_n 1, 1) := by decide +kernel
theorem dX11_spoil_17 : decode cX11_spoil 17 = .ok (.invokevirtual 296, 3) := by decide +kernel
theorem dX11_spoil_20 : decode cX11_spoil 20 = .ok (.ifCond .eq 16, 3) := by decide +kernel
theorem dX11_spoil_23 : decode cX11_spoil 23 = .ok (.aload_n 0, 1) := by decide +kernel
theorem dX11_spoil_24 : decode cX11_spoil 24 = .ok (.aload_n 0, 1) := by decide +kernel
theorem dX11_spoil_25 : decode cX11_spoil 25 = .ok (.getfield 55, 3) := by decide +kernel
theorem dX11_spoil_28 : decode cX11_spoil 28 = .ok (.iload_n 1, 1) := by decide +kernel
theorem dX11_spoil_29 : decode cX11_spoil 29 = .ok (.iload_n 2, 1) := by decide +kernel
theorem dX11_spoil_30 : decode cX11_spoil 30 = .ok (.invokevirtual 314, 3) := by decide +kernel
theorem dX11_spoil_33 : decode cX11_spoil 33 = .ok (.ifCond .eq 5, 3) := by decide +kernel
theorem dX11_spoil_36 : decode cX11_spoil 36 = .ok (.iconst (-1), 1) := by decide +kernel
theorem dX11_spoil_37 : decode cX11_spoil 37 = .ok (.ireturn, 1) := by decide +kernel
theorem dX11_spoil_38 : decode cX11_spoil 38 = .ok (.aload_n 0, 1) := by decide +kernel
theorem dX11_spoil_39 : decode cX11_spoil 39 = .ok (.aload_n 0, 1) := by decide +kernel
theorem dX11_spoil_40 : decode cX11_spoil 40 = .ok (.getfield 55, 3) := by decide +kernel
theorem dX11_spoil_43 : decode cX11_spoil 43 = .ok (.iload_n 2, 1) := by decide +kernel
theorem dX11_spoil_44 : decode cX11_spoil 44 = .ok (.aload_n 0, 1) := by decide +kernel
theorem dX11_spoil_45 : decode cX11_spoil 45 = .ok (.getfield 37, 3) := by decide +kernel
theorem dX11_spoil_48 : decode cX11_spoil 48 = .ok (.bipush 6, 2) := by decide +kernel
theorem dX11_spoil_50 : decode cX11_spoil 50 = .ok (.iload_n 1, 1) := by decide +kernel
theorem dX11_spoil_51 : decode cX11_spoil 51 = .ok (.imul, 1) := by decide +kernel
theorem dX11_spoil_52 : decode cX11_spoil 52 = .ok (.iconst 5, 1) := by decide +kernel
theorem dX11_spoil_53 : decode cX11_spoil 53 = .ok (.iadd, 1) := by decide +kernel
theorem dX11_spoil_54 : decode cX11_spoil 54 = .ok (.iaload, 1) := by decide +kernel
theorem dX11_spoil_55 : decode cX11_spoil 55 = .ok (.invokevirtual 276, 3) := by decide +kernel
theorem dX11_spoil_58 : decode cX11_spoil 58 = .ok (.istore_n 3, 1) := by decide +kernel
theorem dX11_spoil_59 : decode cX11_spoil 59 = .ok (.iconst 0, 1) := by decide +kernel
theorem dX11_spoil_60 : decode cX11_spoil 60 = .ok (.istore 4, 2) := by decide +kernel
theorem dX11_spoil_62 : decode cX11_spoil 62 = .ok (.iload 4, 2) := by decide +kernel
theorem dX11_spoil_64 : decode cX11_spoil 64 = .ok (.bipush 9, 2) := by decide +kernel
theorem dX11_spoil_66 : decode cX11_spoil 66 = .ok (.if_icmp .ge 21, 3) := by decide +kernel
theorem dX11_spoil_69 : decode cX11_spoil 69 = .ok (.iload_n 3, 1) := by decide +kernel
theorem dX11_spoil_70 : decode cX11_spoil 70 = .ok (.iload 4, 2) := by decide +kernel
theorem dX11_spoil_72 : decode cX11_spoil 72 = .ok (.invokestatic 213, 3) := by decide +kernel
theorem dX11_spoil_75 : decode cX11_spoil 75 = .ok (.ifCond .eq 6, 3) := by decide +kernel
theorem dX11_spoil_78 : decode cX11_spoil 78 = .ok (.iload 4, 2) := by decide +kernel
theorem dX11_spoil_80 : decode cX11_spoil 80 = .ok (.ireturn, 1) := by decide +kernel
theorem dX11_spoil_81 : decode cX11_spoil 81 = .ok (.iinc 4 1, 3) := by decide +kernel
theorem dX11_spoil_84 : decode cX11_spoil 84 = .ok (.goto (-22), 3) := by decide +kernel
theorem dX11_spoil_87 : decode cX11_spoil 87 = .ok (.iconst (-1), 1) := by decide +kernel
theorem dX11_spoil_88 : decode cX11_spoil 88 = .ok (.ireturn, 1) := by decide +kernel
theorem dX11_soon_0 : decode cX11_soon 0 = .ok (.aload_n 0, 1) := by decide +kernel
theorem dX11_soon_1 : decode cX11_soon 1 = .ok (.iconst 0, 1) := by decide +kernel
theorem dX11_soon_2 : decode cX11_soon 2 = .ok (.putfield 80, 3) := by decide +kernel
theorem dX11_soon_5 : decode cX11_soon 5 = .ok (.aload_n 0, 1) := by decide +kernel
theorem dX11_soon_6 : decode cX11_soon 6 = .ok (.invokevirtual 438, 3) := by decide +kernel
theorem dX11_soon_9 : decode cX11_soon 9 = .ok (.istore_n 2, 1) := by decide +kernel
theorem dX11_soon_10 : decode cX11_soon 10 = .ok (.iload_n 2, 1) := by decide +kernel
theorem dX11_soon_11 : decode cX11_soon 11 = .ok (.iconst (-1), 1) := by decide +kernel
theorem dX11_soon_12 : decode cX11_soon 12 = .ok (.if_icmp .eq 11, 3) := by decide +kernel
theorem dX11_soon_15 : decode cX11_soon 15 = .ok (.aload_n 0, 1) := by decide +kernel
theorem dX11_soon_16 : decode cX11_soon 16 = .ok (.iload_n 1, 1) := by decide +kernel
theorem dX11_soon_17 : decode cX11_soon 17 = .ok (.invokevirtual 296, 3) := by decide +kernel
theorem dX11_soon_20 : decode cX11_soon 20 = .ok (.ifCond .ne 5, 3) := by decide +kernel
theorem dX11_soon_23 : decode cX11_soon 23 = .ok (.iconst (-1), 1) := by decide +kernel
theorem dX11_soon_24 : decode cX11_soon 24 = .ok (.ireturn, 1) := by decide +kernel
theorem dX11_soon_25 : decode cX11_soon 25 = .ok (.aload_n 0, 1) := by decide +kernel
theorem dX11_soon_26 : decode cX11_soon 26 = .ok (.aload_n 0, 1) := by decide +kernel
theorem dX11_soon_27 : decode cX11_soon 27 = .ok (.getfield 55, 3) := by decide +kernel
theorem dX11_soon_30 : decode cX11_soon 30 = .ok (.iload_n 1, 1) := by decide +kernel
theorem dX11_soon_31 : decode cX11_soon 31 = .ok (.iload_n 2, 1) := by decide +kernel
theorem dX11_soon_32 : decode cX11_soon 32 = .ok (.invokevirtual 314, 3) := by decide +kernel
theorem dX11_soon_35 : decode cX11_soon 35 = .ok (.istore_n 3, 1) := by decide +kernel
theorem dX11_soon_36 : decode cX11_soon 36 = .ok (.iload_n 3, 1) := by decide +kernel
theorem dX11_soon_37 : decode cX11_soon 37 = .ok (.ifCond .ne 5, 3) := by decide +kernel
theorem dX11_soon_40 : decode cX11_soon 40 = .ok (.iconst 0, 1) := by decide +kernel
theorem dX11_soon_41 : decode cX11_soon 41 = .ok (.ireturn, 1) := by decide +kernel
theorem dX11_soon_42 : decode cX11_soon 42 = .ok (.aload_n 0, 1) := by decide +kernel
theorem dX11_soon_43 : decode cX11_soon 43 = .ok (.getfield 55, 3) := by decide +kernel
theorem dX11_soon_46 : decode cX11_soon 46 = .ok (.bipush 7, 2) := by decide +kernel
theorem dX11_soon_48 : decode cX11_soon 48 = .ok (.iload_n 1, 1) := by decide +kernel
theorem dX11_soon_49 : decode cX11_soon 49 = .ok (.imul, 1) := by decide +kernel
theorem dX11_soon_50 : decode cX11_soon 50 = .ok (.iconst 3, 1) := by decide +kernel
theorem dX11_soon_51 : decode cX11_soon 51 = .ok (.iadd, 1) := by decide +kernel
theorem dX11_soon_52 : decode cX11_soon 52 = .ok (.iaload, 1) := by decide +kernel
theorem dX11_soon_53 : decode cX11_soon 53 = .ok (.istore 4, 2) := by decide +kernel
theorem dX11_soon_55 : decode cX11_soon 55 = .ok (.iload 4, 2) := by decide +kernel
theorem dX11_soon_57 : decode cX11_soon 57 = .ok (.iconst (-1), 1) := by decide +kernel
theorem dX11_soon_58 : decode cX11_soon 58 = .ok (.if_icmp .ne 7, 3) := by decide +kernel
theorem dX11_soon_61 : decode cX11_soon 61 = .ok (.iload_n 3, 1) := by decide +kernel
theorem dX11_soon_62 : decode cX11_soon 62 = .ok (.goto 11, 3) := by decide +kernel
theorem dX11_soon_65 : decode cX11_soon 65 = .ok (.iload_n 3, 1) := by decide +kernel
theorem dX11_soon_66 : decode cX11_soon 66 = .ok (.iconst 1, 1) := by decide +kernel
theorem dX11_soon_67 : decode cX11_soon 67 = .ok (.iload 4, 2) := by decide +kernel
theorem dX11_soon_69 : decode cX11_soon 69 = .ok (.ishl, 1) := by decide +kernel
theorem dX11_soon_70 : decode cX11_soon 70 = .ok (.iconst (-1), 1) := by decide +kernel
theorem dX11_soon_71 : decode cX11_soon 71 = .ok (.ixor, 1) := by decide +kernel
theorem dX11_soon_72 : decode cX11_soon 72 = .ok (.iand, 1) := by decide +kernel
theorem dX11_soon_73 : decode cX11_soon 73 = .ok (.istore 5, 2) := by decide +kernel
theorem dX11_soon_75 : decode cX11_soon 75 = .ok (.iload 4, 2) := by decide +kernel
theorem dX11_soon_77 : decode cX11_soon 77 = .ok (.iconst (-1), 1) := by decide +kernel
theorem dX11_soon_78 : decode cX11_soon 78 = .ok (.if_icmp .ne 7, 3) := by decide +kernel
theorem dX11_soon_81 : decode cX11_soon 81 = .ok (.iconst 0, 1) := by decide +kernel
theorem dX11_soon_82 : decode cX11_soon 82 = .ok (.goto 14, 3) := by decide +kernel
theorem dX11_soon_85 : decode cX11_soon 85 = .ok (.aload_n 0, 1) := by decide +kernel
theorem dX11_soon_86 : decode cX11_soon 86 = .ok (.getfield 55, 3) := by decide +kernel
theorem dX11_soon_89 : decode cX11_soon 89 = .ok (.bipush 7, 2) := by decide +kernel
theorem dX11_soon_91 : decode cX11_soon 91 = .ok (.iload_n 1, 1) := by decide +kernel
theorem dX11_soon_92 : decode cX11_soon 92 = .ok (.imul, 1) := by decide +kernel
theorem dX11_soon_93 : decode cX11_soon 93 = .ok (.iconst 4, 1) := by decide +kernel
theorem dX11_soon_94 : decode cX11_soon 94 = .ok (.iadd, 1) := by decide +kernel
theorem dX11_soon_95 : decode cX11_soon 95 = .ok (.iaload, 1) := by decide +kernel
theorem dX11_soon_96 : decode cX11_soon 96 = .ok (.aload_n 0, 1) := by decide +kernel
theorem dX11_soon_97 : decode cX11_soon 97 = .ok (.getfield 37, 3) := by decide +kernel
theorem dX11_soon_100 : decode cX11_soon 100 = .ok (.bipush 6, 2) := by decide +kernel
theorem dX11_soon_102 : decode cX11_soon 102 = .ok (.iload_n 1, 1) := by decide +kernel
theorem dX11_soon_103 : decode cX11_soon 103 = .ok (.imul, 1) := by decide +kernel
theorem dX11_soon_104 : decode cX11_soon 104 = .ok (.iconst 4, 1) := by decide +kernel
theorem dX11_soon_105 : decode cX11_soon 105 = .ok (.iadd, 1) := by decide +kernel
theorem dX11_soon_106 : decode cX11_soon 106 = .ok (.iaload, 1) := by decide +kernel
theorem dX11_soon_107 : decode cX11_soon 107 = .ok (.iload 5, 2) := by decide +kernel
theorem dX11_soon_109 : decode cX11_soon 109 = .ok (.invokestatic 287, 3) := by decide +kernel
theorem dX11_soon_112 : decode cX11_soon 112 = .ok (.imul, 1) := by decide +kernel
theorem dX11_soon_113 : decode cX11_soon 113 = .ok (.iadd, 1) := by decide +kernel
theorem dX11_soon_114 : decode cX11_soon 114 = .ok (.ireturn, 1) := by decide +kernel
theorem dX11_fevered_0 : decode cX11_fevered 0 = .ok (.aload_n 0, 1) := by decide +kernel
theorem dX11_fevered_1 : decode cX11_fevered 1 = .ok (.iconst 0, 1) := by decide +kernel
theorem dX11_fevered_2 : decode cX11_fevered 2 = .ok (.putfield 80, 3) := by decide +kernel
theorem dX11_fevered_5 : decode cX11_fevered 5 = .ok (.aload_n 0, 1) := by decide +kernel
theorem dX11_fevered_6 : decode cX11_fevered 6 = .ok (.invokevirtual 438, 3) := by decide +kernel
theorem dX11_fevered_9 : decode cX11_fevered 9 = .ok (.istore_n 1, 1) := by decide +kernel
theorem dX11_fevered_10 : decode cX11_fevered 10 = .ok (.iload_n 1, 1) := by decide +kernel
theorem dX11_fevered_11 : decode cX11_fevered 11 = .ok (.iconst (-1), 1) := by decide +kernel
theorem dX11_fevered_12 : decode cX11_fevered 12 = .ok (.if_icmp .ne 5, 3) := by decide +kernel
theorem dX11_fevered_15 : decode cX11_fevered 15 = .ok (.iconst (-1), 1) := by decide +kernel
theorem dX11_fevered_16 : decode cX11_fevered 16 = .ok (.ireturn, 1) := by decide +kernel
theorem dX11_fevered_17 : decode cX11_fevered 17 = .ok (.iconst 0, 1) := by decide +kernel
theorem dX11_fevered_18 : decode cX11_fevered 18 = .ok (.istore_n 2, 1) := by decide +kernel
theorem dX11_fevered_19 : decode cX11_fevered 19 = .ok (.iconst 0, 1) := by decide +kernel
theorem dX11_fevered_20 : decode cX11_fevered 20 = .ok (.istore_n 3, 1) := by decide +kernel
theorem dX11_fevered_21 : decode cX11_fevered 21 = .ok (.iload_n 3, 1) := by decide +kernel
theorem dX11_fevered_22 : decode cX11_fevered 22 = .ok (.aload_n 0, 1) := by decide +kernel
theorem dX11_fevered_23 : decode cX11_fevered 23 = .ok (.getfield 260, 3) := by decide +kernel
theorem dX11_fevered_26 : decode cX11_fevered 26 = .ok (.if_icmp .ge 57, 3) := by decide +kernel
theorem dX11_fevered_29 : decode cX11_fevered 29 = .ok (.iload_n 2, 1) := by decide +kernel
theorem dX11_fevered_30 : decode cX11_fevered 30 = .ok (.aload_n 0, 1) := by decide +kernel
theorem dX11_fevered_31 : decode cX11_fevered 31 = .ok (.aload_n 0, 1) := by decide +kernel
theorem dX11_fevered_32 : decode cX11_fevered 32 = .ok (.getfield 55, 3) := by decide +kernel
theorem dX11_fevered_35 : decode cX11_fevered 35 = .ok (.iload_n 1, 1) := by decide +kernel
theorem dX11_fevered_36 : decode cX11_fevered 36 = .ok (.aload_n 0, 1) := by decide +kernel
theorem dX11_fevered_37 : decode cX11_fevered 37 = .ok (.getfield 37, 3) := by decide +kernel
theorem dX11_fevered_40 : decode cX11_fevered 40 = .ok (.bipush 6, 2) := by decide +kernel
theorem dX11_fevered_42 : decode cX11_fevered 42 = .ok (.iload_n 3, 1) := by decide +kernel
theorem dX11_fevered_43 : decode cX11_fevered 43 = .ok (.imul, 1) := by decide +kernel
theorem dX11_fevered_44 : decode cX11_fevered 44 = .ok (.iconst 5, 1) := by decide +kernel
theorem dX11_fevered_45 : decode cX11_fevered 45 = .ok (.iadd, 1) := by decide +kernel
theorem dX11_fevered_46 : decode cX11_fevered 46 = .ok (.iaload, 1) := by decide +kernel
theorem dX11_fevered_47 : decode cX11_fevered 47 = .ok (.invokevirtual 276, 3) := by decide +kernel
theorem dX11_fevered_50 : decode cX11_fevered 50 = .ok (.aload_n 0, 1) := by decide +kernel
theorem dX11_fevered_51 : decode cX11_fevered 51 = .ok (.getfield 55, 3) := by decide +kernel
theorem dX11_fevered_54 : decode cX11_fevered 54 = .ok (.iload_n 3, 1) := by decide +kernel
theorem dX11_fevered_55 : decode cX11_fevered 55 = .ok (.invokestatic 272, 3) := by decide +kernel
theorem dX11_fevered_58 : decode cX11_fevered 58 = .ok (.sipush (-129), 3) := by decide +kernel
theorem dX11_fevered_61 : decode cX11_fevered 61 = .ok (.iand, 1) := by decide +kernel
theorem dX11_fevered_62 : decode cX11_fevered 62 = .ok (.iconst (-1), 1) := by decide +kernel
theorem dX11_fevered_63 : decode cX11_fevered 63 = .ok (.ixor, 1) := by decide +kernel
theorem dX11_fevered_64 : decode cX11_fevered 64 = .ok (.iand, 1) := by decide +kernel
theorem dX11_fevered_65 : decode cX11_fevered 65 = .ok (.ifCond .ne 9, 3) := by decide +kernel
theorem dX11_fevered_68 : decode cX11_fevered 68 = .ok (.iconst 1, 1) := by decide +kernel
theorem dX11_fevered_69 : decode cX11_fevered 69 = .ok (.iload_n 3, 1) := by decide +kernel
theorem dX11_fevered_70 : decode cX11_fevered 70 = .ok (.ishl, 1) := by decide +kernel
theorem dX11_fevered_71 : decode cX11_fevered 71 = .ok (.goto 4, 3) := by decide +kernel
theorem dX11_fevered_74 : decode cX11_fevered 74 = .ok (.iconst 0, 1) := by decide +kernel
theorem dX11_fevered_75 : decode cX11_fevered 75 = .ok (.ior, 1) := by decide +kernel
theorem dX11_fevered_76 : decode cX11_fevered 76 = .ok (.istore_n 2, 1) := by decide +kernel
theorem dX11_fevered_77 : decode cX11_fevered 77 = .ok (.iinc 3 1, 3) := by decide +kernel
theorem dX11_fevered_80 : decode cX11_fevered 80 = .ok (.goto (-59), 3) := by decide +kernel
theorem dX11_fevered_83 : decode cX11_fevered 83 = .ok (.iload_n 2, 1) := by decide +kernel
theorem dX11_fevered_84 : decode cX11_fevered 84 = .ok (.ireturn, 1) := by decide +kernel
theorem dX11_youngest_0 : decode cX11_youngest 0 = .ok (.aload_n 0, 1) := by decide +kernel
theorem dX11_youngest_1 : decode cX11_youngest 1 = .ok (.iconst 0, 1) := by decide +kernel
theorem dX11_youngest_2 : decode cX11_youngest 2 = .ok (.putfield 80, 3) := by decide +kernel
theorem dX11_youngest_5 : decode cX11_youngest 5 = .ok (.aload_n 0, 1) := by decide +kernel
theorem dX11_youngest_6 : decode cX11_youngest 6 = .ok (.iload_n 1, 1) := by decide +kernel
theorem dX11_youngest_7 : decode cX11_youngest 7 = .ok (.invokevirtual 296, 3) := by decide +kernel
theorem dX11_youngest_10 : decode cX11_youngest 10 = .ok (.ifCond .ne 5, 3) := by decide +kernel
theorem dX11_youngest_13 : decode cX11_youngest 13 = .ok (.iconst (-1), 1) := by decide +kernel
theorem dX11_youngest_14 : decode cX11_youngest 14 = .ok (.ireturn, 1) := by decide +kernel
theorem dX11_youngest_15 : decode cX11_youngest 15 = .ok (.iconst 0, 1) := by decide +kernel
theorem dX11_youngest_16 : decode cX11_youngest 16 = .ok (.istore_n 2, 1) := by decide +kernel
theorem dX11_youngest_17 : decode cX11_youngest 17 = .ok (.iload_n 2, 1) := by decide +kernel
theorem dX11_youngest_18 : decode cX11_youngest 18 = .ok (.aload_n 0, 1) := by decide +kernel
theorem dX11_youngest_19 : decode cX11_youngest 19 = .ok (.getfield 260, 3) := by decide +kernel
theorem dX11_youngest_22 : decode cX11_youngest 22 = .ok (.if_icmp .ge 102, 3) := by decide +kernel
theorem dX11_youngest_25 : decode cX11_youngest 25 = .ok (.iconst 0, 1) := by decide +kernel
theorem dX11_youngest_26 : decode cX11_youngest 26 = .ok (.istore_n 3, 1) := by decide +kernel
theorem dX11_youngest_27 : decode cX11_youngest 27 = .ok (.iconst 0, 1) := by decide +kernel
theorem dX11_youngest_28 : decode cX11_youngest 28 = .ok (.istore 4, 2) := by decide +kernel
theorem dX11_youngest_30 : decode cX11_youngest 30 = .ok (.iload 4, 2) := by decide +kernel
theorem dX11_youngest_32 : decode cX11_youngest 32 = .ok (.aload_n 0, 1) := by decide +kernel
theorem dX11_youngest_33 : decode cX11_youngest 33 = .ok (.getfield 260, 3) := by decide +kernel
theorem dX11_youngest_36 : decode cX11_youngest 36 = .ok (.if_icmp .ge 75, 3) := by decide +kernel
theorem dX11_youngest_39 : decode cX11_youngest 39 = .ok (.iload_n 3, 1) := by decide +kernel
theorem dX11_youngest_40 : decode cX11_youngest 40 = .ok (.aload_n 0, 1) := by decide +kernel
theorem dX11_youngest_41 : decode cX11_youngest 41 = .ok (.getfield 55, 3) := by decide +kernel
theorem dX11_youngest_44 : decode cX11_youngest 44 = .ok (.bipush 7, 2) := by decide +kernel
theorem dX11_youngest_46 : decode cX11_youngest 46 = .ok (.iload 4, 2) := by decide +kernel
theorem dX11_youngest_48 : decode cX11_youngest 48 = .ok (.imul, 1) := by decide +kernel
theorem dX11_youngest_49 : decode cX11_youngest 49 = .ok (.iconst 0, 1) := by decide +kernel
theorem dX11_youngest_50 : decode cX11_youngest 50 = .ok (.iadd, 1) := by decide +kernel
theorem dX11_youngest_51 : decode cX11_youngest 51 = .ok (.iaload, 1) := by decide +kernel
theorem dX11_youngest_52 : decode cX11_youngest 52 = .ok (.aload_n 0, 1) := by decide +kernel
theorem dX11_youngest_53 : decode cX11_youngest 53 = .ok (.getfield 55, 3) := by decide +kernel
theorem dX11_youngest_56 : decode cX11_youngest 56 = .ok (.bipush 7, 2) := by decide +kernel
theorem dX11_youngest_58 : decode cX11_youngest 58 = .ok (.iload_n 2, 1) := by decide +kernel
theorem dX11_youngest_59 : decode cX11_youngest 59 = .ok (.imul, 1) := by decide +kernel
theorem dX11_youngest_60 : decode cX11_youngest 60 = .ok (.iconst 0, 1) := by decide +kernel
theorem dX11_youngest_61 : decode cX11_youngest 61 = .ok (.iadd, 1) := by decide +kernel
theorem dX11_youngest_62 : decode cX11_youngest 62 = .ok (.iaload, 1) := by decide +kernel
theorem dX11_youngest_63 : decode cX11_youngest 63 = .ok (.if_icmp .lt 35, 3) := by decide +kernel
theorem dX11_youngest_66 : decode cX11_youngest 66 = .ok (.aload_n 0, 1) := by decide +kernel
theorem dX11_youngest_67 : decode cX11_youngest 67 = .ok (.getfield 55, 3) := by decide +kernel
theorem dX11_youngest_70 : decode cX11_youngest 70 = .ok (.bipush 7, 2) := by decide +kernel
theorem dX11_youngest_72 : decode cX11_youngest 72 = .ok (.iload 4, 2) := by decide +kernel
theorem dX11_youngest_74 : decode cX11_youngest 74 = .ok (.imul, 1) := by decide +kernel
theorem dX11_youngest_75 : decode cX11_youngest 75 = .ok (.iconst 0, 1) := by decide +kernel
theorem dX11_youngest_76 : decode cX11_youngest 76 = .ok (.iadd, 1) := by decide +kernel
theorem dX11_youngest_77 : decode cX11_youngest 77 = .ok (.iaload, 1) := by decide +kernel
theorem dX11_youngest_78 : decode cX11_youngest 78 = .ok (.aload_n 0, 1) := by decide +kernel
theorem dX11_youngest_79 : decode cX11_youngest 79 = .ok (.getfield 55, 3) := by decide +kernel
theorem dX11_youngest_82 : decode cX11_youngest 82 = .ok (.bipush 7, 2) := by decide +kernel
theorem dX11_youngest_84 : decode cX11_youngest 84 = .ok (.iload_n 2, 1) := by decide +kernel
theorem dX11_youngest_85 : decode cX11_youngest 85 = .ok (.imul, 1) := by decide +kernel
theorem dX11_youngest_86 : decode cX11_youngest 86 = .ok (.iconst 0, 1) := by decide +kernel
theorem dX11_youngest_87 : decode cX11_youngest 87 = .ok (.iadd, 1) := by decide +kernel
theorem dX11_youngest_88 : decode cX11_youngest 88 = .ok (.iaload, 1) := by decide +kernel
theorem dX11_youngest_89 : decode cX11_youngest 89 = .ok (.if_icmp .ne 13, 3) := by decide +kernel
theorem dX11_youngest_92 : decode cX11_youngest 92 = .ok (.iload 4, 2) := by decide +kernel
theorem dX11_youngest_94 : decode cX11_youngest 94 = .ok (.iload_n 2, 1) := by decide +kernel
theorem dX11_youngest_95 : decode cX11_youngest 95 = .ok (.if_icmp .ge 7, 3) := by decide +kernel
theorem dX11_youngest_98 : decode cX11_youngest 98 = .ok (.iconst 1, 1) := by decide +kernel
theorem dX11_youngest_99 : decode cX11_youngest 99 = .ok (.goto 4, 3) := by decide +kernel
theorem dX11_youngest_102 : decode cX11_youngest 102 = .ok (.iconst 0, 1) := by decide +kernel
theorem dX11_youngest_103 : decode cX11_youngest 103 = .ok (.iadd, 1) := by decide +kernel
theorem dX11_youngest_104 : decode cX11_youngest 104 = .ok (.istore_n 3, 1) := by decide +kernel
theorem dX11_youngest_105 : decode cX11_youngest 105 = .ok (.iinc 4 1, 3) := by decide +kernel
theorem dX11_youngest_108 : decode cX11_youngest 108 = .ok (.goto (-78), 3) := by decide +kernel
theorem dX11_youngest_111 : decode cX11_youngest 111 = .ok (.iload_n 3, 1) := by decide +kernel
theorem dX11_youngest_112 : decode cX11_youngest 112 = .ok (.iload_n 1, 1) := by decide +kernel
theorem dX11_youngest_113 : decode cX11_youngest 113 = .ok (.if_icmp .ne 5, 3) := by decide +kernel
theorem dX11_youngest_116 : decode cX11_youngest 116 = .ok (.iload_n 2, 1) := by decide +kernel
theorem dX11_youngest_117 : decode cX11_youngest 117 = .ok (.ireturn, 1) := by decide +kernel
theorem dX11_youngest_118 : decode cX11_youngest 118 = .ok (.iinc 2 1, 3) := by decide +kernel
theorem dX11_youngest_121 : decode cX11_youngest 121 = .ok (.goto (-104), 3) := by decide +kernel
theorem dX11_youngest_124 : decode cX11_youngest 124 = .ok (.iconst (-1), 1) := by decide +kernel
theorem dX11_youngest_125 : decode cX11_youngest 125 = .ok (.ireturn, 1) := by decide +kernel
theorem dX11_richest_0 : decode cX11_richest 0 = .ok (.aload_n 0, 1) := by decide +kernel
theorem dX11_richest_1 : decode cX11_richest 1 = .ok (.iconst 0, 1) := by decide +kernel
theorem dX11_richest_2 : decode cX11_richest 2 = .ok (.putfield 80, 3) := by decide +kernel
theorem dX11_richest_5 : decode cX11_richest 5 = .ok (.aload_n 0, 1) := by decide +kernel
theorem dX11_richest_6 : decode cX11_richest 6 = .ok (.getfield 260, 3) := by decide +kernel
theorem dX11_richest_9 : decode cX11_richest 9 = .ok (.ifCond .eq 25, 3) := by decide +kernel
theorem dX11_richest_12 : decode cX11_richest 12 = .ok (.iload_n 1, 1) := by decide +kernel
theorem dX11_richest_13 : decode cX11_richest 13 = .ok (.i2l, 1) := by decide +kernel
theorem dX11_richest_14 : decode cX11_richest 14 = .ok (.lconst 1, 1) := by decide +kernel
theorem dX11_richest_15 : decode cX11_richest 15 = .ok (.ldc2_w 408, 3) := by decide +kernel
theorem dX11_richest_18 : decode cX11_richest 18 = .ok (.invokestatic 201, 3) := by decide +kernel
theorem dX11_richest_21 : decode cX11_richest 21 = .ok (.ifCond .eq 13, 3) := by decide +kernel
theorem dX11_richest_24 : decode cX11_richest 24 = .ok (.iload_n 2, 1) := by decide +kernel
theorem dX11_richest_25 : decode cX11_richest 25 = .ok (.i2l, 1) := by decide +kernel
theorem dX11_richest_26 : decode cX11_richest 26 = .ok (.lconst 0, 1) := by decide +kernel
theorem dX11_richest_27 : decode cX11_richest 27 = .ok (.lconst 1, 1) := by decide +kernel
theorem dX11_richest_28 : decode cX11_richest 28 = .ok (.invokestatic 201, 3) := by decide +kernel
theorem dX11_richest_31 : decode cX11_richest 31 = .ok (.ifCond .ne 7, 3) := by decide +kernel
theorem dX11_richest_34 : decode cX11_richest 34 = .ok (.ldc_w 378, 3) := by decide +kernel
theorem dX11_richest_37 : decode cX11_richest 37 = .ok (.ireturn, 1) := by decide +kernel
theorem dX11_richest_38 : decode cX11_richest 38 = .ok (.aload_n 0, 1) := by decide +kernel
theorem dX11_richest_39 : decode cX11_richest 39 = .ok (.getfield 61, 3) := by decide +kernel
theorem dX11_richest_42 : decode cX11_richest 42 = .ok (.istore_n 3, 1) := by decide +kernel
theorem dX11_richest_43 : decode cX11_richest 43 = .ok (.iconst (-1), 1) := by decide +kernel
theorem dX11_richest_44 : decode cX11_richest 44 = .ok (.istore 4, 2) := by decide +kernel
theorem dX11_richest_46 : decode cX11_richest 46 = .ok (.iconst (-1), 1) := by decide +kernel
theorem dX11_richest_47 : decode cX11_richest 47 = .ok (.istore 5, 2) := by decide +kernel
theorem dX11_richest_49 : decode cX11_richest 49 = .ok (.iconst (-1), 1) := by decide +kernel
theorem dX11_richest_50 : decode cX11_richest 50 = .ok (.istore 6, 2) := by decide +kernel
theorem dX11_richest_52 : decode cX11_richest 52 = .ok (.iload 6, 2) := by decide +kernel
theorem dX11_richest_54 : decode cX11_richest 54 = .ok (.aload_n 0, 1) := by decide +kernel
theorem dX11_richest_55 : decode cX11_richest 55 = .ok (.getfield 255, 3) := by decide +kernel
theorem dX11_richest_58 : decode cX11_richest 58 = .ok (.if_icmp .ge 78, 3) := by decide +kernel
theorem dX11_richest_61 : decode cX11_richest 61 = .ok (.aload_n 0, 1) := by decide +kernel
theorem dX11_richest_62 : decode cX11_richest 62 = .ok (.iload 6, 2) := by decide +kernel
theorem dX11_richest_64 : decode cX11_richest 64 = .ok (.putfield 61, 3) := by decide +kernel
theorem dX11_richest_67 : decode cX11_richest 67 = .ok (.aload_n 0, 1) := by decide +kernel
theorem dX11_richest_68 : decode cX11_richest 68 = .ok (.getfield 55, 3) := by decide +kernel
theorem dX11_richest_71 : decode cX11_richest 71 = .ok (.aload_n 0, 1) := by decide +kernel
theorem dX11_richest_72 : decode cX11_richest 72 = .ok (.getfield 58, 3) := by decide +kernel
theorem dX11_richest_75 : decode cX11_richest 75 = .ok (.invokestatic 379, 3) := by decide +kernel
theorem dX11_richest_78 : decode cX11_richest 78 = .ok (.iconst 0, 1) := by decide +kernel
theorem dX11_richest_79 : decode cX11_richest 79 = .ok (.istore 7, 2) := by decide +kernel
theorem dX11_richest_81 : decode cX11_richest 81 = .ok (.iload 7, 2) := by decide +kernel
theorem dX11_richest_83 : decode cX11_richest 83 = .ok (.iload_n 1, 1) := by decide +kernel
theorem dX11_richest_84 : decode cX11_richest 84 = .ok (.if_icmp .ge 18, 3) := by decide +kernel
theorem dX11_richest_87 : decode cX11_richest 87 = .ok (.aload_n 0, 1) := by decide +kernel
theorem dX11_richest_88 : decode cX11_richest 88 = .ok (.aload_n 0, 1) := by decide +kernel
theorem dX11_richest_89 : decode cX11_richest 89 = .ok (.getfield 58, 3) := by decide +kernel
theorem dX11_richest_92 : decode cX11_richest 92 = .ok (.iconst 0, 1) := by decide +kernel
theorem dX11_richest_93 : decode cX11_richest 93 = .ok (.invokevirtual 370, 3) := by decide +kernel
theorem dX11_richest_96 : decode cX11_richest 96 = .ok (.iinc 7 1, 3) := by decide +kernel
theorem dX11_richest_99 : decode cX11_richest 99 = .ok (.goto (-18), 3) := by decide +kernel
theorem dX11_richest_102 : decode cX11_richest 102 = .ok (.aload_n 0, 1) := by decide +kernel
theorem dX11_richest_103 : decode cX11_richest 103 = .ok (.getfield 58, 3) := by decide +kernel
theorem dX11_richest_106 : decode cX11_richest 106 = .ok (.bipush 62, 2) := by decide +kernel
theorem dX11_richest_108 : decode cX11_richest 108 = .ok (.iaload, 1) := by decide +kernel
theorem dX11_richest_109 : decode cX11_richest 109 = .ok (.iload 5, 2) := by decide +kernel
theorem dX11_richest_111 : decode cX11_richest 111 = .ok (.if_icmp .gt 6, 3) := by decide +kernel
theorem dX11_richest_114 : decode cX11_richest 114 = .ok (.goto 16, 3) := by decide +kernel
theorem dX11_richest_117 : decode cX11_richest 117 = .ok (.iload 6, 2) := by decide +kernel
theorem dX11_richest_119 : decode cX11_richest 119 = .ok (.istore 4, 2) := by decide +kernel
theorem dX11_richest_121 : decode cX11_richest 121 = .ok (.aload_n 0, 1) := by decide +kernel
theorem dX11_richest_122 : decode cX11_richest 122 = .ok (.getfield 58, 3) := by decide +kernel
theorem dX11_richest_125 : decode cX11_richest 125 = .ok (.bipush 62, 2) := by decide +kernel
theorem dX11_richest_127 : decode cX11_richest 127 = .ok (.iaload, 1) := by decide +kernel
theorem dX11_richest_128 : decode cX11_richest 128 = .ok (.istore 5, 2) := by decide +kernel
theorem dX11_richest_130 : decode cX11_richest 130 = .ok (.iinc 6 1, 3) := by decide +kernel
theorem dX11_richest_133 : decode cX11_richest 133 = .ok (.goto (-81), 3) := by decide +kernel
theorem dX11_richest_136 : decode cX11_richest 136 = .ok (.aload_n 0, 1) := by decide +kernel
theorem dX11_richest_137 : decode cX11_richest 137 = .ok (.iload_n 3, 1) := by decide +kernel
theorem dX11_richest_138 : decode cX11_richest 138 = .ok (.putfield 61, 3) := by decide +kernel
theorem dX11_richest_141 : decode cX11_richest 141 = .ok (.iload_n 2, 1) := by decide +kernel
theorem dX11_richest_142 : decode cX11_richest 142 = .ok (.ifCond .ne 8, 3) := by decide +kernel
theorem dX11_richest_145 : decode cX11_richest 145 = .ok (.iload 4, 2) := by decide +kernel
theorem dX11_richest_147 : decode cX11_richest 147 = .ok (.goto 5, 3) := by decide +kernel
theorem dX11_richest_150 : decode cX11_richest 150 = .ok (.iload 5, 2) := by decide +kernel
theorem dX11_richest_152 : decode cX11_richest 152 = .ok (.ireturn, 1) := by decide +kernel
theorem dX11_rivals_0 : decode cX11_rivals 0 = .ok (.aload_n 0, 1) := by decide +kernel
theorem dX11_rivals_1 : decode cX11_rivals 1 = .ok (.iconst 0, 1) := by decide +kernel
theorem dX11_rivals_2 : decode cX11_rivals 2 = .ok (.putfield 80, 3) := by decide +kernel
theorem dX11_rivals_5 : decode cX11_rivals 5 = .ok (.aload_n 0, 1) := by decide +kernel
theorem dX11_rivals_6 : decode cX11_rivals 6 = .ok (.invokevirtual 438, 3) := by decide +kernel
theorem dX11_rivals_9 : decode cX11_rivals 9 = .ok (.istore_n 2, 1) := by decide +kernel
theorem dX11_rivals_10 : decode cX11_rivals 10 = .ok (.iload_n 2, 1) := by decide +kernel
theorem dX11_rivals_11 : decode cX11_rivals 11 = .ok (.iconst (-1), 1) := by decide +kernel
theorem dX11_rivals_12 : decode cX11_rivals 12 = .ok (.if_icmp .eq 11, 3) := by decide +kernel
theorem dX11_rivals_15 : decode cX11_rivals 15 = .ok (.aload_n 0, 1) := by decide +kernel
theorem dX11_rivals_16 : decode cX11_rivals 16 = .ok (.iload_n 1, 1) := by decide +kernel
theorem dX11_rivals_17 : decode cX11_rivals 17 = .ok (.invokevirtual 296, 3) := by decide +kernel
theorem dX11_rivals_20 : decode cX11_rivals 20 = .ok (.ifCond .ne 5, 3) := by decide +kernel
theorem dX11_rivals_23 : decode cX11_rivals 23 = .ok (.iconst (-1), 1) := by decide +kernel
theorem dX11_rivals_24 : decode cX11_rivals 24 = .ok (.ireturn, 1) := by decide +kernel
theorem dX11_rivals_25 : decode cX11_rivals 25 = .ok (.iconst 0, 1) := by decide +kernel
theorem dX11_rivals_26 : decode cX11_rivals 26 = .ok (.istore_n 3, 1) := by decide +kernel
theorem dX11_rivals_27 : decode cX11_rivals 27 = .ok (.iconst 0, 1) := by decide +kernel
theorem dX11_rivals_28 : decode cX11_rivals 28 = .ok (.istore 4, 2) := by decide +kernel
theorem dX11_rivals_30 : decode cX11_rivals 30 = .ok (.iload 4, 2) := by decide +kernel
theorem dX11_rivals_32 : decode cX11_rivals 32 = .ok (.aload_n 0, 1) := by decide +kernel
theorem dX11_rivals_33 : decode cX11_rivals 33 = .ok (.getfield 260, 3) := by decide +kernel
theorem dX11_rivals_36 : decode cX11_rivals 36 = .ok (.if_icmp .ge 81, 3) := by decide +kernel
theorem dX11_rivals_39 : decode cX11_rivals 39 = .ok (.iload_n 3, 1) := by decide +kernel
theorem dX11_rivals_40 : decode cX11_rivals 40 = .ok (.aload_n 0, 1) := by decide +kernel
theorem dX11_rivals_41 : decode cX11_rivals 41 = .ok (.getfield 55, 3) := by decide +kernel
theorem dX11_rivals_44 : decode cX11_rivals 44 = .ok (.bipush 7, 2) := by decide +kernel
theorem dX11_rivals_46 : decode cX11_rivals 46 = .ok (.iload 4, 2) := by decide +kernel
theorem dX11_rivals_48 : decode cX11_rivals 48 = .ok (.imul, 1) := by decide +kernel
theorem dX11_rivals_49 : decode cX11_rivals 49 = .ok (.iconst 0, 1) := by decide +kernel
theorem dX11_rivals_50 : decode cX11_rivals 50 = .ok (.iadd, 1) := by decide +kernel
theorem dX11_rivals_51 : decode cX11_rivals 51 = .ok (.iaload, 1) := by decide +kernel
theorem dX11_rivals_52 : decode cX11_rivals 52 = .ok (.aload_n 0, 1) := by decide +kernel
theorem dX11_rivals_53 : decode cX11_rivals 53 = .ok (.getfield 55, 3) := by decide +kernel
theorem dX11_rivals_56 : decode cX11_rivals 56 = .ok (.bipush 7, 2) := by decide +kernel
theorem dX11_rivals_58 : decode cX11_rivals 58 = .ok (.iload_n 1, 1) := by decide +kernel
theorem dX11_rivals_59 : decode cX11_rivals 59 = .ok (.imul, 1) := by decide +kernel
theorem dX11_rivals_60 : decode cX11_rivals 60 = .ok (.iconst 0, 1) := by decide +kernel
theorem dX11_rivals_61 : decode cX11_rivals 61 = .ok (.iadd, 1) := by decide +kernel
theorem dX11_rivals_62 : decode cX11_rivals 62 = .ok (.iaload, 1) := by decide +kernel
theorem dX11_rivals_63 : decode cX11_rivals 63 = .ok (.if_icmp .ge 45, 3) := by decide +kernel
theorem dX11_rivals_66 : decode cX11_rivals 66 = .ok (.aload_n 0, 1) := by decide +kernel
theorem dX11_rivals_67 : decode cX11_rivals 67 = .ok (.getfield 55, 3) := by decide +kernel
theorem dX11_rivals_70 : decode cX11_rivals 70 = .ok (.bipush 7, 2) := by decide +kernel
theorem dX11_rivals_72 : decode cX11_rivals 72 = .ok (.iload 4, 2) := by decide +kernel
theorem dX11_rivals_74 : decode cX11_rivals 74 = .ok (.imul, 1) := by decide +kernel
theorem dX11_rivals_75 : decode cX11_rivals 75 = .ok (.iconst 0, 1) := by decide +kernel
theorem dX11_rivals_76 : decode cX11_rivals 76 = .ok (.iadd, 1) := by decide +kernel
theorem dX11_rivals_77 : decode cX11_rivals 77 = .ok (.iaload, 1) := by decide +kernel
theorem dX11_rivals_78 : decode cX11_rivals 78 = .ok (.aload_n 0, 1) := by decide +kernel
theorem dX11_rivals_79 : decode cX11_rivals 79 = .ok (.getfield 49, 3) := by decide +kernel
theorem dX11_rivals_82 : decode cX11_rivals 82 = .ok (.iconst 0, 1) := by decide +kernel
theorem dX11_rivals_83 : decode cX11_rivals 83 = .ok (.iaload, 1) := by decide +kernel
theorem dX11_rivals_84 : decode cX11_rivals 84 = .ok (.if_icmp .ge 24, 3) := by decide +kernel
theorem dX11_rivals_87 : decode cX11_rivals 87 = .ok (.aload_n 0, 1) := by decide +kernel
theorem dX11_rivals_88 : decode cX11_rivals 88 = .ok (.aload_n 0, 1) := by decide +kernel
theorem dX11_rivals_89 : decode cX11_rivals 89 = .ok (.getfield 55, 3) := by decide +kernel
theorem dX11_rivals_92 : decode cX11_rivals 92 = .ok (.iload 4, 2) := by decide +kernel
theorem dX11_rivals_94 : decode cX11_rivals 94 = .ok (.iload_n 2, 1) := by decide +kernel
theorem dX11_rivals_95 : decode cX11_rivals 95 = .ok (.invokevirtual 314, 3) := by decide +kernel
theorem dX11_rivals_98 : decode cX11_rivals 98 = .ok (.ifCond .ne 10, 3) := by decide +kernel
theorem dX11_rivals_101 : decode cX11_rivals 101 = .ok (.iconst 1, 1) := by decide +kernel
theorem dX11_rivals_102 : decode cX11_rivals 102 = .ok (.iload 4, 2) := by decide +kernel
theorem dX11_rivals_104 : decode cX11_rivals 104 = .ok (.ishl, 1) := by decide +kernel
theorem dX11_rivals_105 : decode cX11_rivals 105 = .ok (.goto 4, 3) := by decide +kernel
theorem dX11_rivals_108 : decode cX11_rivals 108 = .ok (.iconst 0, 1) := by decide +kernel
theorem dX11_rivals_109 : decode cX11_rivals 109 = .ok (.ior, 1) := by decide +kernel
theorem dX11_rivals_110 : decode cX11_rivals 110 = .ok (.istore_n 3, 1) := by decide +kernel
theorem dX11_rivals_111 : decode cX11_rivals 111 = .ok (.iinc 4 1, 3) := by decide +kernel
theorem dX11_rivals_114 : decode cX11_rivals 114 = .ok (.goto (-84), 3) := by decide +kernel
theorem dX11_rivals_117 : decode cX11_rivals 117 = .ok (.iload_n 3, 1) := by decide +kernel
theorem dX11_rivals_118 : decode cX11_rivals 118 = .ok (.ireturn, 1) := by decide +kernel
theorem dX11_forgotten_0 : decode cX11_forgotten 0 = .ok (.aload_n 0, 1) := by decide +kernel
theorem dX11_forgotten_1 : decode cX11_forgotten 1 = .ok (.iconst 0, 1) := by decide +kernel
theorem dX11_forgotten_2 : decode cX11_forgotten 2 = .ok (.putfield 80, 3) := by decide +kernel
theorem dX11_forgotten_5 : decode cX11_forgotten 5 = .ok (.aload_n 0, 1) := by decide +kernel
theorem dX11_forgotten_6 : decode cX11_forgotten 6 = .ok (.getfield 260, 3) := by decide +kernel
theorem dX11_forgotten_9 : decode cX11_forgotten 9 = .ok (.ifCond .ne 5, 3) := by decide +kernel
theorem dX11_forgotten_12 : decode cX11_forgotten 12 = .ok (.iconst (-1), 1) := by decide +kernel
theorem dX11_forgotten_13 : decode cX11_forgotten 13 = .ok (.ireturn, 1) := by decide +kernel
theorem dX11_forgotten_14 : decode cX11_forgotten 14 = .ok (.iconst 0, 1) := by decide +kernel
theorem dX11_forgotten_15 : decode cX11_forgotten 15 = .ok (.istore_n 1, 1) := by decide +kernel
theorem dX11_forgotten_16 : decode cX11_forgotten 16 = .ok (.iconst 0, 1) := by decide +kernel
theorem dX11_forgotten_17 : decode cX11_forgotten 17 = .ok (.istore_n 2, 1) := by decide +kernel
theorem dX11_forgotten_18 : decode cX11_forgotten 18 = .ok (.iload_n 2, 1) := by decide +kernel
theorem dX11_forgotten_19 : decode cX11_forgotten 19 = .ok (.aload_n 0, 1) := by decide +kernel
theorem dX11_forgotten_20 : decode cX11_forgotten 20 = .ok (.getfield 263, 3) := by decide +kernel
theorem dX11_forgotten_23 : decode cX11_forgotten 23 = .ok (.if_icmp .ge 21, 3) := by decide +kernel
theorem dX11_forgotten_26 : decode cX11_forgotten 26 = .ok (.iload_n 1, 1) := by decide +kernel
theorem dX11_forgotten_27 : decode cX11_forgotten 27 = .ok (.aload_n 0, 1) := by decide +kernel
theorem dX11_forgotten_28 : decode cX11_forgotten 28 = .ok (.getfield 55, 3) := by decide +kernel
theorem dX11_forgotten_31 : decode cX11_forgotten 31 = .ok (.bipush 56, 2) := by decide +kernel
theorem dX11_forgotten_33 : decode cX11_forgotten 33 = .ok (.iload_n 2, 1) := by decide +kernel
theorem dX11_forgotten_34 : decode cX11_forgotten 34 = .ok (.iadd, 1) := by decide +kernel
theorem dX11_forgotten_35 : decode cX11_forgotten 35 = .ok (.iaload, 1) := by decide +kernel
theorem dX11_forgotten_36 : decode cX11_forgotten 36 = .ok (.ior, 1) := by decide +kernel
theorem dX11_forgotten_37 : decode cX11_forgotten 37 = .ok (.istore_n 1, 1) := by decide +kernel
theorem dX11_forgotten_38 : decode cX11_forgotten 38 = .ok (.iinc 2 1, 3) := by decide +kernel
theorem dX11_forgotten_41 : decode cX11_forgotten 41 = .ok (.goto (-23), 3) := by decide +kernel
theorem dX11_forgotten_44 : decode cX11_forgotten 44 = .ok (.iconst 1, 1) := by decide +kernel
theorem dX11_forgotten_45 : decode cX11_forgotten 45 = .ok (.aload_n 0, 1) := by decide +kernel
theorem dX11_forgotten_46 : decode cX11_forgotten 46 = .ok (.getfield 49, 3) := by decide +kernel
theorem dX11_forgotten_49 : decode cX11_forgotten 49 = .ok (.iconst 1, 1) := by decide +kernel
theorem dX11_forgotten_50 : decode cX11_forgotten 50 = .ok (.iaload, 1) := by decide +kernel
theorem dX11_forgotten_51 : decode cX11_forgotten 51 = .ok (.ishl, 1) := by decide +kernel
theorem dX11_forgotten_52 : decode cX11_forgotten 52 = .ok (.iconst 1, 1) := by decide +kernel
theorem dX11_forgotten_53 : decode cX11_forgotten 53 = .ok (.isub, 1) := by decide +kernel
theorem dX11_forgotten_54 : decode cX11_forgotten 54 = .ok (.iload_n 1, 1) := by decide +kernel
theorem dX11_forgotten_55 : decode cX11_forgotten 55 = .ok (.iconst (-1), 1) := by decide +kernel
theorem dX11_forgotten_56 : decode cX11_forgotten 56 = .ok (.ixor, 1) := by decide +kernel
theorem dX11_forgotten_57 : decode cX11_forgotten 57 = .ok (.iand, 1) := by decide +kernel
theorem dX11_forgotten_58 : decode cX11_forgotten 58 = .ok (.ireturn, 1) := by decide +kernel
theorem dX11_image_0 : decode cX11_image 0 = .ok (.aload_n 0, 1) := by decide +kernel
theorem dX11_image_1 : decode cX11_image 1 = .ok (.iconst 0, 1) := by decide +kernel
theorem dX11_image_2 : decode cX11_image 2 = .ok (.putfield 80, 3) := by decide +kernel
theorem dX11_image_5 : decode cX11_image 5 = .ok (.aload_n 0, 1) := by decide +kernel
theorem dX11_image_6 : decode cX11_image 6 = .ok (.getfield 260, 3) := by decide +kernel
theorem dX11_image_9 : decode cX11_image 9 = .ok (.ifCond .ne 5, 3) := by decide +kernel
theorem dX11_image_12 : decode cX11_image 12 = .ok (.iconst (-1), 1) := by decide +kernel
theorem dX11_image_13 : decode cX11_image 13 = .ok (.ireturn, 1) := by decide +kernel
theorem dX11_image_14 : decode cX11_image 14 = .ok (.aload_n 0, 1) := by decide +kernel
theorem dX11_image_15 : decode cX11_image 15 = .ok (.getfield 55, 3) := by decide +kernel
theorem dX11_image_18 : decode cX11_image 18 = .ok (.aload_n 0, 1) := by decide +kernel
theorem dX11_image_19 : decode cX11_image 19 = .ok (.getfield 77, 3) := by decide +kernel
theorem dX11_image_22 : decode cX11_image 22 = .ok (.invokestatic 379, 3) := by decide +kernel
theorem dX11_image_25 : decode cX11_image 25 = .ok (.aload_n 0, 1) := by decide +kernel
theorem dX11_image_26 : decode cX11_image 26 = .ok (.iconst 1, 1) := by decide +kernel
theorem dX11_image_27 : decode cX11_image 27 = .ok (.putfield 269, 3) := by decide +kernel
theorem dX11_image_30 : decode cX11_image 30 = .ok (.aload_n 0, 1) := by decide +kernel
theorem dX11_image_31 : decode cX11_image 31 = .ok (.getfield 55, 3) := by decide +kernel
theorem dX11_image_34 : decode cX11_image 34 = .ok (.bipush 60, 2) := by decide +kernel
theorem dX11_image_36 : decode cX11_image 36 = .ok (.iaload, 1) := by decide +kernel
theorem dX11_image_37 : decode cX11_image 37 = .ok (.ireturn, 1) := by decide +kernel
theorem dX11_back_0 : decode cX11_back 0 = .ok (.aload_n 0, 1) := by decide +kernel
theorem dX11_back_1 : decode cX11_back 1 = .ok (.iconst 0, 1) := by decide +kernel
theorem dX11_back_2 : decode cX11_back 2 = .ok (.putfield 80, 3) := by decide +kernel
theorem dX11_back_5 : decode cX11_back 5 = .ok (.aload_n 0, 1) := by decide +kernel
theorem dX11_back_6 : decode cX11_back 6 = .ok (.getfield 269, 3) := by decide +kernel
theorem dX11_back_9 : decode cX11_back 9 = .ok (.ifCond .ne 5, 3) := by decide +kernel
theorem dX11_back_12 : decode cX11_back 12 = .ok (.iconst (-1), 1) := by decide +kernel
theorem dX11_back_13 : decode cX11_back 13 = .ok (.ireturn, 1) := by decide +kernel
theorem dX11_back_14 : decode cX11_back 14 = .ok (.aload_n 0, 1) := by decide +kernel
theorem dX11_back_15 : decode cX11_back 15 = .ok (.getfield 77, 3) := by decide +kernel
theorem dX11_back_18 : decode cX11_back 18 = .ok (.aload_n 0, 1) := by decide +kernel
theorem dX11_back_19 : decode cX11_back 19 = .ok (.getfield 55, 3) := by decide +kernel
theorem dX11_back_22 : decode cX11_back 22 = .ok (.invokestatic 379, 3) := by decide +kernel
theorem dX11_back_25 : decode cX11_back 25 = .ok (.aload_n 0, 1) := by decide +kernel
theorem dX11_back_26 : decode cX11_back 26 = .ok (.iconst 0, 1) := by decide +kernel
theorem dX11_back_27 : decode cX11_back 27 = .ok (.putfield 266, 3) := by decide +kernel
theorem dX11_back_30 : decode cX11_back 30 = .ok (.aload_n 0, 1) := by decide +kernel
theorem dX11_back_31 : decode cX11_back 31 = .ok (.getfield 55, 3) := by decide +kernel
theorem dX11_back_34 : decode cX11_back 34 = .ok (.bipush 60, 2) := by decide +kernel
theorem dX11_back_36 : decode cX11_back 36 = .ok (.iaload, 1) := by decide +kernel
theorem dX11_back_37 : decode cX11_back 37 = .ok (.ireturn, 1) := by decide +kernel
theorem dX11_count_0 : decode cX11_count 0 = .ok (.aload_n 0, 1) := by decide +kernel
theorem dX11_count_1 : decode cX11_count 1 = .ok (.iconst 0, 1) := by decide +kernel
theorem dX11_count_2 : decode cX11_count 2 = .ok (.putfield 80, 3) := by decide +kernel
theorem dX11_count_5 : decode cX11_count 5 = .ok (.iload_n 1, 1) := by decide +kernel
theorem dX11_count_6 : decode cX11_count 6 = .ok (.tableswitch 177 0 11 #[62, 67, 72, 77, 82, 87, 95, 114, 122, 127, 164, 172], 62) := by decide +kernel
theorem dX11_count_68 : decode cX11_count 68 = .ok (.aload_n 0, 1) := by decide +kernel
theorem dX11_count_69 : decode cX11_count 69 = .ok (.getfield 260, 3) := by decide +kernel
theorem dX11_count_72 : decode cX11_count 72 = .ok (.ireturn, 1) := by decide +kernel
theorem dX11_count_73 : decode cX11_count 73 = .ok (.aload_n 0, 1) := by decide +kernel
theorem dX11_count_74 : decode cX11_count 74 = .ok (.getfield 263, 3) := by decide +kernel
theorem dX11_count_77 : decode cX11_count 77 = .ok (.ireturn, 1) := by decide +kernel
theorem dX11_count_78 : decode cX11_count 78 = .ok (.aload_n 0, 1) := by decide +kernel
theorem dX11_count_79 : decode cX11_count 79 = .ok (.getfield 255, 3) := by decide +kernel
theorem dX11_count_82 : decode cX11_count 82 = .ok (.ireturn, 1) := by decide +kernel
theorem dX11_count_83 : decode cX11_count 83 = .ok (.aload_n 0, 1) := by decide +kernel
theorem dX11_count_84 : decode cX11_count 84 = .ok (.getfield 93, 3) := by decide +kernel
theorem dX11_count_87 : decode cX11_count 87 = .ok (.ireturn, 1) := by decide +kernel
theorem dX11_count_88 : decode cX11_count 88 = .ok (.aload_n 0, 1) := by decide +kernel
theorem dX11_count_89 : decode cX11_count 89 = .ok (.getfield 61, 3) := by decide +kernel
theorem dX11_count_92 : decode cX11_count 92 = .ok (.ireturn, 1) := by decide +kernel
theorem dX11_count_93 : decode cX11_count 93 = .ok (.aload_n 0, 1) := by decide +kernel
theorem dX11_count_94 : decode cX11_count 94 = .ok (.getfield 55, 3) := by decide +kernel
theorem dX11_count_97 : decode cX11_count 97 = .ok (.bipush 60, 2) := by decide +kernel
theorem dX11_count_99 : decode cX11_count 99 = .ok (.iaload, 1) := by decide +kernel
theorem dX11_count_100 : decode cX11_count 100 = .ok (.ireturn, 1) := by decide +kernel
theorem dX11_count_101 : decode cX11_count 101 = .ok (.aload_n 0, 1) := by decide +kernel
theorem dX11_count_102 : decode cX11_count 102 = .ok (.getfield 260, 3) := by decide +kernel
theorem dX11_count_105 : decode cX11_count 105 = .ok (.ifCond .ne 7, 3) := by decide +kernel
theorem dX11_count_108 : decode cX11_count 108 = .ok (.iconst (-1), 1) := by decide +kernel
theorem dX11_count_109 : decode cX11_count 109 = .ok (.goto 10, 3) := by decide +kernel
theorem dX11_count_112 : decode cX11_count 112 = .ok (.aload_n 0, 1) := by decide +kernel
theorem dX11_count_113 : decode cX11_count 113 = .ok (.getfield 55, 3) := by decide +kernel
theorem dX11_count_116 : decode cX11_count 116 = .ok (.bipush 61, 2) := by decide +kernel
theorem dX11_count_118 : decode cX11_count 118 = .ok (.iaload, 1) := by decide +kernel
theorem dX11_count_119 : decode cX11_count 119 = .ok (.ireturn, 1) := by decide +kernel
theorem dX11_count_120 : decode cX11_count 120 = .ok (.aload_n 0, 1) := by decide +kernel
theorem dX11_count_121 : decode cX11_count 121 = .ok (.getfield 55, 3) := by decide +kernel
theorem dX11_count_124 : decode cX11_count 124 = .ok (.bipush 62, 2) := by decide +kernel
theorem dX11_count_126 : decode cX11_count 126 = .ok (.iaload, 1) := by decide +kernel
theorem dX11_count_127 : decode cX11_count 127 = .ok (.ireturn, 1) := by decide +kernel
theorem dX11_count_128 : decode cX11_count 128 = .ok (.aload_n 0, 1) := by decide +kernel
theorem dX11_count_129 : decode cX11_count 129 = .ok (.getfield 311, 3) := by decide +kernel
theorem dX11_count_132 : decode cX11_count 132 = .ok (.ireturn, 1) := by decide +kernel
theorem dX11_count_133 : decode cX11_count 133 = .ok (.aload_n 0, 1) := by decide +kernel
theorem dX11_count_134 : decode cX11_count 134 = .ok (.getfield 260, 3) := by decide +kernel
theorem dX11_count_137 : decode cX11_count 137 = .ok (.ifCond .eq 14, 3) := by decide +kernel
theorem dX11_count_140 : decode cX11_count 140 = .ok (.aload_n 0, 1) := by decide +kernel
theorem dX11_count_141 : decode cX11_count 141 = .ok (.getfield 55, 3) := by decide +kernel
theorem dX11_count_144 : decode cX11_count 144 = .ok (.bipush 61, 2) := by decide +kernel
theorem dX11_count_146 : decode cX11_count 146 = .ok (.iaload, 1) := by decide +kernel
theorem dX11_count_147 : decode cX11_count 147 = .ok (.iconst (-1), 1) := by decide +kernel
theorem dX11_count_148 : decode cX11_count 148 = .ok (.if_icmp .ne 7, 3) := by decide +kernel
theorem dX11_count_151 : decode cX11_count 151 = .ok (.iconst 0, 1) := by decide +kernel
theorem dX11_count_152 : decode cX11_count 152 = .ok (.goto 17, 3) := by decide +kernel
theorem dX11_count_155 : decode cX11_count 155 = .ok (.aload_n 0, 1) := by decide +kernel
theorem dX11_count_156 : decode cX11_count 156 = .ok (.getfield 55, 3) := by decide +kernel
theorem dX11_count_159 : decode cX11_count 159 = .ok (.aload_n 0, 1) := by decide +kernel
theorem dX11_count_160 : decode cX11_count 160 = .ok (.getfield 55, 3) := by decide +kernel
theorem dX11_count_163 : decode cX11_count 163 = .ok (.bipush 61, 2) := by decide +kernel
theorem dX11_count_165 : decode cX11_count 165 = .ok (.iaload, 1) := by decide +kernel
theorem dX11_count_166 : decode cX11_count 166 = .ok (.invokestatic 284, 3) := by decide +kernel
theorem dX11_count_169 : decode cX11_count 169 = .ok (.ireturn, 1) := by decide +kernel
theorem dX11_count_170 : decode cX11_count 170 = .ok (.aload_n 0, 1) := by decide +kernel
theorem dX11_count_171 : decode cX11_count 171 = .ok (.getfield 55, 3) := by decide +kernel
theorem dX11_count_174 : decode cX11_count 174 = .ok (.bipush 63, 2) := by decide +kernel
theorem dX11_count_176 : decode cX11_count 176 = .ok (.iaload, 1) := by decide +kernel
theorem dX11_count_177 : decode cX11_count 177 = .ok (.ireturn, 1) := by decide +kernel
theorem dX11_count_178 : decode cX11_count 178 = .ok (.aload_n 0, 1) := by decide +kernel
theorem dX11_count_179 : decode cX11_count 179 = .ok (.getfield 266, 3) := by decide +kernel
theorem dX11_count_182 : decode cX11_count 182 = .ok (.ireturn, 1) := by decide +kernel
theorem dX11_count_183 : decode cX11_count 183 = .ok (.ldc_w 378, 3) := by decide +kernel
theorem dX11_count_186 : decode cX11_count 186 = .ok (.ireturn, 1) := by decide +kernel
