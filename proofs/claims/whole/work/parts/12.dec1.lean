theorem dJ3_checkIndex_8e157_0 : decode cJ3_checkIndex_8e157 0 = .ok (.iload_n 0, 1) := by decide +kernel
theorem dJ3_checkIndex_8e157_1 : decode cJ3_checkIndex_8e157 1 = .ok (.ifCond .lt 8, 3) := by decide +kernel
theorem dJ3_checkIndex_8e157_4 : decode cJ3_checkIndex_8e157 4 = .ok (.iload_n 0, 1) := by decide +kernel
theorem dJ3_checkIndex_8e157_5 : decode cJ3_checkIndex_8e157 5 = .ok (.iload_n 1, 1) := by decide +kernel
theorem dJ3_checkIndex_8e157_6 : decode cJ3_checkIndex_8e157 6 = .ok (.if_icmp .lt 10, 3) := by decide +kernel
theorem dJ3_checkIndex_8e157_9 : decode cJ3_checkIndex_8e157 9 = .ok (.aload_n 2, 1) := by decide +kernel
theorem dJ3_checkIndex_8e157_10 : decode cJ3_checkIndex_8e157 10 = .ok (.iload_n 0, 1) := by decide +kernel
theorem dJ3_checkIndex_8e157_11 : decode cJ3_checkIndex_8e157 11 = .ok (.iload_n 1, 1) := by decide +kernel
theorem dJ3_checkIndex_8e157_12 : decode cJ3_checkIndex_8e157 12 = .ok (.invokestatic 95, 3) := by decide +kernel
theorem dJ3_checkIndex_8e157_15 : decode cJ3_checkIndex_8e157 15 = .ok (.athrow, 1) := by decide +kernel
theorem dJ3_checkIndex_8e157_16 : decode cJ3_checkIndex_8e157 16 = .ok (.iload_n 0, 1) := by decide +kernel
theorem dJ3_checkIndex_8e157_17 : decode cJ3_checkIndex_8e157 17 = .ok (.ireturn, 1) := by decide +kernel
theorem dJ1_charAt_3b067_0 : decode cJ1_charAt_3b067 0 = .ok (.iload_n 1, 1) := by decide +kernel
theorem dJ1_charAt_3b067_1 : decode cJ1_charAt_3b067 1 = .ok (.aload_n 0, 1) := by decide +kernel
theorem dJ1_charAt_3b067_2 : decode cJ1_charAt_3b067 2 = .ok (.arraylength, 1) := by decide +kernel
theorem dJ1_charAt_3b067_3 : decode cJ1_charAt_3b067 3 = .ok (.invokestatic 9, 3) := by decide +kernel
theorem dJ1_charAt_3b067_6 : decode cJ1_charAt_3b067 6 = .ok (.aload_n 0, 1) := by decide +kernel
theorem dJ1_charAt_3b067_7 : decode cJ1_charAt_3b067 7 = .ok (.iload_n 1, 1) := by decide +kernel
theorem dJ1_charAt_3b067_8 : decode cJ1_charAt_3b067 8 = .ok (.baload, 1) := by decide +kernel
theorem dJ1_charAt_3b067_9 : decode cJ1_charAt_3b067 9 = .ok (.sipush 255, 3) := by decide +kernel
theorem dJ1_charAt_3b067_12 : decode cJ1_charAt_3b067 12 = .ok (.iand, 1) := by decide +kernel
theorem dJ1_charAt_3b067_13 : decode cJ1_charAt_3b067 13 = .ok (.i2c, 1) := by decide +kernel
theorem dJ1_charAt_3b067_14 : decode cJ1_charAt_3b067 14 = .ok (.ireturn, 1) := by decide +kernel
theorem dJ1_canEncode_9a6ad_0 : decode cJ1_canEncode_9a6ad 0 = .ok (.iload_n 0, 1) := by decide +kernel
theorem dJ1_canEncode_9a6ad_1 : decode cJ1_canEncode_9a6ad 1 = .ok (.ifCond .lt 14, 3) := by decide +kernel
theorem dJ1_canEncode_9a6ad_4 : decode cJ1_canEncode_9a6ad 4 = .ok (.iload_n 0, 1) := by decide +kernel
theorem dJ1_canEncode_9a6ad_5 : decode cJ1_canEncode_9a6ad 5 = .ok (.sipush 255, 3) := by decide +kernel
theorem dJ1_canEncode_9a6ad_8 : decode cJ1_canEncode_9a6ad 8 = .ok (.if_icmp .gt 7, 3) := by decide +kernel
theorem dJ1_canEncode_9a6ad_11 : decode cJ1_canEncode_9a6ad 11 = .ok (.iconst 1, 1) := by decide +kernel
theorem dJ1_canEncode_9a6ad_12 : decode cJ1_canEncode_9a6ad 12 = .ok (.goto 4, 3) := by decide +kernel
theorem dJ1_canEncode_9a6ad_15 : decode cJ1_canEncode_9a6ad 15 = .ok (.iconst 0, 1) := by decide +kernel
theorem dJ1_canEncode_9a6ad_16 : decode cJ1_canEncode_9a6ad 16 = .ok (.ireturn, 1) := by decide +kernel
theorem dJ1_indexOf_4cfef_0 : decode cJ1_indexOf_4cfef 0 = .ok (.iload_n 1, 1) := by decide +kernel
theorem dJ1_indexOf_4cfef_1 : decode cJ1_indexOf_4cfef 1 = .ok (.invokestatic 88, 3) := by decide +kernel
theorem dJ1_indexOf_4cfef_4 : decode cJ1_indexOf_4cfef 4 = .ok (.ifCond .ne 5, 3) := by decide +kernel
theorem dJ1_indexOf_4cfef_7 : decode cJ1_indexOf_4cfef 7 = .ok (.iconst (-1), 1) := by decide +kernel
theorem dJ1_indexOf_4cfef_8 : decode cJ1_indexOf_4cfef 8 = .ok (.ireturn, 1) := by decide +kernel
theorem dJ1_indexOf_4cfef_9 : decode cJ1_indexOf_4cfef 9 = .ok (.iload_n 2, 1) := by decide +kernel
theorem dJ1_indexOf_4cfef_10 : decode cJ1_indexOf_4cfef 10 = .ok (.iconst 0, 1) := by decide +kernel
theorem dJ1_indexOf_4cfef_11 : decode cJ1_indexOf_4cfef 11 = .ok (.invokestatic 92, 3) := by decide +kernel
theorem dJ1_indexOf_4cfef_14 : decode cJ1_indexOf_4cfef 14 = .ok (.istore_n 2, 1) := by decide +kernel
theorem dJ1_indexOf_4cfef_15 : decode cJ1_indexOf_4cfef 15 = .ok (.iload_n 3, 1) := by decide +kernel
theorem dJ1_indexOf_4cfef_16 : decode cJ1_indexOf_4cfef 16 = .ok (.aload_n 0, 1) := by decide +kernel
theorem dJ1_indexOf_4cfef_17 : decode cJ1_indexOf_4cfef 17 = .ok (.arraylength, 1) := by decide +kernel
theorem dJ1_indexOf_4cfef_18 : decode cJ1_indexOf_4cfef 18 = .ok (.invokestatic 38, 3) := by decide +kernel
theorem dJ1_indexOf_4cfef_21 : decode cJ1_indexOf_4cfef 21 = .ok (.istore_n 3, 1) := by decide +kernel
theorem dJ1_indexOf_4cfef_22 : decode cJ1_indexOf_4cfef 22 = .ok (.iload_n 2, 1) := by decide +kernel
theorem dJ1_indexOf_4cfef_23 : decode cJ1_indexOf_4cfef 23 = .ok (.iload_n 3, 1) := by decide +kernel
theorem dJ1_indexOf_4cfef_24 : decode cJ1_indexOf_4cfef 24 = .ok (.if_icmp .lt 5, 3) := by decide +kernel
theorem dJ1_indexOf_4cfef_27 : decode cJ1_indexOf_4cfef 27 = .ok (.iconst (-1), 1) := by decide +kernel
theorem dJ1_indexOf_4cfef_28 : decode cJ1_indexOf_4cfef 28 = .ok (.ireturn, 1) := by decide +kernel
theorem dJ1_indexOf_4cfef_29 : decode cJ1_indexOf_4cfef 29 = .ok (.aload_n 0, 1) := by decide +kernel
theorem dJ1_indexOf_4cfef_30 : decode cJ1_indexOf_4cfef 30 = .ok (.iload_n 1, 1) := by decide +kernel
theorem dJ1_indexOf_4cfef_31 : decode cJ1_indexOf_4cfef 31 = .ok (.iload_n 2, 1) := by decide +kernel
theorem dJ1_indexOf_4cfef_32 : decode cJ1_indexOf_4cfef 32 = .ok (.iload_n 3, 1) := by decide +kernel
theorem dJ1_indexOf_4cfef_33 : decode cJ1_indexOf_4cfef 33 = .ok (.invokestatic 95, 3) := by decide +kernel
theorem dJ1_indexOf_4cfef_36 : decode cJ1_indexOf_4cfef 36 = .ok (.ireturn, 1) := by decide +kernel
theorem dJ1_indexOfChar_4cfef_0 : decode cJ1_indexOfChar_4cfef 0 = .ok (.iload_n 1, 1) := by decide +kernel
theorem dJ1_indexOfChar_4cfef_1 : decode cJ1_indexOfChar_4cfef 1 = .ok (.i2b, 1) := by decide +kernel
theorem dJ1_indexOfChar_4cfef_2 : decode cJ1_indexOfChar_4cfef 2 = .ok (.istore 4, 2) := by decide +kernel
theorem dJ1_indexOfChar_4cfef_4 : decode cJ1_indexOfChar_4cfef 4 = .ok (.iload_n 2, 1) := by decide +kernel
theorem dJ1_indexOfChar_4cfef_5 : decode cJ1_indexOfChar_4cfef 5 = .ok (.istore 5, 2) := by decide +kernel
theorem dJ1_indexOfChar_4cfef_7 : decode cJ1_indexOfChar_4cfef 7 = .ok (.iload 5, 2) := by decide +kernel
theorem dJ1_indexOfChar_4cfef_9 : decode cJ1_indexOfChar_4cfef 9 = .ok (.iload_n 3, 1) := by decide +kernel
theorem dJ1_indexOfChar_4cfef_10 : decode cJ1_indexOfChar_4cfef 10 = .ok (.if_icmp .ge 21, 3) := by decide +kernel
theorem dJ1_indexOfChar_4cfef_13 : decode cJ1_indexOfChar_4cfef 13 = .ok (.aload_n 0, 1) := by decide +kernel
theorem dJ1_indexOfChar_4cfef_14 : decode cJ1_indexOfChar_4cfef 14 = .ok (.iload 5, 2) := by decide +kernel
theorem dJ1_indexOfChar_4cfef_16 : decode cJ1_indexOfChar_4cfef 16 = .ok (.baload, 1) := by decide +kernel
theorem dJ1_indexOfChar_4cfef_17 : decode cJ1_indexOfChar_4cfef 17 = .ok (.iload 4, 2) := by decide +kernel
theorem dJ1_indexOfChar_4cfef_19 : decode cJ1_indexOfChar_4cfef 19 = .ok (.if_icmp .ne 6, 3) := by decide +kernel
theorem dJ1_indexOfChar_4cfef_22 : decode cJ1_indexOfChar_4cfef 22 = .ok (.iload 5, 2) := by decide +kernel
theorem dJ1_indexOfChar_4cfef_24 : decode cJ1_indexOfChar_4cfef 24 = .ok (.ireturn, 1) := by decide +kernel
theorem dJ1_indexOfChar_4cfef_25 : decode cJ1_indexOfChar_4cfef 25 = .ok (.iinc 5 1, 3) := by decide +kernel
theorem dJ1_indexOfChar_4cfef_28 : decode cJ1_indexOfChar_4cfef 28 = .ok (.goto (-21), 3) := by decide +kernel
theorem dJ1_indexOfChar_4cfef_31 : decode cJ1_indexOfChar_4cfef 31 = .ok (.iconst (-1), 1) := by decide +kernel
theorem dJ1_indexOfChar_4cfef_32 : decode cJ1_indexOfChar_4cfef 32 = .ok (.ireturn, 1) := by decide +kernel
theorem dJ0_length_8abf5_0 : decode cJ0_length_8abf5 0 = .ok (.aload_n 0, 1) := by decide +kernel
theorem dJ0_length_8abf5_1 : decode cJ0_length_8abf5 1 = .ok (.getfield 9, 3) := by decide +kernel
theorem dJ0_length_8abf5_4 : decode cJ0_length_8abf5 4 = .ok (.arraylength, 1) := by decide +kernel
theorem dJ0_length_8abf5_5 : decode cJ0_length_8abf5 5 = .ok (.aload_n 0, 1) := by decide +kernel
theorem dJ0_length_8abf5_6 : decode cJ0_length_8abf5 6 = .ok (.invokevirtual 335, 3) := by decide +kernel
theorem dJ0_length_8abf5_9 : decode cJ0_length_8abf5 9 = .ok (.ishr, 1) := by decide +kernel
theorem dJ0_length_8abf5_10 : decode cJ0_length_8abf5 10 = .ok (.ireturn, 1) := by decide +kernel
theorem dJ0_charAt_5068e_0 : decode cJ0_charAt_5068e 0 = .ok (.aload_n 0, 1) := by decide +kernel
theorem dJ0_charAt_5068e_1 : decode cJ0_charAt_5068e 1 = .ok (.invokevirtual 492, 3) := by decide +kernel
theorem dJ0_charAt_5068e_4 : decode cJ0_charAt_5068e 4 = .ok (.ifCond .eq 12, 3) := by decide +kernel
theorem dJ0_charAt_5068e_7 : decode cJ0_charAt_5068e 7 = .ok (.aload_n 0, 1) := by decide +kernel
theorem dJ0_charAt_5068e_8 : decode cJ0_charAt_5068e 8 = .ok (.getfield 9, 3) := by decide +kernel
theorem dJ0_charAt_5068e_11 : decode cJ0_charAt_5068e 11 = .ok (.iload_n 1, 1) := by decide +kernel
theorem dJ0_charAt_5068e_12 : decode cJ0_charAt_5068e 12 = .ok (.invokestatic 495, 3) := by decide +kernel
theorem dJ0_charAt_5068e_15 : decode cJ0_charAt_5068e 15 = .ok (.ireturn, 1) := by decide +kernel
theorem dJ0_charAt_5068e_16 : decode cJ0_charAt_5068e 16 = .ok (.aload_n 0, 1) := by decide +kernel
theorem dJ0_charAt_5068e_17 : decode cJ0_charAt_5068e 17 = .ok (.getfield 9, 3) := by decide +kernel
theorem dJ0_charAt_5068e_20 : decode cJ0_charAt_5068e 20 = .ok (.iload_n 1, 1) := by decide +kernel
theorem dJ0_charAt_5068e_21 : decode cJ0_charAt_5068e 21 = .ok (.invokestatic 498, 3) := by decide +kernel
theorem dJ0_charAt_5068e_24 : decode cJ0_charAt_5068e 24 = .ok (.ireturn, 1) := by decide +kernel
theorem dJ0_indexOf_0f7a4_0 : decode cJ0_indexOf_0f7a4 0 = .ok (.aload_n 0, 1) := by decide +kernel
theorem dJ0_indexOf_0f7a4_1 : decode cJ0_indexOf_0f7a4 1 = .ok (.iload_n 1, 1) := by decide +kernel
theorem dJ0_indexOf_0f7a4_2 : decode cJ0_indexOf_0f7a4 2 = .ok (.iconst 0, 1) := by decide +kernel
theorem dJ0_indexOf_0f7a4_3 : decode cJ0_indexOf_0f7a4 3 = .ok (.invokevirtual 633, 3) := by decide +kernel
theorem dJ0_indexOf_0f7a4_6 : decode cJ0_indexOf_0f7a4 6 = .ok (.ireturn, 1) := by decide +kernel
theorem dJ0_indexOf_7cf53_0 : decode cJ0_indexOf_7cf53 0 = .ok (.aload_n 0, 1) := by decide +kernel
theorem dJ0_indexOf_7cf53_1 : decode cJ0_indexOf_7cf53 1 = .ok (.invokevirtual 492, 3) := by decide +kernel
theorem dJ0_indexOf_7cf53_4 : decode cJ0_indexOf_7cf53 4 = .ok (.ifCond .eq 19, 3) := by decide +kernel
theorem dJ0_indexOf_7cf53_7 : decode cJ0_indexOf_7cf53 7 = .ok (.aload_n 0, 1) := by decide +kernel
theorem dJ0_indexOf_7cf53_8 : decode cJ0_indexOf_7cf53 8 = .ok (.getfield 9, 3) := by decide +kernel
theorem dJ0_indexOf_7cf53_11 : decode cJ0_indexOf_7cf53 11 = .ok (.iload_n 1, 1) := by decide +kernel
theorem dJ0_indexOf_7cf53_12 : decode cJ0_indexOf_7cf53 12 = .ok (.iload_n 2, 1) := by decide +kernel
theorem dJ0_indexOf_7cf53_13 : decode cJ0_indexOf_7cf53 13 = .ok (.aload_n 0, 1) := by decide +kernel
theorem dJ0_indexOf_7cf53_14 : decode cJ0_indexOf_7cf53 14 = .ok (.invokevirtual 505, 3) := by decide +kernel
theorem dJ0_indexOf_7cf53_17 : decode cJ0_indexOf_7cf53 17 = .ok (.invokestatic 637, 3) := by decide +kernel
theorem dJ0_indexOf_7cf53_20 : decode cJ0_indexOf_7cf53 20 = .ok (.goto 16, 3) := by decide +kernel
theorem dJ0_indexOf_7cf53_23 : decode cJ0_indexOf_7cf53 23 = .ok (.aload_n 0, 1) := by decide +kernel
theorem dJ0_indexOf_7cf53_24 : decode cJ0_indexOf_7cf53 24 = .ok (.getfield 9, 3) := by decide +kernel
theorem dJ0_indexOf_7cf53_27 : decode cJ0_indexOf_7cf53 27 = .ok (.iload_n 1, 1) := by decide +kernel
theorem dJ0_indexOf_7cf53_28 : decode cJ0_indexOf_7cf53 28 = .ok (.iload_n 2, 1) := by decide +kernel
theorem dJ0_indexOf_7cf53_29 : decode cJ0_indexOf_7cf53 29 = .ok (.aload_n 0, 1) := by decide +kernel
theorem dJ0_indexOf_7cf53_30 : decode cJ0_indexOf_7cf53 30 = .ok (.invokevirtual 505, 3) := by decide +kernel
theorem dJ0_indexOf_7cf53_33 : decode cJ0_indexOf_7cf53 33 = .ok (.invokestatic 640, 3) := by decide +kernel
theorem dJ0_indexOf_7cf53_36 : decode cJ0_indexOf_7cf53 36 = .ok (.ireturn, 1) := by decide +kernel
theorem dJ0_coder_7d493_0 : decode cJ0_coder_7d493 0 = .ok (.getstatic 38, 3) := by decide +kernel
theorem dJ0_coder_7d493_3 : decode cJ0_coder_7d493 3 = .ok (.ifCond .eq 10, 3) := by decide +kernel
theorem dJ0_coder_7d493_6 : decode cJ0_coder_7d493 6 = .ok (.aload_n 0, 1) := by decide +kernel
theorem dJ0_coder_7d493_7 : decode cJ0_coder_7d493 7 = .ok (.getfield 15, 3) := by decide +kernel
theorem dJ0_coder_7d493_10 : decode cJ0_coder_7d493 10 = .ok (.goto 4, 3) := by decide +kernel
theorem dJ0_coder_7d493_13 : decode cJ0_coder_7d493 13 = .ok (.iconst 1, 1) := by decide +kernel
theorem dJ0_coder_7d493_14 : decode cJ0_coder_7d493 14 = .ok (.ireturn, 1) := by decide +kernel
theorem dJ0_isLatin1_aae02_0 : decode cJ0_isLatin1_aae02 0 = .ok (.getstatic 38, 3) := by decide +kernel
theorem dJ0_isLatin1_aae02_3 : decode cJ0_isLatin1_aae02 3 = .ok (.ifCond .eq 14, 3) := by decide +kernel
theorem dJ0_isLatin1_aae02_6 : decode cJ0_isLatin1_aae02 6 = .ok (.aload_n 0, 1) := by decide +kernel
theorem dJ0_isLatin1_aae02_7 : decode cJ0_isLatin1_aae02 7 = .ok (.getfield 15, 3) := by decide +kernel
theorem dJ0_isLatin1_aae02_10 : decode cJ0_isLatin1_aae02 10 = .ok (.ifCond .ne 7, 3) := by decide +kernel
theorem dJ0_isLatin1_aae02_13 : decode cJ0_isLatin1_aae02 13 = .ok (.iconst 1, 1) := by decide +kernel
theorem dJ0_isLatin1_aae02_14 : decode cJ0_isLatin1_aae02 14 = .ok (.goto 4, 3) := by decide +kernel
theorem dJ0_isLatin1_aae02_17 : decode cJ0_isLatin1_aae02 17 = .ok (.iconst 0, 1) := by decide +kernel
theorem dJ0_isLatin1_aae02_18 : decode cJ0_isLatin1_aae02 18 = .ok (.ireturn, 1) := by decide +kernel
theorem dJ0_checkIndex_df160_0 : decode cJ0_checkIndex_df160 0 = .ok (.iload_n 0, 1) := by decide +kernel
theorem dJ0_checkIndex_df160_1 : decode cJ0_checkIndex_df160 1 = .ok (.iload_n 1, 1) := by decide +kernel
theorem dJ0_checkIndex_df160_2 : decode cJ0_checkIndex_df160 2 = .ok (.getstatic 1053, 3) := by decide +kernel
theorem dJ0_checkIndex_df160_5 : decode cJ0_checkIndex_df160 5 = .ok (.invokestatic 1059, 3) := by decide +kernel
theorem dJ0_checkIndex_df160_8 : decode cJ0_checkIndex_df160 8 = .ok (.pop, 1) := by decide +kernel
theorem dJ0_checkIndex_df160_9 : decode cJ0_checkIndex_df160 9 = .ok (.return_, 1) := by decide +kernel
theorem dX9_filled_0 : decode cX9_filled 0 = .ok (.iconst 0, 1) := by decide +kernel
theorem dX9_filled_1 : decode cX9_filled 1 = .ok (.istore_n 1, 1) := by decide +kernel
theorem dX9_filled_2 : decode cX9_filled 2 = .ok (.bipush 24, 2) := by decide +kernel
theorem dX9_filled_4 : decode cX9_filled 4 = .ok (.istore_n 2, 1) := by decide +kernel
theorem dX9_filled_5 : decode cX9_filled 5 = .ok (.iload_n 2, 1) := by decide +kernel
theorem dX9_filled_6 : decode cX9_filled 6 = .ok (.ifCond .lt 22, 3) := by decide +kernel
theorem dX9_filled_9 : decode cX9_filled 9 = .ok (.iload_n 0, 1) := by decide +kernel
theorem dX9_filled_10 : decode cX9_filled 10 = .ok (.iload_n 2, 1) := by decide +kernel
theorem dX9_filled_11 : decode cX9_filled 11 = .ok (.iushr, 1) := by decide +kernel
theorem dX9_filled_12 : decode cX9_filled 12 = .ok (.sipush 255, 3) := by decide +kernel
theorem dX9_filled_15 : decode cX9_filled 15 = .ok (.iand, 1) := by decide +kernel
theorem dX9_filled_16 : decode cX9_filled 16 = .ok (.ifCond .eq 6, 3) := by decide +kernel
theorem dX9_filled_19 : decode cX9_filled 19 = .ok (.iinc 1 1, 3) := by decide +kernel
theorem dX9_filled_22 : decode cX9_filled 22 = .ok (.iinc 2 (-8), 3) := by decide +kernel
theorem dX9_filled_25 : decode cX9_filled 25 = .ok (.goto (-20), 3) := by decide +kernel
theorem dX9_filled_28 : decode cX9_filled 28 = .ok (.iload_n 1, 1) := by decide +kernel
theorem dX9_filled_29 : decode cX9_filled 29 = .ok (.ireturn, 1) := by decide +kernel
theorem dX9_add_0 : decode cX9_add 0 = .ok (.bipush 24, 2) := by decide +kernel
theorem dX9_add_2 : decode cX9_add 2 = .ok (.istore_n 2, 1) := by decide +kernel
theorem dX9_add_3 : decode cX9_add 3 = .ok (.iload_n 2, 1) := by decide +kernel
theorem dX9_add_4 : decode cX9_add 4 = .ok (.ifCond .lt 53, 3) := by decide +kernel
theorem dX9_add_7 : decode cX9_add 7 = .ok (.iload_n 1, 1) := by decide +kernel
theorem dX9_add_8 : decode cX9_add 8 = .ok (.iload_n 2, 1) := by decide +kernel
theorem dX9_add_9 : decode cX9_add 9 = .ok (.iushr, 1) := by decide +kernel
theorem dX9_add_10 : decode cX9_add 10 = .ok (.sipush 255, 3) := by decide +kernel
theorem dX9_add_13 : decode cX9_add 13 = .ok (.iand, 1) := by decide +kernel
theorem dX9_add_14 : decode cX9_add 14 = .ok (.istore_n 3, 1) := by decide +kernel
theorem dX9_add_15 : decode cX9_add 15 = .ok (.iload_n 3, 1) := by decide +kernel
theorem dX9_add_16 : decode cX9_add 16 = .ok (.ifCond .eq 35, 3) := by decide +kernel
theorem dX9_add_19 : decode cX9_add 19 = .ok (.aload_n 0, 1) := by decide +kernel
theorem dX9_add_20 : decode cX9_add 20 = .ok (.getfield 15, 3) := by decide +kernel
theorem dX9_add_23 : decode cX9_add 23 = .ok (.aload_n 0, 1) := by decide +kernel
theorem dX9_add_24 : decode cX9_add 24 = .ok (.getfield 11, 3) := by decide +kernel
theorem dX9_add_27 : decode cX9_add 27 = .ok (.arraylength, 1) := by decide +kernel
theorem dX9_add_28 : decode cX9_add 28 = .ok (.if_icmp .ge 23, 3) := by decide +kernel
theorem dX9_add_31 : decode cX9_add 31 = .ok (.aload_n 0, 1) := by decide +kernel
theorem dX9_add_32 : decode cX9_add 32 = .ok (.getfield 11, 3) := by decide +kernel
theorem dX9_add_35 : decode cX9_add 35 = .ok (.aload_n 0, 1) := by decide +kernel
theorem dX9_add_36 : decode cX9_add 36 = .ok (.getfield 15, 3) := by decide +kernel
theorem dX9_add_39 : decode cX9_add 39 = .ok (.iload_n 3, 1) := by decide +kernel
theorem dX9_add_40 : decode cX9_add 40 = .ok (.iastore, 1) := by decide +kernel
theorem dX9_add_41 : decode cX9_add 41 = .ok (.aload_n 0, 1) := by decide +kernel
theorem dX9_add_42 : decode cX9_add 42 = .ok (.dup, 1) := by decide +kernel
theorem dX9_add_43 : decode cX9_add 43 = .ok (.getfield 15, 3) := by decide +kernel
theorem dX9_add_46 : decode cX9_add 46 = .ok (.iconst 1, 1) := by decide +kernel
theorem dX9_add_47 : decode cX9_add 47 = .ok (.iadd, 1) := by decide +kernel
theorem dX9_add_48 : decode cX9_add 48 = .ok (.putfield 15, 3) := by decide +kernel
theorem dX9_add_51 : decode cX9_add 51 = .ok (.iinc 2 (-8), 3) := by decide +kernel
theorem dX9_add_54 : decode cX9_add 54 = .ok (.goto (-51), 3) := by decide +kernel
theorem dX9_add_57 : decode cX9_add 57 = .ok (.return_, 1) := by decide +kernel
theorem dX9_cut_0 : decode cX9_cut 0 = .ok (.aload_n 0, 1) := by decide +kernel
theorem dX9_cut_1 : decode cX9_cut 1 = .ok (.iload_n 1, 1) := by decide +kernel
theorem dX9_cut_2 : decode cX9_cut 2 = .ok (.putfield 15, 3) := by decide +kernel
theorem dX9_cut_5 : decode cX9_cut 5 = .ok (.return_, 1) := by decide +kernel
theorem dX9_size_0 : decode cX9_size 0 = .ok (.aload_n 0, 1) := by decide +kernel
theorem dX9_size_1 : decode cX9_size 1 = .ok (.getfield 15, 3) := by decide +kernel
theorem dX9_size_4 : decode cX9_size 4 = .ok (.ireturn, 1) := by decide +kernel
theorem dX9_at_0 : decode cX9_at 0 = .ok (.iload_n 1, 1) := by decide +kernel
theorem dX9_at_1 : decode cX9_at 1 = .ok (.ifCond .lt 29, 3) := by decide +kernel
theorem dX9_at_4 : decode cX9_at 4 = .ok (.iload_n 1, 1) := by decide +kernel
theorem dX9_at_5 : decode cX9_at 5 = .ok (.aload_n 0, 1) := by decide +kernel
theorem dX9_at_6 : decode cX9_at 6 = .ok (.getfield 15, 3) := by decide +kernel
theorem dX9_at_9 : decode cX9_at 9 = .ok (.if_icmp .ge 21, 3) := by decide +kernel
theorem dX9_at_12 : decode cX9_at 12 = .ok (.iload_n 1, 1) := by decide +kernel
theorem dX9_at_13 : decode cX9_at 13 = .ok (.aload_n 0, 1) := by decide +kernel
theorem dX9_at_14 : decode cX9_at 14 = .ok (.getfield 11, 3) := by decide +kernel
theorem dX9_at_17 : decode cX9_at 17 = .ok (.arraylength, 1) := by decide +kernel
theorem dX9_at_18 : decode cX9_at 18 = .ok (.if_icmp .ge 12, 3) := by decide +kernel
theorem dX9_at_21 : decode cX9_at 21 = .ok (.aload_n 0, 1) := by decide +kernel
theorem dX9_at_22 : decode cX9_at 22 = .ok (.getfield 11, 3) := by decide +kernel
theorem dX9_at_25 : decode cX9_at 25 = .ok (.iload_n 1, 1) := by decide +kernel
theorem dX9_at_26 : decode cX9_at 26 = .ok (.iaload, 1) := by decide +kernel
theorem dX9_at_27 : decode cX9_at 27 = .ok (.goto 4, 3) := by decide +kernel
theorem dX9_at_30 : decode cX9_at 30 = .ok (.iconst (-1), 1) := by decide +kernel
theorem dX9_at_31 : decode cX9_at 31 = .ok (.ireturn, 1) := by decide +kernel
theorem dX2_begin_0 : decode cX2_begin 0 = .ok (.aload_n 0, 1) := by decide +kernel
theorem dX2_begin_1 : decode cX2_begin 1 = .ok (.iconst 0, 1) := by decide +kernel
theorem dX2_begin_2 : decode cX2_begin 2 = .ok (.putfield 15, 3) := by decide +kernel
theorem dX2_begin_5 : decode cX2_begin 5 = .ok (.aload_n 0, 1) := by decide +kernel
theorem dX2_begin_6 : decode cX2_begin 6 = .ok (.iconst (-1), 1) := by decide +kernel
theorem dX2_begin_7 : decode cX2_begin 7 = .ok (.putfield 19, 3) := by decide +kernel
theorem dX2_begin_10 : decode cX2_begin 10 = .ok (.return_, 1) := by decide +kernel
theorem dX2_wrongAt_0 : decode cX2_wrongAt 0 = .ok (.aload_n 0, 1) := by decide +kernel
theorem dX2_wrongAt_1 : decode cX2_wrongAt 1 = .ok (.getfield 19, 3) := by decide +kernel
theorem dX2_wrongAt_4 : decode cX2_wrongAt 4 = .ok (.ireturn, 1) := by decide +kernel
theorem dX2_hasFailed_0 : decode cX2_hasFailed 0 = .ok (.aload_n 0, 1) := by decide +kernel
theorem dX2_hasFailed_1 : decode cX2_hasFailed 1 = .ok (.getfield 19, 3) := by decide +kernel
theorem dX2_hasFailed_4 : decode cX2_hasFailed 4 = .ok (.iconst (-1), 1) := by decide +kernel
theorem dX2_hasFailed_5 : decode cX2_hasFailed 5 = .ok (.if_icmp .eq 7, 3) := by decide +kernel
theorem dX2_hasFailed_8 : decode cX2_hasFailed 8 = .ok (.iconst 1, 1) := by decide +kernel
theorem dX2_hasFailed_9 : decode cX2_hasFailed 9 = .ok (.goto 4, 3) := by decide +kernel
theorem dX2_hasFailed_12 : decode cX2_hasFailed 12 = .ok (.iconst 0, 1) := by decide +kernel
theorem dX2_hasFailed_13 : decode cX2_hasFailed 13 = .ok (.ireturn, 1) := by decide +kernel
theorem dX2_failAt_0 : decode cX2_failAt 0 = .ok (.aload_n 0, 1) := by decide +kernel
theorem dX2_failAt_1 : decode cX2_failAt 1 = .ok (.getfield 19, 3) := by decide +kernel
theorem dX2_failAt_4 : decode cX2_failAt 4 = .ok (.iconst (-1), 1) := by decide +kernel
theorem dX2_failAt_5 : decode cX2_failAt 5 = .ok (.if_icmp .ne 8, 3) := by decide +kernel
theorem dX2_failAt_8 : decode cX2_failAt 8 = .ok (.aload_n 0, 1) := by decide +kernel
theorem dX2_failAt_9 : decode cX2_failAt 9 = .ok (.iload_n 1, 1) := by decide +kernel
theorem dX2_failAt_10 : decode cX2_failAt 10 = .ok (.putfield 19, 3) := by decide +kernel
theorem dX2_failAt_13 : decode cX2_failAt 13 = .ok (.return_, 1) := by decide +kernel
theorem dX2_fail_0 : decode cX2_fail 0 = .ok (.aload_n 0, 1) := by decide +kernel
theorem dX2_fail_1 : decode cX2_fail 1 = .ok (.aload_n 0, 1) := by decide +kernel
theorem dX2_fail_2 : decode cX2_fail 2 = .ok (.getfield 15, 3) := by decide +kernel
theorem dX2_fail_5 : decode cX2_fail 5 = .ok (.invokevirtual 22, 3) := by decide +kernel
theorem dX2_fail_8 : decode cX2_fail 8 = .ok (.return_, 1) := by decide +kernel
theorem dX2_failAtLastDigit_0 : decode cX2_failAtLastDigit 0 = .ok (.aload_n 0, 1) := by decide +kernel
theorem dX2_failAtLastDigit_1 : decode cX2_failAtLastDigit 1 = .ok (.aload_n 0, 1) := by decide +kernel
theorem dX2_failAtLastDigit_2 : decode cX2_failAtLastDigit 2 = .ok (.getfield 15, 3) := by decide +kernel
theorem dX2_failAtLastDigit_5 : decode cX2_failAtLastDigit 5 = .ok (.iconst 1, 1) := by decide +kernel
theorem dX2_failAtLastDigit_6 : decode cX2_failAtLastDigit 6 = .ok (.isub, 1) := by decide +kernel
theorem dX2_failAtLastDigit_7 : decode cX2_failAtLastDigit 7 = .ok (.invokevirtual 22, 3) := by decide +kernel
theorem dX2_failAtLastDigit_10 : decode cX2_failAtLastDigit 10 = .ok (.return_, 1) := by decide +kernel
theorem dX2_peek_0 : decode cX2_peek 0 = .ok (.aload_n 0, 1) := by decide +kernel
theorem dX2_peek_1 : decode cX2_peek 1 = .ok (.invokevirtual 26, 3) := by decide +kernel
theorem dX2_peek_4 : decode cX2_peek 4 = .ok (.ifCond .eq 5, 3) := by decide +kernel
theorem dX2_peek_7 : decode cX2_peek 7 = .ok (.iconst (-1), 1) := by decide +kernel
theorem dX2_peek_8 : decode cX2_peek 8 = .ok (.ireturn, 1) := by decide +kernel
theorem dX2_peek_9 : decode cX2_peek 9 = .ok (.aload_n 0, 1) := by decide +kernel
theorem dX2_peek_10 : decode cX2_peek 10 = .ok (.getfield 15, 3) := by decide +kernel
theorem dX2_peek_13 : decode cX2_peek 13 = .ok (.aload_n 0, 1) := by decide +kernel
theorem dX2_peek_14 : decode cX2_peek 14 = .ok (.getfield 9, 3) := by decide +kernel
theorem dX2_peek_17 : decode cX2_peek 17 = .ok (.invokevirtual 30, 3) := by decide +kernel
theorem dX2_peek_20 : decode cX2_peek 20 = .ok (.if_icmp .ge 32, 3) := by decide +kernel
theorem dX2_peek_23 : decode cX2_peek 23 = .ok (.aload_n 0, 1) := by decide +kernel
theorem dX2_peek_24 : decode cX2_peek 24 = .ok (.getfield 9, 3) := by decide +kernel
theorem dX2_peek_27 : decode cX2_peek 27 = .ok (.aload_n 0, 1) := by decide +kernel
theorem dX2_peek_28 : decode cX2_peek 28 = .ok (.getfield 15, 3) := by decide +kernel
theorem dX2_peek_31 : decode cX2_peek 31 = .ok (.invokevirtual 36, 3) := by decide +kernel
theorem dX2_peek_34 : decode cX2_peek 34 = .ok (.bipush 32, 2) := by decide +kernel
theorem dX2_peek_36 : decode cX2_peek 36 = .ok (.if_icmp .ne 16, 3) := by decide +kernel
theorem dX2_peek_39 : decode cX2_peek 39 = .ok (.aload_n 0, 1) := by decide +kernel
theorem dX2_peek_40 : decode cX2_peek 40 = .ok (.dup, 1) := by decide +kernel
theorem dX2_peek_41 : decode cX2_peek 41 = .ok (.getfield 15, 3) := by decide +kernel
theorem dX2_peek_44 : decode cX2_peek 44 = .ok (.iconst 1, 1) := by decide +kernel
theorem dX2_peek_45 : decode cX2_peek 45 = .ok (.iadd, 1) := by decide +kernel
theorem dX2_peek_46 : decode cX2_peek 46 = .ok (.putfield 15, 3) := by decide +kernel
theorem dX2_peek_49 : decode cX2_peek 49 = .ok (.goto (-40), 3) := by decide +kernel
theorem dX2_peek_52 : decode cX2_peek 52 = .ok (.aload_n 0, 1) := by decide +kernel
theorem dX2_peek_53 : decode cX2_peek 53 = .ok (.getfield 9, 3) := by decide +kernel
theorem dX2_peek_56 : decode cX2_peek 56 = .ok (.aload_n 0, 1) := by decide +kernel
theorem dX2_peek_57 : decode cX2_peek 57 = .ok (.getfield 15, 3) := by decide +kernel
theorem dX2_peek_60 : decode cX2_peek 60 = .ok (.invokevirtual 36, 3) := by decide +kernel
theorem dX2_peek_63 : decode cX2_peek 63 = .ok (.ireturn, 1) := by decide +kernel
theorem dX2_step_0 : decode cX2_step 0 = .ok (.aload_n 0, 1) := by decide +kernel
theorem dX2_step_1 : decode cX2_step 1 = .ok (.dup, 1) := by decide +kernel
theorem dX2_step_2 : decode cX2_step 2 = .ok (.getfield 15, 3) := by decide +kernel
theorem dX2_step_5 : decode cX2_step 5 = .ok (.iconst 1, 1) := by decide +kernel
theorem dX2_step_6 : decode cX2_step 6 = .ok (.iadd, 1) := by decide +kernel
theorem dX2_step_7 : decode cX2_step 7 = .ok (.putfield 15, 3) := by decide +kernel
theorem dX2_step_10 : decode cX2_step 10 = .ok (.return_, 1) := by decide +kernel
theorem dX2_takes_0 : decode cX2_takes 0 = .ok (.aload_n 0, 1) := by decide +kernel
theorem dX2_takes_1 : decode cX2_takes 1 = .ok (.invokevirtual 40, 3) := by decide +kernel
theorem dX2_takes_4 : decode cX2_takes 4 = .ok (.iload_n 1, 1) := by decide +kernel
theorem dX2_takes_5 : decode cX2_takes 5 = .ok (.if_icmp .eq 5, 3) := by decide +kernel
theorem dX2_takes_8 : decode cX2_takes 8 = .ok (.iconst 0, 1) := by decide +kernel
theorem dX2_takes_9 : decode cX2_takes 9 = .ok (.ireturn, 1) := by decide +kernel
theorem dX2_takes_10 : decode cX2_takes 10 = .ok (.aload_n 0, 1) := by decide +kernel
theorem dX2_takes_11 : decode cX2_takes 11 = .ok (.invokevirtual 43, 3) := by decide +kernel
theorem dX2_takes_14 : decode cX2_takes 14 = .ok (.iconst 1, 1) := by decide +kernel
theorem dX2_takes_15 : decode cX2_takes 15 = .ok (.ireturn, 1) := by decide +kernel
theorem dX2_needs_0 : decode cX2_needs 0 = .ok (.aload_n 0, 1) := by decide +kernel
theorem dX2_needs_1 : decode cX2_needs 1 = .ok (.invokevirtual 40, 3) := by decide +kernel
theorem dX2_needs_4 : decode cX2_needs 4 = .ok (.iload_n 1, 1) := by decide +kernel
theorem dX2_needs_5 : decode cX2_needs 5 = .ok (.if_icmp .ne 10, 3) := by decide +kernel
theorem dX2_needs_8 : decode cX2_needs 8 = .ok (.aload_n 0, 1) := by decide +kernel
theorem dX2_needs_9 : decode cX2_needs 9 = .ok (.invokevirtual 43, 3) := by decide +kernel
theorem dX2_needs_12 : decode cX2_needs 12 = .ok (.goto 7, 3) := by decide +kernel
theorem dX2_needs_15 : decode cX2_needs 15 = .ok (.aload_n 0, 1) := by decide +kernel
theorem dX2_needs_16 : decode cX2_needs 16 = .ok (.invokevirtual 46, 3) := by decide +kernel
theorem dX2_needs_19 : decode cX2_needs 19 = .ok (.return_, 1) := by decide +kernel
theorem dX2_needsEnd_0 : decode cX2_needsEnd 0 = .ok (.aload_n 0, 1) := by decide +kernel
theorem dX2_needsEnd_1 : decode cX2_needsEnd 1 = .ok (.invokevirtual 40, 3) := by decide +kernel
theorem dX2_needsEnd_4 : decode cX2_needsEnd 4 = .ok (.iconst (-1), 1) := by decide +kernel
theorem dX2_needsEnd_5 : decode cX2_needsEnd 5 = .ok (.if_icmp .eq 7, 3) := by decide +kernel
theorem dX2_needsEnd_8 : decode cX2_needsEnd 8 = .ok (.aload_n 0, 1) := by decide +kernel
theorem dX2_needsEnd_9 : decode cX2_needsEnd 9 = .ok (.invokevirtual 46, 3) := by decide +kernel
theorem dX2_needsEnd_12 : decode cX2_needsEnd 12 = .ok (.return_, 1) := by decide +kernel
theorem dX2_isDigit_0 : decode cX2_isDigit 0 = .ok (.iload_n 0, 1) := by decide +kernel
theorem dX2_isDigit_1 : decode cX2_isDigit 1 = .ok (.bipush 48, 2) := by decide +kernel
theorem dX2_isDigit_3 : decode cX2_isDigit 3 = .ok (.if_icmp .lt 13, 3) := by decide +kernel
theorem dX2_isDigit_6 : decode cX2_isDigit 6 = .ok (.iload_n 0, 1) := by decide +kernel
theorem dX2_isDigit_7 : decode cX2_isDigit 7 = .ok (.bipush 57, 2) := by decide +kernel
theorem dX2_isDigit_9 : decode cX2_isDigit 9 = .ok (.if_icmp .gt 7, 3) := by decide +kernel
theorem dX2_isDigit_12 : decode cX2_isDigit 12 = .ok (.iconst 1, 1) := by decide +kernel
theorem dX2_isDigit_13 : decode cX2_isDigit 13 = .ok (.goto 4, 3) := by decide +kernel
theorem dX2_isDigit_16 : decode cX2_isDigit 16 = .ok (.iconst 0, 1) := by decide +kernel
theorem dX2_isDigit_17 : decode cX2_isDigit 17 = .ok (.ireturn, 1) := by decide +kernel
theorem dX2_number_0 : decode cX2_number 0 = .ok (.aload_n 0, 1) := by decide +kernel
theorem dX2_number_1 : decode cX2_number 1 = .ok (.invokevirtual 40, 3) := by decide +kernel
theorem dX2_number_4 : decode cX2_number 4 = .ok (.invokestatic 49, 3) := by decide +kernel
theorem dX2_number_7 : decode cX2_number 7 = .ok (.ifCond .ne 9, 3) := by decide +kernel
theorem dX2_number_10 : decode cX2_number 10 = .ok (.aload_n 0, 1) := by decide +kernel
theorem dX2_number_11 : decode cX2_number 11 = .ok (.invokevirtual 46, 3) := by decide +kernel
theorem dX2_number_14 : decode cX2_number 14 = .ok (.iconst 0, 1) := by decide +kernel
theorem dX2_number_15 : decode cX2_number 15 = .ok (.ireturn, 1) := by decide +kernel
theorem dX2_number_16 : decode cX2_number 16 = .ok (.iconst 0, 1) := by decide +kernel
theorem dX2_number_17 : decode cX2_number 17 = .ok (.istore_n 2, 1) := by decide +kernel
theorem dX2_number_18 : decode cX2_number 18 = .ok (.iconst 0, 1) := by decide +kernel
theorem dX2_number_19 : decode cX2_number 19 = .ok (.istore_n 3, 1) := by decide +kernel
theorem dX2_number_20 : decode cX2_number 20 = .ok (.iload_n 3, 1) := by decide +kernel
theorem dX2_number_21 : decode cX2_number 21 = .ok (.iload_n 1, 1) := by decide +kernel
theorem dX2_number_22 : decode cX2_number 22 = .ok (.if_icmp .ge 56, 3) := by decide +kernel
theorem dX2_number_25 : decode cX2_number 25 = .ok (.aload_n 0, 1) := by decide +kernel
theorem dX2_number_26 : decode cX2_number 26 = .ok (.getfield 9, 3) := by decide +kernel
theorem dX2_number_29 : decode cX2_number 29 = .ok (.aload_n 0, 1) := by decide +kernel
theorem dX2_number_30 : decode cX2_number 30 = .ok (.getfield 15, 3) := by decide +kernel
theorem dX2_number_33 : decode cX2_number 33 = .ok (.invokevirtual 36, 3) := by decide +kernel
theorem dX2_number_36 : decode cX2_number 36 = .ok (.invokestatic 49, 3) := by decide +kernel
theorem dX2_number_39 : decode cX2_number 39 = .ok (.ifCond .eq 39, 3) := by decide +kernel
theorem dX2_number_42 : decode cX2_number 42 = .ok (.iload_n 2, 1) := by decide +kernel
theorem dX2_number_43 : decode cX2_number 43 = .ok (.bipush 10, 2) := by decide +kernel
theorem dX2_number_45 : decode cX2_number 45 = .ok (.imul, 1) := by decide +kernel
theorem dX2_number_46 : decode cX2_number 46 = .ok (.aload_n 0, 1) := by decide +kernel
theorem dX2_number_47 : decode cX2_number 47 = .ok (.getfield 9, 3) := by decide +kernel
theorem dX2_number_50 : decode cX2_number 50 = .ok (.aload_n 0, 1) := by decide +kernel
theorem dX2_number_51 : decode cX2_number 51 = .ok (.getfield 15, 3) := by decide +kernel
theorem dX2_number_54 : decode cX2_number 54 = .ok (.invokevirtual 36, 3) := by decide +kernel
theorem dX2_number_57 : decode cX2_number 57 = .ok (.iadd, 1) := by decide +kernel
theorem dX2_number_58 : decode cX2_number 58 = .ok (.bipush 48, 2) := by decide +kernel
theorem dX2_number_60 : decode cX2_number 60 = .ok (.isub, 1) := by decide +kernel
theorem dX2_number_61 : decode cX2_number 61 = .ok (.istore_n 2, 1) := by decide +kernel
theorem dX2_number_62 : decode cX2_number 62 = .ok (.aload_n 0, 1) := by decide +kernel
theorem dX2_number_63 : decode cX2_number 63 = .ok (.dup, 1) := by decide +kernel
theorem dX2_number_64 : decode cX2_number 64 = .ok (.getfield 15, 3) := by decide +kernel
theorem dX2_number_67 : decode cX2_number 67 = .ok (.iconst 1, 1) := by decide +kernel
theorem dX2_number_68 : decode cX2_number 68 = .ok (.iadd, 1) := by decide +kernel
theorem dX2_number_69 : decode cX2_number 69 = .ok (.putfield 15, 3) := by decide +kernel
theorem dX2_number_72 : decode cX2_number 72 = .ok (.iinc 3 1, 3) := by decide +kernel
theorem dX2_number_75 : decode cX2_number 75 = .ok (.goto (-55), 3) := by decide +kernel
theorem dX2_number_78 : decode cX2_number 78 = .ok (.aload_n 0, 1) := by decide +kernel
theorem dX2_number_79 : decode cX2_number 79 = .ok (.getfield 9, 3) := by decide +kernel
theorem dX2_number_82 : decode cX2_number 82 = .ok (.aload_n 0, 1) := by decide +kernel
theorem dX2_number_83 : decode cX2_number 83 = .ok (.getfield 15, 3) := by decide +kernel
theorem dX2_number_86 : decode cX2_number 86 = .ok (.invokevirtual 36, 3) := by decide +kernel
theorem dX2_number_89 : decode cX2_number 89 = .ok (.invokestatic 49, 3) := by decide +kernel
theorem dX2_number_92 : decode cX2_number 92 = .ok (.ifCond .eq 7, 3) := by decide +kernel
theorem dX2_number_95 : decode cX2_number 95 = .ok (.aload_n 0, 1) := by decide +kernel
theorem dX2_number_96 : decode cX2_number 96 = .ok (.invokevirtual 46, 3) := by decide +kernel
theorem dX2_number_99 : decode cX2_number 99 = .ok (.iload_n 2, 1) := by decide +kernel
theorem dX2_number_100 : decode cX2_number 100 = .ok (.ireturn, 1) := by decide +kernel
theorem dX7_forgetAll_0 : decode cX7_forgetAll 0 = .ok (.aload_n 0, 1) := by decide +kernel
theorem dX7_forgetAll_1 : decode cX7_forgetAll 1 = .ok (.iconst 0, 1) := by decide +kernel
theorem dX7_forgetAll_2 : decode cX7_forgetAll 2 = .ok (.putfield 26, 3) := by decide +kernel
theorem dX7_forgetAll_5 : decode cX7_forgetAll 5 = .ok (.aload_n 0, 1) := by decide +kernel
theorem dX7_forgetAll_6 : decode cX7_forgetAll 6 = .ok (.iconst 0, 1) := by decide +kernel
theorem dX7_forgetAll_7 : decode cX7_forgetAll 7 = .ok (.putfield 30, 3) := by decide +kernel
theorem dX7_forgetAll_10 : decode cX7_forgetAll 10 = .ok (.return_, 1) := by decide +kernel
theorem dX7_acts_0 : decode cX7_acts 0 = .ok (.aload_n 0, 1) := by decide +kernel
theorem dX7_acts_1 : decode cX7_acts 1 = .ok (.getfield 26, 3) := by decide +kernel
theorem dX7_acts_4 : decode cX7_acts 4 = .ok (.ireturn, 1) := by decide +kernel
theorem dX7_remember_0 : decode cX7_remember 0 = .ok (.aload_n 1, 1) := by decide +kernel
theorem dX7_remember_1 : decode cX7_remember 1 = .ok (.aload_n 0, 1) := by decide +kernel
theorem dX7_remember_2 : decode cX7_remember 2 = .ok (.getfield 13, 3) := by decide +kernel
theorem dX7_remember_5 : decode cX7_remember 5 = .ok (.aload_n 0, 1) := by decide +kernel
theorem dX7_remember_6 : decode cX7_remember 6 = .ok (.getfield 34, 3) := by decide +kernel
theorem dX7_remember_9 : decode cX7_remember 9 = .ok (.bipush 100, 2) := by decide +kernel
theorem dX7_remember_11 : decode cX7_remember 11 = .ok (.imul, 1) := by decide +kernel
theorem dX7_remember_12 : decode cX7_remember 12 = .ok (.invokevirtual 37, 3) := by decide +kernel
theorem dX7_remember_15 : decode cX7_remember 15 = .ok (.aload_n 0, 1) := by decide +kernel
theorem dX7_remember_16 : decode cX7_remember 16 = .ok (.aload_n 0, 1) := by decide +kernel
theorem dX7_remember_17 : decode cX7_remember 17 = .ok (.getfield 34, 3) := by decide +kernel
theorem dX7_remember_20 : decode cX7_remember 20 = .ok (.iconst 1, 1) := by decide +kernel
theorem dX7_remember_21 : decode cX7_remember 21 = .ok (.iadd, 1) := by decide +kernel
theorem dX7_remember_22 : decode cX7_remember 22 = .ok (.bipush 40, 2) := by decide +kernel
theorem dX7_remember_24 : decode cX7_remember 24 = .ok (.irem, 1) := by decide +kernel
theorem dX7_remember_25 : decode cX7_remember 25 = .ok (.putfield 34, 3) := by decide +kernel
theorem dX7_remember_28 : decode cX7_remember 28 = .ok (.aload_n 0, 1) := by decide +kernel
theorem dX7_remember_29 : decode cX7_remember 29 = .ok (.aload_n 0, 1) := by decide +kernel
theorem dX7_remember_30 : decode cX7_remember 30 = .ok (.getfield 26, 3) := by decide +kernel
theorem dX7_remember_33 : decode cX7_remember 33 = .ok (.iconst 1, 1) := by decide +kernel
theorem dX7_remember_34 : decode cX7_remember 34 = .ok (.iadd, 1) := by decide +kernel
theorem dX7_remember_35 : decode cX7_remember 35 = .ok (.bipush 40, 2) := by decide +kernel
theorem dX7_remember_37 : decode cX7_remember 37 = .ok (.invokestatic 41, 3) := by decide +kernel
theorem dX7_remember_40 : decode cX7_remember 40 = .ok (.putfield 26, 3) := by decide +kernel
theorem dX7_remember_43 : decode cX7_remember 43 = .ok (.return_, 1) := by decide +kernel
theorem dX7_recall_0 : decode cX7_recall 0 = .ok (.aload_n 0, 1) := by decide +kernel
theorem dX7_recall_1 : decode cX7_recall 1 = .ok (.aload_n 0, 1) := by decide +kernel
theorem dX7_recall_2 : decode cX7_recall 2 = .ok (.getfield 34, 3) := by decide +kernel
theorem dX7_recall_5 : decode cX7_recall 5 = .ok (.bipush 40, 2) := by decide +kernel
theorem dX7_recall_7 : decode cX7_recall 7 = .ok (.iadd, 1) := by decide +kernel
theorem dX7_recall_8 : decode cX7_recall 8 = .ok (.iconst 1, 1) := by decide +kernel
theorem dX7_recall_9 : decode cX7_recall 9 = .ok (.isub, 1) := by decide +kernel
theorem dX7_recall_10 : decode cX7_recall 10 = .ok (.bipush 40, 2) := by decide +kernel
theorem dX7_recall_12 : decode cX7_recall 12 = .ok (.irem, 1) := by decide +kernel
theorem dX7_recall_13 : decode cX7_recall 13 = .ok (.putfield 34, 3) := by decide +kernel
theorem dX7_recall_16 : decode cX7_recall 16 = .ok (.aload_n 0, 1) := by decide +kernel
theorem dX7_recall_17 : decode cX7_recall 17 = .ok (.dup, 1) := by decide +kernel
theorem dX7_recall_18 : decode cX7_recall 18 = .ok (.getfield 26, 3) := by decide +kernel
theorem dX7_recall_21 : decode cX7_recall 21 = .ok (.iconst 1, 1) := by decide +kernel
theorem dX7_recall_22 : decode cX7_recall 22 = .ok (.isub, 1) := by decide +kernel
theorem dX7_recall_23 : decode cX7_recall 23 = .ok (.putfield 26, 3) := by decide +kernel
theorem dX7_recall_26 : decode cX7_recall 26 = .ok (.aload_n 1, 1) := by decide +kernel
theorem dX7_recall_27 : decode cX7_recall 27 = .ok (.aload_n 0, 1) := by decide +kernel
theorem dX7_recall_28 : decode cX7_recall 28 = .ok (.getfield 13, 3) := by decide +kernel
theorem dX7_recall_31 : decode cX7_recall 31 = .ok (.aload_n 0, 1) := by decide +kernel
theorem dX7_recall_32 : decode cX7_recall 32 = .ok (.getfield 34, 3) := by decide +kernel
theorem dX7_recall_35 : decode cX7_recall 35 = .ok (.bipush 100, 2) := by decide +kernel
theorem dX7_recall_37 : decode cX7_recall 37 = .ok (.imul, 1) := by decide +kernel
theorem dX7_recall_38 : decode cX7_recall 38 = .ok (.invokevirtual 47, 3) := by decide +kernel
theorem dX7_recall_41 : decode cX7_recall 41 = .ok (.return_, 1) := by decide +kernel
theorem dX7_logLength_0 : decode cX7_logLength 0 = .ok (.aload_n 1, 1) := by decide +kernel
theorem dX7_logLength_1 : decode cX7_logLength 1 = .ok (.bipush 97, 2) := by decide +kernel
theorem dX7_logLength_3 : decode cX7_logLength 3 = .ok (.invokevirtual 50, 3) := by decide +kernel
theorem dX7_logLength_6 : decode cX7_logLength 6 = .ok (.bipush 60, 2) := by decide +kernel
theorem dX7_logLength_8 : decode cX7_logLength 8 = .ok (.invokestatic 41, 3) := by decide +kernel
theorem dX7_logLength_11 : decode cX7_logLength 11 = .ok (.ireturn, 1) := by decide +kernel
theorem dX7_write_0 : decode cX7_write 0 = .ok (.aload_n 1, 1) := by decide +kernel
theorem dX7_write_1 : decode cX7_write 1 = .ok (.bipush 97, 2) := by decide +kernel
theorem dX7_write_3 : decode cX7_write 3 = .ok (.invokevirtual 50, 3) := by decide +kernel
theorem dX7_write_6 : decode cX7_write 6 = .ok (.invokestatic 54, 3) := by decide +kernel
theorem dX7_write_9 : decode cX7_write 9 = .ok (.istore 4, 2) := by decide +kernel
theorem dX7_write_11 : decode cX7_write 11 = .ok (.iload 4, 2) := by decide +kernel
theorem dX7_write_13 : decode cX7_write 13 = .ok (.ifCond .lt 46, 3) := by decide +kernel
theorem dX7_write_16 : decode cX7_write 16 = .ok (.iload 4, 2) := by decide +kernel
theorem dX7_write_18 : decode cX7_write 18 = .ok (.aload_n 0, 1) := by decide +kernel
theorem dX7_write_19 : decode cX7_write 19 = .ok (.getfield 17, 3) := by decide +kernel
theorem dX7_write_22 : decode cX7_write 22 = .ok (.arraylength, 1) := by decide +kernel
theorem dX7_write_23 : decode cX7_write 23 = .ok (.iconst 3, 1) := by decide +kernel
theorem dX7_write_24 : decode cX7_write 24 = .ok (.isub, 1) := by decide +kernel
theorem dX7_write_25 : decode cX7_write 25 = .ok (.if_icmp .gt 34, 3) := by decide +kernel
theorem dX7_write_28 : decode cX7_write 28 = .ok (.aload_n 0, 1) := by decide +kernel
theorem dX7_write_29 : decode cX7_write 29 = .ok (.getfield 17, 3) := by decide +kernel
theorem dX7_write_32 : decode cX7_write 32 = .ok (.iload 4, 2) := by decide +kernel
theorem dX7_write_34 : decode cX7_write 34 = .ok (.aload_n 1, 1) := by decide +kernel
theorem dX7_write_35 : decode cX7_write 35 = .ok (.invokevirtual 57, 3) := by decide +kernel
theorem dX7_write_38 : decode cX7_write 38 = .ok (.iastore, 1) := by decide +kernel
theorem dX7_write_39 : decode cX7_write 39 = .ok (.aload_n 0, 1) := by decide +kernel
theorem dX7_write_40 : decode cX7_write 40 = .ok (.getfield 17, 3) := by decide +kernel
theorem dX7_write_43 : decode cX7_write 43 = .ok (.iload 4, 2) := by decide +kernel
theorem dX7_write_45 : decode cX7_write 45 = .ok (.iconst 1, 1) := by decide +kernel
theorem dX7_write_46 : decode cX7_write 46 = .ok (.iadd, 1) := by decide +kernel
theorem dX7_write_47 : decode cX7_write 47 = .ok (.iload_n 2, 1) := by decide +kernel
theorem dX7_write_48 : decode cX7_write 48 = .ok (.iastore, 1) := by decide +kernel
theorem dX7_write_49 : decode cX7_write 49 = .ok (.aload_n 0, 1) := by decide +kernel
theorem dX7_write_50 : decode cX7_write 50 = .ok (.getfield 17, 3) := by decide +kernel
theorem dX7_write_53 : decode cX7_write 53 = .ok (.iload 4, 2) := by decide +kernel
theorem dX7_write_55 : decode cX7_write 55 = .ok (.iconst 2, 1) := by decide +kernel
theorem dX7_write_56 : decode cX7_write 56 = .ok (.iadd, 1) := by decide +kernel
theorem dX7_write_57 : decode cX7_write 57 = .ok (.iload_n 3, 1) := by decide +kernel
theorem dX7_write_58 : decode cX7_write 58 = .ok (.iastore, 1) := by decide +kernel
theorem dX7_write_59 : decode cX7_write 59 = .ok (.return_, 1) := by decide +kernel
theorem dX7_logged_0 : decode cX7_logged 0 = .ok (.iload_n 1, 1) := by decide +kernel
theorem dX7_logged_1 : decode cX7_logged 1 = .ok (.invokestatic 54, 3) := by decide +kernel
theorem dX7_logged_4 : decode cX7_logged 4 = .ok (.iload_n 2, 1) := by decide +kernel
theorem dX7_logged_5 : decode cX7_logged 5 = .ok (.iadd, 1) := by decide +kernel
theorem dX7_logged_6 : decode cX7_logged 6 = .ok (.istore_n 3, 1) := by decide +kernel
theorem dX7_logged_7 : decode cX7_logged 7 = .ok (.iload_n 3, 1) := by decide +kernel
theorem dX7_logged_8 : decode cX7_logged 8 = .ok (.ifCond .lt 21, 3) := by decide +kernel
theorem dX7_logged_11 : decode cX7_logged 11 = .ok (.iload_n 3, 1) := by decide +kernel
theorem dX7_logged_12 : decode cX7_logged 12 = .ok (.aload_n 0, 1) := by decide +kernel
theorem dX7_logged_13 : decode cX7_logged 13 = .ok (.getfield 17, 3) := by decide +kernel
theorem dX7_logged_16 : decode cX7_logged 16 = .ok (.arraylength, 1) := by decide +kernel
theorem dX7_logged_17 : decode cX7_logged 17 = .ok (.if_icmp .ge 12, 3) := by decide +kernel
theorem dX7_logged_20 : decode cX7_logged 20 = .ok (.aload_n 0, 1) := by decide +kernel
theorem dX7_logged_21 : decode cX7_logged 21 = .ok (.getfield 17, 3) := by decide +kernel
theorem dX7_logged_24 : decode cX7_logged 24 = .ok (.iload_n 3, 1) := by decide +kernel
theorem dX7_logged_25 : decode cX7_logged 25 = .ok (.iaload, 1) := by decide +kernel
theorem dX7_logged_26 : decode cX7_logged 26 = .ok (.goto 5, 3) := by decide +kernel
theorem dX7_logged_29 : decode cX7_logged 29 = .ok (.ldc 61, 2) := by decide +kernel
theorem dX7_logged_31 : decode cX7_logged 31 = .ok (.ireturn, 1) := by decide +kernel
theorem dX7_rowOf_0 : decode cX7_rowOf 0 = .ok (.iload_n 0, 1) := by decide +kernel
theorem dX7_rowOf_1 : decode cX7_rowOf 1 = .ok (.bipush 100, 2) := by decide +kernel
theorem dX7_rowOf_3 : decode cX7_rowOf 3 = .ok (.irem, 1) := by decide +kernel
theorem dX7_rowOf_4 : decode cX7_rowOf 4 = .ok (.iconst 3, 1) := by decide +kernel
theorem dX7_rowOf_5 : decode cX7_rowOf 5 = .ok (.imul, 1) := by decide +kernel
theorem dX7_rowOf_6 : decode cX7_rowOf 6 = .ok (.ireturn, 1) := by decide +kernel
theorem dX7_paint_0 : decode cX7_paint 0 = .ok (.aload_n 1, 1) := by decide +kernel
theorem dX7_paint_1 : decode cX7_paint 1 = .ok (.aload_n 0, 1) := by decide +kernel
theorem dX7_paint_2 : decode cX7_paint 2 = .ok (.getfield 20, 3) := by decide +kernel
theorem dX7_paint_5 : decode cX7_paint 5 = .ok (.iconst 0, 1) := by decide +kernel
theorem dX7_paint_6 : decode cX7_paint 6 = .ok (.invokevirtual 37, 3) := by decide +kernel
theorem dX7_paint_9 : decode cX7_paint 9 = .ok (.aload_n 0, 1) := by decide +kernel
theorem dX7_paint_10 : decode cX7_paint 10 = .ok (.getfield 17, 3) := by decide +kernel
theorem dX7_paint_13 : decode cX7_paint 13 = .ok (.iconst 0, 1) := by decide +kernel
theorem dX7_paint_14 : decode cX7_paint 14 = .ok (.aload_n 0, 1) := by decide +kernel
theorem dX7_paint_15 : decode cX7_paint 15 = .ok (.getfield 23, 3) := by decide +kernel
theorem dX7_paint_18 : decode cX7_paint 18 = .ok (.iconst 0, 1) := by decide +kernel
theorem dX7_paint_19 : decode cX7_paint 19 = .ok (.sipush 300, 3) := by decide +kernel
theorem dX7_paint_22 : decode cX7_paint 22 = .ok (.invokestatic 62, 3) := by decide +kernel
theorem dX7_paint_25 : decode cX7_paint 25 = .ok (.aload_n 0, 1) := by decide +kernel
theorem dX7_paint_26 : decode cX7_paint 26 = .ok (.iconst 1, 1) := by decide +kernel
theorem dX7_paint_27 : decode cX7_paint 27 = .ok (.putfield 30, 3) := by decide +kernel
theorem dX7_paint_30 : decode cX7_paint 30 = .ok (.return_, 1) := by decide +kernel
theorem dX7_hasImage_0 : decode cX7_hasImage 0 = .ok (.aload_n 0, 1) := by decide +kernel
theorem dX7_hasImage_1 : decode cX7_hasImage 1 = .ok (.getfield 30, 3) := by decide +kernel
theorem dX7_hasImage_4 : decode cX7_hasImage 4 = .ok (.ireturn, 1) := by decide +kernel
theorem dX7_restore_0 : decode cX7_restore 0 = .ok (.aload_n 1, 1) := by decide +kernel
theorem dX7_restore_1 : decode cX7_restore 1 = .ok (.aload_n 0, 1) := by decide +kernel
theorem dX7_restore_2 : decode cX7_restore 2 = .ok (.getfield 20, 3) := by decide +kernel
theorem dX7_restore_5 : decode cX7_restore 5 = .ok (.iconst 0, 1) := by decide +kernel
theorem dX7_restore_6 : decode cX7_restore 6 = .ok (.invokevirtual 47, 3) := by decide +kernel
theorem dX7_restore_9 : decode cX7_restore 9 = .ok (.aload_n 0, 1) := by decide +kernel
theorem dX7_restore_10 : decode cX7_restore 10 = .ok (.getfield 23, 3) := by decide +kernel
theorem dX7_restore_13 : decode cX7_restore 13 = .ok (.iconst 0, 1) := by decide +kernel
theorem dX7_restore_14 : decode cX7_restore 14 = .ok (.aload_n 0, 1) := by decide +kernel
theorem dX7_restore_15 : decode cX7_restore 15 = .ok (.getfield 17, 3) := by decide +kernel
theorem dX7_restore_18 : decode cX7_restore 18 = .ok (.iconst 0, 1) := by decide +kernel
theorem dX7_restore_19 : decode cX7_restore 19 = .ok (.sipush 300, 3) := by decide +kernel
theorem dX7_restore_22 : decode cX7_restore 22 = .ok (.invokestatic 62, 3) := by decide +kernel
theorem dX7_restore_25 : decode cX7_restore 25 = .ok (.aload_n 0, 1) := by decide +kernel
theorem dX7_restore_26 : decode cX7_restore 26 = .ok (.iconst 0, 1) := by decide +kernel
theorem dX7_restore_27 : decode cX7_restore 27 = .ok (.putfield 26, 3) := by decide +kernel
theorem dX7_restore_30 : decode cX7_restore 30 = .ok (.return_, 1) := by decide +kernel
theorem dX8_cheapest_0 : decode cX8_cheapest 0 = .ok (.iconst (-1), 1) := by decide +kernel
theorem dX8_cheapest_1 : decode cX8_cheapest 1 = .ok (.istore_n 3, 1) := by decide +kernel
theorem dX8_cheapest_2 : decode cX8_cheapest 2 = .ok (.iconst 0, 1) := by decide +kernel
theorem dX8_cheapest_3 : decode cX8_cheapest 3 = .ok (.istore 4, 2) := by decide +kernel
theorem dX8_cheapest_5 : decode cX8_cheapest 5 = .ok (.iload 4, 2) := by decide +kernel
theorem dX8_cheapest_7 : decode cX8_cheapest 7 = .ok (.aload_n 0, 1) := by decide +kernel
theorem dX8_cheapest_8 : decode cX8_cheapest 8 = .ok (.getfield 9, 3) := by decide +kernel
theorem dX8_cheapest_11 : decode cX8_cheapest 11 = .ok (.invokevirtual 21, 3) := by decide +kernel
theorem dX8_cheapest_14 : decode cX8_cheapest 14 = .ok (.if_icmp .ge 61, 3) := by decide +kernel
theorem dX8_cheapest_17 : decode cX8_cheapest 17 = .ok (.aload_n 0, 1) := by decide +kernel
theorem dX8_cheapest_18 : decode cX8_cheapest 18 = .ok (.getfield 9, 3) := by decide +kernel
theorem dX8_cheapest_21 : decode cX8_cheapest 21 = .ok (.iload 4, 2) := by decide +kernel
theorem dX8_cheapest_23 : decode cX8_cheapest 23 = .ok (.iload_n 1, 1) := by decide +kernel
theorem dX8_cheapest_24 : decode cX8_cheapest 24 = .ok (.invokevirtual 25, 3) := by decide +kernel
theorem dX8_cheapest_27 : decode cX8_cheapest 27 = .ok (.ifCond .eq 42, 3) := by decide +kernel
theorem dX8_cheapest_30 : decode cX8_cheapest 30 = .ok (.aload_n 0, 1) := by decide +kernel
theorem dX8_cheapest_31 : decode cX8_cheapest 31 = .ok (.iload 4, 2) := by decide +kernel
theorem dX8_cheapest_33 : decode cX8_cheapest 33 = .ok (.invokevirtual 29, 3) := by decide +kernel
theorem dX8_cheapest_36 : decode cX8_cheapest 36 = .ok (.ifCond .eq 33, 3) := by decide +kernel
theorem dX8_cheapest_39 : decode cX8_cheapest 39 = .ok (.iload_n 3, 1) := by decide +kernel
theorem dX8_cheapest_40 : decode cX8_cheapest 40 = .ok (.iconst (-1), 1) := by decide +kernel
theorem dX8_cheapest_41 : decode cX8_cheapest 41 = .ok (.if_icmp .eq 25, 3) := by decide +kernel
theorem dX8_cheapest_44 : decode cX8_cheapest 44 = .ok (.aload_n 0, 1) := by decide +kernel
theorem dX8_cheapest_45 : decode cX8_cheapest 45 = .ok (.getfield 9, 3) := by decide +kernel
theorem dX8_cheapest_48 : decode cX8_cheapest 48 = .ok (.iload 4, 2) := by decide +kernel
theorem dX8_cheapest_50 : decode cX8_cheapest 50 = .ok (.iload_n 2, 1) := by decide +kernel
theorem dX8_cheapest_51 : decode cX8_cheapest 51 = .ok (.invokevirtual 33, 3) := by decide +kernel
theorem dX8_cheapest_54 : decode cX8_cheapest 54 = .ok (.aload_n 0, 1) := by decide +kernel
theorem dX8_cheapest_55 : decode cX8_cheapest 55 = .ok (.getfield 9, 3) := by decide +kernel
theorem dX8_cheapest_58 : decode cX8_cheapest 58 = .ok (.iload_n 3, 1) := by decide +kernel
theorem dX8_cheapest_59 : decode cX8_cheapest 59 = .ok (.iload_n 2, 1) := by decide +kernel
theorem dX8_cheapest_60 : decode cX8_cheapest 60 = .ok (.invokevirtual 33, 3) := by decide +kernel
theorem dX8_cheapest_63 : decode cX8_cheapest 63 = .ok (.if_icmp .ge 6, 3) := by decide +kernel
theorem dX8_cheapest_66 : decode cX8_cheapest 66 = .ok (.iload 4, 2) := by decide +kernel
theorem dX8_cheapest_68 : decode cX8_cheapest 68 = .ok (.istore_n 3, 1) := by decide +kernel
theorem dX8_cheapest_69 : decode cX8_cheapest 69 = .ok (.iinc 4 1, 3) := by decide +kernel
theorem dX8_cheapest_72 : decode cX8_cheapest 72 = .ok (.goto (-67), 3) := by decide +kernel
theorem dX8_cheapest_75 : decode cX8_cheapest 75 = .ok (.iload_n 3, 1) := by decide +kernel
theorem dX8_cheapest_76 : decode cX8_cheapest 76 = .ok (.ireturn, 1) := by decide +kernel
theorem dX8_mayRule_0 : decode cX8_mayRule 0 = .ok (.aload_n 0, 1) := by decide +kernel
theorem dX8_mayRule_1 : decode cX8_mayRule 1 = .ok (.getfield 9, 3) := by decide +kernel
theorem dX8_mayRule_4 : decode cX8_mayRule 4 = .ok (.invokevirtual 37, 3) := by decide +kernel
theorem dX8_mayRule_7 : decode cX8_mayRule 7 = .ok (.istore_n 2, 1) := by decide +kernel
theorem dX8_mayRule_8 : decode cX8_mayRule 8 = .ok (.iload_n 2, 1) := by decide +kernel
theorem dX8_mayRule_9 : decode cX8_mayRule 9 = .ok (.iconst (-1), 1) := by decide +kernel
theorem dX8_mayRule_10 : decode cX8_mayRule 10 = .ok (.if_icmp .eq 20, 3) := by decide +kernel
theorem dX8_mayRule_13 : decode cX8_mayRule 13 = .ok (.iload_n 2, 1) := by decide +kernel
theorem dX8_mayRule_14 : decode cX8_mayRule 14 = .ok (.iload_n 1, 1) := by decide +kernel
theorem dX8_mayRule_15 : decode cX8_mayRule 15 = .ok (.if_icmp .eq 15, 3) := by decide +kernel
theorem dX8_mayRule_18 : decode cX8_mayRule 18 = .ok (.aload_n 0, 1) := by decide +kernel
theorem dX8_mayRule_19 : decode cX8_mayRule 19 = .ok (.getfield 9, 3) := by decide +kernel
theorem dX8_mayRule_22 : decode cX8_mayRule 22 = .ok (.iload_n 1, 1) := by decide +kernel
theorem dX8_mayRule_23 : decode cX8_mayRule 23 = .ok (.iload_n 2, 1) := by decide +kernel
theorem dX8_mayRule_24 : decode cX8_mayRule 24 = .ok (.invokevirtual 40, 3) := by decide +kernel
theorem dX8_mayRule_27 : decode cX8_mayRule 27 = .ok (.ifCond .eq 7, 3) := by decide +kernel
theorem dX8_mayRule_30 : decode cX8_mayRule 30 = .ok (.iconst 1, 1) := by decide +kernel
theorem dX8_mayRule_31 : decode cX8_mayRule 31 = .ok (.goto 4, 3) := by decide +kernel
theorem dX8_mayRule_34 : decode cX8_mayRule 34 = .ok (.iconst 0, 1) := by decide +kernel
theorem dX8_mayRule_35 : decode cX8_mayRule 35 = .ok (.istore_n 3, 1) := by decide +kernel
theorem dX8_mayRule_36 : decode cX8_mayRule 36 = .ok (.iload_n 3, 1) := by decide +kernel
theorem dX8_mayRule_37 : decode cX8_mayRule 37 = .ok (.ifCond .eq 18, 3) := by decide +kernel
theorem dX8_mayRule_40 : decode cX8_mayRule 40 = .ok (.aload_n 0, 1) := by decide +kernel
theorem dX8_mayRule_41 : decode cX8_mayRule 41 = .ok (.getfield 9, 3) := by decide +kernel
theorem dX8_mayRule_44 : decode cX8_mayRule 44 = .ok (.iload_n 1, 1) := by decide +kernel
theorem dX8_mayRule_45 : decode cX8_mayRule 45 = .ok (.invokevirtual 43, 3) := by decide +kernel
theorem dX8_mayRule_48 : decode cX8_mayRule 48 = .ok (.ifCond .eq 7, 3) := by decide +kernel
theorem dX8_mayRule_51 : decode cX8_mayRule 51 = .ok (.iconst 1, 1) := by decide +kernel
theorem dX8_mayRule_52 : decode cX8_mayRule 52 = .ok (.goto 4, 3) := by decide +kernel
theorem dX8_mayRule_55 : decode cX8_mayRule 55 = .ok (.iconst 0, 1) := by decide +kernel
theorem dX8_mayRule_56 : decode cX8_mayRule 56 = .ok (.ireturn, 1) := by decide +kernel
theorem dX8_teachersAt_0 : decode cX8_teachersAt 0 = .ok (.iconst 0, 1) := by decide +kernel
theorem dX8_teachersAt_1 : decode cX8_teachersAt 1 = .ok (.istore_n 3, 1) := by decide +kernel
theorem dX8_teachersAt_2 : decode cX8_teachersAt 2 = .ok (.iconst 1, 1) := by decide +kernel
theorem dX8_teachersAt_3 : decode cX8_teachersAt 3 = .ok (.istore 4, 2) := by decide +kernel
theorem dX8_teachersAt_5 : decode cX8_teachersAt 5 = .ok (.iload 4, 2) := by decide +kernel
theorem dX8_teachersAt_7 : decode cX8_teachersAt 7 = .ok (.iconst 1, 1) := by decide +kernel
theorem dX8_teachersAt_8 : decode cX8_teachersAt 8 = .ok (.aload_n 0, 1) := by decide +kernel
theorem dX8_teachersAt_9 : decode cX8_teachersAt 9 = .ok (.getfield 9, 3) := by decide +kernel
theorem dX8_teachersAt_12 : decode cX8_teachersAt 12 = .ok (.invokevirtual 46, 3) := by decide +kernel
theorem dX8_teachersAt_15 : decode cX8_teachersAt 15 = .ok (.ishl, 1) := by decide +kernel
theorem dX8_teachersAt_16 : decode cX8_teachersAt 16 = .ok (.if_icmp .ge 30, 3) := by decide +kernel
theorem dX8_teachersAt_19 : decode cX8_teachersAt 19 = .ok (.aload_n 0, 1) := by decide +kernel
theorem dX8_teachersAt_20 : decode cX8_teachersAt 20 = .ok (.iload 4, 2) := by decide +kernel
theorem dX8_teachersAt_22 : decode cX8_teachersAt 22 = .ok (.iload_n 1, 1) := by decide +kernel
theorem dX8_teachersAt_23 : decode cX8_teachersAt 23 = .ok (.invokevirtual 49, 3) := by decide +kernel
theorem dX8_teachersAt_26 : decode cX8_teachersAt 26 = .ok (.ifCond .eq 14, 3) := by decide +kernel
theorem dX8_teachersAt_29 : decode cX8_teachersAt 29 = .ok (.iload_n 3, 1) := by decide +kernel
theorem dX8_teachersAt_30 : decode cX8_teachersAt 30 = .ok (.iload_n 2, 1) := by decide +kernel
theorem dX8_teachersAt_31 : decode cX8_teachersAt 31 = .ok (.if_icmp .ne 6, 3) := by decide +kernel
theorem dX8_teachersAt_34 : decode cX8_teachersAt 34 = .ok (.iload 4, 2) := by decide +kernel
theorem dX8_teachersAt_36 : decode cX8_teachersAt 36 = .ok (.ireturn, 1) := by decide +kernel
theorem dX8_teachersAt_37 : decode cX8_teachersAt 37 = .ok (.iinc 3 1, 3) := by decide +kernel
theorem dX8_teachersAt_40 : decode cX8_teachersAt 40 = .ok (.iinc 4 1, 3) := by decide +kernel
theorem dX8_teachersAt_43 : decode cX8_teachersAt 43 = .ok (.goto (-38), 3) := by decide +kernel
theorem dX8_teachersAt_46 : decode cX8_teachersAt 46 = .ok (.iload_n 2, 1) := by decide +kernel
theorem dX8_teachersAt_47 : decode cX8_teachersAt 47 = .ok (.iconst (-1), 1) := by decide +kernel
theorem dX8_teachersAt_48 : decode cX8_teachersAt 48 = .ok (.if_icmp .ne 7, 3) := by decide +kernel
theorem dX8_teachersAt_51 : decode cX8_teachersAt 51 = .ok (.iload_n 3, 1) := by decide +kernel
theorem dX8_teachersAt_52 : decode cX8_teachersAt 52 = .ok (.goto 4, 3) := by decide +kernel
theorem dX8_teachersAt_55 : decode cX8_teachersAt 55 = .ok (.iconst (-1), 1) := by decide +kernel
theorem dX8_teachersAt_56 : decode cX8_teachersAt 56 = .ok (.ireturn, 1) := by decide +kernel
theorem dX8_couldHaveTaught_0 : decode cX8_couldHaveTaught 0 = .ok (.aload_n 0, 1) := by decide +kernel
theorem dX8_couldHaveTaught_1 : decode cX8_couldHaveTaught 1 = .ok (.iload_n 1, 1) := by decide +kernel
theorem dX8_couldHaveTaught_2 : decode cX8_couldHaveTaught 2 = .ok (.invokevirtual 52, 3) := by decide +kernel
theorem dX8_couldHaveTaught_5 : decode cX8_couldHaveTaught 5 = .ok (.istore_n 3, 1) := by decide +kernel
theorem dX8_couldHaveTaught_6 : decode cX8_couldHaveTaught 6 = .ok (.aload_n 0, 1) := by decide +kernel
theorem dX8_couldHaveTaught_7 : decode cX8_couldHaveTaught 7 = .ok (.getfield 9, 3) := by decide +kernel
theorem dX8_couldHaveTaught_10 : decode cX8_couldHaveTaught 10 = .ok (.iload_n 2, 1) := by decide +kernel
theorem dX8_couldHaveTaught_11 : decode cX8_couldHaveTaught 11 = .ok (.invokevirtual 56, 3) := by decide +kernel
theorem dX8_couldHaveTaught_14 : decode cX8_couldHaveTaught 14 = .ok (.iload_n 3, 1) := by decide +kernel
theorem dX8_couldHaveTaught_15 : decode cX8_couldHaveTaught 15 = .ok (.iconst (-1), 1) := by decide +kernel
theorem dX8_couldHaveTaught_16 : decode cX8_couldHaveTaught 16 = .ok (.ixor, 1) := by decide +kernel
theorem dX8_couldHaveTaught_17 : decode cX8_couldHaveTaught 17 = .ok (.iand, 1) := by decide +kernel
theorem dX8_couldHaveTaught_18 : decode cX8_couldHaveTaught 18 = .ok (.ifCond .ne 21, 3) := by decide +kernel
theorem dX8_couldHaveTaught_21 : decode cX8_couldHaveTaught 21 = .ok (.aload_n 0, 1) := by decide +kernel
theorem dX8_couldHaveTaught_22 : decode cX8_couldHaveTaught 22 = .ok (.getfield 9, 3) := by decide +kernel
theorem dX8_couldHaveTaught_25 : decode cX8_couldHaveTaught 25 = .ok (.iload_n 2, 1) := by decide +kernel
theorem dX8_couldHaveTaught_26 : decode cX8_couldHaveTaught 26 = .ok (.iconst 2, 1) := by decide +kernel
theorem dX8_couldHaveTaught_27 : decode cX8_couldHaveTaught 27 = .ok (.invokevirtual 59, 3) := by decide +kernel
theorem dX8_couldHaveTaught_30 : decode cX8_couldHaveTaught 30 = .ok (.iload_n 3, 1) := by decide +kernel
theorem dX8_couldHaveTaught_31 : decode cX8_couldHaveTaught 31 = .ok (.iand, 1) := by decide +kernel
theorem dX8_couldHaveTaught_32 : decode cX8_couldHaveTaught 32 = .ok (.ifCond .ne 7, 3) := by decide +kernel
theorem dX8_couldHaveTaught_35 : decode cX8_couldHaveTaught 35 = .ok (.iconst 1, 1) := by decide +kernel
theorem dX8_couldHaveTaught_36 : decode cX8_couldHaveTaught 36 = .ok (.goto 4, 3) := by decide +kernel
theorem dX8_couldHaveTaught_39 : decode cX8_couldHaveTaught 39 = .ok (.iconst 0, 1) := by decide +kernel
theorem dX8_couldHaveTaught_40 : decode cX8_couldHaveTaught 40 = .ok (.ireturn, 1) := by decide +kernel
theorem dX8_mindedBy_0 : decode cX8_mindedBy 0 = .ok (.iconst 0, 1) := by decide +kernel
theorem dX8_mindedBy_1 : decode cX8_mindedBy 1 = .ok (.istore_n 2, 1) := by decide +kernel
theorem dX8_mindedBy_2 : decode cX8_mindedBy 2 = .ok (.iconst 0, 1) := by decide +kernel
theorem dX8_mindedBy_3 : decode cX8_mindedBy 3 = .ok (.istore_n 3, 1) := by decide +kernel
theorem dX8_mindedBy_4 : decode cX8_mindedBy 4 = .ok (.iload_n 3, 1) := by decide +kernel
theorem dX8_mindedBy_5 : decode cX8_mindedBy 5 = .ok (.aload_n 0, 1) := by decide +kernel
theorem dX8_mindedBy_6 : decode cX8_mindedBy 6 = .ok (.getfield 9, 3) := by decide +kernel
theorem dX8_mindedBy_9 : decode cX8_mindedBy 9 = .ok (.invokevirtual 46, 3) := by decide +kernel
theorem dX8_mindedBy_12 : decode cX8_mindedBy 12 = .ok (.if_icmp .ge 29, 3) := by decide +kernel
theorem dX8_mindedBy_15 : decode cX8_mindedBy 15 = .ok (.iload_n 1, 1) := by decide +kernel
theorem dX8_mindedBy_16 : decode cX8_mindedBy 16 = .ok (.iload_n 3, 1) := by decide +kernel
theorem dX8_mindedBy_17 : decode cX8_mindedBy 17 = .ok (.ishr, 1) := by decide +kernel
theorem dX8_mindedBy_18 : decode cX8_mindedBy 18 = .ok (.iconst 1, 1) := by decide +kernel
theorem dX8_mindedBy_19 : decode cX8_mindedBy 19 = .ok (.iand, 1) := by decide +kernel
theorem dX8_mindedBy_20 : decode cX8_mindedBy 20 = .ok (.ifCond .eq 15, 3) := by decide +kernel
theorem dX8_mindedBy_23 : decode cX8_mindedBy 23 = .ok (.iload_n 2, 1) := by decide +kernel
theorem dX8_mindedBy_24 : decode cX8_mindedBy 24 = .ok (.aload_n 0, 1) := by decide +kernel
theorem dX8_mindedBy_25 : decode cX8_mindedBy 25 = .ok (.getfield 9, 3) := by decide +kernel
theorem dX8_mindedBy_28 : decode cX8_mindedBy 28 = .ok (.iload_n 3, 1) := by decide +kernel
theorem dX8_mindedBy_29 : decode cX8_mindedBy 29 = .ok (.iconst 2, 1) := by decide +kernel
theorem dX8_mindedBy_30 : decode cX8_mindedBy 30 = .ok (.invokevirtual 62, 3) := by decide +kernel
theorem dX8_mindedBy_33 : decode cX8_mindedBy 33 = .ok (.ior, 1) := by decide +kernel
theorem dX8_mindedBy_34 : decode cX8_mindedBy 34 = .ok (.istore_n 2, 1) := by decide +kernel
theorem dX8_mindedBy_35 : decode cX8_mindedBy 35 = .ok (.iinc 3 1, 3) := by decide +kernel
theorem dX8_mindedBy_38 : decode cX8_mindedBy 38 = .ok (.goto (-34), 3) := by decide +kernel
theorem dX8_mindedBy_41 : decode cX8_mindedBy 41 = .ok (.iload_n 2, 1) := by decide +kernel
theorem dX8_mindedBy_42 : decode cX8_mindedBy 42 = .ok (.ireturn, 1) := by decide +kernel
theorem dX8_unknownToElders_0 : decode cX8_unknownToElders 0 = .ok (.aload_n 0, 1) := by decide +kernel
theorem dX8_unknownToElders_1 : decode cX8_unknownToElders 1 = .ok (.getfield 9, 3) := by decide +kernel
theorem dX8_unknownToElders_4 : decode cX8_unknownToElders 4 = .ok (.invokevirtual 65, 3) := by decide +kernel
theorem dX8_unknownToElders_7 : decode cX8_unknownToElders 7 = .ok (.aload_n 0, 1) := by decide +kernel
theorem dX8_unknownToElders_8 : decode cX8_unknownToElders 8 = .ok (.iconst 1, 1) := by decide +kernel
theorem dX8_unknownToElders_9 : decode cX8_unknownToElders 9 = .ok (.aload_n 0, 1) := by decide +kernel
theorem dX8_unknownToElders_10 : decode cX8_unknownToElders 10 = .ok (.getfield 9, 3) := by decide +kernel
theorem dX8_unknownToElders_13 : decode cX8_unknownToElders 13 = .ok (.invokevirtual 46, 3) := by decide +kernel
theorem dX8_unknownToElders_16 : decode cX8_unknownToElders 16 = .ok (.ishl, 1) := by decide +kernel
theorem dX8_unknownToElders_17 : decode cX8_unknownToElders 17 = .ok (.iconst 1, 1) := by decide +kernel
theorem dX8_unknownToElders_18 : decode cX8_unknownToElders 18 = .ok (.isub, 1) := by decide +kernel
theorem dX8_unknownToElders_19 : decode cX8_unknownToElders 19 = .ok (.invokevirtual 52, 3) := by decide +kernel
theorem dX8_unknownToElders_22 : decode cX8_unknownToElders 22 = .ok (.iconst (-1), 1) := by decide +kernel
theorem dX8_unknownToElders_23 : decode cX8_unknownToElders 23 = .ok (.ixor, 1) := by decide +kernel
theorem dX8_unknownToElders_24 : decode cX8_unknownToElders 24 = .ok (.iand, 1) := by decide +kernel
theorem dX8_unknownToElders_25 : decode cX8_unknownToElders 25 = .ok (.ireturn, 1) := by decide +kernel
theorem dX8_longestChain_0 : decode cX8_longestChain 0 = .ok (.iconst 0, 1) := by decide +kernel
theorem dX8_longestChain_1 : decode cX8_longestChain 1 = .ok (.istore_n 1, 1) := by decide +kernel
theorem dX8_longestChain_2 : decode cX8_longestChain 2 = .ok (.iload_n 1, 1) := by decide +kernel
theorem dX8_longestChain_3 : decode cX8_longestChain 3 = .ok (.aload_n 0, 1) := by decide +kernel
theorem dX8_longestChain_4 : decode cX8_longestChain 4 = .ok (.getfield 9, 3) := by decide +kernel
theorem dX8_longestChain_7 : decode cX8_longestChain 7 = .ok (.invokevirtual 21, 3) := by decide +kernel
theorem dX8_longestChain_10 : decode cX8_longestChain 10 = .ok (.if_icmp .ge 29, 3) := by decide +kernel
theorem dX8_longestChain_13 : decode cX8_longestChain 13 = .ok (.iload_n 1, 1) := by decide +kernel
theorem dX8_longestChain_14 : decode cX8_longestChain 14 = .ok (.aload_n 0, 1) := by decide +kernel
theorem dX8_longestChain_15 : decode cX8_longestChain 15 = .ok (.getfield 17, 3) := by decide +kernel
theorem dX8_longestChain_18 : decode cX8_longestChain 18 = .ok (.arraylength, 1) := by decide +kernel
theorem dX8_longestChain_19 : decode cX8_longestChain 19 = .ok (.if_icmp .ge 20, 3) := by decide +kernel
theorem dX8_longestChain_22 : decode cX8_longestChain 22 = .ok (.aload_n 0, 1) := by decide +kernel
theorem dX8_longestChain_23 : decode cX8_longestChain 23 = .ok (.getfield 17, 3) := by decide +kernel
theorem dX8_longestChain_26 : decode cX8_longestChain 26 = .ok (.iload_n 1, 1) := by decide +kernel
theorem dX8_longestChain_27 : decode cX8_longestChain 27 = .ok (.aload_n 0, 1) := by decide +kernel
theorem dX8_longestChain_28 : decode cX8_longestChain 28 = .ok (.iload_n 1, 1) := by decide +kernel
theorem dX8_longestChain_29 : decode cX8_longestChain 29 = .ok (.invokevirtual 68, 3) := by decide +kernel
theorem dX8_longestChain_32 : decode cX8_longestChain 32 = .ok (.iastore, 1) := by decide +kernel
theorem dX8_longestChain_33 : decode cX8_longestChain 33 = .ok (.iinc 1 1, 3) := by decide +kernel
theorem dX8_longestChain_36 : decode cX8_longestChain 36 = .ok (.goto (-34), 3) := by decide +kernel
theorem dX8_longestChain_39 : decode cX8_longestChain 39 = .ok (.iconst 0, 1) := by decide +kernel
theorem dX8_longestChain_40 : decode cX8_longestChain 40 = .ok (.istore_n 1, 1) := by decide +kernel
theorem dX8_longestChain_41 : decode cX8_longestChain 41 = .ok (.iconst 1, 1) := by decide +kernel
theorem dX8_longestChain_42 : decode cX8_longestChain 42 = .ok (.istore_n 2, 1) := by decide +kernel
theorem dX8_longestChain_43 : decode cX8_longestChain 43 = .ok (.iload_n 2, 1) := by decide +kernel
theorem dX8_longestChain_44 : decode cX8_longestChain 44 = .ok (.iconst 1, 1) := by decide +kernel
theorem dX8_longestChain_45 : decode cX8_longestChain 45 = .ok (.aload_n 0, 1) := by decide +kernel
theorem dX8_longestChain_46 : decode cX8_longestChain 46 = .ok (.getfield 9, 3) := by decide +kernel
theorem dX8_longestChain_49 : decode cX8_longestChain 49 = .ok (.invokevirtual 21, 3) := by decide +kernel
theorem dX8_longestChain_52 : decode cX8_longestChain 52 = .ok (.ishl, 1) := by decide +kernel
theorem dX8_longestChain_53 : decode cX8_longestChain 53 = .ok (.if_icmp .ge 30, 3) := by decide +kernel
theorem dX8_longestChain_56 : decode cX8_longestChain 56 = .ok (.iload_n 2, 1) := by decide +kernel
theorem dX8_longestChain_57 : decode cX8_longestChain 57 = .ok (.invokestatic 71, 3) := by decide +kernel
theorem dX8_longestChain_60 : decode cX8_longestChain 60 = .ok (.iload_n 1, 1) := by decide +kernel
theorem dX8_longestChain_61 : decode cX8_longestChain 61 = .ok (.invokestatic 71, 3) := by decide +kernel
theorem dX8_longestChain_64 : decode cX8_longestChain 64 = .ok (.if_icmp .le 13, 3) := by decide +kernel
theorem dX8_longestChain_67 : decode cX8_longestChain 67 = .ok (.aload_n 0, 1) := by decide +kernel
theorem dX8_longestChain_68 : decode cX8_longestChain 68 = .ok (.iload_n 2, 1) := by decide +kernel
theorem dX8_longestChain_69 : decode cX8_longestChain 69 = .ok (.invokevirtual 76, 3) := by decide +kernel
theorem dX8_longestChain_72 : decode cX8_longestChain 72 = .ok (.ifCond .eq 5, 3) := by decide +kernel
theorem dX8_longestChain_75 : decode cX8_longestChain 75 = .ok (.iload_n 2, 1) := by decide +kernel
theorem dX8_longestChain_76 : decode cX8_longestChain 76 = .ok (.istore_n 1, 1) := by decide +kernel
theorem dX8_longestChain_77 : decode cX8_longestChain 77 = .ok (.iinc 2 1, 3) := by decide +kernel
theorem dX8_longestChain_80 : decode cX8_longestChain 80 = .ok (.goto (-37), 3) := by decide +kernel
theorem dX8_longestChain_83 : decode cX8_longestChain 83 = .ok (.iload_n 1, 1) := by decide +kernel
theorem dX8_longestChain_84 : decode cX8_longestChain 84 = .ok (.ireturn, 1) := by decide +kernel
theorem dX8_chainedWith_0 : decode cX8_chainedWith 0 = .ok (.iconst 1, 1) := by decide +kernel
theorem dX8_chainedWith_1 : decode cX8_chainedWith 1 = .ok (.iload_n 1, 1) := by decide +kernel
theorem dX8_chainedWith_2 : decode cX8_chainedWith 2 = .ok (.ishl, 1) := by decide +kernel
theorem dX8_chainedWith_3 : decode cX8_chainedWith 3 = .ok (.istore_n 2, 1) := by decide +kernel
theorem dX8_chainedWith_4 : decode cX8_chainedWith 4 = .ok (.iconst 0, 1) := by decide +kernel
theorem dX8_chainedWith_5 : decode cX8_chainedWith 5 = .ok (.istore_n 3, 1) := by decide +kernel
theorem dX8_chainedWith_6 : decode cX8_chainedWith 6 = .ok (.iload_n 3, 1) := by decide +kernel
theorem dX8_chainedWith_7 : decode cX8_chainedWith 7 = .ok (.aload_n 0, 1) := by decide +kernel
theorem dX8_chainedWith_8 : decode cX8_chainedWith 8 = .ok (.getfield 9, 3) := by decide +kernel
theorem dX8_chainedWith_11 : decode cX8_chainedWith 11 = .ok (.invokevirtual 21, 3) := by decide +kernel
theorem dX8_chainedWith_14 : decode cX8_chainedWith 14 = .ok (.if_icmp .ge 101, 3) := by decide +kernel
theorem dX8_chainedWith_17 : decode cX8_chainedWith 17 = .ok (.aload_n 0, 1) := by decide +kernel
theorem dX8_chainedWith_18 : decode cX8_chainedWith 18 = .ok (.getfield 9, 3) := by decide +kernel
theorem dX8_chainedWith_21 : decode cX8_chainedWith 21 = .ok (.iload_n 1, 1) := by decide +kernel
theorem dX8_chainedWith_22 : decode cX8_chainedWith 22 = .ok (.iload_n 3, 1) := by decide +kernel
theorem dX8_chainedWith_23 : decode cX8_chainedWith 23 = .ok (.invokevirtual 40, 3) := by decide +kernel
theorem dX8_chainedWith_26 : decode cX8_chainedWith 26 = .ok (.ifCond .eq 26, 3) := by decide +kernel
theorem dX8_chainedWith_29 : decode cX8_chainedWith 29 = .ok (.aload_n 0, 1) := by decide +kernel
theorem dX8_chainedWith_30 : decode cX8_chainedWith 30 = .ok (.getfield 9, 3) := by decide +kernel
theorem dX8_chainedWith_33 : decode cX8_chainedWith 33 = .ok (.iload_n 1, 1) := by decide +kernel
theorem dX8_chainedWith_34 : decode cX8_chainedWith 34 = .ok (.invokevirtual 79, 3) := by decide +kernel
theorem dX8_chainedWith_37 : decode cX8_chainedWith 37 = .ok (.aload_n 0, 1) := by decide +kernel
theorem dX8_chainedWith_38 : decode cX8_chainedWith 38 = .ok (.getfield 9, 3) := by decide +kernel
theorem dX8_chainedWith_41 : decode cX8_chainedWith 41 = .ok (.iload_n 3, 1) := by decide +kernel
theorem dX8_chainedWith_42 : decode cX8_chainedWith 42 = .ok (.invokevirtual 79, 3) := by decide +kernel
theorem dX8_chainedWith_45 : decode cX8_chainedWith 45 = .ok (.if_icmp .ge 7, 3) := by decide +kernel
theorem dX8_chainedWith_48 : decode cX8_chainedWith 48 = .ok (.iconst 1, 1) := by decide +kernel
theorem dX8_chainedWith_49 : decode cX8_chainedWith 49 = .ok (.goto 4, 3) := by decide +kernel
theorem dX8_chainedWith_52 : decode cX8_chainedWith 52 = .ok (.iconst 0, 1) := by decide +kernel
theorem dX8_chainedWith_53 : decode cX8_chainedWith 53 = .ok (.istore 4, 2) := by decide +kernel
theorem dX8_chainedWith_55 : decode cX8_chainedWith 55 = .ok (.aload_n 0, 1) := by decide +kernel
theorem dX8_chainedWith_56 : decode cX8_chainedWith 56 = .ok (.getfield 9, 3) := by decide +kernel
theorem dX8_chainedWith_59 : decode cX8_chainedWith 59 = .ok (.iload_n 3, 1) := by decide +kernel
theorem dX8_chainedWith_60 : decode cX8_chainedWith 60 = .ok (.iload_n 1, 1) := by decide +kernel
theorem dX8_chainedWith_61 : decode cX8_chainedWith 61 = .ok (.invokevirtual 40, 3) := by decide +kernel
theorem dX8_chainedWith_64 : decode cX8_chainedWith 64 = .ok (.ifCond .eq 26, 3) := by decide +kernel
theorem dX8_chainedWith_67 : decode cX8_chainedWith 67 = .ok (.aload_n 0, 1) := by decide +kernel
theorem dX8_chainedWith_68 : decode cX8_chainedWith 68 = .ok (.getfield 9, 3) := by decide +kernel
theorem dX8_chainedWith_71 : decode cX8_chainedWith 71 = .ok (.iload_n 3, 1) := by decide +kernel
theorem dX8_chainedWith_72 : decode cX8_chainedWith 72 = .ok (.invokevirtual 79, 3) := by decide +kernel
theorem dX8_chainedWith_75 : decode cX8_chainedWith 75 = .ok (.aload_n 0, 1) := by decide +kernel
theorem dX8_chainedWith_76 : decode cX8_chainedWith 76 = .ok (.getfield 9, 3) := by decide +kernel
theorem dX8_chainedWith_79 : decode cX8_chainedWith 79 = .ok (.iload_n 1, 1) := by decide +kernel
theorem dX8_chainedWith_80 : decode cX8_chainedWith 80 = .ok (.invokevirtual 79, 3) := by decide +kernel
theorem dX8_chainedWith_83 : decode cX8_chainedWith 83 = .ok (.if_icmp .ge 7, 3) := by decide +kernel
theorem dX8_chainedWith_86 : decode cX8_chainedWith 86 = .ok (.iconst 1, 1) := by decide +kernel
theorem dX8_chainedWith_87 : decode cX8_chainedWith 87 = .ok (.goto 4, 3) := by decide +kernel
theorem dX8_chainedWith_90 : decode cX8_chainedWith 90 = .ok (.iconst 0, 1) := by decide +kernel
theorem dX8_chainedWith_91 : decode cX8_chainedWith 91 = .ok (.istore 5, 2) := by decide +kernel
theorem dX8_chainedWith_93 : decode cX8_chainedWith 93 = .ok (.iload 4, 2) := by decide +kernel
theorem dX8_chainedWith_95 : decode cX8_chainedWith 95 = .ok (.ifCond .ne 8, 3) := by decide +kernel
theorem dX8_chainedWith_98 : decode cX8_chainedWith 98 = .ok (.iload 5, 2) := by decide +kernel
theorem dX8_chainedWith_100 : decode cX8_chainedWith 100 = .ok (.ifCond .eq 9, 3) := by decide +kernel
theorem dX8_chainedWith_103 : decode cX8_chainedWith 103 = .ok (.iload_n 2, 1) := by decide +kernel
theorem dX8_chainedWith_104 : decode cX8_chainedWith 104 = .ok (.iconst 1, 1) := by decide +kernel
theorem dX8_chainedWith_105 : decode cX8_chainedWith 105 = .ok (.iload_n 3, 1) := by decide +kernel
theorem dX8_chainedWith_106 : decode cX8_chainedWith 106 = .ok (.ishl, 1) := by decide +kernel
theorem dX8_chainedWith_107 : decode cX8_chainedWith 107 = .ok (.ior, 1) := by decide +kernel
theorem dX8_chainedWith_108 : decode cX8_chainedWith 108 = .ok (.istore_n 2, 1) := by decide +kernel
theorem dX8_chainedWith_109 : decode cX8_chainedWith 109 = .ok (.iinc 3 1, 3) := by decide +kernel
theorem dX8_chainedWith_112 : decode cX8_chainedWith 112 = .ok (.goto (-106), 3) := by decide +kernel
theorem dX8_chainedWith_115 : decode cX8_chainedWith 115 = .ok (.iload_n 2, 1) := by decide +kernel
theorem dX8_chainedWith_116 : decode cX8_chainedWith 116 = .ok (.ireturn, 1) := by decide +kernel
theorem dX8_isChain_0 : decode cX8_isChain 0 = .ok (.iconst 0, 1) := by decide +kernel
theorem dX8_isChain_1 : decode cX8_isChain 1 = .ok (.istore_n 2, 1) := by decide +kernel
theorem dX8_isChain_2 : decode cX8_isChain 2 = .ok (.iload_n 2, 1) := by decide +kernel
theorem dX8_isChain_3 : decode cX8_isChain 3 = .ok (.aload_n 0, 1) := by decide +kernel
theorem dX8_isChain_4 : decode cX8_isChain 4 = .ok (.getfield 17, 3) := by decide +kernel
theorem dX8_isChain_7 : decode cX8_isChain 7 = .ok (.arraylength, 1) := by decide +kernel
theorem dX8_isChain_8 : decode cX8_isChain 8 = .ok (.if_icmp .ge 32, 3) := by decide +kernel
theorem dX8_isChain_11 : decode cX8_isChain 11 = .ok (.iload_n 1, 1) := by decide +kernel
theorem dX8_isChain_12 : decode cX8_isChain 12 = .ok (.iload_n 2, 1) := by decide +kernel
theorem dX8_isChain_13 : decode cX8_isChain 13 = .ok (.ishr, 1) := by decide +kernel
theorem dX8_isChain_14 : decode cX8_isChain 14 = .ok (.iconst 1, 1) := by decide +kernel
theorem dX8_isChain_15 : decode cX8_isChain 15 = .ok (.iand, 1) := by decide +kernel
theorem dX8_isChain_16 : decode cX8_isChain 16 = .ok (.ifCond .eq 18, 3) := by decide +kernel
theorem dX8_isChain_19 : decode cX8_isChain 19 = .ok (.iload_n 1, 1) := by decide +kernel
theorem dX8_isChain_20 : decode cX8_isChain 20 = .ok (.aload_n 0, 1) := by decide +kernel
theorem dX8_isChain_21 : decode cX8_isChain 21 = .ok (.getfield 17, 3) := by decide +kernel
theorem dX8_isChain_24 : decode cX8_isChain 24 = .ok (.iload_n 2, 1) := by decide +kernel
theorem dX8_isChain_25 : decode cX8_isChain 25 = .ok (.iaload, 1) := by decide +kernel
theorem dX8_isChain_26 : decode cX8_isChain 26 = .ok (.iconst (-1), 1) := by decide +kernel
theorem dX8_isChain_27 : decode cX8_isChain 27 = .ok (.ixor, 1) := by decide +kernel
theorem dX8_isChain_28 : decode cX8_isChain 28 = .ok (.iand, 1) := by decide +kernel
theorem dX8_isChain_29 : decode cX8_isChain 29 = .ok (.ifCond .eq 5, 3) := by decide +kernel
theorem dX8_isChain_32 : decode cX8_isChain 32 = .ok (.iconst 0, 1) := by decide +kernel
theorem dX8_isChain_33 : decode cX8_isChain 33 = .ok (.ireturn, 1) := by decide +kernel
theorem dX8_isChain_34 : decode cX8_isChain 34 = .ok (.iinc 2 1, 3) := by decide +kernel
theorem dX8_isChain_37 : decode cX8_isChain 37 = .ok (.goto (-35), 3) := by decide +kernel
theorem dX8_isChain_40 : decode cX8_isChain 40 = .ok (.iconst 1, 1) := by decide +kernel
theorem dX8_isChain_41 : decode cX8_isChain 41 = .ok (.ireturn, 1) := by decide +kernel
theorem dX8_onlyByTheirSteps_0 : decode cX8_onlyByTheirSteps 0 = .ok (.iconst 0, 1) := by decide +kernel
theorem dX8_onlyByTheirSteps_1 : decode cX8_onlyByTheirSteps 1 = .ok (.istore_n 2, 1) := by decide +kernel
theorem dX8_onlyByTheirSteps_2 : decode cX8_onlyByTheirSteps 2 = .ok (.iconst 0, 1) := by decide +kernel
theorem dX8_onlyByTheirSteps_3 : decode cX8_onlyByTheirSteps 3 = .ok (.istore_n 3, 1) := by decide +kernel
theorem dX8_onlyByTheirSteps_4 : decode cX8_onlyByTheirSteps 4 = .ok (.iload_n 3, 1) := by decide +kernel
theorem dX8_onlyByTheirSteps_5 : decode cX8_onlyByTheirSteps 5 = .ok (.aload_n 0, 1) := by decide +kernel
theorem dX8_onlyByTheirSteps_6 : decode cX8_onlyByTheirSteps 6 = .ok (.getfield 9, 3) := by decide +kernel
theorem dX8_onlyByTheirSteps_9 : decode cX8_onlyByTheirSteps 9 = .ok (.invokevirtual 21, 3) := by decide +kernel
theorem dX8_onlyByTheirSteps_12 : decode cX8_onlyByTheirSteps 12 = .ok (.if_icmp .ge 61, 3) := by decide +kernel
theorem dX8_onlyByTheirSteps_15 : decode cX8_onlyByTheirSteps 15 = .ok (.aload_n 0, 1) := by decide +kernel
theorem dX8_onlyByTheirSteps_16 : decode cX8_onlyByTheirSteps 16 = .ok (.getfield 9, 3) := by decide +kernel
theorem dX8_onlyByTheirSteps_19 : decode cX8_onlyByTheirSteps 19 = .ok (.iload_n 1, 1) := by decide +kernel
theorem dX8_onlyByTheirSteps_20 : decode cX8_onlyByTheirSteps 20 = .ok (.invokevirtual 82, 3) := by decide +kernel
theorem dX8_onlyByTheirSteps_23 : decode cX8_onlyByTheirSteps 23 = .ok (.aload_n 0, 1) := by decide +kernel
theorem dX8_onlyByTheirSteps_24 : decode cX8_onlyByTheirSteps 24 = .ok (.getfield 9, 3) := by decide +kernel
theorem dX8_onlyByTheirSteps_27 : decode cX8_onlyByTheirSteps 27 = .ok (.iload_n 3, 1) := by decide +kernel
theorem dX8_onlyByTheirSteps_28 : decode cX8_onlyByTheirSteps 28 = .ok (.invokevirtual 56, 3) := by decide +kernel
theorem dX8_onlyByTheirSteps_31 : decode cX8_onlyByTheirSteps 31 = .ok (.iconst (-1), 1) := by decide +kernel
theorem dX8_onlyByTheirSteps_32 : decode cX8_onlyByTheirSteps 32 = .ok (.ixor, 1) := by decide +kernel
theorem dX8_onlyByTheirSteps_33 : decode cX8_onlyByTheirSteps 33 = .ok (.iand, 1) := by decide +kernel
theorem dX8_onlyByTheirSteps_34 : decode cX8_onlyByTheirSteps 34 = .ok (.ifCond .ne 7, 3) := by decide +kernel
theorem dX8_onlyByTheirSteps_37 : decode cX8_onlyByTheirSteps 37 = .ok (.iconst 1, 1) := by decide +kernel
theorem dX8_onlyByTheirSteps_38 : decode cX8_onlyByTheirSteps 38 = .ok (.goto 4, 3) := by decide +kernel
theorem dX8_onlyByTheirSteps_41 : decode cX8_onlyByTheirSteps 41 = .ok (.iconst 0, 1) := by decide +kernel
theorem dX8_onlyByTheirSteps_42 : decode cX8_onlyByTheirSteps 42 = .ok (.istore 4, 2) := by decide +kernel
theorem dX8_onlyByTheirSteps_44 : decode cX8_onlyByTheirSteps 44 = .ok (.aload_n 0, 1) := by decide +kernel
theorem dX8_onlyByTheirSteps_45 : decode cX8_onlyByTheirSteps 45 = .ok (.getfield 9, 3) := by decide +kernel
theorem dX8_onlyByTheirSteps_48 : decode cX8_onlyByTheirSteps 48 = .ok (.iload_n 3, 1) := by decide +kernel
theorem dX8_onlyByTheirSteps_49 : decode cX8_onlyByTheirSteps 49 = .ok (.iload_n 1, 1) := by decide +kernel
theorem dX8_onlyByTheirSteps_50 : decode cX8_onlyByTheirSteps 50 = .ok (.invokevirtual 85, 3) := by decide +kernel
theorem dX8_onlyByTheirSteps_53 : decode cX8_onlyByTheirSteps 53 = .ok (.ifCond .eq 14, 3) := by decide +kernel
theorem dX8_onlyByTheirSteps_56 : decode cX8_onlyByTheirSteps 56 = .ok (.iload 4, 2) := by decide +kernel
theorem dX8_onlyByTheirSteps_58 : decode cX8_onlyByTheirSteps 58 = .ok (.ifCond .ne 9, 3) := by decide +kernel
theorem dX8_onlyByTheirSteps_61 : decode cX8_onlyByTheirSteps 61 = .ok (.iload_n 2, 1) := by decide +kernel
theorem dX8_onlyByTheirSteps_62 : decode cX8_onlyByTheirSteps 62 = .ok (.iconst 1, 1) := by decide +kernel
theorem dX8_onlyByTheirSteps_63 : decode cX8_onlyByTheirSteps 63 = .ok (.iload_n 3, 1) := by decide +kernel
theorem dX8_onlyByTheirSteps_64 : decode cX8_onlyByTheirSteps 64 = .ok (.ishl, 1) := by decide +kernel
theorem dX8_onlyByTheirSteps_65 : decode cX8_onlyByTheirSteps 65 = .ok (.ior, 1) := by decide +kernel
theorem dX8_onlyByTheirSteps_66 : decode cX8_onlyByTheirSteps 66 = .ok (.istore_n 2, 1) := by decide +kernel
theorem dX8_onlyByTheirSteps_67 : decode cX8_onlyByTheirSteps 67 = .ok (.iinc 3 1, 3) := by decide +kernel
theorem dX8_onlyByTheirSteps_70 : decode cX8_onlyByTheirSteps 70 = .ok (.goto (-66), 3) := by decide +kernel
theorem dX8_onlyByTheirSteps_73 : decode cX8_onlyByTheirSteps 73 = .ok (.iload_n 2, 1) := by decide +kernel
theorem dX8_onlyByTheirSteps_74 : decode cX8_onlyByTheirSteps 74 = .ok (.ireturn, 1) := by decide +kernel
theorem dX8_standingFevered_0 : decode cX8_standingFevered 0 = .ok (.iconst 0, 1) := by decide +kernel
theorem dX8_standingFevered_1 : decode cX8_standingFevered 1 = .ok (.istore_n 2, 1) := by decide +kernel
theorem dX8_standingFevered_2 : decode cX8_standingFevered 2 = .ok (.iconst 0, 1) := by decide +kernel
theorem dX8_standingFevered_3 : decode cX8_standingFevered 3 = .ok (.istore_n 3, 1) := by decide +kernel
theorem dX8_standingFevered_4 : decode cX8_standingFevered 4 = .ok (.iload_n 3, 1) := by decide +kernel
theorem dX8_standingFevered_5 : decode cX8_standingFevered 5 = .ok (.aload_n 0, 1) := by decide +kernel
theorem dX8_standingFevered_6 : decode cX8_standingFevered 6 = .ok (.getfield 9, 3) := by decide +kernel
theorem dX8_standingFevered_9 : decode cX8_standingFevered 9 = .ok (.invokevirtual 21, 3) := by decide +kernel
theorem dX8_standingFevered_12 : decode cX8_standingFevered 12 = .ok (.if_icmp .ge 53, 3) := by decide +kernel
theorem dX8_standingFevered_15 : decode cX8_standingFevered 15 = .ok (.aload_n 0, 1) := by decide +kernel
theorem dX8_standingFevered_16 : decode cX8_standingFevered 16 = .ok (.getfield 9, 3) := by decide +kernel
theorem dX8_standingFevered_19 : decode cX8_standingFevered 19 = .ok (.iload_n 3, 1) := by decide +kernel
theorem dX8_standingFevered_20 : decode cX8_standingFevered 20 = .ok (.invokevirtual 56, 3) := by decide +kernel
theorem dX8_standingFevered_23 : decode cX8_standingFevered 23 = .ok (.sipush (-129), 3) := by decide +kernel
theorem dX8_standingFevered_26 : decode cX8_standingFevered 26 = .ok (.iand, 1) := by decide +kernel
theorem dX8_standingFevered_27 : decode cX8_standingFevered 27 = .ok (.istore 4, 2) := by decide +kernel
theorem dX8_standingFevered_29 : decode cX8_standingFevered 29 = .ok (.aload_n 0, 1) := by decide +kernel
theorem dX8_standingFevered_30 : decode cX8_standingFevered 30 = .ok (.getfield 9, 3) := by decide +kernel
theorem dX8_standingFevered_33 : decode cX8_standingFevered 33 = .ok (.iload_n 3, 1) := by decide +kernel
theorem dX8_standingFevered_34 : decode cX8_standingFevered 34 = .ok (.aload_n 0, 1) := by decide +kernel
theorem dX8_standingFevered_35 : decode cX8_standingFevered 35 = .ok (.getfield 9, 3) := by decide +kernel
theorem dX8_standingFevered_38 : decode cX8_standingFevered 38 = .ok (.iload_n 1, 1) := by decide +kernel
theorem dX8_standingFevered_39 : decode cX8_standingFevered 39 = .ok (.invokevirtual 82, 3) := by decide +kernel
theorem dX8_standingFevered_42 : decode cX8_standingFevered 42 = .ok (.invokevirtual 88, 3) := by decide +kernel
theorem dX8_standingFevered_45 : decode cX8_standingFevered 45 = .ok (.iload 4, 2) := by decide +kernel
theorem dX8_standingFevered_47 : decode cX8_standingFevered 47 = .ok (.iconst (-1), 1) := by decide +kernel
theorem dX8_standingFevered_48 : decode cX8_standingFevered 48 = .ok (.ixor, 1) := by decide +kernel
theorem dX8_standingFevered_49 : decode cX8_standingFevered 49 = .ok (.iand, 1) := by decide +kernel
theorem dX8_standingFevered_50 : decode cX8_standingFevered 50 = .ok (.ifCond .ne 9, 3) := by decide +kernel
theorem dX8_standingFevered_53 : decode cX8_standingFevered 53 = .ok (.iload_n 2, 1) := by decide +kernel
theorem dX8_standingFevered_54 : decode cX8_standingFevered 54 = .ok (.iconst 1, 1) := by decide +kernel
theorem dX8_standingFevered_55 : decode cX8_standingFevered 55 = .ok (.iload_n 3, 1) := by decide +kernel
theorem dX8_standingFevered_56 : decode cX8_standingFevered 56 = .ok (.ishl, 1) := by decide +kernel
theorem dX8_standingFevered_57 : decode cX8_standingFevered 57 = .ok (.ior, 1) := by decide +kernel
theorem dX8_standingFevered_58 : decode cX8_standingFevered 58 = .ok (.istore_n 2, 1) := by decide +kernel
theorem dX8_standingFevered_59 : decode cX8_standingFevered 59 = .ok (.iinc 3 1, 3) := by decide +kernel
theorem dX8_standingFevered_62 : decode cX8_standingFevered 62 = .ok (.goto (-58), 3) := by decide +kernel
theorem dX8_standingFevered_65 : decode cX8_standingFevered 65 = .ok (.iload_n 2, 1) := by decide +kernel
theorem dX8_standingFevered_66 : decode cX8_standingFevered 66 = .ok (.ireturn, 1) := by decide +kernel
theorem dX8_youngerStanding_0 : decode cX8_youngerStanding 0 = .ok (.iconst 0, 1) := by decide +kernel
theorem dX8_youngerStanding_1 : decode cX8_youngerStanding 1 = .ok (.istore_n 3, 1) := by decide +kernel
theorem dX8_youngerStanding_2 : decode cX8_youngerStanding 2 = .ok (.iconst 0, 1) := by decide +kernel
theorem dX8_youngerStanding_3 : decode cX8_youngerStanding 3 = .ok (.istore 4, 2) := by decide +kernel
theorem dX8_youngerStanding_5 : decode cX8_youngerStanding 5 = .ok (.iload 4, 2) := by decide +kernel
theorem dX8_youngerStanding_7 : decode cX8_youngerStanding 7 = .ok (.aload_n 0, 1) := by decide +kernel
theorem dX8_youngerStanding_8 : decode cX8_youngerStanding 8 = .ok (.getfield 9, 3) := by decide +kernel
theorem dX8_youngerStanding_11 : decode cX8_youngerStanding 11 = .ok (.invokevirtual 21, 3) := by decide +kernel
theorem dX8_youngerStanding_14 : decode cX8_youngerStanding 14 = .ok (.if_icmp .ge 54, 3) := by decide +kernel
theorem dX8_youngerStanding_17 : decode cX8_youngerStanding 17 = .ok (.aload_n 0, 1) := by decide +kernel
theorem dX8_youngerStanding_18 : decode cX8_youngerStanding 18 = .ok (.getfield 9, 3) := by decide +kernel
theorem dX8_youngerStanding_21 : decode cX8_youngerStanding 21 = .ok (.iload 4, 2) := by decide +kernel
theorem dX8_youngerStanding_23 : decode cX8_youngerStanding 23 = .ok (.iload_n 1, 1) := by decide +kernel
theorem dX8_youngerStanding_24 : decode cX8_youngerStanding 24 = .ok (.invokevirtual 40, 3) := by decide +kernel
theorem dX8_youngerStanding_27 : decode cX8_youngerStanding 27 = .ok (.ifCond .eq 35, 3) := by decide +kernel
theorem dX8_youngerStanding_30 : decode cX8_youngerStanding 30 = .ok (.aload_n 0, 1) := by decide +kernel
theorem dX8_youngerStanding_31 : decode cX8_youngerStanding 31 = .ok (.getfield 9, 3) := by decide +kernel
theorem dX8_youngerStanding_34 : decode cX8_youngerStanding 34 = .ok (.iload 4, 2) := by decide +kernel
theorem dX8_youngerStanding_36 : decode cX8_youngerStanding 36 = .ok (.invokevirtual 43, 3) := by decide +kernel
theorem dX8_youngerStanding_39 : decode cX8_youngerStanding 39 = .ok (.ifCond .eq 23, 3) := by decide +kernel
theorem dX8_youngerStanding_42 : decode cX8_youngerStanding 42 = .ok (.aload_n 0, 1) := by decide +kernel
theorem dX8_youngerStanding_43 : decode cX8_youngerStanding 43 = .ok (.getfield 9, 3) := by decide +kernel
theorem dX8_youngerStanding_46 : decode cX8_youngerStanding 46 = .ok (.iload 4, 2) := by decide +kernel
theorem dX8_youngerStanding_48 : decode cX8_youngerStanding 48 = .ok (.iload_n 2, 1) := by decide +kernel
theorem dX8_youngerStanding_49 : decode cX8_youngerStanding 49 = .ok (.invokevirtual 85, 3) := by decide +kernel
theorem dX8_youngerStanding_52 : decode cX8_youngerStanding 52 = .ok (.ifCond .eq 10, 3) := by decide +kernel
theorem dX8_youngerStanding_55 : decode cX8_youngerStanding 55 = .ok (.iload_n 3, 1) := by decide +kernel
theorem dX8_youngerStanding_56 : decode cX8_youngerStanding 56 = .ok (.iconst 1, 1) := by decide +kernel
theorem dX8_youngerStanding_57 : decode cX8_youngerStanding 57 = .ok (.iload 4, 2) := by decide +kernel
theorem dX8_youngerStanding_59 : decode cX8_youngerStanding 59 = .ok (.ishl, 1) := by decide +kernel
theorem dX8_youngerStanding_60 : decode cX8_youngerStanding 60 = .ok (.ior, 1) := by decide +kernel
theorem dX8_youngerStanding_61 : decode cX8_youngerStanding 61 = .ok (.istore_n 3, 1) := by decide +kernel
theorem dX8_youngerStanding_62 : decode cX8_youngerStanding 62 = .ok (.iinc 4 1, 3) := by decide +kernel
theorem dX8_youngerStanding_65 : decode cX8_youngerStanding 65 = .ok (.goto (-60), 3) := by decide +kernel
theorem dX8_youngerStanding_68 : decode cX8_youngerStanding 68 = .ok (.iload_n 3, 1) := by decide +kernel
theorem dX8_youngerStanding_69 : decode cX8_youngerStanding 69 = .ok (.ireturn, 1) := by decide +kernel
theorem dX8_rightInNursery_0 : decode cX8_rightInNursery 0 = .ok (.iconst 0, 1) := by decide +kernel
theorem dX8_rightInNursery_1 : decode cX8_rightInNursery 1 = .ok (.istore_n 2, 1) := by decide +kernel
theorem dX8_rightInNursery_2 : decode cX8_rightInNursery 2 = .ok (.iconst 0, 1) := by decide +kernel
theorem dX8_rightInNursery_3 : decode cX8_rightInNursery 3 = .ok (.istore_n 3, 1) := by decide +kernel
theorem dX8_rightInNursery_4 : decode cX8_rightInNursery 4 = .ok (.iload_n 3, 1) := by decide +kernel
theorem dX8_rightInNursery_5 : decode cX8_rightInNursery 5 = .ok (.aload_n 0, 1) := by decide +kernel
theorem dX8_rightInNursery_6 : decode cX8_rightInNursery 6 = .ok (.getfield 9, 3) := by decide +kernel
theorem dX8_rightInNursery_9 : decode cX8_rightInNursery 9 = .ok (.invokevirtual 21, 3) := by decide +kernel
theorem dX8_rightInNursery_12 : decode cX8_rightInNursery 12 = .ok (.if_icmp .ge 32, 3) := by decide +kernel
theorem dX8_rightInNursery_15 : decode cX8_rightInNursery 15 = .ok (.aload_n 0, 1) := by decide +kernel
theorem dX8_rightInNursery_16 : decode cX8_rightInNursery 16 = .ok (.getfield 9, 3) := by decide +kernel
theorem dX8_rightInNursery_19 : decode cX8_rightInNursery 19 = .ok (.iload_n 3, 1) := by decide +kernel
theorem dX8_rightInNursery_20 : decode cX8_rightInNursery 20 = .ok (.iload_n 1, 1) := by decide +kernel
theorem dX8_rightInNursery_21 : decode cX8_rightInNursery 21 = .ok (.invokevirtual 25, 3) := by decide +kernel
theorem dX8_rightInNursery_24 : decode cX8_rightInNursery 24 = .ok (.ifCond .eq 14, 3) := by decide +kernel
theorem dX8_rightInNursery_27 : decode cX8_rightInNursery 27 = .ok (.iload_n 2, 1) := by decide +kernel
theorem dX8_rightInNursery_28 : decode cX8_rightInNursery 28 = .ok (.aload_n 0, 1) := by decide +kernel
theorem dX8_rightInNursery_29 : decode cX8_rightInNursery 29 = .ok (.getfield 9, 3) := by decide +kernel
theorem dX8_rightInNursery_32 : decode cX8_rightInNursery 32 = .ok (.iload_n 3, 1) := by decide +kernel
theorem dX8_rightInNursery_33 : decode cX8_rightInNursery 33 = .ok (.invokevirtual 56, 3) := by decide +kernel
theorem dX8_rightInNursery_36 : decode cX8_rightInNursery 36 = .ok (.ior, 1) := by decide +kernel
theorem dX8_rightInNursery_37 : decode cX8_rightInNursery 37 = .ok (.istore_n 2, 1) := by decide +kernel
theorem dX8_rightInNursery_38 : decode cX8_rightInNursery 38 = .ok (.iinc 3 1, 3) := by decide +kernel
theorem dX8_rightInNursery_41 : decode cX8_rightInNursery 41 = .ok (.goto (-37), 3) := by decide +kernel
theorem dX8_rightInNursery_44 : decode cX8_rightInNursery 44 = .ok (.iload_n 2, 1) := by decide +kernel
theorem dX8_rightInNursery_45 : decode cX8_rightInNursery 45 = .ok (.ireturn, 1) := by decide +kernel
theorem dX8_eldersSatisfied_0 : decode cX8_eldersSatisfied 0 = .ok (.iconst 0, 1) := by decide +kernel
theorem dX8_eldersSatisfied_1 : decode cX8_eldersSatisfied 1 = .ok (.istore_n 2, 1) := by decide +kernel
theorem dX8_eldersSatisfied_2 : decode cX8_eldersSatisfied 2 = .ok (.iconst 0, 1) := by decide +kernel
theorem dX8_eldersSatisfied_3 : decode cX8_eldersSatisfied 3 = .ok (.istore_n 3, 1) := by decide +kernel
theorem dX8_eldersSatisfied_4 : decode cX8_eldersSatisfied 4 = .ok (.iload_n 3, 1) := by decide +kernel
theorem dX8_eldersSatisfied_5 : decode cX8_eldersSatisfied 5 = .ok (.aload_n 0, 1) := by decide +kernel
theorem dX8_eldersSatisfied_6 : decode cX8_eldersSatisfied 6 = .ok (.getfield 9, 3) := by decide +kernel
theorem dX8_eldersSatisfied_9 : decode cX8_eldersSatisfied 9 = .ok (.invokevirtual 46, 3) := by decide +kernel
theorem dX8_eldersSatisfied_12 : decode cX8_eldersSatisfied 12 = .ok (.if_icmp .ge 27, 3) := by decide +kernel
theorem dX8_eldersSatisfied_15 : decode cX8_eldersSatisfied 15 = .ok (.aload_n 0, 1) := by decide +kernel
theorem dX8_eldersSatisfied_16 : decode cX8_eldersSatisfied 16 = .ok (.getfield 9, 3) := by decide +kernel
theorem dX8_eldersSatisfied_19 : decode cX8_eldersSatisfied 19 = .ok (.iload_n 1, 1) := by decide +kernel
theorem dX8_eldersSatisfied_20 : decode cX8_eldersSatisfied 20 = .ok (.iload_n 3, 1) := by decide +kernel
theorem dX8_eldersSatisfied_21 : decode cX8_eldersSatisfied 21 = .ok (.invokevirtual 85, 3) := by decide +kernel
theorem dX8_eldersSatisfied_24 : decode cX8_eldersSatisfied 24 = .ok (.ifCond .eq 9, 3) := by decide +kernel
theorem dX8_eldersSatisfied_27 : decode cX8_eldersSatisfied 27 = .ok (.iload_n 2, 1) := by decide +kernel
theorem dX8_eldersSatisfied_28 : decode cX8_eldersSatisfied 28 = .ok (.iconst 1, 1) := by decide +kernel
theorem dX8_eldersSatisfied_29 : decode cX8_eldersSatisfied 29 = .ok (.iload_n 3, 1) := by decide +kernel
theorem dX8_eldersSatisfied_30 : decode cX8_eldersSatisfied 30 = .ok (.ishl, 1) := by decide +kernel
theorem dX8_eldersSatisfied_31 : decode cX8_eldersSatisfied 31 = .ok (.ior, 1) := by decide +kernel
theorem dX8_eldersSatisfied_32 : decode cX8_eldersSatisfied 32 = .ok (.istore_n 2, 1) := by decide +kernel
theorem dX8_eldersSatisfied_33 : decode cX8_eldersSatisfied 33 = .ok (.iinc 3 1, 3) := by decide +kernel
theorem dX8_eldersSatisfied_36 : decode cX8_eldersSatisfied 36 = .ok (.goto (-32), 3) := by decide +kernel
theorem dX8_eldersSatisfied_39 : decode cX8_eldersSatisfied 39 = .ok (.iload_n 2, 1) := by decide +kernel
theorem dX8_eldersSatisfied_40 : decode cX8_eldersSatisfied 40 = .ok (.ireturn, 1) := by decide +kernel
theorem dX8_fewestAbsent_0 : decode cX8_fewestAbsent 0 = .ok (.iconst (-1), 1) := by decide +kernel
theorem dX8_fewestAbsent_1 : decode cX8_fewestAbsent 1 = .ok (.istore_n 2, 1) := by decide +kernel
theorem dX8_fewestAbsent_2 : decode cX8_fewestAbsent 2 = .ok (.iconst 0, 1) := by decide +kernel
theorem dX8_fewestAbsent_3 : decode cX8_fewestAbsent 3 = .ok (.istore_n 3, 1) := by decide +kernel
theorem dX8_fewestAbsent_4 : decode cX8_fewestAbsent 4 = .ok (.iload_n 3, 1) := by decide +kernel
theorem dX8_fewestAbsent_5 : decode cX8_fewestAbsent 5 = .ok (.iconst 1, 1) := by decide +kernel
theorem dX8_fewestAbsent_6 : decode cX8_fewestAbsent 6 = .ok (.aload_n 0, 1) := by decide +kernel
theorem dX8_fewestAbsent_7 : decode cX8_fewestAbsent 7 = .ok (.getfield 9, 3) := by decide +kernel
theorem dX8_fewestAbsent_10 : decode cX8_fewestAbsent 10 = .ok (.invokevirtual 46, 3) := by decide +kernel
theorem dX8_fewestAbsent_13 : decode cX8_fewestAbsent 13 = .ok (.ishl, 1) := by decide +kernel
theorem dX8_fewestAbsent_14 : decode cX8_fewestAbsent 14 = .ok (.if_icmp .ge 68, 3) := by decide +kernel
theorem dX8_fewestAbsent_17 : decode cX8_fewestAbsent 17 = .ok (.aload_n 0, 1) := by decide +kernel
theorem dX8_fewestAbsent_18 : decode cX8_fewestAbsent 18 = .ok (.getfield 9, 3) := by decide +kernel
theorem dX8_fewestAbsent_21 : decode cX8_fewestAbsent 21 = .ok (.iload_n 3, 1) := by decide +kernel
theorem dX8_fewestAbsent_22 : decode cX8_fewestAbsent 22 = .ok (.invokevirtual 91, 3) := by decide +kernel
theorem dX8_fewestAbsent_25 : decode cX8_fewestAbsent 25 = .ok (.istore 4, 2) := by decide +kernel
theorem dX8_fewestAbsent_27 : decode cX8_fewestAbsent 27 = .ok (.iload 4, 2) := by decide +kernel
theorem dX8_fewestAbsent_29 : decode cX8_fewestAbsent 29 = .ok (.iconst (-1), 1) := by decide +kernel
theorem dX8_fewestAbsent_30 : decode cX8_fewestAbsent 30 = .ok (.if_icmp .eq 20, 3) := by decide +kernel
theorem dX8_fewestAbsent_33 : decode cX8_fewestAbsent 33 = .ok (.aload_n 0, 1) := by decide +kernel
theorem dX8_fewestAbsent_34 : decode cX8_fewestAbsent 34 = .ok (.getfield 9, 3) := by decide +kernel
theorem dX8_fewestAbsent_37 : decode cX8_fewestAbsent 37 = .ok (.iload_n 1, 1) := by decide +kernel
theorem dX8_fewestAbsent_38 : decode cX8_fewestAbsent 38 = .ok (.iload 4, 2) := by decide +kernel
theorem dX8_fewestAbsent_40 : decode cX8_fewestAbsent 40 = .ok (.invokevirtual 85, 3) := by decide +kernel
theorem dX8_fewestAbsent_43 : decode cX8_fewestAbsent 43 = .ok (.ifCond .eq 7, 3) := by decide +kernel
theorem dX8_fewestAbsent_46 : decode cX8_fewestAbsent 46 = .ok (.iconst 1, 1) := by decide +kernel
theorem dX8_fewestAbsent_47 : decode cX8_fewestAbsent 47 = .ok (.goto 4, 3) := by decide +kernel
theorem dX8_fewestAbsent_50 : decode cX8_fewestAbsent 50 = .ok (.iconst 0, 1) := by decide +kernel
theorem dX8_fewestAbsent_51 : decode cX8_fewestAbsent 51 = .ok (.istore 5, 2) := by decide +kernel
theorem dX8_fewestAbsent_53 : decode cX8_fewestAbsent 53 = .ok (.iload 5, 2) := by decide +kernel
theorem dX8_fewestAbsent_55 : decode cX8_fewestAbsent 55 = .ok (.ifCond .eq 21, 3) := by decide +kernel
theorem dX8_fewestAbsent_58 : decode cX8_fewestAbsent 58 = .ok (.iload_n 2, 1) := by decide +kernel
theorem dX8_fewestAbsent_59 : decode cX8_fewestAbsent 59 = .ok (.iconst (-1), 1) := by decide +kernel
theorem dX8_fewestAbsent_60 : decode cX8_fewestAbsent 60 = .ok (.if_icmp .eq 14, 3) := by decide +kernel
theorem dX8_fewestAbsent_63 : decode cX8_fewestAbsent 63 = .ok (.iload_n 3, 1) := by decide +kernel
theorem dX8_fewestAbsent_64 : decode cX8_fewestAbsent 64 = .ok (.invokestatic 71, 3) := by decide +kernel
theorem dX8_fewestAbsent_67 : decode cX8_fewestAbsent 67 = .ok (.iload_n 2, 1) := by decide +kernel
theorem dX8_fewestAbsent_68 : decode cX8_fewestAbsent 68 = .ok (.invokestatic 71, 3) := by decide +kernel
theorem dX8_fewestAbsent_71 : decode cX8_fewestAbsent 71 = .ok (.if_icmp .ge 5, 3) := by decide +kernel
theorem dX8_fewestAbsent_74 : decode cX8_fewestAbsent 74 = .ok (.iload_n 3, 1) := by decide +kernel
theorem dX8_fewestAbsent_75 : decode cX8_fewestAbsent 75 = .ok (.istore_n 2, 1) := by decide +kernel
theorem dX8_fewestAbsent_76 : decode cX8_fewestAbsent 76 = .ok (.iinc 3 1, 3) := by decide +kernel
theorem dX8_fewestAbsent_79 : decode cX8_fewestAbsent 79 = .ok (.goto (-75), 3) := by decide +kernel
theorem dX8_fewestAbsent_82 : decode cX8_fewestAbsent 82 = .ok (.iload_n 2, 1) := by decide +kernel
theorem dX8_fewestAbsent_83 : decode cX8_fewestAbsent 83 = .ok (.ireturn, 1) := by decide +kernel
theorem dX8_inOrderOfAge_0 : decode cX8_inOrderOfAge 0 = .ok (.iconst 0, 1) := by decide +kernel
theorem dX8_inOrderOfAge_1 : decode cX8_inOrderOfAge 1 = .ok (.istore_n 2, 1) := by decide +kernel
theorem dX8_inOrderOfAge_2 : decode cX8_inOrderOfAge 2 = .ok (.iload_n 2, 1) := by decide +kernel
theorem dX8_inOrderOfAge_3 : decode cX8_inOrderOfAge 3 = .ok (.aload_n 0, 1) := by decide +kernel
theorem dX8_inOrderOfAge_4 : decode cX8_inOrderOfAge 4 = .ok (.getfield 9, 3) := by decide +kernel
theorem dX8_inOrderOfAge_7 : decode cX8_inOrderOfAge 7 = .ok (.invokevirtual 21, 3) := by decide +kernel
theorem dX8_inOrderOfAge_10 : decode cX8_inOrderOfAge 10 = .ok (.if_icmp .ge 60, 3) := by decide +kernel
theorem dX8_inOrderOfAge_13 : decode cX8_inOrderOfAge 13 = .ok (.iconst 0, 1) := by decide +kernel
theorem dX8_inOrderOfAge_14 : decode cX8_inOrderOfAge 14 = .ok (.istore_n 3, 1) := by decide +kernel
theorem dX8_inOrderOfAge_15 : decode cX8_inOrderOfAge 15 = .ok (.iconst 0, 1) := by decide +kernel
theorem dX8_inOrderOfAge_16 : decode cX8_inOrderOfAge 16 = .ok (.istore 4, 2) := by decide +kernel
theorem dX8_inOrderOfAge_18 : decode cX8_inOrderOfAge 18 = .ok (.iload 4, 2) := by decide +kernel
theorem dX8_inOrderOfAge_20 : decode cX8_inOrderOfAge 20 = .ok (.aload_n 0, 1) := by decide +kernel
theorem dX8_inOrderOfAge_21 : decode cX8_inOrderOfAge 21 = .ok (.getfield 9, 3) := by decide +kernel
theorem dX8_inOrderOfAge_24 : decode cX8_inOrderOfAge 24 = .ok (.invokevirtual 21, 3) := by decide +kernel
theorem dX8_inOrderOfAge_27 : decode cX8_inOrderOfAge 27 = .ok (.if_icmp .ge 30, 3) := by decide +kernel
theorem dX8_inOrderOfAge_30 : decode cX8_inOrderOfAge 30 = .ok (.iload_n 3, 1) := by decide +kernel
theorem dX8_inOrderOfAge_31 : decode cX8_inOrderOfAge 31 = .ok (.aload_n 0, 1) := by decide +kernel
theorem dX8_inOrderOfAge_32 : decode cX8_inOrderOfAge 32 = .ok (.getfield 9, 3) := by decide +kernel
theorem dX8_inOrderOfAge_35 : decode cX8_inOrderOfAge 35 = .ok (.iload 4, 2) := by decide +kernel
theorem dX8_inOrderOfAge_37 : decode cX8_inOrderOfAge 37 = .ok (.iload_n 2, 1) := by decide +kernel
theorem dX8_inOrderOfAge_38 : decode cX8_inOrderOfAge 38 = .ok (.invokevirtual 94, 3) := by decide +kernel
theorem dX8_inOrderOfAge_41 : decode cX8_inOrderOfAge 41 = .ok (.ifCond .eq 7, 3) := by decide +kernel
theorem dX8_inOrderOfAge_44 : decode cX8_inOrderOfAge 44 = .ok (.iconst 1, 1) := by decide +kernel
theorem dX8_inOrderOfAge_45 : decode cX8_inOrderOfAge 45 = .ok (.goto 4, 3) := by decide +kernel
theorem dX8_inOrderOfAge_48 : decode cX8_inOrderOfAge 48 = .ok (.iconst 0, 1) := by decide +kernel
theorem dX8_inOrderOfAge_49 : decode cX8_inOrderOfAge 49 = .ok (.iadd, 1) := by decide +kernel
theorem dX8_inOrderOfAge_50 : decode cX8_inOrderOfAge 50 = .ok (.istore_n 3, 1) := by decide +kernel
theorem dX8_inOrderOfAge_51 : decode cX8_inOrderOfAge 51 = .ok (.iinc 4 1, 3) := by decide +kernel
theorem dX8_inOrderOfAge_54 : decode cX8_inOrderOfAge 54 = .ok (.goto (-36), 3) := by decide +kernel
theorem dX8_inOrderOfAge_57 : decode cX8_inOrderOfAge 57 = .ok (.iload_n 3, 1) := by decide +kernel
theorem dX8_inOrderOfAge_58 : decode cX8_inOrderOfAge 58 = .ok (.iload_n 1, 1) := by decide +kernel
theorem dX8_inOrderOfAge_59 : decode cX8_inOrderOfAge 59 = .ok (.if_icmp .ne 5, 3) := by decide +kernel
theorem dX8_inOrderOfAge_62 : decode cX8_inOrderOfAge 62 = .ok (.iload_n 2, 1) := by decide +kernel
theorem dX8_inOrderOfAge_63 : decode cX8_inOrderOfAge 63 = .ok (.ireturn, 1) := by decide +kernel
theorem dX8_inOrderOfAge_64 : decode cX8_inOrderOfAge 64 = .ok (.iinc 2 1, 3) := by decide +kernel
theorem dX8_inOrderOfAge_67 : decode cX8_inOrderOfAge 67 = .ok (.goto (-65), 3) := by decide +kernel
theorem dX8_inOrderOfAge_70 : decode cX8_inOrderOfAge 70 = .ok (.iconst (-1), 1) := by decide +kernel
theorem dX8_inOrderOfAge_71 : decode cX8_inOrderOfAge 71 = .ok (.ireturn, 1) := by decide +kernel
theorem dX4_worth_0 : decode cX4_worth 0 = .ok (.aload_n 0, 1) := by decide +kernel
theorem dX4_worth_1 : decode cX4_worth 1 = .ok (.iconst 0, 1) := by decide +kernel
theorem dX4_worth_2 : decode cX4_worth 2 = .ok (.putfield 34, 3) := by decide +kernel
theorem dX4_worth_5 : decode cX4_worth 5 = .ok (.iconst 0, 1) := by decide +kernel
theorem dX4_worth_6 : decode cX4_worth 6 = .ok (.istore_n 2, 1) := by decide +kernel
theorem dX4_worth_7 : decode cX4_worth 7 = .ok (.iload_n 2, 1) := by decide +kernel
theorem dX4_worth_8 : decode cX4_worth 8 = .ok (.aload_n 0, 1) := by decide +kernel
theorem dX4_worth_9 : decode cX4_worth 9 = .ok (.getfield 21, 3) := by decide +kernel
theorem dX4_worth_12 : decode cX4_worth 12 = .ok (.arraylength, 1) := by decide +kernel
theorem dX4_worth_13 : decode cX4_worth 13 = .ok (.if_icmp .ge 153, 3) := by decide +kernel
theorem dX4_worth_16 : decode cX4_worth 16 = .ok (.aload_n 0, 1) := by decide +kernel
theorem dX4_worth_17 : decode cX4_worth 17 = .ok (.getfield 21, 3) := by decide +kernel
theorem dX4_worth_20 : decode cX4_worth 20 = .ok (.iload_n 2, 1) := by decide +kernel
theorem dX4_worth_21 : decode cX4_worth 21 = .ok (.iaload, 1) := by decide +kernel
theorem dX4_worth_22 : decode cX4_worth 22 = .ok (.sipush 10000, 3) := by decide +kernel
theorem dX4_worth_25 : decode cX4_worth 25 = .ok (.isub, 1) := by decide +kernel
theorem dX4_worth_26 : decode cX4_worth 26 = .ok (.istore_n 3, 1) := by decide +kernel
theorem dX4_worth_27 : decode cX4_worth 27 = .ok (.iload_n 3, 1) := by decide +kernel
theorem dX4_worth_28 : decode cX4_worth 28 = .ok (.bipush 59, 2) := by decide +kernel
theorem dX4_worth_30 : decode cX4_worth 30 = .ok (.if_icmp .ne 8, 3) := by decide +kernel
theorem dX4_worth_33 : decode cX4_worth 33 = .ok (.aload_n 0, 1) := by decide +kernel
theorem dX4_worth_34 : decode cX4_worth 34 = .ok (.invokevirtual 38, 3) := by decide +kernel
theorem dX4_worth_37 : decode cX4_worth 37 = .ok (.ireturn, 1) := by decide +kernel
theorem dX4_worth_38 : decode cX4_worth 38 = .ok (.iload_n 3, 1) := by decide +kernel
theorem dX4_worth_39 : decode cX4_worth 39 = .ok (.ifCond .ge 7, 3) := by decide +kernel
theorem dX4_worth_42 : decode cX4_worth 42 = .ok (.iconst (-1), 1) := by decide +kernel
theorem dX4_worth_43 : decode cX4_worth 43 = .ok (.goto 10, 3) := by decide +kernel
theorem dX4_worth_46 : decode cX4_worth 46 = .ok (.ldc 41, 2) := by decide +kernel
theorem dX4_worth_48 : decode cX4_worth 48 = .ok (.iload_n 3, 1) := by decide +kernel
theorem dX4_worth_49 : decode cX4_worth 49 = .ok (.i2c, 1) := by decide +kernel
theorem dX4_worth_50 : decode cX4_worth 50 = .ok (.invokevirtual 43, 3) := by decide +kernel
theorem dX4_worth_53 : decode cX4_worth 53 = .ok (.istore 4, 2) := by decide +kernel
theorem dX4_worth_55 : decode cX4_worth 55 = .ok (.iload_n 3, 1) := by decide +kernel
theorem dX4_worth_56 : decode cX4_worth 56 = .ok (.ifCond .ge 16, 3) := by decide +kernel
theorem dX4_worth_59 : decode cX4_worth 59 = .ok (.aload_n 0, 1) := by decide +kernel
theorem dX4_worth_60 : decode cX4_worth 60 = .ok (.aload_n 0, 1) := by decide +kernel
theorem dX4_worth_61 : decode cX4_worth 61 = .ok (.getfield 21, 3) := by decide +kernel
theorem dX4_worth_64 : decode cX4_worth 64 = .ok (.iload_n 2, 1) := by decide +kernel
theorem dX4_worth_65 : decode cX4_worth 65 = .ok (.iaload, 1) := by decide +kernel
theorem dX4_worth_66 : decode cX4_worth 66 = .ok (.invokevirtual 48, 3) := by decide +kernel
theorem dX4_worth_69 : decode cX4_worth 69 = .ok (.goto 91, 3) := by decide +kernel
theorem dX4_worth_72 : decode cX4_worth 72 = .ok (.iload 4, 2) := by decide +kernel
theorem dX4_worth_74 : decode cX4_worth 74 = .ok (.ifCond .lt 21, 3) := by decide +kernel
theorem dX4_worth_77 : decode cX4_worth 77 = .ok (.iload 4, 2) := by decide +kernel
theorem dX4_worth_79 : decode cX4_worth 79 = .ok (.aload_n 1, 1) := by decide +kernel
theorem dX4_worth_80 : decode cX4_worth 80 = .ok (.arraylength, 1) := by decide +kernel
theorem dX4_worth_81 : decode cX4_worth 81 = .ok (.if_icmp .ge 14, 3) := by decide +kernel
theorem dX4_worth_84 : decode cX4_worth 84 = .ok (.aload_n 0, 1) := by decide +kernel
theorem dX4_worth_85 : decode cX4_worth 85 = .ok (.aload_n 1, 1) := by decide +kernel
theorem dX4_worth_86 : decode cX4_worth 86 = .ok (.iload 4, 2) := by decide +kernel
theorem dX4_worth_88 : decode cX4_worth 88 = .ok (.iaload, 1) := by decide +kernel
theorem dX4_worth_89 : decode cX4_worth 89 = .ok (.invokevirtual 48, 3) := by decide +kernel
theorem dX4_worth_92 : decode cX4_worth 92 = .ok (.goto 68, 3) := by decide +kernel
theorem dX4_worth_95 : decode cX4_worth 95 = .ok (.iload_n 3, 1) := by decide +kernel
theorem dX4_worth_96 : decode cX4_worth 96 = .ok (.bipush 63, 2) := by decide +kernel
theorem dX4_worth_98 : decode cX4_worth 98 = .ok (.if_icmp .ne 23, 3) := by decide +kernel
theorem dX4_worth_101 : decode cX4_worth 101 = .ok (.aload_n 0, 1) := by decide +kernel
theorem dX4_worth_102 : decode cX4_worth 102 = .ok (.invokevirtual 38, 3) := by decide +kernel
theorem dX4_worth_105 : decode cX4_worth 105 = .ok (.ifCond .ne 11, 3) := by decide +kernel
theorem dX4_worth_108 : decode cX4_worth 108 = .ok (.aload_n 0, 1) := by decide +kernel
theorem dX4_worth_109 : decode cX4_worth 109 = .ok (.iload_n 2, 1) := by decide +kernel
theorem dX4_worth_110 : decode cX4_worth 110 = .ok (.invokevirtual 52, 3) := by decide +kernel
theorem dX4_worth_113 : decode cX4_worth 113 = .ok (.goto 4, 3) := by decide +kernel
theorem dX4_worth_116 : decode cX4_worth 116 = .ok (.iload_n 2, 1) := by decide +kernel
theorem dX4_worth_117 : decode cX4_worth 117 = .ok (.istore_n 2, 1) := by decide +kernel
theorem dX4_worth_118 : decode cX4_worth 118 = .ok (.goto 42, 3) := by decide +kernel
theorem dX4_worth_121 : decode cX4_worth 121 = .ok (.iload_n 3, 1) := by decide +kernel
theorem dX4_worth_122 : decode cX4_worth 122 = .ok (.bipush 33, 2) := by decide +kernel
theorem dX4_worth_124 : decode cX4_worth 124 = .ok (.if_icmp .ne 16, 3) := by decide +kernel
theorem dX4_worth_127 : decode cX4_worth 127 = .ok (.aload_n 0, 1) := by decide +kernel
theorem dX4_worth_128 : decode cX4_worth 128 = .ok (.iconst 1, 1) := by decide +kernel
theorem dX4_worth_129 : decode cX4_worth 129 = .ok (.aload_n 0, 1) := by decide +kernel
theorem dX4_worth_130 : decode cX4_worth 130 = .ok (.invokevirtual 38, 3) := by decide +kernel
theorem dX4_worth_133 : decode cX4_worth 133 = .ok (.isub, 1) := by decide +kernel
theorem dX4_worth_134 : decode cX4_worth 134 = .ok (.invokevirtual 48, 3) := by decide +kernel
theorem dX4_worth_137 : decode cX4_worth 137 = .ok (.goto 23, 3) := by decide +kernel
theorem dX4_worth_140 : decode cX4_worth 140 = .ok (.aload_n 0, 1) := by decide +kernel
theorem dX4_worth_141 : decode cX4_worth 141 = .ok (.invokevirtual 38, 3) := by decide +kernel
theorem dX4_worth_144 : decode cX4_worth 144 = .ok (.istore 5, 2) := by decide +kernel
theorem dX4_worth_146 : decode cX4_worth 146 = .ok (.aload_n 0, 1) := by decide +kernel
theorem dX4_worth_147 : decode cX4_worth 147 = .ok (.aload_n 0, 1) := by decide +kernel
theorem dX4_worth_148 : decode cX4_worth 148 = .ok (.invokevirtual 38, 3) := by decide +kernel
theorem dX4_worth_151 : decode cX4_worth 151 = .ok (.iload_n 3, 1) := by decide +kernel
theorem dX4_worth_152 : decode cX4_worth 152 = .ok (.iload 5, 2) := by decide +kernel
theorem dX4_worth_154 : decode cX4_worth 154 = .ok (.invokestatic 55, 3) := by decide +kernel
theorem dX4_worth_157 : decode cX4_worth 157 = .ok (.invokevirtual 48, 3) := by decide +kernel
theorem dX4_worth_160 : decode cX4_worth 160 = .ok (.iinc 2 1, 3) := by decide +kernel
theorem dX4_worth_163 : decode cX4_worth 163 = .ok (.goto (-156), 3) := by decide +kernel
theorem dX4_worth_166 : decode cX4_worth 166 = .ok (.iconst 0, 1) := by decide +kernel
theorem dX4_worth_167 : decode cX4_worth 167 = .ok (.ireturn, 1) := by decide +kernel
theorem dX4_endOfClause_0 : decode cX4_endOfClause 0 = .ok (.iload_n 1, 1) := by decide +kernel
theorem dX4_endOfClause_1 : decode cX4_endOfClause 1 = .ok (.istore_n 2, 1) := by decide +kernel
theorem dX4_endOfClause_2 : decode cX4_endOfClause 2 = .ok (.iload_n 2, 1) := by decide +kernel
theorem dX4_endOfClause_3 : decode cX4_endOfClause 3 = .ok (.aload_n 0, 1) := by decide +kernel
theorem dX4_endOfClause_4 : decode cX4_endOfClause 4 = .ok (.getfield 21, 3) := by decide +kernel
theorem dX4_endOfClause_7 : decode cX4_endOfClause 7 = .ok (.arraylength, 1) := by decide +kernel
theorem dX4_endOfClause_8 : decode cX4_endOfClause 8 = .ok (.if_icmp .ge 23, 3) := by decide +kernel
theorem dX4_endOfClause_11 : decode cX4_endOfClause 11 = .ok (.aload_n 0, 1) := by decide +kernel
theorem dX4_endOfClause_12 : decode cX4_endOfClause 12 = .ok (.getfield 21, 3) := by decide +kernel
theorem dX4_endOfClause_15 : decode cX4_endOfClause 15 = .ok (.iload_n 2, 1) := by decide +kernel
theorem dX4_endOfClause_16 : decode cX4_endOfClause 16 = .ok (.iaload, 1) := by decide +kernel
theorem dX4_endOfClause_17 : decode cX4_endOfClause 17 = .ok (.sipush 10059, 3) := by decide +kernel
theorem dX4_endOfClause_20 : decode cX4_endOfClause 20 = .ok (.if_icmp .ne 5, 3) := by decide +kernel
theorem dX4_endOfClause_23 : decode cX4_endOfClause 23 = .ok (.iload_n 2, 1) := by decide +kernel
theorem dX4_endOfClause_24 : decode cX4_endOfClause 24 = .ok (.ireturn, 1) := by decide +kernel
theorem dX4_endOfClause_25 : decode cX4_endOfClause 25 = .ok (.iinc 2 1, 3) := by decide +kernel
theorem dX4_endOfClause_28 : decode cX4_endOfClause 28 = .ok (.goto (-26), 3) := by decide +kernel
theorem dX4_endOfClause_31 : decode cX4_endOfClause 31 = .ok (.aload_n 0, 1) := by decide +kernel
theorem dX4_endOfClause_32 : decode cX4_endOfClause 32 = .ok (.getfield 21, 3) := by decide +kernel
theorem dX4_endOfClause_35 : decode cX4_endOfClause 35 = .ok (.arraylength, 1) := by decide +kernel
theorem dX4_endOfClause_36 : decode cX4_endOfClause 36 = .ok (.ireturn, 1) := by decide +kernel
theorem dX4_push_0 : decode cX4_push 0 = .ok (.aload_n 0, 1) := by decide +kernel
theorem dX4_push_1 : decode cX4_push 1 = .ok (.getfield 34, 3) := by decide +kernel
theorem dX4_push_4 : decode cX4_push 4 = .ok (.aload_n 0, 1) := by decide +kernel
theorem dX4_push_5 : decode cX4_push 5 = .ok (.getfield 31, 3) := by decide +kernel
theorem dX4_push_8 : decode cX4_push 8 = .ok (.arraylength, 1) := by decide +kernel
theorem dX4_push_9 : decode cX4_push 9 = .ok (.if_icmp .ge 23, 3) := by decide +kernel
theorem dX4_push_12 : decode cX4_push 12 = .ok (.aload_n 0, 1) := by decide +kernel
theorem dX4_push_13 : decode cX4_push 13 = .ok (.getfield 31, 3) := by decide +kernel
theorem dX4_push_16 : decode cX4_push 16 = .ok (.aload_n 0, 1) := by decide +kernel
theorem dX4_push_17 : decode cX4_push 17 = .ok (.getfield 34, 3) := by decide +kernel
theorem dX4_push_20 : decode cX4_push 20 = .ok (.iload_n 1, 1) := by decide +kernel
theorem dX4_push_21 : decode cX4_push 21 = .ok (.iastore, 1) := by decide +kernel
theorem dX4_push_22 : decode cX4_push 22 = .ok (.aload_n 0, 1) := by decide +kernel
theorem dX4_push_23 : decode cX4_push 23 = .ok (.dup, 1) := by decide +kernel
theorem dX4_push_24 : decode cX4_push 24 = .ok (.getfield 34, 3) := by decide +kernel
theorem dX4_push_27 : decode cX4_push 27 = .ok (.iconst 1, 1) := by decide +kernel
theorem dX4_push_28 : decode cX4_push 28 = .ok (.iadd, 1) := by decide +kernel
theorem dX4_push_29 : decode cX4_push 29 = .ok (.putfield 34, 3) := by decide +kernel
theorem dX4_push_32 : decode cX4_push 32 = .ok (.return_, 1) := by decide +kernel
theorem dX4_pop_0 : decode cX4_pop 0 = .ok (.aload_n 0, 1) := by decide +kernel
theorem dX4_pop_1 : decode cX4_pop 1 = .ok (.getfield 34, 3) := by decide +kernel
theorem dX4_pop_4 : decode cX4_pop 4 = .ok (.ifCond .le 15, 3) := by decide +kernel
theorem dX4_pop_7 : decode cX4_pop 7 = .ok (.aload_n 0, 1) := by decide +kernel
theorem dX4_pop_8 : decode cX4_pop 8 = .ok (.getfield 34, 3) := by decide +kernel
theorem dX4_pop_11 : decode cX4_pop 11 = .ok (.aload_n 0, 1) := by decide +kernel
theorem dX4_pop_12 : decode cX4_pop 12 = .ok (.getfield 31, 3) := by decide +kernel
theorem dX4_pop_15 : decode cX4_pop 15 = .ok (.arraylength, 1) := by decide +kernel
theorem dX4_pop_16 : decode cX4_pop 16 = .ok (.if_icmp .le 5, 3) := by decide +kernel
theorem dX4_pop_19 : decode cX4_pop 19 = .ok (.iconst 0, 1) := by decide +kernel
theorem dX4_pop_20 : decode cX4_pop 20 = .ok (.ireturn, 1) := by decide +kernel
theorem dX4_pop_21 : decode cX4_pop 21 = .ok (.aload_n 0, 1) := by decide +kernel
theorem dX4_pop_22 : decode cX4_pop 22 = .ok (.dup, 1) := by decide +kernel
theorem dX4_pop_23 : decode cX4_pop 23 = .ok (.getfield 34, 3) := by decide +kernel
theorem dX4_pop_26 : decode cX4_pop 26 = .ok (.iconst 1, 1) := by decide +kernel
theorem dX4_pop_27 : decode cX4_pop 27 = .ok (.isub, 1) := by decide +kernel
theorem dX4_pop_28 : decode cX4_pop 28 = .ok (.putfield 34, 3) := by decide +kernel
theorem dX4_pop_31 : decode cX4_pop 31 = .ok (.aload_n 0, 1) := by decide +kernel
theorem dX4_pop_32 : decode cX4_pop 32 = .ok (.getfield 31, 3) := by decide +kernel
theorem dX4_pop_35 : decode cX4_pop 35 = .ok (.aload_n 0, 1) := by decide +kernel
theorem dX4_pop_36 : decode cX4_pop 36 = .ok (.getfield 34, 3) := by decide +kernel
theorem dX4_pop_39 : decode cX4_pop 39 = .ok (.iaload, 1) := by decide +kernel
theorem dX4_pop_40 : decode cX4_pop 40 = .ok (.ireturn, 1) := by decide +kernel
theorem dX4_reckon_0 : decode cX4_reckon 0 = .ok (.iload_n 1, 1) := by decide +kernel
theorem dX4_reckon_1 : decode cX4_reckon 1 = .ok (.lookupswitch 168 #[(38, 160), (42, 101), (43, 83), (45, 92), (47, 110), (60, 138), (61, 127), (62, 149), (124, 164)], 83) := by decide +kernel
theorem dX4_reckon_84 : decode cX4_reckon 84 = .ok (.iload_n 0, 1) := by decide +kernel
theorem dX4_reckon_85 : decode cX4_reckon 85 = .ok (.i2l, 1) := by decide +kernel
theorem dX4_reckon_86 : decode cX4_reckon 86 = .ok (.iload_n 2, 1) := by decide +kernel
theorem dX4_reckon_87 : decode cX4_reckon 87 = .ok (.i2l, 1) := by decide +kernel
theorem dX4_reckon_88 : decode cX4_reckon 88 = .ok (.ladd, 1) := by decide +kernel
theorem dX4_reckon_89 : decode cX4_reckon 89 = .ok (.invokestatic 59, 3) := by decide +kernel
theorem dX4_reckon_92 : decode cX4_reckon 92 = .ok (.ireturn, 1) := by decide +kernel
theorem dX4_reckon_93 : decode cX4_reckon 93 = .ok (.iload_n 0, 1) := by decide +kernel
theorem dX4_reckon_94 : decode cX4_reckon 94 = .ok (.i2l, 1) := by decide +kernel
theorem dX4_reckon_95 : decode cX4_reckon 95 = .ok (.iload_n 2, 1) := by decide +kernel
theorem dX4_reckon_96 : decode cX4_reckon 96 = .ok (.i2l, 1) := by decide +kernel
theorem dX4_reckon_97 : decode cX4_reckon 97 = .ok (.lsub, 1) := by decide +kernel
theorem dX4_reckon_98 : decode cX4_reckon 98 = .ok (.invokestatic 59, 3) := by decide +kernel
theorem dX4_reckon_101 : decode cX4_reckon 101 = .ok (.ireturn, 1) := by decide +kernel
theorem dX4_reckon_102 : decode cX4_reckon 102 = .ok (.iload_n 0, 1) := by decide +kernel
theorem dX4_reckon_103 : decode cX4_reckon 103 = .ok (.i2l, 1) := by decide +kernel
theorem dX4_reckon_104 : decode cX4_reckon 104 = .ok (.iload_n 2, 1) := by decide +kernel
theorem dX4_reckon_105 : decode cX4_reckon 105 = .ok (.i2l, 1) := by decide +kernel
theorem dX4_reckon_106 : decode cX4_reckon 106 = .ok (.lmul, 1) := by decide +kernel
theorem dX4_reckon_107 : decode cX4_reckon 107 = .ok (.invokestatic 59, 3) := by decide +kernel
theorem dX4_reckon_110 : decode cX4_reckon 110 = .ok (.ireturn, 1) := by decide +kernel
theorem dX4_reckon_111 : decode cX4_reckon 111 = .ok (.iload_n 2, 1) := by decide +kernel
theorem dX4_reckon_112 : decode cX4_reckon 112 = .ok (.ifCond .ne 7, 3) := by decide +kernel
theorem dX4_reckon_115 : decode cX4_reckon 115 = .ok (.iconst 0, 1) := by decide +kernel
theorem dX4_reckon_116 : decode cX4_reckon 116 = .ok (.goto 11, 3) := by decide +kernel
theorem dX4_reckon_119 : decode cX4_reckon 119 = .ok (.iload_n 0, 1) := by decide +kernel
theorem dX4_reckon_120 : decode cX4_reckon 120 = .ok (.i2l, 1) := by decide +kernel
theorem dX4_reckon_121 : decode cX4_reckon 121 = .ok (.iload_n 2, 1) := by decide +kernel
theorem dX4_reckon_122 : decode cX4_reckon 122 = .ok (.i2l, 1) := by decide +kernel
theorem dX4_reckon_123 : decode cX4_reckon 123 = .ok (.ldiv, 1) := by decide +kernel
theorem dX4_reckon_124 : decode cX4_reckon 124 = .ok (.invokestatic 59, 3) := by decide +kernel
theorem dX4_reckon_127 : decode cX4_reckon 127 = .ok (.ireturn, 1) := by decide +kernel
theorem dX4_reckon_128 : decode cX4_reckon 128 = .ok (.iload_n 0, 1) := by decide +kernel
theorem dX4_reckon_129 : decode cX4_reckon 129 = .ok (.iload_n 2, 1) := by decide +kernel
theorem dX4_reckon_130 : decode cX4_reckon 130 = .ok (.if_icmp .ne 7, 3) := by decide +kernel
theorem dX4_reckon_133 : decode cX4_reckon 133 = .ok (.iconst 1, 1) := by decide +kernel
theorem dX4_reckon_134 : decode cX4_reckon 134 = .ok (.goto 4, 3) := by decide +kernel
theorem dX4_reckon_137 : decode cX4_reckon 137 = .ok (.iconst 0, 1) := by decide +kernel
theorem dX4_reckon_138 : decode cX4_reckon 138 = .ok (.ireturn, 1) := by decide +kernel
theorem dX4_reckon_139 : decode cX4_reckon 139 = .ok (.iload_n 0, 1) := by decide +kernel
theorem dX4_reckon_140 : decode cX4_reckon 140 = .ok (.iload_n 2, 1) := by decide +kernel
theorem dX4_reckon_141 : decode cX4_reckon 141 = .ok (.if_icmp .ge 7, 3) := by decide +kernel
theorem dX4_reckon_144 : decode cX4_reckon 144 = .ok (.iconst 1, 1) := by decide +kernel
theorem dX4_reckon_145 : decode cX4_reckon 145 = .ok (.goto 4, 3) := by decide +kernel
theorem dX4_reckon_148 : decode cX4_reckon 148 = .ok (.iconst 0, 1) := by decide +kernel
theorem dX4_reckon_149 : decode cX4_reckon 149 = .ok (.ireturn, 1) := by decide +kernel
theorem dX4_reckon_150 : decode cX4_reckon 150 = .ok (.iload_n 0, 1) := by decide +kernel
theorem dX4_reckon_151 : decode cX4_reckon 151 = .ok (.iload_n 2, 1) := by decide +kernel
theorem dX4_reckon_152 : decode cX4_reckon 152 = .ok (.if_icmp .le 7, 3) := by decide +kernel
theorem dX4_reckon_155 : decode cX4_reckon 155 = .ok (.iconst 1, 1) := by decide +kernel
theorem dX4_reckon_156 : decode cX4_reckon 156 = .ok (.goto 4, 3) := by decide +kernel
theorem dX4_reckon_159 : decode cX4_reckon 159 = .ok (.iconst 0, 1) := by decide +kernel
theorem dX4_reckon_160 : decode cX4_reckon 160 = .ok (.ireturn, 1) := by decide +kernel
theorem dX4_reckon_161 : decode cX4_reckon 161 = .ok (.iload_n 0, 1) := by decide +kernel
theorem dX4_reckon_162 : decode cX4_reckon 162 = .ok (.iload_n 2, 1) := by decide +kernel
theorem dX4_reckon_163 : decode cX4_reckon 163 = .ok (.iand, 1) := by decide +kernel
theorem dX4_reckon_164 : decode cX4_reckon 164 = .ok (.ireturn, 1) := by decide +kernel
theorem dX4_reckon_165 : decode cX4_reckon 165 = .ok (.iload_n 0, 1) := by decide +kernel
theorem dX4_reckon_166 : decode cX4_reckon 166 = .ok (.iload_n 2, 1) := by decide +kernel
theorem dX4_reckon_167 : decode cX4_reckon 167 = .ok (.ior, 1) := by decide +kernel
theorem dX4_reckon_168 : decode cX4_reckon 168 = .ok (.ireturn, 1) := by decide +kernel
theorem dX4_reckon_169 : decode cX4_reckon 169 = .ok (.iconst 0, 1) := by decide +kernel
theorem dX4_reckon_170 : decode cX4_reckon 170 = .ok (.ireturn, 1) := by decide +kernel
theorem dX4_held_0 : decode cX4_held 0 = .ok (.ldc2_w 63, 3) := by decide +kernel
theorem dX4_held_3 : decode cX4_held 3 = .ok (.ldc2_w 65, 3) := by decide +kernel
theorem dX4_held_6 : decode cX4_held 6 = .ok (.lload_n 0, 1) := by decide +kernel
theorem dX4_held_7 : decode cX4_held 7 = .ok (.invokestatic 67, 3) := by decide +kernel
theorem dX4_held_10 : decode cX4_held 10 = .ok (.invokestatic 71, 3) := by decide +kernel
theorem dX4_held_13 : decode cX4_held 13 = .ok (.l2i, 1) := by decide +kernel
theorem dX4_held_14 : decode cX4_held 14 = .ok (.ireturn, 1) := by decide +kernel
theorem dX5_size_0 : decode cX5_size 0 = .ok (.aload_n 0, 1) := by decide +kernel
theorem dX5_size_1 : decode cX5_size 1 = .ok (.getfield 25, 3) := by decide +kernel
theorem dX5_size_4 : decode cX5_size 4 = .ok (.ireturn, 1) := by decide +kernel
theorem dX5_holding_0 : decode cX5_holding 0 = .ok (.aload_n 0, 1) := by decide +kernel
theorem dX5_holding_1 : decode cX5_holding 1 = .ok (.getfield 21, 3) := by decide +kernel
theorem dX5_holding_4 : decode cX5_holding 4 = .ok (.ireturn, 1) := by decide +kernel
theorem dX5_hasRoom_0 : decode cX5_hasRoom 0 = .ok (.aload_n 0, 1) := by decide +kernel
theorem dX5_hasRoom_1 : decode cX5_hasRoom 1 = .ok (.getfield 25, 3) := by decide +kernel
theorem dX5_hasRoom_4 : decode cX5_hasRoom 4 = .ok (.iconst 4, 1) := by decide +kernel
theorem dX5_hasRoom_5 : decode cX5_hasRoom 5 = .ok (.if_icmp .ge 7, 3) := by decide +kernel
theorem dX5_hasRoom_8 : decode cX5_hasRoom 8 = .ok (.iconst 1, 1) := by decide +kernel
theorem dX5_hasRoom_9 : decode cX5_hasRoom 9 = .ok (.goto 4, 3) := by decide +kernel
theorem dX5_hasRoom_12 : decode cX5_hasRoom 12 = .ok (.iconst 0, 1) := by decide +kernel
theorem dX5_hasRoom_13 : decode cX5_hasRoom 13 = .ok (.ireturn, 1) := by decide +kernel
theorem dX5_letHold_0 : decode cX5_letHold 0 = .ok (.iload_n 1, 1) := by decide +kernel
theorem dX5_letHold_1 : decode cX5_letHold 1 = .ok (.iconst (-1), 1) := by decide +kernel
theorem dX5_letHold_2 : decode cX5_letHold 2 = .ok (.if_icmp .lt 11, 3) := by decide +kernel
theorem dX5_letHold_5 : decode cX5_letHold 5 = .ok (.iload_n 1, 1) := by decide +kernel
theorem dX5_letHold_6 : decode cX5_letHold 6 = .ok (.aload_n 0, 1) := by decide +kernel
theorem dX5_letHold_7 : decode cX5_letHold 7 = .ok (.getfield 25, 3) := by decide +kernel
theorem dX5_letHold_10 : decode cX5_letHold 10 = .ok (.if_icmp .lt 5, 3) := by decide +kernel
theorem dX5_letHold_13 : decode cX5_letHold 13 = .ok (.iconst 0, 1) := by decide +kernel
theorem dX5_letHold_14 : decode cX5_letHold 14 = .ok (.ireturn, 1) := by decide +kernel
theorem dX5_letHold_15 : decode cX5_letHold 15 = .ok (.aload_n 0, 1) := by decide +kernel
theorem dX5_letHold_16 : decode cX5_letHold 16 = .ok (.iload_n 1, 1) := by decide +kernel
theorem dX5_letHold_17 : decode cX5_letHold 17 = .ok (.putfield 21, 3) := by decide +kernel
theorem dX5_letHold_20 : decode cX5_letHold 20 = .ok (.iconst 1, 1) := by decide +kernel
theorem dX5_letHold_21 : decode cX5_letHold 21 = .ok (.ireturn, 1) := by decide +kernel
theorem dX5_taxOf_0 : decode cX5_taxOf 0 = .ok (.aload_n 1, 1) := by decide +kernel
theorem dX5_taxOf_1 : decode cX5_taxOf 1 = .ok (.iload_n 2, 1) := by decide +kernel
theorem dX5_taxOf_2 : decode cX5_taxOf 2 = .ok (.invokevirtual 31, 3) := by decide +kernel
theorem dX5_taxOf_5 : decode cX5_taxOf 5 = .ok (.istore 4, 2) := by decide +kernel
theorem dX5_taxOf_7 : decode cX5_taxOf 7 = .ok (.aload_n 1, 1) := by decide +kernel
theorem dX5_taxOf_8 : decode cX5_taxOf 8 = .ok (.iload_n 2, 1) := by decide +kernel
theorem dX5_taxOf_9 : decode cX5_taxOf 9 = .ok (.invokevirtual 37, 3) := by decide +kernel
theorem dX5_taxOf_12 : decode cX5_taxOf 12 = .ok (.istore 5, 2) := by decide +kernel
theorem dX5_taxOf_14 : decode cX5_taxOf 14 = .ok (.aload_n 0, 1) := by decide +kernel
theorem dX5_taxOf_15 : decode cX5_taxOf 15 = .ok (.aload_n 1, 1) := by decide +kernel
theorem dX5_taxOf_16 : decode cX5_taxOf 16 = .ok (.iload_n 2, 1) := by decide +kernel
theorem dX5_taxOf_17 : decode cX5_taxOf 17 = .ok (.iload 5, 2) := by decide +kernel
theorem dX5_taxOf_19 : decode cX5_taxOf 19 = .ok (.iload 4, 2) := by decide +kernel
theorem dX5_taxOf_21 : decode cX5_taxOf 21 = .ok (.invokestatic 40, 3) := by decide +kernel
theorem dX5_taxOf_24 : decode cX5_taxOf 24 = .ok (.invokevirtual 45, 3) := by decide +kernel
theorem dX5_taxOf_27 : decode cX5_taxOf 27 = .ok (.aload_n 0, 1) := by decide +kernel
theorem dX5_taxOf_28 : decode cX5_taxOf 28 = .ok (.getfield 17, 3) := by decide +kernel
theorem dX5_taxOf_31 : decode cX5_taxOf 31 = .ok (.iconst 5, 1) := by decide +kernel
theorem dX5_taxOf_32 : decode cX5_taxOf 32 = .ok (.aload_n 1, 1) := by decide +kernel
theorem dX5_taxOf_33 : decode cX5_taxOf 33 = .ok (.iload_n 2, 1) := by decide +kernel
theorem dX5_taxOf_34 : decode cX5_taxOf 34 = .ok (.iconst 2, 1) := by decide +kernel
theorem dX5_taxOf_35 : decode cX5_taxOf 35 = .ok (.invokevirtual 49, 3) := by decide +kernel
theorem dX5_taxOf_38 : decode cX5_taxOf 38 = .ok (.invokestatic 40, 3) := by decide +kernel
theorem dX5_taxOf_41 : decode cX5_taxOf 41 = .ok (.iastore, 1) := by decide +kernel
theorem dX5_taxOf_42 : decode cX5_taxOf 42 = .ok (.aload_n 0, 1) := by decide +kernel
theorem dX5_taxOf_43 : decode cX5_taxOf 43 = .ok (.iload_n 3, 1) := by decide +kernel
theorem dX5_taxOf_44 : decode cX5_taxOf 44 = .ok (.iload 5, 2) := by decide +kernel
theorem dX5_taxOf_46 : decode cX5_taxOf 46 = .ok (.invokevirtual 53, 3) := by decide +kernel
theorem dX5_taxOf_49 : decode cX5_taxOf 49 = .ok (.ireturn, 1) := by decide +kernel
theorem dX5_taxAtCount_0 : decode cX5_taxAtCount 0 = .ok (.aload_n 0, 1) := by decide +kernel
theorem dX5_taxAtCount_1 : decode cX5_taxAtCount 1 = .ok (.aload_n 1, 1) := by decide +kernel
theorem dX5_taxAtCount_2 : decode cX5_taxAtCount 2 = .ok (.iload_n 2, 1) := by decide +kernel
theorem dX5_taxAtCount_3 : decode cX5_taxAtCount 3 = .ok (.iload_n 3, 1) := by decide +kernel
theorem dX5_taxAtCount_4 : decode cX5_taxAtCount 4 = .ok (.bipush 10, 2) := by decide +kernel
theorem dX5_taxAtCount_6 : decode cX5_taxAtCount 6 = .ok (.imul, 1) := by decide +kernel
theorem dX5_taxAtCount_7 : decode cX5_taxAtCount 7 = .ok (.iload_n 3, 1) := by decide +kernel
theorem dX5_taxAtCount_8 : decode cX5_taxAtCount 8 = .ok (.invokevirtual 45, 3) := by decide +kernel
theorem dX5_taxAtCount_11 : decode cX5_taxAtCount 11 = .ok (.aload_n 0, 1) := by decide +kernel
theorem dX5_taxAtCount_12 : decode cX5_taxAtCount 12 = .ok (.getfield 17, 3) := by decide +kernel
theorem dX5_taxAtCount_15 : decode cX5_taxAtCount 15 = .ok (.iconst 5, 1) := by decide +kernel
theorem dX5_taxAtCount_16 : decode cX5_taxAtCount 16 = .ok (.iconst 0, 1) := by decide +kernel
theorem dX5_taxAtCount_17 : decode cX5_taxAtCount 17 = .ok (.iastore, 1) := by decide +kernel
theorem dX5_taxAtCount_18 : decode cX5_taxAtCount 18 = .ok (.aload_n 0, 1) := by decide +kernel
theorem dX5_taxAtCount_19 : decode cX5_taxAtCount 19 = .ok (.aload_n 0, 1) := by decide +kernel
theorem dX5_taxAtCount_20 : decode cX5_taxAtCount 20 = .ok (.getfield 21, 3) := by decide +kernel
theorem dX5_taxAtCount_23 : decode cX5_taxAtCount 23 = .ok (.iload_n 3, 1) := by decide +kernel
theorem dX5_taxAtCount_24 : decode cX5_taxAtCount 24 = .ok (.bipush 10, 2) := by decide +kernel
theorem dX5_taxAtCount_26 : decode cX5_taxAtCount 26 = .ok (.imul, 1) := by decide +kernel
theorem dX5_taxAtCount_27 : decode cX5_taxAtCount 27 = .ok (.invokevirtual 53, 3) := by decide +kernel
theorem dX5_taxAtCount_30 : decode cX5_taxAtCount 30 = .ok (.ireturn, 1) := by decide +kernel
theorem dX5_setLetters_0 : decode cX5_setLetters 0 = .ok (.aload_n 0, 1) := by decide +kernel
theorem dX5_setLetters_1 : decode cX5_setLetters 1 = .ok (.getfield 17, 3) := by decide +kernel
theorem dX5_setLetters_4 : decode cX5_setLetters 4 = .ok (.iconst 0, 1) := by decide +kernel
theorem dX5_setLetters_5 : decode cX5_setLetters 5 = .ok (.iload_n 3, 1) := by decide +kernel
theorem dX5_setLetters_6 : decode cX5_setLetters 6 = .ok (.iastore, 1) := by decide +kernel
theorem dX5_setLetters_7 : decode cX5_setLetters 7 = .ok (.aload_n 0, 1) := by decide +kernel
theorem dX5_setLetters_8 : decode cX5_setLetters 8 = .ok (.getfield 17, 3) := by decide +kernel
theorem dX5_setLetters_11 : decode cX5_setLetters 11 = .ok (.iconst 1, 1) := by decide +kernel
theorem dX5_setLetters_12 : decode cX5_setLetters 12 = .ok (.aload_n 1, 1) := by decide +kernel
theorem dX5_setLetters_13 : decode cX5_setLetters 13 = .ok (.iload_n 2, 1) := by decide +kernel
theorem dX5_setLetters_14 : decode cX5_setLetters 14 = .ok (.iconst 0, 1) := by decide +kernel
theorem dX5_setLetters_15 : decode cX5_setLetters 15 = .ok (.invokevirtual 49, 3) := by decide +kernel
theorem dX5_setLetters_18 : decode cX5_setLetters 18 = .ok (.iastore, 1) := by decide +kernel
theorem dX5_setLetters_19 : decode cX5_setLetters 19 = .ok (.aload_n 0, 1) := by decide +kernel
theorem dX5_setLetters_20 : decode cX5_setLetters 20 = .ok (.getfield 17, 3) := by decide +kernel
theorem dX5_setLetters_23 : decode cX5_setLetters 23 = .ok (.iconst 2, 1) := by decide +kernel
theorem dX5_setLetters_24 : decode cX5_setLetters 24 = .ok (.iload 4, 2) := by decide +kernel
theorem dX5_setLetters_26 : decode cX5_setLetters 26 = .ok (.iastore, 1) := by decide +kernel
theorem dX5_setLetters_27 : decode cX5_setLetters 27 = .ok (.aload_n 0, 1) := by decide +kernel
theorem dX5_setLetters_28 : decode cX5_setLetters 28 = .ok (.getfield 17, 3) := by decide +kernel
theorem dX5_setLetters_31 : decode cX5_setLetters 31 = .ok (.iconst 3, 1) := by decide +kernel
theorem dX5_setLetters_32 : decode cX5_setLetters 32 = .ok (.aload_n 1, 1) := by decide +kernel
theorem dX5_setLetters_33 : decode cX5_setLetters 33 = .ok (.iload_n 2, 1) := by decide +kernel
theorem dX5_setLetters_34 : decode cX5_setLetters 34 = .ok (.iconst 3, 1) := by decide +kernel
theorem dX5_setLetters_35 : decode cX5_setLetters 35 = .ok (.invokevirtual 49, 3) := by decide +kernel
theorem dX5_setLetters_38 : decode cX5_setLetters 38 = .ok (.iastore, 1) := by decide +kernel
theorem dX5_setLetters_39 : decode cX5_setLetters 39 = .ok (.aload_n 0, 1) := by decide +kernel
theorem dX5_setLetters_40 : decode cX5_setLetters 40 = .ok (.getfield 17, 3) := by decide +kernel
theorem dX5_setLetters_43 : decode cX5_setLetters 43 = .ok (.iconst 4, 1) := by decide +kernel
theorem dX5_setLetters_44 : decode cX5_setLetters 44 = .ok (.aload_n 1, 1) := by decide +kernel
theorem dX5_setLetters_45 : decode cX5_setLetters 45 = .ok (.bipush 97, 2) := by decide +kernel
theorem dX5_setLetters_47 : decode cX5_setLetters 47 = .ok (.invokevirtual 56, 3) := by decide +kernel
theorem dX5_setLetters_50 : decode cX5_setLetters 50 = .ok (.iastore, 1) := by decide +kernel
theorem dX5_setLetters_51 : decode cX5_setLetters 51 = .ok (.return_, 1) := by decide +kernel
theorem dX5_taxBy_0 : decode cX5_taxBy 0 = .ok (.iload_n 1, 1) := by decide +kernel
theorem dX5_taxBy_1 : decode cX5_taxBy 1 = .ok (.ifCond .lt 21, 3) := by decide +kernel
theorem dX5_taxBy_4 : decode cX5_taxBy 4 = .ok (.iload_n 1, 1) := by decide +kernel
theorem dX5_taxBy_5 : decode cX5_taxBy 5 = .ok (.aload_n 0, 1) := by decide +kernel
theorem dX5_taxBy_6 : decode cX5_taxBy 6 = .ok (.getfield 13, 3) := by decide +kernel
theorem dX5_taxBy_9 : decode cX5_taxBy 9 = .ok (.arraylength, 1) := by decide +kernel
theorem dX5_taxBy_10 : decode cX5_taxBy 10 = .ok (.if_icmp .ge 12, 3) := by decide +kernel
theorem dX5_taxBy_13 : decode cX5_taxBy 13 = .ok (.aload_n 0, 1) := by decide +kernel
theorem dX5_taxBy_14 : decode cX5_taxBy 14 = .ok (.getfield 13, 3) := by decide +kernel
theorem dX5_taxBy_17 : decode cX5_taxBy 17 = .ok (.iload_n 1, 1) := by decide +kernel
theorem dX5_taxBy_18 : decode cX5_taxBy 18 = .ok (.aaload, 1) := by decide +kernel
theorem dX5_taxBy_19 : decode cX5_taxBy 19 = .ok (.ifnonnull 5, 3) := by decide +kernel
theorem dX5_taxBy_22 : decode cX5_taxBy 22 = .ok (.iload_n 2, 1) := by decide +kernel
theorem dX5_taxBy_23 : decode cX5_taxBy 23 = .ok (.ireturn, 1) := by decide +kernel
theorem dX5_taxBy_24 : decode cX5_taxBy 24 = .ok (.iconst 0, 1) := by decide +kernel
theorem dX5_taxBy_25 : decode cX5_taxBy 25 = .ok (.iload_n 2, 1) := by decide +kernel
theorem dX5_taxBy_26 : decode cX5_taxBy 26 = .ok (.aload_n 0, 1) := by decide +kernel
theorem dX5_taxBy_27 : decode cX5_taxBy 27 = .ok (.getfield 13, 3) := by decide +kernel
theorem dX5_taxBy_30 : decode cX5_taxBy 30 = .ok (.iload_n 1, 1) := by decide +kernel
theorem dX5_taxBy_31 : decode cX5_taxBy 31 = .ok (.aaload, 1) := by decide +kernel
theorem dX5_taxBy_32 : decode cX5_taxBy 32 = .ok (.aload_n 0, 1) := by decide +kernel
theorem dX5_taxBy_33 : decode cX5_taxBy 33 = .ok (.getfield 17, 3) := by decide +kernel
theorem dX5_taxBy_36 : decode cX5_taxBy 36 = .ok (.invokevirtual 59, 3) := by decide +kernel
theorem dX5_taxBy_39 : decode cX5_taxBy 39 = .ok (.invokestatic 63, 3) := by decide +kernel
theorem dX5_taxBy_42 : decode cX5_taxBy 42 = .ok (.invokestatic 68, 3) := by decide +kernel
theorem dX5_taxBy_45 : decode cX5_taxBy 45 = .ok (.ireturn, 1) := by decide +kernel
