theorem dX9_init_0 : decode cX9_init 0 = .ok (.aload_n 0, 1) := by decide +kernel
theorem dX9_init_1 : decode cX9_init 1 = .ok (.invokespecial 3, 3) := by decide +kernel
theorem dX9_init_4 : decode cX9_init 4 = .ok (.aload_n 0, 1) := by decide +kernel
theorem dX9_init_5 : decode cX9_init 5 = .ok (.sipush 240, 3) := by decide +kernel
theorem dX9_init_8 : decode cX9_init 8 = .ok (.newarray .int, 2) := by decide +kernel
theorem dX9_init_10 : decode cX9_init 10 = .ok (.putfield 11, 3) := by decide +kernel
theorem dX9_init_13 : decode cX9_init 13 = .ok (.return_, 1) := by decide +kernel
theorem dX0_init_0 : decode cX0_init 0 = .ok (.aload_n 0, 1) := by decide +kernel
theorem dX0_init_1 : decode cX0_init 1 = .ok (.invokespecial 5, 3) := by decide +kernel
theorem dX0_init_4 : decode cX0_init 4 = .ok (.aload_n 0, 1) := by decide +kernel
theorem dX0_init_5 : decode cX0_init 5 = .ok (.bipush 100, 2) := by decide +kernel
theorem dX0_init_7 : decode cX0_init 7 = .ok (.newarray .int, 2) := by decide +kernel
theorem dX0_init_9 : decode cX0_init 9 = .ok (.putfield 11, 3) := by decide +kernel
theorem dX0_init_12 : decode cX0_init 12 = .ok (.aload_n 0, 1) := by decide +kernel
theorem dX0_init_13 : decode cX0_init 13 = .ok (.getfield 11, 3) := by decide +kernel
theorem dX0_init_16 : decode cX0_init 16 = .ok (.bipush 98, 2) := by decide +kernel
theorem dX0_init_18 : decode cX0_init 18 = .ok (.iconst (-1), 1) := by decide +kernel
theorem dX0_init_19 : decode cX0_init 19 = .ok (.iastore, 1) := by decide +kernel
theorem dX0_init_20 : decode cX0_init 20 = .ok (.return_, 1) := by decide +kernel
theorem dX2_init_0 : decode cX2_init 0 = .ok (.aload_n 0, 1) := by decide +kernel
theorem dX2_init_1 : decode cX2_init 1 = .ok (.invokespecial 3, 3) := by decide +kernel
theorem dX2_init_4 : decode cX2_init 4 = .ok (.aload_n 0, 1) := by decide +kernel
theorem dX2_init_5 : decode cX2_init 5 = .ok (.aload_n 1, 1) := by decide +kernel
theorem dX2_init_6 : decode cX2_init 6 = .ok (.putfield 9, 3) := by decide +kernel
theorem dX2_init_9 : decode cX2_init 9 = .ok (.return_, 1) := by decide +kernel
theorem dX1_init_0 : decode cX1_init 0 = .ok (.aload_n 0, 1) := by decide +kernel
theorem dX1_init_1 : decode cX1_init 1 = .ok (.invokespecial 3, 3) := by decide +kernel
theorem dX1_init_4 : decode cX1_init 4 = .ok (.aload_n 0, 1) := by decide +kernel
theorem dX1_init_5 : decode cX1_init 5 = .ok (.new 9, 3) := by decide +kernel
theorem dX1_init_8 : decode cX1_init 8 = .ok (.dup, 1) := by decide +kernel
theorem dX1_init_9 : decode cX1_init 9 = .ok (.aload_n 1, 1) := by decide +kernel
theorem dX1_init_10 : decode cX1_init 10 = .ok (.invokespecial 11, 3) := by decide +kernel
theorem dX1_init_13 : decode cX1_init 13 = .ok (.putfield 14, 3) := by decide +kernel
theorem dX1_init_16 : decode cX1_init 16 = .ok (.aload_n 0, 1) := by decide +kernel
theorem dX1_init_17 : decode cX1_init 17 = .ok (.bipush 6, 2) := by decide +kernel
theorem dX1_init_19 : decode cX1_init 19 = .ok (.newarray .int, 2) := by decide +kernel
theorem dX1_init_21 : decode cX1_init 21 = .ok (.putfield 20, 3) := by decide +kernel
theorem dX1_init_24 : decode cX1_init 24 = .ok (.return_, 1) := by decide +kernel
theorem dX6_init_0 : decode cX6_init 0 = .ok (.aload_n 0, 1) := by decide +kernel
theorem dX6_init_1 : decode cX6_init 1 = .ok (.invokespecial 1, 3) := by decide +kernel
theorem dX6_init_4 : decode cX6_init 4 = .ok (.aload_n 0, 1) := by decide +kernel
theorem dX6_init_5 : decode cX6_init 5 = .ok (.new 7, 3) := by decide +kernel
theorem dX6_init_8 : decode cX6_init 8 = .ok (.dup, 1) := by decide +kernel
theorem dX6_init_9 : decode cX6_init 9 = .ok (.aload_n 1, 1) := by decide +kernel
theorem dX6_init_10 : decode cX6_init 10 = .ok (.invokespecial 9, 3) := by decide +kernel
theorem dX6_init_13 : decode cX6_init 13 = .ok (.putfield 12, 3) := by decide +kernel
theorem dX6_init_16 : decode cX6_init 16 = .ok (.aload_n 0, 1) := by decide +kernel
theorem dX6_init_17 : decode cX6_init 17 = .ok (.sipush 240, 3) := by decide +kernel
theorem dX6_init_20 : decode cX6_init 20 = .ok (.newarray .int, 2) := by decide +kernel
theorem dX6_init_22 : decode cX6_init 22 = .ok (.putfield 20, 3) := by decide +kernel
theorem dX6_init_25 : decode cX6_init 25 = .ok (.return_, 1) := by decide +kernel
theorem dX5_init_0 : decode cX5_init 0 = .ok (.aload_n 0, 1) := by decide +kernel
theorem dX5_init_1 : decode cX5_init 1 = .ok (.invokespecial 3, 3) := by decide +kernel
theorem dX5_init_4 : decode cX5_init 4 = .ok (.aload_n 0, 1) := by decide +kernel
theorem dX5_init_5 : decode cX5_init 5 = .ok (.iconst 4, 1) := by decide +kernel
theorem dX5_init_6 : decode cX5_init 6 = .ok (.anewarray 11, 3) := by decide +kernel
theorem dX5_init_9 : decode cX5_init 9 = .ok (.putfield 13, 3) := by decide +kernel
theorem dX5_init_12 : decode cX5_init 12 = .ok (.aload_n 0, 1) := by decide +kernel
theorem dX5_init_13 : decode cX5_init 13 = .ok (.bipush 6, 2) := by decide +kernel
theorem dX5_init_15 : decode cX5_init 15 = .ok (.newarray .int, 2) := by decide +kernel
theorem dX5_init_17 : decode cX5_init 17 = .ok (.putfield 17, 3) := by decide +kernel
theorem dX5_init_20 : decode cX5_init 20 = .ok (.aload_n 0, 1) := by decide +kernel
theorem dX5_init_21 : decode cX5_init 21 = .ok (.iconst (-1), 1) := by decide +kernel
theorem dX5_init_22 : decode cX5_init 22 = .ok (.putfield 21, 3) := by decide +kernel
theorem dX5_init_25 : decode cX5_init 25 = .ok (.return_, 1) := by decide +kernel
theorem dX7_init_0 : decode cX7_init 0 = .ok (.aload_n 0, 1) := by decide +kernel
theorem dX7_init_1 : decode cX7_init 1 = .ok (.invokespecial 5, 3) := by decide +kernel
theorem dX7_init_4 : decode cX7_init 4 = .ok (.aload_n 0, 1) := by decide +kernel
theorem dX7_init_5 : decode cX7_init 5 = .ok (.sipush 4000, 3) := by decide +kernel
theorem dX7_init_8 : decode cX7_init 8 = .ok (.newarray .int, 2) := by decide +kernel
theorem dX7_init_10 : decode cX7_init 10 = .ok (.putfield 13, 3) := by decide +kernel
theorem dX7_init_13 : decode cX7_init 13 = .ok (.aload_n 0, 1) := by decide +kernel
theorem dX7_init_14 : decode cX7_init 14 = .ok (.sipush 300, 3) := by decide +kernel
theorem dX7_init_17 : decode cX7_init 17 = .ok (.newarray .int, 2) := by decide +kernel
theorem dX7_init_19 : decode cX7_init 19 = .ok (.putfield 17, 3) := by decide +kernel
theorem dX7_init_22 : decode cX7_init 22 = .ok (.aload_n 0, 1) := by decide +kernel
theorem dX7_init_23 : decode cX7_init 23 = .ok (.bipush 100, 2) := by decide +kernel
theorem dX7_init_25 : decode cX7_init 25 = .ok (.newarray .int, 2) := by decide +kernel
theorem dX7_init_27 : decode cX7_init 27 = .ok (.putfield 20, 3) := by decide +kernel
theorem dX7_init_30 : decode cX7_init 30 = .ok (.aload_n 0, 1) := by decide +kernel
theorem dX7_init_31 : decode cX7_init 31 = .ok (.sipush 300, 3) := by decide +kernel
theorem dX7_init_34 : decode cX7_init 34 = .ok (.newarray .int, 2) := by decide +kernel
theorem dX7_init_36 : decode cX7_init 36 = .ok (.putfield 23, 3) := by decide +kernel
theorem dX7_init_39 : decode cX7_init 39 = .ok (.return_, 1) := by decide +kernel
theorem dX8_init_0 : decode cX8_init 0 = .ok (.aload_n 0, 1) := by decide +kernel
theorem dX8_init_1 : decode cX8_init 1 = .ok (.invokespecial 3, 3) := by decide +kernel
theorem dX8_init_4 : decode cX8_init 4 = .ok (.aload_n 0, 1) := by decide +kernel
theorem dX8_init_5 : decode cX8_init 5 = .ok (.aload_n 1, 1) := by decide +kernel
theorem dX8_init_6 : decode cX8_init 6 = .ok (.putfield 9, 3) := by decide +kernel
theorem dX8_init_9 : decode cX8_init 9 = .ok (.aload_n 0, 1) := by decide +kernel
theorem dX8_init_10 : decode cX8_init 10 = .ok (.bipush 8, 2) := by decide +kernel
theorem dX8_init_12 : decode cX8_init 12 = .ok (.newarray .int, 2) := by decide +kernel
theorem dX8_init_14 : decode cX8_init 14 = .ok (.putfield 17, 3) := by decide +kernel
theorem dX8_init_17 : decode cX8_init 17 = .ok (.return_, 1) := by decide +kernel
theorem dX3_init_0 : decode cX3_init 0 = .ok (.aload_n 0, 1) := by decide +kernel
theorem dX3_init_1 : decode cX3_init 1 = .ok (.invokespecial 3, 3) := by decide +kernel
theorem dX3_init_4 : decode cX3_init 4 = .ok (.aload_n 0, 1) := by decide +kernel
theorem dX3_init_5 : decode cX3_init 5 = .ok (.aload_n 1, 1) := by decide +kernel
theorem dX3_init_6 : decode cX3_init 6 = .ok (.putfield 9, 3) := by decide +kernel
theorem dX3_init_9 : decode cX3_init 9 = .ok (.aload_n 0, 1) := by decide +kernel
theorem dX3_init_10 : decode cX3_init 10 = .ok (.aload_n 2, 1) := by decide +kernel
theorem dX3_init_11 : decode cX3_init 11 = .ok (.putfield 15, 3) := by decide +kernel
theorem dX3_init_14 : decode cX3_init 14 = .ok (.aload_n 0, 1) := by decide +kernel
theorem dX3_init_15 : decode cX3_init 15 = .ok (.aload_n 3, 1) := by decide +kernel
theorem dX3_init_16 : decode cX3_init 16 = .ok (.putfield 18, 3) := by decide +kernel
theorem dX3_init_19 : decode cX3_init 19 = .ok (.aload_n 0, 1) := by decide +kernel
theorem dX3_init_20 : decode cX3_init 20 = .ok (.bipush 24, 2) := by decide +kernel
theorem dX3_init_22 : decode cX3_init 22 = .ok (.newarray .int, 2) := by decide +kernel
theorem dX3_init_24 : decode cX3_init 24 = .ok (.putfield 22, 3) := by decide +kernel
theorem dX3_init_27 : decode cX3_init 27 = .ok (.aload_n 0, 1) := by decide +kernel
theorem dX3_init_28 : decode cX3_init 28 = .ok (.bipush 24, 2) := by decide +kernel
theorem dX3_init_30 : decode cX3_init 30 = .ok (.newarray .int, 2) := by decide +kernel
theorem dX3_init_32 : decode cX3_init 32 = .ok (.putfield 26, 3) := by decide +kernel
theorem dX3_init_35 : decode cX3_init 35 = .ok (.aload_n 0, 1) := by decide +kernel
theorem dX3_init_36 : decode cX3_init 36 = .ok (.bipush 64, 2) := by decide +kernel
theorem dX3_init_38 : decode cX3_init 38 = .ok (.newarray .int, 2) := by decide +kernel
theorem dX3_init_40 : decode cX3_init 40 = .ok (.putfield 31, 3) := by decide +kernel
theorem dX3_init_43 : decode cX3_init 43 = .ok (.return_, 1) := by decide +kernel
theorem dX10_init_0 : decode cX10_init 0 = .ok (.aload_n 0, 1) := by decide +kernel
theorem dX10_init_1 : decode cX10_init 1 = .ok (.invokespecial 1, 3) := by decide +kernel
theorem dX10_init_4 : decode cX10_init 4 = .ok (.aload_n 0, 1) := by decide +kernel
theorem dX10_init_5 : decode cX10_init 5 = .ok (.new 7, 3) := by decide +kernel
theorem dX10_init_8 : decode cX10_init 8 = .ok (.dup, 1) := by decide +kernel
theorem dX10_init_9 : decode cX10_init 9 = .ok (.invokespecial 9, 3) := by decide +kernel
theorem dX10_init_12 : decode cX10_init 12 = .ok (.putfield 10, 3) := by decide +kernel
theorem dX10_init_15 : decode cX10_init 15 = .ok (.aload_n 0, 1) := by decide +kernel
theorem dX10_init_16 : decode cX10_init 16 = .ok (.new 16, 3) := by decide +kernel
theorem dX10_init_19 : decode cX10_init 19 = .ok (.dup, 1) := by decide +kernel
theorem dX10_init_20 : decode cX10_init 20 = .ok (.invokespecial 18, 3) := by decide +kernel
theorem dX10_init_23 : decode cX10_init 23 = .ok (.putfield 19, 3) := by decide +kernel
theorem dX10_init_26 : decode cX10_init 26 = .ok (.aload_n 0, 1) := by decide +kernel
theorem dX10_init_27 : decode cX10_init 27 = .ok (.new 16, 3) := by decide +kernel
theorem dX10_init_30 : decode cX10_init 30 = .ok (.dup, 1) := by decide +kernel
theorem dX10_init_31 : decode cX10_init 31 = .ok (.invokespecial 18, 3) := by decide +kernel
theorem dX10_init_34 : decode cX10_init 34 = .ok (.putfield 23, 3) := by decide +kernel
theorem dX10_init_37 : decode cX10_init 37 = .ok (.aload_n 0, 1) := by decide +kernel
theorem dX10_init_38 : decode cX10_init 38 = .ok (.new 26, 3) := by decide +kernel
theorem dX10_init_41 : decode cX10_init 41 = .ok (.dup, 1) := by decide +kernel
theorem dX10_init_42 : decode cX10_init 42 = .ok (.aload_n 0, 1) := by decide +kernel
theorem dX10_init_43 : decode cX10_init 43 = .ok (.getfield 10, 3) := by decide +kernel
theorem dX10_init_46 : decode cX10_init 46 = .ok (.invokespecial 28, 3) := by decide +kernel
theorem dX10_init_49 : decode cX10_init 49 = .ok (.putfield 31, 3) := by decide +kernel
theorem dX10_init_52 : decode cX10_init 52 = .ok (.aload_n 0, 1) := by decide +kernel
theorem dX10_init_53 : decode cX10_init 53 = .ok (.new 35, 3) := by decide +kernel
theorem dX10_init_56 : decode cX10_init 56 = .ok (.dup, 1) := by decide +kernel
theorem dX10_init_57 : decode cX10_init 57 = .ok (.aload_n 0, 1) := by decide +kernel
theorem dX10_init_58 : decode cX10_init 58 = .ok (.getfield 10, 3) := by decide +kernel
theorem dX10_init_61 : decode cX10_init 61 = .ok (.invokespecial 37, 3) := by decide +kernel
theorem dX10_init_64 : decode cX10_init 64 = .ok (.putfield 38, 3) := by decide +kernel
theorem dX10_init_67 : decode cX10_init 67 = .ok (.aload_n 0, 1) := by decide +kernel
theorem dX10_init_68 : decode cX10_init 68 = .ok (.new 42, 3) := by decide +kernel
theorem dX10_init_71 : decode cX10_init 71 = .ok (.dup, 1) := by decide +kernel
theorem dX10_init_72 : decode cX10_init 72 = .ok (.invokespecial 44, 3) := by decide +kernel
theorem dX10_init_75 : decode cX10_init 75 = .ok (.putfield 45, 3) := by decide +kernel
theorem dX10_init_78 : decode cX10_init 78 = .ok (.aload_n 0, 1) := by decide +kernel
theorem dX10_init_79 : decode cX10_init 79 = .ok (.new 49, 3) := by decide +kernel
theorem dX10_init_82 : decode cX10_init 82 = .ok (.dup, 1) := by decide +kernel
theorem dX10_init_83 : decode cX10_init 83 = .ok (.invokespecial 51, 3) := by decide +kernel
theorem dX10_init_86 : decode cX10_init 86 = .ok (.putfield 52, 3) := by decide +kernel
theorem dX10_init_89 : decode cX10_init 89 = .ok (.aload_n 0, 1) := by decide +kernel
theorem dX10_init_90 : decode cX10_init 90 = .ok (.new 56, 3) := by decide +kernel
theorem dX10_init_93 : decode cX10_init 93 = .ok (.dup, 1) := by decide +kernel
theorem dX10_init_94 : decode cX10_init 94 = .ok (.aload_n 0, 1) := by decide +kernel
theorem dX10_init_95 : decode cX10_init 95 = .ok (.getfield 19, 3) := by decide +kernel
theorem dX10_init_98 : decode cX10_init 98 = .ok (.invokespecial 58, 3) := by decide +kernel
theorem dX10_init_101 : decode cX10_init 101 = .ok (.putfield 61, 3) := by decide +kernel
theorem dX10_init_104 : decode cX10_init 104 = .ok (.aload_n 0, 1) := by decide +kernel
theorem dX10_init_105 : decode cX10_init 105 = .ok (.new 65, 3) := by decide +kernel
theorem dX10_init_108 : decode cX10_init 108 = .ok (.dup, 1) := by decide +kernel
theorem dX10_init_109 : decode cX10_init 109 = .ok (.aload_n 0, 1) := by decide +kernel
theorem dX10_init_110 : decode cX10_init 110 = .ok (.getfield 19, 3) := by decide +kernel
theorem dX10_init_113 : decode cX10_init 113 = .ok (.aload_n 0, 1) := by decide +kernel
theorem dX10_init_114 : decode cX10_init 114 = .ok (.getfield 23, 3) := by decide +kernel
theorem dX10_init_117 : decode cX10_init 117 = .ok (.aload_n 0, 1) := by decide +kernel
theorem dX10_init_118 : decode cX10_init 118 = .ok (.getfield 45, 3) := by decide +kernel
theorem dX10_init_121 : decode cX10_init 121 = .ok (.invokespecial 67, 3) := by decide +kernel
theorem dX10_init_124 : decode cX10_init 124 = .ok (.putfield 70, 3) := by decide +kernel
theorem dX10_init_127 : decode cX10_init 127 = .ok (.return_, 1) := by decide +kernel
theorem dX11_init_0 : decode cX11_init 0 = .ok (.aload_n 0, 1) := by decide +kernel
theorem dX11_init_1 : decode cX11_init 1 = .ok (.invokespecial 3, 3) := by decide +kernel
theorem dX11_init_4 : decode cX11_init 4 = .ok (.aload_n 0, 1) := by decide +kernel
theorem dX11_init_5 : decode cX11_init 5 = .ok (.sipush 240, 3) := by decide +kernel
theorem dX11_init_8 : decode cX11_init 8 = .ok (.newarray .byte, 2) := by decide +kernel
theorem dX11_init_10 : decode cX11_init 10 = .ok (.putfield 9, 3) := by decide +kernel
theorem dX11_init_13 : decode cX11_init 13 = .ok (.aload_n 0, 1) := by decide +kernel
theorem dX11_init_14 : decode cX11_init 14 = .ok (.sipush 960, 3) := by decide +kernel
theorem dX11_init_17 : decode cX11_init 17 = .ok (.newarray .byte, 2) := by decide +kernel
theorem dX11_init_19 : decode cX11_init 19 = .ok (.putfield 13, 3) := by decide +kernel
theorem dX11_init_22 : decode cX11_init 22 = .ok (.aload_n 0, 1) := by decide +kernel
theorem dX11_init_23 : decode cX11_init 23 = .ok (.iconst 4, 1) := by decide +kernel
theorem dX11_init_24 : decode cX11_init 24 = .ok (.newarray .int, 2) := by decide +kernel
theorem dX11_init_26 : decode cX11_init 26 = .ok (.putfield 16, 3) := by decide +kernel
theorem dX11_init_29 : decode cX11_init 29 = .ok (.aload_n 0, 1) := by decide +kernel
theorem dX11_init_30 : decode cX11_init 30 = .ok (.sipush 128, 3) := by decide +kernel
theorem dX11_init_33 : decode cX11_init 33 = .ok (.newarray .int, 2) := by decide +kernel
theorem dX11_init_35 : decode cX11_init 35 = .ok (.putfield 20, 3) := by decide +kernel
theorem dX11_init_38 : decode cX11_init 38 = .ok (.aload_n 0, 1) := by decide +kernel
theorem dX11_init_39 : decode cX11_init 39 = .ok (.aload_n 0, 1) := by decide +kernel
theorem dX11_init_40 : decode cX11_init 40 = .ok (.getfield 9, 3) := by decide +kernel
theorem dX11_init_43 : decode cX11_init 43 = .ok (.putfield 23, 3) := by decide +kernel
theorem dX11_init_46 : decode cX11_init 46 = .ok (.aload_n 0, 1) := by decide +kernel
theorem dX11_init_47 : decode cX11_init 47 = .ok (.ldc 26, 2) := by decide +kernel
theorem dX11_init_49 : decode cX11_init 49 = .ok (.putfield 28, 3) := by decide +kernel
theorem dX11_init_52 : decode cX11_init 52 = .ok (.aload_n 0, 1) := by decide +kernel
theorem dX11_init_53 : decode cX11_init 53 = .ok (.ldc 32, 2) := by decide +kernel
theorem dX11_init_55 : decode cX11_init 55 = .ok (.putfield 34, 3) := by decide +kernel
theorem dX11_init_58 : decode cX11_init 58 = .ok (.aload_n 0, 1) := by decide +kernel
theorem dX11_init_59 : decode cX11_init 59 = .ok (.bipush 48, 2) := by decide +kernel
theorem dX11_init_61 : decode cX11_init 61 = .ok (.newarray .int, 2) := by decide +kernel
theorem dX11_init_63 : decode cX11_init 63 = .ok (.putfield 37, 3) := by decide +kernel
theorem dX11_init_66 : decode cX11_init 66 = .ok (.aload_n 0, 1) := by decide +kernel
theorem dX11_init_67 : decode cX11_init 67 = .ok (.bipush 48, 2) := by decide +kernel
theorem dX11_init_69 : decode cX11_init 69 = .ok (.newarray .int, 2) := by decide +kernel
theorem dX11_init_71 : decode cX11_init 71 = .ok (.putfield 40, 3) := by decide +kernel
theorem dX11_init_74 : decode cX11_init 74 = .ok (.aload_n 0, 1) := by decide +kernel
theorem dX11_init_75 : decode cX11_init 75 = .ok (.bipush 12, 2) := by decide +kernel
theorem dX11_init_77 : decode cX11_init 77 = .ok (.newarray .int, 2) := by decide +kernel
theorem dX11_init_79 : decode cX11_init 79 = .ok (.putfield 43, 3) := by decide +kernel
theorem dX11_init_82 : decode cX11_init 82 = .ok (.aload_n 0, 1) := by decide +kernel
theorem dX11_init_83 : decode cX11_init 83 = .ok (.bipush 12, 2) := by decide +kernel
theorem dX11_init_85 : decode cX11_init 85 = .ok (.newarray .int, 2) := by decide +kernel
theorem dX11_init_87 : decode cX11_init 87 = .ok (.putfield 46, 3) := by decide +kernel
theorem dX11_init_90 : decode cX11_init 90 = .ok (.aload_n 0, 1) := by decide +kernel
theorem dX11_init_91 : decode cX11_init 91 = .ok (.iconst 3, 1) := by decide +kernel
theorem dX11_init_92 : decode cX11_init 92 = .ok (.newarray .int, 2) := by decide +kernel
theorem dX11_init_94 : decode cX11_init 94 = .ok (.putfield 49, 3) := by decide +kernel
theorem dX11_init_97 : decode cX11_init 97 = .ok (.aload_n 0, 1) := by decide +kernel
theorem dX11_init_98 : decode cX11_init 98 = .ok (.iconst 3, 1) := by decide +kernel
theorem dX11_init_99 : decode cX11_init 99 = .ok (.newarray .int, 2) := by decide +kernel
theorem dX11_init_101 : decode cX11_init 101 = .ok (.putfield 52, 3) := by decide +kernel
theorem dX11_init_104 : decode cX11_init 104 = .ok (.aload_n 0, 1) := by decide +kernel
theorem dX11_init_105 : decode cX11_init 105 = .ok (.sipush 244, 3) := by decide +kernel
theorem dX11_init_108 : decode cX11_init 108 = .ok (.newarray .int, 2) := by decide +kernel
theorem dX11_init_110 : decode cX11_init 110 = .ok (.putfield 55, 3) := by decide +kernel
theorem dX11_init_113 : decode cX11_init 113 = .ok (.aload_n 0, 1) := by decide +kernel
theorem dX11_init_114 : decode cX11_init 114 = .ok (.sipush 244, 3) := by decide +kernel
theorem dX11_init_117 : decode cX11_init 117 = .ok (.newarray .int, 2) := by decide +kernel
theorem dX11_init_119 : decode cX11_init 119 = .ok (.putfield 58, 3) := by decide +kernel
theorem dX11_init_122 : decode cX11_init 122 = .ok (.aload_n 0, 1) := by decide +kernel
theorem dX11_init_123 : decode cX11_init 123 = .ok (.iconst (-1), 1) := by decide +kernel
theorem dX11_init_124 : decode cX11_init 124 = .ok (.putfield 61, 3) := by decide +kernel
theorem dX11_init_127 : decode cX11_init 127 = .ok (.aload_n 0, 1) := by decide +kernel
theorem dX11_init_128 : decode cX11_init 128 = .ok (.iconst (-1), 1) := by decide +kernel
theorem dX11_init_129 : decode cX11_init 129 = .ok (.putfield 65, 3) := by decide +kernel
theorem dX11_init_132 : decode cX11_init 132 = .ok (.aload_n 0, 1) := by decide +kernel
theorem dX11_init_133 : decode cX11_init 133 = .ok (.iconst 3, 1) := by decide +kernel
theorem dX11_init_134 : decode cX11_init 134 = .ok (.newarray .int, 2) := by decide +kernel
theorem dX11_init_136 : decode cX11_init 136 = .ok (.putfield 68, 3) := by decide +kernel
theorem dX11_init_139 : decode cX11_init 139 = .ok (.aload_n 0, 1) := by decide +kernel
theorem dX11_init_140 : decode cX11_init 140 = .ok (.sipush 9760, 3) := by decide +kernel
theorem dX11_init_143 : decode cX11_init 143 = .ok (.newarray .int, 2) := by decide +kernel
theorem dX11_init_145 : decode cX11_init 145 = .ok (.putfield 71, 3) := by decide +kernel
theorem dX11_init_148 : decode cX11_init 148 = .ok (.aload_n 0, 1) := by decide +kernel
theorem dX11_init_149 : decode cX11_init 149 = .ok (.bipush 64, 2) := by decide +kernel
theorem dX11_init_151 : decode cX11_init 151 = .ok (.newarray .int, 2) := by decide +kernel
theorem dX11_init_153 : decode cX11_init 153 = .ok (.putfield 74, 3) := by decide +kernel
theorem dX11_init_156 : decode cX11_init 156 = .ok (.aload_n 0, 1) := by decide +kernel
theorem dX11_init_157 : decode cX11_init 157 = .ok (.sipush 244, 3) := by decide +kernel
theorem dX11_init_160 : decode cX11_init 160 = .ok (.newarray .int, 2) := by decide +kernel
theorem dX11_init_162 : decode cX11_init 162 = .ok (.putfield 77, 3) := by decide +kernel
theorem dX11_init_165 : decode cX11_init 165 = .ok (.return_, 1) := by decide +kernel
theorem n_eq {n : Nf} {R : Room} {own : String} {cc : ByteArray} {nL : Nat} {rt : Option FieldType} {ini : Prop} {QQ : List Frame → Array Value → State → State → Prop} {pc : Nat} {vs : List (Option Value)} {st : List Value} {ws ws' : va_W} {cells slots : Nat} (h : ws = ws') (k : NX n R own cc nL rt ini QQ pc vs st ws' cells slots) : NX n R own cc nL rt ini QQ pc vs st ws cells slots := h ▸ k
theorem lst_get (pre t : va_W) (k : Nat) {x : Nat × va_E} (h : t[k]? = some x) : (pre ++ t)[pre.length + k]? = some x := by
  rw [List.getElem?_append_right (by omega)]
  rw [show pre.length + k - pre.length = k by omega]
  exact h
theorem lst_set (pre t : va_W) (k : Nat) (y : Nat × va_E) : (pre ++ t).set (pre.length + k) y = pre ++ t.set k y := by
  induction pre with
  | nil => simp
  | cons a l ih =>
    rw [List.cons_append, List.length_cons, show l.length + 1 + k = (l.length + k) + 1 by omega, List.set_cons_succ, ih, List.cons_append]
theorem tyd_0 {n : Nf} : (tysC n.2.2.1)[0]? = some (n.2.2.1 0, .int) := rfl
theorem tyd_1 {n : Nf} : (tysC n.2.2.1)[1]? = some (n.2.2.1 1, .byte) := rfl
theorem tyd_2 {n : Nf} : (tysC n.2.2.1)[2]? = some (n.2.2.1 2, .long) := rfl
theorem vc_int (cA : ClassId) (N : Nat) : vp_cell cA (N, .inl (fun _ => 0)) = arrV cA N (fun _ => defaultValue .int) := vp_cell_i cA N _
theorem vc_byte (cA : ClassId) (N : Nat) : vp_cell cA (N, .inl (fun _ => 0)) = arrV cA N (fun _ => defaultValue .byte) := vp_cell_i cA N _
theorem vc_long (cA : ClassId) (N : Nat) : vp_cell cA (N, .inr (.inl (fun _ => 0))) = arrV cA N (fun _ => defaultValue .long) := vp_cell_l cA N _
theorem ol_X9_3 : Cond.methodLink RX9 3 objectInit ∈ gw := (gw_tb 39 (by decide +kernel) (by decide +kernel))
theorem ac_int : Cond.arrayClass (newarray.typeOf .int) ∈ gw := (gw_tb 47 (by decide +kernel) (by decide +kernel))
theorem ii_X9_init : Cond.instanceMethod yX9_init ∈ gw ∧ Cond.initialized yX9_init.cls ∈ gw ∧ Cond.code yX9_init cX9_init 1 none ∈ gw := ⟨(gw_tb 37 (by decide +kernel) (by decide +kernel)), (gw_tb 2 (by decide +kernel) (by decide +kernel)), (gw_tb 38 (by decide +kernel) (by decide +kernel))⟩
set_option maxRecDepth 8000 in
set_option maxHeartbeats 4000000 in
theorem i_X9_init {n : Nf} (pre : va_W) (a : Nat) : NCl n 1 yX9_init cX9_init 1 none [.ref a] (pre ++ [(a, .inr (9, [.null, .int 0]))]) 1 240 (fun ws => ∃ q1 : Nat, ws = pre ++ [(a, .inr (9, [.ref q1, .int 0])), (q1, .inl (n.2.2.1 0, 240, .inl (fun _ => 0)))]) none := by
  refine ncl_of (by decide) (Nat.le_of_ble_eq_true rfl) (vs := [some (.ref a)]) rfl rfl ?_
  show NX n (rmn 1 1 240) RX9 cX9_init 1 none (("<init>" : String) = "<init>") _ 0 _ [] _ 0 0
  refine n_aloadn_0 dX9_init_0 ?_
  refine n_objInit ol_X9_3 (Nat.le_of_ble_eq_true rfl) (Nat.le_of_ble_eq_true rfl) rfl dX9_init_1 ?_
  refine n_aloadn_0 dX9_init_4 ?_
  refine n_sipush 240 dX9_init_5 rfl ?_
  refine n_newa (ty := .int) (cA := n.2.2.1 0) (t0 := 0) 240 (240, .inl (fun _ => 0)) rfl tyd_0 (fun _ _ _ => ra_int) (fun _ => vc_int _ _) (by decide) rfl (by decide +kernel) ac_int (Nat.le_of_ble_eq_true rfl) (Nat.le_of_ble_eq_true rfl) dX9_init_8 (fun q1 => ?_)
  refine n_eq (ws' := pre ++ [(a, .inr (9, [.null, .int 0])), (q1, .inl (n.2.2.1 0, 240, .inl (fun _ => 0)))]) (List.append_assoc _ _ _) ?_
  refine n_putF (ty := (.array .int)) (x := .ref q1) (lst_get pre _ 0 rfl) fo_9_0 rfl tyX9 tyX9_ok nmX9 rfl rfl (by decide +kernel) rfl rfl (Nat.le_of_ble_eq_true rfl) dX9_init_10 ?_
  refine n_eq (ws' := pre ++ [(a, .inr (9, [.ref q1, .int 0])), (q1, .inl (n.2.2.1 0, 240, .inl (fun _ => 0)))]) (lst_set pre _ 0 _) ?_
  exact n_vret ⟨q1, rfl⟩ (Nat.le_of_ble_eq_true rfl) (Nat.le_of_ble_eq_true rfl) dX9_init_13
theorem ol_X0_5 : Cond.methodLink RX0 5 objectInit ∈ gw := (gw_tb 53 (by decide +kernel) (by decide +kernel))
theorem ii_X0_init : Cond.instanceMethod yX0_init ∈ gw ∧ Cond.initialized yX0_init.cls ∈ gw ∧ Cond.code yX0_init cX0_init 1 none ∈ gw := ⟨(gw_tb 51 (by decide +kernel) (by decide +kernel)), (gw_tb 3 (by decide +kernel) (by decide +kernel)), (gw_tb 52 (by decide +kernel) (by decide +kernel))⟩
set_option maxRecDepth 8000 in
set_option maxHeartbeats 4000000 in
theorem i_X0_init {n : Nf} (pre : va_W) (a : Nat) : NCl n 1 yX0_init cX0_init 1 none [.ref a] (pre ++ [(a, .inr (0, [.null]))]) 1 100 (fun ws => ∃ q1 : Nat, ws = pre ++ [(a, .inr (0, [.ref q1])), (q1, .inl (n.2.2.1 0, 100, .inl (upd (fun _ => 0) 98 (-1))))]) none := by
  refine ncl_of (by decide) (Nat.le_of_ble_eq_true rfl) (vs := [some (.ref a)]) rfl rfl ?_
  show NX n (rmn 1 1 100) RX0 cX0_init 1 none (("<init>" : String) = "<init>") _ 0 _ [] _ 0 0
  refine n_aloadn_0 dX0_init_0 ?_
  refine n_objInit ol_X0_5 (Nat.le_of_ble_eq_true rfl) (Nat.le_of_ble_eq_true rfl) rfl dX0_init_1 ?_
  refine n_aloadn_0 dX0_init_4 ?_
  refine n_bipush 100 dX0_init_5 rfl ?_
  refine n_newa (ty := .int) (cA := n.2.2.1 0) (t0 := 0) 100 (100, .inl (fun _ => 0)) rfl tyd_0 (fun _ _ _ => ra_int) (fun _ => vc_int _ _) (by decide) rfl (by decide +kernel) ac_int (Nat.le_of_ble_eq_true rfl) (Nat.le_of_ble_eq_true rfl) dX0_init_7 (fun q1 => ?_)
  refine n_eq (ws' := pre ++ [(a, .inr (0, [.null])), (q1, .inl (n.2.2.1 0, 100, .inl (fun _ => 0)))]) (List.append_assoc _ _ _) ?_
  refine n_putF (ty := (.array .int)) (x := .ref q1) (lst_get pre _ 0 rfl) fo_0_0 rfl tyX0 tyX0_ok nmX0 rfl rfl (by decide +kernel) rfl rfl (Nat.le_of_ble_eq_true rfl) dX0_init_9 ?_
  refine n_eq (ws' := pre ++ [(a, .inr (0, [.ref q1])), (q1, .inl (n.2.2.1 0, 100, .inl (fun _ => 0)))]) (lst_set pre _ 0 _) ?_
  refine n_aloadn_0 dX0_init_12 ?_
  refine n_get (lst_get pre _ 0 rfl) fo_0_0 rfl dX0_init_13 ?_
  refine n_bipush 98 dX0_init_16 rfl ?_
  refine n_iconst (-1) dX0_init_18 rfl ?_
  refine n_iast (lst_get pre _ 1 rfl) rfl dX0_init_19 ?_
  refine n_eq (ws' := pre ++ [(a, .inr (0, [.ref q1])), (q1, .inl (n.2.2.1 0, 100, .inl (upd (fun _ => 0) 98 (-1))))]) (lst_set pre _ 1 _) ?_
  exact n_vret ⟨q1, rfl⟩ (Nat.le_of_ble_eq_true rfl) (Nat.le_of_ble_eq_true rfl) dX0_init_20
theorem ol_X2_3 : Cond.methodLink RX2 3 objectInit ∈ gw := (gw_tb 69 (by decide +kernel) (by decide +kernel))
theorem ii_X2_init : Cond.instanceMethod yX2_init ∈ gw ∧ Cond.initialized yX2_init.cls ∈ gw ∧ Cond.code yX2_init cX2_init 2 none ∈ gw := ⟨(gw_tb 67 (by decide +kernel) (by decide +kernel)), (gw_tb 5 (by decide +kernel) (by decide +kernel)), (gw_tb 68 (by decide +kernel) (by decide +kernel))⟩
set_option maxRecDepth 8000 in
set_option maxHeartbeats 4000000 in
theorem i_X2_init {n : Nf} (pre : va_W) (a : Nat) (b1 : Nat) : NCl n 1 yX2_init cX2_init 2 none [.ref a, .ref b1] (pre ++ [(a, .inr (2, [.null, .int 0, .int 0]))]) 0 0 (fun ws => ws = pre ++ [(a, .inr (2, [.ref b1, .int 0, .int 0]))]) none := by
  refine ncl_of (by decide) (Nat.le_of_ble_eq_true rfl) (vs := [some (.ref a), some (.ref b1)]) rfl rfl ?_
  show NX n (rmn 1 0 0) RX2 cX2_init 2 none (("<init>" : String) = "<init>") _ 0 _ [] _ 0 0
  refine n_aloadn_0 dX2_init_0 ?_
  refine n_objInit ol_X2_3 (Nat.le_of_ble_eq_true rfl) (Nat.le_of_ble_eq_true rfl) rfl dX2_init_1 ?_
  refine n_aloadn_0 dX2_init_4 ?_
  refine n_aloadn_1 dX2_init_5 ?_
  refine n_putF (ty := (.object "CountRule$Tape")) (x := .ref b1) (lst_get pre _ 0 rfl) fo_2_0 rfl tyX2 tyX2_ok nmX2 rfl rfl (by decide +kernel) rfl rfl (Nat.le_of_ble_eq_true rfl) dX2_init_6 ?_
  refine n_eq (ws' := pre ++ [(a, .inr (2, [.ref b1, .int 0, .int 0]))]) (lst_set pre _ 0 _) ?_
  exact n_vret rfl (Nat.le_of_ble_eq_true rfl) (Nat.le_of_ble_eq_true rfl) dX2_init_9
theorem ol_X1_3 : Cond.methodLink RX1 3 objectInit ∈ gw := (gw_tb 63 (by decide +kernel) (by decide +kernel))
theorem cl_X1_9 : Cond.classLink RX1 9 RX2 ∈ gw := (gw_tb 64 (by decide +kernel) (by decide +kernel))
theorem in_st_2 : Cond.instantiable RX2 3 ∈ gw ∧ Cond.initialized RX2 ∈ gw := ⟨(gw_tb 65 (by decide +kernel) (by decide +kernel)), (gw_tb 5 (by decide +kernel) (by decide +kernel))⟩
theorem ol_X1_11 : Cond.methodLink RX1 11 yX2_init ∈ gw := (gw_tb 66 (by decide +kernel) (by decide +kernel))
theorem ii_X1_init : Cond.instanceMethod yX1_init ∈ gw ∧ Cond.initialized yX1_init.cls ∈ gw ∧ Cond.code yX1_init cX1_init 2 none ∈ gw := ⟨(gw_tb 61 (by decide +kernel) (by decide +kernel)), (gw_tb 4 (by decide +kernel) (by decide +kernel)), (gw_tb 62 (by decide +kernel) (by decide +kernel))⟩
set_option maxRecDepth 8000 in
set_option maxHeartbeats 4000000 in
theorem i_X1_init {n : Nf} (pre : va_W) (a : Nat) (b1 : Nat) : NCl n 2 yX1_init cX1_init 2 none [.ref a, .ref b1] (pre ++ [(a, .inr (1, [.null, .null, .int 0]))]) 2 9 (fun ws => ∃ q1 q2 : Nat, ws = pre ++ [(a, .inr (1, [.ref q1, .ref q2, .int 0])), (q1, .inr (2, [.ref b1, .int 0, .int 0])), (q2, .inl (n.2.2.1 0, 6, .inl (fun _ => 0)))]) none := by
  refine ncl_of (by decide) (Nat.le_of_ble_eq_true rfl) (vs := [some (.ref a), some (.ref b1)]) rfl rfl ?_
  show NX n (rmn 2 2 9) RX1 cX1_init 2 none (("<init>" : String) = "<init>") _ 0 _ [] _ 0 0
  refine n_aloadn_0 dX1_init_0 ?_
  refine n_objInit ol_X1_3 (Nat.le_of_ble_eq_true rfl) (Nat.le_of_ble_eq_true rfl) rfl dX1_init_1 ?_
  refine n_aloadn_0 dX1_init_4 ?_
  refine n_new tyX2 tyX2_ok in_2 cl_X1_9 in_st_2.1 in_st_2.2 (ci := 2) rfl [.null, .int 0, .int 0] (by decide) (Nat.le_of_ble_eq_true rfl) (Nat.le_of_ble_eq_true rfl) dX1_init_5 (fun q1 => ?_)
  refine n_eq (ws' := pre ++ [(a, .inr (1, [.null, .null, .int 0])), (q1, .inr (2, [.null, .int 0, .int 0]))]) (List.append_assoc _ _ _) ?_
  refine n_dup dX1_init_8 rfl ?_
  refine n_aloadn_1 dX1_init_9 ?_
  refine n_eq (ws' := (pre ++ [(a, .inr (1, [.null, .null, .int 0]))]) ++ [(q1, .inr (2, [.null, .int 0, .int 0]))]) (by rw [List.append_assoc]; rfl) ?_
  refine n_init (na := 1) (As := [.ref b1]) rfl (i_X2_init (pre ++ [(a, .inr (1, [.null, .null, .int 0]))]) q1 b1) ii_X2_init.1 ii_X2_init.2.1 ii_X2_init.2.2 ol_X1_11 rfl (by decide +kernel) rfl ⟨Nat.le_of_ble_eq_true rfl, Nat.le_of_ble_eq_true rfl⟩ ⟨Nat.le_of_ble_eq_true rfl, Nat.le_of_ble_eq_true rfl⟩ rfl dX1_init_10 ?_
  rintro _ rfl
  refine n_eq (ws' := pre ++ [(a, .inr (1, [.null, .null, .int 0])), (q1, .inr (2, [.ref b1, .int 0, .int 0]))]) (List.append_assoc _ _ _) ?_
  refine n_putF (ty := (.object "CountRule$Cursor")) (x := .ref q1) (lst_get pre _ 0 rfl) fo_1_0 rfl tyX1 tyX1_ok nmX1 rfl rfl (by decide +kernel) rfl rfl (Nat.le_of_ble_eq_true rfl) dX1_init_13 ?_
  refine n_eq (ws' := pre ++ [(a, .inr (1, [.ref q1, .null, .int 0])), (q1, .inr (2, [.ref b1, .int 0, .int 0]))]) (lst_set pre _ 0 _) ?_
  refine n_aloadn_0 dX1_init_16 ?_
  refine n_bipush 6 dX1_init_17 rfl ?_
  refine n_newa (ty := .int) (cA := n.2.2.1 0) (t0 := 0) 6 (6, .inl (fun _ => 0)) rfl tyd_0 (fun _ _ _ => ra_int) (fun _ => vc_int _ _) (by decide) rfl (by decide +kernel) ac_int (Nat.le_of_ble_eq_true rfl) (Nat.le_of_ble_eq_true rfl) dX1_init_19 (fun q2 => ?_)
  refine n_eq (ws' := pre ++ [(a, .inr (1, [.ref q1, .null, .int 0])), (q1, .inr (2, [.ref b1, .int 0, .int 0])), (q2, .inl (n.2.2.1 0, 6, .inl (fun _ => 0)))]) (List.append_assoc _ _ _) ?_
  refine n_putF (ty := (.array .int)) (x := .ref q2) (lst_get pre _ 0 rfl) fo_1_1 rfl tyX1 tyX1_ok nmX1 rfl rfl (by decide +kernel) rfl rfl (Nat.le_of_ble_eq_true rfl) dX1_init_21 ?_
  refine n_eq (ws' := pre ++ [(a, .inr (1, [.ref q1, .ref q2, .int 0])), (q1, .inr (2, [.ref b1, .int 0, .int 0])), (q2, .inl (n.2.2.1 0, 6, .inl (fun _ => 0)))]) (lst_set pre _ 0 _) ?_
  exact n_vret ⟨q1, q2, rfl⟩ (Nat.le_of_ble_eq_true rfl) (Nat.le_of_ble_eq_true rfl) dX1_init_24
theorem ol_X6_1 : Cond.methodLink RX6 1 objectInit ∈ gw := (gw_tb 95 (by decide +kernel) (by decide +kernel))
theorem cl_X6_7 : Cond.classLink RX6 7 RX2 ∈ gw := (gw_tb 96 (by decide +kernel) (by decide +kernel))
theorem ol_X6_9 : Cond.methodLink RX6 9 yX2_init ∈ gw := (gw_tb 97 (by decide +kernel) (by decide +kernel))
theorem ii_X6_init : Cond.instanceMethod yX6_init ∈ gw ∧ Cond.initialized yX6_init.cls ∈ gw ∧ Cond.code yX6_init cX6_init 2 none ∈ gw := ⟨(gw_tb 93 (by decide +kernel) (by decide +kernel)), (gw_tb 6 (by decide +kernel) (by decide +kernel)), (gw_tb 94 (by decide +kernel) (by decide +kernel))⟩
set_option maxRecDepth 8000 in
set_option maxHeartbeats 4000000 in
theorem i_X6_init {n : Nf} (pre : va_W) (a : Nat) (b1 : Nat) : NCl n 2 yX6_init cX6_init 2 none [.ref a, .ref b1] (pre ++ [(a, .inr (6, [.null, .null, .int 0]))]) 2 243 (fun ws => ∃ q1 q2 : Nat, ws = pre ++ [(a, .inr (6, [.ref q1, .ref q2, .int 0])), (q1, .inr (2, [.ref b1, .int 0, .int 0])), (q2, .inl (n.2.2.1 0, 240, .inl (fun _ => 0)))]) none := by
  refine ncl_of (by decide) (Nat.le_of_ble_eq_true rfl) (vs := [some (.ref a), some (.ref b1)]) rfl rfl ?_
  show NX n (rmn 2 2 243) RX6 cX6_init 2 none (("<init>" : String) = "<init>") _ 0 _ [] _ 0 0
  refine n_aloadn_0 dX6_init_0 ?_
  refine n_objInit ol_X6_1 (Nat.le_of_ble_eq_true rfl) (Nat.le_of_ble_eq_true rfl) rfl dX6_init_1 ?_
  refine n_aloadn_0 dX6_init_4 ?_
  refine n_new tyX2 tyX2_ok in_2 cl_X6_7 in_st_2.1 in_st_2.2 (ci := 2) rfl [.null, .int 0, .int 0] (by decide) (Nat.le_of_ble_eq_true rfl) (Nat.le_of_ble_eq_true rfl) dX6_init_5 (fun q1 => ?_)
  refine n_eq (ws' := pre ++ [(a, .inr (6, [.null, .null, .int 0])), (q1, .inr (2, [.null, .int 0, .int 0]))]) (List.append_assoc _ _ _) ?_
  refine n_dup dX6_init_8 rfl ?_
  refine n_aloadn_1 dX6_init_9 ?_
  refine n_eq (ws' := (pre ++ [(a, .inr (6, [.null, .null, .int 0]))]) ++ [(q1, .inr (2, [.null, .int 0, .int 0]))]) (by rw [List.append_assoc]; rfl) ?_
  refine n_init (na := 1) (As := [.ref b1]) rfl (i_X2_init (pre ++ [(a, .inr (6, [.null, .null, .int 0]))]) q1 b1) ii_X2_init.1 ii_X2_init.2.1 ii_X2_init.2.2 ol_X6_9 rfl (by decide +kernel) rfl ⟨Nat.le_of_ble_eq_true rfl, Nat.le_of_ble_eq_true rfl⟩ ⟨Nat.le_of_ble_eq_true rfl, Nat.le_of_ble_eq_true rfl⟩ rfl dX6_init_10 ?_
  rintro _ rfl
  refine n_eq (ws' := pre ++ [(a, .inr (6, [.null, .null, .int 0])), (q1, .inr (2, [.ref b1, .int 0, .int 0]))]) (List.append_assoc _ _ _) ?_
  refine n_putF (ty := (.object "CountRule$Cursor")) (x := .ref q1) (lst_get pre _ 0 rfl) fo_6_0 rfl tyX6 tyX6_ok nmX6 rfl rfl (by decide +kernel) rfl rfl (Nat.le_of_ble_eq_true rfl) dX6_init_13 ?_
  refine n_eq (ws' := pre ++ [(a, .inr (6, [.ref q1, .null, .int 0])), (q1, .inr (2, [.ref b1, .int 0, .int 0]))]) (lst_set pre _ 0 _) ?_
  refine n_aloadn_0 dX6_init_16 ?_
  refine n_sipush 240 dX6_init_17 rfl ?_
  refine n_newa (ty := .int) (cA := n.2.2.1 0) (t0 := 0) 240 (240, .inl (fun _ => 0)) rfl tyd_0 (fun _ _ _ => ra_int) (fun _ => vc_int _ _) (by decide) rfl (by decide +kernel) ac_int (Nat.le_of_ble_eq_true rfl) (Nat.le_of_ble_eq_true rfl) dX6_init_20 (fun q2 => ?_)
  refine n_eq (ws' := pre ++ [(a, .inr (6, [.ref q1, .null, .int 0])), (q1, .inr (2, [.ref b1, .int 0, .int 0])), (q2, .inl (n.2.2.1 0, 240, .inl (fun _ => 0)))]) (List.append_assoc _ _ _) ?_
  refine n_putF (ty := (.array .int)) (x := .ref q2) (lst_get pre _ 0 rfl) fo_6_1 rfl tyX6 tyX6_ok nmX6 rfl rfl (by decide +kernel) rfl rfl (Nat.le_of_ble_eq_true rfl) dX6_init_22 ?_
  refine n_eq (ws' := pre ++ [(a, .inr (6, [.ref q1, .ref q2, .int 0])), (q1, .inr (2, [.ref b1, .int 0, .int 0])), (q2, .inl (n.2.2.1 0, 240, .inl (fun _ => 0)))]) (lst_set pre _ 0 _) ?_
  exact n_vret ⟨q1, q2, rfl⟩ (Nat.le_of_ble_eq_true rfl) (Nat.le_of_ble_eq_true rfl) dX6_init_25
theorem ol_X5_3 : Cond.methodLink RX5 3 objectInit ∈ gw := (gw_tb 113 (by decide +kernel) (by decide +kernel))
theorem cl_X5_11 : Cond.classLink RX5 11 "CountRule$Law" ∈ gw := (gw_tb 114 (by decide +kernel) (by decide +kernel))
theorem ii_X5_init : Cond.instanceMethod yX5_init ∈ gw ∧ Cond.initialized yX5_init.cls ∈ gw ∧ Cond.code yX5_init cX5_init 1 none ∈ gw := ⟨(gw_tb 111 (by decide +kernel) (by decide +kernel)), (gw_tb 7 (by decide +kernel) (by decide +kernel)), (gw_tb 112 (by decide +kernel) (by decide +kernel))⟩
set_option maxRecDepth 8000 in
set_option maxHeartbeats 4000000 in
theorem i_X5_init {n : Nf} (pre : va_W) (a : Nat) : NCl n 1 yX5_init cX5_init 1 none [.ref a] (pre ++ [(a, .inr (5, [.null, .null, .int 0, .int 0]))]) 2 10 (fun ws => ∃ q1 q2 : Nat, ws = pre ++ [(a, .inr (5, [.ref q1, .ref q2, .int 0, .int (-1)])), (q1, .inl (n.2.2.1 3, 4, .inr (.inr (.inr (.inr (fun _ => none)))))), (q2, .inl (n.2.2.1 0, 6, .inl (fun _ => 0)))]) none := by
  refine ncl_of (by decide) (Nat.le_of_ble_eq_true rfl) (vs := [some (.ref a)]) rfl rfl ?_
  show NX n (rmn 1 2 10) RX5 cX5_init 1 none (("<init>" : String) = "<init>") _ 0 _ [] _ 0 0
  refine n_aloadn_0 dX5_init_0 ?_
  refine n_objInit ol_X5_3 (Nat.le_of_ble_eq_true rfl) (Nat.le_of_ble_eq_true rfl) rfl dX5_init_1 ?_
  refine n_aloadn_0 dX5_init_4 ?_
  refine n_iconst 4 dX5_init_5 rfl ?_
  refine n_anew 4 cl_X5_11 (by decide) rfl (by decide +kernel) (Nat.le_of_ble_eq_true rfl) (Nat.le_of_ble_eq_true rfl) dX5_init_6 (fun q1 => ?_)
  refine n_eq (ws' := pre ++ [(a, .inr (5, [.null, .null, .int 0, .int 0])), (q1, .inl (n.2.2.1 3, 4, .inr (.inr (.inr (.inr (fun _ => none))))))]) (List.append_assoc _ _ _) ?_
  refine n_putF (ty := (.array (.object "CountRule$Law"))) (x := .ref q1) (lst_get pre _ 0 rfl) fo_5_0 rfl tyX5 tyX5_ok nmX5 rfl rfl (by decide +kernel) rfl rfl (Nat.le_of_ble_eq_true rfl) dX5_init_9 ?_
  refine n_eq (ws' := pre ++ [(a, .inr (5, [.ref q1, .null, .int 0, .int 0])), (q1, .inl (n.2.2.1 3, 4, .inr (.inr (.inr (.inr (fun _ => none))))))]) (lst_set pre _ 0 _) ?_
  refine n_aloadn_0 dX5_init_12 ?_
  refine n_bipush 6 dX5_init_13 rfl ?_
  refine n_newa (ty := .int) (cA := n.2.2.1 0) (t0 := 0) 6 (6, .inl (fun _ => 0)) rfl tyd_0 (fun _ _ _ => ra_int) (fun _ => vc_int _ _) (by decide) rfl (by decide +kernel) ac_int (Nat.le_of_ble_eq_true rfl) (Nat.le_of_ble_eq_true rfl) dX5_init_15 (fun q2 => ?_)
  refine n_eq (ws' := pre ++ [(a, .inr (5, [.ref q1, .null, .int 0, .int 0])), (q1, .inl (n.2.2.1 3, 4, .inr (.inr (.inr (.inr (fun _ => none)))))), (q2, .inl (n.2.2.1 0, 6, .inl (fun _ => 0)))]) (List.append_assoc _ _ _) ?_
  refine n_putF (ty := (.array .int)) (x := .ref q2) (lst_get pre _ 0 rfl) fo_5_1 rfl tyX5 tyX5_ok nmX5 rfl rfl (by decide +kernel) rfl rfl (Nat.le_of_ble_eq_true rfl) dX5_init_17 ?_
  refine n_eq (ws' := pre ++ [(a, .inr (5, [.ref q1, .ref q2, .int 0, .int 0])), (q1, .inl (n.2.2.1 3, 4, .inr (.inr (.inr (.inr (fun _ => none)))))), (q2, .inl (n.2.2.1 0, 6, .inl (fun _ => 0)))]) (lst_set pre _ 0 _) ?_
  refine n_aloadn_0 dX5_init_20 ?_
  refine n_iconst (-1) dX5_init_21 rfl ?_
  refine n_put (ty := .int) (x := .int (-1)) (lst_get pre _ 0 rfl) fo_5_3 tyX5 tyX5_ok nmX5 rfl (by decide +kernel) rfl rfl (Nat.le_of_ble_eq_true rfl) dX5_init_22 ?_
  refine n_eq (ws' := pre ++ [(a, .inr (5, [.ref q1, .ref q2, .int 0, .int (-1)])), (q1, .inl (n.2.2.1 3, 4, .inr (.inr (.inr (.inr (fun _ => none)))))), (q2, .inl (n.2.2.1 0, 6, .inl (fun _ => 0)))]) (lst_set pre _ 0 _) ?_
  exact n_vret ⟨q1, q2, rfl⟩ (Nat.le_of_ble_eq_true rfl) (Nat.le_of_ble_eq_true rfl) dX5_init_25
theorem ol_X7_5 : Cond.methodLink RX7 5 objectInit ∈ gw := (gw_tb 134 (by decide +kernel) (by decide +kernel))
theorem ii_X7_init : Cond.instanceMethod yX7_init ∈ gw ∧ Cond.initialized yX7_init.cls ∈ gw ∧ Cond.code yX7_init cX7_init 1 none ∈ gw := ⟨(gw_tb 132 (by decide +kernel) (by decide +kernel)), (gw_tb 8 (by decide +kernel) (by decide +kernel)), (gw_tb 133 (by decide +kernel) (by decide +kernel))⟩
set_option maxRecDepth 8000 in
set_option maxHeartbeats 4000000 in
theorem i_X7_init {n : Nf} (pre : va_W) (a : Nat) : NCl n 1 yX7_init cX7_init 1 none [.ref a] (pre ++ [(a, .inr (7, [.null, .null, .null, .null, .int 0, .int 0, .int 0]))]) 4 4700 (fun ws => ∃ q1 q2 q3 q4 : Nat, ws = pre ++ [(a, .inr (7, [.ref q1, .ref q2, .ref q3, .ref q4, .int 0, .int 0, .int 0])), (q1, .inl (n.2.2.1 0, 4000, .inl (fun _ => 0))), (q2, .inl (n.2.2.1 0, 300, .inl (fun _ => 0))), (q3, .inl (n.2.2.1 0, 100, .inl (fun _ => 0))), (q4, .inl (n.2.2.1 0, 300, .inl (fun _ => 0)))]) none := by
  refine ncl_of (by decide) (Nat.le_of_ble_eq_true rfl) (vs := [some (.ref a)]) rfl rfl ?_
  show NX n (rmn 1 4 4700) RX7 cX7_init 1 none (("<init>" : String) = "<init>") _ 0 _ [] _ 0 0
  refine n_aloadn_0 dX7_init_0 ?_
  refine n_objInit ol_X7_5 (Nat.le_of_ble_eq_true rfl) (Nat.le_of_ble_eq_true rfl) rfl dX7_init_1 ?_
  refine n_aloadn_0 dX7_init_4 ?_
  refine n_sipush 4000 dX7_init_5 rfl ?_
  refine n_newa (ty := .int) (cA := n.2.2.1 0) (t0 := 0) 4000 (4000, .inl (fun _ => 0)) rfl tyd_0 (fun _ _ _ => ra_int) (fun _ => vc_int _ _) (by decide) rfl (by decide +kernel) ac_int (Nat.le_of_ble_eq_true rfl) (Nat.le_of_ble_eq_true rfl) dX7_init_8 (fun q1 => ?_)
  refine n_eq (ws' := pre ++ [(a, .inr (7, [.null, .null, .null, .null, .int 0, .int 0, .int 0])), (q1, .inl (n.2.2.1 0, 4000, .inl (fun _ => 0)))]) (List.append_assoc _ _ _) ?_
  refine n_putF (ty := (.array .int)) (x := .ref q1) (lst_get pre _ 0 rfl) fo_7_0 rfl tyX7 tyX7_ok nmX7 rfl rfl (by decide +kernel) rfl rfl (Nat.le_of_ble_eq_true rfl) dX7_init_10 ?_
  refine n_eq (ws' := pre ++ [(a, .inr (7, [.ref q1, .null, .null, .null, .int 0, .int 0, .int 0])), (q1, .inl (n.2.2.1 0, 4000, .inl (fun _ => 0)))]) (lst_set pre _ 0 _) ?_
  refine n_aloadn_0 dX7_init_13 ?_
  refine n_sipush 300 dX7_init_14 rfl ?_
  refine n_newa (ty := .int) (cA := n.2.2.1 0) (t0 := 0) 300 (300, .inl (fun _ => 0)) rfl tyd_0 (fun _ _ _ => ra_int) (fun _ => vc_int _ _) (by decide) rfl (by decide +kernel) ac_int (Nat.le_of_ble_eq_true rfl) (Nat.le_of_ble_eq_true rfl) dX7_init_17 (fun q2 => ?_)
  refine n_eq (ws' := pre ++ [(a, .inr (7, [.ref q1, .null, .null, .null, .int 0, .int 0, .int 0])), (q1, .inl (n.2.2.1 0, 4000, .inl (fun _ => 0))), (q2, .inl (n.2.2.1 0, 300, .inl (fun _ => 0)))]) (List.append_assoc _ _ _) ?_
  refine n_putF (ty := (.array .int)) (x := .ref q2) (lst_get pre _ 0 rfl) fo_7_1 rfl tyX7 tyX7_ok nmX7 rfl rfl (by decide +kernel) rfl rfl (Nat.le_of_ble_eq_true rfl) dX7_init_19 ?_
  refine n_eq (ws' := pre ++ [(a, .inr (7, [.ref q1, .ref q2, .null, .null, .int 0, .int 0, .int 0])), (q1, .inl (n.2.2.1 0, 4000, .inl (fun _ => 0))), (q2, .inl (n.2.2.1 0, 300, .inl (fun _ => 0)))]) (lst_set pre _ 0 _) ?_
  refine n_aloadn_0 dX7_init_22 ?_
  refine n_bipush 100 dX7_init_23 rfl ?_
  refine n_newa (ty := .int) (cA := n.2.2.1 0) (t0 := 0) 100 (100, .inl (fun _ => 0)) rfl tyd_0 (fun _ _ _ => ra_int) (fun _ => vc_int _ _) (by decide) rfl (by decide +kernel) ac_int (Nat.le_of_ble_eq_true rfl) (Nat.le_of_ble_eq_true rfl) dX7_init_25 (fun q3 => ?_)
  refine n_eq (ws' := pre ++ [(a, .inr (7, [.ref q1, .ref q2, .null, .null, .int 0, .int 0, .int 0])), (q1, .inl (n.2.2.1 0, 4000, .inl (fun _ => 0))), (q2, .inl (n.2.2.1 0, 300, .inl (fun _ => 0))), (q3, .inl (n.2.2.1 0, 100, .inl (fun _ => 0)))]) (List.append_assoc _ _ _) ?_
  refine n_putF (ty := (.array .int)) (x := .ref q3) (lst_get pre _ 0 rfl) fo_7_2 rfl tyX7 tyX7_ok nmX7 rfl rfl (by decide +kernel) rfl rfl (Nat.le_of_ble_eq_true rfl) dX7_init_27 ?_
  refine n_eq (ws' := pre ++ [(a, .inr (7, [.ref q1, .ref q2, .ref q3, .null, .int 0, .int 0, .int 0])), (q1, .inl (n.2.2.1 0, 4000, .inl (fun _ => 0))), (q2, .inl (n.2.2.1 0, 300, .inl (fun _ => 0))), (q3, .inl (n.2.2.1 0, 100, .inl (fun _ => 0)))]) (lst_set pre _ 0 _) ?_
  refine n_aloadn_0 dX7_init_30 ?_
  refine n_sipush 300 dX7_init_31 rfl ?_
  refine n_newa (ty := .int) (cA := n.2.2.1 0) (t0 := 0) 300 (300, .inl (fun _ => 0)) rfl tyd_0 (fun _ _ _ => ra_int) (fun _ => vc_int _ _) (by decide) rfl (by decide +kernel) ac_int (Nat.le_of_ble_eq_true rfl) (Nat.le_of_ble_eq_true rfl) dX7_init_34 (fun q4 => ?_)
  refine n_eq (ws' := pre ++ [(a, .inr (7, [.ref q1, .ref q2, .ref q3, .null, .int 0, .int 0, .int 0])), (q1, .inl (n.2.2.1 0, 4000, .inl (fun _ => 0))), (q2, .inl (n.2.2.1 0, 300, .inl (fun _ => 0))), (q3, .inl (n.2.2.1 0, 100, .inl (fun _ => 0))), (q4, .inl (n.2.2.1 0, 300, .inl (fun _ => 0)))]) (List.append_assoc _ _ _) ?_
  refine n_putF (ty := (.array .int)) (x := .ref q4) (lst_get pre _ 0 rfl) fo_7_3 rfl tyX7 tyX7_ok nmX7 rfl rfl (by decide +kernel) rfl rfl (Nat.le_of_ble_eq_true rfl) dX7_init_36 ?_
  refine n_eq (ws' := pre ++ [(a, .inr (7, [.ref q1, .ref q2, .ref q3, .ref q4, .int 0, .int 0, .int 0])), (q1, .inl (n.2.2.1 0, 4000, .inl (fun _ => 0))), (q2, .inl (n.2.2.1 0, 300, .inl (fun _ => 0))), (q3, .inl (n.2.2.1 0, 100, .inl (fun _ => 0))), (q4, .inl (n.2.2.1 0, 300, .inl (fun _ => 0)))]) (lst_set pre _ 0 _) ?_
  exact n_vret ⟨q1, q2, q3, q4, rfl⟩ (Nat.le_of_ble_eq_true rfl) (Nat.le_of_ble_eq_true rfl) dX7_init_39
theorem ol_X8_3 : Cond.methodLink RX8 3 objectInit ∈ gw := (gw_tb 162 (by decide +kernel) (by decide +kernel))
theorem ii_X8_init : Cond.instanceMethod yX8_init ∈ gw ∧ Cond.initialized yX8_init.cls ∈ gw ∧ Cond.code yX8_init cX8_init 2 none ∈ gw := ⟨(gw_tb 160 (by decide +kernel) (by decide +kernel)), (gw_tb 9 (by decide +kernel) (by decide +kernel)), (gw_tb 161 (by decide +kernel) (by decide +kernel))⟩
set_option maxRecDepth 8000 in
set_option maxHeartbeats 4000000 in
theorem i_X8_init {n : Nf} (pre : va_W) (a : Nat) (b1 : Nat) : NCl n 1 yX8_init cX8_init 2 none [.ref a, .ref b1] (pre ++ [(a, .inr (8, [.null, .null]))]) 1 8 (fun ws => ∃ q1 : Nat, ws = pre ++ [(a, .inr (8, [.ref b1, .ref q1])), (q1, .inl (n.2.2.1 0, 8, .inl (fun _ => 0)))]) none := by
  refine ncl_of (by decide) (Nat.le_of_ble_eq_true rfl) (vs := [some (.ref a), some (.ref b1)]) rfl rfl ?_
  show NX n (rmn 1 1 8) RX8 cX8_init 2 none (("<init>" : String) = "<init>") _ 0 _ [] _ 0 0
  refine n_aloadn_0 dX8_init_0 ?_
  refine n_objInit ol_X8_3 (Nat.le_of_ble_eq_true rfl) (Nat.le_of_ble_eq_true rfl) rfl dX8_init_1 ?_
  refine n_aloadn_0 dX8_init_4 ?_
  refine n_aloadn_1 dX8_init_5 ?_
  refine n_putF (ty := (.object "CountRule$County")) (x := .ref b1) (lst_get pre _ 0 rfl) fo_8_0 rfl tyX8 tyX8_ok nmX8 rfl rfl (by decide +kernel) rfl rfl (Nat.le_of_ble_eq_true rfl) dX8_init_6 ?_
  refine n_eq (ws' := pre ++ [(a, .inr (8, [.ref b1, .null]))]) (lst_set pre _ 0 _) ?_
  refine n_aloadn_0 dX8_init_9 ?_
  refine n_bipush 8 dX8_init_10 rfl ?_
  refine n_newa (ty := .int) (cA := n.2.2.1 0) (t0 := 0) 8 (8, .inl (fun _ => 0)) rfl tyd_0 (fun _ _ _ => ra_int) (fun _ => vc_int _ _) (by decide) rfl (by decide +kernel) ac_int (Nat.le_of_ble_eq_true rfl) (Nat.le_of_ble_eq_true rfl) dX8_init_12 (fun q1 => ?_)
  refine n_eq (ws' := pre ++ [(a, .inr (8, [.ref b1, .null])), (q1, .inl (n.2.2.1 0, 8, .inl (fun _ => 0)))]) (List.append_assoc _ _ _) ?_
  refine n_putF (ty := (.array .int)) (x := .ref q1) (lst_get pre _ 0 rfl) fo_8_1 rfl tyX8 tyX8_ok nmX8 rfl rfl (by decide +kernel) rfl rfl (Nat.le_of_ble_eq_true rfl) dX8_init_14 ?_
  refine n_eq (ws' := pre ++ [(a, .inr (8, [.ref b1, .ref q1])), (q1, .inl (n.2.2.1 0, 8, .inl (fun _ => 0)))]) (lst_set pre _ 0 _) ?_
  exact n_vret ⟨q1, rfl⟩ (Nat.le_of_ble_eq_true rfl) (Nat.le_of_ble_eq_true rfl) dX8_init_17
theorem ol_X3_3 : Cond.methodLink RX3 3 objectInit ∈ gw := (gw_tb 175 (by decide +kernel) (by decide +kernel))
theorem ii_X3_init : Cond.instanceMethod yX3_init ∈ gw ∧ Cond.initialized yX3_init.cls ∈ gw ∧ Cond.code yX3_init cX3_init 4 none ∈ gw := ⟨(gw_tb 173 (by decide +kernel) (by decide +kernel)), (gw_tb 10 (by decide +kernel) (by decide +kernel)), (gw_tb 174 (by decide +kernel) (by decide +kernel))⟩
set_option maxRecDepth 8000 in
set_option maxHeartbeats 4000000 in
theorem i_X3_init {n : Nf} (pre : va_W) (a : Nat) (b1 : Nat) (b2 : Nat) (b3 : Nat) : NCl n 1 yX3_init cX3_init 4 none [.ref a, .ref b1, .ref b2, .ref b3] (pre ++ [(a, .inr (3, [.null, .null, .null, .null, .null, .null, .int 0, .int 0, .int 0, .int 0, .int 0]))]) 3 112 (fun ws => ∃ q1 q2 q3 : Nat, ws = pre ++ [(a, .inr (3, [.ref b1, .ref b2, .ref b3, .ref q1, .ref q2, .ref q3, .int 0, .int 0, .int 0, .int 0, .int 0])), (q1, .inl (n.2.2.1 0, 24, .inl (fun _ => 0))), (q2, .inl (n.2.2.1 0, 24, .inl (fun _ => 0))), (q3, .inl (n.2.2.1 0, 64, .inl (fun _ => 0)))]) none := by
  refine ncl_of (by decide) (Nat.le_of_ble_eq_true rfl) (vs := [some (.ref a), some (.ref b1), some (.ref b2), some (.ref b3)]) rfl rfl ?_
  show NX n (rmn 1 3 112) RX3 cX3_init 4 none (("<init>" : String) = "<init>") _ 0 _ [] _ 0 0
  refine n_aloadn_0 dX3_init_0 ?_
  refine n_objInit ol_X3_3 (Nat.le_of_ble_eq_true rfl) (Nat.le_of_ble_eq_true rfl) rfl dX3_init_1 ?_
  refine n_aloadn_0 dX3_init_4 ?_
  refine n_aloadn_1 dX3_init_5 ?_
  refine n_putF (ty := (.object "CountRule$County")) (x := .ref b1) (lst_get pre _ 0 rfl) fo_3_0 rfl tyX3 tyX3_ok nmX3 rfl rfl (by decide +kernel) rfl rfl (Nat.le_of_ble_eq_true rfl) dX3_init_6 ?_
  refine n_eq (ws' := pre ++ [(a, .inr (3, [.ref b1, .null, .null, .null, .null, .null, .int 0, .int 0, .int 0, .int 0, .int 0]))]) (lst_set pre _ 0 _) ?_
  refine n_aloadn_0 dX3_init_9 ?_
  refine n_aloadn_2 dX3_init_10 ?_
  refine n_putF (ty := (.object "CountRule$County")) (x := .ref b2) (lst_get pre _ 0 rfl) fo_3_1 rfl tyX3 tyX3_ok nmX3 rfl rfl (by decide +kernel) rfl rfl (Nat.le_of_ble_eq_true rfl) dX3_init_11 ?_
  refine n_eq (ws' := pre ++ [(a, .inr (3, [.ref b1, .ref b2, .null, .null, .null, .null, .int 0, .int 0, .int 0, .int 0, .int 0]))]) (lst_set pre _ 0 _) ?_
  refine n_aloadn_0 dX3_init_14 ?_
  refine n_aloadn_3 dX3_init_15 ?_
  refine n_putF (ty := (.object "CountRule$LawBook")) (x := .ref b3) (lst_get pre _ 0 rfl) fo_3_2 rfl tyX3 tyX3_ok nmX3 rfl rfl (by decide +kernel) rfl rfl (Nat.le_of_ble_eq_true rfl) dX3_init_16 ?_
  refine n_eq (ws' := pre ++ [(a, .inr (3, [.ref b1, .ref b2, .ref b3, .null, .null, .null, .int 0, .int 0, .int 0, .int 0, .int 0]))]) (lst_set pre _ 0 _) ?_
  refine n_aloadn_0 dX3_init_19 ?_
  refine n_bipush 24 dX3_init_20 rfl ?_
  refine n_newa (ty := .int) (cA := n.2.2.1 0) (t0 := 0) 24 (24, .inl (fun _ => 0)) rfl tyd_0 (fun _ _ _ => ra_int) (fun _ => vc_int _ _) (by decide) rfl (by decide +kernel) ac_int (Nat.le_of_ble_eq_true rfl) (Nat.le_of_ble_eq_true rfl) dX3_init_22 (fun q1 => ?_)
  refine n_eq (ws' := pre ++ [(a, .inr (3, [.ref b1, .ref b2, .ref b3, .null, .null, .null, .int 0, .int 0, .int 0, .int 0, .int 0])), (q1, .inl (n.2.2.1 0, 24, .inl (fun _ => 0)))]) (List.append_assoc _ _ _) ?_
  refine n_putF (ty := (.array .int)) (x := .ref q1) (lst_get pre _ 0 rfl) fo_3_3 rfl tyX3 tyX3_ok nmX3 rfl rfl (by decide +kernel) rfl rfl (Nat.le_of_ble_eq_true rfl) dX3_init_24 ?_
  refine n_eq (ws' := pre ++ [(a, .inr (3, [.ref b1, .ref b2, .ref b3, .ref q1, .null, .null, .int 0, .int 0, .int 0, .int 0, .int 0])), (q1, .inl (n.2.2.1 0, 24, .inl (fun _ => 0)))]) (lst_set pre _ 0 _) ?_
  refine n_aloadn_0 dX3_init_27 ?_
  refine n_bipush 24 dX3_init_28 rfl ?_
  refine n_newa (ty := .int) (cA := n.2.2.1 0) (t0 := 0) 24 (24, .inl (fun _ => 0)) rfl tyd_0 (fun _ _ _ => ra_int) (fun _ => vc_int _ _) (by decide) rfl (by decide +kernel) ac_int (Nat.le_of_ble_eq_true rfl) (Nat.le_of_ble_eq_true rfl) dX3_init_30 (fun q2 => ?_)
  refine n_eq (ws' := pre ++ [(a, .inr (3, [.ref b1, .ref b2, .ref b3, .ref q1, .null, .null, .int 0, .int 0, .int 0, .int 0, .int 0])), (q1, .inl (n.2.2.1 0, 24, .inl (fun _ => 0))), (q2, .inl (n.2.2.1 0, 24, .inl (fun _ => 0)))]) (List.append_assoc _ _ _) ?_
  refine n_putF (ty := (.array .int)) (x := .ref q2) (lst_get pre _ 0 rfl) fo_3_4 rfl tyX3 tyX3_ok nmX3 rfl rfl (by decide +kernel) rfl rfl (Nat.le_of_ble_eq_true rfl) dX3_init_32 ?_
  refine n_eq (ws' := pre ++ [(a, .inr (3, [.ref b1, .ref b2, .ref b3, .ref q1, .ref q2, .null, .int 0, .int 0, .int 0, .int 0, .int 0])), (q1, .inl (n.2.2.1 0, 24, .inl (fun _ => 0))), (q2, .inl (n.2.2.1 0, 24, .inl (fun _ => 0)))]) (lst_set pre _ 0 _) ?_
  refine n_aloadn_0 dX3_init_35 ?_
  refine n_bipush 64 dX3_init_36 rfl ?_
  refine n_newa (ty := .int) (cA := n.2.2.1 0) (t0 := 0) 64 (64, .inl (fun _ => 0)) rfl tyd_0 (fun _ _ _ => ra_int) (fun _ => vc_int _ _) (by decide) rfl (by decide +kernel) ac_int (Nat.le_of_ble_eq_true rfl) (Nat.le_of_ble_eq_true rfl) dX3_init_38 (fun q3 => ?_)
  refine n_eq (ws' := pre ++ [(a, .inr (3, [.ref b1, .ref b2, .ref b3, .ref q1, .ref q2, .null, .int 0, .int 0, .int 0, .int 0, .int 0])), (q1, .inl (n.2.2.1 0, 24, .inl (fun _ => 0))), (q2, .inl (n.2.2.1 0, 24, .inl (fun _ => 0))), (q3, .inl (n.2.2.1 0, 64, .inl (fun _ => 0)))]) (List.append_assoc _ _ _) ?_
  refine n_putF (ty := (.array .int)) (x := .ref q3) (lst_get pre _ 0 rfl) fo_3_5 rfl tyX3 tyX3_ok nmX3 rfl rfl (by decide +kernel) rfl rfl (Nat.le_of_ble_eq_true rfl) dX3_init_40 ?_
  refine n_eq (ws' := pre ++ [(a, .inr (3, [.ref b1, .ref b2, .ref b3, .ref q1, .ref q2, .ref q3, .int 0, .int 0, .int 0, .int 0, .int 0])), (q1, .inl (n.2.2.1 0, 24, .inl (fun _ => 0))), (q2, .inl (n.2.2.1 0, 24, .inl (fun _ => 0))), (q3, .inl (n.2.2.1 0, 64, .inl (fun _ => 0)))]) (lst_set pre _ 0 _) ?_
  exact n_vret ⟨q1, q2, q3, rfl⟩ (Nat.le_of_ble_eq_true rfl) (Nat.le_of_ble_eq_true rfl) dX3_init_43
theorem ol_X10_1 : Cond.methodLink RX10 1 objectInit ∈ gw := (gw_tb 31 (by decide +kernel) (by decide +kernel))
theorem cl_X10_7 : Cond.classLink RX10 7 RX9 ∈ gw := (gw_tb 34 (by decide +kernel) (by decide +kernel))
theorem in_st_9 : Cond.instantiable RX9 2 ∈ gw ∧ Cond.initialized RX9 ∈ gw := ⟨(gw_tb 35 (by decide +kernel) (by decide +kernel)), (gw_tb 2 (by decide +kernel) (by decide +kernel))⟩
theorem ol_X10_9 : Cond.methodLink RX10 9 yX9_init ∈ gw := (gw_tb 36 (by decide +kernel) (by decide +kernel))
theorem cl_X10_16 : Cond.classLink RX10 16 RX0 ∈ gw := (gw_tb 48 (by decide +kernel) (by decide +kernel))
theorem in_st_0 : Cond.instantiable RX0 1 ∈ gw ∧ Cond.initialized RX0 ∈ gw := ⟨(gw_tb 49 (by decide +kernel) (by decide +kernel)), (gw_tb 3 (by decide +kernel) (by decide +kernel))⟩
theorem ol_X10_18 : Cond.methodLink RX10 18 yX0_init ∈ gw := (gw_tb 50 (by decide +kernel) (by decide +kernel))
theorem cl_X10_26 : Cond.classLink RX10 26 RX1 ∈ gw := (gw_tb 58 (by decide +kernel) (by decide +kernel))
theorem in_st_1 : Cond.instantiable RX1 3 ∈ gw ∧ Cond.initialized RX1 ∈ gw := ⟨(gw_tb 59 (by decide +kernel) (by decide +kernel)), (gw_tb 4 (by decide +kernel) (by decide +kernel))⟩
theorem ol_X10_28 : Cond.methodLink RX10 28 yX1_init ∈ gw := (gw_tb 60 (by decide +kernel) (by decide +kernel))
theorem cl_X10_35 : Cond.classLink RX10 35 RX6 ∈ gw := (gw_tb 90 (by decide +kernel) (by decide +kernel))
theorem in_st_6 : Cond.instantiable RX6 3 ∈ gw ∧ Cond.initialized RX6 ∈ gw := ⟨(gw_tb 91 (by decide +kernel) (by decide +kernel)), (gw_tb 6 (by decide +kernel) (by decide +kernel))⟩
theorem ol_X10_37 : Cond.methodLink RX10 37 yX6_init ∈ gw := (gw_tb 92 (by decide +kernel) (by decide +kernel))
theorem cl_X10_42 : Cond.classLink RX10 42 RX5 ∈ gw := (gw_tb 108 (by decide +kernel) (by decide +kernel))
theorem in_st_5 : Cond.instantiable RX5 4 ∈ gw ∧ Cond.initialized RX5 ∈ gw := ⟨(gw_tb 109 (by decide +kernel) (by decide +kernel)), (gw_tb 7 (by decide +kernel) (by decide +kernel))⟩
theorem ol_X10_44 : Cond.methodLink RX10 44 yX5_init ∈ gw := (gw_tb 110 (by decide +kernel) (by decide +kernel))
theorem cl_X10_49 : Cond.classLink RX10 49 RX7 ∈ gw := (gw_tb 129 (by decide +kernel) (by decide +kernel))
theorem in_st_7 : Cond.instantiable RX7 7 ∈ gw ∧ Cond.initialized RX7 ∈ gw := ⟨(gw_tb 130 (by decide +kernel) (by decide +kernel)), (gw_tb 8 (by decide +kernel) (by decide +kernel))⟩
theorem ol_X10_51 : Cond.methodLink RX10 51 yX7_init ∈ gw := (gw_tb 131 (by decide +kernel) (by decide +kernel))
theorem cl_X10_56 : Cond.classLink RX10 56 RX8 ∈ gw := (gw_tb 157 (by decide +kernel) (by decide +kernel))
theorem in_st_8 : Cond.instantiable RX8 2 ∈ gw ∧ Cond.initialized RX8 ∈ gw := ⟨(gw_tb 158 (by decide +kernel) (by decide +kernel)), (gw_tb 9 (by decide +kernel) (by decide +kernel))⟩
theorem ol_X10_58 : Cond.methodLink RX10 58 yX8_init ∈ gw := (gw_tb 159 (by decide +kernel) (by decide +kernel))
theorem cl_X10_65 : Cond.classLink RX10 65 RX3 ∈ gw := (gw_tb 170 (by decide +kernel) (by decide +kernel))
theorem in_st_3 : Cond.instantiable RX3 11 ∈ gw ∧ Cond.initialized RX3 ∈ gw := ⟨(gw_tb 171 (by decide +kernel) (by decide +kernel)), (gw_tb 10 (by decide +kernel) (by decide +kernel))⟩
theorem ol_X10_67 : Cond.methodLink RX10 67 yX3_init ∈ gw := (gw_tb 172 (by decide +kernel) (by decide +kernel))
theorem ii_X10_init : Cond.instanceMethod yX10_init ∈ gw ∧ Cond.initialized yX10_init.cls ∈ gw ∧ Cond.code yX10_init cX10_init 1 none ∈ gw := ⟨(gw_tb 29 (by decide +kernel) (by decide +kernel)), (gw_tb 1 (by decide +kernel) (by decide +kernel)), (gw_tb 30 (by decide +kernel) (by decide +kernel))⟩
set_option maxRecDepth 8000 in
set_option maxHeartbeats 4000000 in
theorem i_X10_init {n : Nf} (pre : va_W) (a : Nat) : NCl n 3 yX10_init cX10_init 1 none [.ref a] (pre ++ [(a, .inr (10, [.null, .null, .null, .null, .null, .null, .null, .null, .null, .int 0, .long 0]))]) 26 5556 (fun ws => ∃ q1 q2 q3 q4 q5 q6 q7 q8 q9 q10 q11 q12 q13 q14 q15 q16 q17 q18 q19 q20 q21 q22 q23 q24 q25 q26 : Nat, ws = pre ++ [(a, .inr (10, [.ref q1, .ref q3, .ref q5, .ref q7, .ref q10, .ref q13, .ref q16, .ref q21, .ref q23, .int 0, .long 0])), (q1, .inr (9, [.ref q2, .int 0])), (q2, .inl (n.2.2.1 0, 240, .inl (fun _ => 0))), (q3, .inr (0, [.ref q4])), (q4, .inl (n.2.2.1 0, 100, .inl (upd (fun _ => 0) 98 (-1)))), (q5, .inr (0, [.ref q6])), (q6, .inl (n.2.2.1 0, 100, .inl (upd (fun _ => 0) 98 (-1)))), (q7, .inr (1, [.ref q8, .ref q9, .int 0])), (q8, .inr (2, [.ref q1, .int 0, .int 0])), (q9, .inl (n.2.2.1 0, 6, .inl (fun _ => 0))), (q10, .inr (6, [.ref q11, .ref q12, .int 0])), (q11, .inr (2, [.ref q1, .int 0, .int 0])), (q12, .inl (n.2.2.1 0, 240, .inl (fun _ => 0))), (q13, .inr (5, [.ref q14, .ref q15, .int 0, .int (-1)])), (q14, .inl (n.2.2.1 3, 4, .inr (.inr (.inr (.inr (fun _ => none)))))), (q15, .inl (n.2.2.1 0, 6, .inl (fun _ => 0))), (q16, .inr (7, [.ref q17, .ref q18, .ref q19, .ref q20, .int 0, .int 0, .int 0])), (q17, .inl (n.2.2.1 0, 4000, .inl (fun _ => 0))), (q18, .inl (n.2.2.1 0, 300, .inl (fun _ => 0))), (q19, .inl (n.2.2.1 0, 100, .inl (fun _ => 0))), (q20, .inl (n.2.2.1 0, 300, .inl (fun _ => 0))), (q21, .inr (8, [.ref q3, .ref q22])), (q22, .inl (n.2.2.1 0, 8, .inl (fun _ => 0))), (q23, .inr (3, [.ref q3, .ref q5, .ref q13, .ref q24, .ref q25, .ref q26, .int 0, .int 0, .int 0, .int 0, .int 0])), (q24, .inl (n.2.2.1 0, 24, .inl (fun _ => 0))), (q25, .inl (n.2.2.1 0, 24, .inl (fun _ => 0))), (q26, .inl (n.2.2.1 0, 64, .inl (fun _ => 0)))]) none := by
  refine ncl_of (by decide) (Nat.le_of_ble_eq_true rfl) (vs := [some (.ref a)]) rfl rfl ?_
  show NX n (rmn 3 26 5556) RX10 cX10_init 1 none (("<init>" : String) = "<init>") _ 0 _ [] _ 0 0
  refine n_aloadn_0 dX10_init_0 ?_
  refine n_objInit ol_X10_1 (Nat.le_of_ble_eq_true rfl) (Nat.le_of_ble_eq_true rfl) rfl dX10_init_1 ?_
  refine n_aloadn_0 dX10_init_4 ?_
  refine n_new tyX9 tyX9_ok in_9 cl_X10_7 in_st_9.1 in_st_9.2 (ci := 9) rfl [.null, .int 0] (by decide) (Nat.le_of_ble_eq_true rfl) (Nat.le_of_ble_eq_true rfl) dX10_init_5 (fun q1 => ?_)
  refine n_eq (ws' := pre ++ [(a, .inr (10, [.null, .null, .null, .null, .null, .null, .null, .null, .null, .int 0, .long 0])), (q1, .inr (9, [.null, .int 0]))]) (List.append_assoc _ _ _) ?_
  refine n_dup dX10_init_8 rfl ?_
  refine n_eq (ws' := (pre ++ [(a, .inr (10, [.null, .null, .null, .null, .null, .null, .null, .null, .null, .int 0, .long 0]))]) ++ [(q1, .inr (9, [.null, .int 0]))]) (by rw [List.append_assoc]; rfl) ?_
  refine n_init (na := 0) (As := []) rfl (i_X9_init (pre ++ [(a, .inr (10, [.null, .null, .null, .null, .null, .null, .null, .null, .null, .int 0, .long 0]))]) q1) ii_X9_init.1 ii_X9_init.2.1 ii_X9_init.2.2 ol_X10_9 rfl (by decide +kernel) rfl ⟨Nat.le_of_ble_eq_true rfl, Nat.le_of_ble_eq_true rfl⟩ ⟨Nat.le_of_ble_eq_true rfl, Nat.le_of_ble_eq_true rfl⟩ rfl dX10_init_9 ?_
  rintro _ ⟨q2, rfl⟩
  refine n_eq (ws' := pre ++ [(a, .inr (10, [.null, .null, .null, .null, .null, .null, .null, .null, .null, .int 0, .long 0])), (q1, .inr (9, [.ref q2, .int 0])), (q2, .inl (n.2.2.1 0, 240, .inl (fun _ => 0)))]) (List.append_assoc _ _ _) ?_
  refine n_putF (ty := (.object "CountRule$Tape")) (x := .ref q1) (lst_get pre _ 0 rfl) fo_10_0 rfl tyX10 tyX10_ok nmX10 rfl rfl (by decide +kernel) rfl rfl (Nat.le_of_ble_eq_true rfl) dX10_init_12 ?_
  refine n_eq (ws' := pre ++ [(a, .inr (10, [.ref q1, .null, .null, .null, .null, .null, .null, .null, .null, .int 0, .long 0])), (q1, .inr (9, [.ref q2, .int 0])), (q2, .inl (n.2.2.1 0, 240, .inl (fun _ => 0)))]) (lst_set pre _ 0 _) ?_
  refine n_aloadn_0 dX10_init_15 ?_
  refine n_new tyX0 tyX0_ok in_0 cl_X10_16 in_st_0.1 in_st_0.2 (ci := 0) rfl [.null] (by decide) (Nat.le_of_ble_eq_true rfl) (Nat.le_of_ble_eq_true rfl) dX10_init_16 (fun q3 => ?_)
  refine n_eq (ws' := pre ++ [(a, .inr (10, [.ref q1, .null, .null, .null, .null, .null, .null, .null, .null, .int 0, .long 0])), (q1, .inr (9, [.ref q2, .int 0])), (q2, .inl (n.2.2.1 0, 240, .inl (fun _ => 0))), (q3, .inr (0, [.null]))]) (List.append_assoc _ _ _) ?_
  refine n_dup dX10_init_19 rfl ?_
  refine n_eq (ws' := (pre ++ [(a, .inr (10, [.ref q1, .null, .null, .null, .null, .null, .null, .null, .null, .int 0, .long 0])), (q1, .inr (9, [.ref q2, .int 0])), (q2, .inl (n.2.2.1 0, 240, .inl (fun _ => 0)))]) ++ [(q3, .inr (0, [.null]))]) (by rw [List.append_assoc]; rfl) ?_
  refine n_init (na := 0) (As := []) rfl (i_X0_init (pre ++ [(a, .inr (10, [.ref q1, .null, .null, .null, .null, .null, .null, .null, .null, .int 0, .long 0])), (q1, .inr (9, [.ref q2, .int 0])), (q2, .inl (n.2.2.1 0, 240, .inl (fun _ => 0)))]) q3) ii_X0_init.1 ii_X0_init.2.1 ii_X0_init.2.2 ol_X10_18 rfl (by decide +kernel) rfl ⟨Nat.le_of_ble_eq_true rfl, Nat.le_of_ble_eq_true rfl⟩ ⟨Nat.le_of_ble_eq_true rfl, Nat.le_of_ble_eq_true rfl⟩ rfl dX10_init_20 ?_
  rintro _ ⟨q4, rfl⟩
  refine n_eq (ws' := pre ++ [(a, .inr (10, [.ref q1, .null, .null, .null, .null, .null, .null, .null, .null, .int 0, .long 0])), (q1, .inr (9, [.ref q2, .int 0])), (q2, .inl (n.2.2.1 0, 240, .inl (fun _ => 0))), (q3, .inr (0, [.ref q4])), (q4, .inl (n.2.2.1 0, 100, .inl (upd (fun _ => 0) 98 (-1))))]) (List.append_assoc _ _ _) ?_
  refine n_putF (ty := (.object "CountRule$County")) (x := .ref q3) (lst_get pre _ 0 rfl) fo_10_1 rfl tyX10 tyX10_ok nmX10 rfl rfl (by decide +kernel) rfl rfl (Nat.le_of_ble_eq_true rfl) dX10_init_23 ?_
  refine n_eq (ws' := pre ++ [(a, .inr (10, [.ref q1, .ref q3, .null, .null, .null, .null, .null, .null, .null, .int 0, .long 0])), (q1, .inr (9, [.ref q2, .int 0])), (q2, .inl (n.2.2.1 0, 240, .inl (fun _ => 0))), (q3, .inr (0, [.ref q4])), (q4, .inl (n.2.2.1 0, 100, .inl (upd (fun _ => 0) 98 (-1))))]) (lst_set pre _ 0 _) ?_
  refine n_aloadn_0 dX10_init_26 ?_
  refine n_new tyX0 tyX0_ok in_0 cl_X10_16 in_st_0.1 in_st_0.2 (ci := 0) rfl [.null] (by decide) (Nat.le_of_ble_eq_true rfl) (Nat.le_of_ble_eq_true rfl) dX10_init_27 (fun q5 => ?_)
  refine n_eq (ws' := pre ++ [(a, .inr (10, [.ref q1, .ref q3, .null, .null, .null, .null, .null, .null, .null, .int 0, .long 0])), (q1, .inr (9, [.ref q2, .int 0])), (q2, .inl (n.2.2.1 0, 240, .inl (fun _ => 0))), (q3, .inr (0, [.ref q4])), (q4, .inl (n.2.2.1 0, 100, .inl (upd (fun _ => 0) 98 (-1)))), (q5, .inr (0, [.null]))]) (List.append_assoc _ _ _) ?_
  refine n_dup dX10_init_30 rfl ?_
  refine n_eq (ws' := (pre ++ [(a, .inr (10, [.ref q1, .ref q3, .null, .null, .null, .null, .null, .null, .null, .int 0, .long 0])), (q1, .inr (9, [.ref q2, .int 0])), (q2, .inl (n.2.2.1 0, 240, .inl (fun _ => 0))), (q3, .inr (0, [.ref q4])), (q4, .inl (n.2.2.1 0, 100, .inl (upd (fun _ => 0) 98 (-1))))]) ++ [(q5, .inr (0, [.null]))]) (by rw [List.append_assoc]; rfl) ?_
  refine n_init (na := 0) (As := []) rfl (i_X0_init (pre ++ [(a, .inr (10, [.ref q1, .ref q3, .null, .null, .null, .null, .null, .null, .null, .int 0, .long 0])), (q1, .inr (9, [.ref q2, .int 0])), (q2, .inl (n.2.2.1 0, 240, .inl (fun _ => 0))), (q3, .inr (0, [.ref q4])), (q4, .inl (n.2.2.1 0, 100, .inl (upd (fun _ => 0) 98 (-1))))]) q5) ii_X0_init.1 ii_X0_init.2.1 ii_X0_init.2.2 ol_X10_18 rfl (by decide +kernel) rfl ⟨Nat.le_of_ble_eq_true rfl, Nat.le_of_ble_eq_true rfl⟩ ⟨Nat.le_of_ble_eq_true rfl, Nat.le_of_ble_eq_true rfl⟩ rfl dX10_init_31 ?_
  rintro _ ⟨q6, rfl⟩
  refine n_eq (ws' := pre ++ [(a, .inr (10, [.ref q1, .ref q3, .null, .null, .null, .null, .null, .null, .null, .int 0, .long 0])), (q1, .inr (9, [.ref q2, .int 0])), (q2, .inl (n.2.2.1 0, 240, .inl (fun _ => 0))), (q3, .inr (0, [.ref q4])), (q4, .inl (n.2.2.1 0, 100, .inl (upd (fun _ => 0) 98 (-1)))), (q5, .inr (0, [.ref q6])), (q6, .inl (n.2.2.1 0, 100, .inl (upd (fun _ => 0) 98 (-1))))]) (List.append_assoc _ _ _) ?_
  refine n_putF (ty := (.object "CountRule$County")) (x := .ref q5) (lst_get pre _ 0 rfl) fo_10_2 rfl tyX10 tyX10_ok nmX10 rfl rfl (by decide +kernel) rfl rfl (Nat.le_of_ble_eq_true rfl) dX10_init_34 ?_
  refine n_eq (ws' := pre ++ [(a, .inr (10, [.ref q1, .ref q3, .ref q5, .null, .null, .null, .null, .null, .null, .int 0, .long 0])), (q1, .inr (9, [.ref q2, .int 0])), (q2, .inl (n.2.2.1 0, 240, .inl (fun _ => 0))), (q3, .inr (0, [.ref q4])), (q4, .inl (n.2.2.1 0, 100, .inl (upd (fun _ => 0) 98 (-1)))), (q5, .inr (0, [.ref q6])), (q6, .inl (n.2.2.1 0, 100, .inl (upd (fun _ => 0) 98 (-1))))]) (lst_set pre _ 0 _) ?_
  refine n_aloadn_0 dX10_init_37 ?_
  refine n_new tyX1 tyX1_ok in_1 cl_X10_26 in_st_1.1 in_st_1.2 (ci := 1) rfl [.null, .null, .int 0] (by decide) (Nat.le_of_ble_eq_true rfl) (Nat.le_of_ble_eq_true rfl) dX10_init_38 (fun q7 => ?_)
  refine n_eq (ws' := pre ++ [(a, .inr (10, [.ref q1, .ref q3, .ref q5, .null, .null, .null, .null, .null, .null, .int 0, .long 0])), (q1, .inr (9, [.ref q2, .int 0])), (q2, .inl (n.2.2.1 0, 240, .inl (fun _ => 0))), (q3, .inr (0, [.ref q4])), (q4, .inl (n.2.2.1 0, 100, .inl (upd (fun _ => 0) 98 (-1)))), (q5, .inr (0, [.ref q6])), (q6, .inl (n.2.2.1 0, 100, .inl (upd (fun _ => 0) 98 (-1)))), (q7, .inr (1, [.null, .null, .int 0]))]) (List.append_assoc _ _ _) ?_
  refine n_dup dX10_init_41 rfl ?_
  refine n_aloadn_0 dX10_init_42 ?_
  refine n_get (lst_get pre _ 0 rfl) fo_10_0 rfl dX10_init_43 ?_
  refine n_eq (ws' := (pre ++ [(a, .inr (10, [.ref q1, .ref q3, .ref q5, .null, .null, .null, .null, .null, .null, .int 0, .long 0])), (q1, .inr (9, [.ref q2, .int 0])), (q2, .inl (n.2.2.1 0, 240, .inl (fun _ => 0))), (q3, .inr (0, [.ref q4])), (q4, .inl (n.2.2.1 0, 100, .inl (upd (fun _ => 0) 98 (-1)))), (q5, .inr (0, [.ref q6])), (q6, .inl (n.2.2.1 0, 100, .inl (upd (fun _ => 0) 98 (-1))))]) ++ [(q7, .inr (1, [.null, .null, .int 0]))]) (by rw [List.append_assoc]; rfl) ?_
  refine n_init (na := 1) (As := [.ref q1]) rfl (i_X1_init (pre ++ [(a, .inr (10, [.ref q1, .ref q3, .ref q5, .null, .null, .null, .null, .null, .null, .int 0, .long 0])), (q1, .inr (9, [.ref q2, .int 0])), (q2, .inl (n.2.2.1 0, 240, .inl (fun _ => 0))), (q3, .inr (0, [.ref q4])), (q4, .inl (n.2.2.1 0, 100, .inl (upd (fun _ => 0) 98 (-1)))), (q5, .inr (0, [.ref q6])), (q6, .inl (n.2.2.1 0, 100, .inl (upd (fun _ => 0) 98 (-1))))]) q7 q1) ii_X1_init.1 ii_X1_init.2.1 ii_X1_init.2.2 ol_X10_28 rfl (by decide +kernel) rfl ⟨Nat.le_of_ble_eq_true rfl, Nat.le_of_ble_eq_true rfl⟩ ⟨Nat.le_of_ble_eq_true rfl, Nat.le_of_ble_eq_true rfl⟩ rfl dX10_init_46 ?_
  rintro _ ⟨q8, q9, rfl⟩
  refine n_eq (ws' := pre ++ [(a, .inr (10, [.ref q1, .ref q3, .ref q5, .null, .null, .null, .null, .null, .null, .int 0, .long 0])), (q1, .inr (9, [.ref q2, .int 0])), (q2, .inl (n.2.2.1 0, 240, .inl (fun _ => 0))), (q3, .inr (0, [.ref q4])), (q4, .inl (n.2.2.1 0, 100, .inl (upd (fun _ => 0) 98 (-1)))), (q5, .inr (0, [.ref q6])), (q6, .inl (n.2.2.1 0, 100, .inl (upd (fun _ => 0) 98 (-1)))), (q7, .inr (1, [.ref q8, .ref q9, .int 0])), (q8, .inr (2, [.ref q1, .int 0, .int 0])), (q9, .inl (n.2.2.1 0, 6, .inl (fun _ => 0)))]) (List.append_assoc _ _ _) ?_
  refine n_putF (ty := (.object "CountRule$CountyReader")) (x := .ref q7) (lst_get pre _ 0 rfl) fo_10_3 rfl tyX10 tyX10_ok nmX10 rfl rfl (by decide +kernel) rfl rfl (Nat.le_of_ble_eq_true rfl) dX10_init_49 ?_
  refine n_eq (ws' := pre ++ [(a, .inr (10, [.ref q1, .ref q3, .ref q5, .ref q7, .null, .null, .null, .null, .null, .int 0, .long 0])), (q1, .inr (9, [.ref q2, .int 0])), (q2, .inl (n.2.2.1 0, 240, .inl (fun _ => 0))), (q3, .inr (0, [.ref q4])), (q4, .inl (n.2.2.1 0, 100, .inl (upd (fun _ => 0) 98 (-1)))), (q5, .inr (0, [.ref q6])), (q6, .inl (n.2.2.1 0, 100, .inl (upd (fun _ => 0) 98 (-1)))), (q7, .inr (1, [.ref q8, .ref q9, .int 0])), (q8, .inr (2, [.ref q1, .int 0, .int 0])), (q9, .inl (n.2.2.1 0, 6, .inl (fun _ => 0)))]) (lst_set pre _ 0 _) ?_
  refine n_aloadn_0 dX10_init_52 ?_
  refine n_new tyX6 tyX6_ok in_6 cl_X10_35 in_st_6.1 in_st_6.2 (ci := 6) rfl [.null, .null, .int 0] (by decide) (Nat.le_of_ble_eq_true rfl) (Nat.le_of_ble_eq_true rfl) dX10_init_53 (fun q10 => ?_)
  refine n_eq (ws' := pre ++ [(a, .inr (10, [.ref q1, .ref q3, .ref q5, .ref q7, .null, .null, .null, .null, .null, .int 0, .long 0])), (q1, .inr (9, [.ref q2, .int 0])), (q2, .inl (n.2.2.1 0, 240, .inl (fun _ => 0))), (q3, .inr (0, [.ref q4])), (q4, .inl (n.2.2.1 0, 100, .inl (upd (fun _ => 0) 98 (-1)))), (q5, .inr (0, [.ref q6])), (q6, .inl (n.2.2.1 0, 100, .inl (upd (fun _ => 0) 98 (-1)))), (q7, .inr (1, [.ref q8, .ref q9, .int 0])), (q8, .inr (2, [.ref q1, .int 0, .int 0])), (q9, .inl (n.2.2.1 0, 6, .inl (fun _ => 0))), (q10, .inr (6, [.null, .null, .int 0]))]) (List.append_assoc _ _ _) ?_
  refine n_dup dX10_init_56 rfl ?_
  refine n_aloadn_0 dX10_init_57 ?_
  refine n_get (lst_get pre _ 0 rfl) fo_10_0 rfl dX10_init_58 ?_
  refine n_eq (ws' := (pre ++ [(a, .inr (10, [.ref q1, .ref q3, .ref q5, .ref q7, .null, .null, .null, .null, .null, .int 0, .long 0])), (q1, .inr (9, [.ref q2, .int 0])), (q2, .inl (n.2.2.1 0, 240, .inl (fun _ => 0))), (q3, .inr (0, [.ref q4])), (q4, .inl (n.2.2.1 0, 100, .inl (upd (fun _ => 0) 98 (-1)))), (q5, .inr (0, [.ref q6])), (q6, .inl (n.2.2.1 0, 100, .inl (upd (fun _ => 0) 98 (-1)))), (q7, .inr (1, [.ref q8, .ref q9, .int 0])), (q8, .inr (2, [.ref q1, .int 0, .int 0])), (q9, .inl (n.2.2.1 0, 6, .inl (fun _ => 0)))]) ++ [(q10, .inr (6, [.null, .null, .int 0]))]) (by rw [List.append_assoc]; rfl) ?_
  refine n_init (na := 1) (As := [.ref q1]) rfl (i_X6_init (pre ++ [(a, .inr (10, [.ref q1, .ref q3, .ref q5, .ref q7, .null, .null, .null, .null, .null, .int 0, .long 0])), (q1, .inr (9, [.ref q2, .int 0])), (q2, .inl (n.2.2.1 0, 240, .inl (fun _ => 0))), (q3, .inr (0, [.ref q4])), (q4, .inl (n.2.2.1 0, 100, .inl (upd (fun _ => 0) 98 (-1)))), (q5, .inr (0, [.ref q6])), (q6, .inl (n.2.2.1 0, 100, .inl (upd (fun _ => 0) 98 (-1)))), (q7, .inr (1, [.ref q8, .ref q9, .int 0])), (q8, .inr (2, [.ref q1, .int 0, .int 0])), (q9, .inl (n.2.2.1 0, 6, .inl (fun _ => 0)))]) q10 q1) ii_X6_init.1 ii_X6_init.2.1 ii_X6_init.2.2 ol_X10_37 rfl (by decide +kernel) rfl ⟨Nat.le_of_ble_eq_true rfl, Nat.le_of_ble_eq_true rfl⟩ ⟨Nat.le_of_ble_eq_true rfl, Nat.le_of_ble_eq_true rfl⟩ rfl dX10_init_61 ?_
  rintro _ ⟨q11, q12, rfl⟩
  refine n_eq (ws' := pre ++ [(a, .inr (10, [.ref q1, .ref q3, .ref q5, .ref q7, .null, .null, .null, .null, .null, .int 0, .long 0])), (q1, .inr (9, [.ref q2, .int 0])), (q2, .inl (n.2.2.1 0, 240, .inl (fun _ => 0))), (q3, .inr (0, [.ref q4])), (q4, .inl (n.2.2.1 0, 100, .inl (upd (fun _ => 0) 98 (-1)))), (q5, .inr (0, [.ref q6])), (q6, .inl (n.2.2.1 0, 100, .inl (upd (fun _ => 0) 98 (-1)))), (q7, .inr (1, [.ref q8, .ref q9, .int 0])), (q8, .inr (2, [.ref q1, .int 0, .int 0])), (q9, .inl (n.2.2.1 0, 6, .inl (fun _ => 0))), (q10, .inr (6, [.ref q11, .ref q12, .int 0])), (q11, .inr (2, [.ref q1, .int 0, .int 0])), (q12, .inl (n.2.2.1 0, 240, .inl (fun _ => 0)))]) (List.append_assoc _ _ _) ?_
  refine n_putF (ty := (.object "CountRule$LawReader")) (x := .ref q10) (lst_get pre _ 0 rfl) fo_10_4 rfl tyX10 tyX10_ok nmX10 rfl rfl (by decide +kernel) rfl rfl (Nat.le_of_ble_eq_true rfl) dX10_init_64 ?_
  refine n_eq (ws' := pre ++ [(a, .inr (10, [.ref q1, .ref q3, .ref q5, .ref q7, .ref q10, .null, .null, .null, .null, .int 0, .long 0])), (q1, .inr (9, [.ref q2, .int 0])), (q2, .inl (n.2.2.1 0, 240, .inl (fun _ => 0))), (q3, .inr (0, [.ref q4])), (q4, .inl (n.2.2.1 0, 100, .inl (upd (fun _ => 0) 98 (-1)))), (q5, .inr (0, [.ref q6])), (q6, .inl (n.2.2.1 0, 100, .inl (upd (fun _ => 0) 98 (-1)))), (q7, .inr (1, [.ref q8, .ref q9, .int 0])), (q8, .inr (2, [.ref q1, .int 0, .int 0])), (q9, .inl (n.2.2.1 0, 6, .inl (fun _ => 0))), (q10, .inr (6, [.ref q11, .ref q12, .int 0])), (q11, .inr (2, [.ref q1, .int 0, .int 0])), (q12, .inl (n.2.2.1 0, 240, .inl (fun _ => 0)))]) (lst_set pre _ 0 _) ?_
  refine n_aloadn_0 dX10_init_67 ?_
  refine n_new tyX5 tyX5_ok in_5 cl_X10_42 in_st_5.1 in_st_5.2 (ci := 5) rfl [.null, .null, .int 0, .int 0] (by decide) (Nat.le_of_ble_eq_true rfl) (Nat.le_of_ble_eq_true rfl) dX10_init_68 (fun q13 => ?_)
  refine n_eq (ws' := pre ++ [(a, .inr (10, [.ref q1, .ref q3, .ref q5, .ref q7, .ref q10, .null, .null, .null, .null, .int 0, .long 0])), (q1, .inr (9, [.ref q2, .int 0])), (q2, .inl (n.2.2.1 0, 240, .inl (fun _ => 0))), (q3, .inr (0, [.ref q4])), (q4, .inl (n.2.2.1 0, 100, .inl (upd (fun _ => 0) 98 (-1)))), (q5, .inr (0, [.ref q6])), (q6, .inl (n.2.2.1 0, 100, .inl (upd (fun _ => 0) 98 (-1)))), (q7, .inr (1, [.ref q8, .ref q9, .int 0])), (q8, .inr (2, [.ref q1, .int 0, .int 0])), (q9, .inl (n.2.2.1 0, 6, .inl (fun _ => 0))), (q10, .inr (6, [.ref q11, .ref q12, .int 0])), (q11, .inr (2, [.ref q1, .int 0, .int 0])), (q12, .inl (n.2.2.1 0, 240, .inl (fun _ => 0))), (q13, .inr (5, [.null, .null, .int 0, .int 0]))]) (List.append_assoc _ _ _) ?_
  refine n_dup dX10_init_71 rfl ?_
  refine n_eq (ws' := (pre ++ [(a, .inr (10, [.ref q1, .ref q3, .ref q5, .ref q7, .ref q10, .null, .null, .null, .null, .int 0, .long 0])), (q1, .inr (9, [.ref q2, .int 0])), (q2, .inl (n.2.2.1 0, 240, .inl (fun _ => 0))), (q3, .inr (0, [.ref q4])), (q4, .inl (n.2.2.1 0, 100, .inl (upd (fun _ => 0) 98 (-1)))), (q5, .inr (0, [.ref q6])), (q6, .inl (n.2.2.1 0, 100, .inl (upd (fun _ => 0) 98 (-1)))), (q7, .inr (1, [.ref q8, .ref q9, .int 0])), (q8, .inr (2, [.ref q1, .int 0, .int 0])), (q9, .inl (n.2.2.1 0, 6, .inl (fun _ => 0))), (q10, .inr (6, [.ref q11, .ref q12, .int 0])), (q11, .inr (2, [.ref q1, .int 0, .int 0])), (q12, .inl (n.2.2.1 0, 240, .inl (fun _ => 0)))]) ++ [(q13, .inr (5, [.null, .null, .int 0, .int 0]))]) (by rw [List.append_assoc]; rfl) ?_
  refine n_init (na := 0) (As := []) rfl (i_X5_init (pre ++ [(a, .inr (10, [.ref q1, .ref q3, .ref q5, .ref q7, .ref q10, .null, .null, .null, .null, .int 0, .long 0])), (q1, .inr (9, [.ref q2, .int 0])), (q2, .inl (n.2.2.1 0, 240, .inl (fun _ => 0))), (q3, .inr (0, [.ref q4])), (q4, .inl (n.2.2.1 0, 100, .inl (upd (fun _ => 0) 98 (-1)))), (q5, .inr (0, [.ref q6])), (q6, .inl (n.2.2.1 0, 100, .inl (upd (fun _ => 0) 98 (-1)))), (q7, .inr (1, [.ref q8, .ref q9, .int 0])), (q8, .inr (2, [.ref q1, .int 0, .int 0])), (q9, .inl (n.2.2.1 0, 6, .inl (fun _ => 0))), (q10, .inr (6, [.ref q11, .ref q12, .int 0])), (q11, .inr (2, [.ref q1, .int 0, .int 0])), (q12, .inl (n.2.2.1 0, 240, .inl (fun _ => 0)))]) q13) ii_X5_init.1 ii_X5_init.2.1 ii_X5_init.2.2 ol_X10_44 rfl (by decide +kernel) rfl ⟨Nat.le_of_ble_eq_true rfl, Nat.le_of_ble_eq_true rfl⟩ ⟨Nat.le_of_ble_eq_true rfl, Nat.le_of_ble_eq_true rfl⟩ rfl dX10_init_72 ?_
  rintro _ ⟨q14, q15, rfl⟩
  refine n_eq (ws' := pre ++ [(a, .inr (10, [.ref q1, .ref q3, .ref q5, .ref q7, .ref q10, .null, .null, .null, .null, .int 0, .long 0])), (q1, .inr (9, [.ref q2, .int 0])), (q2, .inl (n.2.2.1 0, 240, .inl (fun _ => 0))), (q3, .inr (0, [.ref q4])), (q4, .inl (n.2.2.1 0, 100, .inl (upd (fun _ => 0) 98 (-1)))), (q5, .inr (0, [.ref q6])), (q6, .inl (n.2.2.1 0, 100, .inl (upd (fun _ => 0) 98 (-1)))), (q7, .inr (1, [.ref q8, .ref q9, .int 0])), (q8, .inr (2, [.ref q1, .int 0, .int 0])), (q9, .inl (n.2.2.1 0, 6, .inl (fun _ => 0))), (q10, .inr (6, [.ref q11, .ref q12, .int 0])), (q11, .inr (2, [.ref q1, .int 0, .int 0])), (q12, .inl (n.2.2.1 0, 240, .inl (fun _ => 0))), (q13, .inr (5, [.ref q14, .ref q15, .int 0, .int (-1)])), (q14, .inl (n.2.2.1 3, 4, .inr (.inr (.inr (.inr (fun _ => none)))))), (q15, .inl (n.2.2.1 0, 6, .inl (fun _ => 0)))]) (List.append_assoc _ _ _) ?_
  refine n_putF (ty := (.object "CountRule$LawBook")) (x := .ref q13) (lst_get pre _ 0 rfl) fo_10_5 rfl tyX10 tyX10_ok nmX10 rfl rfl (by decide +kernel) rfl rfl (Nat.le_of_ble_eq_true rfl) dX10_init_75 ?_
  refine n_eq (ws' := pre ++ [(a, .inr (10, [.ref q1, .ref q3, .ref q5, .ref q7, .ref q10, .ref q13, .null, .null, .null, .int 0, .long 0])), (q1, .inr (9, [.ref q2, .int 0])), (q2, .inl (n.2.2.1 0, 240, .inl (fun _ => 0))), (q3, .inr (0, [.ref q4])), (q4, .inl (n.2.2.1 0, 100, .inl (upd (fun _ => 0) 98 (-1)))), (q5, .inr (0, [.ref q6])), (q6, .inl (n.2.2.1 0, 100, .inl (upd (fun _ => 0) 98 (-1)))), (q7, .inr (1, [.ref q8, .ref q9, .int 0])), (q8, .inr (2, [.ref q1, .int 0, .int 0])), (q9, .inl (n.2.2.1 0, 6, .inl (fun _ => 0))), (q10, .inr (6, [.ref q11, .ref q12, .int 0])), (q11, .inr (2, [.ref q1, .int 0, .int 0])), (q12, .inl (n.2.2.1 0, 240, .inl (fun _ => 0))), (q13, .inr (5, [.ref q14, .ref q15, .int 0, .int (-1)])), (q14, .inl (n.2.2.1 3, 4, .inr (.inr (.inr (.inr (fun _ => none)))))), (q15, .inl (n.2.2.1 0, 6, .inl (fun _ => 0)))]) (lst_set pre _ 0 _) ?_
  refine n_aloadn_0 dX10_init_78 ?_
  refine n_new tyX7 tyX7_ok in_7 cl_X10_49 in_st_7.1 in_st_7.2 (ci := 7) rfl [.null, .null, .null, .null, .int 0, .int 0, .int 0] (by decide) (Nat.le_of_ble_eq_true rfl) (Nat.le_of_ble_eq_true rfl) dX10_init_79 (fun q16 => ?_)
  refine n_eq (ws' := pre ++ [(a, .inr (10, [.ref q1, .ref q3, .ref q5, .ref q7, .ref q10, .ref q13, .null, .null, .null, .int 0, .long 0])), (q1, .inr (9, [.ref q2, .int 0])), (q2, .inl (n.2.2.1 0, 240, .inl (fun _ => 0))), (q3, .inr (0, [.ref q4])), (q4, .inl (n.2.2.1 0, 100, .inl (upd (fun _ => 0) 98 (-1)))), (q5, .inr (0, [.ref q6])), (q6, .inl (n.2.2.1 0, 100, .inl (upd (fun _ => 0) 98 (-1)))), (q7, .inr (1, [.ref q8, .ref q9, .int 0])), (q8, .inr (2, [.ref q1, .int 0, .int 0])), (q9, .inl (n.2.2.1 0, 6, .inl (fun _ => 0))), (q10, .inr (6, [.ref q11, .ref q12, .int 0])), (q11, .inr (2, [.ref q1, .int 0, .int 0])), (q12, .inl (n.2.2.1 0, 240, .inl (fun _ => 0))), (q13, .inr (5, [.ref q14, .ref q15, .int 0, .int (-1)])), (q14, .inl (n.2.2.1 3, 4, .inr (.inr (.inr (.inr (fun _ => none)))))), (q15, .inl (n.2.2.1 0, 6, .inl (fun _ => 0))), (q16, .inr (7, [.null, .null, .null, .null, .int 0, .int 0, .int 0]))]) (List.append_assoc _ _ _) ?_
  refine n_dup dX10_init_82 rfl ?_
  refine n_eq (ws' := (pre ++ [(a, .inr (10, [.ref q1, .ref q3, .ref q5, .ref q7, .ref q10, .ref q13, .null, .null, .null, .int 0, .long 0])), (q1, .inr (9, [.ref q2, .int 0])), (q2, .inl (n.2.2.1 0, 240, .inl (fun _ => 0))), (q3, .inr (0, [.ref q4])), (q4, .inl (n.2.2.1 0, 100, .inl (upd (fun _ => 0) 98 (-1)))), (q5, .inr (0, [.ref q6])), (q6, .inl (n.2.2.1 0, 100, .inl (upd (fun _ => 0) 98 (-1)))), (q7, .inr (1, [.ref q8, .ref q9, .int 0])), (q8, .inr (2, [.ref q1, .int 0, .int 0])), (q9, .inl (n.2.2.1 0, 6, .inl (fun _ => 0))), (q10, .inr (6, [.ref q11, .ref q12, .int 0])), (q11, .inr (2, [.ref q1, .int 0, .int 0])), (q12, .inl (n.2.2.1 0, 240, .inl (fun _ => 0))), (q13, .inr (5, [.ref q14, .ref q15, .int 0, .int (-1)])), (q14, .inl (n.2.2.1 3, 4, .inr (.inr (.inr (.inr (fun _ => none)))))), (q15, .inl (n.2.2.1 0, 6, .inl (fun _ => 0)))]) ++ [(q16, .inr (7, [.null, .null, .null, .null, .int 0, .int 0, .int 0]))]) (by rw [List.append_assoc]; rfl) ?_
  refine n_init (na := 0) (As := []) rfl (i_X7_init (pre ++ [(a, .inr (10, [.ref q1, .ref q3, .ref q5, .ref q7, .ref q10, .ref q13, .null, .null, .null, .int 0, .long 0])), (q1, .inr (9, [.ref q2, .int 0])), (q2, .inl (n.2.2.1 0, 240, .inl (fun _ => 0))), (q3, .inr (0, [.ref q4])), (q4, .inl (n.2.2.1 0, 100, .inl (upd (fun _ => 0) 98 (-1)))), (q5, .inr (0, [.ref q6])), (q6, .inl (n.2.2.1 0, 100, .inl (upd (fun _ => 0) 98 (-1)))), (q7, .inr (1, [.ref q8, .ref q9, .int 0])), (q8, .inr (2, [.ref q1, .int 0, .int 0])), (q9, .inl (n.2.2.1 0, 6, .inl (fun _ => 0))), (q10, .inr (6, [.ref q11, .ref q12, .int 0])), (q11, .inr (2, [.ref q1, .int 0, .int 0])), (q12, .inl (n.2.2.1 0, 240, .inl (fun _ => 0))), (q13, .inr (5, [.ref q14, .ref q15, .int 0, .int (-1)])), (q14, .inl (n.2.2.1 3, 4, .inr (.inr (.inr (.inr (fun _ => none)))))), (q15, .inl (n.2.2.1 0, 6, .inl (fun _ => 0)))]) q16) ii_X7_init.1 ii_X7_init.2.1 ii_X7_init.2.2 ol_X10_51 rfl (by decide +kernel) rfl ⟨Nat.le_of_ble_eq_true rfl, Nat.le_of_ble_eq_true rfl⟩ ⟨Nat.le_of_ble_eq_true rfl, Nat.le_of_ble_eq_true rfl⟩ rfl dX10_init_83 ?_
  rintro _ ⟨q17, q18, q19, q20, rfl⟩
  refine n_eq (ws' := pre ++ [(a, .inr (10, [.ref q1, .ref q3, .ref q5, .ref q7, .ref q10, .ref q13, .null, .null, .null, .int 0, .long 0])), (q1, .inr (9, [.ref q2, .int 0])), (q2, .inl (n.2.2.1 0, 240, .inl (fun _ => 0))), (q3, .inr (0, [.ref q4])), (q4, .inl (n.2.2.1 0, 100, .inl (upd (fun _ => 0) 98 (-1)))), (q5, .inr (0, [.ref q6])), (q6, .inl (n.2.2.1 0, 100, .inl (upd (fun _ => 0) 98 (-1)))), (q7, .inr (1, [.ref q8, .ref q9, .int 0])), (q8, .inr (2, [.ref q1, .int 0, .int 0])), (q9, .inl (n.2.2.1 0, 6, .inl (fun _ => 0))), (q10, .inr (6, [.ref q11, .ref q12, .int 0])), (q11, .inr (2, [.ref q1, .int 0, .int 0])), (q12, .inl (n.2.2.1 0, 240, .inl (fun _ => 0))), (q13, .inr (5, [.ref q14, .ref q15, .int 0, .int (-1)])), (q14, .inl (n.2.2.1 3, 4, .inr (.inr (.inr (.inr (fun _ => none)))))), (q15, .inl (n.2.2.1 0, 6, .inl (fun _ => 0))), (q16, .inr (7, [.ref q17, .ref q18, .ref q19, .ref q20, .int 0, .int 0, .int 0])), (q17, .inl (n.2.2.1 0, 4000, .inl (fun _ => 0))), (q18, .inl (n.2.2.1 0, 300, .inl (fun _ => 0))), (q19, .inl (n.2.2.1 0, 100, .inl (fun _ => 0))), (q20, .inl (n.2.2.1 0, 300, .inl (fun _ => 0)))]) (List.append_assoc _ _ _) ?_
  refine n_putF (ty := (.object "CountRule$Past")) (x := .ref q16) (lst_get pre _ 0 rfl) fo_10_6 rfl tyX10 tyX10_ok nmX10 rfl rfl (by decide +kernel) rfl rfl (Nat.le_of_ble_eq_true rfl) dX10_init_86 ?_
  refine n_eq (ws' := pre ++ [(a, .inr (10, [.ref q1, .ref q3, .ref q5, .ref q7, .ref q10, .ref q13, .ref q16, .null, .null, .int 0, .long 0])), (q1, .inr (9, [.ref q2, .int 0])), (q2, .inl (n.2.2.1 0, 240, .inl (fun _ => 0))), (q3, .inr (0, [.ref q4])), (q4, .inl (n.2.2.1 0, 100, .inl (upd (fun _ => 0) 98 (-1)))), (q5, .inr (0, [.ref q6])), (q6, .inl (n.2.2.1 0, 100, .inl (upd (fun _ => 0) 98 (-1)))), (q7, .inr (1, [.ref q8, .ref q9, .int 0])), (q8, .inr (2, [.ref q1, .int 0, .int 0])), (q9, .inl (n.2.2.1 0, 6, .inl (fun _ => 0))), (q10, .inr (6, [.ref q11, .ref q12, .int 0])), (q11, .inr (2, [.ref q1, .int 0, .int 0])), (q12, .inl (n.2.2.1 0, 240, .inl (fun _ => 0))), (q13, .inr (5, [.ref q14, .ref q15, .int 0, .int (-1)])), (q14, .inl (n.2.2.1 3, 4, .inr (.inr (.inr (.inr (fun _ => none)))))), (q15, .inl (n.2.2.1 0, 6, .inl (fun _ => 0))), (q16, .inr (7, [.ref q17, .ref q18, .ref q19, .ref q20, .int 0, .int 0, .int 0])), (q17, .inl (n.2.2.1 0, 4000, .inl (fun _ => 0))), (q18, .inl (n.2.2.1 0, 300, .inl (fun _ => 0))), (q19, .inl (n.2.2.1 0, 100, .inl (fun _ => 0))), (q20, .inl (n.2.2.1 0, 300, .inl (fun _ => 0)))]) (lst_set pre _ 0 _) ?_
  refine n_aloadn_0 dX10_init_89 ?_
  refine n_new tyX8 tyX8_ok in_8 cl_X10_56 in_st_8.1 in_st_8.2 (ci := 8) rfl [.null, .null] (by decide) (Nat.le_of_ble_eq_true rfl) (Nat.le_of_ble_eq_true rfl) dX10_init_90 (fun q21 => ?_)
  refine n_eq (ws' := pre ++ [(a, .inr (10, [.ref q1, .ref q3, .ref q5, .ref q7, .ref q10, .ref q13, .ref q16, .null, .null, .int 0, .long 0])), (q1, .inr (9, [.ref q2, .int 0])), (q2, .inl (n.2.2.1 0, 240, .inl (fun _ => 0))), (q3, .inr (0, [.ref q4])), (q4, .inl (n.2.2.1 0, 100, .inl (upd (fun _ => 0) 98 (-1)))), (q5, .inr (0, [.ref q6])), (q6, .inl (n.2.2.1 0, 100, .inl (upd (fun _ => 0) 98 (-1)))), (q7, .inr (1, [.ref q8, .ref q9, .int 0])), (q8, .inr (2, [.ref q1, .int 0, .int 0])), (q9, .inl (n.2.2.1 0, 6, .inl (fun _ => 0))), (q10, .inr (6, [.ref q11, .ref q12, .int 0])), (q11, .inr (2, [.ref q1, .int 0, .int 0])), (q12, .inl (n.2.2.1 0, 240, .inl (fun _ => 0))), (q13, .inr (5, [.ref q14, .ref q15, .int 0, .int (-1)])), (q14, .inl (n.2.2.1 3, 4, .inr (.inr (.inr (.inr (fun _ => none)))))), (q15, .inl (n.2.2.1 0, 6, .inl (fun _ => 0))), (q16, .inr (7, [.ref q17, .ref q18, .ref q19, .ref q20, .int 0, .int 0, .int 0])), (q17, .inl (n.2.2.1 0, 4000, .inl (fun _ => 0))), (q18, .inl (n.2.2.1 0, 300, .inl (fun _ => 0))), (q19, .inl (n.2.2.1 0, 100, .inl (fun _ => 0))), (q20, .inl (n.2.2.1 0, 300, .inl (fun _ => 0))), (q21, .inr (8, [.null, .null]))]) (List.append_assoc _ _ _) ?_
  refine n_dup dX10_init_93 rfl ?_
  refine n_aloadn_0 dX10_init_94 ?_
  refine n_get (lst_get pre _ 0 rfl) fo_10_1 rfl dX10_init_95 ?_
  refine n_eq (ws' := (pre ++ [(a, .inr (10, [.ref q1, .ref q3, .ref q5, .ref q7, .ref q10, .ref q13, .ref q16, .null, .null, .int 0, .long 0])), (q1, .inr (9, [.ref q2, .int 0])), (q2, .inl (n.2.2.1 0, 240, .inl (fun _ => 0))), (q3, .inr (0, [.ref q4])), (q4, .inl (n.2.2.1 0, 100, .inl (upd (fun _ => 0) 98 (-1)))), (q5, .inr (0, [.ref q6])), (q6, .inl (n.2.2.1 0, 100, .inl (upd (fun _ => 0) 98 (-1)))), (q7, .inr (1, [.ref q8, .ref q9, .int 0])), (q8, .inr (2, [.ref q1, .int 0, .int 0])), (q9, .inl (n.2.2.1 0, 6, .inl (fun _ => 0))), (q10, .inr (6, [.ref q11, .ref q12, .int 0])), (q11, .inr (2, [.ref q1, .int 0, .int 0])), (q12, .inl (n.2.2.1 0, 240, .inl (fun _ => 0))), (q13, .inr (5, [.ref q14, .ref q15, .int 0, .int (-1)])), (q14, .inl (n.2.2.1 3, 4, .inr (.inr (.inr (.inr (fun _ => none)))))), (q15, .inl (n.2.2.1 0, 6, .inl (fun _ => 0))), (q16, .inr (7, [.ref q17, .ref q18, .ref q19, .ref q20, .int 0, .int 0, .int 0])), (q17, .inl (n.2.2.1 0, 4000, .inl (fun _ => 0))), (q18, .inl (n.2.2.1 0, 300, .inl (fun _ => 0))), (q19, .inl (n.2.2.1 0, 100, .inl (fun _ => 0))), (q20, .inl (n.2.2.1 0, 300, .inl (fun _ => 0)))]) ++ [(q21, .inr (8, [.null, .null]))]) (by rw [List.append_assoc]; rfl) ?_
  refine n_init (na := 1) (As := [.ref q3]) rfl (i_X8_init (pre ++ [(a, .inr (10, [.ref q1, .ref q3, .ref q5, .ref q7, .ref q10, .ref q13, .ref q16, .null, .null, .int 0, .long 0])), (q1, .inr (9, [.ref q2, .int 0])), (q2, .inl (n.2.2.1 0, 240, .inl (fun _ => 0))), (q3, .inr (0, [.ref q4])), (q4, .inl (n.2.2.1 0, 100, .inl (upd (fun _ => 0) 98 (-1)))), (q5, .inr (0, [.ref q6])), (q6, .inl (n.2.2.1 0, 100, .inl (upd (fun _ => 0) 98 (-1)))), (q7, .inr (1, [.ref q8, .ref q9, .int 0])), (q8, .inr (2, [.ref q1, .int 0, .int 0])), (q9, .inl (n.2.2.1 0, 6, .inl (fun _ => 0))), (q10, .inr (6, [.ref q11, .ref q12, .int 0])), (q11, .inr (2, [.ref q1, .int 0, .int 0])), (q12, .inl (n.2.2.1 0, 240, .inl (fun _ => 0))), (q13, .inr (5, [.ref q14, .ref q15, .int 0, .int (-1)])), (q14, .inl (n.2.2.1 3, 4, .inr (.inr (.inr (.inr (fun _ => none)))))), (q15, .inl (n.2.2.1 0, 6, .inl (fun _ => 0))), (q16, .inr (7, [.ref q17, .ref q18, .ref q19, .ref q20, .int 0, .int 0, .int 0])), (q17, .inl (n.2.2.1 0, 4000, .inl (fun _ => 0))), (q18, .inl (n.2.2.1 0, 300, .inl (fun _ => 0))), (q19, .inl (n.2.2.1 0, 100, .inl (fun _ => 0))), (q20, .inl (n.2.2.1 0, 300, .inl (fun _ => 0)))]) q21 q3) ii_X8_init.1 ii_X8_init.2.1 ii_X8_init.2.2 ol_X10_58 rfl (by decide +kernel) rfl ⟨Nat.le_of_ble_eq_true rfl, Nat.le_of_ble_eq_true rfl⟩ ⟨Nat.le_of_ble_eq_true rfl, Nat.le_of_ble_eq_true rfl⟩ rfl dX10_init_98 ?_
  rintro _ ⟨q22, rfl⟩
  refine n_eq (ws' := pre ++ [(a, .inr (10, [.ref q1, .ref q3, .ref q5, .ref q7, .ref q10, .ref q13, .ref q16, .null, .null, .int 0, .long 0])), (q1, .inr (9, [.ref q2, .int 0])), (q2, .inl (n.2.2.1 0, 240, .inl (fun _ => 0))), (q3, .inr (0, [.ref q4])), (q4, .inl (n.2.2.1 0, 100, .inl (upd (fun _ => 0) 98 (-1)))), (q5, .inr (0, [.ref q6])), (q6, .inl (n.2.2.1 0, 100, .inl (upd (fun _ => 0) 98 (-1)))), (q7, .inr (1, [.ref q8, .ref q9, .int 0])), (q8, .inr (2, [.ref q1, .int 0, .int 0])), (q9, .inl (n.2.2.1 0, 6, .inl (fun _ => 0))), (q10, .inr (6, [.ref q11, .ref q12, .int 0])), (q11, .inr (2, [.ref q1, .int 0, .int 0])), (q12, .inl (n.2.2.1 0, 240, .inl (fun _ => 0))), (q13, .inr (5, [.ref q14, .ref q15, .int 0, .int (-1)])), (q14, .inl (n.2.2.1 3, 4, .inr (.inr (.inr (.inr (fun _ => none)))))), (q15, .inl (n.2.2.1 0, 6, .inl (fun _ => 0))), (q16, .inr (7, [.ref q17, .ref q18, .ref q19, .ref q20, .int 0, .int 0, .int 0])), (q17, .inl (n.2.2.1 0, 4000, .inl (fun _ => 0))), (q18, .inl (n.2.2.1 0, 300, .inl (fun _ => 0))), (q19, .inl (n.2.2.1 0, 100, .inl (fun _ => 0))), (q20, .inl (n.2.2.1 0, 300, .inl (fun _ => 0))), (q21, .inr (8, [.ref q3, .ref q22])), (q22, .inl (n.2.2.1 0, 8, .inl (fun _ => 0)))]) (List.append_assoc _ _ _) ?_
  refine n_putF (ty := (.object "CountRule$Survey")) (x := .ref q21) (lst_get pre _ 0 rfl) fo_10_7 rfl tyX10 tyX10_ok nmX10 rfl rfl (by decide +kernel) rfl rfl (Nat.le_of_ble_eq_true rfl) dX10_init_101 ?_
  refine n_eq (ws' := pre ++ [(a, .inr (10, [.ref q1, .ref q3, .ref q5, .ref q7, .ref q10, .ref q13, .ref q16, .ref q21, .null, .int 0, .long 0])), (q1, .inr (9, [.ref q2, .int 0])), (q2, .inl (n.2.2.1 0, 240, .inl (fun _ => 0))), (q3, .inr (0, [.ref q4])), (q4, .inl (n.2.2.1 0, 100, .inl (upd (fun _ => 0) 98 (-1)))), (q5, .inr (0, [.ref q6])), (q6, .inl (n.2.2.1 0, 100, .inl (upd (fun _ => 0) 98 (-1)))), (q7, .inr (1, [.ref q8, .ref q9, .int 0])), (q8, .inr (2, [.ref q1, .int 0, .int 0])), (q9, .inl (n.2.2.1 0, 6, .inl (fun _ => 0))), (q10, .inr (6, [.ref q11, .ref q12, .int 0])), (q11, .inr (2, [.ref q1, .int 0, .int 0])), (q12, .inl (n.2.2.1 0, 240, .inl (fun _ => 0))), (q13, .inr (5, [.ref q14, .ref q15, .int 0, .int (-1)])), (q14, .inl (n.2.2.1 3, 4, .inr (.inr (.inr (.inr (fun _ => none)))))), (q15, .inl (n.2.2.1 0, 6, .inl (fun _ => 0))), (q16, .inr (7, [.ref q17, .ref q18, .ref q19, .ref q20, .int 0, .int 0, .int 0])), (q17, .inl (n.2.2.1 0, 4000, .inl (fun _ => 0))), (q18, .inl (n.2.2.1 0, 300, .inl (fun _ => 0))), (q19, .inl (n.2.2.1 0, 100, .inl (fun _ => 0))), (q20, .inl (n.2.2.1 0, 300, .inl (fun _ => 0))), (q21, .inr (8, [.ref q3, .ref q22])), (q22, .inl (n.2.2.1 0, 8, .inl (fun _ => 0)))]) (lst_set pre _ 0 _) ?_
  refine n_aloadn_0 dX10_init_104 ?_
  refine n_new tyX3 tyX3_ok in_3 cl_X10_65 in_st_3.1 in_st_3.2 (ci := 3) rfl [.null, .null, .null, .null, .null, .null, .int 0, .int 0, .int 0, .int 0, .int 0] (by decide) (Nat.le_of_ble_eq_true rfl) (Nat.le_of_ble_eq_true rfl) dX10_init_105 (fun q23 => ?_)
  refine n_eq (ws' := pre ++ [(a, .inr (10, [.ref q1, .ref q3, .ref q5, .ref q7, .ref q10, .ref q13, .ref q16, .ref q21, .null, .int 0, .long 0])), (q1, .inr (9, [.ref q2, .int 0])), (q2, .inl (n.2.2.1 0, 240, .inl (fun _ => 0))), (q3, .inr (0, [.ref q4])), (q4, .inl (n.2.2.1 0, 100, .inl (upd (fun _ => 0) 98 (-1)))), (q5, .inr (0, [.ref q6])), (q6, .inl (n.2.2.1 0, 100, .inl (upd (fun _ => 0) 98 (-1)))), (q7, .inr (1, [.ref q8, .ref q9, .int 0])), (q8, .inr (2, [.ref q1, .int 0, .int 0])), (q9, .inl (n.2.2.1 0, 6, .inl (fun _ => 0))), (q10, .inr (6, [.ref q11, .ref q12, .int 0])), (q11, .inr (2, [.ref q1, .int 0, .int 0])), (q12, .inl (n.2.2.1 0, 240, .inl (fun _ => 0))), (q13, .inr (5, [.ref q14, .ref q15, .int 0, .int (-1)])), (q14, .inl (n.2.2.1 3, 4, .inr (.inr (.inr (.inr (fun _ => none)))))), (q15, .inl (n.2.2.1 0, 6, .inl (fun _ => 0))), (q16, .inr (7, [.ref q17, .ref q18, .ref q19, .ref q20, .int 0, .int 0, .int 0])), (q17, .inl (n.2.2.1 0, 4000, .inl (fun _ => 0))), (q18, .inl (n.2.2.1 0, 300, .inl (fun _ => 0))), (q19, .inl (n.2.2.1 0, 100, .inl (fun _ => 0))), (q20, .inl (n.2.2.1 0, 300, .inl (fun _ => 0))), (q21, .inr (8, [.ref q3, .ref q22])), (q22, .inl (n.2.2.1 0, 8, .inl (fun _ => 0))), (q23, .inr (3, [.null, .null, .null, .null, .null, .null, .int 0, .int 0, .int 0, .int 0, .int 0]))]) (List.append_assoc _ _ _) ?_
  refine n_dup dX10_init_108 rfl ?_
  refine n_aloadn_0 dX10_init_109 ?_
  refine n_get (lst_get pre _ 0 rfl) fo_10_1 rfl dX10_init_110 ?_
  refine n_aloadn_0 dX10_init_113 ?_
  refine n_get (lst_get pre _ 0 rfl) fo_10_2 rfl dX10_init_114 ?_
  refine n_aloadn_0 dX10_init_117 ?_
  refine n_get (lst_get pre _ 0 rfl) fo_10_5 rfl dX10_init_118 ?_
  refine n_eq (ws' := (pre ++ [(a, .inr (10, [.ref q1, .ref q3, .ref q5, .ref q7, .ref q10, .ref q13, .ref q16, .ref q21, .null, .int 0, .long 0])), (q1, .inr (9, [.ref q2, .int 0])), (q2, .inl (n.2.2.1 0, 240, .inl (fun _ => 0))), (q3, .inr (0, [.ref q4])), (q4, .inl (n.2.2.1 0, 100, .inl (upd (fun _ => 0) 98 (-1)))), (q5, .inr (0, [.ref q6])), (q6, .inl (n.2.2.1 0, 100, .inl (upd (fun _ => 0) 98 (-1)))), (q7, .inr (1, [.ref q8, .ref q9, .int 0])), (q8, .inr (2, [.ref q1, .int 0, .int 0])), (q9, .inl (n.2.2.1 0, 6, .inl (fun _ => 0))), (q10, .inr (6, [.ref q11, .ref q12, .int 0])), (q11, .inr (2, [.ref q1, .int 0, .int 0])), (q12, .inl (n.2.2.1 0, 240, .inl (fun _ => 0))), (q13, .inr (5, [.ref q14, .ref q15, .int 0, .int (-1)])), (q14, .inl (n.2.2.1 3, 4, .inr (.inr (.inr (.inr (fun _ => none)))))), (q15, .inl (n.2.2.1 0, 6, .inl (fun _ => 0))), (q16, .inr (7, [.ref q17, .ref q18, .ref q19, .ref q20, .int 0, .int 0, .int 0])), (q17, .inl (n.2.2.1 0, 4000, .inl (fun _ => 0))), (q18, .inl (n.2.2.1 0, 300, .inl (fun _ => 0))), (q19, .inl (n.2.2.1 0, 100, .inl (fun _ => 0))), (q20, .inl (n.2.2.1 0, 300, .inl (fun _ => 0))), (q21, .inr (8, [.ref q3, .ref q22])), (q22, .inl (n.2.2.1 0, 8, .inl (fun _ => 0)))]) ++ [(q23, .inr (3, [.null, .null, .null, .null, .null, .null, .int 0, .int 0, .int 0, .int 0, .int 0]))]) (by rw [List.append_assoc]; rfl) ?_
  refine n_init (na := 3) (As := [.ref q3, .ref q5, .ref q13]) rfl (i_X3_init (pre ++ [(a, .inr (10, [.ref q1, .ref q3, .ref q5, .ref q7, .ref q10, .ref q13, .ref q16, .ref q21, .null, .int 0, .long 0])), (q1, .inr (9, [.ref q2, .int 0])), (q2, .inl (n.2.2.1 0, 240, .inl (fun _ => 0))), (q3, .inr (0, [.ref q4])), (q4, .inl (n.2.2.1 0, 100, .inl (upd (fun _ => 0) 98 (-1)))), (q5, .inr (0, [.ref q6])), (q6, .inl (n.2.2.1 0, 100, .inl (upd (fun _ => 0) 98 (-1)))), (q7, .inr (1, [.ref q8, .ref q9, .int 0])), (q8, .inr (2, [.ref q1, .int 0, .int 0])), (q9, .inl (n.2.2.1 0, 6, .inl (fun _ => 0))), (q10, .inr (6, [.ref q11, .ref q12, .int 0])), (q11, .inr (2, [.ref q1, .int 0, .int 0])), (q12, .inl (n.2.2.1 0, 240, .inl (fun _ => 0))), (q13, .inr (5, [.ref q14, .ref q15, .int 0, .int (-1)])), (q14, .inl (n.2.2.1 3, 4, .inr (.inr (.inr (.inr (fun _ => none)))))), (q15, .inl (n.2.2.1 0, 6, .inl (fun _ => 0))), (q16, .inr (7, [.ref q17, .ref q18, .ref q19, .ref q20, .int 0, .int 0, .int 0])), (q17, .inl (n.2.2.1 0, 4000, .inl (fun _ => 0))), (q18, .inl (n.2.2.1 0, 300, .inl (fun _ => 0))), (q19, .inl (n.2.2.1 0, 100, .inl (fun _ => 0))), (q20, .inl (n.2.2.1 0, 300, .inl (fun _ => 0))), (q21, .inr (8, [.ref q3, .ref q22])), (q22, .inl (n.2.2.1 0, 8, .inl (fun _ => 0)))]) q23 q3 q5 q13) ii_X3_init.1 ii_X3_init.2.1 ii_X3_init.2.2 ol_X10_67 rfl (by decide +kernel) rfl ⟨Nat.le_of_ble_eq_true rfl, Nat.le_of_ble_eq_true rfl⟩ ⟨Nat.le_of_ble_eq_true rfl, Nat.le_of_ble_eq_true rfl⟩ rfl dX10_init_121 ?_
  rintro _ ⟨q24, q25, q26, rfl⟩
  refine n_eq (ws' := pre ++ [(a, .inr (10, [.ref q1, .ref q3, .ref q5, .ref q7, .ref q10, .ref q13, .ref q16, .ref q21, .null, .int 0, .long 0])), (q1, .inr (9, [.ref q2, .int 0])), (q2, .inl (n.2.2.1 0, 240, .inl (fun _ => 0))), (q3, .inr (0, [.ref q4])), (q4, .inl (n.2.2.1 0, 100, .inl (upd (fun _ => 0) 98 (-1)))), (q5, .inr (0, [.ref q6])), (q6, .inl (n.2.2.1 0, 100, .inl (upd (fun _ => 0) 98 (-1)))), (q7, .inr (1, [.ref q8, .ref q9, .int 0])), (q8, .inr (2, [.ref q1, .int 0, .int 0])), (q9, .inl (n.2.2.1 0, 6, .inl (fun _ => 0))), (q10, .inr (6, [.ref q11, .ref q12, .int 0])), (q11, .inr (2, [.ref q1, .int 0, .int 0])), (q12, .inl (n.2.2.1 0, 240, .inl (fun _ => 0))), (q13, .inr (5, [.ref q14, .ref q15, .int 0, .int (-1)])), (q14, .inl (n.2.2.1 3, 4, .inr (.inr (.inr (.inr (fun _ => none)))))), (q15, .inl (n.2.2.1 0, 6, .inl (fun _ => 0))), (q16, .inr (7, [.ref q17, .ref q18, .ref q19, .ref q20, .int 0, .int 0, .int 0])), (q17, .inl (n.2.2.1 0, 4000, .inl (fun _ => 0))), (q18, .inl (n.2.2.1 0, 300, .inl (fun _ => 0))), (q19, .inl (n.2.2.1 0, 100, .inl (fun _ => 0))), (q20, .inl (n.2.2.1 0, 300, .inl (fun _ => 0))), (q21, .inr (8, [.ref q3, .ref q22])), (q22, .inl (n.2.2.1 0, 8, .inl (fun _ => 0))), (q23, .inr (3, [.ref q3, .ref q5, .ref q13, .ref q24, .ref q25, .ref q26, .int 0, .int 0, .int 0, .int 0, .int 0])), (q24, .inl (n.2.2.1 0, 24, .inl (fun _ => 0))), (q25, .inl (n.2.2.1 0, 24, .inl (fun _ => 0))), (q26, .inl (n.2.2.1 0, 64, .inl (fun _ => 0)))]) (List.append_assoc _ _ _) ?_
  refine n_putF (ty := (.object "CountRule$Foresight")) (x := .ref q23) (lst_get pre _ 0 rfl) fo_10_8 rfl tyX10 tyX10_ok nmX10 rfl rfl (by decide +kernel) rfl rfl (Nat.le_of_ble_eq_true rfl) dX10_init_124 ?_
  refine n_eq (ws' := pre ++ [(a, .inr (10, [.ref q1, .ref q3, .ref q5, .ref q7, .ref q10, .ref q13, .ref q16, .ref q21, .ref q23, .int 0, .long 0])), (q1, .inr (9, [.ref q2, .int 0])), (q2, .inl (n.2.2.1 0, 240, .inl (fun _ => 0))), (q3, .inr (0, [.ref q4])), (q4, .inl (n.2.2.1 0, 100, .inl (upd (fun _ => 0) 98 (-1)))), (q5, .inr (0, [.ref q6])), (q6, .inl (n.2.2.1 0, 100, .inl (upd (fun _ => 0) 98 (-1)))), (q7, .inr (1, [.ref q8, .ref q9, .int 0])), (q8, .inr (2, [.ref q1, .int 0, .int 0])), (q9, .inl (n.2.2.1 0, 6, .inl (fun _ => 0))), (q10, .inr (6, [.ref q11, .ref q12, .int 0])), (q11, .inr (2, [.ref q1, .int 0, .int 0])), (q12, .inl (n.2.2.1 0, 240, .inl (fun _ => 0))), (q13, .inr (5, [.ref q14, .ref q15, .int 0, .int (-1)])), (q14, .inl (n.2.2.1 3, 4, .inr (.inr (.inr (.inr (fun _ => none)))))), (q15, .inl (n.2.2.1 0, 6, .inl (fun _ => 0))), (q16, .inr (7, [.ref q17, .ref q18, .ref q19, .ref q20, .int 0, .int 0, .int 0])), (q17, .inl (n.2.2.1 0, 4000, .inl (fun _ => 0))), (q18, .inl (n.2.2.1 0, 300, .inl (fun _ => 0))), (q19, .inl (n.2.2.1 0, 100, .inl (fun _ => 0))), (q20, .inl (n.2.2.1 0, 300, .inl (fun _ => 0))), (q21, .inr (8, [.ref q3, .ref q22])), (q22, .inl (n.2.2.1 0, 8, .inl (fun _ => 0))), (q23, .inr (3, [.ref q3, .ref q5, .ref q13, .ref q24, .ref q25, .ref q26, .int 0, .int 0, .int 0, .int 0, .int 0])), (q24, .inl (n.2.2.1 0, 24, .inl (fun _ => 0))), (q25, .inl (n.2.2.1 0, 24, .inl (fun _ => 0))), (q26, .inl (n.2.2.1 0, 64, .inl (fun _ => 0)))]) (lst_set pre _ 0 _) ?_
  exact n_vret ⟨q1, q2, q3, q4, q5, q6, q7, q8, q9, q10, q11, q12, q13, q14, q15, q16, q17, q18, q19, q20, q21, q22, q23, q24, q25, q26, rfl⟩ (Nat.le_of_ble_eq_true rfl) (Nat.le_of_ble_eq_true rfl) dX10_init_127
theorem ol_X11_3 : Cond.methodLink RX11 3 objectInit ∈ gw := (gw_tb 1379 (by decide +kernel) (by decide +kernel))
theorem ac_byte : Cond.arrayClass (newarray.typeOf .byte) ∈ gw := (gw_tb 551 (by decide +kernel) (by decide +kernel))
theorem ii_X11_init : Cond.instanceMethod yX11_init ∈ gw ∧ Cond.initialized yX11_init.cls ∈ gw ∧ Cond.code yX11_init cX11_init 1 none ∈ gw := ⟨(gw_tb 1377 (by decide +kernel) (by decide +kernel)), (gw_tb 11 (by decide +kernel) (by decide +kernel)), (gw_tb 1378 (by decide +kernel) (by decide +kernel))⟩
set_option maxRecDepth 8000 in
set_option maxHeartbeats 4000000 in
theorem i_X11_init {n : Nf} (pre : va_W) (a : Nat) : NCl n 1 yX11_init cX11_init 1 none [.ref a] (pre ++ [(a, .inr (11, [.int 0, .null, .null, .null, .null, .null, .int 0, .int 0, .int 0, .int 0, .int 0, .int 0, .int 0, .int 0, .int 0, .null, .null, .int 0, .null, .null, .null, .null, .null, .null, .int 0, .int 0, .int 0, .int 0, .int 0, .null, .null, .int 0, .int 0, .long 0, .int 0, .int 0, .int 0, .null, .null, .int 0, .int 0, .int 0, .int 0, .null, .null, .int 0]))]) 16 12017 (fun ws => ∃ q1 q2 q3 q4 q5 q6 q7 q8 q9 q10 q11 q12 q13 q14 q15 q16 : Nat, ws = pre ++ [(a, .inr (11, [.int 0, .ref q1, .ref q2, .ref q3, .ref q4, .ref q1, .int 0, .int 0, .int 0, .int 0, .int 0, .int 0, .int 0, .int 0, .int 0, .ref (n.2.2.2.2 0), .ref (n.2.2.2.2 1), .int 0, .ref q5, .ref q6, .ref q7, .ref q8, .ref q9, .ref q10, .int 0, .int 0, .int 0, .int 0, .int 0, .ref q11, .ref q12, .int (-1), .int 0, .long 0, .int (-1), .int 0, .int 0, .ref q13, .ref q14, .int 0, .int 0, .int 0, .int 0, .ref q15, .ref q16, .int 0])), (q1, .inl (n.2.2.1 1, 240, .inl (fun _ => 0))), (q2, .inl (n.2.2.1 1, 960, .inl (fun _ => 0))), (q3, .inl (n.2.2.1 0, 4, .inl (fun _ => 0))), (q4, .inl (n.2.2.1 0, 128, .inl (fun _ => 0))), (q5, .inl (n.2.2.1 0, 48, .inl (fun _ => 0))), (q6, .inl (n.2.2.1 0, 48, .inl (fun _ => 0))), (q7, .inl (n.2.2.1 0, 12, .inl (fun _ => 0))), (q8, .inl (n.2.2.1 0, 12, .inl (fun _ => 0))), (q9, .inl (n.2.2.1 0, 3, .inl (fun _ => 0))), (q10, .inl (n.2.2.1 0, 3, .inl (fun _ => 0))), (q11, .inl (n.2.2.1 0, 244, .inl (fun _ => 0))), (q12, .inl (n.2.2.1 0, 244, .inl (fun _ => 0))), (q13, .inl (n.2.2.1 0, 3, .inl (fun _ => 0))), (q14, .inl (n.2.2.1 0, 9760, .inl (fun _ => 0))), (q15, .inl (n.2.2.1 0, 64, .inl (fun _ => 0))), (q16, .inl (n.2.2.1 0, 244, .inl (fun _ => 0)))]) none := by
  refine ncl_of (by decide) (Nat.le_of_ble_eq_true rfl) (vs := [some (.ref a)]) rfl rfl ?_
  show NX n (rmn 1 16 12017) RX11 cX11_init 1 none (("<init>" : String) = "<init>") _ 0 _ [] _ 0 0
  refine n_aloadn_0 dX11_init_0 ?_
  refine n_objInit ol_X11_3 (Nat.le_of_ble_eq_true rfl) (Nat.le_of_ble_eq_true rfl) rfl dX11_init_1 ?_
  refine n_aloadn_0 dX11_init_4 ?_
  refine n_sipush 240 dX11_init_5 rfl ?_
  refine n_newa (ty := .byte) (cA := n.2.2.1 1) (t0 := 1) 240 (240, .inl (fun _ => 0)) rfl tyd_1 (fun _ _ _ => ra_byte) (fun _ => vc_byte _ _) (by decide) rfl (by decide +kernel) ac_byte (Nat.le_of_ble_eq_true rfl) (Nat.le_of_ble_eq_true rfl) dX11_init_8 (fun q1 => ?_)
  refine n_eq (ws' := pre ++ [(a, .inr (11, [.int 0, .null, .null, .null, .null, .null, .int 0, .int 0, .int 0, .int 0, .int 0, .int 0, .int 0, .int 0, .int 0, .null, .null, .int 0, .null, .null, .null, .null, .null, .null, .int 0, .int 0, .int 0, .int 0, .int 0, .null, .null, .int 0, .int 0, .long 0, .int 0, .int 0, .int 0, .null, .null, .int 0, .int 0, .int 0, .int 0, .null, .null, .int 0])), (q1, .inl (n.2.2.1 1, 240, .inl (fun _ => 0)))]) (List.append_assoc _ _ _) ?_
  refine n_putF (ty := (.array .byte)) (x := .ref q1) (lst_get pre _ 0 rfl) fo_11_1 rfl tyX11 tyX11_ok nmX11 rfl rfl (by decide +kernel) rfl rfl (Nat.le_of_ble_eq_true rfl) dX11_init_10 ?_
  refine n_eq (ws' := pre ++ [(a, .inr (11, [.int 0, .ref q1, .null, .null, .null, .null, .int 0, .int 0, .int 0, .int 0, .int 0, .int 0, .int 0, .int 0, .int 0, .null, .null, .int 0, .null, .null, .null, .null, .null, .null, .int 0, .int 0, .int 0, .int 0, .int 0, .null, .null, .int 0, .int 0, .long 0, .int 0, .int 0, .int 0, .null, .null, .int 0, .int 0, .int 0, .int 0, .null, .null, .int 0])), (q1, .inl (n.2.2.1 1, 240, .inl (fun _ => 0)))]) (lst_set pre _ 0 _) ?_
  refine n_aloadn_0 dX11_init_13 ?_
  refine n_sipush 960 dX11_init_14 rfl ?_
  refine n_newa (ty := .byte) (cA := n.2.2.1 1) (t0 := 1) 960 (960, .inl (fun _ => 0)) rfl tyd_1 (fun _ _ _ => ra_byte) (fun _ => vc_byte _ _) (by decide) rfl (by decide +kernel) ac_byte (Nat.le_of_ble_eq_true rfl) (Nat.le_of_ble_eq_true rfl) dX11_init_17 (fun q2 => ?_)
  refine n_eq (ws' := pre ++ [(a, .inr (11, [.int 0, .ref q1, .null, .null, .null, .null, .int 0, .int 0, .int 0, .int 0, .int 0, .int 0, .int 0, .int 0, .int 0, .null, .null, .int 0, .null, .null, .null, .null, .null, .null, .int 0, .int 0, .int 0, .int 0, .int 0, .null, .null, .int 0, .int 0, .long 0, .int 0, .int 0, .int 0, .null, .null, .int 0, .int 0, .int 0, .int 0, .null, .null, .int 0])), (q1, .inl (n.2.2.1 1, 240, .inl (fun _ => 0))), (q2, .inl (n.2.2.1 1, 960, .inl (fun _ => 0)))]) (List.append_assoc _ _ _) ?_
  refine n_putF (ty := (.array .byte)) (x := .ref q2) (lst_get pre _ 0 rfl) fo_11_2 rfl tyX11 tyX11_ok nmX11 rfl rfl (by decide +kernel) rfl rfl (Nat.le_of_ble_eq_true rfl) dX11_init_19 ?_
  refine n_eq (ws' := pre ++ [(a, .inr (11, [.int 0, .ref q1, .ref q2, .null, .null, .null, .int 0, .int 0, .int 0, .int 0, .int 0, .int 0, .int 0, .int 0, .int 0, .null, .null, .int 0, .null, .null, .null, .null, .null, .null, .int 0, .int 0, .int 0, .int 0, .int 0, .null, .null, .int 0, .int 0, .long 0, .int 0, .int 0, .int 0, .null, .null, .int 0, .int 0, .int 0, .int 0, .null, .null, .int 0])), (q1, .inl (n.2.2.1 1, 240, .inl (fun _ => 0))), (q2, .inl (n.2.2.1 1, 960, .inl (fun _ => 0)))]) (lst_set pre _ 0 _) ?_
  refine n_aloadn_0 dX11_init_22 ?_
  refine n_iconst 4 dX11_init_23 rfl ?_
  refine n_newa (ty := .int) (cA := n.2.2.1 0) (t0 := 0) 4 (4, .inl (fun _ => 0)) rfl tyd_0 (fun _ _ _ => ra_int) (fun _ => vc_int _ _) (by decide) rfl (by decide +kernel) ac_int (Nat.le_of_ble_eq_true rfl) (Nat.le_of_ble_eq_true rfl) dX11_init_24 (fun q3 => ?_)
  refine n_eq (ws' := pre ++ [(a, .inr (11, [.int 0, .ref q1, .ref q2, .null, .null, .null, .int 0, .int 0, .int 0, .int 0, .int 0, .int 0, .int 0, .int 0, .int 0, .null, .null, .int 0, .null, .null, .null, .null, .null, .null, .int 0, .int 0, .int 0, .int 0, .int 0, .null, .null, .int 0, .int 0, .long 0, .int 0, .int 0, .int 0, .null, .null, .int 0, .int 0, .int 0, .int 0, .null, .null, .int 0])), (q1, .inl (n.2.2.1 1, 240, .inl (fun _ => 0))), (q2, .inl (n.2.2.1 1, 960, .inl (fun _ => 0))), (q3, .inl (n.2.2.1 0, 4, .inl (fun _ => 0)))]) (List.append_assoc _ _ _) ?_
  refine n_putF (ty := (.array .int)) (x := .ref q3) (lst_get pre _ 0 rfl) fo_11_3 rfl tyX11 tyX11_ok nmX11 rfl rfl (by decide +kernel) rfl rfl (Nat.le_of_ble_eq_true rfl) dX11_init_26 ?_
  refine n_eq (ws' := pre ++ [(a, .inr (11, [.int 0, .ref q1, .ref q2, .ref q3, .null, .null, .int 0, .int 0, .int 0, .int 0, .int 0, .int 0, .int 0, .int 0, .int 0, .null, .null, .int 0, .null, .null, .null, .null, .null, .null, .int 0, .int 0, .int 0, .int 0, .int 0, .null, .null, .int 0, .int 0, .long 0, .int 0, .int 0, .int 0, .null, .null, .int 0, .int 0, .int 0, .int 0, .null, .null, .int 0])), (q1, .inl (n.2.2.1 1, 240, .inl (fun _ => 0))), (q2, .inl (n.2.2.1 1, 960, .inl (fun _ => 0))), (q3, .inl (n.2.2.1 0, 4, .inl (fun _ => 0)))]) (lst_set pre _ 0 _) ?_
  refine n_aloadn_0 dX11_init_29 ?_
  refine n_sipush 128 dX11_init_30 rfl ?_
  refine n_newa (ty := .int) (cA := n.2.2.1 0) (t0 := 0) 128 (128, .inl (fun _ => 0)) rfl tyd_0 (fun _ _ _ => ra_int) (fun _ => vc_int _ _) (by decide) rfl (by decide +kernel) ac_int (Nat.le_of_ble_eq_true rfl) (Nat.le_of_ble_eq_true rfl) dX11_init_33 (fun q4 => ?_)
  refine n_eq (ws' := pre ++ [(a, .inr (11, [.int 0, .ref q1, .ref q2, .ref q3, .null, .null, .int 0, .int 0, .int 0, .int 0, .int 0, .int 0, .int 0, .int 0, .int 0, .null, .null, .int 0, .null, .null, .null, .null, .null, .null, .int 0, .int 0, .int 0, .int 0, .int 0, .null, .null, .int 0, .int 0, .long 0, .int 0, .int 0, .int 0, .null, .null, .int 0, .int 0, .int 0, .int 0, .null, .null, .int 0])), (q1, .inl (n.2.2.1 1, 240, .inl (fun _ => 0))), (q2, .inl (n.2.2.1 1, 960, .inl (fun _ => 0))), (q3, .inl (n.2.2.1 0, 4, .inl (fun _ => 0))), (q4, .inl (n.2.2.1 0, 128, .inl (fun _ => 0)))]) (List.append_assoc _ _ _) ?_
  refine n_putF (ty := (.array .int)) (x := .ref q4) (lst_get pre _ 0 rfl) fo_11_4 rfl tyX11 tyX11_ok nmX11 rfl rfl (by decide +kernel) rfl rfl (Nat.le_of_ble_eq_true rfl) dX11_init_35 ?_
  refine n_eq (ws' := pre ++ [(a, .inr (11, [.int 0, .ref q1, .ref q2, .ref q3, .ref q4, .null, .int 0, .int 0, .int 0, .int 0, .int 0, .int 0, .int 0, .int 0, .int 0, .null, .null, .int 0, .null, .null, .null, .null, .null, .null, .int 0, .int 0, .int 0, .int 0, .int 0, .null, .null, .int 0, .int 0, .long 0, .int 0, .int 0, .int 0, .null, .null, .int 0, .int 0, .int 0, .int 0, .null, .null, .int 0])), (q1, .inl (n.2.2.1 1, 240, .inl (fun _ => 0))), (q2, .inl (n.2.2.1 1, 960, .inl (fun _ => 0))), (q3, .inl (n.2.2.1 0, 4, .inl (fun _ => 0))), (q4, .inl (n.2.2.1 0, 128, .inl (fun _ => 0)))]) (lst_set pre _ 0 _) ?_
  refine n_aloadn_0 dX11_init_38 ?_
  refine n_aloadn_0 dX11_init_39 ?_
  refine n_get (lst_get pre _ 0 rfl) fo_11_1 rfl dX11_init_40 ?_
  refine n_put (ty := (.array .byte)) (x := .ref q1) (lst_get pre _ 0 rfl) fo_11_5 tyX11 tyX11_ok nmX11 rfl (by decide +kernel) rfl rfl (Nat.le_of_ble_eq_true rfl) dX11_init_43 ?_
  refine n_eq (ws' := pre ++ [(a, .inr (11, [.int 0, .ref q1, .ref q2, .ref q3, .ref q4, .ref q1, .int 0, .int 0, .int 0, .int 0, .int 0, .int 0, .int 0, .int 0, .int 0, .null, .null, .int 0, .null, .null, .null, .null, .null, .null, .int 0, .int 0, .int 0, .int 0, .int 0, .null, .null, .int 0, .int 0, .long 0, .int 0, .int 0, .int 0, .null, .null, .int 0, .int 0, .int 0, .int 0, .null, .null, .int 0])), (q1, .inl (n.2.2.1 1, 240, .inl (fun _ => 0))), (q2, .inl (n.2.2.1 1, 960, .inl (fun _ => 0))), (q3, .inl (n.2.2.1 0, 4, .inl (fun _ => 0))), (q4, .inl (n.2.2.1 0, 128, .inl (fun _ => 0)))]) (lst_set pre _ 0 _) ?_
  refine n_aloadn_0 dX11_init_46 ?_
  refine n_ldcS (k9 := 0) (tx := "y") (by decide) dX11_init_47 ?_
  refine n_putF (ty := (.object "java/lang/String")) (x := .ref (n.2.2.2.2 0)) (lst_get pre _ 0 rfl) fo_11_15 rfl tyX11 tyX11_ok nmX11 rfl rfl (by decide +kernel) rfl rfl (Nat.le_of_ble_eq_true rfl) dX11_init_49 ?_
  refine n_eq (ws' := pre ++ [(a, .inr (11, [.int 0, .ref q1, .ref q2, .ref q3, .ref q4, .ref q1, .int 0, .int 0, .int 0, .int 0, .int 0, .int 0, .int 0, .int 0, .int 0, .ref (n.2.2.2.2 0), .null, .int 0, .null, .null, .null, .null, .null, .null, .int 0, .int 0, .int 0, .int 0, .int 0, .null, .null, .int 0, .int 0, .long 0, .int 0, .int 0, .int 0, .null, .null, .int 0, .int 0, .int 0, .int 0, .null, .null, .int 0])), (q1, .inl (n.2.2.1 1, 240, .inl (fun _ => 0))), (q2, .inl (n.2.2.1 1, 960, .inl (fun _ => 0))), (q3, .inl (n.2.2.1 0, 4, .inl (fun _ => 0))), (q4, .inl (n.2.2.1 0, 128, .inl (fun _ => 0)))]) (lst_set pre _ 0 _) ?_
  refine n_aloadn_0 dX11_init_52 ?_
  refine n_ldcS (k9 := 1) (tx := "caknmw") (by decide) dX11_init_53 ?_
  refine n_putF (ty := (.object "java/lang/String")) (x := .ref (n.2.2.2.2 1)) (lst_get pre _ 0 rfl) fo_11_16 rfl tyX11 tyX11_ok nmX11 rfl rfl (by decide +kernel) rfl rfl (Nat.le_of_ble_eq_true rfl) dX11_init_55 ?_
  refine n_eq (ws' := pre ++ [(a, .inr (11, [.int 0, .ref q1, .ref q2, .ref q3, .ref q4, .ref q1, .int 0, .int 0, .int 0, .int 0, .int 0, .int 0, .int 0, .int 0, .int 0, .ref (n.2.2.2.2 0), .ref (n.2.2.2.2 1), .int 0, .null, .null, .null, .null, .null, .null, .int 0, .int 0, .int 0, .int 0, .int 0, .null, .null, .int 0, .int 0, .long 0, .int 0, .int 0, .int 0, .null, .null, .int 0, .int 0, .int 0, .int 0, .null, .null, .int 0])), (q1, .inl (n.2.2.1 1, 240, .inl (fun _ => 0))), (q2, .inl (n.2.2.1 1, 960, .inl (fun _ => 0))), (q3, .inl (n.2.2.1 0, 4, .inl (fun _ => 0))), (q4, .inl (n.2.2.1 0, 128, .inl (fun _ => 0)))]) (lst_set pre _ 0 _) ?_
  refine n_aloadn_0 dX11_init_58 ?_
  refine n_bipush 48 dX11_init_59 rfl ?_
  refine n_newa (ty := .int) (cA := n.2.2.1 0) (t0 := 0) 48 (48, .inl (fun _ => 0)) rfl tyd_0 (fun _ _ _ => ra_int) (fun _ => vc_int _ _) (by decide) rfl (by decide +kernel) ac_int (Nat.le_of_ble_eq_true rfl) (Nat.le_of_ble_eq_true rfl) dX11_init_61 (fun q5 => ?_)
  refine n_eq (ws' := pre ++ [(a, .inr (11, [.int 0, .ref q1, .ref q2, .ref q3, .ref q4, .ref q1, .int 0, .int 0, .int 0, .int 0, .int 0, .int 0, .int 0, .int 0, .int 0, .ref (n.2.2.2.2 0), .ref (n.2.2.2.2 1), .int 0, .null, .null, .null, .null, .null, .null, .int 0, .int 0, .int 0, .int 0, .int 0, .null, .null, .int 0, .int 0, .long 0, .int 0, .int 0, .int 0, .null, .null, .int 0, .int 0, .int 0, .int 0, .null, .null, .int 0])), (q1, .inl (n.2.2.1 1, 240, .inl (fun _ => 0))), (q2, .inl (n.2.2.1 1, 960, .inl (fun _ => 0))), (q3, .inl (n.2.2.1 0, 4, .inl (fun _ => 0))), (q4, .inl (n.2.2.1 0, 128, .inl (fun _ => 0))), (q5, .inl (n.2.2.1 0, 48, .inl (fun _ => 0)))]) (List.append_assoc _ _ _) ?_
  refine n_putF (ty := (.array .int)) (x := .ref q5) (lst_get pre _ 0 rfl) fo_11_18 rfl tyX11 tyX11_ok nmX11 rfl rfl (by decide +kernel) rfl rfl (Nat.le_of_ble_eq_true rfl) dX11_init_63 ?_
  refine n_eq (ws' := pre ++ [(a, .inr (11, [.int 0, .ref q1, .ref q2, .ref q3, .ref q4, .ref q1, .int 0, .int 0, .int 0, .int 0, .int 0, .int 0, .int 0, .int 0, .int 0, .ref (n.2.2.2.2 0), .ref (n.2.2.2.2 1), .int 0, .ref q5, .null, .null, .null, .null, .null, .int 0, .int 0, .int 0, .int 0, .int 0, .null, .null, .int 0, .int 0, .long 0, .int 0, .int 0, .int 0, .null, .null, .int 0, .int 0, .int 0, .int 0, .null, .null, .int 0])), (q1, .inl (n.2.2.1 1, 240, .inl (fun _ => 0))), (q2, .inl (n.2.2.1 1, 960, .inl (fun _ => 0))), (q3, .inl (n.2.2.1 0, 4, .inl (fun _ => 0))), (q4, .inl (n.2.2.1 0, 128, .inl (fun _ => 0))), (q5, .inl (n.2.2.1 0, 48, .inl (fun _ => 0)))]) (lst_set pre _ 0 _) ?_
  refine n_aloadn_0 dX11_init_66 ?_
  refine n_bipush 48 dX11_init_67 rfl ?_
  refine n_newa (ty := .int) (cA := n.2.2.1 0) (t0 := 0) 48 (48, .inl (fun _ => 0)) rfl tyd_0 (fun _ _ _ => ra_int) (fun _ => vc_int _ _) (by decide) rfl (by decide +kernel) ac_int (Nat.le_of_ble_eq_true rfl) (Nat.le_of_ble_eq_true rfl) dX11_init_69 (fun q6 => ?_)
  refine n_eq (ws' := pre ++ [(a, .inr (11, [.int 0, .ref q1, .ref q2, .ref q3, .ref q4, .ref q1, .int 0, .int 0, .int 0, .int 0, .int 0, .int 0, .int 0, .int 0, .int 0, .ref (n.2.2.2.2 0), .ref (n.2.2.2.2 1), .int 0, .ref q5, .null, .null, .null, .null, .null, .int 0, .int 0, .int 0, .int 0, .int 0, .null, .null, .int 0, .int 0, .long 0, .int 0, .int 0, .int 0, .null, .null, .int 0, .int 0, .int 0, .int 0, .null, .null, .int 0])), (q1, .inl (n.2.2.1 1, 240, .inl (fun _ => 0))), (q2, .inl (n.2.2.1 1, 960, .inl (fun _ => 0))), (q3, .inl (n.2.2.1 0, 4, .inl (fun _ => 0))), (q4, .inl (n.2.2.1 0, 128, .inl (fun _ => 0))), (q5, .inl (n.2.2.1 0, 48, .inl (fun _ => 0))), (q6, .inl (n.2.2.1 0, 48, .inl (fun _ => 0)))]) (List.append_assoc _ _ _) ?_
  refine n_putF (ty := (.array .int)) (x := .ref q6) (lst_get pre _ 0 rfl) fo_11_19 rfl tyX11 tyX11_ok nmX11 rfl rfl (by decide +kernel) rfl rfl (Nat.le_of_ble_eq_true rfl) dX11_init_71 ?_
  refine n_eq (ws' := pre ++ [(a, .inr (11, [.int 0, .ref q1, .ref q2, .ref q3, .ref q4, .ref q1, .int 0, .int 0, .int 0, .int 0, .int 0, .int 0, .int 0, .int 0, .int 0, .ref (n.2.2.2.2 0), .ref (n.2.2.2.2 1), .int 0, .ref q5, .ref q6, .null, .null, .null, .null, .int 0, .int 0, .int 0, .int 0, .int 0, .null, .null, .int 0, .int 0, .long 0, .int 0, .int 0, .int 0, .null, .null, .int 0, .int 0, .int 0, .int 0, .null, .null, .int 0])), (q1, .inl (n.2.2.1 1, 240, .inl (fun _ => 0))), (q2, .inl (n.2.2.1 1, 960, .inl (fun _ => 0))), (q3, .inl (n.2.2.1 0, 4, .inl (fun _ => 0))), (q4, .inl (n.2.2.1 0, 128, .inl (fun _ => 0))), (q5, .inl (n.2.2.1 0, 48, .inl (fun _ => 0))), (q6, .inl (n.2.2.1 0, 48, .inl (fun _ => 0)))]) (lst_set pre _ 0 _) ?_
  refine n_aloadn_0 dX11_init_74 ?_
  refine n_bipush 12 dX11_init_75 rfl ?_
  refine n_newa (ty := .int) (cA := n.2.2.1 0) (t0 := 0) 12 (12, .inl (fun _ => 0)) rfl tyd_0 (fun _ _ _ => ra_int) (fun _ => vc_int _ _) (by decide) rfl (by decide +kernel) ac_int (Nat.le_of_ble_eq_true rfl) (Nat.le_of_ble_eq_true rfl) dX11_init_77 (fun q7 => ?_)
  refine n_eq (ws' := pre ++ [(a, .inr (11, [.int 0, .ref q1, .ref q2, .ref q3, .ref q4, .ref q1, .int 0, .int 0, .int 0, .int 0, .int 0, .int 0, .int 0, .int 0, .int 0, .ref (n.2.2.2.2 0), .ref (n.2.2.2.2 1), .int 0, .ref q5, .ref q6, .null, .null, .null, .null, .int 0, .int 0, .int 0, .int 0, .int 0, .null, .null, .int 0, .int 0, .long 0, .int 0, .int 0, .int 0, .null, .null, .int 0, .int 0, .int 0, .int 0, .null, .null, .int 0])), (q1, .inl (n.2.2.1 1, 240, .inl (fun _ => 0))), (q2, .inl (n.2.2.1 1, 960, .inl (fun _ => 0))), (q3, .inl (n.2.2.1 0, 4, .inl (fun _ => 0))), (q4, .inl (n.2.2.1 0, 128, .inl (fun _ => 0))), (q5, .inl (n.2.2.1 0, 48, .inl (fun _ => 0))), (q6, .inl (n.2.2.1 0, 48, .inl (fun _ => 0))), (q7, .inl (n.2.2.1 0, 12, .inl (fun _ => 0)))]) (List.append_assoc _ _ _) ?_
  refine n_putF (ty := (.array .int)) (x := .ref q7) (lst_get pre _ 0 rfl) fo_11_20 rfl tyX11 tyX11_ok nmX11 rfl rfl (by decide +kernel) rfl rfl (Nat.le_of_ble_eq_true rfl) dX11_init_79 ?_
  refine n_eq (ws' := pre ++ [(a, .inr (11, [.int 0, .ref q1, .ref q2, .ref q3, .ref q4, .ref q1, .int 0, .int 0, .int 0, .int 0, .int 0, .int 0, .int 0, .int 0, .int 0, .ref (n.2.2.2.2 0), .ref (n.2.2.2.2 1), .int 0, .ref q5, .ref q6, .ref q7, .null, .null, .null, .int 0, .int 0, .int 0, .int 0, .int 0, .null, .null, .int 0, .int 0, .long 0, .int 0, .int 0, .int 0, .null, .null, .int 0, .int 0, .int 0, .int 0, .null, .null, .int 0])), (q1, .inl (n.2.2.1 1, 240, .inl (fun _ => 0))), (q2, .inl (n.2.2.1 1, 960, .inl (fun _ => 0))), (q3, .inl (n.2.2.1 0, 4, .inl (fun _ => 0))), (q4, .inl (n.2.2.1 0, 128, .inl (fun _ => 0))), (q5, .inl (n.2.2.1 0, 48, .inl (fun _ => 0))), (q6, .inl (n.2.2.1 0, 48, .inl (fun _ => 0))), (q7, .inl (n.2.2.1 0, 12, .inl (fun _ => 0)))]) (lst_set pre _ 0 _) ?_
  refine n_aloadn_0 dX11_init_82 ?_
  refine n_bipush 12 dX11_init_83 rfl ?_
  refine n_newa (ty := .int) (cA := n.2.2.1 0) (t0 := 0) 12 (12, .inl (fun _ => 0)) rfl tyd_0 (fun _ _ _ => ra_int) (fun _ => vc_int _ _) (by decide) rfl (by decide +kernel) ac_int (Nat.le_of_ble_eq_true rfl) (Nat.le_of_ble_eq_true rfl) dX11_init_85 (fun q8 => ?_)
  refine n_eq (ws' := pre ++ [(a, .inr (11, [.int 0, .ref q1, .ref q2, .ref q3, .ref q4, .ref q1, .int 0, .int 0, .int 0, .int 0, .int 0, .int 0, .int 0, .int 0, .int 0, .ref (n.2.2.2.2 0), .ref (n.2.2.2.2 1), .int 0, .ref q5, .ref q6, .ref q7, .null, .null, .null, .int 0, .int 0, .int 0, .int 0, .int 0, .null, .null, .int 0, .int 0, .long 0, .int 0, .int 0, .int 0, .null, .null, .int 0, .int 0, .int 0, .int 0, .null, .null, .int 0])), (q1, .inl (n.2.2.1 1, 240, .inl (fun _ => 0))), (q2, .inl (n.2.2.1 1, 960, .inl (fun _ => 0))), (q3, .inl (n.2.2.1 0, 4, .inl (fun _ => 0))), (q4, .inl (n.2.2.1 0, 128, .inl (fun _ => 0))), (q5, .inl (n.2.2.1 0, 48, .inl (fun _ => 0))), (q6, .inl (n.2.2.1 0, 48, .inl (fun _ => 0))), (q7, .inl (n.2.2.1 0, 12, .inl (fun _ => 0))), (q8, .inl (n.2.2.1 0, 12, .inl (fun _ => 0)))]) (List.append_assoc _ _ _) ?_
  refine n_putF (ty := (.array .int)) (x := .ref q8) (lst_get pre _ 0 rfl) fo_11_21 rfl tyX11 tyX11_ok nmX11 rfl rfl (by decide +kernel) rfl rfl (Nat.le_of_ble_eq_true rfl) dX11_init_87 ?_
  refine n_eq (ws' := pre ++ [(a, .inr (11, [.int 0, .ref q1, .ref q2, .ref q3, .ref q4, .ref q1, .int 0, .int 0, .int 0, .int 0, .int 0, .int 0, .int 0, .int 0, .int 0, .ref (n.2.2.2.2 0), .ref (n.2.2.2.2 1), .int 0, .ref q5, .ref q6, .ref q7, .ref q8, .null, .null, .int 0, .int 0, .int 0, .int 0, .int 0, .null, .null, .int 0, .int 0, .long 0, .int 0, .int 0, .int 0, .null, .null, .int 0, .int 0, .int 0, .int 0, .null, .null, .int 0])), (q1, .inl (n.2.2.1 1, 240, .inl (fun _ => 0))), (q2, .inl (n.2.2.1 1, 960, .inl (fun _ => 0))), (q3, .inl (n.2.2.1 0, 4, .inl (fun _ => 0))), (q4, .inl (n.2.2.1 0, 128, .inl (fun _ => 0))), (q5, .inl (n.2.2.1 0, 48, .inl (fun _ => 0))), (q6, .inl (n.2.2.1 0, 48, .inl (fun _ => 0))), (q7, .inl (n.2.2.1 0, 12, .inl (fun _ => 0))), (q8, .inl (n.2.2.1 0, 12, .inl (fun _ => 0)))]) (lst_set pre _ 0 _) ?_
  refine n_aloadn_0 dX11_init_90 ?_
  refine n_iconst 3 dX11_init_91 rfl ?_
  refine n_newa (ty := .int) (cA := n.2.2.1 0) (t0 := 0) 3 (3, .inl (fun _ => 0)) rfl tyd_0 (fun _ _ _ => ra_int) (fun _ => vc_int _ _) (by decide) rfl (by decide +kernel) ac_int (Nat.le_of_ble_eq_true rfl) (Nat.le_of_ble_eq_true rfl) dX11_init_92 (fun q9 => ?_)
  refine n_eq (ws' := pre ++ [(a, .inr (11, [.int 0, .ref q1, .ref q2, .ref q3, .ref q4, .ref q1, .int 0, .int 0, .int 0, .int 0, .int 0, .int 0, .int 0, .int 0, .int 0, .ref (n.2.2.2.2 0), .ref (n.2.2.2.2 1), .int 0, .ref q5, .ref q6, .ref q7, .ref q8, .null, .null, .int 0, .int 0, .int 0, .int 0, .int 0, .null, .null, .int 0, .int 0, .long 0, .int 0, .int 0, .int 0, .null, .null, .int 0, .int 0, .int 0, .int 0, .null, .null, .int 0])), (q1, .inl (n.2.2.1 1, 240, .inl (fun _ => 0))), (q2, .inl (n.2.2.1 1, 960, .inl (fun _ => 0))), (q3, .inl (n.2.2.1 0, 4, .inl (fun _ => 0))), (q4, .inl (n.2.2.1 0, 128, .inl (fun _ => 0))), (q5, .inl (n.2.2.1 0, 48, .inl (fun _ => 0))), (q6, .inl (n.2.2.1 0, 48, .inl (fun _ => 0))), (q7, .inl (n.2.2.1 0, 12, .inl (fun _ => 0))), (q8, .inl (n.2.2.1 0, 12, .inl (fun _ => 0))), (q9, .inl (n.2.2.1 0, 3, .inl (fun _ => 0)))]) (List.append_assoc _ _ _) ?_
  refine n_putF (ty := (.array .int)) (x := .ref q9) (lst_get pre _ 0 rfl) fo_11_22 rfl tyX11 tyX11_ok nmX11 rfl rfl (by decide +kernel) rfl rfl (Nat.le_of_ble_eq_true rfl) dX11_init_94 ?_
  refine n_eq (ws' := pre ++ [(a, .inr (11, [.int 0, .ref q1, .ref q2, .ref q3, .ref q4, .ref q1, .int 0, .int 0, .int 0, .int 0, .int 0, .int 0, .int 0, .int 0, .int 0, .ref (n.2.2.2.2 0), .ref (n.2.2.2.2 1), .int 0, .ref q5, .ref q6, .ref q7, .ref q8, .ref q9, .null, .int 0, .int 0, .int 0, .int 0, .int 0, .null, .null, .int 0, .int 0, .long 0, .int 0, .int 0, .int 0, .null, .null, .int 0, .int 0, .int 0, .int 0, .null, .null, .int 0])), (q1, .inl (n.2.2.1 1, 240, .inl (fun _ => 0))), (q2, .inl (n.2.2.1 1, 960, .inl (fun _ => 0))), (q3, .inl (n.2.2.1 0, 4, .inl (fun _ => 0))), (q4, .inl (n.2.2.1 0, 128, .inl (fun _ => 0))), (q5, .inl (n.2.2.1 0, 48, .inl (fun _ => 0))), (q6, .inl (n.2.2.1 0, 48, .inl (fun _ => 0))), (q7, .inl (n.2.2.1 0, 12, .inl (fun _ => 0))), (q8, .inl (n.2.2.1 0, 12, .inl (fun _ => 0))), (q9, .inl (n.2.2.1 0, 3, .inl (fun _ => 0)))]) (lst_set pre _ 0 _) ?_
  refine n_aloadn_0 dX11_init_97 ?_
  refine n_iconst 3 dX11_init_98 rfl ?_
  refine n_newa (ty := .int) (cA := n.2.2.1 0) (t0 := 0) 3 (3, .inl (fun _ => 0)) rfl tyd_0 (fun _ _ _ => ra_int) (fun _ => vc_int _ _) (by decide) rfl (by decide +kernel) ac_int (Nat.le_of_ble_eq_true rfl) (Nat.le_of_ble_eq_true rfl) dX11_init_99 (fun q10 => ?_)
  refine n_eq (ws' := pre ++ [(a, .inr (11, [.int 0, .ref q1, .ref q2, .ref q3, .ref q4, .ref q1, .int 0, .int 0, .int 0, .int 0, .int 0, .int 0, .int 0, .int 0, .int 0, .ref (n.2.2.2.2 0), .ref (n.2.2.2.2 1), .int 0, .ref q5, .ref q6, .ref q7, .ref q8, .ref q9, .null, .int 0, .int 0, .int 0, .int 0, .int 0, .null, .null, .int 0, .int 0, .long 0, .int 0, .int 0, .int 0, .null, .null, .int 0, .int 0, .int 0, .int 0, .null, .null, .int 0])), (q1, .inl (n.2.2.1 1, 240, .inl (fun _ => 0))), (q2, .inl (n.2.2.1 1, 960, .inl (fun _ => 0))), (q3, .inl (n.2.2.1 0, 4, .inl (fun _ => 0))), (q4, .inl (n.2.2.1 0, 128, .inl (fun _ => 0))), (q5, .inl (n.2.2.1 0, 48, .inl (fun _ => 0))), (q6, .inl (n.2.2.1 0, 48, .inl (fun _ => 0))), (q7, .inl (n.2.2.1 0, 12, .inl (fun _ => 0))), (q8, .inl (n.2.2.1 0, 12, .inl (fun _ => 0))), (q9, .inl (n.2.2.1 0, 3, .inl (fun _ => 0))), (q10, .inl (n.2.2.1 0, 3, .inl (fun _ => 0)))]) (List.append_assoc _ _ _) ?_
  refine n_putF (ty := (.array .int)) (x := .ref q10) (lst_get pre _ 0 rfl) fo_11_23 rfl tyX11 tyX11_ok nmX11 rfl rfl (by decide +kernel) rfl rfl (Nat.le_of_ble_eq_true rfl) dX11_init_101 ?_
  refine n_eq (ws' := pre ++ [(a, .inr (11, [.int 0, .ref q1, .ref q2, .ref q3, .ref q4, .ref q1, .int 0, .int 0, .int 0, .int 0, .int 0, .int 0, .int 0, .int 0, .int 0, .ref (n.2.2.2.2 0), .ref (n.2.2.2.2 1), .int 0, .ref q5, .ref q6, .ref q7, .ref q8, .ref q9, .ref q10, .int 0, .int 0, .int 0, .int 0, .int 0, .null, .null, .int 0, .int 0, .long 0, .int 0, .int 0, .int 0, .null, .null, .int 0, .int 0, .int 0, .int 0, .null, .null, .int 0])), (q1, .inl (n.2.2.1 1, 240, .inl (fun _ => 0))), (q2, .inl (n.2.2.1 1, 960, .inl (fun _ => 0))), (q3, .inl (n.2.2.1 0, 4, .inl (fun _ => 0))), (q4, .inl (n.2.2.1 0, 128, .inl (fun _ => 0))), (q5, .inl (n.2.2.1 0, 48, .inl (fun _ => 0))), (q6, .inl (n.2.2.1 0, 48, .inl (fun _ => 0))), (q7, .inl (n.2.2.1 0, 12, .inl (fun _ => 0))), (q8, .inl (n.2.2.1 0, 12, .inl (fun _ => 0))), (q9, .inl (n.2.2.1 0, 3, .inl (fun _ => 0))), (q10, .inl (n.2.2.1 0, 3, .inl (fun _ => 0)))]) (lst_set pre _ 0 _) ?_
  refine n_aloadn_0 dX11_init_104 ?_
  refine n_sipush 244 dX11_init_105 rfl ?_
  refine n_newa (ty := .int) (cA := n.2.2.1 0) (t0 := 0) 244 (244, .inl (fun _ => 0)) rfl tyd_0 (fun _ _ _ => ra_int) (fun _ => vc_int _ _) (by decide) rfl (by decide +kernel) ac_int (Nat.le_of_ble_eq_true rfl) (Nat.le_of_ble_eq_true rfl) dX11_init_108 (fun q11 => ?_)
  refine n_eq (ws' := pre ++ [(a, .inr (11, [.int 0, .ref q1, .ref q2, .ref q3, .ref q4, .ref q1, .int 0, .int 0, .int 0, .int 0, .int 0, .int 0, .int 0, .int 0, .int 0, .ref (n.2.2.2.2 0), .ref (n.2.2.2.2 1), .int 0, .ref q5, .ref q6, .ref q7, .ref q8, .ref q9, .ref q10, .int 0, .int 0, .int 0, .int 0, .int 0, .null, .null, .int 0, .int 0, .long 0, .int 0, .int 0, .int 0, .null, .null, .int 0, .int 0, .int 0, .int 0, .null, .null, .int 0])), (q1, .inl (n.2.2.1 1, 240, .inl (fun _ => 0))), (q2, .inl (n.2.2.1 1, 960, .inl (fun _ => 0))), (q3, .inl (n.2.2.1 0, 4, .inl (fun _ => 0))), (q4, .inl (n.2.2.1 0, 128, .inl (fun _ => 0))), (q5, .inl (n.2.2.1 0, 48, .inl (fun _ => 0))), (q6, .inl (n.2.2.1 0, 48, .inl (fun _ => 0))), (q7, .inl (n.2.2.1 0, 12, .inl (fun _ => 0))), (q8, .inl (n.2.2.1 0, 12, .inl (fun _ => 0))), (q9, .inl (n.2.2.1 0, 3, .inl (fun _ => 0))), (q10, .inl (n.2.2.1 0, 3, .inl (fun _ => 0))), (q11, .inl (n.2.2.1 0, 244, .inl (fun _ => 0)))]) (List.append_assoc _ _ _) ?_
  refine n_putF (ty := (.array .int)) (x := .ref q11) (lst_get pre _ 0 rfl) fo_11_29 rfl tyX11 tyX11_ok nmX11 rfl rfl (by decide +kernel) rfl rfl (Nat.le_of_ble_eq_true rfl) dX11_init_110 ?_
  refine n_eq (ws' := pre ++ [(a, .inr (11, [.int 0, .ref q1, .ref q2, .ref q3, .ref q4, .ref q1, .int 0, .int 0, .int 0, .int 0, .int 0, .int 0, .int 0, .int 0, .int 0, .ref (n.2.2.2.2 0), .ref (n.2.2.2.2 1), .int 0, .ref q5, .ref q6, .ref q7, .ref q8, .ref q9, .ref q10, .int 0, .int 0, .int 0, .int 0, .int 0, .ref q11, .null, .int 0, .int 0, .long 0, .int 0, .int 0, .int 0, .null, .null, .int 0, .int 0, .int 0, .int 0, .null, .null, .int 0])), (q1, .inl (n.2.2.1 1, 240, .inl (fun _ => 0))), (q2, .inl (n.2.2.1 1, 960, .inl (fun _ => 0))), (q3, .inl (n.2.2.1 0, 4, .inl (fun _ => 0))), (q4, .inl (n.2.2.1 0, 128, .inl (fun _ => 0))), (q5, .inl (n.2.2.1 0, 48, .inl (fun _ => 0))), (q6, .inl (n.2.2.1 0, 48, .inl (fun _ => 0))), (q7, .inl (n.2.2.1 0, 12, .inl (fun _ => 0))), (q8, .inl (n.2.2.1 0, 12, .inl (fun _ => 0))), (q9, .inl (n.2.2.1 0, 3, .inl (fun _ => 0))), (q10, .inl (n.2.2.1 0, 3, .inl (fun _ => 0))), (q11, .inl (n.2.2.1 0, 244, .inl (fun _ => 0)))]) (lst_set pre _ 0 _) ?_
  refine n_aloadn_0 dX11_init_113 ?_
  refine n_sipush 244 dX11_init_114 rfl ?_
  refine n_newa (ty := .int) (cA := n.2.2.1 0) (t0 := 0) 244 (244, .inl (fun _ => 0)) rfl tyd_0 (fun _ _ _ => ra_int) (fun _ => vc_int _ _) (by decide) rfl (by decide +kernel) ac_int (Nat.le_of_ble_eq_true rfl) (Nat.le_of_ble_eq_true rfl) dX11_init_117 (fun q12 => ?_)
  refine n_eq (ws' := pre ++ [(a, .inr (11, [.int 0, .ref q1, .ref q2, .ref q3, .ref q4, .ref q1, .int 0, .int 0, .int 0, .int 0, .int 0, .int 0, .int 0, .int 0, .int 0, .ref (n.2.2.2.2 0), .ref (n.2.2.2.2 1), .int 0, .ref q5, .ref q6, .ref q7, .ref q8, .ref q9, .ref q10, .int 0, .int 0, .int 0, .int 0, .int 0, .ref q11, .null, .int 0, .int 0, .long 0, .int 0, .int 0, .int 0, .null, .null, .int 0, .int 0, .int 0, .int 0, .null, .null, .int 0])), (q1, .inl (n.2.2.1 1, 240, .inl (fun _ => 0))), (q2, .inl (n.2.2.1 1, 960, .inl (fun _ => 0))), (q3, .inl (n.2.2.1 0, 4, .inl (fun _ => 0))), (q4, .inl (n.2.2.1 0, 128, .inl (fun _ => 0))), (q5, .inl (n.2.2.1 0, 48, .inl (fun _ => 0))), (q6, .inl (n.2.2.1 0, 48, .inl (fun _ => 0))), (q7, .inl (n.2.2.1 0, 12, .inl (fun _ => 0))), (q8, .inl (n.2.2.1 0, 12, .inl (fun _ => 0))), (q9, .inl (n.2.2.1 0, 3, .inl (fun _ => 0))), (q10, .inl (n.2.2.1 0, 3, .inl (fun _ => 0))), (q11, .inl (n.2.2.1 0, 244, .inl (fun _ => 0))), (q12, .inl (n.2.2.1 0, 244, .inl (fun _ => 0)))]) (List.append_assoc _ _ _) ?_
  refine n_putF (ty := (.array .int)) (x := .ref q12) (lst_get pre _ 0 rfl) fo_11_30 rfl tyX11 tyX11_ok nmX11 rfl rfl (by decide +kernel) rfl rfl (Nat.le_of_ble_eq_true rfl) dX11_init_119 ?_
  refine n_eq (ws' := pre ++ [(a, .inr (11, [.int 0, .ref q1, .ref q2, .ref q3, .ref q4, .ref q1, .int 0, .int 0, .int 0, .int 0, .int 0, .int 0, .int 0, .int 0, .int 0, .ref (n.2.2.2.2 0), .ref (n.2.2.2.2 1), .int 0, .ref q5, .ref q6, .ref q7, .ref q8, .ref q9, .ref q10, .int 0, .int 0, .int 0, .int 0, .int 0, .ref q11, .ref q12, .int 0, .int 0, .long 0, .int 0, .int 0, .int 0, .null, .null, .int 0, .int 0, .int 0, .int 0, .null, .null, .int 0])), (q1, .inl (n.2.2.1 1, 240, .inl (fun _ => 0))), (q2, .inl (n.2.2.1 1, 960, .inl (fun _ => 0))), (q3, .inl (n.2.2.1 0, 4, .inl (fun _ => 0))), (q4, .inl (n.2.2.1 0, 128, .inl (fun _ => 0))), (q5, .inl (n.2.2.1 0, 48, .inl (fun _ => 0))), (q6, .inl (n.2.2.1 0, 48, .inl (fun _ => 0))), (q7, .inl (n.2.2.1 0, 12, .inl (fun _ => 0))), (q8, .inl (n.2.2.1 0, 12, .inl (fun _ => 0))), (q9, .inl (n.2.2.1 0, 3, .inl (fun _ => 0))), (q10, .inl (n.2.2.1 0, 3, .inl (fun _ => 0))), (q11, .inl (n.2.2.1 0, 244, .inl (fun _ => 0))), (q12, .inl (n.2.2.1 0, 244, .inl (fun _ => 0)))]) (lst_set pre _ 0 _) ?_
  refine n_aloadn_0 dX11_init_122 ?_
  refine n_iconst (-1) dX11_init_123 rfl ?_
  refine n_put (ty := .int) (x := .int (-1)) (lst_get pre _ 0 rfl) fo_11_31 tyX11 tyX11_ok nmX11 rfl (by decide +kernel) rfl rfl (Nat.le_of_ble_eq_true rfl) dX11_init_124 ?_
  refine n_eq (ws' := pre ++ [(a, .inr (11, [.int 0, .ref q1, .ref q2, .ref q3, .ref q4, .ref q1, .int 0, .int 0, .int 0, .int 0, .int 0, .int 0, .int 0, .int 0, .int 0, .ref (n.2.2.2.2 0), .ref (n.2.2.2.2 1), .int 0, .ref q5, .ref q6, .ref q7, .ref q8, .ref q9, .ref q10, .int 0, .int 0, .int 0, .int 0, .int 0, .ref q11, .ref q12, .int (-1), .int 0, .long 0, .int 0, .int 0, .int 0, .null, .null, .int 0, .int 0, .int 0, .int 0, .null, .null, .int 0])), (q1, .inl (n.2.2.1 1, 240, .inl (fun _ => 0))), (q2, .inl (n.2.2.1 1, 960, .inl (fun _ => 0))), (q3, .inl (n.2.2.1 0, 4, .inl (fun _ => 0))), (q4, .inl (n.2.2.1 0, 128, .inl (fun _ => 0))), (q5, .inl (n.2.2.1 0, 48, .inl (fun _ => 0))), (q6, .inl (n.2.2.1 0, 48, .inl (fun _ => 0))), (q7, .inl (n.2.2.1 0, 12, .inl (fun _ => 0))), (q8, .inl (n.2.2.1 0, 12, .inl (fun _ => 0))), (q9, .inl (n.2.2.1 0, 3, .inl (fun _ => 0))), (q10, .inl (n.2.2.1 0, 3, .inl (fun _ => 0))), (q11, .inl (n.2.2.1 0, 244, .inl (fun _ => 0))), (q12, .inl (n.2.2.1 0, 244, .inl (fun _ => 0)))]) (lst_set pre _ 0 _) ?_
  refine n_aloadn_0 dX11_init_127 ?_
  refine n_iconst (-1) dX11_init_128 rfl ?_
  refine n_put (ty := .int) (x := .int (-1)) (lst_get pre _ 0 rfl) fo_11_34 tyX11 tyX11_ok nmX11 rfl (by decide +kernel) rfl rfl (Nat.le_of_ble_eq_true rfl) dX11_init_129 ?_
  refine n_eq (ws' := pre ++ [(a, .inr (11, [.int 0, .ref q1, .ref q2, .ref q3, .ref q4, .ref q1, .int 0, .int 0, .int 0, .int 0, .int 0, .int 0, .int 0, .int 0, .int 0, .ref (n.2.2.2.2 0), .ref (n.2.2.2.2 1), .int 0, .ref q5, .ref q6, .ref q7, .ref q8, .ref q9, .ref q10, .int 0, .int 0, .int 0, .int 0, .int 0, .ref q11, .ref q12, .int (-1), .int 0, .long 0, .int (-1), .int 0, .int 0, .null, .null, .int 0, .int 0, .int 0, .int 0, .null, .null, .int 0])), (q1, .inl (n.2.2.1 1, 240, .inl (fun _ => 0))), (q2, .inl (n.2.2.1 1, 960, .inl (fun _ => 0))), (q3, .inl (n.2.2.1 0, 4, .inl (fun _ => 0))), (q4, .inl (n.2.2.1 0, 128, .inl (fun _ => 0))), (q5, .inl (n.2.2.1 0, 48, .inl (fun _ => 0))), (q6, .inl (n.2.2.1 0, 48, .inl (fun _ => 0))), (q7, .inl (n.2.2.1 0, 12, .inl (fun _ => 0))), (q8, .inl (n.2.2.1 0, 12, .inl (fun _ => 0))), (q9, .inl (n.2.2.1 0, 3, .inl (fun _ => 0))), (q10, .inl (n.2.2.1 0, 3, .inl (fun _ => 0))), (q11, .inl (n.2.2.1 0, 244, .inl (fun _ => 0))), (q12, .inl (n.2.2.1 0, 244, .inl (fun _ => 0)))]) (lst_set pre _ 0 _) ?_
  refine n_aloadn_0 dX11_init_132 ?_
  refine n_iconst 3 dX11_init_133 rfl ?_
  refine n_newa (ty := .int) (cA := n.2.2.1 0) (t0 := 0) 3 (3, .inl (fun _ => 0)) rfl tyd_0 (fun _ _ _ => ra_int) (fun _ => vc_int _ _) (by decide) rfl (by decide +kernel) ac_int (Nat.le_of_ble_eq_true rfl) (Nat.le_of_ble_eq_true rfl) dX11_init_134 (fun q13 => ?_)
  refine n_eq (ws' := pre ++ [(a, .inr (11, [.int 0, .ref q1, .ref q2, .ref q3, .ref q4, .ref q1, .int 0, .int 0, .int 0, .int 0, .int 0, .int 0, .int 0, .int 0, .int 0, .ref (n.2.2.2.2 0), .ref (n.2.2.2.2 1), .int 0, .ref q5, .ref q6, .ref q7, .ref q8, .ref q9, .ref q10, .int 0, .int 0, .int 0, .int 0, .int 0, .ref q11, .ref q12, .int (-1), .int 0, .long 0, .int (-1), .int 0, .int 0, .null, .null, .int 0, .int 0, .int 0, .int 0, .null, .null, .int 0])), (q1, .inl (n.2.2.1 1, 240, .inl (fun _ => 0))), (q2, .inl (n.2.2.1 1, 960, .inl (fun _ => 0))), (q3, .inl (n.2.2.1 0, 4, .inl (fun _ => 0))), (q4, .inl (n.2.2.1 0, 128, .inl (fun _ => 0))), (q5, .inl (n.2.2.1 0, 48, .inl (fun _ => 0))), (q6, .inl (n.2.2.1 0, 48, .inl (fun _ => 0))), (q7, .inl (n.2.2.1 0, 12, .inl (fun _ => 0))), (q8, .inl (n.2.2.1 0, 12, .inl (fun _ => 0))), (q9, .inl (n.2.2.1 0, 3, .inl (fun _ => 0))), (q10, .inl (n.2.2.1 0, 3, .inl (fun _ => 0))), (q11, .inl (n.2.2.1 0, 244, .inl (fun _ => 0))), (q12, .inl (n.2.2.1 0, 244, .inl (fun _ => 0))), (q13, .inl (n.2.2.1 0, 3, .inl (fun _ => 0)))]) (List.append_assoc _ _ _) ?_
  refine n_putF (ty := (.array .int)) (x := .ref q13) (lst_get pre _ 0 rfl) fo_11_37 rfl tyX11 tyX11_ok nmX11 rfl rfl (by decide +kernel) rfl rfl (Nat.le_of_ble_eq_true rfl) dX11_init_136 ?_
  refine n_eq (ws' := pre ++ [(a, .inr (11, [.int 0, .ref q1, .ref q2, .ref q3, .ref q4, .ref q1, .int 0, .int 0, .int 0, .int 0, .int 0, .int 0, .int 0, .int 0, .int 0, .ref (n.2.2.2.2 0), .ref (n.2.2.2.2 1), .int 0, .ref q5, .ref q6, .ref q7, .ref q8, .ref q9, .ref q10, .int 0, .int 0, .int 0, .int 0, .int 0, .ref q11, .ref q12, .int (-1), .int 0, .long 0, .int (-1), .int 0, .int 0, .ref q13, .null, .int 0, .int 0, .int 0, .int 0, .null, .null, .int 0])), (q1, .inl (n.2.2.1 1, 240, .inl (fun _ => 0))), (q2, .inl (n.2.2.1 1, 960, .inl (fun _ => 0))), (q3, .inl (n.2.2.1 0, 4, .inl (fun _ => 0))), (q4, .inl (n.2.2.1 0, 128, .inl (fun _ => 0))), (q5, .inl (n.2.2.1 0, 48, .inl (fun _ => 0))), (q6, .inl (n.2.2.1 0, 48, .inl (fun _ => 0))), (q7, .inl (n.2.2.1 0, 12, .inl (fun _ => 0))), (q8, .inl (n.2.2.1 0, 12, .inl (fun _ => 0))), (q9, .inl (n.2.2.1 0, 3, .inl (fun _ => 0))), (q10, .inl (n.2.2.1 0, 3, .inl (fun _ => 0))), (q11, .inl (n.2.2.1 0, 244, .inl (fun _ => 0))), (q12, .inl (n.2.2.1 0, 244, .inl (fun _ => 0))), (q13, .inl (n.2.2.1 0, 3, .inl (fun _ => 0)))]) (lst_set pre _ 0 _) ?_
  refine n_aloadn_0 dX11_init_139 ?_
  refine n_sipush 9760 dX11_init_140 rfl ?_
  refine n_newa (ty := .int) (cA := n.2.2.1 0) (t0 := 0) 9760 (9760, .inl (fun _ => 0)) rfl tyd_0 (fun _ _ _ => ra_int) (fun _ => vc_int _ _) (by decide) rfl (by decide +kernel) ac_int (Nat.le_of_ble_eq_true rfl) (Nat.le_of_ble_eq_true rfl) dX11_init_143 (fun q14 => ?_)
  refine n_eq (ws' := pre ++ [(a, .inr (11, [.int 0, .ref q1, .ref q2, .ref q3, .ref q4, .ref q1, .int 0, .int 0, .int 0, .int 0, .int 0, .int 0, .int 0, .int 0, .int 0, .ref (n.2.2.2.2 0), .ref (n.2.2.2.2 1), .int 0, .ref q5, .ref q6, .ref q7, .ref q8, .ref q9, .ref q10, .int 0, .int 0, .int 0, .int 0, .int 0, .ref q11, .ref q12, .int (-1), .int 0, .long 0, .int (-1), .int 0, .int 0, .ref q13, .null, .int 0, .int 0, .int 0, .int 0, .null, .null, .int 0])), (q1, .inl (n.2.2.1 1, 240, .inl (fun _ => 0))), (q2, .inl (n.2.2.1 1, 960, .inl (fun _ => 0))), (q3, .inl (n.2.2.1 0, 4, .inl (fun _ => 0))), (q4, .inl (n.2.2.1 0, 128, .inl (fun _ => 0))), (q5, .inl (n.2.2.1 0, 48, .inl (fun _ => 0))), (q6, .inl (n.2.2.1 0, 48, .inl (fun _ => 0))), (q7, .inl (n.2.2.1 0, 12, .inl (fun _ => 0))), (q8, .inl (n.2.2.1 0, 12, .inl (fun _ => 0))), (q9, .inl (n.2.2.1 0, 3, .inl (fun _ => 0))), (q10, .inl (n.2.2.1 0, 3, .inl (fun _ => 0))), (q11, .inl (n.2.2.1 0, 244, .inl (fun _ => 0))), (q12, .inl (n.2.2.1 0, 244, .inl (fun _ => 0))), (q13, .inl (n.2.2.1 0, 3, .inl (fun _ => 0))), (q14, .inl (n.2.2.1 0, 9760, .inl (fun _ => 0)))]) (List.append_assoc _ _ _) ?_
  refine n_putF (ty := (.array .int)) (x := .ref q14) (lst_get pre _ 0 rfl) fo_11_38 rfl tyX11 tyX11_ok nmX11 rfl rfl (by decide +kernel) rfl rfl (Nat.le_of_ble_eq_true rfl) dX11_init_145 ?_
  refine n_eq (ws' := pre ++ [(a, .inr (11, [.int 0, .ref q1, .ref q2, .ref q3, .ref q4, .ref q1, .int 0, .int 0, .int 0, .int 0, .int 0, .int 0, .int 0, .int 0, .int 0, .ref (n.2.2.2.2 0), .ref (n.2.2.2.2 1), .int 0, .ref q5, .ref q6, .ref q7, .ref q8, .ref q9, .ref q10, .int 0, .int 0, .int 0, .int 0, .int 0, .ref q11, .ref q12, .int (-1), .int 0, .long 0, .int (-1), .int 0, .int 0, .ref q13, .ref q14, .int 0, .int 0, .int 0, .int 0, .null, .null, .int 0])), (q1, .inl (n.2.2.1 1, 240, .inl (fun _ => 0))), (q2, .inl (n.2.2.1 1, 960, .inl (fun _ => 0))), (q3, .inl (n.2.2.1 0, 4, .inl (fun _ => 0))), (q4, .inl (n.2.2.1 0, 128, .inl (fun _ => 0))), (q5, .inl (n.2.2.1 0, 48, .inl (fun _ => 0))), (q6, .inl (n.2.2.1 0, 48, .inl (fun _ => 0))), (q7, .inl (n.2.2.1 0, 12, .inl (fun _ => 0))), (q8, .inl (n.2.2.1 0, 12, .inl (fun _ => 0))), (q9, .inl (n.2.2.1 0, 3, .inl (fun _ => 0))), (q10, .inl (n.2.2.1 0, 3, .inl (fun _ => 0))), (q11, .inl (n.2.2.1 0, 244, .inl (fun _ => 0))), (q12, .inl (n.2.2.1 0, 244, .inl (fun _ => 0))), (q13, .inl (n.2.2.1 0, 3, .inl (fun _ => 0))), (q14, .inl (n.2.2.1 0, 9760, .inl (fun _ => 0)))]) (lst_set pre _ 0 _) ?_
  refine n_aloadn_0 dX11_init_148 ?_
  refine n_bipush 64 dX11_init_149 rfl ?_
  refine n_newa (ty := .int) (cA := n.2.2.1 0) (t0 := 0) 64 (64, .inl (fun _ => 0)) rfl tyd_0 (fun _ _ _ => ra_int) (fun _ => vc_int _ _) (by decide) rfl (by decide +kernel) ac_int (Nat.le_of_ble_eq_true rfl) (Nat.le_of_ble_eq_true rfl) dX11_init_151 (fun q15 => ?_)
  refine n_eq (ws' := pre ++ [(a, .inr (11, [.int 0, .ref q1, .ref q2, .ref q3, .ref q4, .ref q1, .int 0, .int 0, .int 0, .int 0, .int 0, .int 0, .int 0, .int 0, .int 0, .ref (n.2.2.2.2 0), .ref (n.2.2.2.2 1), .int 0, .ref q5, .ref q6, .ref q7, .ref q8, .ref q9, .ref q10, .int 0, .int 0, .int 0, .int 0, .int 0, .ref q11, .ref q12, .int (-1), .int 0, .long 0, .int (-1), .int 0, .int 0, .ref q13, .ref q14, .int 0, .int 0, .int 0, .int 0, .null, .null, .int 0])), (q1, .inl (n.2.2.1 1, 240, .inl (fun _ => 0))), (q2, .inl (n.2.2.1 1, 960, .inl (fun _ => 0))), (q3, .inl (n.2.2.1 0, 4, .inl (fun _ => 0))), (q4, .inl (n.2.2.1 0, 128, .inl (fun _ => 0))), (q5, .inl (n.2.2.1 0, 48, .inl (fun _ => 0))), (q6, .inl (n.2.2.1 0, 48, .inl (fun _ => 0))), (q7, .inl (n.2.2.1 0, 12, .inl (fun _ => 0))), (q8, .inl (n.2.2.1 0, 12, .inl (fun _ => 0))), (q9, .inl (n.2.2.1 0, 3, .inl (fun _ => 0))), (q10, .inl (n.2.2.1 0, 3, .inl (fun _ => 0))), (q11, .inl (n.2.2.1 0, 244, .inl (fun _ => 0))), (q12, .inl (n.2.2.1 0, 244, .inl (fun _ => 0))), (q13, .inl (n.2.2.1 0, 3, .inl (fun _ => 0))), (q14, .inl (n.2.2.1 0, 9760, .inl (fun _ => 0))), (q15, .inl (n.2.2.1 0, 64, .inl (fun _ => 0)))]) (List.append_assoc _ _ _) ?_
  refine n_putF (ty := (.array .int)) (x := .ref q15) (lst_get pre _ 0 rfl) fo_11_43 rfl tyX11 tyX11_ok nmX11 rfl rfl (by decide +kernel) rfl rfl (Nat.le_of_ble_eq_true rfl) dX11_init_153 ?_
  refine n_eq (ws' := pre ++ [(a, .inr (11, [.int 0, .ref q1, .ref q2, .ref q3, .ref q4, .ref q1, .int 0, .int 0, .int 0, .int 0, .int 0, .int 0, .int 0, .int 0, .int 0, .ref (n.2.2.2.2 0), .ref (n.2.2.2.2 1), .int 0, .ref q5, .ref q6, .ref q7, .ref q8, .ref q9, .ref q10, .int 0, .int 0, .int 0, .int 0, .int 0, .ref q11, .ref q12, .int (-1), .int 0, .long 0, .int (-1), .int 0, .int 0, .ref q13, .ref q14, .int 0, .int 0, .int 0, .int 0, .ref q15, .null, .int 0])), (q1, .inl (n.2.2.1 1, 240, .inl (fun _ => 0))), (q2, .inl (n.2.2.1 1, 960, .inl (fun _ => 0))), (q3, .inl (n.2.2.1 0, 4, .inl (fun _ => 0))), (q4, .inl (n.2.2.1 0, 128, .inl (fun _ => 0))), (q5, .inl (n.2.2.1 0, 48, .inl (fun _ => 0))), (q6, .inl (n.2.2.1 0, 48, .inl (fun _ => 0))), (q7, .inl (n.2.2.1 0, 12, .inl (fun _ => 0))), (q8, .inl (n.2.2.1 0, 12, .inl (fun _ => 0))), (q9, .inl (n.2.2.1 0, 3, .inl (fun _ => 0))), (q10, .inl (n.2.2.1 0, 3, .inl (fun _ => 0))), (q11, .inl (n.2.2.1 0, 244, .inl (fun _ => 0))), (q12, .inl (n.2.2.1 0, 244, .inl (fun _ => 0))), (q13, .inl (n.2.2.1 0, 3, .inl (fun _ => 0))), (q14, .inl (n.2.2.1 0, 9760, .inl (fun _ => 0))), (q15, .inl (n.2.2.1 0, 64, .inl (fun _ => 0)))]) (lst_set pre _ 0 _) ?_
  refine n_aloadn_0 dX11_init_156 ?_
  refine n_sipush 244 dX11_init_157 rfl ?_
  refine n_newa (ty := .int) (cA := n.2.2.1 0) (t0 := 0) 244 (244, .inl (fun _ => 0)) rfl tyd_0 (fun _ _ _ => ra_int) (fun _ => vc_int _ _) (by decide) rfl (by decide +kernel) ac_int (Nat.le_of_ble_eq_true rfl) (Nat.le_of_ble_eq_true rfl) dX11_init_160 (fun q16 => ?_)
  refine n_eq (ws' := pre ++ [(a, .inr (11, [.int 0, .ref q1, .ref q2, .ref q3, .ref q4, .ref q1, .int 0, .int 0, .int 0, .int 0, .int 0, .int 0, .int 0, .int 0, .int 0, .ref (n.2.2.2.2 0), .ref (n.2.2.2.2 1), .int 0, .ref q5, .ref q6, .ref q7, .ref q8, .ref q9, .ref q10, .int 0, .int 0, .int 0, .int 0, .int 0, .ref q11, .ref q12, .int (-1), .int 0, .long 0, .int (-1), .int 0, .int 0, .ref q13, .ref q14, .int 0, .int 0, .int 0, .int 0, .ref q15, .null, .int 0])), (q1, .inl (n.2.2.1 1, 240, .inl (fun _ => 0))), (q2, .inl (n.2.2.1 1, 960, .inl (fun _ => 0))), (q3, .inl (n.2.2.1 0, 4, .inl (fun _ => 0))), (q4, .inl (n.2.2.1 0, 128, .inl (fun _ => 0))), (q5, .inl (n.2.2.1 0, 48, .inl (fun _ => 0))), (q6, .inl (n.2.2.1 0, 48, .inl (fun _ => 0))), (q7, .inl (n.2.2.1 0, 12, .inl (fun _ => 0))), (q8, .inl (n.2.2.1 0, 12, .inl (fun _ => 0))), (q9, .inl (n.2.2.1 0, 3, .inl (fun _ => 0))), (q10, .inl (n.2.2.1 0, 3, .inl (fun _ => 0))), (q11, .inl (n.2.2.1 0, 244, .inl (fun _ => 0))), (q12, .inl (n.2.2.1 0, 244, .inl (fun _ => 0))), (q13, .inl (n.2.2.1 0, 3, .inl (fun _ => 0))), (q14, .inl (n.2.2.1 0, 9760, .inl (fun _ => 0))), (q15, .inl (n.2.2.1 0, 64, .inl (fun _ => 0))), (q16, .inl (n.2.2.1 0, 244, .inl (fun _ => 0)))]) (List.append_assoc _ _ _) ?_
  refine n_putF (ty := (.array .int)) (x := .ref q16) (lst_get pre _ 0 rfl) fo_11_44 rfl tyX11 tyX11_ok nmX11 rfl rfl (by decide +kernel) rfl rfl (Nat.le_of_ble_eq_true rfl) dX11_init_162 ?_
  refine n_eq (ws' := pre ++ [(a, .inr (11, [.int 0, .ref q1, .ref q2, .ref q3, .ref q4, .ref q1, .int 0, .int 0, .int 0, .int 0, .int 0, .int 0, .int 0, .int 0, .int 0, .ref (n.2.2.2.2 0), .ref (n.2.2.2.2 1), .int 0, .ref q5, .ref q6, .ref q7, .ref q8, .ref q9, .ref q10, .int 0, .int 0, .int 0, .int 0, .int 0, .ref q11, .ref q12, .int (-1), .int 0, .long 0, .int (-1), .int 0, .int 0, .ref q13, .ref q14, .int 0, .int 0, .int 0, .int 0, .ref q15, .ref q16, .int 0])), (q1, .inl (n.2.2.1 1, 240, .inl (fun _ => 0))), (q2, .inl (n.2.2.1 1, 960, .inl (fun _ => 0))), (q3, .inl (n.2.2.1 0, 4, .inl (fun _ => 0))), (q4, .inl (n.2.2.1 0, 128, .inl (fun _ => 0))), (q5, .inl (n.2.2.1 0, 48, .inl (fun _ => 0))), (q6, .inl (n.2.2.1 0, 48, .inl (fun _ => 0))), (q7, .inl (n.2.2.1 0, 12, .inl (fun _ => 0))), (q8, .inl (n.2.2.1 0, 12, .inl (fun _ => 0))), (q9, .inl (n.2.2.1 0, 3, .inl (fun _ => 0))), (q10, .inl (n.2.2.1 0, 3, .inl (fun _ => 0))), (q11, .inl (n.2.2.1 0, 244, .inl (fun _ => 0))), (q12, .inl (n.2.2.1 0, 244, .inl (fun _ => 0))), (q13, .inl (n.2.2.1 0, 3, .inl (fun _ => 0))), (q14, .inl (n.2.2.1 0, 9760, .inl (fun _ => 0))), (q15, .inl (n.2.2.1 0, 64, .inl (fun _ => 0))), (q16, .inl (n.2.2.1 0, 244, .inl (fun _ => 0)))]) (lst_set pre _ 0 _) ?_
  exact n_vret ⟨q1, q2, q3, q4, q5, q6, q7, q8, q9, q10, q11, q12, q13, q14, q15, q16, rfl⟩ (Nat.le_of_ble_eq_true rfl) (Nat.le_of_ble_eq_true rfl) dX11_init_165
