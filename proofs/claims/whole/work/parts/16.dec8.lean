/-! decode rows of the reference and of the JDK -/
theorem dJ0_length_8abf5_0 : decode cJ0_length_8abf5 0 = .ok (.aload_n 0, 1) := by decide +kernel
theorem dJ0_length_8abf5_1 : decode cJ0_length_8abf5 1 = .ok (.getfield 9, 3) := by decide +kernel
theorem dJ0_length_8abf5_4 : decode cJ0_length_8abf5 4 = .ok (.arraylength, 1) := by decide +kernel
theorem dJ0_length_8abf5_5 : decode cJ0_length_8abf5 5 = .ok (.aload_n 0, 1) := by decide +kernel
theorem dJ0_length_8abf5_6 : decode cJ0_length_8abf5 6 = .ok (.invokevirtual 335, 3) := by decide +kernel
theorem dJ0_length_8abf5_9 : decode cJ0_length_8abf5 9 = .ok (.ishr, 1) := by decide +kernel
theorem dJ0_length_8abf5_10 : decode cJ0_length_8abf5 10 = .ok (.ireturn, 1) := by decide +kernel
theorem dJ0_charAt_5068e_0 : decode cJ0_charAt_5068e 0 = .ok (.aload_n 0, 1) := by decide +kernel
theorem dJ0_charAt_5068e_1 : decode cJ0_charAt_5068e 1 = .ok (.invokevirtual 492, 3) := by decide +kernel
theorem dJ0_charAt_5068e_4 : decode cJ0_charAt_5068e 4 = .ok (.ifCond .eq 12, 3) := by decide +kernel
theorem dJ0_charAt_5068e_7 : decode cJ0_charAt_5068e 7 = .ok (.aload_n 0, 1) := by decide +kernel
theorem dJ0_charAt_5068e_8 : decode cJ0_charAt_5068e 8 = .ok (.getfield 9, 3) := by decide +kernel
theorem dJ0_charAt_5068e_11 : decode cJ0_charAt_5068e 11 = .ok (.iload_n 1, 1) := by decide +kernel
theorem dJ0_charAt_5068e_12 : decode cJ0_charAt_5068e 12 = .ok (.invokestatic 495, 3) := by decide +kernel
theorem dJ0_charAt_5068e_15 : decode cJ0_charAt_5068e 15 = .ok (.ireturn, 1) := by decide +kernel
theorem dJ0_charAt_5068e_16 : decode cJ0_charAt_5068e 16 = .ok (.aload_n 0, 1) := by decide +kernel
theorem dJ0_charAt_5068e_17 : decode cJ0_charAt_5068e 17 = .ok (.getfield 9, 3) := by decide +kernel
theorem dJ0_charAt_5068e_20 : decode cJ0_charAt_5068e 20 = .ok (.iload_n 1, 1) := by decide +kernel
theorem dJ0_charAt_5068e_21 : decode cJ0_charAt_5068e 21 = .ok (.invokestatic 498, 3) := by decide +kernel
theorem dJ0_charAt_5068e_24 : decode cJ0_charAt_5068e 24 = .ok (.ireturn, 1) := by decide +kernel
theorem dJ0_coder_7d493_0 : decode cJ0_coder_7d493 0 = .ok (.getstatic 38, 3) := by decide +kernel
theorem dJ0_coder_7d493_3 : decode cJ0_coder_7d493 3 = .ok (.ifCond .eq 10, 3) := by decide +kernel
theorem dJ0_coder_7d493_6 : decode cJ0_coder_7d493 6 = .ok (.aload_n 0, 1) := by decide +kernel
theorem dJ0_coder_7d493_7 : decode cJ0_coder_7d493 7 = .ok (.getfield 15, 3) := by decide +kernel
theorem dJ0_coder_7d493_10 : decode cJ0_coder_7d493 10 = .ok (.goto 4, 3) := by decide +kernel
theorem dJ0_coder_7d493_13 : decode cJ0_coder_7d493 13 = .ok (.iconst 1, 1) := by decide +kernel
theorem dJ0_coder_7d493_14 : decode cJ0_coder_7d493 14 = .ok (.ireturn, 1) := by decide +kernel
theorem dJ0_isLatin1_aae02_0 : decode cJ0_isLatin1_aae02 0 = .ok (.getstatic 38, 3) := by decide +kernel
theorem dJ0_isLatin1_aae02_3 : decode cJ0_isLatin1_aae02 3 = .ok (.ifCond .eq 14, 3) := by decide +kernel
theorem dJ0_isLatin1_aae02_6 : decode cJ0_isLatin1_aae02 6 = .ok (.aload_n 0, 1) := by decide +kernel
theorem dJ0_isLatin1_aae02_7 : decode cJ0_isLatin1_aae02 7 = .ok (.getfield 15, 3) := by decide +kernel
theorem dJ0_isLatin1_aae02_10 : decode cJ0_isLatin1_aae02 10 = .ok (.ifCond .ne 7, 3) := by decide +kernel
theorem dJ0_isLatin1_aae02_13 : decode cJ0_isLatin1_aae02 13 = .ok (.iconst 1, 1) := by decide +kernel
theorem dJ0_isLatin1_aae02_14 : decode cJ0_isLatin1_aae02 14 = .ok (.goto 4, 3) := by decide +kernel
theorem dJ0_isLatin1_aae02_17 : decode cJ0_isLatin1_aae02 17 = .ok (.iconst 0, 1) := by decide +kernel
theorem dJ0_isLatin1_aae02_18 : decode cJ0_isLatin1_aae02 18 = .ok (.ireturn, 1) := by decide +kernel
theorem dJ0_checkIndex_df160_0 : decode cJ0_checkIndex_df160 0 = .ok (.iload_n 0, 1) := by decide +kernel
theorem dJ0_checkIndex_df160_1 : decode cJ0_checkIndex_df160 1 = .ok (.iload_n 1, 1) := by decide +kernel
theorem dJ0_checkIndex_df160_2 : decode cJ0_checkIndex_df160 2 = .ok (.getstatic 1053, 3) := by decide +kernel
theorem dJ0_checkIndex_df160_5 : decode cJ0_checkIndex_df160 5 = .ok (.invokestatic 1059, 3) := by decide +kernel
theorem dJ0_checkIndex_df160_8 : decode cJ0_checkIndex_df160 8 = .ok (.pop, 1) := by decide +kernel
theorem dJ0_checkIndex_df160_9 : decode cJ0_checkIndex_df160 9 = .ok (.return_, 1) := by decide +kernel
theorem dJ1_charAt_3b067_0 : decode cJ1_charAt_3b067 0 = .ok (.iload_n 1, 1) := by decide +kernel
theorem dJ1_charAt_3b067_1 : decode cJ1_charAt_3b067 1 = .ok (.aload_n 0, 1) := by decide +kernel
theorem dJ1_charAt_3b067_2 : decode cJ1_charAt_3b067 2 = .ok (.arraylength, 1) := by decide +kernel
theorem dJ1_charAt_3b067_3 : decode cJ1_charAt_3b067 3 = .ok (.invokestatic 9, 3) := by decide +kernel
theorem dJ1_charAt_3b067_6 : decode cJ1_charAt_3b067 6 = .ok (.aload_n 0, 1) := by decide +kernel
theorem dJ1_charAt_3b067_7 : decode cJ1_charAt_3b067 7 = .ok (.iload_n 1, 1) := by decide +kernel
theorem dJ1_charAt_3b067_8 : decode cJ1_charAt_3b067 8 = .ok (.baload, 1) := by decide +kernel
theorem dJ1_charAt_3b067_9 : decode cJ1_charAt_3b067 9 = .ok (.sipush 255, 3) := by decide +kernel
theorem dJ1_charAt_3b067_12 : decode cJ1_charAt_3b067 12 = .ok (.iand, 1) := by decide +kernel
theorem dJ1_charAt_3b067_13 : decode cJ1_charAt_3b067 13 = .ok (.i2c, 1) := by decide +kernel
theorem dJ1_charAt_3b067_14 : decode cJ1_charAt_3b067 14 = .ok (.ireturn, 1) := by decide +kernel
theorem dJ3_checkIndex_8e157_0 : decode cJ3_checkIndex_8e157 0 = .ok (.iload_n 0, 1) := by decide +kernel
theorem dJ3_checkIndex_8e157_1 : decode cJ3_checkIndex_8e157 1 = .ok (.ifCond .lt 8, 3) := by decide +kernel
theorem dJ3_checkIndex_8e157_4 : decode cJ3_checkIndex_8e157 4 = .ok (.iload_n 0, 1) := by decide +kernel
theorem dJ3_checkIndex_8e157_5 : decode cJ3_checkIndex_8e157 5 = .ok (.iload_n 1, 1) := by decide +kernel
theorem dJ3_checkIndex_8e157_6 : decode cJ3_checkIndex_8e157 6 = .ok (.if_icmp .lt 10, 3) := by decide +kernel
theorem dJ3_checkIndex_8e157_9 : decode cJ3_checkIndex_8e157 9 = .ok (.aload_n 2, 1) := by decide +kernel
theorem dJ3_checkIndex_8e157_10 : decode cJ3_checkIndex_8e157 10 = .ok (.iload_n 0, 1) := by decide +kernel
theorem dJ3_checkIndex_8e157_11 : decode cJ3_checkIndex_8e157 11 = .ok (.iload_n 1, 1) := by decide +kernel
theorem dJ3_checkIndex_8e157_12 : decode cJ3_checkIndex_8e157 12 = .ok (.invokestatic 95, 3) := by decide +kernel
theorem dJ3_checkIndex_8e157_15 : decode cJ3_checkIndex_8e157 15 = .ok (.athrow, 1) := by decide +kernel
theorem dJ3_checkIndex_8e157_16 : decode cJ3_checkIndex_8e157 16 = .ok (.iload_n 0, 1) := by decide +kernel
theorem dJ3_checkIndex_8e157_17 : decode cJ3_checkIndex_8e157 17 = .ok (.ireturn, 1) := by decide +kernel
theorem dJ6_bitCount_0f7a4_0 : decode cJ6_bitCount_0f7a4 0 = .ok (.iload_n 0, 1) := by decide +kernel
theorem dJ6_bitCount_0f7a4_1 : decode cJ6_bitCount_0f7a4 1 = .ok (.iload_n 0, 1) := by decide +kernel
theorem dJ6_bitCount_0f7a4_2 : decode cJ6_bitCount_0f7a4 2 = .ok (.iconst 1, 1) := by decide +kernel
theorem dJ6_bitCount_0f7a4_3 : decode cJ6_bitCount_0f7a4 3 = .ok (.iushr, 1) := by decide +kernel
theorem dJ6_bitCount_0f7a4_4 : decode cJ6_bitCount_0f7a4 4 = .ok (.ldc_w 265, 3) := by decide +kernel
theorem dJ6_bitCount_0f7a4_7 : decode cJ6_bitCount_0f7a4 7 = .ok (.iand, 1) := by decide +kernel
theorem dJ6_bitCount_0f7a4_8 : decode cJ6_bitCount_0f7a4 8 = .ok (.isub, 1) := by decide +kernel
theorem dJ6_bitCount_0f7a4_9 : decode cJ6_bitCount_0f7a4 9 = .ok (.istore_n 0, 1) := by decide +kernel
theorem dJ6_bitCount_0f7a4_10 : decode cJ6_bitCount_0f7a4 10 = .ok (.iload_n 0, 1) := by decide +kernel
theorem dJ6_bitCount_0f7a4_11 : decode cJ6_bitCount_0f7a4 11 = .ok (.ldc_w 266, 3) := by decide +kernel
theorem dJ6_bitCount_0f7a4_14 : decode cJ6_bitCount_0f7a4 14 = .ok (.iand, 1) := by decide +kernel
theorem dJ6_bitCount_0f7a4_15 : decode cJ6_bitCount_0f7a4 15 = .ok (.iload_n 0, 1) := by decide +kernel
theorem dJ6_bitCount_0f7a4_16 : decode cJ6_bitCount_0f7a4 16 = .ok (.iconst 2, 1) := by decide +kernel
theorem dJ6_bitCount_0f7a4_17 : decode cJ6_bitCount_0f7a4 17 = .ok (.iushr, 1) := by decide +kernel
theorem dJ6_bitCount_0f7a4_18 : decode cJ6_bitCount_0f7a4 18 = .ok (.ldc_w 266, 3) := by decide +kernel
theorem dJ6_bitCount_0f7a4_21 : decode cJ6_bitCount_0f7a4 21 = .ok (.iand, 1) := by decide +kernel
theorem dJ6_bitCount_0f7a4_22 : decode cJ6_bitCount_0f7a4 22 = .ok (.iadd, 1) := by decide +kernel
theorem dJ6_bitCount_0f7a4_23 : decode cJ6_bitCount_0f7a4 23 = .ok (.istore_n 0, 1) := by decide +kernel
theorem dJ6_bitCount_0f7a4_24 : decode cJ6_bitCount_0f7a4 24 = .ok (.iload_n 0, 1) := by decide +kernel
theorem dJ6_bitCount_0f7a4_25 : decode cJ6_bitCount_0f7a4 25 = .ok (.iload_n 0, 1) := by decide +kernel
theorem dJ6_bitCount_0f7a4_26 : decode cJ6_bitCount_0f7a4 26 = .ok (.iconst 4, 1) := by decide +kernel
theorem dJ6_bitCount_0f7a4_27 : decode cJ6_bitCount_0f7a4 27 = .ok (.iushr, 1) := by decide +kernel
theorem dJ6_bitCount_0f7a4_28 : decode cJ6_bitCount_0f7a4 28 = .ok (.iadd, 1) := by decide +kernel
theorem dJ6_bitCount_0f7a4_29 : decode cJ6_bitCount_0f7a4 29 = .ok (.ldc_w 267, 3) := by decide +kernel
theorem dJ6_bitCount_0f7a4_32 : decode cJ6_bitCount_0f7a4 32 = .ok (.iand, 1) := by decide +kernel
theorem dJ6_bitCount_0f7a4_33 : decode cJ6_bitCount_0f7a4 33 = .ok (.istore_n 0, 1) := by decide +kernel
theorem dJ6_bitCount_0f7a4_34 : decode cJ6_bitCount_0f7a4 34 = .ok (.iload_n 0, 1) := by decide +kernel
theorem dJ6_bitCount_0f7a4_35 : decode cJ6_bitCount_0f7a4 35 = .ok (.iload_n 0, 1) := by decide +kernel
theorem dJ6_bitCount_0f7a4_36 : decode cJ6_bitCount_0f7a4 36 = .ok (.bipush 8, 2) := by decide +kernel
theorem dJ6_bitCount_0f7a4_38 : decode cJ6_bitCount_0f7a4 38 = .ok (.iushr, 1) := by decide +kernel
theorem dJ6_bitCount_0f7a4_39 : decode cJ6_bitCount_0f7a4 39 = .ok (.iadd, 1) := by decide +kernel
theorem dJ6_bitCount_0f7a4_40 : decode cJ6_bitCount_0f7a4 40 = .ok (.istore_n 0, 1) := by decide +kernel
theorem dJ6_bitCount_0f7a4_41 : decode cJ6_bitCount_0f7a4 41 = .ok (.iload_n 0, 1) := by decide +kernel
theorem dJ6_bitCount_0f7a4_42 : decode cJ6_bitCount_0f7a4 42 = .ok (.iload_n 0, 1) := by decide +kernel
theorem dJ6_bitCount_0f7a4_43 : decode cJ6_bitCount_0f7a4 43 = .ok (.bipush 16, 2) := by decide +kernel
theorem dJ6_bitCount_0f7a4_45 : decode cJ6_bitCount_0f7a4 45 = .ok (.iushr, 1) := by decide +kernel
theorem dJ6_bitCount_0f7a4_46 : decode cJ6_bitCount_0f7a4 46 = .ok (.iadd, 1) := by decide +kernel
theorem dJ6_bitCount_0f7a4_47 : decode cJ6_bitCount_0f7a4 47 = .ok (.istore_n 0, 1) := by decide +kernel
theorem dJ6_bitCount_0f7a4_48 : decode cJ6_bitCount_0f7a4 48 = .ok (.iload_n 0, 1) := by decide +kernel
theorem dJ6_bitCount_0f7a4_49 : decode cJ6_bitCount_0f7a4 49 = .ok (.bipush 63, 2) := by decide +kernel
theorem dJ6_bitCount_0f7a4_51 : decode cJ6_bitCount_0f7a4 51 = .ok (.iand, 1) := by decide +kernel
theorem dJ6_bitCount_0f7a4_52 : decode cJ6_bitCount_0f7a4 52 = .ok (.ireturn, 1) := by decide +kernel
theorem dX8_init_0 : decode cX8_init 0 = .ok (.aload_n 0, 1) := by decide +kernel
theorem dX8_init_1 : decode cX8_init 1 = .ok (.invokespecial 3, 3) := by decide +kernel
theorem dX8_init_4 : decode cX8_init 4 = .ok (.aload_n 0, 1) := by decide +kernel
theorem dX8_init_5 : decode cX8_init 5 = .ok (.bipush 77, 2) := by decide +kernel
theorem dX8_init_7 : decode cX8_init 7 = .ok (.newarray .int, 2) := by decide +kernel
theorem dX8_init_9 : decode cX8_init 9 = .ok (.putfield 9, 3) := by decide +kernel
theorem dX8_init_12 : decode cX8_init 12 = .ok (.aload_n 0, 1) := by decide +kernel
theorem dX8_init_13 : decode cX8_init 13 = .ok (.bipush 77, 2) := by decide +kernel
theorem dX8_init_15 : decode cX8_init 15 = .ok (.newarray .int, 2) := by decide +kernel
theorem dX8_init_17 : decode cX8_init 17 = .ok (.putfield 13, 3) := by decide +kernel
theorem dX8_init_20 : decode cX8_init 20 = .ok (.aload_n 0, 1) := by decide +kernel
theorem dX8_init_21 : decode cX8_init 21 = .ok (.bipush 77, 2) := by decide +kernel
theorem dX8_init_23 : decode cX8_init 23 = .ok (.newarray .int, 2) := by decide +kernel
theorem dX8_init_25 : decode cX8_init 25 = .ok (.putfield 16, 3) := by decide +kernel
theorem dX8_init_28 : decode cX8_init 28 = .ok (.aload_n 0, 1) := by decide +kernel
theorem dX8_init_29 : decode cX8_init 29 = .ok (.sipush 616, 3) := by decide +kernel
theorem dX8_init_32 : decode cX8_init 32 = .ok (.newarray .int, 2) := by decide +kernel
theorem dX8_init_34 : decode cX8_init 34 = .ok (.putfield 19, 3) := by decide +kernel
theorem dX8_init_37 : decode cX8_init 37 = .ok (.aload_n 0, 1) := by decide +kernel
theorem dX8_init_38 : decode cX8_init 38 = .ok (.iconst (-1), 1) := by decide +kernel
theorem dX8_init_39 : decode cX8_init 39 = .ok (.putfield 22, 3) := by decide +kernel
theorem dX8_init_42 : decode cX8_init 42 = .ok (.aload_n 0, 1) := by decide +kernel
theorem dX8_init_43 : decode cX8_init 43 = .ok (.iconst (-1), 1) := by decide +kernel
theorem dX8_init_44 : decode cX8_init 44 = .ok (.putfield 26, 3) := by decide +kernel
theorem dX8_init_47 : decode cX8_init 47 = .ok (.aload_n 0, 1) := by decide +kernel
theorem dX8_init_48 : decode cX8_init 48 = .ok (.bipush 12, 2) := by decide +kernel
theorem dX8_init_50 : decode cX8_init 50 = .ok (.newarray .int, 2) := by decide +kernel
theorem dX8_init_52 : decode cX8_init 52 = .ok (.putfield 29, 3) := by decide +kernel
theorem dX8_init_55 : decode cX8_init 55 = .ok (.aload_n 0, 1) := by decide +kernel
theorem dX8_init_56 : decode cX8_init 56 = .ok (.bipush 12, 2) := by decide +kernel
theorem dX8_init_58 : decode cX8_init 58 = .ok (.newarray .int, 2) := by decide +kernel
theorem dX8_init_60 : decode cX8_init 60 = .ok (.putfield 32, 3) := by decide +kernel
theorem dX8_init_63 : decode cX8_init 63 = .ok (.aload_n 0, 1) := by decide +kernel
theorem dX8_init_64 : decode cX8_init 64 = .ok (.bipush 12, 2) := by decide +kernel
theorem dX8_init_66 : decode cX8_init 66 = .ok (.newarray .int, 2) := by decide +kernel
theorem dX8_init_68 : decode cX8_init 68 = .ok (.putfield 35, 3) := by decide +kernel
theorem dX8_init_71 : decode cX8_init 71 = .ok (.aload_n 0, 1) := by decide +kernel
theorem dX8_init_72 : decode cX8_init 72 = .ok (.sipush 480, 3) := by decide +kernel
theorem dX8_init_75 : decode cX8_init 75 = .ok (.newarray .int, 2) := by decide +kernel
theorem dX8_init_77 : decode cX8_init 77 = .ok (.putfield 38, 3) := by decide +kernel
theorem dX8_init_80 : decode cX8_init 80 = .ok (.aload_n 0, 1) := by decide +kernel
theorem dX8_init_81 : decode cX8_init 81 = .ok (.bipush 60, 2) := by decide +kernel
theorem dX8_init_83 : decode cX8_init 83 = .ok (.newarray .int, 2) := by decide +kernel
theorem dX8_init_85 : decode cX8_init 85 = .ok (.putfield 41, 3) := by decide +kernel
theorem dX8_init_88 : decode cX8_init 88 = .ok (.aload_n 0, 1) := by decide +kernel
theorem dX8_init_89 : decode cX8_init 89 = .ok (.sipush 600, 3) := by decide +kernel
theorem dX8_init_92 : decode cX8_init 92 = .ok (.newarray .int, 2) := by decide +kernel
theorem dX8_init_94 : decode cX8_init 94 = .ok (.putfield 44, 3) := by decide +kernel
theorem dX8_init_97 : decode cX8_init 97 = .ok (.aload_n 0, 1) := by decide +kernel
theorem dX8_init_98 : decode cX8_init 98 = .ok (.sipush 150, 3) := by decide +kernel
theorem dX8_init_101 : decode cX8_init 101 = .ok (.newarray .int, 2) := by decide +kernel
theorem dX8_init_103 : decode cX8_init 103 = .ok (.putfield 47, 3) := by decide +kernel
theorem dX8_init_106 : decode cX8_init 106 = .ok (.iconst 0, 1) := by decide +kernel
theorem dX8_init_107 : decode cX8_init 107 = .ok (.istore_n 1, 1) := by decide +kernel
theorem dX8_init_108 : decode cX8_init 108 = .ok (.iload_n 1, 1) := by decide +kernel
theorem dX8_init_109 : decode cX8_init 109 = .ok (.iconst 3, 1) := by decide +kernel
theorem dX8_init_110 : decode cX8_init 110 = .ok (.if_icmp .ge 19, 3) := by decide +kernel
theorem dX8_init_113 : decode cX8_init 113 = .ok (.aload_n 0, 1) := by decide +kernel
theorem dX8_init_114 : decode cX8_init 114 = .ok (.getfield 9, 3) := by decide +kernel
theorem dX8_init_117 : decode cX8_init 117 = .ok (.iconst 2, 1) := by decide +kernel
theorem dX8_init_118 : decode cX8_init 118 = .ok (.iload_n 1, 1) := by decide +kernel
theorem dX8_init_119 : decode cX8_init 119 = .ok (.iadd, 1) := by decide +kernel
theorem dX8_init_120 : decode cX8_init 120 = .ok (.bipush 10, 2) := by decide +kernel
theorem dX8_init_122 : decode cX8_init 122 = .ok (.iastore, 1) := by decide +kernel
theorem dX8_init_123 : decode cX8_init 123 = .ok (.iinc 1 1, 3) := by decide +kernel
theorem dX8_init_126 : decode cX8_init 126 = .ok (.goto (-18), 3) := by decide +kernel
theorem dX8_init_129 : decode cX8_init 129 = .ok (.return_, 1) := by decide +kernel
theorem dX8_thrown_0 : decode cX8_thrown 0 = .ok (.aload_n 0, 1) := by decide +kernel
theorem dX8_thrown_1 : decode cX8_thrown 1 = .ok (.getfield 50, 3) := by decide +kernel
theorem dX8_thrown_4 : decode cX8_thrown 4 = .ok (.ireturn, 1) := by decide +kernel
theorem dX8_isIn_0 : decode cX8_isIn 0 = .ok (.iload_n 0, 1) := by decide +kernel
theorem dX8_isIn_1 : decode cX8_isIn 1 = .ok (.iload_n 1, 1) := by decide +kernel
theorem dX8_isIn_2 : decode cX8_isIn 2 = .ok (.if_icmp .lt 12, 3) := by decide +kernel
theorem dX8_isIn_5 : decode cX8_isIn 5 = .ok (.iload_n 0, 1) := by decide +kernel
theorem dX8_isIn_6 : decode cX8_isIn 6 = .ok (.iload_n 2, 1) := by decide +kernel
theorem dX8_isIn_7 : decode cX8_isIn 7 = .ok (.if_icmp .gt 7, 3) := by decide +kernel
theorem dX8_isIn_10 : decode cX8_isIn 10 = .ok (.iconst 1, 1) := by decide +kernel
theorem dX8_isIn_11 : decode cX8_isIn 11 = .ok (.goto 4, 3) := by decide +kernel
theorem dX8_isIn_14 : decode cX8_isIn 14 = .ok (.iconst 0, 1) := by decide +kernel
theorem dX8_isIn_15 : decode cX8_isIn 15 = .ok (.ireturn, 1) := by decide +kernel
theorem dX8_copies_0 : decode cX8_copies 0 = .ok (.iconst 0, 1) := by decide +kernel
theorem dX8_copies_1 : decode cX8_copies 1 = .ok (.istore 4, 2) := by decide +kernel
theorem dX8_copies_3 : decode cX8_copies 3 = .ok (.iload 4, 2) := by decide +kernel
theorem dX8_copies_5 : decode cX8_copies 5 = .ok (.bipush 77, 2) := by decide +kernel
theorem dX8_copies_7 : decode cX8_copies 7 = .ok (.if_icmp .ge 21, 3) := by decide +kernel
theorem dX8_copies_10 : decode cX8_copies 10 = .ok (.aload_n 2, 1) := by decide +kernel
theorem dX8_copies_11 : decode cX8_copies 11 = .ok (.iload_n 3, 1) := by decide +kernel
theorem dX8_copies_12 : decode cX8_copies 12 = .ok (.iload 4, 2) := by decide +kernel
theorem dX8_copies_14 : decode cX8_copies 14 = .ok (.iadd, 1) := by decide +kernel
theorem dX8_copies_15 : decode cX8_copies 15 = .ok (.aload_n 0, 1) := by decide +kernel
theorem dX8_copies_16 : decode cX8_copies 16 = .ok (.iload_n 1, 1) := by decide +kernel
theorem dX8_copies_17 : decode cX8_copies 17 = .ok (.iload 4, 2) := by decide +kernel
theorem dX8_copies_19 : decode cX8_copies 19 = .ok (.iadd, 1) := by decide +kernel
theorem dX8_copies_20 : decode cX8_copies 20 = .ok (.iaload, 1) := by decide +kernel
theorem dX8_copies_21 : decode cX8_copies 21 = .ok (.iastore, 1) := by decide +kernel
theorem dX8_copies_22 : decode cX8_copies 22 = .ok (.iinc 4 1, 3) := by decide +kernel
theorem dX8_copies_25 : decode cX8_copies 25 = .ok (.goto (-22), 3) := by decide +kernel
theorem dX8_copies_28 : decode cX8_copies 28 = .ok (.return_, 1) := by decide +kernel
theorem dX8_holds_0 : decode cX8_holds 0 = .ok (.aload_n 0, 1) := by decide +kernel
theorem dX8_holds_1 : decode cX8_holds 1 = .ok (.iload_n 1, 1) := by decide +kernel
theorem dX8_holds_2 : decode cX8_holds 2 = .ok (.ifCond .ne 7, 3) := by decide +kernel
theorem dX8_holds_5 : decode cX8_holds 5 = .ok (.iconst 1, 1) := by decide +kernel
theorem dX8_holds_6 : decode cX8_holds 6 = .ok (.goto 20, 3) := by decide +kernel
theorem dX8_holds_9 : decode cX8_holds 9 = .ok (.iload_n 2, 1) := by decide +kernel
theorem dX8_holds_10 : decode cX8_holds 10 = .ok (.ifCond .ne 7, 3) := by decide +kernel
theorem dX8_holds_13 : decode cX8_holds 13 = .ok (.iconst 2, 1) := by decide +kernel
theorem dX8_holds_14 : decode cX8_holds 14 = .ok (.goto 12, 3) := by decide +kernel
theorem dX8_holds_17 : decode cX8_holds 17 = .ok (.iload_n 3, 1) := by decide +kernel
theorem dX8_holds_18 : decode cX8_holds 18 = .ok (.ifCond .ne 7, 3) := by decide +kernel
theorem dX8_holds_21 : decode cX8_holds 21 = .ok (.iconst 3, 1) := by decide +kernel
theorem dX8_holds_22 : decode cX8_holds 22 = .ok (.goto 4, 3) := by decide +kernel
theorem dX8_holds_25 : decode cX8_holds 25 = .ok (.iconst 0, 1) := by decide +kernel
theorem dX8_holds_26 : decode cX8_holds 26 = .ok (.putfield 50, 3) := by decide +kernel
theorem dX8_holds_29 : decode cX8_holds 29 = .ok (.aload_n 0, 1) := by decide +kernel
theorem dX8_holds_30 : decode cX8_holds 30 = .ok (.getfield 50, 3) := by decide +kernel
theorem dX8_holds_33 : decode cX8_holds 33 = .ok (.ifCond .ne 7, 3) := by decide +kernel
theorem dX8_holds_36 : decode cX8_holds 36 = .ok (.iconst 1, 1) := by decide +kernel
theorem dX8_holds_37 : decode cX8_holds 37 = .ok (.goto 4, 3) := by decide +kernel
theorem dX8_holds_40 : decode cX8_holds 40 = .ok (.iconst 0, 1) := by decide +kernel
theorem dX8_holds_41 : decode cX8_holds 41 = .ok (.ireturn, 1) := by decide +kernel
theorem dX8_goes_0 : decode cX8_goes 0 = .ok (.aload_n 0, 1) := by decide +kernel
theorem dX8_goes_1 : decode cX8_goes 1 = .ok (.iload_n 1, 1) := by decide +kernel
theorem dX8_goes_2 : decode cX8_goes 2 = .ok (.iconst 1, 1) := by decide +kernel
theorem dX8_goes_3 : decode cX8_goes 3 = .ok (.iconst 1, 1) := by decide +kernel
theorem dX8_goes_4 : decode cX8_goes 4 = .ok (.invokevirtual 53, 3) := by decide +kernel
theorem dX8_goes_7 : decode cX8_goes 7 = .ok (.ireturn, 1) := by decide +kernel
theorem dX8_begins_0 : decode cX8_begins 0 = .ok (.aload_n 0, 1) := by decide +kernel
theorem dX8_begins_1 : decode cX8_begins 1 = .ok (.getfield 9, 3) := by decide +kernel
theorem dX8_begins_4 : decode cX8_begins 4 = .ok (.iconst 0, 1) := by decide +kernel
theorem dX8_begins_5 : decode cX8_begins 5 = .ok (.aload_n 0, 1) := by decide +kernel
theorem dX8_begins_6 : decode cX8_begins 6 = .ok (.getfield 13, 3) := by decide +kernel
theorem dX8_begins_9 : decode cX8_begins 9 = .ok (.iconst 0, 1) := by decide +kernel
theorem dX8_begins_10 : decode cX8_begins 10 = .ok (.invokestatic 57, 3) := by decide +kernel
theorem dX8_begins_13 : decode cX8_begins 13 = .ok (.return_, 1) := by decide +kernel
theorem dX8_remembers_0 : decode cX8_remembers 0 = .ok (.aload_n 0, 1) := by decide +kernel
theorem dX8_remembers_1 : decode cX8_remembers 1 = .ok (.getfield 61, 3) := by decide +kernel
theorem dX8_remembers_4 : decode cX8_remembers 4 = .ok (.bipush 8, 2) := by decide +kernel
theorem dX8_remembers_6 : decode cX8_remembers 6 = .ok (.if_icmp .ne 43, 3) := by decide +kernel
theorem dX8_remembers_9 : decode cX8_remembers 9 = .ok (.iconst 0, 1) := by decide +kernel
theorem dX8_remembers_10 : decode cX8_remembers 10 = .ok (.istore_n 1, 1) := by decide +kernel
theorem dX8_remembers_11 : decode cX8_remembers 11 = .ok (.iload_n 1, 1) := by decide +kernel
theorem dX8_remembers_12 : decode cX8_remembers 12 = .ok (.sipush 539, 3) := by decide +kernel
theorem dX8_remembers_15 : decode cX8_remembers 15 = .ok (.if_icmp .ge 24, 3) := by decide +kernel
theorem dX8_remembers_18 : decode cX8_remembers 18 = .ok (.aload_n 0, 1) := by decide +kernel
theorem dX8_remembers_19 : decode cX8_remembers 19 = .ok (.getfield 19, 3) := by decide +kernel
theorem dX8_remembers_22 : decode cX8_remembers 22 = .ok (.iload_n 1, 1) := by decide +kernel
theorem dX8_remembers_23 : decode cX8_remembers 23 = .ok (.aload_n 0, 1) := by decide +kernel
theorem dX8_remembers_24 : decode cX8_remembers 24 = .ok (.getfield 19, 3) := by decide +kernel
theorem dX8_remembers_27 : decode cX8_remembers 27 = .ok (.iload_n 1, 1) := by decide +kernel
theorem dX8_remembers_28 : decode cX8_remembers 28 = .ok (.bipush 77, 2) := by decide +kernel
theorem dX8_remembers_30 : decode cX8_remembers 30 = .ok (.iadd, 1) := by decide +kernel
theorem dX8_remembers_31 : decode cX8_remembers 31 = .ok (.iaload, 1) := by decide +kernel
theorem dX8_remembers_32 : decode cX8_remembers 32 = .ok (.iastore, 1) := by decide +kernel
theorem dX8_remembers_33 : decode cX8_remembers 33 = .ok (.iinc 1 1, 3) := by decide +kernel
theorem dX8_remembers_36 : decode cX8_remembers 36 = .ok (.goto (-25), 3) := by decide +kernel
theorem dX8_remembers_39 : decode cX8_remembers 39 = .ok (.aload_n 0, 1) := by decide +kernel
theorem dX8_remembers_40 : decode cX8_remembers 40 = .ok (.dup, 1) := by decide +kernel
theorem dX8_remembers_41 : decode cX8_remembers 41 = .ok (.getfield 61, 3) := by decide +kernel
theorem dX8_remembers_44 : decode cX8_remembers 44 = .ok (.iconst 1, 1) := by decide +kernel
theorem dX8_remembers_45 : decode cX8_remembers 45 = .ok (.isub, 1) := by decide +kernel
theorem dX8_remembers_46 : decode cX8_remembers 46 = .ok (.putfield 61, 3) := by decide +kernel
theorem dX8_remembers_49 : decode cX8_remembers 49 = .ok (.aload_n 0, 1) := by decide +kernel
theorem dX8_remembers_50 : decode cX8_remembers 50 = .ok (.getfield 13, 3) := by decide +kernel
theorem dX8_remembers_53 : decode cX8_remembers 53 = .ok (.iconst 0, 1) := by decide +kernel
theorem dX8_remembers_54 : decode cX8_remembers 54 = .ok (.aload_n 0, 1) := by decide +kernel
theorem dX8_remembers_55 : decode cX8_remembers 55 = .ok (.getfield 19, 3) := by decide +kernel
theorem dX8_remembers_58 : decode cX8_remembers 58 = .ok (.aload_n 0, 1) := by decide +kernel
theorem dX8_remembers_59 : decode cX8_remembers 59 = .ok (.getfield 61, 3) := by decide +kernel
theorem dX8_remembers_62 : decode cX8_remembers 62 = .ok (.bipush 77, 2) := by decide +kernel
theorem dX8_remembers_64 : decode cX8_remembers 64 = .ok (.imul, 1) := by decide +kernel
theorem dX8_remembers_65 : decode cX8_remembers 65 = .ok (.invokestatic 57, 3) := by decide +kernel
theorem dX8_remembers_68 : decode cX8_remembers 68 = .ok (.aload_n 0, 1) := by decide +kernel
theorem dX8_remembers_69 : decode cX8_remembers 69 = .ok (.dup, 1) := by decide +kernel
theorem dX8_remembers_70 : decode cX8_remembers 70 = .ok (.getfield 61, 3) := by decide +kernel
theorem dX8_remembers_73 : decode cX8_remembers 73 = .ok (.iconst 1, 1) := by decide +kernel
theorem dX8_remembers_74 : decode cX8_remembers 74 = .ok (.iadd, 1) := by decide +kernel
theorem dX8_remembers_75 : decode cX8_remembers 75 = .ok (.putfield 61, 3) := by decide +kernel
theorem dX8_remembers_78 : decode cX8_remembers 78 = .ok (.return_, 1) := by decide +kernel
theorem dX8_ends_0 : decode cX8_ends 0 = .ok (.aload_n 0, 1) := by decide +kernel
theorem dX8_ends_1 : decode cX8_ends 1 = .ok (.getfield 50, 3) := by decide +kernel
theorem dX8_ends_4 : decode cX8_ends 4 = .ok (.ifCond .eq 18, 3) := by decide +kernel
theorem dX8_ends_7 : decode cX8_ends 7 = .ok (.aload_n 0, 1) := by decide +kernel
theorem dX8_ends_8 : decode cX8_ends 8 = .ok (.getfield 13, 3) := by decide +kernel
theorem dX8_ends_11 : decode cX8_ends 11 = .ok (.iconst 0, 1) := by decide +kernel
theorem dX8_ends_12 : decode cX8_ends 12 = .ok (.aload_n 0, 1) := by decide +kernel
theorem dX8_ends_13 : decode cX8_ends 13 = .ok (.getfield 9, 3) := by decide +kernel
theorem dX8_ends_16 : decode cX8_ends 16 = .ok (.iconst 0, 1) := by decide +kernel
theorem dX8_ends_17 : decode cX8_ends 17 = .ok (.invokestatic 57, 3) := by decide +kernel
theorem dX8_ends_20 : decode cX8_ends 20 = .ok (.iconst 0, 1) := by decide +kernel
theorem dX8_ends_21 : decode cX8_ends 21 = .ok (.ireturn, 1) := by decide +kernel
theorem dX8_ends_22 : decode cX8_ends 22 = .ok (.aload_n 0, 1) := by decide +kernel
theorem dX8_ends_23 : decode cX8_ends 23 = .ok (.invokevirtual 64, 3) := by decide +kernel
theorem dX8_ends_26 : decode cX8_ends 26 = .ok (.iload_n 1, 1) := by decide +kernel
theorem dX8_ends_27 : decode cX8_ends 27 = .ok (.ireturn, 1) := by decide +kernel
theorem dX8_undo_0 : decode cX8_undo 0 = .ok (.aload_n 0, 1) := by decide +kernel
theorem dX8_undo_1 : decode cX8_undo 1 = .ok (.aload_n 0, 1) := by decide +kernel
theorem dX8_undo_2 : decode cX8_undo 2 = .ok (.getfield 61, 3) := by decide +kernel
theorem dX8_undo_5 : decode cX8_undo 5 = .ok (.ifCond .le 7, 3) := by decide +kernel
theorem dX8_undo_8 : decode cX8_undo 8 = .ok (.iconst 1, 1) := by decide +kernel
theorem dX8_undo_9 : decode cX8_undo 9 = .ok (.goto 4, 3) := by decide +kernel
theorem dX8_undo_12 : decode cX8_undo 12 = .ok (.iconst 0, 1) := by decide +kernel
theorem dX8_undo_13 : decode cX8_undo 13 = .ok (.invokevirtual 67, 3) := by decide +kernel
theorem dX8_undo_16 : decode cX8_undo 16 = .ok (.ifCond .ne 5, 3) := by decide +kernel
theorem dX8_undo_19 : decode cX8_undo 19 = .ok (.iconst 0, 1) := by decide +kernel
theorem dX8_undo_20 : decode cX8_undo 20 = .ok (.ireturn, 1) := by decide +kernel
theorem dX8_undo_21 : decode cX8_undo 21 = .ok (.aload_n 0, 1) := by decide +kernel
theorem dX8_undo_22 : decode cX8_undo 22 = .ok (.dup, 1) := by decide +kernel
theorem dX8_undo_23 : decode cX8_undo 23 = .ok (.getfield 61, 3) := by decide +kernel
theorem dX8_undo_26 : decode cX8_undo 26 = .ok (.iconst 1, 1) := by decide +kernel
theorem dX8_undo_27 : decode cX8_undo 27 = .ok (.isub, 1) := by decide +kernel
theorem dX8_undo_28 : decode cX8_undo 28 = .ok (.putfield 61, 3) := by decide +kernel
theorem dX8_undo_31 : decode cX8_undo 31 = .ok (.aload_n 0, 1) := by decide +kernel
theorem dX8_undo_32 : decode cX8_undo 32 = .ok (.getfield 19, 3) := by decide +kernel
theorem dX8_undo_35 : decode cX8_undo 35 = .ok (.aload_n 0, 1) := by decide +kernel
theorem dX8_undo_36 : decode cX8_undo 36 = .ok (.getfield 61, 3) := by decide +kernel
theorem dX8_undo_39 : decode cX8_undo 39 = .ok (.bipush 77, 2) := by decide +kernel
theorem dX8_undo_41 : decode cX8_undo 41 = .ok (.imul, 1) := by decide +kernel
theorem dX8_undo_42 : decode cX8_undo 42 = .ok (.aload_n 0, 1) := by decide +kernel
theorem dX8_undo_43 : decode cX8_undo 43 = .ok (.getfield 9, 3) := by decide +kernel
theorem dX8_undo_46 : decode cX8_undo 46 = .ok (.iconst 0, 1) := by decide +kernel
theorem dX8_undo_47 : decode cX8_undo 47 = .ok (.invokestatic 57, 3) := by decide +kernel
theorem dX8_undo_50 : decode cX8_undo 50 = .ok (.aload_n 0, 1) := by decide +kernel
theorem dX8_undo_51 : decode cX8_undo 51 = .ok (.getfield 61, 3) := by decide +kernel
theorem dX8_undo_54 : decode cX8_undo 54 = .ok (.ireturn, 1) := by decide +kernel
theorem dX8_save_0 : decode cX8_save 0 = .ok (.aload_n 0, 1) := by decide +kernel
theorem dX8_save_1 : decode cX8_save 1 = .ok (.iconst 0, 1) := by decide +kernel
theorem dX8_save_2 : decode cX8_save 2 = .ok (.putfield 50, 3) := by decide +kernel
theorem dX8_save_5 : decode cX8_save 5 = .ok (.aload_n 0, 1) := by decide +kernel
theorem dX8_save_6 : decode cX8_save 6 = .ok (.getfield 9, 3) := by decide +kernel
theorem dX8_save_9 : decode cX8_save 9 = .ok (.iconst 0, 1) := by decide +kernel
theorem dX8_save_10 : decode cX8_save 10 = .ok (.aload_n 0, 1) := by decide +kernel
theorem dX8_save_11 : decode cX8_save 11 = .ok (.getfield 16, 3) := by decide +kernel
theorem dX8_save_14 : decode cX8_save 14 = .ok (.iconst 0, 1) := by decide +kernel
theorem dX8_save_15 : decode cX8_save 15 = .ok (.invokestatic 57, 3) := by decide +kernel
theorem dX8_save_18 : decode cX8_save 18 = .ok (.aload_n 0, 1) := by decide +kernel
theorem dX8_save_19 : decode cX8_save 19 = .ok (.iconst 1, 1) := by decide +kernel
theorem dX8_save_20 : decode cX8_save 20 = .ok (.putfield 71, 3) := by decide +kernel
theorem dX8_save_23 : decode cX8_save 23 = .ok (.aload_n 0, 1) := by decide +kernel
theorem dX8_save_24 : decode cX8_save 24 = .ok (.getfield 9, 3) := by decide +kernel
theorem dX8_save_27 : decode cX8_save 27 = .ok (.iconst 0, 1) := by decide +kernel
theorem dX8_save_28 : decode cX8_save 28 = .ok (.iaload, 1) := by decide +kernel
theorem dX8_save_29 : decode cX8_save 29 = .ok (.ireturn, 1) := by decide +kernel
theorem dX8_restore_0 : decode cX8_restore 0 = .ok (.aload_n 0, 1) := by decide +kernel
theorem dX8_restore_1 : decode cX8_restore 1 = .ok (.aload_n 0, 1) := by decide +kernel
theorem dX8_restore_2 : decode cX8_restore 2 = .ok (.getfield 71, 3) := by decide +kernel
theorem dX8_restore_5 : decode cX8_restore 5 = .ok (.invokevirtual 67, 3) := by decide +kernel
theorem dX8_restore_8 : decode cX8_restore 8 = .ok (.ifCond .ne 5, 3) := by decide +kernel
theorem dX8_restore_11 : decode cX8_restore 11 = .ok (.iconst 0, 1) := by decide +kernel
theorem dX8_restore_12 : decode cX8_restore 12 = .ok (.ireturn, 1) := by decide +kernel
theorem dX8_restore_13 : decode cX8_restore 13 = .ok (.aload_n 0, 1) := by decide +kernel
theorem dX8_restore_14 : decode cX8_restore 14 = .ok (.getfield 16, 3) := by decide +kernel
theorem dX8_restore_17 : decode cX8_restore 17 = .ok (.iconst 0, 1) := by decide +kernel
theorem dX8_restore_18 : decode cX8_restore 18 = .ok (.aload_n 0, 1) := by decide +kernel
theorem dX8_restore_19 : decode cX8_restore 19 = .ok (.getfield 9, 3) := by decide +kernel
theorem dX8_restore_22 : decode cX8_restore 22 = .ok (.iconst 0, 1) := by decide +kernel
theorem dX8_restore_23 : decode cX8_restore 23 = .ok (.invokestatic 57, 3) := by decide +kernel
theorem dX8_restore_26 : decode cX8_restore 26 = .ok (.aload_n 0, 1) := by decide +kernel
theorem dX8_restore_27 : decode cX8_restore 27 = .ok (.iconst 0, 1) := by decide +kernel
theorem dX8_restore_28 : decode cX8_restore 28 = .ok (.putfield 61, 3) := by decide +kernel
theorem dX8_restore_31 : decode cX8_restore 31 = .ok (.aload_n 0, 1) := by decide +kernel
theorem dX8_restore_32 : decode cX8_restore 32 = .ok (.getfield 9, 3) := by decide +kernel
theorem dX8_restore_35 : decode cX8_restore 35 = .ok (.iconst 0, 1) := by decide +kernel
theorem dX8_restore_36 : decode cX8_restore 36 = .ok (.iaload, 1) := by decide +kernel
theorem dX8_restore_37 : decode cX8_restore 37 = .ok (.ireturn, 1) := by decide +kernel
theorem dX8_isTask_0 : decode cX8_isTask 0 = .ok (.iload_n 1, 1) := by decide +kernel
theorem dX8_isTask_1 : decode cX8_isTask 1 = .ok (.iconst 0, 1) := by decide +kernel
theorem dX8_isTask_2 : decode cX8_isTask 2 = .ok (.aload_n 0, 1) := by decide +kernel
theorem dX8_isTask_3 : decode cX8_isTask 3 = .ok (.getfield 9, 3) := by decide +kernel
theorem dX8_isTask_6 : decode cX8_isTask 6 = .ok (.iconst 0, 1) := by decide +kernel
theorem dX8_isTask_7 : decode cX8_isTask 7 = .ok (.iaload, 1) := by decide +kernel
theorem dX8_isTask_8 : decode cX8_isTask 8 = .ok (.iconst 1, 1) := by decide +kernel
theorem dX8_isTask_9 : decode cX8_isTask 9 = .ok (.isub, 1) := by decide +kernel
theorem dX8_isTask_10 : decode cX8_isTask 10 = .ok (.invokestatic 75, 3) := by decide +kernel
theorem dX8_isTask_13 : decode cX8_isTask 13 = .ok (.ireturn, 1) := by decide +kernel
theorem dX8_isResource_0 : decode cX8_isResource 0 = .ok (.iload_n 0, 1) := by decide +kernel
theorem dX8_isResource_1 : decode cX8_isResource 1 = .ok (.iconst 0, 1) := by decide +kernel
theorem dX8_isResource_2 : decode cX8_isResource 2 = .ok (.iconst 2, 1) := by decide +kernel
theorem dX8_isResource_3 : decode cX8_isResource 3 = .ok (.invokestatic 75, 3) := by decide +kernel
theorem dX8_isResource_6 : decode cX8_isResource 6 = .ok (.ireturn, 1) := by decide +kernel
theorem dX8_taskAt_0 : decode cX8_taskAt 0 = .ok (.iconst 5, 1) := by decide +kernel
theorem dX8_taskAt_1 : decode cX8_taskAt 1 = .ok (.bipush 6, 2) := by decide +kernel
theorem dX8_taskAt_3 : decode cX8_taskAt 3 = .ok (.iload_n 0, 1) := by decide +kernel
theorem dX8_taskAt_4 : decode cX8_taskAt 4 = .ok (.imul, 1) := by decide +kernel
theorem dX8_taskAt_5 : decode cX8_taskAt 5 = .ok (.iadd, 1) := by decide +kernel
theorem dX8_taskAt_6 : decode cX8_taskAt 6 = .ok (.ireturn, 1) := by decide +kernel
theorem dX8_of_0 : decode cX8_of 0 = .ok (.aload_n 0, 1) := by decide +kernel
theorem dX8_of_1 : decode cX8_of 1 = .ok (.getfield 9, 3) := by decide +kernel
theorem dX8_of_4 : decode cX8_of 4 = .ok (.aload_n 0, 1) := by decide +kernel
theorem dX8_of_5 : decode cX8_of 5 = .ok (.iload_n 1, 1) := by decide +kernel
theorem dX8_of_6 : decode cX8_of 6 = .ok (.invokevirtual 79, 3) := by decide +kernel
theorem dX8_of_9 : decode cX8_of 9 = .ok (.ifCond .eq 7, 3) := by decide +kernel
theorem dX8_of_12 : decode cX8_of 12 = .ok (.iload_n 1, 1) := by decide +kernel
theorem dX8_of_13 : decode cX8_of 13 = .ok (.goto 4, 3) := by decide +kernel
theorem dX8_of_16 : decode cX8_of 16 = .ok (.iconst 0, 1) := by decide +kernel
theorem dX8_of_17 : decode cX8_of 17 = .ok (.invokestatic 83, 3) := by decide +kernel
theorem dX8_of_20 : decode cX8_of 20 = .ok (.iload_n 2, 1) := by decide +kernel
theorem dX8_of_21 : decode cX8_of 21 = .ok (.iadd, 1) := by decide +kernel
theorem dX8_of_22 : decode cX8_of 22 = .ok (.iaload, 1) := by decide +kernel
theorem dX8_of_23 : decode cX8_of 23 = .ok (.ireturn, 1) := by decide +kernel
theorem dX8_isNeeded_0 : decode cX8_isNeeded 0 = .ok (.aload_n 0, 1) := by decide +kernel
theorem dX8_isNeeded_1 : decode cX8_isNeeded 1 = .ok (.iload_n 1, 1) := by decide +kernel
theorem dX8_isNeeded_2 : decode cX8_isNeeded 2 = .ok (.iconst 4, 1) := by decide +kernel
theorem dX8_isNeeded_3 : decode cX8_isNeeded 3 = .ok (.invokevirtual 87, 3) := by decide +kernel
theorem dX8_isNeeded_6 : decode cX8_isNeeded 6 = .ok (.iload_n 2, 1) := by decide +kernel
theorem dX8_isNeeded_7 : decode cX8_isNeeded 7 = .ok (.ishr, 1) := by decide +kernel
theorem dX8_isNeeded_8 : decode cX8_isNeeded 8 = .ok (.iconst 1, 1) := by decide +kernel
theorem dX8_isNeeded_9 : decode cX8_isNeeded 9 = .ok (.iand, 1) := by decide +kernel
theorem dX8_isNeeded_10 : decode cX8_isNeeded 10 = .ok (.iconst 1, 1) := by decide +kernel
theorem dX8_isNeeded_11 : decode cX8_isNeeded 11 = .ok (.if_icmp .ne 7, 3) := by decide +kernel
theorem dX8_isNeeded_14 : decode cX8_isNeeded 14 = .ok (.iconst 1, 1) := by decide +kernel
theorem dX8_isNeeded_15 : decode cX8_isNeeded 15 = .ok (.goto 4, 3) := by decide +kernel
theorem dX8_isNeeded_18 : decode cX8_isNeeded 18 = .ok (.iconst 0, 1) := by decide +kernel
theorem dX8_isNeeded_19 : decode cX8_isNeeded 19 = .ok (.ireturn, 1) := by decide +kernel
theorem dX8_needsOf_0 : decode cX8_needsOf 0 = .ok (.aload_n 0, 1) := by decide +kernel
theorem dX8_needsOf_1 : decode cX8_needsOf 1 = .ok (.iload_n 1, 1) := by decide +kernel
theorem dX8_needsOf_2 : decode cX8_needsOf 2 = .ok (.iconst 4, 1) := by decide +kernel
theorem dX8_needsOf_3 : decode cX8_needsOf 3 = .ok (.invokevirtual 87, 3) := by decide +kernel
theorem dX8_needsOf_6 : decode cX8_needsOf 6 = .ok (.istore_n 2, 1) := by decide +kernel
theorem dX8_needsOf_7 : decode cX8_needsOf 7 = .ok (.iconst 0, 1) := by decide +kernel
theorem dX8_needsOf_8 : decode cX8_needsOf 8 = .ok (.istore_n 3, 1) := by decide +kernel
theorem dX8_needsOf_9 : decode cX8_needsOf 9 = .ok (.iload_n 3, 1) := by decide +kernel
theorem dX8_needsOf_10 : decode cX8_needsOf 10 = .ok (.aload_n 0, 1) := by decide +kernel
theorem dX8_needsOf_11 : decode cX8_needsOf 11 = .ok (.getfield 9, 3) := by decide +kernel
theorem dX8_needsOf_14 : decode cX8_needsOf 14 = .ok (.iconst 0, 1) := by decide +kernel
theorem dX8_needsOf_15 : decode cX8_needsOf 15 = .ok (.iaload, 1) := by decide +kernel
theorem dX8_needsOf_16 : decode cX8_needsOf 16 = .ok (.if_icmp .ge 53, 3) := by decide +kernel
theorem dX8_needsOf_19 : decode cX8_needsOf 19 = .ok (.iconst 0, 1) := by decide +kernel
theorem dX8_needsOf_20 : decode cX8_needsOf 20 = .ok (.istore 4, 2) := by decide +kernel
theorem dX8_needsOf_22 : decode cX8_needsOf 22 = .ok (.iload 4, 2) := by decide +kernel
theorem dX8_needsOf_24 : decode cX8_needsOf 24 = .ok (.aload_n 0, 1) := by decide +kernel
theorem dX8_needsOf_25 : decode cX8_needsOf 25 = .ok (.getfield 9, 3) := by decide +kernel
theorem dX8_needsOf_28 : decode cX8_needsOf 28 = .ok (.iconst 0, 1) := by decide +kernel
theorem dX8_needsOf_29 : decode cX8_needsOf 29 = .ok (.iaload, 1) := by decide +kernel
theorem dX8_needsOf_30 : decode cX8_needsOf 30 = .ok (.if_icmp .ge 33, 3) := by decide +kernel
theorem dX8_needsOf_33 : decode cX8_needsOf 33 = .ok (.iload_n 2, 1) := by decide +kernel
theorem dX8_needsOf_34 : decode cX8_needsOf 34 = .ok (.iload_n 2, 1) := by decide +kernel
theorem dX8_needsOf_35 : decode cX8_needsOf 35 = .ok (.iload 4, 2) := by decide +kernel
theorem dX8_needsOf_37 : decode cX8_needsOf 37 = .ok (.ishr, 1) := by decide +kernel
theorem dX8_needsOf_38 : decode cX8_needsOf 38 = .ok (.iconst 1, 1) := by decide +kernel
theorem dX8_needsOf_39 : decode cX8_needsOf 39 = .ok (.iand, 1) := by decide +kernel
theorem dX8_needsOf_40 : decode cX8_needsOf 40 = .ok (.iconst 1, 1) := by decide +kernel
theorem dX8_needsOf_41 : decode cX8_needsOf 41 = .ok (.if_icmp .ne 13, 3) := by decide +kernel
theorem dX8_needsOf_44 : decode cX8_needsOf 44 = .ok (.aload_n 0, 1) := by decide +kernel
theorem dX8_needsOf_45 : decode cX8_needsOf 45 = .ok (.iload 4, 2) := by decide +kernel
theorem dX8_needsOf_47 : decode cX8_needsOf 47 = .ok (.iconst 4, 1) := by decide +kernel
theorem dX8_needsOf_48 : decode cX8_needsOf 48 = .ok (.invokevirtual 87, 3) := by decide +kernel
theorem dX8_needsOf_51 : decode cX8_needsOf 51 = .ok (.goto 4, 3) := by decide +kernel
theorem dX8_needsOf_54 : decode cX8_needsOf 54 = .ok (.iconst 0, 1) := by decide +kernel
theorem dX8_needsOf_55 : decode cX8_needsOf 55 = .ok (.ior, 1) := by decide +kernel
theorem dX8_needsOf_56 : decode cX8_needsOf 56 = .ok (.istore_n 2, 1) := by decide +kernel
theorem dX8_needsOf_57 : decode cX8_needsOf 57 = .ok (.iinc 4 1, 3) := by decide +kernel
theorem dX8_needsOf_60 : decode cX8_needsOf 60 = .ok (.goto (-38), 3) := by decide +kernel
theorem dX8_needsOf_63 : decode cX8_needsOf 63 = .ok (.iinc 3 1, 3) := by decide +kernel
theorem dX8_needsOf_66 : decode cX8_needsOf 66 = .ok (.goto (-57), 3) := by decide +kernel
theorem dX8_needsOf_69 : decode cX8_needsOf 69 = .ok (.iload_n 2, 1) := by decide +kernel
theorem dX8_needsOf_70 : decode cX8_needsOf 70 = .ok (.ireturn, 1) := by decide +kernel
theorem dX8_doesDepend_0 : decode cX8_doesDepend 0 = .ok (.aload_n 0, 1) := by decide +kernel
theorem dX8_doesDepend_1 : decode cX8_doesDepend 1 = .ok (.iload_n 1, 1) := by decide +kernel
theorem dX8_doesDepend_2 : decode cX8_doesDepend 2 = .ok (.invokevirtual 91, 3) := by decide +kernel
theorem dX8_doesDepend_5 : decode cX8_doesDepend 5 = .ok (.iload_n 2, 1) := by decide +kernel
theorem dX8_doesDepend_6 : decode cX8_doesDepend 6 = .ok (.ishr, 1) := by decide +kernel
theorem dX8_doesDepend_7 : decode cX8_doesDepend 7 = .ok (.iconst 1, 1) := by decide +kernel
theorem dX8_doesDepend_8 : decode cX8_doesDepend 8 = .ok (.iand, 1) := by decide +kernel
theorem dX8_doesDepend_9 : decode cX8_doesDepend 9 = .ok (.iconst 1, 1) := by decide +kernel
theorem dX8_doesDepend_10 : decode cX8_doesDepend 10 = .ok (.if_icmp .ne 7, 3) := by decide +kernel
theorem dX8_doesDepend_13 : decode cX8_doesDepend 13 = .ok (.iconst 1, 1) := by decide +kernel
theorem dX8_doesDepend_14 : decode cX8_doesDepend 14 = .ok (.goto 4, 3) := by decide +kernel
theorem dX8_doesDepend_17 : decode cX8_doesDepend 17 = .ok (.iconst 0, 1) := by decide +kernel
theorem dX8_doesDepend_18 : decode cX8_doesDepend 18 = .ok (.ireturn, 1) := by decide +kernel
theorem dX8_adds_0 : decode cX8_adds 0 = .ok (.iload_n 1, 1) := by decide +kernel
theorem dX8_adds_1 : decode cX8_adds 1 = .ok (.iconst 1, 1) := by decide +kernel
theorem dX8_adds_2 : decode cX8_adds 2 = .ok (.bipush 9, 2) := by decide +kernel
theorem dX8_adds_4 : decode cX8_adds 4 = .ok (.invokestatic 75, 3) := by decide +kernel
theorem dX8_adds_7 : decode cX8_adds 7 = .ok (.ifCond .eq 34, 3) := by decide +kernel
theorem dX8_adds_10 : decode cX8_adds 10 = .ok (.iload_n 2, 1) := by decide +kernel
theorem dX8_adds_11 : decode cX8_adds 11 = .ok (.invokestatic 94, 3) := by decide +kernel
theorem dX8_adds_14 : decode cX8_adds 14 = .ok (.ifCond .eq 27, 3) := by decide +kernel
theorem dX8_adds_17 : decode cX8_adds 17 = .ok (.iload_n 3, 1) := by decide +kernel
theorem dX8_adds_18 : decode cX8_adds 18 = .ok (.iconst 1, 1) := by decide +kernel
theorem dX8_adds_19 : decode cX8_adds 19 = .ok (.iconst 5, 1) := by decide +kernel
theorem dX8_adds_20 : decode cX8_adds 20 = .ok (.invokestatic 75, 3) := by decide +kernel
theorem dX8_adds_23 : decode cX8_adds 23 = .ok (.ifCond .eq 18, 3) := by decide +kernel
theorem dX8_adds_26 : decode cX8_adds 26 = .ok (.iload 4, 2) := by decide +kernel
theorem dX8_adds_28 : decode cX8_adds 28 = .ok (.iconst 0, 1) := by decide +kernel
theorem dX8_adds_29 : decode cX8_adds 29 = .ok (.bipush 30, 2) := by decide +kernel
theorem dX8_adds_31 : decode cX8_adds 31 = .ok (.invokestatic 75, 3) := by decide +kernel
theorem dX8_adds_34 : decode cX8_adds 34 = .ok (.ifCond .eq 7, 3) := by decide +kernel
theorem dX8_adds_37 : decode cX8_adds 37 = .ok (.iconst 1, 1) := by decide +kernel
theorem dX8_adds_38 : decode cX8_adds 38 = .ok (.goto 4, 3) := by decide +kernel
theorem dX8_adds_41 : decode cX8_adds 41 = .ok (.iconst 0, 1) := by decide +kernel
theorem dX8_adds_42 : decode cX8_adds 42 = .ok (.istore 5, 2) := by decide +kernel
theorem dX8_adds_44 : decode cX8_adds 44 = .ok (.aload_n 0, 1) := by decide +kernel
theorem dX8_adds_45 : decode cX8_adds 45 = .ok (.iload 5, 2) := by decide +kernel
theorem dX8_adds_47 : decode cX8_adds 47 = .ok (.aload_n 0, 1) := by decide +kernel
theorem dX8_adds_48 : decode cX8_adds 48 = .ok (.getfield 9, 3) := by decide +kernel
theorem dX8_adds_51 : decode cX8_adds 51 = .ok (.iconst 0, 1) := by decide +kernel
theorem dX8_adds_52 : decode cX8_adds 52 = .ok (.iaload, 1) := by decide +kernel
theorem dX8_adds_53 : decode cX8_adds 53 = .ok (.bipush 12, 2) := by decide +kernel
theorem dX8_adds_55 : decode cX8_adds 55 = .ok (.if_icmp .ge 7, 3) := by decide +kernel
theorem dX8_adds_58 : decode cX8_adds 58 = .ok (.iconst 1, 1) := by decide +kernel
theorem dX8_adds_59 : decode cX8_adds 59 = .ok (.goto 4, 3) := by decide +kernel
theorem dX8_adds_62 : decode cX8_adds 62 = .ok (.iconst 0, 1) := by decide +kernel
theorem dX8_adds_63 : decode cX8_adds 63 = .ok (.iconst 1, 1) := by decide +kernel
theorem dX8_adds_64 : decode cX8_adds 64 = .ok (.invokevirtual 53, 3) := by decide +kernel
theorem dX8_adds_67 : decode cX8_adds 67 = .ok (.ifCond .ne 5, 3) := by decide +kernel
theorem dX8_adds_70 : decode cX8_adds 70 = .ok (.iconst 0, 1) := by decide +kernel
theorem dX8_adds_71 : decode cX8_adds 71 = .ok (.ireturn, 1) := by decide +kernel
theorem dX8_adds_72 : decode cX8_adds 72 = .ok (.aload_n 0, 1) := by decide +kernel
theorem dX8_adds_73 : decode cX8_adds 73 = .ok (.getfield 9, 3) := by decide +kernel
theorem dX8_adds_76 : decode cX8_adds 76 = .ok (.iconst 0, 1) := by decide +kernel
theorem dX8_adds_77 : decode cX8_adds 77 = .ok (.iaload, 1) := by decide +kernel
theorem dX8_adds_78 : decode cX8_adds 78 = .ok (.invokestatic 83, 3) := by decide +kernel
theorem dX8_adds_81 : decode cX8_adds 81 = .ok (.istore 6, 2) := by decide +kernel
theorem dX8_adds_83 : decode cX8_adds 83 = .ok (.aload_n 0, 1) := by decide +kernel
theorem dX8_adds_84 : decode cX8_adds 84 = .ok (.getfield 9, 3) := by decide +kernel
theorem dX8_adds_87 : decode cX8_adds 87 = .ok (.iload 6, 2) := by decide +kernel
theorem dX8_adds_89 : decode cX8_adds 89 = .ok (.iconst 0, 1) := by decide +kernel
theorem dX8_adds_90 : decode cX8_adds 90 = .ok (.iadd, 1) := by decide +kernel
theorem dX8_adds_91 : decode cX8_adds 91 = .ok (.iload_n 1, 1) := by decide +kernel
theorem dX8_adds_92 : decode cX8_adds 92 = .ok (.iastore, 1) := by decide +kernel
theorem dX8_adds_93 : decode cX8_adds 93 = .ok (.aload_n 0, 1) := by decide +kernel
theorem dX8_adds_94 : decode cX8_adds 94 = .ok (.getfield 9, 3) := by decide +kernel
theorem dX8_adds_97 : decode cX8_adds 97 = .ok (.iload 6, 2) := by decide +kernel
theorem dX8_adds_99 : decode cX8_adds 99 = .ok (.iconst 1, 1) := by decide +kernel
theorem dX8_adds_100 : decode cX8_adds 100 = .ok (.iadd, 1) := by decide +kernel
theorem dX8_adds_101 : decode cX8_adds 101 = .ok (.iload_n 2, 1) := by decide +kernel
theorem dX8_adds_102 : decode cX8_adds 102 = .ok (.iastore, 1) := by decide +kernel
theorem dX8_adds_103 : decode cX8_adds 103 = .ok (.aload_n 0, 1) := by decide +kernel
theorem dX8_adds_104 : decode cX8_adds 104 = .ok (.getfield 9, 3) := by decide +kernel
theorem dX8_adds_107 : decode cX8_adds 107 = .ok (.iload 6, 2) := by decide +kernel
theorem dX8_adds_109 : decode cX8_adds 109 = .ok (.iconst 2, 1) := by decide +kernel
theorem dX8_adds_110 : decode cX8_adds 110 = .ok (.iadd, 1) := by decide +kernel
theorem dX8_adds_111 : decode cX8_adds 111 = .ok (.iload_n 3, 1) := by decide +kernel
theorem dX8_adds_112 : decode cX8_adds 112 = .ok (.iastore, 1) := by decide +kernel
theorem dX8_adds_113 : decode cX8_adds 113 = .ok (.aload_n 0, 1) := by decide +kernel
theorem dX8_adds_114 : decode cX8_adds 114 = .ok (.getfield 9, 3) := by decide +kernel
theorem dX8_adds_117 : decode cX8_adds 117 = .ok (.iload 6, 2) := by decide +kernel
theorem dX8_adds_119 : decode cX8_adds 119 = .ok (.iconst 3, 1) := by decide +kernel
theorem dX8_adds_120 : decode cX8_adds 120 = .ok (.iadd, 1) := by decide +kernel
theorem dX8_adds_121 : decode cX8_adds 121 = .ok (.iload 4, 2) := by decide +kernel
theorem dX8_adds_123 : decode cX8_adds 123 = .ok (.iastore, 1) := by decide +kernel
theorem dX8_adds_124 : decode cX8_adds 124 = .ok (.aload_n 0, 1) := by decide +kernel
theorem dX8_adds_125 : decode cX8_adds 125 = .ok (.getfield 9, 3) := by decide +kernel
theorem dX8_adds_128 : decode cX8_adds 128 = .ok (.iload 6, 2) := by decide +kernel
theorem dX8_adds_130 : decode cX8_adds 130 = .ok (.iconst 4, 1) := by decide +kernel
theorem dX8_adds_131 : decode cX8_adds 131 = .ok (.iadd, 1) := by decide +kernel
theorem dX8_adds_132 : decode cX8_adds 132 = .ok (.iconst 0, 1) := by decide +kernel
theorem dX8_adds_133 : decode cX8_adds 133 = .ok (.iastore, 1) := by decide +kernel
theorem dX8_adds_134 : decode cX8_adds 134 = .ok (.aload_n 0, 1) := by decide +kernel
theorem dX8_adds_135 : decode cX8_adds 135 = .ok (.getfield 9, 3) := by decide +kernel
theorem dX8_adds_138 : decode cX8_adds 138 = .ok (.iload 6, 2) := by decide +kernel
theorem dX8_adds_140 : decode cX8_adds 140 = .ok (.iconst 5, 1) := by decide +kernel
theorem dX8_adds_141 : decode cX8_adds 141 = .ok (.iadd, 1) := by decide +kernel
theorem dX8_adds_142 : decode cX8_adds 142 = .ok (.iconst (-1), 1) := by decide +kernel
theorem dX8_adds_143 : decode cX8_adds 143 = .ok (.iastore, 1) := by decide +kernel
theorem dX8_adds_144 : decode cX8_adds 144 = .ok (.aload_n 0, 1) := by decide +kernel
theorem dX8_adds_145 : decode cX8_adds 145 = .ok (.getfield 9, 3) := by decide +kernel
theorem dX8_adds_148 : decode cX8_adds 148 = .ok (.iconst 0, 1) := by decide +kernel
theorem dX8_adds_149 : decode cX8_adds 149 = .ok (.dup2, 1) := by decide +kernel
theorem dX8_adds_150 : decode cX8_adds 150 = .ok (.iaload, 1) := by decide +kernel
theorem dX8_adds_151 : decode cX8_adds 151 = .ok (.iconst 1, 1) := by decide +kernel
theorem dX8_adds_152 : decode cX8_adds 152 = .ok (.iadd, 1) := by decide +kernel
theorem dX8_adds_153 : decode cX8_adds 153 = .ok (.iastore, 1) := by decide +kernel
theorem dX8_adds_154 : decode cX8_adds 154 = .ok (.aload_n 0, 1) := by decide +kernel
theorem dX8_adds_155 : decode cX8_adds 155 = .ok (.getfield 9, 3) := by decide +kernel
theorem dX8_adds_158 : decode cX8_adds 158 = .ok (.iconst 0, 1) := by decide +kernel
theorem dX8_adds_159 : decode cX8_adds 159 = .ok (.iaload, 1) := by decide +kernel
theorem dX8_adds_160 : decode cX8_adds 160 = .ok (.iconst 1, 1) := by decide +kernel
theorem dX8_adds_161 : decode cX8_adds 161 = .ok (.isub, 1) := by decide +kernel
theorem dX8_adds_162 : decode cX8_adds 162 = .ok (.ireturn, 1) := by decide +kernel
theorem dX8_addTask_0 : decode cX8_addTask 0 = .ok (.aload_n 0, 1) := by decide +kernel
theorem dX8_addTask_1 : decode cX8_addTask 1 = .ok (.invokevirtual 97, 3) := by decide +kernel
theorem dX8_addTask_4 : decode cX8_addTask 4 = .ok (.aload_n 0, 1) := by decide +kernel
theorem dX8_addTask_5 : decode cX8_addTask 5 = .ok (.aload_n 0, 1) := by decide +kernel
theorem dX8_addTask_6 : decode cX8_addTask 6 = .ok (.iload_n 1, 1) := by decide +kernel
theorem dX8_addTask_7 : decode cX8_addTask 7 = .ok (.iload_n 2, 1) := by decide +kernel
theorem dX8_addTask_8 : decode cX8_addTask 8 = .ok (.iload_n 3, 1) := by decide +kernel
theorem dX8_addTask_9 : decode cX8_addTask 9 = .ok (.iload 4, 2) := by decide +kernel
theorem dX8_addTask_11 : decode cX8_addTask 11 = .ok (.invokevirtual 100, 3) := by decide +kernel
theorem dX8_addTask_14 : decode cX8_addTask 14 = .ok (.invokevirtual 104, 3) := by decide +kernel
theorem dX8_addTask_17 : decode cX8_addTask 17 = .ok (.ireturn, 1) := by decide +kernel
theorem dX8_removes_0 : decode cX8_removes 0 = .ok (.aload_n 0, 1) := by decide +kernel
theorem dX8_removes_1 : decode cX8_removes 1 = .ok (.aload_n 0, 1) := by decide +kernel
theorem dX8_removes_2 : decode cX8_removes 2 = .ok (.iload_n 1, 1) := by decide +kernel
theorem dX8_removes_3 : decode cX8_removes 3 = .ok (.invokevirtual 79, 3) := by decide +kernel
theorem dX8_removes_6 : decode cX8_removes 6 = .ok (.invokevirtual 67, 3) := by decide +kernel
theorem dX8_removes_9 : decode cX8_removes 9 = .ok (.ifCond .ne 5, 3) := by decide +kernel
theorem dX8_removes_12 : decode cX8_removes 12 = .ok (.iconst 0, 1) := by decide +kernel
theorem dX8_removes_13 : decode cX8_removes 13 = .ok (.ireturn, 1) := by decide +kernel
theorem dX8_removes_14 : decode cX8_removes 14 = .ok (.iload_n 1, 1) := by decide +kernel
theorem dX8_removes_15 : decode cX8_removes 15 = .ok (.invokestatic 83, 3) := by decide +kernel
theorem dX8_removes_18 : decode cX8_removes 18 = .ok (.istore_n 2, 1) := by decide +kernel
theorem dX8_removes_19 : decode cX8_removes 19 = .ok (.iload_n 2, 1) := by decide +kernel
theorem dX8_removes_20 : decode cX8_removes 20 = .ok (.bipush 71, 2) := by decide +kernel
theorem dX8_removes_22 : decode cX8_removes 22 = .ok (.if_icmp .ge 24, 3) := by decide +kernel
theorem dX8_removes_25 : decode cX8_removes 25 = .ok (.aload_n 0, 1) := by decide +kernel
theorem dX8_removes_26 : decode cX8_removes 26 = .ok (.getfield 9, 3) := by decide +kernel
theorem dX8_removes_29 : decode cX8_removes 29 = .ok (.iload_n 2, 1) := by decide +kernel
theorem dX8_removes_30 : decode cX8_removes 30 = .ok (.aload_n 0, 1) := by decide +kernel
theorem dX8_removes_31 : decode cX8_removes 31 = .ok (.getfield 9, 3) := by decide +kernel
theorem dX8_removes_34 : decode cX8_removes 34 = .ok (.iload_n 2, 1) := by decide +kernel
theorem dX8_removes_35 : decode cX8_removes 35 = .ok (.bipush 6, 2) := by decide +kernel
theorem dX8_removes_37 : decode cX8_removes 37 = .ok (.iadd, 1) := by decide +kernel
theorem dX8_removes_38 : decode cX8_removes 38 = .ok (.iaload, 1) := by decide +kernel
theorem dX8_removes_39 : decode cX8_removes 39 = .ok (.iastore, 1) := by decide +kernel
theorem dX8_removes_40 : decode cX8_removes 40 = .ok (.iinc 2 1, 3) := by decide +kernel
theorem dX8_removes_43 : decode cX8_removes 43 = .ok (.goto (-24), 3) := by decide +kernel
theorem dX8_removes_46 : decode cX8_removes 46 = .ok (.aload_n 0, 1) := by decide +kernel
theorem dX8_removes_47 : decode cX8_removes 47 = .ok (.getfield 9, 3) := by decide +kernel
theorem dX8_removes_50 : decode cX8_removes 50 = .ok (.iconst 0, 1) := by decide +kernel
theorem dX8_removes_51 : decode cX8_removes 51 = .ok (.dup2, 1) := by decide +kernel
theorem dX8_removes_52 : decode cX8_removes 52 = .ok (.iaload, 1) := by decide +kernel
theorem dX8_removes_53 : decode cX8_removes 53 = .ok (.iconst 1, 1) := by decide +kernel
theorem dX8_removes_54 : decode cX8_removes 54 = .ok (.isub, 1) := by decide +kernel
theorem dX8_removes_55 : decode cX8_removes 55 = .ok (.iastore, 1) := by decide +kernel
theorem dX8_removes_56 : decode cX8_removes 56 = .ok (.iconst 1, 1) := by decide +kernel
theorem dX8_removes_57 : decode cX8_removes 57 = .ok (.iload_n 1, 1) := by decide +kernel
theorem dX8_removes_58 : decode cX8_removes 58 = .ok (.ishl, 1) := by decide +kernel
theorem dX8_removes_59 : decode cX8_removes 59 = .ok (.iconst 1, 1) := by decide +kernel
theorem dX8_removes_60 : decode cX8_removes 60 = .ok (.isub, 1) := by decide +kernel
theorem dX8_removes_61 : decode cX8_removes 61 = .ok (.istore_n 2, 1) := by decide +kernel
theorem dX8_removes_62 : decode cX8_removes 62 = .ok (.iconst 0, 1) := by decide +kernel
theorem dX8_removes_63 : decode cX8_removes 63 = .ok (.istore_n 3, 1) := by decide +kernel
theorem dX8_removes_64 : decode cX8_removes 64 = .ok (.iload_n 3, 1) := by decide +kernel
theorem dX8_removes_65 : decode cX8_removes 65 = .ok (.aload_n 0, 1) := by decide +kernel
theorem dX8_removes_66 : decode cX8_removes 66 = .ok (.getfield 9, 3) := by decide +kernel
theorem dX8_removes_69 : decode cX8_removes 69 = .ok (.iconst 0, 1) := by decide +kernel
theorem dX8_removes_70 : decode cX8_removes 70 = .ok (.iaload, 1) := by decide +kernel
theorem dX8_removes_71 : decode cX8_removes 71 = .ok (.if_icmp .ge 46, 3) := by decide +kernel
theorem dX8_removes_74 : decode cX8_removes 74 = .ok (.aload_n 0, 1) := by decide +kernel
theorem dX8_removes_75 : decode cX8_removes 75 = .ok (.getfield 9, 3) := by decide +kernel
theorem dX8_removes_78 : decode cX8_removes 78 = .ok (.iload_n 3, 1) := by decide +kernel
theorem dX8_removes_79 : decode cX8_removes 79 = .ok (.invokestatic 83, 3) := by decide +kernel
theorem dX8_removes_82 : decode cX8_removes 82 = .ok (.iconst 4, 1) := by decide +kernel
theorem dX8_removes_83 : decode cX8_removes 83 = .ok (.iadd, 1) := by decide +kernel
theorem dX8_removes_84 : decode cX8_removes 84 = .ok (.iaload, 1) := by decide +kernel
theorem dX8_removes_85 : decode cX8_removes 85 = .ok (.istore 4, 2) := by decide +kernel
theorem dX8_removes_87 : decode cX8_removes 87 = .ok (.aload_n 0, 1) := by decide +kernel
theorem dX8_removes_88 : decode cX8_removes 88 = .ok (.getfield 9, 3) := by decide +kernel
theorem dX8_removes_91 : decode cX8_removes 91 = .ok (.iload_n 3, 1) := by decide +kernel
theorem dX8_removes_92 : decode cX8_removes 92 = .ok (.invokestatic 83, 3) := by decide +kernel
theorem dX8_removes_95 : decode cX8_removes 95 = .ok (.iconst 4, 1) := by decide +kernel
theorem dX8_removes_96 : decode cX8_removes 96 = .ok (.iadd, 1) := by decide +kernel
theorem dX8_removes_97 : decode cX8_removes 97 = .ok (.iload 4, 2) := by decide +kernel
theorem dX8_removes_99 : decode cX8_removes 99 = .ok (.iload_n 2, 1) := by decide +kernel
theorem dX8_removes_100 : decode cX8_removes 100 = .ok (.iand, 1) := by decide +kernel
theorem dX8_removes_101 : decode cX8_removes 101 = .ok (.iload 4, 2) := by decide +kernel
theorem dX8_removes_103 : decode cX8_removes 103 = .ok (.iconst 1, 1) := by decide +kernel
theorem dX8_removes_104 : decode cX8_removes 104 = .ok (.ishr, 1) := by decide +kernel
theorem dX8_removes_105 : decode cX8_removes 105 = .ok (.iload_n 2, 1) := by decide +kernel
theorem dX8_removes_106 : decode cX8_removes 106 = .ok (.iconst (-1), 1) := by decide +kernel
theorem dX8_removes_107 : decode cX8_removes 107 = .ok (.ixor, 1) := by decide +kernel
theorem dX8_removes_108 : decode cX8_removes 108 = .ok (.iand, 1) := by decide +kernel
theorem dX8_removes_109 : decode cX8_removes 109 = .ok (.ior, 1) := by decide +kernel
theorem dX8_removes_110 : decode cX8_removes 110 = .ok (.iastore, 1) := by decide +kernel
theorem dX8_removes_111 : decode cX8_removes 111 = .ok (.iinc 3 1, 3) := by decide +kernel
theorem dX8_removes_114 : decode cX8_removes 114 = .ok (.goto (-50), 3) := by decide +kernel
theorem dX8_removes_117 : decode cX8_removes 117 = .ok (.aload_n 0, 1) := by decide +kernel
theorem dX8_removes_118 : decode cX8_removes 118 = .ok (.getfield 9, 3) := by decide +kernel
theorem dX8_removes_121 : decode cX8_removes 121 = .ok (.iconst 0, 1) := by decide +kernel
theorem dX8_removes_122 : decode cX8_removes 122 = .ok (.iaload, 1) := by decide +kernel
theorem dX8_removes_123 : decode cX8_removes 123 = .ok (.ireturn, 1) := by decide +kernel
theorem dX8_removeTask_0 : decode cX8_removeTask 0 = .ok (.aload_n 0, 1) := by decide +kernel
theorem dX8_removeTask_1 : decode cX8_removeTask 1 = .ok (.invokevirtual 97, 3) := by decide +kernel
theorem dX8_removeTask_4 : decode cX8_removeTask 4 = .ok (.aload_n 0, 1) := by decide +kernel
theorem dX8_removeTask_5 : decode cX8_removeTask 5 = .ok (.aload_n 0, 1) := by decide +kernel
theorem dX8_removeTask_6 : decode cX8_removeTask 6 = .ok (.iload_n 1, 1) := by decide +kernel
theorem dX8_removeTask_7 : decode cX8_removeTask 7 = .ok (.invokevirtual 107, 3) := by decide +kernel
theorem dX8_removeTask_10 : decode cX8_removeTask 10 = .ok (.invokevirtual 104, 3) := by decide +kernel
theorem dX8_removeTask_13 : decode cX8_removeTask 13 = .ok (.ireturn, 1) := by decide +kernel
theorem dX8_links_0 : decode cX8_links 0 = .ok (.aload_n 0, 1) := by decide +kernel
theorem dX8_links_1 : decode cX8_links 1 = .ok (.iload_n 1, 1) := by decide +kernel
theorem dX8_links_2 : decode cX8_links 2 = .ok (.invokevirtual 79, 3) := by decide +kernel
theorem dX8_links_5 : decode cX8_links 5 = .ok (.ifCond .eq 15, 3) := by decide +kernel
theorem dX8_links_8 : decode cX8_links 8 = .ok (.aload_n 0, 1) := by decide +kernel
theorem dX8_links_9 : decode cX8_links 9 = .ok (.iload_n 2, 1) := by decide +kernel
theorem dX8_links_10 : decode cX8_links 10 = .ok (.invokevirtual 79, 3) := by decide +kernel
theorem dX8_links_13 : decode cX8_links 13 = .ok (.ifCond .eq 7, 3) := by decide +kernel
theorem dX8_links_16 : decode cX8_links 16 = .ok (.iconst 1, 1) := by decide +kernel
theorem dX8_links_17 : decode cX8_links 17 = .ok (.goto 4, 3) := by decide +kernel
theorem dX8_links_20 : decode cX8_links 20 = .ok (.iconst 0, 1) := by decide +kernel
theorem dX8_links_21 : decode cX8_links 21 = .ok (.istore_n 3, 1) := by decide +kernel
theorem dX8_links_22 : decode cX8_links 22 = .ok (.aload_n 0, 1) := by decide +kernel
theorem dX8_links_23 : decode cX8_links 23 = .ok (.iload_n 3, 1) := by decide +kernel
theorem dX8_links_24 : decode cX8_links 24 = .ok (.iload_n 1, 1) := by decide +kernel
theorem dX8_links_25 : decode cX8_links 25 = .ok (.iload_n 2, 1) := by decide +kernel
theorem dX8_links_26 : decode cX8_links 26 = .ok (.if_icmp .eq 7, 3) := by decide +kernel
theorem dX8_links_29 : decode cX8_links 29 = .ok (.iconst 1, 1) := by decide +kernel
theorem dX8_links_30 : decode cX8_links 30 = .ok (.goto 4, 3) := by decide +kernel
theorem dX8_links_33 : decode cX8_links 33 = .ok (.iconst 0, 1) := by decide +kernel
theorem dX8_links_34 : decode cX8_links 34 = .ok (.iload_n 3, 1) := by decide +kernel
theorem dX8_links_35 : decode cX8_links 35 = .ok (.ifCond .eq 16, 3) := by decide +kernel
theorem dX8_links_38 : decode cX8_links 38 = .ok (.aload_n 0, 1) := by decide +kernel
theorem dX8_links_39 : decode cX8_links 39 = .ok (.iload_n 2, 1) := by decide +kernel
theorem dX8_links_40 : decode cX8_links 40 = .ok (.iload_n 1, 1) := by decide +kernel
theorem dX8_links_41 : decode cX8_links 41 = .ok (.invokevirtual 110, 3) := by decide +kernel
theorem dX8_links_44 : decode cX8_links 44 = .ok (.ifCond .ne 7, 3) := by decide +kernel
theorem dX8_links_47 : decode cX8_links 47 = .ok (.iconst 1, 1) := by decide +kernel
theorem dX8_links_48 : decode cX8_links 48 = .ok (.goto 4, 3) := by decide +kernel
theorem dX8_links_51 : decode cX8_links 51 = .ok (.iconst 0, 1) := by decide +kernel
theorem dX8_links_52 : decode cX8_links 52 = .ok (.invokevirtual 53, 3) := by decide +kernel
theorem dX8_links_55 : decode cX8_links 55 = .ok (.ifCond .ne 5, 3) := by decide +kernel
theorem dX8_links_58 : decode cX8_links 58 = .ok (.iconst 0, 1) := by decide +kernel
theorem dX8_links_59 : decode cX8_links 59 = .ok (.ireturn, 1) := by decide +kernel
theorem dX8_links_60 : decode cX8_links 60 = .ok (.aload_n 0, 1) := by decide +kernel
theorem dX8_links_61 : decode cX8_links 61 = .ok (.iload_n 1, 1) := by decide +kernel
theorem dX8_links_62 : decode cX8_links 62 = .ok (.iload_n 2, 1) := by decide +kernel
theorem dX8_links_63 : decode cX8_links 63 = .ok (.invokevirtual 114, 3) := by decide +kernel
theorem dX8_links_66 : decode cX8_links 66 = .ok (.ifCond .eq 7, 3) := by decide +kernel
theorem dX8_links_69 : decode cX8_links 69 = .ok (.iconst 1, 1) := by decide +kernel
theorem dX8_links_70 : decode cX8_links 70 = .ok (.goto 4, 3) := by decide +kernel
theorem dX8_links_73 : decode cX8_links 73 = .ok (.iconst 0, 1) := by decide +kernel
theorem dX8_links_74 : decode cX8_links 74 = .ok (.istore 4, 2) := by decide +kernel
theorem dX8_links_76 : decode cX8_links 76 = .ok (.aload_n 0, 1) := by decide +kernel
theorem dX8_links_77 : decode cX8_links 77 = .ok (.getfield 9, 3) := by decide +kernel
theorem dX8_links_80 : decode cX8_links 80 = .ok (.iload_n 1, 1) := by decide +kernel
theorem dX8_links_81 : decode cX8_links 81 = .ok (.invokestatic 83, 3) := by decide +kernel
theorem dX8_links_84 : decode cX8_links 84 = .ok (.iconst 4, 1) := by decide +kernel
theorem dX8_links_85 : decode cX8_links 85 = .ok (.iadd, 1) := by decide +kernel
theorem dX8_links_86 : decode cX8_links 86 = .ok (.dup2, 1) := by decide +kernel
theorem dX8_links_87 : decode cX8_links 87 = .ok (.iaload, 1) := by decide +kernel
theorem dX8_links_88 : decode cX8_links 88 = .ok (.iconst 1, 1) := by decide +kernel
theorem dX8_links_89 : decode cX8_links 89 = .ok (.iload_n 2, 1) := by decide +kernel
theorem dX8_links_90 : decode cX8_links 90 = .ok (.ishl, 1) := by decide +kernel
theorem dX8_links_91 : decode cX8_links 91 = .ok (.ior, 1) := by decide +kernel
theorem dX8_links_92 : decode cX8_links 92 = .ok (.iastore, 1) := by decide +kernel
theorem dX8_links_93 : decode cX8_links 93 = .ok (.iload 4, 2) := by decide +kernel
theorem dX8_links_95 : decode cX8_links 95 = .ok (.ireturn, 1) := by decide +kernel
theorem dX8_addDependency_0 : decode cX8_addDependency 0 = .ok (.aload_n 0, 1) := by decide +kernel
theorem dX8_addDependency_1 : decode cX8_addDependency 1 = .ok (.invokevirtual 97, 3) := by decide +kernel
theorem dX8_addDependency_4 : decode cX8_addDependency 4 = .ok (.aload_n 0, 1) := by decide +kernel
theorem dX8_addDependency_5 : decode cX8_addDependency 5 = .ok (.aload_n 0, 1) := by decide +kernel
theorem dX8_addDependency_6 : decode cX8_addDependency 6 = .ok (.iload_n 1, 1) := by decide +kernel
theorem dX8_addDependency_7 : decode cX8_addDependency 7 = .ok (.iload_n 2, 1) := by decide +kernel
theorem dX8_addDependency_8 : decode cX8_addDependency 8 = .ok (.invokevirtual 117, 3) := by decide +kernel
theorem dX8_addDependency_11 : decode cX8_addDependency 11 = .ok (.invokevirtual 104, 3) := by decide +kernel
theorem dX8_addDependency_14 : decode cX8_addDependency 14 = .ok (.istore_n 3, 1) := by decide +kernel
theorem dX8_addDependency_15 : decode cX8_addDependency 15 = .ok (.aload_n 0, 1) := by decide +kernel
theorem dX8_addDependency_16 : decode cX8_addDependency 16 = .ok (.getfield 50, 3) := by decide +kernel
theorem dX8_addDependency_19 : decode cX8_addDependency 19 = .ok (.ifCond .ne 11, 3) := by decide +kernel
theorem dX8_addDependency_22 : decode cX8_addDependency 22 = .ok (.iload_n 3, 1) := by decide +kernel
theorem dX8_addDependency_23 : decode cX8_addDependency 23 = .ok (.ifCond .ne 7, 3) := by decide +kernel
theorem dX8_addDependency_26 : decode cX8_addDependency 26 = .ok (.iconst 1, 1) := by decide +kernel
theorem dX8_addDependency_27 : decode cX8_addDependency 27 = .ok (.goto 4, 3) := by decide +kernel
theorem dX8_addDependency_30 : decode cX8_addDependency 30 = .ok (.iconst 0, 1) := by decide +kernel
theorem dX8_addDependency_31 : decode cX8_addDependency 31 = .ok (.ireturn, 1) := by decide +kernel
theorem dX8_unlinks_0 : decode cX8_unlinks 0 = .ok (.aload_n 0, 1) := by decide +kernel
theorem dX8_unlinks_1 : decode cX8_unlinks 1 = .ok (.aload_n 0, 1) := by decide +kernel
theorem dX8_unlinks_2 : decode cX8_unlinks 2 = .ok (.iload_n 1, 1) := by decide +kernel
theorem dX8_unlinks_3 : decode cX8_unlinks 3 = .ok (.invokevirtual 79, 3) := by decide +kernel
theorem dX8_unlinks_6 : decode cX8_unlinks 6 = .ok (.ifCond .eq 15, 3) := by decide +kernel
theorem dX8_unlinks_9 : decode cX8_unlinks 9 = .ok (.aload_n 0, 1) := by decide +kernel
theorem dX8_unlinks_10 : decode cX8_unlinks 10 = .ok (.iload_n 2, 1) := by decide +kernel
theorem dX8_unlinks_11 : decode cX8_unlinks 11 = .ok (.invokevirtual 79, 3) := by decide +kernel
theorem dX8_unlinks_14 : decode cX8_unlinks 14 = .ok (.ifCond .eq 7, 3) := by decide +kernel
theorem dX8_unlinks_17 : decode cX8_unlinks 17 = .ok (.iconst 1, 1) := by decide +kernel
theorem dX8_unlinks_18 : decode cX8_unlinks 18 = .ok (.goto 4, 3) := by decide +kernel
theorem dX8_unlinks_21 : decode cX8_unlinks 21 = .ok (.iconst 0, 1) := by decide +kernel
theorem dX8_unlinks_22 : decode cX8_unlinks 22 = .ok (.invokevirtual 67, 3) := by decide +kernel
theorem dX8_unlinks_25 : decode cX8_unlinks 25 = .ok (.ifCond .ne 5, 3) := by decide +kernel
theorem dX8_unlinks_28 : decode cX8_unlinks 28 = .ok (.iconst 0, 1) := by decide +kernel
theorem dX8_unlinks_29 : decode cX8_unlinks 29 = .ok (.ireturn, 1) := by decide +kernel
theorem dX8_unlinks_30 : decode cX8_unlinks 30 = .ok (.aload_n 0, 1) := by decide +kernel
theorem dX8_unlinks_31 : decode cX8_unlinks 31 = .ok (.iload_n 1, 1) := by decide +kernel
theorem dX8_unlinks_32 : decode cX8_unlinks 32 = .ok (.iload_n 2, 1) := by decide +kernel
theorem dX8_unlinks_33 : decode cX8_unlinks 33 = .ok (.invokevirtual 114, 3) := by decide +kernel
theorem dX8_unlinks_36 : decode cX8_unlinks 36 = .ok (.ifCond .eq 7, 3) := by decide +kernel
theorem dX8_unlinks_39 : decode cX8_unlinks 39 = .ok (.iconst 1, 1) := by decide +kernel
theorem dX8_unlinks_40 : decode cX8_unlinks 40 = .ok (.goto 4, 3) := by decide +kernel
theorem dX8_unlinks_43 : decode cX8_unlinks 43 = .ok (.iconst 0, 1) := by decide +kernel
theorem dX8_unlinks_44 : decode cX8_unlinks 44 = .ok (.istore_n 3, 1) := by decide +kernel
theorem dX8_unlinks_45 : decode cX8_unlinks 45 = .ok (.aload_n 0, 1) := by decide +kernel
theorem dX8_unlinks_46 : decode cX8_unlinks 46 = .ok (.getfield 9, 3) := by decide +kernel
theorem dX8_unlinks_49 : decode cX8_unlinks 49 = .ok (.iload_n 1, 1) := by decide +kernel
theorem dX8_unlinks_50 : decode cX8_unlinks 50 = .ok (.invokestatic 83, 3) := by decide +kernel
theorem dX8_unlinks_53 : decode cX8_unlinks 53 = .ok (.iconst 4, 1) := by decide +kernel
theorem dX8_unlinks_54 : decode cX8_unlinks 54 = .ok (.iadd, 1) := by decide +kernel
theorem dX8_unlinks_55 : decode cX8_unlinks 55 = .ok (.dup2, 1) := by decide +kernel
theorem dX8_unlinks_56 : decode cX8_unlinks 56 = .ok (.iaload, 1) := by decide +kernel
theorem dX8_unlinks_57 : decode cX8_unlinks 57 = .ok (.iconst 1, 1) := by decide +kernel
theorem dX8_unlinks_58 : decode cX8_unlinks 58 = .ok (.iload_n 2, 1) := by decide +kernel
theorem dX8_unlinks_59 : decode cX8_unlinks 59 = .ok (.ishl, 1) := by decide +kernel
theorem dX8_unlinks_60 : decode cX8_unlinks 60 = .ok (.iconst (-1), 1) := by decide +kernel
theorem dX8_unlinks_61 : decode cX8_unlinks 61 = .ok (.ixor, 1) := by decide +kernel
theorem dX8_unlinks_62 : decode cX8_unlinks 62 = .ok (.iand, 1) := by decide +kernel
theorem dX8_unlinks_63 : decode cX8_unlinks 63 = .ok (.iastore, 1) := by decide +kernel
theorem dX8_unlinks_64 : decode cX8_unlinks 64 = .ok (.iload_n 3, 1) := by decide +kernel
theorem dX8_unlinks_65 : decode cX8_unlinks 65 = .ok (.ireturn, 1) := by decide +kernel
theorem dX8_removeDependency_0 : decode cX8_removeDependency 0 = .ok (.aload_n 0, 1) := by decide +kernel
theorem dX8_removeDependency_1 : decode cX8_removeDependency 1 = .ok (.invokevirtual 97, 3) := by decide +kernel
theorem dX8_removeDependency_4 : decode cX8_removeDependency 4 = .ok (.aload_n 0, 1) := by decide +kernel
theorem dX8_removeDependency_5 : decode cX8_removeDependency 5 = .ok (.aload_n 0, 1) := by decide +kernel
theorem dX8_removeDependency_6 : decode cX8_removeDependency 6 = .ok (.iload_n 1, 1) := by decide +kernel
theorem dX8_removeDependency_7 : decode cX8_removeDependency 7 = .ok (.iload_n 2, 1) := by decide +kernel
theorem dX8_removeDependency_8 : decode cX8_removeDependency 8 = .ok (.invokevirtual 120, 3) := by decide +kernel
theorem dX8_removeDependency_11 : decode cX8_removeDependency 11 = .ok (.invokevirtual 104, 3) := by decide +kernel
theorem dX8_removeDependency_14 : decode cX8_removeDependency 14 = .ok (.iconst 1, 1) := by decide +kernel
theorem dX8_removeDependency_15 : decode cX8_removeDependency 15 = .ok (.if_icmp .ne 7, 3) := by decide +kernel
theorem dX8_removeDependency_18 : decode cX8_removeDependency 18 = .ok (.iconst 1, 1) := by decide +kernel
theorem dX8_removeDependency_19 : decode cX8_removeDependency 19 = .ok (.goto 4, 3) := by decide +kernel
theorem dX8_removeDependency_22 : decode cX8_removeDependency 22 = .ok (.iconst 0, 1) := by decide +kernel
theorem dX8_removeDependency_23 : decode cX8_removeDependency 23 = .ok (.ireturn, 1) := by decide +kernel
theorem dX8_sets_0 : decode cX8_sets 0 = .ok (.aload_n 0, 1) := by decide +kernel
theorem dX8_sets_1 : decode cX8_sets 1 = .ok (.iload_n 1, 1) := by decide +kernel
theorem dX8_sets_2 : decode cX8_sets 2 = .ok (.iload_n 2, 1) := by decide +kernel
theorem dX8_sets_3 : decode cX8_sets 3 = .ok (.invokevirtual 87, 3) := by decide +kernel
theorem dX8_sets_6 : decode cX8_sets 6 = .ok (.istore 6, 2) := by decide +kernel
theorem dX8_sets_8 : decode cX8_sets 8 = .ok (.aload_n 0, 1) := by decide +kernel
theorem dX8_sets_9 : decode cX8_sets 9 = .ok (.aload_n 0, 1) := by decide +kernel
theorem dX8_sets_10 : decode cX8_sets 10 = .ok (.iload_n 1, 1) := by decide +kernel
theorem dX8_sets_11 : decode cX8_sets 11 = .ok (.invokevirtual 79, 3) := by decide +kernel
theorem dX8_sets_14 : decode cX8_sets 14 = .ok (.iload_n 3, 1) := by decide +kernel
theorem dX8_sets_15 : decode cX8_sets 15 = .ok (.iload 4, 2) := by decide +kernel
theorem dX8_sets_17 : decode cX8_sets 17 = .ok (.iload 5, 2) := by decide +kernel
theorem dX8_sets_19 : decode cX8_sets 19 = .ok (.invokestatic 75, 3) := by decide +kernel
theorem dX8_sets_22 : decode cX8_sets 22 = .ok (.iconst 1, 1) := by decide +kernel
theorem dX8_sets_23 : decode cX8_sets 23 = .ok (.invokevirtual 53, 3) := by decide +kernel
theorem dX8_sets_26 : decode cX8_sets 26 = .ok (.ifCond .eq 15, 3) := by decide +kernel
theorem dX8_sets_29 : decode cX8_sets 29 = .ok (.aload_n 0, 1) := by decide +kernel
theorem dX8_sets_30 : decode cX8_sets 30 = .ok (.getfield 9, 3) := by decide +kernel
theorem dX8_sets_33 : decode cX8_sets 33 = .ok (.iload_n 1, 1) := by decide +kernel
theorem dX8_sets_34 : decode cX8_sets 34 = .ok (.invokestatic 83, 3) := by decide +kernel
theorem dX8_sets_37 : decode cX8_sets 37 = .ok (.iload_n 2, 1) := by decide +kernel
theorem dX8_sets_38 : decode cX8_sets 38 = .ok (.iadd, 1) := by decide +kernel
theorem dX8_sets_39 : decode cX8_sets 39 = .ok (.iload_n 3, 1) := by decide +kernel
theorem dX8_sets_40 : decode cX8_sets 40 = .ok (.iastore, 1) := by decide +kernel
theorem dX8_sets_41 : decode cX8_sets 41 = .ok (.iload 6, 2) := by decide +kernel
theorem dX8_sets_43 : decode cX8_sets 43 = .ok (.ireturn, 1) := by decide +kernel
theorem dX8_setDuration_0 : decode cX8_setDuration 0 = .ok (.aload_n 0, 1) := by decide +kernel
theorem dX8_setDuration_1 : decode cX8_setDuration 1 = .ok (.invokevirtual 97, 3) := by decide +kernel
theorem dX8_setDuration_4 : decode cX8_setDuration 4 = .ok (.aload_n 0, 1) := by decide +kernel
theorem dX8_setDuration_5 : decode cX8_setDuration 5 = .ok (.aload_n 0, 1) := by decide +kernel
theorem dX8_setDuration_6 : decode cX8_setDuration 6 = .ok (.iload_n 1, 1) := by decide +kernel
theorem dX8_setDuration_7 : decode cX8_setDuration 7 = .ok (.iconst 0, 1) := by decide +kernel
theorem dX8_setDuration_8 : decode cX8_setDuration 8 = .ok (.iload_n 2, 1) := by decide +kernel
theorem dX8_setDuration_9 : decode cX8_setDuration 9 = .ok (.iconst 1, 1) := by decide +kernel
theorem dX8_setDuration_10 : decode cX8_setDuration 10 = .ok (.bipush 9, 2) := by decide +kernel
theorem dX8_setDuration_12 : decode cX8_setDuration 12 = .ok (.invokevirtual 123, 3) := by decide +kernel
theorem dX8_setDuration_15 : decode cX8_setDuration 15 = .ok (.invokevirtual 104, 3) := by decide +kernel
theorem dX8_setDuration_18 : decode cX8_setDuration 18 = .ok (.ireturn, 1) := by decide +kernel
theorem dX8_setRelease_0 : decode cX8_setRelease 0 = .ok (.aload_n 0, 1) := by decide +kernel
theorem dX8_setRelease_1 : decode cX8_setRelease 1 = .ok (.invokevirtual 97, 3) := by decide +kernel
theorem dX8_setRelease_4 : decode cX8_setRelease 4 = .ok (.aload_n 0, 1) := by decide +kernel
theorem dX8_setRelease_5 : decode cX8_setRelease 5 = .ok (.aload_n 0, 1) := by decide +kernel
theorem dX8_setRelease_6 : decode cX8_setRelease 6 = .ok (.iload_n 1, 1) := by decide +kernel
theorem dX8_setRelease_7 : decode cX8_setRelease 7 = .ok (.iconst 3, 1) := by decide +kernel
theorem dX8_setRelease_8 : decode cX8_setRelease 8 = .ok (.iload_n 2, 1) := by decide +kernel
theorem dX8_setRelease_9 : decode cX8_setRelease 9 = .ok (.iconst 0, 1) := by decide +kernel
theorem dX8_setRelease_10 : decode cX8_setRelease 10 = .ok (.bipush 30, 2) := by decide +kernel
theorem dX8_setRelease_12 : decode cX8_setRelease 12 = .ok (.invokevirtual 123, 3) := by decide +kernel
theorem dX8_setRelease_15 : decode cX8_setRelease 15 = .ok (.invokevirtual 104, 3) := by decide +kernel
theorem dX8_setRelease_18 : decode cX8_setRelease 18 = .ok (.ireturn, 1) := by decide +kernel
theorem dX8_limits_0 : decode cX8_limits 0 = .ok (.aload_n 0, 1) := by decide +kernel
theorem dX8_limits_1 : decode cX8_limits 1 = .ok (.iload_n 1, 1) := by decide +kernel
theorem dX8_limits_2 : decode cX8_limits 2 = .ok (.invokestatic 94, 3) := by decide +kernel
theorem dX8_limits_5 : decode cX8_limits 5 = .ok (.ifCond .eq 17, 3) := by decide +kernel
theorem dX8_limits_8 : decode cX8_limits 8 = .ok (.iload_n 2, 1) := by decide +kernel
theorem dX8_limits_9 : decode cX8_limits 9 = .ok (.iconst 5, 1) := by decide +kernel
theorem dX8_limits_10 : decode cX8_limits 10 = .ok (.bipush 20, 2) := by decide +kernel
theorem dX8_limits_12 : decode cX8_limits 12 = .ok (.invokestatic 75, 3) := by decide +kernel
theorem dX8_limits_15 : decode cX8_limits 15 = .ok (.ifCond .eq 7, 3) := by decide +kernel
theorem dX8_limits_18 : decode cX8_limits 18 = .ok (.iconst 1, 1) := by decide +kernel
theorem dX8_limits_19 : decode cX8_limits 19 = .ok (.goto 4, 3) := by decide +kernel
theorem dX8_limits_22 : decode cX8_limits 22 = .ok (.iconst 0, 1) := by decide +kernel
theorem dX8_limits_23 : decode cX8_limits 23 = .ok (.invokevirtual 67, 3) := by decide +kernel
theorem dX8_limits_26 : decode cX8_limits 26 = .ok (.ifCond .ne 5, 3) := by decide +kernel
theorem dX8_limits_29 : decode cX8_limits 29 = .ok (.iconst 0, 1) := by decide +kernel
theorem dX8_limits_30 : decode cX8_limits 30 = .ok (.ireturn, 1) := by decide +kernel
theorem dX8_limits_31 : decode cX8_limits 31 = .ok (.aload_n 0, 1) := by decide +kernel
theorem dX8_limits_32 : decode cX8_limits 32 = .ok (.getfield 9, 3) := by decide +kernel
theorem dX8_limits_35 : decode cX8_limits 35 = .ok (.iconst 2, 1) := by decide +kernel
theorem dX8_limits_36 : decode cX8_limits 36 = .ok (.iload_n 1, 1) := by decide +kernel
theorem dX8_limits_37 : decode cX8_limits 37 = .ok (.iadd, 1) := by decide +kernel
theorem dX8_limits_38 : decode cX8_limits 38 = .ok (.iaload, 1) := by decide +kernel
theorem dX8_limits_39 : decode cX8_limits 39 = .ok (.istore_n 3, 1) := by decide +kernel
theorem dX8_limits_40 : decode cX8_limits 40 = .ok (.aload_n 0, 1) := by decide +kernel
theorem dX8_limits_41 : decode cX8_limits 41 = .ok (.getfield 9, 3) := by decide +kernel
theorem dX8_limits_44 : decode cX8_limits 44 = .ok (.iconst 2, 1) := by decide +kernel
theorem dX8_limits_45 : decode cX8_limits 45 = .ok (.iload_n 1, 1) := by decide +kernel
theorem dX8_limits_46 : decode cX8_limits 46 = .ok (.iadd, 1) := by decide +kernel
theorem dX8_limits_47 : decode cX8_limits 47 = .ok (.iload_n 2, 1) := by decide +kernel
theorem dX8_limits_48 : decode cX8_limits 48 = .ok (.iastore, 1) := by decide +kernel
theorem dX8_limits_49 : decode cX8_limits 49 = .ok (.iload_n 3, 1) := by decide +kernel
theorem dX8_limits_50 : decode cX8_limits 50 = .ok (.ireturn, 1) := by decide +kernel
theorem dX8_setLimit_0 : decode cX8_setLimit 0 = .ok (.aload_n 0, 1) := by decide +kernel
theorem dX8_setLimit_1 : decode cX8_setLimit 1 = .ok (.invokevirtual 97, 3) := by decide +kernel
theorem dX8_setLimit_4 : decode cX8_setLimit 4 = .ok (.aload_n 0, 1) := by decide +kernel
theorem dX8_setLimit_5 : decode cX8_setLimit 5 = .ok (.aload_n 0, 1) := by decide +kernel
theorem dX8_setLimit_6 : decode cX8_setLimit 6 = .ok (.iload_n 1, 1) := by decide +kernel
theorem dX8_setLimit_7 : decode cX8_setLimit 7 = .ok (.iload_n 2, 1) := by decide +kernel
theorem dX8_setLimit_8 : decode cX8_setLimit 8 = .ok (.invokevirtual 127, 3) := by decide +kernel
theorem dX8_setLimit_11 : decode cX8_setLimit 11 = .ok (.invokevirtual 104, 3) := by decide +kernel
theorem dX8_setLimit_14 : decode cX8_setLimit 14 = .ok (.ireturn, 1) := by decide +kernel
theorem dX8_marks_0 : decode cX8_marks 0 = .ok (.aload_n 0, 1) := by decide +kernel
theorem dX8_marks_1 : decode cX8_marks 1 = .ok (.iconst 0, 1) := by decide +kernel
theorem dX8_marks_2 : decode cX8_marks 2 = .ok (.putfield 50, 3) := by decide +kernel
theorem dX8_marks_5 : decode cX8_marks 5 = .ok (.aload_n 0, 1) := by decide +kernel
theorem dX8_marks_6 : decode cX8_marks 6 = .ok (.invokevirtual 130, 3) := by decide +kernel
theorem dX8_marks_9 : decode cX8_marks 9 = .ok (.iconst 0, 1) := by decide +kernel
theorem dX8_marks_10 : decode cX8_marks 10 = .ok (.istore_n 1, 1) := by decide +kernel
theorem dX8_marks_11 : decode cX8_marks 11 = .ok (.iload_n 1, 1) := by decide +kernel
theorem dX8_marks_12 : decode cX8_marks 12 = .ok (.aload_n 0, 1) := by decide +kernel
theorem dX8_marks_13 : decode cX8_marks 13 = .ok (.getfield 9, 3) := by decide +kernel
theorem dX8_marks_16 : decode cX8_marks 16 = .ok (.iconst 0, 1) := by decide +kernel
theorem dX8_marks_17 : decode cX8_marks 17 = .ok (.iaload, 1) := by decide +kernel
theorem dX8_marks_18 : decode cX8_marks 18 = .ok (.if_icmp .ge 26, 3) := by decide +kernel
theorem dX8_marks_21 : decode cX8_marks 21 = .ok (.aload_n 0, 1) := by decide +kernel
theorem dX8_marks_22 : decode cX8_marks 22 = .ok (.getfield 9, 3) := by decide +kernel
theorem dX8_marks_25 : decode cX8_marks 25 = .ok (.iload_n 1, 1) := by decide +kernel
theorem dX8_marks_26 : decode cX8_marks 26 = .ok (.invokestatic 83, 3) := by decide +kernel
theorem dX8_marks_29 : decode cX8_marks 29 = .ok (.iconst 5, 1) := by decide +kernel
theorem dX8_marks_30 : decode cX8_marks 30 = .ok (.iadd, 1) := by decide +kernel
theorem dX8_marks_31 : decode cX8_marks 31 = .ok (.aload_n 0, 1) := by decide +kernel
theorem dX8_marks_32 : decode cX8_marks 32 = .ok (.getfield 35, 3) := by decide +kernel
theorem dX8_marks_35 : decode cX8_marks 35 = .ok (.iload_n 1, 1) := by decide +kernel
theorem dX8_marks_36 : decode cX8_marks 36 = .ok (.iaload, 1) := by decide +kernel
theorem dX8_marks_37 : decode cX8_marks 37 = .ok (.iastore, 1) := by decide +kernel
theorem dX8_marks_38 : decode cX8_marks 38 = .ok (.iinc 1 1, 3) := by decide +kernel
theorem dX8_marks_41 : decode cX8_marks 41 = .ok (.goto (-30), 3) := by decide +kernel
theorem dX8_marks_44 : decode cX8_marks 44 = .ok (.aload_n 0, 1) := by decide +kernel
theorem dX8_marks_45 : decode cX8_marks 45 = .ok (.getfield 9, 3) := by decide +kernel
theorem dX8_marks_48 : decode cX8_marks 48 = .ok (.iconst 1, 1) := by decide +kernel
theorem dX8_marks_49 : decode cX8_marks 49 = .ok (.iconst 1, 1) := by decide +kernel
theorem dX8_marks_50 : decode cX8_marks 50 = .ok (.iastore, 1) := by decide +kernel
theorem dX8_marks_51 : decode cX8_marks 51 = .ok (.aload_n 0, 1) := by decide +kernel
theorem dX8_marks_52 : decode cX8_marks 52 = .ok (.aload_n 0, 1) := by decide +kernel
theorem dX8_marks_53 : decode cX8_marks 53 = .ok (.getfield 35, 3) := by decide +kernel
theorem dX8_marks_56 : decode cX8_marks 56 = .ok (.invokevirtual 133, 3) := by decide +kernel
theorem dX8_marks_59 : decode cX8_marks 59 = .ok (.ireturn, 1) := by decide +kernel
theorem dX8_takeBaseline_0 : decode cX8_takeBaseline 0 = .ok (.aload_n 0, 1) := by decide +kernel
theorem dX8_takeBaseline_1 : decode cX8_takeBaseline 1 = .ok (.invokevirtual 97, 3) := by decide +kernel
theorem dX8_takeBaseline_4 : decode cX8_takeBaseline 4 = .ok (.aload_n 0, 1) := by decide +kernel
theorem dX8_takeBaseline_5 : decode cX8_takeBaseline 5 = .ok (.aload_n 0, 1) := by decide +kernel
theorem dX8_takeBaseline_6 : decode cX8_takeBaseline 6 = .ok (.invokevirtual 137, 3) := by decide +kernel
theorem dX8_takeBaseline_9 : decode cX8_takeBaseline 9 = .ok (.invokevirtual 104, 3) := by decide +kernel
theorem dX8_takeBaseline_12 : decode cX8_takeBaseline 12 = .ok (.ireturn, 1) := by decide +kernel
theorem dX8_lastOf_0 : decode cX8_lastOf 0 = .ok (.iconst 0, 1) := by decide +kernel
theorem dX8_lastOf_1 : decode cX8_lastOf 1 = .ok (.istore_n 2, 1) := by decide +kernel
theorem dX8_lastOf_2 : decode cX8_lastOf 2 = .ok (.iconst 0, 1) := by decide +kernel
theorem dX8_lastOf_3 : decode cX8_lastOf 3 = .ok (.istore_n 3, 1) := by decide +kernel
theorem dX8_lastOf_4 : decode cX8_lastOf 4 = .ok (.iload_n 3, 1) := by decide +kernel
theorem dX8_lastOf_5 : decode cX8_lastOf 5 = .ok (.aload_n 0, 1) := by decide +kernel
theorem dX8_lastOf_6 : decode cX8_lastOf 6 = .ok (.getfield 9, 3) := by decide +kernel
theorem dX8_lastOf_9 : decode cX8_lastOf 9 = .ok (.iconst 0, 1) := by decide +kernel
theorem dX8_lastOf_10 : decode cX8_lastOf 10 = .ok (.iaload, 1) := by decide +kernel
theorem dX8_lastOf_11 : decode cX8_lastOf 11 = .ok (.if_icmp .ge 24, 3) := by decide +kernel
theorem dX8_lastOf_14 : decode cX8_lastOf 14 = .ok (.iload_n 2, 1) := by decide +kernel
theorem dX8_lastOf_15 : decode cX8_lastOf 15 = .ok (.aload_n 1, 1) := by decide +kernel
theorem dX8_lastOf_16 : decode cX8_lastOf 16 = .ok (.iload_n 3, 1) := by decide +kernel
theorem dX8_lastOf_17 : decode cX8_lastOf 17 = .ok (.iaload, 1) := by decide +kernel
theorem dX8_lastOf_18 : decode cX8_lastOf 18 = .ok (.aload_n 0, 1) := by decide +kernel
theorem dX8_lastOf_19 : decode cX8_lastOf 19 = .ok (.iload_n 3, 1) := by decide +kernel
theorem dX8_lastOf_20 : decode cX8_lastOf 20 = .ok (.iconst 0, 1) := by decide +kernel
theorem dX8_lastOf_21 : decode cX8_lastOf 21 = .ok (.invokevirtual 87, 3) := by decide +kernel
theorem dX8_lastOf_24 : decode cX8_lastOf 24 = .ok (.iadd, 1) := by decide +kernel
theorem dX8_lastOf_25 : decode cX8_lastOf 25 = .ok (.invokestatic 141, 3) := by decide +kernel
theorem dX8_lastOf_28 : decode cX8_lastOf 28 = .ok (.istore_n 2, 1) := by decide +kernel
theorem dX8_lastOf_29 : decode cX8_lastOf 29 = .ok (.iinc 3 1, 3) := by decide +kernel
theorem dX8_lastOf_32 : decode cX8_lastOf 32 = .ok (.goto (-28), 3) := by decide +kernel
theorem dX8_lastOf_35 : decode cX8_lastOf 35 = .ok (.iload_n 2, 1) := by decide +kernel
theorem dX8_lastOf_36 : decode cX8_lastOf 36 = .ok (.ireturn, 1) := by decide +kernel
theorem dX8_soonest_0 : decode cX8_soonest 0 = .ok (.aload_n 0, 1) := by decide +kernel
theorem dX8_soonest_1 : decode cX8_soonest 1 = .ok (.iload_n 1, 1) := by decide +kernel
theorem dX8_soonest_2 : decode cX8_soonest 2 = .ok (.iconst 3, 1) := by decide +kernel
theorem dX8_soonest_3 : decode cX8_soonest 3 = .ok (.invokevirtual 87, 3) := by decide +kernel
theorem dX8_soonest_6 : decode cX8_soonest 6 = .ok (.istore_n 3, 1) := by decide +kernel
theorem dX8_soonest_7 : decode cX8_soonest 7 = .ok (.iconst 0, 1) := by decide +kernel
theorem dX8_soonest_8 : decode cX8_soonest 8 = .ok (.istore 4, 2) := by decide +kernel
theorem dX8_soonest_10 : decode cX8_soonest 10 = .ok (.iload 4, 2) := by decide +kernel
theorem dX8_soonest_12 : decode cX8_soonest 12 = .ok (.aload_n 0, 1) := by decide +kernel
theorem dX8_soonest_13 : decode cX8_soonest 13 = .ok (.getfield 9, 3) := by decide +kernel
theorem dX8_soonest_16 : decode cX8_soonest 16 = .ok (.iconst 0, 1) := by decide +kernel
theorem dX8_soonest_17 : decode cX8_soonest 17 = .ok (.iaload, 1) := by decide +kernel
theorem dX8_soonest_18 : decode cX8_soonest 18 = .ok (.if_icmp .ge 40, 3) := by decide +kernel
theorem dX8_soonest_21 : decode cX8_soonest 21 = .ok (.aload_n 0, 1) := by decide +kernel
theorem dX8_soonest_22 : decode cX8_soonest 22 = .ok (.iload_n 1, 1) := by decide +kernel
theorem dX8_soonest_23 : decode cX8_soonest 23 = .ok (.iload 4, 2) := by decide +kernel
theorem dX8_soonest_25 : decode cX8_soonest 25 = .ok (.invokevirtual 114, 3) := by decide +kernel
theorem dX8_soonest_28 : decode cX8_soonest 28 = .ok (.ifCond .eq 22, 3) := by decide +kernel
theorem dX8_soonest_31 : decode cX8_soonest 31 = .ok (.iload_n 3, 1) := by decide +kernel
theorem dX8_soonest_32 : decode cX8_soonest 32 = .ok (.aload_n 2, 1) := by decide +kernel
theorem dX8_soonest_33 : decode cX8_soonest 33 = .ok (.iload 4, 2) := by decide +kernel
theorem dX8_soonest_35 : decode cX8_soonest 35 = .ok (.iaload, 1) := by decide +kernel
theorem dX8_soonest_36 : decode cX8_soonest 36 = .ok (.aload_n 0, 1) := by decide +kernel
theorem dX8_soonest_37 : decode cX8_soonest 37 = .ok (.iload 4, 2) := by decide +kernel
theorem dX8_soonest_39 : decode cX8_soonest 39 = .ok (.iconst 0, 1) := by decide +kernel
theorem dX8_soonest_40 : decode cX8_soonest 40 = .ok (.invokevirtual 87, 3) := by decide +kernel
theorem dX8_soonest_43 : decode cX8_soonest 43 = .ok (.iadd, 1) := by decide +kernel
theorem dX8_soonest_44 : decode cX8_soonest 44 = .ok (.invokestatic 141, 3) := by decide +kernel
theorem dX8_soonest_47 : decode cX8_soonest 47 = .ok (.goto 4, 3) := by decide +kernel
theorem dX8_soonest_50 : decode cX8_soonest 50 = .ok (.iload_n 3, 1) := by decide +kernel
theorem dX8_soonest_51 : decode cX8_soonest 51 = .ok (.istore_n 3, 1) := by decide +kernel
theorem dX8_soonest_52 : decode cX8_soonest 52 = .ok (.iinc 4 1, 3) := by decide +kernel
theorem dX8_soonest_55 : decode cX8_soonest 55 = .ok (.goto (-45), 3) := by decide +kernel
theorem dX8_soonest_58 : decode cX8_soonest 58 = .ok (.iload_n 3, 1) := by decide +kernel
theorem dX8_soonest_59 : decode cX8_soonest 59 = .ok (.ireturn, 1) := by decide +kernel
theorem dX8_starts_0 : decode cX8_starts 0 = .ok (.iconst 0, 1) := by decide +kernel
theorem dX8_starts_1 : decode cX8_starts 1 = .ok (.istore_n 1, 1) := by decide +kernel
theorem dX8_starts_2 : decode cX8_starts 2 = .ok (.iload_n 1, 1) := by decide +kernel
theorem dX8_starts_3 : decode cX8_starts 3 = .ok (.aload_n 0, 1) := by decide +kernel
theorem dX8_starts_4 : decode cX8_starts 4 = .ok (.getfield 9, 3) := by decide +kernel
theorem dX8_starts_7 : decode cX8_starts 7 = .ok (.iconst 0, 1) := by decide +kernel
theorem dX8_starts_8 : decode cX8_starts 8 = .ok (.iaload, 1) := by decide +kernel
theorem dX8_starts_9 : decode cX8_starts 9 = .ok (.if_icmp .ge 16, 3) := by decide +kernel
theorem dX8_starts_12 : decode cX8_starts 12 = .ok (.aload_n 0, 1) := by decide +kernel
theorem dX8_starts_13 : decode cX8_starts 13 = .ok (.getfield 29, 3) := by decide +kernel
theorem dX8_starts_16 : decode cX8_starts 16 = .ok (.iload_n 1, 1) := by decide +kernel
theorem dX8_starts_17 : decode cX8_starts 17 = .ok (.iconst 0, 1) := by decide +kernel
theorem dX8_starts_18 : decode cX8_starts 18 = .ok (.iastore, 1) := by decide +kernel
theorem dX8_starts_19 : decode cX8_starts 19 = .ok (.iinc 1 1, 3) := by decide +kernel
theorem dX8_starts_22 : decode cX8_starts 22 = .ok (.goto (-20), 3) := by decide +kernel
theorem dX8_starts_25 : decode cX8_starts 25 = .ok (.iconst 0, 1) := by decide +kernel
theorem dX8_starts_26 : decode cX8_starts 26 = .ok (.istore_n 1, 1) := by decide +kernel
theorem dX8_starts_27 : decode cX8_starts 27 = .ok (.iload_n 1, 1) := by decide +kernel
theorem dX8_starts_28 : decode cX8_starts 28 = .ok (.aload_n 0, 1) := by decide +kernel
theorem dX8_starts_29 : decode cX8_starts 29 = .ok (.getfield 9, 3) := by decide +kernel
theorem dX8_starts_32 : decode cX8_starts 32 = .ok (.iconst 0, 1) := by decide +kernel
theorem dX8_starts_33 : decode cX8_starts 33 = .ok (.iaload, 1) := by decide +kernel
theorem dX8_starts_34 : decode cX8_starts 34 = .ok (.if_icmp .ge 42, 3) := by decide +kernel
theorem dX8_starts_37 : decode cX8_starts 37 = .ok (.iconst 0, 1) := by decide +kernel
theorem dX8_starts_38 : decode cX8_starts 38 = .ok (.istore_n 2, 1) := by decide +kernel
theorem dX8_starts_39 : decode cX8_starts 39 = .ok (.iload_n 2, 1) := by decide +kernel
theorem dX8_starts_40 : decode cX8_starts 40 = .ok (.aload_n 0, 1) := by decide +kernel
theorem dX8_starts_41 : decode cX8_starts 41 = .ok (.getfield 9, 3) := by decide +kernel
theorem dX8_starts_44 : decode cX8_starts 44 = .ok (.iconst 0, 1) := by decide +kernel
theorem dX8_starts_45 : decode cX8_starts 45 = .ok (.iaload, 1) := by decide +kernel
theorem dX8_starts_46 : decode cX8_starts 46 = .ok (.if_icmp .ge 24, 3) := by decide +kernel
theorem dX8_starts_49 : decode cX8_starts 49 = .ok (.aload_n 0, 1) := by decide +kernel
theorem dX8_starts_50 : decode cX8_starts 50 = .ok (.getfield 29, 3) := by decide +kernel
theorem dX8_starts_53 : decode cX8_starts 53 = .ok (.iload_n 2, 1) := by decide +kernel
theorem dX8_starts_54 : decode cX8_starts 54 = .ok (.aload_n 0, 1) := by decide +kernel
theorem dX8_starts_55 : decode cX8_starts 55 = .ok (.iload_n 2, 1) := by decide +kernel
theorem dX8_starts_56 : decode cX8_starts 56 = .ok (.aload_n 0, 1) := by decide +kernel
theorem dX8_starts_57 : decode cX8_starts 57 = .ok (.getfield 29, 3) := by decide +kernel
theorem dX8_starts_60 : decode cX8_starts 60 = .ok (.invokevirtual 146, 3) := by decide +kernel
theorem dX8_starts_63 : decode cX8_starts 63 = .ok (.iastore, 1) := by decide +kernel
theorem dX8_starts_64 : decode cX8_starts 64 = .ok (.iinc 2 1, 3) := by decide +kernel
theorem dX8_starts_67 : decode cX8_starts 67 = .ok (.goto (-28), 3) := by decide +kernel
theorem dX8_starts_70 : decode cX8_starts 70 = .ok (.iinc 1 1, 3) := by decide +kernel
theorem dX8_starts_73 : decode cX8_starts 73 = .ok (.goto (-46), 3) := by decide +kernel
theorem dX8_starts_76 : decode cX8_starts 76 = .ok (.aload_n 0, 1) := by decide +kernel
theorem dX8_starts_77 : decode cX8_starts 77 = .ok (.aload_n 0, 1) := by decide +kernel
theorem dX8_starts_78 : decode cX8_starts 78 = .ok (.getfield 29, 3) := by decide +kernel
theorem dX8_starts_81 : decode cX8_starts 81 = .ok (.invokevirtual 133, 3) := by decide +kernel
theorem dX8_starts_84 : decode cX8_starts 84 = .ok (.istore_n 1, 1) := by decide +kernel
theorem dX8_starts_85 : decode cX8_starts 85 = .ok (.iconst 0, 1) := by decide +kernel
theorem dX8_starts_86 : decode cX8_starts 86 = .ok (.istore_n 2, 1) := by decide +kernel
theorem dX8_starts_87 : decode cX8_starts 87 = .ok (.iload_n 2, 1) := by decide +kernel
theorem dX8_starts_88 : decode cX8_starts 88 = .ok (.aload_n 0, 1) := by decide +kernel
theorem dX8_starts_89 : decode cX8_starts 89 = .ok (.getfield 9, 3) := by decide +kernel
theorem dX8_starts_92 : decode cX8_starts 92 = .ok (.iconst 0, 1) := by decide +kernel
theorem dX8_starts_93 : decode cX8_starts 93 = .ok (.iaload, 1) := by decide +kernel
theorem dX8_starts_94 : decode cX8_starts 94 = .ok (.if_icmp .ge 23, 3) := by decide +kernel
theorem dX8_starts_97 : decode cX8_starts 97 = .ok (.aload_n 0, 1) := by decide +kernel
theorem dX8_starts_98 : decode cX8_starts 98 = .ok (.getfield 32, 3) := by decide +kernel
theorem dX8_starts_101 : decode cX8_starts 101 = .ok (.iload_n 2, 1) := by decide +kernel
theorem dX8_starts_102 : decode cX8_starts 102 = .ok (.iload_n 1, 1) := by decide +kernel
theorem dX8_starts_103 : decode cX8_starts 103 = .ok (.aload_n 0, 1) := by decide +kernel
theorem dX8_starts_104 : decode cX8_starts 104 = .ok (.iload_n 2, 1) := by decide +kernel
theorem dX8_starts_105 : decode cX8_starts 105 = .ok (.iconst 0, 1) := by decide +kernel
theorem dX8_starts_106 : decode cX8_starts 106 = .ok (.invokevirtual 87, 3) := by decide +kernel
theorem dX8_starts_109 : decode cX8_starts 109 = .ok (.isub, 1) := by decide +kernel
theorem dX8_starts_110 : decode cX8_starts 110 = .ok (.iastore, 1) := by decide +kernel
theorem dX8_starts_111 : decode cX8_starts 111 = .ok (.iinc 2 1, 3) := by decide +kernel
theorem dX8_starts_114 : decode cX8_starts 114 = .ok (.goto (-27), 3) := by decide +kernel
theorem dX8_starts_117 : decode cX8_starts 117 = .ok (.iconst 0, 1) := by decide +kernel
theorem dX8_starts_118 : decode cX8_starts 118 = .ok (.istore_n 2, 1) := by decide +kernel
theorem dX8_starts_119 : decode cX8_starts 119 = .ok (.iload_n 2, 1) := by decide +kernel
theorem dX8_starts_120 : decode cX8_starts 120 = .ok (.aload_n 0, 1) := by decide +kernel
theorem dX8_starts_121 : decode cX8_starts 121 = .ok (.getfield 9, 3) := by decide +kernel
theorem dX8_starts_124 : decode cX8_starts 124 = .ok (.iconst 0, 1) := by decide +kernel
theorem dX8_starts_125 : decode cX8_starts 125 = .ok (.iaload, 1) := by decide +kernel
theorem dX8_starts_126 : decode cX8_starts 126 = .ok (.if_icmp .ge 32, 3) := by decide +kernel
theorem dX8_starts_129 : decode cX8_starts 129 = .ok (.iconst 0, 1) := by decide +kernel
theorem dX8_starts_130 : decode cX8_starts 130 = .ok (.istore_n 3, 1) := by decide +kernel
theorem dX8_starts_131 : decode cX8_starts 131 = .ok (.iload_n 3, 1) := by decide +kernel
theorem dX8_starts_132 : decode cX8_starts 132 = .ok (.aload_n 0, 1) := by decide +kernel
theorem dX8_starts_133 : decode cX8_starts 133 = .ok (.getfield 9, 3) := by decide +kernel
theorem dX8_starts_136 : decode cX8_starts 136 = .ok (.iconst 0, 1) := by decide +kernel
theorem dX8_starts_137 : decode cX8_starts 137 = .ok (.iaload, 1) := by decide +kernel
theorem dX8_starts_138 : decode cX8_starts 138 = .ok (.if_icmp .ge 14, 3) := by decide +kernel
theorem dX8_starts_141 : decode cX8_starts 141 = .ok (.aload_n 0, 1) := by decide +kernel
theorem dX8_starts_142 : decode cX8_starts 142 = .ok (.iload_n 3, 1) := by decide +kernel
theorem dX8_starts_143 : decode cX8_starts 143 = .ok (.invokevirtual 150, 3) := by decide +kernel
theorem dX8_starts_146 : decode cX8_starts 146 = .ok (.iinc 3 1, 3) := by decide +kernel
theorem dX8_starts_149 : decode cX8_starts 149 = .ok (.goto (-18), 3) := by decide +kernel
theorem dX8_starts_152 : decode cX8_starts 152 = .ok (.iinc 2 1, 3) := by decide +kernel
theorem dX8_starts_155 : decode cX8_starts 155 = .ok (.goto (-36), 3) := by decide +kernel
theorem dX8_starts_158 : decode cX8_starts 158 = .ok (.return_, 1) := by decide +kernel
theorem dX8_puts_0 : decode cX8_puts 0 = .ok (.iconst 0, 1) := by decide +kernel
theorem dX8_puts_1 : decode cX8_puts 1 = .ok (.istore_n 2, 1) := by decide +kernel
theorem dX8_puts_2 : decode cX8_puts 2 = .ok (.iload_n 2, 1) := by decide +kernel
theorem dX8_puts_3 : decode cX8_puts 3 = .ok (.aload_n 0, 1) := by decide +kernel
theorem dX8_puts_4 : decode cX8_puts 4 = .ok (.getfield 9, 3) := by decide +kernel
theorem dX8_puts_7 : decode cX8_puts 7 = .ok (.iconst 0, 1) := by decide +kernel
theorem dX8_puts_8 : decode cX8_puts 8 = .ok (.iaload, 1) := by decide +kernel
theorem dX8_puts_9 : decode cX8_puts 9 = .ok (.if_icmp .ge 55, 3) := by decide +kernel
theorem dX8_puts_12 : decode cX8_puts 12 = .ok (.aload_n 0, 1) := by decide +kernel
theorem dX8_puts_13 : decode cX8_puts 13 = .ok (.getfield 32, 3) := by decide +kernel
theorem dX8_puts_16 : decode cX8_puts 16 = .ok (.iload_n 1, 1) := by decide +kernel
theorem dX8_puts_17 : decode cX8_puts 17 = .ok (.aload_n 0, 1) := by decide +kernel
theorem dX8_puts_18 : decode cX8_puts 18 = .ok (.iload_n 2, 1) := by decide +kernel
theorem dX8_puts_19 : decode cX8_puts 19 = .ok (.iload_n 1, 1) := by decide +kernel
theorem dX8_puts_20 : decode cX8_puts 20 = .ok (.invokevirtual 114, 3) := by decide +kernel
theorem dX8_puts_23 : decode cX8_puts 23 = .ok (.ifCond .eq 28, 3) := by decide +kernel
theorem dX8_puts_26 : decode cX8_puts 26 = .ok (.aload_n 0, 1) := by decide +kernel
theorem dX8_puts_27 : decode cX8_puts 27 = .ok (.getfield 32, 3) := by decide +kernel
theorem dX8_puts_30 : decode cX8_puts 30 = .ok (.iload_n 1, 1) := by decide +kernel
theorem dX8_puts_31 : decode cX8_puts 31 = .ok (.iaload, 1) := by decide +kernel
theorem dX8_puts_32 : decode cX8_puts 32 = .ok (.aload_n 0, 1) := by decide +kernel
theorem dX8_puts_33 : decode cX8_puts 33 = .ok (.getfield 32, 3) := by decide +kernel
theorem dX8_puts_36 : decode cX8_puts 36 = .ok (.iload_n 2, 1) := by decide +kernel
theorem dX8_puts_37 : decode cX8_puts 37 = .ok (.iaload, 1) := by decide +kernel
theorem dX8_puts_38 : decode cX8_puts 38 = .ok (.aload_n 0, 1) := by decide +kernel
theorem dX8_puts_39 : decode cX8_puts 39 = .ok (.iload_n 1, 1) := by decide +kernel
theorem dX8_puts_40 : decode cX8_puts 40 = .ok (.iconst 0, 1) := by decide +kernel
theorem dX8_puts_41 : decode cX8_puts 41 = .ok (.invokevirtual 87, 3) := by decide +kernel
theorem dX8_puts_44 : decode cX8_puts 44 = .ok (.isub, 1) := by decide +kernel
theorem dX8_puts_45 : decode cX8_puts 45 = .ok (.invokestatic 154, 3) := by decide +kernel
theorem dX8_puts_48 : decode cX8_puts 48 = .ok (.goto 9, 3) := by decide +kernel
theorem dX8_puts_51 : decode cX8_puts 51 = .ok (.aload_n 0, 1) := by decide +kernel
theorem dX8_puts_52 : decode cX8_puts 52 = .ok (.getfield 32, 3) := by decide +kernel
theorem dX8_puts_55 : decode cX8_puts 55 = .ok (.iload_n 1, 1) := by decide +kernel
theorem dX8_puts_56 : decode cX8_puts 56 = .ok (.iaload, 1) := by decide +kernel
theorem dX8_puts_57 : decode cX8_puts 57 = .ok (.iastore, 1) := by decide +kernel
theorem dX8_puts_58 : decode cX8_puts 58 = .ok (.iinc 2 1, 3) := by decide +kernel
theorem dX8_puts_61 : decode cX8_puts 61 = .ok (.goto (-59), 3) := by decide +kernel
theorem dX8_puts_64 : decode cX8_puts 64 = .ok (.return_, 1) := by decide +kernel
theorem dX8_hasRoom_0 : decode cX8_hasRoom 0 = .ok (.sipush 160, 3) := by decide +kernel
theorem dX8_hasRoom_3 : decode cX8_hasRoom 3 = .ok (.aload_n 0, 1) := by decide +kernel
theorem dX8_hasRoom_4 : decode cX8_hasRoom 4 = .ok (.iload_n 1, 1) := by decide +kernel
theorem dX8_hasRoom_5 : decode cX8_hasRoom 5 = .ok (.iconst 1, 1) := by decide +kernel
theorem dX8_hasRoom_6 : decode cX8_hasRoom 6 = .ok (.invokevirtual 87, 3) := by decide +kernel
theorem dX8_hasRoom_9 : decode cX8_hasRoom 9 = .ok (.imul, 1) := by decide +kernel
theorem dX8_hasRoom_10 : decode cX8_hasRoom 10 = .ok (.iload_n 2, 1) := by decide +kernel
theorem dX8_hasRoom_11 : decode cX8_hasRoom 11 = .ok (.iadd, 1) := by decide +kernel
theorem dX8_hasRoom_12 : decode cX8_hasRoom 12 = .ok (.istore_n 3, 1) := by decide +kernel
theorem dX8_hasRoom_13 : decode cX8_hasRoom 13 = .ok (.iconst 0, 1) := by decide +kernel
theorem dX8_hasRoom_14 : decode cX8_hasRoom 14 = .ok (.istore 4, 2) := by decide +kernel
theorem dX8_hasRoom_16 : decode cX8_hasRoom 16 = .ok (.iload 4, 2) := by decide +kernel
theorem dX8_hasRoom_18 : decode cX8_hasRoom 18 = .ok (.aload_n 0, 1) := by decide +kernel
theorem dX8_hasRoom_19 : decode cX8_hasRoom 19 = .ok (.iload_n 1, 1) := by decide +kernel
theorem dX8_hasRoom_20 : decode cX8_hasRoom 20 = .ok (.iconst 0, 1) := by decide +kernel
theorem dX8_hasRoom_21 : decode cX8_hasRoom 21 = .ok (.invokevirtual 87, 3) := by decide +kernel
theorem dX8_hasRoom_24 : decode cX8_hasRoom 24 = .ok (.if_icmp .ge 43, 3) := by decide +kernel
theorem dX8_hasRoom_27 : decode cX8_hasRoom 27 = .ok (.aload_n 0, 1) := by decide +kernel
theorem dX8_hasRoom_28 : decode cX8_hasRoom 28 = .ok (.getfield 38, 3) := by decide +kernel
theorem dX8_hasRoom_31 : decode cX8_hasRoom 31 = .ok (.iload_n 3, 1) := by decide +kernel
theorem dX8_hasRoom_32 : decode cX8_hasRoom 32 = .ok (.iload 4, 2) := by decide +kernel
theorem dX8_hasRoom_34 : decode cX8_hasRoom 34 = .ok (.iadd, 1) := by decide +kernel
theorem dX8_hasRoom_35 : decode cX8_hasRoom 35 = .ok (.iaload, 1) := by decide +kernel
theorem dX8_hasRoom_36 : decode cX8_hasRoom 36 = .ok (.aload_n 0, 1) := by decide +kernel
theorem dX8_hasRoom_37 : decode cX8_hasRoom 37 = .ok (.iload_n 1, 1) := by decide +kernel
theorem dX8_hasRoom_38 : decode cX8_hasRoom 38 = .ok (.iconst 2, 1) := by decide +kernel
theorem dX8_hasRoom_39 : decode cX8_hasRoom 39 = .ok (.invokevirtual 87, 3) := by decide +kernel
theorem dX8_hasRoom_42 : decode cX8_hasRoom 42 = .ok (.iadd, 1) := by decide +kernel
theorem dX8_hasRoom_43 : decode cX8_hasRoom 43 = .ok (.aload_n 0, 1) := by decide +kernel
theorem dX8_hasRoom_44 : decode cX8_hasRoom 44 = .ok (.getfield 9, 3) := by decide +kernel
theorem dX8_hasRoom_47 : decode cX8_hasRoom 47 = .ok (.iconst 2, 1) := by decide +kernel
theorem dX8_hasRoom_48 : decode cX8_hasRoom 48 = .ok (.aload_n 0, 1) := by decide +kernel
theorem dX8_hasRoom_49 : decode cX8_hasRoom 49 = .ok (.iload_n 1, 1) := by decide +kernel
theorem dX8_hasRoom_50 : decode cX8_hasRoom 50 = .ok (.iconst 1, 1) := by decide +kernel
theorem dX8_hasRoom_51 : decode cX8_hasRoom 51 = .ok (.invokevirtual 87, 3) := by decide +kernel
theorem dX8_hasRoom_54 : decode cX8_hasRoom 54 = .ok (.iadd, 1) := by decide +kernel
theorem dX8_hasRoom_55 : decode cX8_hasRoom 55 = .ok (.iaload, 1) := by decide +kernel
theorem dX8_hasRoom_56 : decode cX8_hasRoom 56 = .ok (.if_icmp .le 5, 3) := by decide +kernel
theorem dX8_hasRoom_59 : decode cX8_hasRoom 59 = .ok (.iconst 0, 1) := by decide +kernel
theorem dX8_hasRoom_60 : decode cX8_hasRoom 60 = .ok (.ireturn, 1) := by decide +kernel
theorem dX8_hasRoom_61 : decode cX8_hasRoom 61 = .ok (.iinc 4 1, 3) := by decide +kernel
theorem dX8_hasRoom_64 : decode cX8_hasRoom 64 = .ok (.goto (-48), 3) := by decide +kernel
theorem dX8_hasRoom_67 : decode cX8_hasRoom 67 = .ok (.iconst 1, 1) := by decide +kernel
theorem dX8_hasRoom_68 : decode cX8_hasRoom 68 = .ok (.ireturn, 1) := by decide +kernel
theorem dX8_levels_0 : decode cX8_levels 0 = .ok (.aload_n 0, 1) := by decide +kernel
theorem dX8_levels_1 : decode cX8_levels 1 = .ok (.invokevirtual 157, 3) := by decide +kernel
theorem dX8_levels_4 : decode cX8_levels 4 = .ok (.iconst 0, 1) := by decide +kernel
theorem dX8_levels_5 : decode cX8_levels 5 = .ok (.istore_n 1, 1) := by decide +kernel
theorem dX8_levels_6 : decode cX8_levels 6 = .ok (.iload_n 1, 1) := by decide +kernel
theorem dX8_levels_7 : decode cX8_levels 7 = .ok (.sipush 480, 3) := by decide +kernel
theorem dX8_levels_10 : decode cX8_levels 10 = .ok (.if_icmp .ge 16, 3) := by decide +kernel
theorem dX8_levels_13 : decode cX8_levels 13 = .ok (.aload_n 0, 1) := by decide +kernel
theorem dX8_levels_14 : decode cX8_levels 14 = .ok (.getfield 38, 3) := by decide +kernel
theorem dX8_levels_17 : decode cX8_levels 17 = .ok (.iload_n 1, 1) := by decide +kernel
theorem dX8_levels_18 : decode cX8_levels 18 = .ok (.iconst 0, 1) := by decide +kernel
theorem dX8_levels_19 : decode cX8_levels 19 = .ok (.iastore, 1) := by decide +kernel
theorem dX8_levels_20 : decode cX8_levels 20 = .ok (.iinc 1 1, 3) := by decide +kernel
theorem dX8_levels_23 : decode cX8_levels 23 = .ok (.goto (-17), 3) := by decide +kernel
theorem dX8_levels_26 : decode cX8_levels 26 = .ok (.iconst 0, 1) := by decide +kernel
theorem dX8_levels_27 : decode cX8_levels 27 = .ok (.istore_n 1, 1) := by decide +kernel
theorem dX8_levels_28 : decode cX8_levels 28 = .ok (.iconst 0, 1) := by decide +kernel
theorem dX8_levels_29 : decode cX8_levels 29 = .ok (.istore_n 2, 1) := by decide +kernel
theorem dX8_levels_30 : decode cX8_levels 30 = .ok (.iload_n 2, 1) := by decide +kernel
theorem dX8_levels_31 : decode cX8_levels 31 = .ok (.aload_n 0, 1) := by decide +kernel
theorem dX8_levels_32 : decode cX8_levels 32 = .ok (.getfield 9, 3) := by decide +kernel
theorem dX8_levels_35 : decode cX8_levels 35 = .ok (.iconst 0, 1) := by decide +kernel
theorem dX8_levels_36 : decode cX8_levels 36 = .ok (.iaload, 1) := by decide +kernel
theorem dX8_levels_37 : decode cX8_levels 37 = .ok (.if_icmp .ge 185, 3) := by decide +kernel
theorem dX8_levels_40 : decode cX8_levels 40 = .ok (.iconst (-1), 1) := by decide +kernel
theorem dX8_levels_41 : decode cX8_levels 41 = .ok (.istore_n 3, 1) := by decide +kernel
theorem dX8_levels_42 : decode cX8_levels 42 = .ok (.iconst 0, 1) := by decide +kernel
theorem dX8_levels_43 : decode cX8_levels 43 = .ok (.istore 4, 2) := by decide +kernel
theorem dX8_levels_45 : decode cX8_levels 45 = .ok (.iload 4, 2) := by decide +kernel
theorem dX8_levels_47 : decode cX8_levels 47 = .ok (.aload_n 0, 1) := by decide +kernel
theorem dX8_levels_48 : decode cX8_levels 48 = .ok (.getfield 9, 3) := by decide +kernel
theorem dX8_levels_51 : decode cX8_levels 51 = .ok (.iconst 0, 1) := by decide +kernel
theorem dX8_levels_52 : decode cX8_levels 52 = .ok (.iaload, 1) := by decide +kernel
theorem dX8_levels_53 : decode cX8_levels 53 = .ok (.if_icmp .ge 72, 3) := by decide +kernel
theorem dX8_levels_56 : decode cX8_levels 56 = .ok (.iload_n 1, 1) := by decide +kernel
theorem dX8_levels_57 : decode cX8_levels 57 = .ok (.iload 4, 2) := by decide +kernel
theorem dX8_levels_59 : decode cX8_levels 59 = .ok (.ishr, 1) := by decide +kernel
theorem dX8_levels_60 : decode cX8_levels 60 = .ok (.iconst 1, 1) := by decide +kernel
theorem dX8_levels_61 : decode cX8_levels 61 = .ok (.iand, 1) := by decide +kernel
theorem dX8_levels_62 : decode cX8_levels 62 = .ok (.ifCond .ne 21, 3) := by decide +kernel
theorem dX8_levels_65 : decode cX8_levels 65 = .ok (.aload_n 0, 1) := by decide +kernel
theorem dX8_levels_66 : decode cX8_levels 66 = .ok (.iload 4, 2) := by decide +kernel
theorem dX8_levels_68 : decode cX8_levels 68 = .ok (.iconst 4, 1) := by decide +kernel
theorem dX8_levels_69 : decode cX8_levels 69 = .ok (.invokevirtual 87, 3) := by decide +kernel
theorem dX8_levels_72 : decode cX8_levels 72 = .ok (.iload_n 1, 1) := by decide +kernel
theorem dX8_levels_73 : decode cX8_levels 73 = .ok (.iconst (-1), 1) := by decide +kernel
theorem dX8_levels_74 : decode cX8_levels 74 = .ok (.ixor, 1) := by decide +kernel
theorem dX8_levels_75 : decode cX8_levels 75 = .ok (.iand, 1) := by decide +kernel
theorem dX8_levels_76 : decode cX8_levels 76 = .ok (.ifCond .ne 7, 3) := by decide +kernel
theorem dX8_levels_79 : decode cX8_levels 79 = .ok (.iconst 1, 1) := by decide +kernel
theorem dX8_levels_80 : decode cX8_levels 80 = .ok (.goto 4, 3) := by decide +kernel
theorem dX8_levels_83 : decode cX8_levels 83 = .ok (.iconst 0, 1) := by decide +kernel
theorem dX8_levels_84 : decode cX8_levels 84 = .ok (.istore 5, 2) := by decide +kernel
theorem dX8_levels_86 : decode cX8_levels 86 = .ok (.iload 5, 2) := by decide +kernel
theorem dX8_levels_88 : decode cX8_levels 88 = .ok (.ifCond .eq 29, 3) := by decide +kernel
theorem dX8_levels_91 : decode cX8_levels 91 = .ok (.iload_n 3, 1) := by decide +kernel
theorem dX8_levels_92 : decode cX8_levels 92 = .ok (.iconst (-1), 1) := by decide +kernel
theorem dX8_levels_93 : decode cX8_levels 93 = .ok (.if_icmp .eq 19, 3) := by decide +kernel
theorem dX8_levels_96 : decode cX8_levels 96 = .ok (.aload_n 0, 1) := by decide +kernel
theorem dX8_levels_97 : decode cX8_levels 97 = .ok (.getfield 32, 3) := by decide +kernel
theorem dX8_levels_100 : decode cX8_levels 100 = .ok (.iload 4, 2) := by decide +kernel
theorem dX8_levels_102 : decode cX8_levels 102 = .ok (.iaload, 1) := by decide +kernel
theorem dX8_levels_103 : decode cX8_levels 103 = .ok (.aload_n 0, 1) := by decide +kernel
theorem dX8_levels_104 : decode cX8_levels 104 = .ok (.getfield 32, 3) := by decide +kernel
theorem dX8_levels_107 : decode cX8_levels 107 = .ok (.iload_n 3, 1) := by decide +kernel
theorem dX8_levels_108 : decode cX8_levels 108 = .ok (.iaload, 1) := by decide +kernel
theorem dX8_levels_109 : decode cX8_levels 109 = .ok (.if_icmp .ge 8, 3) := by decide +kernel
theorem dX8_levels_112 : decode cX8_levels 112 = .ok (.iload 4, 2) := by decide +kernel
theorem dX8_levels_114 : decode cX8_levels 114 = .ok (.goto 4, 3) := by decide +kernel
theorem dX8_levels_117 : decode cX8_levels 117 = .ok (.iload_n 3, 1) := by decide +kernel
theorem dX8_levels_118 : decode cX8_levels 118 = .ok (.istore_n 3, 1) := by decide +kernel
theorem dX8_levels_119 : decode cX8_levels 119 = .ok (.iinc 4 1, 3) := by decide +kernel
theorem dX8_levels_122 : decode cX8_levels 122 = .ok (.goto (-77), 3) := by decide +kernel
theorem dX8_levels_125 : decode cX8_levels 125 = .ok (.aload_n 0, 1) := by decide +kernel
theorem dX8_levels_126 : decode cX8_levels 126 = .ok (.iload_n 3, 1) := by decide +kernel
theorem dX8_levels_127 : decode cX8_levels 127 = .ok (.aload_n 0, 1) := by decide +kernel
theorem dX8_levels_128 : decode cX8_levels 128 = .ok (.getfield 35, 3) := by decide +kernel
theorem dX8_levels_131 : decode cX8_levels 131 = .ok (.invokevirtual 146, 3) := by decide +kernel
theorem dX8_levels_134 : decode cX8_levels 134 = .ok (.istore 4, 2) := by decide +kernel
theorem dX8_levels_136 : decode cX8_levels 136 = .ok (.aload_n 0, 1) := by decide +kernel
theorem dX8_levels_137 : decode cX8_levels 137 = .ok (.iload_n 3, 1) := by decide +kernel
theorem dX8_levels_138 : decode cX8_levels 138 = .ok (.iload 4, 2) := by decide +kernel
theorem dX8_levels_140 : decode cX8_levels 140 = .ok (.invokevirtual 160, 3) := by decide +kernel
theorem dX8_levels_143 : decode cX8_levels 143 = .ok (.ifCond .ne 9, 3) := by decide +kernel
theorem dX8_levels_146 : decode cX8_levels 146 = .ok (.iinc 4 1, 3) := by decide +kernel
theorem dX8_levels_149 : decode cX8_levels 149 = .ok (.goto (-13), 3) := by decide +kernel
theorem dX8_levels_152 : decode cX8_levels 152 = .ok (.aload_n 0, 1) := by decide +kernel
theorem dX8_levels_153 : decode cX8_levels 153 = .ok (.getfield 35, 3) := by decide +kernel
theorem dX8_levels_156 : decode cX8_levels 156 = .ok (.iload_n 3, 1) := by decide +kernel
theorem dX8_levels_157 : decode cX8_levels 157 = .ok (.iload 4, 2) := by decide +kernel
theorem dX8_levels_159 : decode cX8_levels 159 = .ok (.iastore, 1) := by decide +kernel
theorem dX8_levels_160 : decode cX8_levels 160 = .ok (.iload_n 1, 1) := by decide +kernel
theorem dX8_levels_161 : decode cX8_levels 161 = .ok (.iconst 1, 1) := by decide +kernel
theorem dX8_levels_162 : decode cX8_levels 162 = .ok (.iload_n 3, 1) := by decide +kernel
theorem dX8_levels_163 : decode cX8_levels 163 = .ok (.ishl, 1) := by decide +kernel
theorem dX8_levels_164 : decode cX8_levels 164 = .ok (.ior, 1) := by decide +kernel
theorem dX8_levels_165 : decode cX8_levels 165 = .ok (.istore_n 1, 1) := by decide +kernel
theorem dX8_levels_166 : decode cX8_levels 166 = .ok (.iconst 0, 1) := by decide +kernel
theorem dX8_levels_167 : decode cX8_levels 167 = .ok (.istore 5, 2) := by decide +kernel
theorem dX8_levels_169 : decode cX8_levels 169 = .ok (.iload 5, 2) := by decide +kernel
theorem dX8_levels_171 : decode cX8_levels 171 = .ok (.aload_n 0, 1) := by decide +kernel
theorem dX8_levels_172 : decode cX8_levels 172 = .ok (.iload_n 3, 1) := by decide +kernel
theorem dX8_levels_173 : decode cX8_levels 173 = .ok (.iconst 0, 1) := by decide +kernel
theorem dX8_levels_174 : decode cX8_levels 174 = .ok (.invokevirtual 87, 3) := by decide +kernel
theorem dX8_levels_177 : decode cX8_levels 177 = .ok (.if_icmp .ge 39, 3) := by decide +kernel
theorem dX8_levels_180 : decode cX8_levels 180 = .ok (.aload_n 0, 1) := by decide +kernel
theorem dX8_levels_181 : decode cX8_levels 181 = .ok (.getfield 38, 3) := by decide +kernel
theorem dX8_levels_184 : decode cX8_levels 184 = .ok (.sipush 160, 3) := by decide +kernel
theorem dX8_levels_187 : decode cX8_levels 187 = .ok (.aload_n 0, 1) := by decide +kernel
theorem dX8_levels_188 : decode cX8_levels 188 = .ok (.iload_n 3, 1) := by decide +kernel
theorem dX8_levels_189 : decode cX8_levels 189 = .ok (.iconst 1, 1) := by decide +kernel
theorem dX8_levels_190 : decode cX8_levels 190 = .ok (.invokevirtual 87, 3) := by decide +kernel
theorem dX8_levels_193 : decode cX8_levels 193 = .ok (.imul, 1) := by decide +kernel
theorem dX8_levels_194 : decode cX8_levels 194 = .ok (.iload 4, 2) := by decide +kernel
theorem dX8_levels_196 : decode cX8_levels 196 = .ok (.iadd, 1) := by decide +kernel
theorem dX8_levels_197 : decode cX8_levels 197 = .ok (.iload 5, 2) := by decide +kernel
theorem dX8_levels_199 : decode cX8_levels 199 = .ok (.iadd, 1) := by decide +kernel
theorem dX8_levels_200 : decode cX8_levels 200 = .ok (.dup2, 1) := by decide +kernel
theorem dX8_levels_201 : decode cX8_levels 201 = .ok (.iaload, 1) := by decide +kernel
theorem dX8_levels_202 : decode cX8_levels 202 = .ok (.aload_n 0, 1) := by decide +kernel
theorem dX8_levels_203 : decode cX8_levels 203 = .ok (.iload_n 3, 1) := by decide +kernel
theorem dX8_levels_204 : decode cX8_levels 204 = .ok (.iconst 2, 1) := by decide +kernel
theorem dX8_levels_205 : decode cX8_levels 205 = .ok (.invokevirtual 87, 3) := by decide +kernel
theorem dX8_levels_208 : decode cX8_levels 208 = .ok (.iadd, 1) := by decide +kernel
theorem dX8_levels_209 : decode cX8_levels 209 = .ok (.iastore, 1) := by decide +kernel
theorem dX8_levels_210 : decode cX8_levels 210 = .ok (.iinc 5 1, 3) := by decide +kernel
theorem dX8_levels_213 : decode cX8_levels 213 = .ok (.goto (-44), 3) := by decide +kernel
theorem dX8_levels_216 : decode cX8_levels 216 = .ok (.iinc 2 1, 3) := by decide +kernel
theorem dX8_levels_219 : decode cX8_levels 219 = .ok (.goto (-189), 3) := by decide +kernel
theorem dX8_levels_222 : decode cX8_levels 222 = .ok (.return_, 1) := by decide +kernel
theorem dX8_taskCount_0 : decode cX8_taskCount 0 = .ok (.aload_n 0, 1) := by decide +kernel
theorem dX8_taskCount_1 : decode cX8_taskCount 1 = .ok (.iconst 0, 1) := by decide +kernel
theorem dX8_taskCount_2 : decode cX8_taskCount 2 = .ok (.putfield 50, 3) := by decide +kernel
theorem dX8_taskCount_5 : decode cX8_taskCount 5 = .ok (.aload_n 0, 1) := by decide +kernel
theorem dX8_taskCount_6 : decode cX8_taskCount 6 = .ok (.getfield 9, 3) := by decide +kernel
theorem dX8_taskCount_9 : decode cX8_taskCount 9 = .ok (.iconst 0, 1) := by decide +kernel
theorem dX8_taskCount_10 : decode cX8_taskCount 10 = .ok (.iaload, 1) := by decide +kernel
theorem dX8_taskCount_11 : decode cX8_taskCount 11 = .ok (.ireturn, 1) := by decide +kernel
theorem dX8_asks_0 : decode cX8_asks 0 = .ok (.aload_n 0, 1) := by decide +kernel
theorem dX8_asks_1 : decode cX8_asks 1 = .ok (.aload_n 0, 1) := by decide +kernel
theorem dX8_asks_2 : decode cX8_asks 2 = .ok (.iload_n 1, 1) := by decide +kernel
theorem dX8_asks_3 : decode cX8_asks 3 = .ok (.invokevirtual 79, 3) := by decide +kernel
theorem dX8_asks_6 : decode cX8_asks 6 = .ok (.invokevirtual 67, 3) := by decide +kernel
theorem dX8_asks_9 : decode cX8_asks 9 = .ok (.ifCond .eq 12, 3) := by decide +kernel
theorem dX8_asks_12 : decode cX8_asks 12 = .ok (.aload_n 0, 1) := by decide +kernel
theorem dX8_asks_13 : decode cX8_asks 13 = .ok (.iload_n 1, 1) := by decide +kernel
theorem dX8_asks_14 : decode cX8_asks 14 = .ok (.iload_n 2, 1) := by decide +kernel
theorem dX8_asks_15 : decode cX8_asks 15 = .ok (.invokevirtual 87, 3) := by decide +kernel
theorem dX8_asks_18 : decode cX8_asks 18 = .ok (.goto 4, 3) := by decide +kernel
theorem dX8_asks_21 : decode cX8_asks 21 = .ok (.iconst 0, 1) := by decide +kernel
theorem dX8_asks_22 : decode cX8_asks 22 = .ok (.ireturn, 1) := by decide +kernel
theorem dX8_duration_0 : decode cX8_duration 0 = .ok (.aload_n 0, 1) := by decide +kernel
theorem dX8_duration_1 : decode cX8_duration 1 = .ok (.iload_n 1, 1) := by decide +kernel
theorem dX8_duration_2 : decode cX8_duration 2 = .ok (.iconst 0, 1) := by decide +kernel
theorem dX8_duration_3 : decode cX8_duration 3 = .ok (.invokevirtual 163, 3) := by decide +kernel
theorem dX8_duration_6 : decode cX8_duration 6 = .ok (.ireturn, 1) := by decide +kernel
theorem dX8_resource_0 : decode cX8_resource 0 = .ok (.aload_n 0, 1) := by decide +kernel
theorem dX8_resource_1 : decode cX8_resource 1 = .ok (.iload_n 1, 1) := by decide +kernel
theorem dX8_resource_2 : decode cX8_resource 2 = .ok (.iconst 1, 1) := by decide +kernel
theorem dX8_resource_3 : decode cX8_resource 3 = .ok (.invokevirtual 163, 3) := by decide +kernel
theorem dX8_resource_6 : decode cX8_resource 6 = .ok (.ireturn, 1) := by decide +kernel
theorem dX8_demand_0 : decode cX8_demand 0 = .ok (.aload_n 0, 1) := by decide +kernel
theorem dX8_demand_1 : decode cX8_demand 1 = .ok (.iload_n 1, 1) := by decide +kernel
theorem dX8_demand_2 : decode cX8_demand 2 = .ok (.iconst 2, 1) := by decide +kernel
theorem dX8_demand_3 : decode cX8_demand 3 = .ok (.invokevirtual 163, 3) := by decide +kernel
theorem dX8_demand_6 : decode cX8_demand 6 = .ok (.ireturn, 1) := by decide +kernel
theorem dX8_release_0 : decode cX8_release 0 = .ok (.aload_n 0, 1) := by decide +kernel
theorem dX8_release_1 : decode cX8_release 1 = .ok (.iload_n 1, 1) := by decide +kernel
theorem dX8_release_2 : decode cX8_release 2 = .ok (.iconst 3, 1) := by decide +kernel
theorem dX8_release_3 : decode cX8_release 3 = .ok (.invokevirtual 163, 3) := by decide +kernel
theorem dX8_release_6 : decode cX8_release 6 = .ok (.ireturn, 1) := by decide +kernel
theorem dX8_limit_0 : decode cX8_limit 0 = .ok (.aload_n 0, 1) := by decide +kernel
theorem dX8_limit_1 : decode cX8_limit 1 = .ok (.iload_n 1, 1) := by decide +kernel
theorem dX8_limit_2 : decode cX8_limit 2 = .ok (.invokestatic 94, 3) := by decide +kernel
theorem dX8_limit_5 : decode cX8_limit 5 = .ok (.invokevirtual 67, 3) := by decide +kernel
theorem dX8_limit_8 : decode cX8_limit 8 = .ok (.ifCond .eq 14, 3) := by decide +kernel
theorem dX8_limit_11 : decode cX8_limit 11 = .ok (.aload_n 0, 1) := by decide +kernel
theorem dX8_limit_12 : decode cX8_limit 12 = .ok (.getfield 9, 3) := by decide +kernel
theorem dX8_limit_15 : decode cX8_limit 15 = .ok (.iconst 2, 1) := by decide +kernel
theorem dX8_limit_16 : decode cX8_limit 16 = .ok (.iload_n 1, 1) := by decide +kernel
theorem dX8_limit_17 : decode cX8_limit 17 = .ok (.iadd, 1) := by decide +kernel
theorem dX8_limit_18 : decode cX8_limit 18 = .ok (.iaload, 1) := by decide +kernel
theorem dX8_limit_19 : decode cX8_limit 19 = .ok (.goto 4, 3) := by decide +kernel
theorem dX8_limit_22 : decode cX8_limit 22 = .ok (.iconst 0, 1) := by decide +kernel
theorem dX8_limit_23 : decode cX8_limit 23 = .ok (.ireturn, 1) := by decide +kernel
theorem dX8_dependsDirectly_0 : decode cX8_dependsDirectly 0 = .ok (.aload_n 0, 1) := by decide +kernel
theorem dX8_dependsDirectly_1 : decode cX8_dependsDirectly 1 = .ok (.aload_n 0, 1) := by decide +kernel
theorem dX8_dependsDirectly_2 : decode cX8_dependsDirectly 2 = .ok (.iload_n 1, 1) := by decide +kernel
theorem dX8_dependsDirectly_3 : decode cX8_dependsDirectly 3 = .ok (.invokevirtual 79, 3) := by decide +kernel
theorem dX8_dependsDirectly_6 : decode cX8_dependsDirectly 6 = .ok (.ifCond .eq 15, 3) := by decide +kernel
theorem dX8_dependsDirectly_9 : decode cX8_dependsDirectly 9 = .ok (.aload_n 0, 1) := by decide +kernel
theorem dX8_dependsDirectly_10 : decode cX8_dependsDirectly 10 = .ok (.iload_n 2, 1) := by decide +kernel
theorem dX8_dependsDirectly_11 : decode cX8_dependsDirectly 11 = .ok (.invokevirtual 79, 3) := by decide +kernel
theorem dX8_dependsDirectly_14 : decode cX8_dependsDirectly 14 = .ok (.ifCond .eq 7, 3) := by decide +kernel
theorem dX8_dependsDirectly_17 : decode cX8_dependsDirectly 17 = .ok (.iconst 1, 1) := by decide +kernel
theorem dX8_dependsDirectly_18 : decode cX8_dependsDirectly 18 = .ok (.goto 4, 3) := by decide +kernel
theorem dX8_dependsDirectly_21 : decode cX8_dependsDirectly 21 = .ok (.iconst 0, 1) := by decide +kernel
theorem dX8_dependsDirectly_22 : decode cX8_dependsDirectly 22 = .ok (.invokevirtual 67, 3) := by decide +kernel
theorem dX8_dependsDirectly_25 : decode cX8_dependsDirectly 25 = .ok (.ifCond .eq 16, 3) := by decide +kernel
theorem dX8_dependsDirectly_28 : decode cX8_dependsDirectly 28 = .ok (.aload_n 0, 1) := by decide +kernel
theorem dX8_dependsDirectly_29 : decode cX8_dependsDirectly 29 = .ok (.iload_n 1, 1) := by decide +kernel
theorem dX8_dependsDirectly_30 : decode cX8_dependsDirectly 30 = .ok (.iload_n 2, 1) := by decide +kernel
theorem dX8_dependsDirectly_31 : decode cX8_dependsDirectly 31 = .ok (.invokevirtual 114, 3) := by decide +kernel
theorem dX8_dependsDirectly_34 : decode cX8_dependsDirectly 34 = .ok (.ifCond .eq 7, 3) := by decide +kernel
theorem dX8_dependsDirectly_37 : decode cX8_dependsDirectly 37 = .ok (.iconst 1, 1) := by decide +kernel
theorem dX8_dependsDirectly_38 : decode cX8_dependsDirectly 38 = .ok (.goto 4, 3) := by decide +kernel
theorem dX8_dependsDirectly_41 : decode cX8_dependsDirectly 41 = .ok (.iconst 0, 1) := by decide +kernel
theorem dX8_dependsDirectly_42 : decode cX8_dependsDirectly 42 = .ok (.ireturn, 1) := by decide +kernel
theorem dX8_isBehind_0 : decode cX8_isBehind 0 = .ok (.aload_n 0, 1) := by decide +kernel
theorem dX8_isBehind_1 : decode cX8_isBehind 1 = .ok (.aload_n 0, 1) := by decide +kernel
theorem dX8_isBehind_2 : decode cX8_isBehind 2 = .ok (.iload_n 1, 1) := by decide +kernel
theorem dX8_isBehind_3 : decode cX8_isBehind 3 = .ok (.invokevirtual 79, 3) := by decide +kernel
theorem dX8_isBehind_6 : decode cX8_isBehind 6 = .ok (.ifCond .eq 15, 3) := by decide +kernel
theorem dX8_isBehind_9 : decode cX8_isBehind 9 = .ok (.aload_n 0, 1) := by decide +kernel
theorem dX8_isBehind_10 : decode cX8_isBehind 10 = .ok (.iload_n 2, 1) := by decide +kernel
theorem dX8_isBehind_11 : decode cX8_isBehind 11 = .ok (.invokevirtual 79, 3) := by decide +kernel
theorem dX8_isBehind_14 : decode cX8_isBehind 14 = .ok (.ifCond .eq 7, 3) := by decide +kernel
theorem dX8_isBehind_17 : decode cX8_isBehind 17 = .ok (.iconst 1, 1) := by decide +kernel
theorem dX8_isBehind_18 : decode cX8_isBehind 18 = .ok (.goto 4, 3) := by decide +kernel
theorem dX8_isBehind_21 : decode cX8_isBehind 21 = .ok (.iconst 0, 1) := by decide +kernel
theorem dX8_isBehind_22 : decode cX8_isBehind 22 = .ok (.invokevirtual 67, 3) := by decide +kernel
theorem dX8_isBehind_25 : decode cX8_isBehind 25 = .ok (.ifCond .eq 16, 3) := by decide +kernel
theorem dX8_isBehind_28 : decode cX8_isBehind 28 = .ok (.aload_n 0, 1) := by decide +kernel
theorem dX8_isBehind_29 : decode cX8_isBehind 29 = .ok (.iload_n 1, 1) := by decide +kernel
theorem dX8_isBehind_30 : decode cX8_isBehind 30 = .ok (.iload_n 2, 1) := by decide +kernel
theorem dX8_isBehind_31 : decode cX8_isBehind 31 = .ok (.invokevirtual 110, 3) := by decide +kernel
theorem dX8_isBehind_34 : decode cX8_isBehind 34 = .ok (.ifCond .eq 7, 3) := by decide +kernel
theorem dX8_isBehind_37 : decode cX8_isBehind 37 = .ok (.iconst 1, 1) := by decide +kernel
theorem dX8_isBehind_38 : decode cX8_isBehind 38 = .ok (.goto 4, 3) := by decide +kernel
theorem dX8_isBehind_41 : decode cX8_isBehind 41 = .ok (.iconst 0, 1) := by decide +kernel
theorem dX8_isBehind_42 : decode cX8_isBehind 42 = .ok (.ireturn, 1) := by decide +kernel
theorem dX8_depends_0 : decode cX8_depends 0 = .ok (.aload_n 0, 1) := by decide +kernel
theorem dX8_depends_1 : decode cX8_depends 1 = .ok (.iload_n 1, 1) := by decide +kernel
theorem dX8_depends_2 : decode cX8_depends 2 = .ok (.iload_n 2, 1) := by decide +kernel
theorem dX8_depends_3 : decode cX8_depends 3 = .ok (.invokevirtual 166, 3) := by decide +kernel
theorem dX8_depends_6 : decode cX8_depends 6 = .ok (.ireturn, 1) := by decide +kernel
theorem dX8_dependsByClosure_0 : decode cX8_dependsByClosure 0 = .ok (.aload_n 0, 1) := by decide +kernel
theorem dX8_dependsByClosure_1 : decode cX8_dependsByClosure 1 = .ok (.iload_n 1, 1) := by decide +kernel
theorem dX8_dependsByClosure_2 : decode cX8_dependsByClosure 2 = .ok (.iload_n 2, 1) := by decide +kernel
theorem dX8_dependsByClosure_3 : decode cX8_dependsByClosure 3 = .ok (.invokevirtual 166, 3) := by decide +kernel
theorem dX8_dependsByClosure_6 : decode cX8_dependsByClosure 6 = .ok (.ireturn, 1) := by decide +kernel
theorem dX8_neededCount_0 : decode cX8_neededCount 0 = .ok (.aload_n 0, 1) := by decide +kernel
theorem dX8_neededCount_1 : decode cX8_neededCount 1 = .ok (.iload_n 1, 1) := by decide +kernel
theorem dX8_neededCount_2 : decode cX8_neededCount 2 = .ok (.iconst 4, 1) := by decide +kernel
theorem dX8_neededCount_3 : decode cX8_neededCount 3 = .ok (.invokevirtual 163, 3) := by decide +kernel
theorem dX8_neededCount_6 : decode cX8_neededCount 6 = .ok (.invokestatic 169, 3) := by decide +kernel
theorem dX8_neededCount_9 : decode cX8_neededCount 9 = .ok (.ireturn, 1) := by decide +kernel
theorem dX8_dependentCount_0 : decode cX8_dependentCount 0 = .ok (.iconst 0, 1) := by decide +kernel
theorem dX8_dependentCount_1 : decode cX8_dependentCount 1 = .ok (.istore_n 2, 1) := by decide +kernel
theorem dX8_dependentCount_2 : decode cX8_dependentCount 2 = .ok (.iconst 0, 1) := by decide +kernel
theorem dX8_dependentCount_3 : decode cX8_dependentCount 3 = .ok (.istore_n 3, 1) := by decide +kernel
theorem dX8_dependentCount_4 : decode cX8_dependentCount 4 = .ok (.iload_n 3, 1) := by decide +kernel
theorem dX8_dependentCount_5 : decode cX8_dependentCount 5 = .ok (.aload_n 0, 1) := by decide +kernel
theorem dX8_dependentCount_6 : decode cX8_dependentCount 6 = .ok (.getfield 9, 3) := by decide +kernel
theorem dX8_dependentCount_9 : decode cX8_dependentCount 9 = .ok (.iconst 0, 1) := by decide +kernel
theorem dX8_dependentCount_10 : decode cX8_dependentCount 10 = .ok (.iaload, 1) := by decide +kernel
theorem dX8_dependentCount_11 : decode cX8_dependentCount 11 = .ok (.if_icmp .ge 34, 3) := by decide +kernel
theorem dX8_dependentCount_14 : decode cX8_dependentCount 14 = .ok (.iload_n 2, 1) := by decide +kernel
theorem dX8_dependentCount_15 : decode cX8_dependentCount 15 = .ok (.aload_n 0, 1) := by decide +kernel
theorem dX8_dependentCount_16 : decode cX8_dependentCount 16 = .ok (.iload_n 1, 1) := by decide +kernel
theorem dX8_dependentCount_17 : decode cX8_dependentCount 17 = .ok (.invokevirtual 79, 3) := by decide +kernel
theorem dX8_dependentCount_20 : decode cX8_dependentCount 20 = .ok (.ifCond .eq 16, 3) := by decide +kernel
theorem dX8_dependentCount_23 : decode cX8_dependentCount 23 = .ok (.aload_n 0, 1) := by decide +kernel
theorem dX8_dependentCount_24 : decode cX8_dependentCount 24 = .ok (.iload_n 3, 1) := by decide +kernel
theorem dX8_dependentCount_25 : decode cX8_dependentCount 25 = .ok (.iload_n 1, 1) := by decide +kernel
theorem dX8_dependentCount_26 : decode cX8_dependentCount 26 = .ok (.invokevirtual 114, 3) := by decide +kernel
theorem dX8_dependentCount_29 : decode cX8_dependentCount 29 = .ok (.ifCond .eq 7, 3) := by decide +kernel
theorem dX8_dependentCount_32 : decode cX8_dependentCount 32 = .ok (.iconst 1, 1) := by decide +kernel
theorem dX8_dependentCount_33 : decode cX8_dependentCount 33 = .ok (.goto 4, 3) := by decide +kernel
theorem dX8_dependentCount_36 : decode cX8_dependentCount 36 = .ok (.iconst 0, 1) := by decide +kernel
theorem dX8_dependentCount_37 : decode cX8_dependentCount 37 = .ok (.iadd, 1) := by decide +kernel
theorem dX8_dependentCount_38 : decode cX8_dependentCount 38 = .ok (.istore_n 2, 1) := by decide +kernel
theorem dX8_dependentCount_39 : decode cX8_dependentCount 39 = .ok (.iinc 3 1, 3) := by decide +kernel
theorem dX8_dependentCount_42 : decode cX8_dependentCount 42 = .ok (.goto (-38), 3) := by decide +kernel
theorem dX8_dependentCount_45 : decode cX8_dependentCount 45 = .ok (.aload_n 0, 1) := by decide +kernel
theorem dX8_dependentCount_46 : decode cX8_dependentCount 46 = .ok (.aload_n 0, 1) := by decide +kernel
theorem dX8_dependentCount_47 : decode cX8_dependentCount 47 = .ok (.iload_n 1, 1) := by decide +kernel
theorem dX8_dependentCount_48 : decode cX8_dependentCount 48 = .ok (.invokevirtual 79, 3) := by decide +kernel
theorem dX8_dependentCount_51 : decode cX8_dependentCount 51 = .ok (.invokevirtual 67, 3) := by decide +kernel
theorem dX8_dependentCount_54 : decode cX8_dependentCount 54 = .ok (.ifCond .eq 7, 3) := by decide +kernel
theorem dX8_dependentCount_57 : decode cX8_dependentCount 57 = .ok (.iload_n 2, 1) := by decide +kernel
theorem dX8_dependentCount_58 : decode cX8_dependentCount 58 = .ok (.goto 4, 3) := by decide +kernel
theorem dX8_dependentCount_61 : decode cX8_dependentCount 61 = .ok (.iconst 0, 1) := by decide +kernel
theorem dX8_dependentCount_62 : decode cX8_dependentCount 62 = .ok (.ireturn, 1) := by decide +kernel
theorem dX8_taskInOrder_0 : decode cX8_taskInOrder 0 = .ok (.iconst 0, 1) := by decide +kernel
theorem dX8_taskInOrder_1 : decode cX8_taskInOrder 1 = .ok (.istore_n 2, 1) := by decide +kernel
theorem dX8_taskInOrder_2 : decode cX8_taskInOrder 2 = .ok (.iconst (-1), 1) := by decide +kernel
theorem dX8_taskInOrder_3 : decode cX8_taskInOrder 3 = .ok (.istore_n 3, 1) := by decide +kernel
theorem dX8_taskInOrder_4 : decode cX8_taskInOrder 4 = .ok (.iconst 0, 1) := by decide +kernel
theorem dX8_taskInOrder_5 : decode cX8_taskInOrder 5 = .ok (.istore 4, 2) := by decide +kernel
theorem dX8_taskInOrder_7 : decode cX8_taskInOrder 7 = .ok (.iload 4, 2) := by decide +kernel
theorem dX8_taskInOrder_9 : decode cX8_taskInOrder 9 = .ok (.aload_n 0, 1) := by decide +kernel
theorem dX8_taskInOrder_10 : decode cX8_taskInOrder 10 = .ok (.getfield 9, 3) := by decide +kernel
theorem dX8_taskInOrder_13 : decode cX8_taskInOrder 13 = .ok (.iconst 0, 1) := by decide +kernel
theorem dX8_taskInOrder_14 : decode cX8_taskInOrder 14 = .ok (.iaload, 1) := by decide +kernel
theorem dX8_taskInOrder_15 : decode cX8_taskInOrder 15 = .ok (.if_icmp .ge 85, 3) := by decide +kernel
theorem dX8_taskInOrder_18 : decode cX8_taskInOrder 18 = .ok (.iconst (-1), 1) := by decide +kernel
theorem dX8_taskInOrder_19 : decode cX8_taskInOrder 19 = .ok (.istore 5, 2) := by decide +kernel
theorem dX8_taskInOrder_21 : decode cX8_taskInOrder 21 = .ok (.aload_n 0, 1) := by decide +kernel
theorem dX8_taskInOrder_22 : decode cX8_taskInOrder 22 = .ok (.getfield 9, 3) := by decide +kernel
theorem dX8_taskInOrder_25 : decode cX8_taskInOrder 25 = .ok (.iconst 0, 1) := by decide +kernel
theorem dX8_taskInOrder_26 : decode cX8_taskInOrder 26 = .ok (.iaload, 1) := by decide +kernel
theorem dX8_taskInOrder_27 : decode cX8_taskInOrder 27 = .ok (.iconst 1, 1) := by decide +kernel
theorem dX8_taskInOrder_28 : decode cX8_taskInOrder 28 = .ok (.isub, 1) := by decide +kernel
theorem dX8_taskInOrder_29 : decode cX8_taskInOrder 29 = .ok (.istore 6, 2) := by decide +kernel
theorem dX8_taskInOrder_31 : decode cX8_taskInOrder 31 = .ok (.iload 6, 2) := by decide +kernel
theorem dX8_taskInOrder_33 : decode cX8_taskInOrder 33 = .ok (.ifCond .lt 41, 3) := by decide +kernel
theorem dX8_taskInOrder_36 : decode cX8_taskInOrder 36 = .ok (.iload_n 2, 1) := by decide +kernel
theorem dX8_taskInOrder_37 : decode cX8_taskInOrder 37 = .ok (.iload 6, 2) := by decide +kernel
theorem dX8_taskInOrder_39 : decode cX8_taskInOrder 39 = .ok (.ishr, 1) := by decide +kernel
theorem dX8_taskInOrder_40 : decode cX8_taskInOrder 40 = .ok (.iconst 1, 1) := by decide +kernel
theorem dX8_taskInOrder_41 : decode cX8_taskInOrder 41 = .ok (.iand, 1) := by decide +kernel
theorem dX8_taskInOrder_42 : decode cX8_taskInOrder 42 = .ok (.ifCond .ne 22, 3) := by decide +kernel
theorem dX8_taskInOrder_45 : decode cX8_taskInOrder 45 = .ok (.aload_n 0, 1) := by decide +kernel
theorem dX8_taskInOrder_46 : decode cX8_taskInOrder 46 = .ok (.iload 6, 2) := by decide +kernel
theorem dX8_taskInOrder_48 : decode cX8_taskInOrder 48 = .ok (.iconst 4, 1) := by decide +kernel
theorem dX8_taskInOrder_49 : decode cX8_taskInOrder 49 = .ok (.invokevirtual 87, 3) := by decide +kernel
theorem dX8_taskInOrder_52 : decode cX8_taskInOrder 52 = .ok (.iload_n 2, 1) := by decide +kernel
theorem dX8_taskInOrder_53 : decode cX8_taskInOrder 53 = .ok (.iconst (-1), 1) := by decide +kernel
theorem dX8_taskInOrder_54 : decode cX8_taskInOrder 54 = .ok (.ixor, 1) := by decide +kernel
theorem dX8_taskInOrder_55 : decode cX8_taskInOrder 55 = .ok (.iand, 1) := by decide +kernel
theorem dX8_taskInOrder_56 : decode cX8_taskInOrder 56 = .ok (.ifCond .ne 8, 3) := by decide +kernel
theorem dX8_taskInOrder_59 : decode cX8_taskInOrder 59 = .ok (.iload 6, 2) := by decide +kernel
theorem dX8_taskInOrder_61 : decode cX8_taskInOrder 61 = .ok (.goto 5, 3) := by decide +kernel
theorem dX8_taskInOrder_64 : decode cX8_taskInOrder 64 = .ok (.iload 5, 2) := by decide +kernel
theorem dX8_taskInOrder_66 : decode cX8_taskInOrder 66 = .ok (.istore 5, 2) := by decide +kernel
theorem dX8_taskInOrder_68 : decode cX8_taskInOrder 68 = .ok (.iinc 6 (-1), 3) := by decide +kernel
theorem dX8_taskInOrder_71 : decode cX8_taskInOrder 71 = .ok (.goto (-40), 3) := by decide +kernel
theorem dX8_taskInOrder_74 : decode cX8_taskInOrder 74 = .ok (.iload_n 2, 1) := by decide +kernel
theorem dX8_taskInOrder_75 : decode cX8_taskInOrder 75 = .ok (.iconst 1, 1) := by decide +kernel
theorem dX8_taskInOrder_76 : decode cX8_taskInOrder 76 = .ok (.iload 5, 2) := by decide +kernel
theorem dX8_taskInOrder_78 : decode cX8_taskInOrder 78 = .ok (.ishl, 1) := by decide +kernel
theorem dX8_taskInOrder_79 : decode cX8_taskInOrder 79 = .ok (.ior, 1) := by decide +kernel
theorem dX8_taskInOrder_80 : decode cX8_taskInOrder 80 = .ok (.istore_n 2, 1) := by decide +kernel
theorem dX8_taskInOrder_81 : decode cX8_taskInOrder 81 = .ok (.iload 4, 2) := by decide +kernel
theorem dX8_taskInOrder_83 : decode cX8_taskInOrder 83 = .ok (.iload_n 1, 1) := by decide +kernel
theorem dX8_taskInOrder_84 : decode cX8_taskInOrder 84 = .ok (.if_icmp .ne 8, 3) := by decide +kernel
theorem dX8_taskInOrder_87 : decode cX8_taskInOrder 87 = .ok (.iload 5, 2) := by decide +kernel
theorem dX8_taskInOrder_89 : decode cX8_taskInOrder 89 = .ok (.goto 4, 3) := by decide +kernel
theorem dX8_taskInOrder_92 : decode cX8_taskInOrder 92 = .ok (.iload_n 3, 1) := by decide +kernel
theorem dX8_taskInOrder_93 : decode cX8_taskInOrder 93 = .ok (.istore_n 3, 1) := by decide +kernel
theorem dX8_taskInOrder_94 : decode cX8_taskInOrder 94 = .ok (.iinc 4 1, 3) := by decide +kernel
theorem dX8_taskInOrder_97 : decode cX8_taskInOrder 97 = .ok (.goto (-90), 3) := by decide +kernel
theorem dX8_taskInOrder_100 : decode cX8_taskInOrder 100 = .ok (.aload_n 0, 1) := by decide +kernel
theorem dX8_taskInOrder_101 : decode cX8_taskInOrder 101 = .ok (.iload_n 3, 1) := by decide +kernel
theorem dX8_taskInOrder_102 : decode cX8_taskInOrder 102 = .ok (.iconst (-1), 1) := by decide +kernel
theorem dX8_taskInOrder_103 : decode cX8_taskInOrder 103 = .ok (.if_icmp .eq 7, 3) := by decide +kernel
theorem dX8_taskInOrder_106 : decode cX8_taskInOrder 106 = .ok (.iconst 1, 1) := by decide +kernel
theorem dX8_taskInOrder_107 : decode cX8_taskInOrder 107 = .ok (.goto 4, 3) := by decide +kernel
theorem dX8_taskInOrder_110 : decode cX8_taskInOrder 110 = .ok (.iconst 0, 1) := by decide +kernel
theorem dX8_taskInOrder_111 : decode cX8_taskInOrder 111 = .ok (.invokevirtual 67, 3) := by decide +kernel
theorem dX8_taskInOrder_114 : decode cX8_taskInOrder 114 = .ok (.ifCond .eq 7, 3) := by decide +kernel
theorem dX8_taskInOrder_117 : decode cX8_taskInOrder 117 = .ok (.iload_n 3, 1) := by decide +kernel
theorem dX8_taskInOrder_118 : decode cX8_taskInOrder 118 = .ok (.goto 4, 3) := by decide +kernel
theorem dX8_taskInOrder_121 : decode cX8_taskInOrder 121 = .ok (.iconst 0, 1) := by decide +kernel
theorem dX8_taskInOrder_122 : decode cX8_taskInOrder 122 = .ok (.ireturn, 1) := by decide +kernel
theorem dX8_early_0 : decode cX8_early 0 = .ok (.aload_n 0, 1) := by decide +kernel
theorem dX8_early_1 : decode cX8_early 1 = .ok (.invokevirtual 157, 3) := by decide +kernel
theorem dX8_early_4 : decode cX8_early 4 = .ok (.aload_n 0, 1) := by decide +kernel
theorem dX8_early_5 : decode cX8_early 5 = .ok (.aload_n 0, 1) := by decide +kernel
theorem dX8_early_6 : decode cX8_early 6 = .ok (.iload_n 1, 1) := by decide +kernel
theorem dX8_early_7 : decode cX8_early 7 = .ok (.invokevirtual 79, 3) := by decide +kernel
theorem dX8_early_10 : decode cX8_early 10 = .ok (.invokevirtual 67, 3) := by decide +kernel
theorem dX8_early_13 : decode cX8_early 13 = .ok (.ifCond .eq 12, 3) := by decide +kernel
theorem dX8_early_16 : decode cX8_early 16 = .ok (.aload_n 0, 1) := by decide +kernel
theorem dX8_early_17 : decode cX8_early 17 = .ok (.getfield 29, 3) := by decide +kernel
theorem dX8_early_20 : decode cX8_early 20 = .ok (.iload_n 1, 1) := by decide +kernel
theorem dX8_early_21 : decode cX8_early 21 = .ok (.iaload, 1) := by decide +kernel
theorem dX8_early_22 : decode cX8_early 22 = .ok (.goto 4, 3) := by decide +kernel
theorem dX8_early_25 : decode cX8_early 25 = .ok (.iconst 0, 1) := by decide +kernel
theorem dX8_early_26 : decode cX8_early 26 = .ok (.ireturn, 1) := by decide +kernel
theorem dX8_earliestStart_0 : decode cX8_earliestStart 0 = .ok (.aload_n 0, 1) := by decide +kernel
theorem dX8_earliestStart_1 : decode cX8_earliestStart 1 = .ok (.iload_n 1, 1) := by decide +kernel
theorem dX8_earliestStart_2 : decode cX8_earliestStart 2 = .ok (.invokevirtual 174, 3) := by decide +kernel
theorem dX8_earliestStart_5 : decode cX8_earliestStart 5 = .ok (.ireturn, 1) := by decide +kernel
theorem dX8_earliestStartByRounds_0 : decode cX8_earliestStartByRounds 0 = .ok (.aload_n 0, 1) := by decide +kernel
theorem dX8_earliestStartByRounds_1 : decode cX8_earliestStartByRounds 1 = .ok (.iload_n 1, 1) := by decide +kernel
theorem dX8_earliestStartByRounds_2 : decode cX8_earliestStartByRounds 2 = .ok (.invokevirtual 174, 3) := by decide +kernel
theorem dX8_earliestStartByRounds_5 : decode cX8_earliestStartByRounds 5 = .ok (.ireturn, 1) := by decide +kernel
theorem dX8_latestStart_0 : decode cX8_latestStart 0 = .ok (.aload_n 0, 1) := by decide +kernel
theorem dX8_latestStart_1 : decode cX8_latestStart 1 = .ok (.invokevirtual 157, 3) := by decide +kernel
theorem dX8_latestStart_4 : decode cX8_latestStart 4 = .ok (.aload_n 0, 1) := by decide +kernel
theorem dX8_latestStart_5 : decode cX8_latestStart 5 = .ok (.aload_n 0, 1) := by decide +kernel
theorem dX8_latestStart_6 : decode cX8_latestStart 6 = .ok (.iload_n 1, 1) := by decide +kernel
theorem dX8_latestStart_7 : decode cX8_latestStart 7 = .ok (.invokevirtual 79, 3) := by decide +kernel
theorem dX8_latestStart_10 : decode cX8_latestStart 10 = .ok (.invokevirtual 67, 3) := by decide +kernel
theorem dX8_latestStart_13 : decode cX8_latestStart 13 = .ok (.ifCond .eq 12, 3) := by decide +kernel
theorem dX8_latestStart_16 : decode cX8_latestStart 16 = .ok (.aload_n 0, 1) := by decide +kernel
theorem dX8_latestStart_17 : decode cX8_latestStart 17 = .ok (.getfield 32, 3) := by decide +kernel
theorem dX8_latestStart_20 : decode cX8_latestStart 20 = .ok (.iload_n 1, 1) := by decide +kernel
theorem dX8_latestStart_21 : decode cX8_latestStart 21 = .ok (.iaload, 1) := by decide +kernel
theorem dX8_latestStart_22 : decode cX8_latestStart 22 = .ok (.goto 4, 3) := by decide +kernel
theorem dX8_latestStart_25 : decode cX8_latestStart 25 = .ok (.iconst 0, 1) := by decide +kernel
theorem dX8_latestStart_26 : decode cX8_latestStart 26 = .ok (.ireturn, 1) := by decide +kernel
theorem dX8_slack_0 : decode cX8_slack 0 = .ok (.aload_n 0, 1) := by decide +kernel
theorem dX8_slack_1 : decode cX8_slack 1 = .ok (.invokevirtual 157, 3) := by decide +kernel
theorem dX8_slack_4 : decode cX8_slack 4 = .ok (.aload_n 0, 1) := by decide +kernel
theorem dX8_slack_5 : decode cX8_slack 5 = .ok (.aload_n 0, 1) := by decide +kernel
theorem dX8_slack_6 : decode cX8_slack 6 = .ok (.iload_n 1, 1) := by decide +kernel
theorem dX8_slack_7 : decode cX8_slack 7 = .ok (.invokevirtual 79, 3) := by decide +kernel
theorem dX8_slack_10 : decode cX8_slack 10 = .ok (.invokevirtual 67, 3) := by decide +kernel
theorem dX8_slack_13 : decode cX8_slack 13 = .ok (.ifCond .eq 19, 3) := by decide +kernel
theorem dX8_slack_16 : decode cX8_slack 16 = .ok (.aload_n 0, 1) := by decide +kernel
theorem dX8_slack_17 : decode cX8_slack 17 = .ok (.getfield 32, 3) := by decide +kernel
theorem dX8_slack_20 : decode cX8_slack 20 = .ok (.iload_n 1, 1) := by decide +kernel
theorem dX8_slack_21 : decode cX8_slack 21 = .ok (.iaload, 1) := by decide +kernel
theorem dX8_slack_22 : decode cX8_slack 22 = .ok (.aload_n 0, 1) := by decide +kernel
theorem dX8_slack_23 : decode cX8_slack 23 = .ok (.getfield 29, 3) := by decide +kernel
theorem dX8_slack_26 : decode cX8_slack 26 = .ok (.iload_n 1, 1) := by decide +kernel
theorem dX8_slack_27 : decode cX8_slack 27 = .ok (.iaload, 1) := by decide +kernel
theorem dX8_slack_28 : decode cX8_slack 28 = .ok (.isub, 1) := by decide +kernel
theorem dX8_slack_29 : decode cX8_slack 29 = .ok (.goto 4, 3) := by decide +kernel
theorem dX8_slack_32 : decode cX8_slack 32 = .ok (.iconst 0, 1) := by decide +kernel
theorem dX8_slack_33 : decode cX8_slack 33 = .ok (.ireturn, 1) := by decide +kernel
theorem dX8_isCritical_0 : decode cX8_isCritical 0 = .ok (.aload_n 0, 1) := by decide +kernel
theorem dX8_isCritical_1 : decode cX8_isCritical 1 = .ok (.invokevirtual 157, 3) := by decide +kernel
theorem dX8_isCritical_4 : decode cX8_isCritical 4 = .ok (.aload_n 0, 1) := by decide +kernel
theorem dX8_isCritical_5 : decode cX8_isCritical 5 = .ok (.aload_n 0, 1) := by decide +kernel
theorem dX8_isCritical_6 : decode cX8_isCritical 6 = .ok (.iload_n 1, 1) := by decide +kernel
theorem dX8_isCritical_7 : decode cX8_isCritical 7 = .ok (.invokevirtual 79, 3) := by decide +kernel
theorem dX8_isCritical_10 : decode cX8_isCritical 10 = .ok (.invokevirtual 67, 3) := by decide +kernel
theorem dX8_isCritical_13 : decode cX8_isCritical 13 = .ok (.ifCond .eq 22, 3) := by decide +kernel
theorem dX8_isCritical_16 : decode cX8_isCritical 16 = .ok (.aload_n 0, 1) := by decide +kernel
theorem dX8_isCritical_17 : decode cX8_isCritical 17 = .ok (.getfield 32, 3) := by decide +kernel
theorem dX8_isCritical_20 : decode cX8_isCritical 20 = .ok (.iload_n 1, 1) := by decide +kernel
theorem dX8_isCritical_21 : decode cX8_isCritical 21 = .ok (.iaload, 1) := by decide +kernel
theorem dX8_isCritical_22 : decode cX8_isCritical 22 = .ok (.aload_n 0, 1) := by decide +kernel
theorem dX8_isCritical_23 : decode cX8_isCritical 23 = .ok (.getfield 29, 3) := by decide +kernel
theorem dX8_isCritical_26 : decode cX8_isCritical 26 = .ok (.iload_n 1, 1) := by decide +kernel
theorem dX8_isCritical_27 : decode cX8_isCritical 27 = .ok (.iaload, 1) := by decide +kernel
theorem dX8_isCritical_28 : decode cX8_isCritical 28 = .ok (.if_icmp .ne 7, 3) := by decide +kernel
theorem dX8_isCritical_31 : decode cX8_isCritical 31 = .ok (.iconst 1, 1) := by decide +kernel
theorem dX8_isCritical_32 : decode cX8_isCritical 32 = .ok (.goto 4, 3) := by decide +kernel
theorem dX8_isCritical_35 : decode cX8_isCritical 35 = .ok (.iconst 0, 1) := by decide +kernel
theorem dX8_isCritical_36 : decode cX8_isCritical 36 = .ok (.ireturn, 1) := by decide +kernel
theorem dX8_projectLength_0 : decode cX8_projectLength 0 = .ok (.aload_n 0, 1) := by decide +kernel
theorem dX8_projectLength_1 : decode cX8_projectLength 1 = .ok (.iconst 0, 1) := by decide +kernel
theorem dX8_projectLength_2 : decode cX8_projectLength 2 = .ok (.putfield 50, 3) := by decide +kernel
theorem dX8_projectLength_5 : decode cX8_projectLength 5 = .ok (.aload_n 0, 1) := by decide +kernel
theorem dX8_projectLength_6 : decode cX8_projectLength 6 = .ok (.invokevirtual 157, 3) := by decide +kernel
theorem dX8_projectLength_9 : decode cX8_projectLength 9 = .ok (.aload_n 0, 1) := by decide +kernel
theorem dX8_projectLength_10 : decode cX8_projectLength 10 = .ok (.aload_n 0, 1) := by decide +kernel
theorem dX8_projectLength_11 : decode cX8_projectLength 11 = .ok (.getfield 29, 3) := by decide +kernel
theorem dX8_projectLength_14 : decode cX8_projectLength 14 = .ok (.invokevirtual 133, 3) := by decide +kernel
theorem dX8_projectLength_17 : decode cX8_projectLength 17 = .ok (.ireturn, 1) := by decide +kernel
theorem dX8_criticalCount_0 : decode cX8_criticalCount 0 = .ok (.aload_n 0, 1) := by decide +kernel
theorem dX8_criticalCount_1 : decode cX8_criticalCount 1 = .ok (.iconst 0, 1) := by decide +kernel
theorem dX8_criticalCount_2 : decode cX8_criticalCount 2 = .ok (.putfield 50, 3) := by decide +kernel
theorem dX8_criticalCount_5 : decode cX8_criticalCount 5 = .ok (.aload_n 0, 1) := by decide +kernel
theorem dX8_criticalCount_6 : decode cX8_criticalCount 6 = .ok (.invokevirtual 157, 3) := by decide +kernel
theorem dX8_criticalCount_9 : decode cX8_criticalCount 9 = .ok (.iconst 0, 1) := by decide +kernel
theorem dX8_criticalCount_10 : decode cX8_criticalCount 10 = .ok (.istore_n 1, 1) := by decide +kernel
theorem dX8_criticalCount_11 : decode cX8_criticalCount 11 = .ok (.iconst 0, 1) := by decide +kernel
theorem dX8_criticalCount_12 : decode cX8_criticalCount 12 = .ok (.istore_n 2, 1) := by decide +kernel
theorem dX8_criticalCount_13 : decode cX8_criticalCount 13 = .ok (.iload_n 2, 1) := by decide +kernel
theorem dX8_criticalCount_14 : decode cX8_criticalCount 14 = .ok (.aload_n 0, 1) := by decide +kernel
theorem dX8_criticalCount_15 : decode cX8_criticalCount 15 = .ok (.getfield 9, 3) := by decide +kernel
theorem dX8_criticalCount_18 : decode cX8_criticalCount 18 = .ok (.iconst 0, 1) := by decide +kernel
theorem dX8_criticalCount_19 : decode cX8_criticalCount 19 = .ok (.iaload, 1) := by decide +kernel
theorem dX8_criticalCount_20 : decode cX8_criticalCount 20 = .ok (.if_icmp .ge 32, 3) := by decide +kernel
theorem dX8_criticalCount_23 : decode cX8_criticalCount 23 = .ok (.iload_n 1, 1) := by decide +kernel
theorem dX8_criticalCount_24 : decode cX8_criticalCount 24 = .ok (.aload_n 0, 1) := by decide +kernel
theorem dX8_criticalCount_25 : decode cX8_criticalCount 25 = .ok (.getfield 32, 3) := by decide +kernel
theorem dX8_criticalCount_28 : decode cX8_criticalCount 28 = .ok (.iload_n 2, 1) := by decide +kernel
theorem dX8_criticalCount_29 : decode cX8_criticalCount 29 = .ok (.iaload, 1) := by decide +kernel
theorem dX8_criticalCount_30 : decode cX8_criticalCount 30 = .ok (.aload_n 0, 1) := by decide +kernel
theorem dX8_criticalCount_31 : decode cX8_criticalCount 31 = .ok (.getfield 29, 3) := by decide +kernel
theorem dX8_criticalCount_34 : decode cX8_criticalCount 34 = .ok (.iload_n 2, 1) := by decide +kernel
theorem dX8_criticalCount_35 : decode cX8_criticalCount 35 = .ok (.iaload, 1) := by decide +kernel
theorem dX8_criticalCount_36 : decode cX8_criticalCount 36 = .ok (.if_icmp .ne 7, 3) := by decide +kernel
theorem dX8_criticalCount_39 : decode cX8_criticalCount 39 = .ok (.iconst 1, 1) := by decide +kernel
theorem dX8_criticalCount_40 : decode cX8_criticalCount 40 = .ok (.goto 4, 3) := by decide +kernel
theorem dX8_criticalCount_43 : decode cX8_criticalCount 43 = .ok (.iconst 0, 1) := by decide +kernel
theorem dX8_criticalCount_44 : decode cX8_criticalCount 44 = .ok (.iadd, 1) := by decide +kernel
theorem dX8_criticalCount_45 : decode cX8_criticalCount 45 = .ok (.istore_n 1, 1) := by decide +kernel
theorem dX8_criticalCount_46 : decode cX8_criticalCount 46 = .ok (.iinc 2 1, 3) := by decide +kernel
theorem dX8_criticalCount_49 : decode cX8_criticalCount 49 = .ok (.goto (-36), 3) := by decide +kernel
theorem dX8_criticalCount_52 : decode cX8_criticalCount 52 = .ok (.iload_n 1, 1) := by decide +kernel
theorem dX8_criticalCount_53 : decode cX8_criticalCount 53 = .ok (.ireturn, 1) := by decide +kernel
theorem dX8_lastTask_0 : decode cX8_lastTask 0 = .ok (.aload_n 0, 1) := by decide +kernel
theorem dX8_lastTask_1 : decode cX8_lastTask 1 = .ok (.invokevirtual 157, 3) := by decide +kernel
theorem dX8_lastTask_4 : decode cX8_lastTask 4 = .ok (.aload_n 0, 1) := by decide +kernel
theorem dX8_lastTask_5 : decode cX8_lastTask 5 = .ok (.aload_n 0, 1) := by decide +kernel
theorem dX8_lastTask_6 : decode cX8_lastTask 6 = .ok (.getfield 29, 3) := by decide +kernel
theorem dX8_lastTask_9 : decode cX8_lastTask 9 = .ok (.invokevirtual 133, 3) := by decide +kernel
theorem dX8_lastTask_12 : decode cX8_lastTask 12 = .ok (.istore_n 1, 1) := by decide +kernel
theorem dX8_lastTask_13 : decode cX8_lastTask 13 = .ok (.iconst (-1), 1) := by decide +kernel
theorem dX8_lastTask_14 : decode cX8_lastTask 14 = .ok (.istore_n 2, 1) := by decide +kernel
theorem dX8_lastTask_15 : decode cX8_lastTask 15 = .ok (.aload_n 0, 1) := by decide +kernel
theorem dX8_lastTask_16 : decode cX8_lastTask 16 = .ok (.getfield 9, 3) := by decide +kernel
theorem dX8_lastTask_19 : decode cX8_lastTask 19 = .ok (.iconst 0, 1) := by decide +kernel
theorem dX8_lastTask_20 : decode cX8_lastTask 20 = .ok (.iaload, 1) := by decide +kernel
theorem dX8_lastTask_21 : decode cX8_lastTask 21 = .ok (.iconst 1, 1) := by decide +kernel
theorem dX8_lastTask_22 : decode cX8_lastTask 22 = .ok (.isub, 1) := by decide +kernel
theorem dX8_lastTask_23 : decode cX8_lastTask 23 = .ok (.istore_n 3, 1) := by decide +kernel
theorem dX8_lastTask_24 : decode cX8_lastTask 24 = .ok (.iload_n 3, 1) := by decide +kernel
theorem dX8_lastTask_25 : decode cX8_lastTask 25 = .ok (.ifCond .lt 32, 3) := by decide +kernel
theorem dX8_lastTask_28 : decode cX8_lastTask 28 = .ok (.aload_n 0, 1) := by decide +kernel
theorem dX8_lastTask_29 : decode cX8_lastTask 29 = .ok (.getfield 29, 3) := by decide +kernel
theorem dX8_lastTask_32 : decode cX8_lastTask 32 = .ok (.iload_n 3, 1) := by decide +kernel
theorem dX8_lastTask_33 : decode cX8_lastTask 33 = .ok (.iaload, 1) := by decide +kernel
theorem dX8_lastTask_34 : decode cX8_lastTask 34 = .ok (.aload_n 0, 1) := by decide +kernel
theorem dX8_lastTask_35 : decode cX8_lastTask 35 = .ok (.iload_n 3, 1) := by decide +kernel
theorem dX8_lastTask_36 : decode cX8_lastTask 36 = .ok (.iconst 0, 1) := by decide +kernel
theorem dX8_lastTask_37 : decode cX8_lastTask 37 = .ok (.invokevirtual 87, 3) := by decide +kernel
theorem dX8_lastTask_40 : decode cX8_lastTask 40 = .ok (.iadd, 1) := by decide +kernel
theorem dX8_lastTask_41 : decode cX8_lastTask 41 = .ok (.iload_n 1, 1) := by decide +kernel
theorem dX8_lastTask_42 : decode cX8_lastTask 42 = .ok (.if_icmp .ne 7, 3) := by decide +kernel
theorem dX8_lastTask_45 : decode cX8_lastTask 45 = .ok (.iload_n 3, 1) := by decide +kernel
theorem dX8_lastTask_46 : decode cX8_lastTask 46 = .ok (.goto 4, 3) := by decide +kernel
theorem dX8_lastTask_49 : decode cX8_lastTask 49 = .ok (.iload_n 2, 1) := by decide +kernel
theorem dX8_lastTask_50 : decode cX8_lastTask 50 = .ok (.istore_n 2, 1) := by decide +kernel
theorem dX8_lastTask_51 : decode cX8_lastTask 51 = .ok (.iinc 3 (-1), 3) := by decide +kernel
theorem dX8_lastTask_54 : decode cX8_lastTask 54 = .ok (.goto (-30), 3) := by decide +kernel
theorem dX8_lastTask_57 : decode cX8_lastTask 57 = .ok (.aload_n 0, 1) := by decide +kernel
theorem dX8_lastTask_58 : decode cX8_lastTask 58 = .ok (.iload_n 2, 1) := by decide +kernel
theorem dX8_lastTask_59 : decode cX8_lastTask 59 = .ok (.iconst (-1), 1) := by decide +kernel
theorem dX8_lastTask_60 : decode cX8_lastTask 60 = .ok (.if_icmp .eq 7, 3) := by decide +kernel
theorem dX8_lastTask_63 : decode cX8_lastTask 63 = .ok (.iconst 1, 1) := by decide +kernel
theorem dX8_lastTask_64 : decode cX8_lastTask 64 = .ok (.goto 4, 3) := by decide +kernel
theorem dX8_lastTask_67 : decode cX8_lastTask 67 = .ok (.iconst 0, 1) := by decide +kernel
theorem dX8_lastTask_68 : decode cX8_lastTask 68 = .ok (.invokevirtual 67, 3) := by decide +kernel
theorem dX8_lastTask_71 : decode cX8_lastTask 71 = .ok (.ifCond .eq 7, 3) := by decide +kernel
theorem dX8_lastTask_74 : decode cX8_lastTask 74 = .ok (.iload_n 2, 1) := by decide +kernel
theorem dX8_lastTask_75 : decode cX8_lastTask 75 = .ok (.goto 4, 3) := by decide +kernel
theorem dX8_lastTask_78 : decode cX8_lastTask 78 = .ok (.iconst 0, 1) := by decide +kernel
theorem dX8_lastTask_79 : decode cX8_lastTask 79 = .ok (.ireturn, 1) := by decide +kernel
theorem dX8_levelledStart_0 : decode cX8_levelledStart 0 = .ok (.aload_n 0, 1) := by decide +kernel
theorem dX8_levelledStart_1 : decode cX8_levelledStart 1 = .ok (.invokevirtual 130, 3) := by decide +kernel
theorem dX8_levelledStart_4 : decode cX8_levelledStart 4 = .ok (.aload_n 0, 1) := by decide +kernel
theorem dX8_levelledStart_5 : decode cX8_levelledStart 5 = .ok (.aload_n 0, 1) := by decide +kernel
theorem dX8_levelledStart_6 : decode cX8_levelledStart 6 = .ok (.iload_n 1, 1) := by decide +kernel
theorem dX8_levelledStart_7 : decode cX8_levelledStart 7 = .ok (.invokevirtual 79, 3) := by decide +kernel
theorem dX8_levelledStart_10 : decode cX8_levelledStart 10 = .ok (.invokevirtual 67, 3) := by decide +kernel
theorem dX8_levelledStart_13 : decode cX8_levelledStart 13 = .ok (.ifCond .eq 12, 3) := by decide +kernel
theorem dX8_levelledStart_16 : decode cX8_levelledStart 16 = .ok (.aload_n 0, 1) := by decide +kernel
theorem dX8_levelledStart_17 : decode cX8_levelledStart 17 = .ok (.getfield 35, 3) := by decide +kernel
theorem dX8_levelledStart_20 : decode cX8_levelledStart 20 = .ok (.iload_n 1, 1) := by decide +kernel
theorem dX8_levelledStart_21 : decode cX8_levelledStart 21 = .ok (.iaload, 1) := by decide +kernel
theorem dX8_levelledStart_22 : decode cX8_levelledStart 22 = .ok (.goto 4, 3) := by decide +kernel
theorem dX8_levelledStart_25 : decode cX8_levelledStart 25 = .ok (.iconst 0, 1) := by decide +kernel
theorem dX8_levelledStart_26 : decode cX8_levelledStart 26 = .ok (.ireturn, 1) := by decide +kernel
theorem dX8_levelledLength_0 : decode cX8_levelledLength 0 = .ok (.aload_n 0, 1) := by decide +kernel
theorem dX8_levelledLength_1 : decode cX8_levelledLength 1 = .ok (.iconst 0, 1) := by decide +kernel
theorem dX8_levelledLength_2 : decode cX8_levelledLength 2 = .ok (.putfield 50, 3) := by decide +kernel
theorem dX8_levelledLength_5 : decode cX8_levelledLength 5 = .ok (.aload_n 0, 1) := by decide +kernel
theorem dX8_levelledLength_6 : decode cX8_levelledLength 6 = .ok (.invokevirtual 130, 3) := by decide +kernel
theorem dX8_levelledLength_9 : decode cX8_levelledLength 9 = .ok (.aload_n 0, 1) := by decide +kernel
theorem dX8_levelledLength_10 : decode cX8_levelledLength 10 = .ok (.aload_n 0, 1) := by decide +kernel
theorem dX8_levelledLength_11 : decode cX8_levelledLength 11 = .ok (.getfield 35, 3) := by decide +kernel
theorem dX8_levelledLength_14 : decode cX8_levelledLength 14 = .ok (.invokevirtual 133, 3) := by decide +kernel
theorem dX8_levelledLength_17 : decode cX8_levelledLength 17 = .ok (.ireturn, 1) := by decide +kernel
theorem dX8_usageOn_0 : decode cX8_usageOn 0 = .ok (.aload_n 0, 1) := by decide +kernel
theorem dX8_usageOn_1 : decode cX8_usageOn 1 = .ok (.invokevirtual 130, 3) := by decide +kernel
theorem dX8_usageOn_4 : decode cX8_usageOn 4 = .ok (.aload_n 0, 1) := by decide +kernel
theorem dX8_usageOn_5 : decode cX8_usageOn 5 = .ok (.iload_n 1, 1) := by decide +kernel
theorem dX8_usageOn_6 : decode cX8_usageOn 6 = .ok (.invokestatic 94, 3) := by decide +kernel
theorem dX8_usageOn_9 : decode cX8_usageOn 9 = .ok (.ifCond .eq 11, 3) := by decide +kernel
theorem dX8_usageOn_12 : decode cX8_usageOn 12 = .ok (.iload_n 2, 1) := by decide +kernel
theorem dX8_usageOn_13 : decode cX8_usageOn 13 = .ok (.ifCond .lt 7, 3) := by decide +kernel
theorem dX8_usageOn_16 : decode cX8_usageOn 16 = .ok (.iconst 1, 1) := by decide +kernel
theorem dX8_usageOn_17 : decode cX8_usageOn 17 = .ok (.goto 4, 3) := by decide +kernel
theorem dX8_usageOn_20 : decode cX8_usageOn 20 = .ok (.iconst 0, 1) := by decide +kernel
theorem dX8_usageOn_21 : decode cX8_usageOn 21 = .ok (.invokevirtual 67, 3) := by decide +kernel
theorem dX8_usageOn_24 : decode cX8_usageOn 24 = .ok (.ifCond .eq 25, 3) := by decide +kernel
theorem dX8_usageOn_27 : decode cX8_usageOn 27 = .ok (.iload_n 2, 1) := by decide +kernel
theorem dX8_usageOn_28 : decode cX8_usageOn 28 = .ok (.sipush 160, 3) := by decide +kernel
theorem dX8_usageOn_31 : decode cX8_usageOn 31 = .ok (.if_icmp .ge 18, 3) := by decide +kernel
theorem dX8_usageOn_34 : decode cX8_usageOn 34 = .ok (.aload_n 0, 1) := by decide +kernel
theorem dX8_usageOn_35 : decode cX8_usageOn 35 = .ok (.getfield 38, 3) := by decide +kernel
theorem dX8_usageOn_38 : decode cX8_usageOn 38 = .ok (.sipush 160, 3) := by decide +kernel
theorem dX8_usageOn_41 : decode cX8_usageOn 41 = .ok (.iload_n 1, 1) := by decide +kernel
theorem dX8_usageOn_42 : decode cX8_usageOn 42 = .ok (.imul, 1) := by decide +kernel
theorem dX8_usageOn_43 : decode cX8_usageOn 43 = .ok (.iload_n 2, 1) := by decide +kernel
theorem dX8_usageOn_44 : decode cX8_usageOn 44 = .ok (.iadd, 1) := by decide +kernel
theorem dX8_usageOn_45 : decode cX8_usageOn 45 = .ok (.iaload, 1) := by decide +kernel
theorem dX8_usageOn_46 : decode cX8_usageOn 46 = .ok (.goto 4, 3) := by decide +kernel
theorem dX8_usageOn_49 : decode cX8_usageOn 49 = .ok (.iconst 0, 1) := by decide +kernel
theorem dX8_usageOn_50 : decode cX8_usageOn 50 = .ok (.ireturn, 1) := by decide +kernel
theorem dX8_usage_0 : decode cX8_usage 0 = .ok (.aload_n 0, 1) := by decide +kernel
theorem dX8_usage_1 : decode cX8_usage 1 = .ok (.iload_n 1, 1) := by decide +kernel
theorem dX8_usage_2 : decode cX8_usage 2 = .ok (.iload_n 2, 1) := by decide +kernel
theorem dX8_usage_3 : decode cX8_usage 3 = .ok (.invokevirtual 176, 3) := by decide +kernel
theorem dX8_usage_6 : decode cX8_usage 6 = .ok (.ireturn, 1) := by decide +kernel
theorem dX8_usageByTasks_0 : decode cX8_usageByTasks 0 = .ok (.aload_n 0, 1) := by decide +kernel
theorem dX8_usageByTasks_1 : decode cX8_usageByTasks 1 = .ok (.iload_n 1, 1) := by decide +kernel
theorem dX8_usageByTasks_2 : decode cX8_usageByTasks 2 = .ok (.iload_n 2, 1) := by decide +kernel
theorem dX8_usageByTasks_3 : decode cX8_usageByTasks 3 = .ok (.invokevirtual 176, 3) := by decide +kernel
theorem dX8_usageByTasks_6 : decode cX8_usageByTasks 6 = .ok (.ireturn, 1) := by decide +kernel
theorem dX8_peakUsage_0 : decode cX8_peakUsage 0 = .ok (.aload_n 0, 1) := by decide +kernel
theorem dX8_peakUsage_1 : decode cX8_peakUsage 1 = .ok (.iload_n 1, 1) := by decide +kernel
theorem dX8_peakUsage_2 : decode cX8_peakUsage 2 = .ok (.invokestatic 94, 3) := by decide +kernel
theorem dX8_peakUsage_5 : decode cX8_peakUsage 5 = .ok (.invokevirtual 67, 3) := by decide +kernel
theorem dX8_peakUsage_8 : decode cX8_peakUsage 8 = .ok (.ifCond .ne 5, 3) := by decide +kernel
theorem dX8_peakUsage_11 : decode cX8_peakUsage 11 = .ok (.iconst 0, 1) := by decide +kernel
theorem dX8_peakUsage_12 : decode cX8_peakUsage 12 = .ok (.ireturn, 1) := by decide +kernel
theorem dX8_peakUsage_13 : decode cX8_peakUsage 13 = .ok (.aload_n 0, 1) := by decide +kernel
theorem dX8_peakUsage_14 : decode cX8_peakUsage 14 = .ok (.invokevirtual 130, 3) := by decide +kernel
theorem dX8_peakUsage_17 : decode cX8_peakUsage 17 = .ok (.iconst 0, 1) := by decide +kernel
theorem dX8_peakUsage_18 : decode cX8_peakUsage 18 = .ok (.istore_n 2, 1) := by decide +kernel
theorem dX8_peakUsage_19 : decode cX8_peakUsage 19 = .ok (.iconst 0, 1) := by decide +kernel
theorem dX8_peakUsage_20 : decode cX8_peakUsage 20 = .ok (.istore_n 3, 1) := by decide +kernel
theorem dX8_peakUsage_21 : decode cX8_peakUsage 21 = .ok (.iload_n 3, 1) := by decide +kernel
theorem dX8_peakUsage_22 : decode cX8_peakUsage 22 = .ok (.sipush 160, 3) := by decide +kernel
theorem dX8_peakUsage_25 : decode cX8_peakUsage 25 = .ok (.if_icmp .ge 26, 3) := by decide +kernel
theorem dX8_peakUsage_28 : decode cX8_peakUsage 28 = .ok (.iload_n 2, 1) := by decide +kernel
theorem dX8_peakUsage_29 : decode cX8_peakUsage 29 = .ok (.aload_n 0, 1) := by decide +kernel
theorem dX8_peakUsage_30 : decode cX8_peakUsage 30 = .ok (.getfield 38, 3) := by decide +kernel
theorem dX8_peakUsage_33 : decode cX8_peakUsage 33 = .ok (.sipush 160, 3) := by decide +kernel
theorem dX8_peakUsage_36 : decode cX8_peakUsage 36 = .ok (.iload_n 1, 1) := by decide +kernel
theorem dX8_peakUsage_37 : decode cX8_peakUsage 37 = .ok (.imul, 1) := by decide +kernel
theorem dX8_peakUsage_38 : decode cX8_peakUsage 38 = .ok (.iload_n 3, 1) := by decide +kernel
theorem dX8_peakUsage_39 : decode cX8_peakUsage 39 = .ok (.iadd, 1) := by decide +kernel
theorem dX8_peakUsage_40 : decode cX8_peakUsage 40 = .ok (.iaload, 1) := by decide +kernel
theorem dX8_peakUsage_41 : decode cX8_peakUsage 41 = .ok (.invokestatic 141, 3) := by decide +kernel
theorem dX8_peakUsage_44 : decode cX8_peakUsage 44 = .ok (.istore_n 2, 1) := by decide +kernel
theorem dX8_peakUsage_45 : decode cX8_peakUsage 45 = .ok (.iinc 3 1, 3) := by decide +kernel
theorem dX8_peakUsage_48 : decode cX8_peakUsage 48 = .ok (.goto (-27), 3) := by decide +kernel
theorem dX8_peakUsage_51 : decode cX8_peakUsage 51 = .ok (.iload_n 2, 1) := by decide +kernel
theorem dX8_peakUsage_52 : decode cX8_peakUsage 52 = .ok (.ireturn, 1) := by decide +kernel
theorem dX8_tasksOn_0 : decode cX8_tasksOn 0 = .ok (.aload_n 0, 1) := by decide +kernel
theorem dX8_tasksOn_1 : decode cX8_tasksOn 1 = .ok (.iload_n 1, 1) := by decide +kernel
theorem dX8_tasksOn_2 : decode cX8_tasksOn 2 = .ok (.ifCond .lt 7, 3) := by decide +kernel
theorem dX8_tasksOn_5 : decode cX8_tasksOn 5 = .ok (.iconst 1, 1) := by decide +kernel
theorem dX8_tasksOn_6 : decode cX8_tasksOn 6 = .ok (.goto 4, 3) := by decide +kernel
theorem dX8_tasksOn_9 : decode cX8_tasksOn 9 = .ok (.iconst 0, 1) := by decide +kernel
theorem dX8_tasksOn_10 : decode cX8_tasksOn 10 = .ok (.invokevirtual 67, 3) := by decide +kernel
theorem dX8_tasksOn_13 : decode cX8_tasksOn 13 = .ok (.ifCond .ne 5, 3) := by decide +kernel
theorem dX8_tasksOn_16 : decode cX8_tasksOn 16 = .ok (.iconst 0, 1) := by decide +kernel
theorem dX8_tasksOn_17 : decode cX8_tasksOn 17 = .ok (.ireturn, 1) := by decide +kernel
theorem dX8_tasksOn_18 : decode cX8_tasksOn 18 = .ok (.aload_n 0, 1) := by decide +kernel
theorem dX8_tasksOn_19 : decode cX8_tasksOn 19 = .ok (.invokevirtual 130, 3) := by decide +kernel
theorem dX8_tasksOn_22 : decode cX8_tasksOn 22 = .ok (.iconst 0, 1) := by decide +kernel
theorem dX8_tasksOn_23 : decode cX8_tasksOn 23 = .ok (.istore_n 2, 1) := by decide +kernel
theorem dX8_tasksOn_24 : decode cX8_tasksOn 24 = .ok (.iconst 0, 1) := by decide +kernel
theorem dX8_tasksOn_25 : decode cX8_tasksOn 25 = .ok (.istore_n 3, 1) := by decide +kernel
theorem dX8_tasksOn_26 : decode cX8_tasksOn 26 = .ok (.iload_n 3, 1) := by decide +kernel
theorem dX8_tasksOn_27 : decode cX8_tasksOn 27 = .ok (.aload_n 0, 1) := by decide +kernel
theorem dX8_tasksOn_28 : decode cX8_tasksOn 28 = .ok (.getfield 9, 3) := by decide +kernel
theorem dX8_tasksOn_31 : decode cX8_tasksOn 31 = .ok (.iconst 0, 1) := by decide +kernel
theorem dX8_tasksOn_32 : decode cX8_tasksOn 32 = .ok (.iaload, 1) := by decide +kernel
theorem dX8_tasksOn_33 : decode cX8_tasksOn 33 = .ok (.if_icmp .ge 45, 3) := by decide +kernel
theorem dX8_tasksOn_36 : decode cX8_tasksOn 36 = .ok (.iload_n 2, 1) := by decide +kernel
theorem dX8_tasksOn_37 : decode cX8_tasksOn 37 = .ok (.iload_n 1, 1) := by decide +kernel
theorem dX8_tasksOn_38 : decode cX8_tasksOn 38 = .ok (.aload_n 0, 1) := by decide +kernel
theorem dX8_tasksOn_39 : decode cX8_tasksOn 39 = .ok (.getfield 35, 3) := by decide +kernel
theorem dX8_tasksOn_42 : decode cX8_tasksOn 42 = .ok (.iload_n 3, 1) := by decide +kernel
theorem dX8_tasksOn_43 : decode cX8_tasksOn 43 = .ok (.iaload, 1) := by decide +kernel
theorem dX8_tasksOn_44 : decode cX8_tasksOn 44 = .ok (.aload_n 0, 1) := by decide +kernel
theorem dX8_tasksOn_45 : decode cX8_tasksOn 45 = .ok (.getfield 35, 3) := by decide +kernel
theorem dX8_tasksOn_48 : decode cX8_tasksOn 48 = .ok (.iload_n 3, 1) := by decide +kernel
theorem dX8_tasksOn_49 : decode cX8_tasksOn 49 = .ok (.iaload, 1) := by decide +kernel
theorem dX8_tasksOn_50 : decode cX8_tasksOn 50 = .ok (.aload_n 0, 1) := by decide +kernel
theorem dX8_tasksOn_51 : decode cX8_tasksOn 51 = .ok (.iload_n 3, 1) := by decide +kernel
theorem dX8_tasksOn_52 : decode cX8_tasksOn 52 = .ok (.iconst 0, 1) := by decide +kernel
theorem dX8_tasksOn_53 : decode cX8_tasksOn 53 = .ok (.invokevirtual 87, 3) := by decide +kernel
theorem dX8_tasksOn_56 : decode cX8_tasksOn 56 = .ok (.iadd, 1) := by decide +kernel
theorem dX8_tasksOn_57 : decode cX8_tasksOn 57 = .ok (.iconst 1, 1) := by decide +kernel
theorem dX8_tasksOn_58 : decode cX8_tasksOn 58 = .ok (.isub, 1) := by decide +kernel
theorem dX8_tasksOn_59 : decode cX8_tasksOn 59 = .ok (.invokestatic 75, 3) := by decide +kernel
theorem dX8_tasksOn_62 : decode cX8_tasksOn 62 = .ok (.ifCond .eq 7, 3) := by decide +kernel
theorem dX8_tasksOn_65 : decode cX8_tasksOn 65 = .ok (.iconst 1, 1) := by decide +kernel
theorem dX8_tasksOn_66 : decode cX8_tasksOn 66 = .ok (.goto 4, 3) := by decide +kernel
theorem dX8_tasksOn_69 : decode cX8_tasksOn 69 = .ok (.iconst 0, 1) := by decide +kernel
theorem dX8_tasksOn_70 : decode cX8_tasksOn 70 = .ok (.iadd, 1) := by decide +kernel
theorem dX8_tasksOn_71 : decode cX8_tasksOn 71 = .ok (.istore_n 2, 1) := by decide +kernel
theorem dX8_tasksOn_72 : decode cX8_tasksOn 72 = .ok (.iinc 3 1, 3) := by decide +kernel
theorem dX8_tasksOn_75 : decode cX8_tasksOn 75 = .ok (.goto (-49), 3) := by decide +kernel
theorem dX8_tasksOn_78 : decode cX8_tasksOn 78 = .ok (.iload_n 2, 1) := by decide +kernel
theorem dX8_tasksOn_79 : decode cX8_tasksOn 79 = .ok (.ireturn, 1) := by decide +kernel
theorem dX8_work_0 : decode cX8_work 0 = .ok (.iconst 0, 1) := by decide +kernel
theorem dX8_work_1 : decode cX8_work 1 = .ok (.istore_n 2, 1) := by decide +kernel
theorem dX8_work_2 : decode cX8_work 2 = .ok (.iconst 0, 1) := by decide +kernel
theorem dX8_work_3 : decode cX8_work 3 = .ok (.istore_n 3, 1) := by decide +kernel
theorem dX8_work_4 : decode cX8_work 4 = .ok (.iload_n 3, 1) := by decide +kernel
theorem dX8_work_5 : decode cX8_work 5 = .ok (.aload_n 0, 1) := by decide +kernel
theorem dX8_work_6 : decode cX8_work 6 = .ok (.getfield 9, 3) := by decide +kernel
theorem dX8_work_9 : decode cX8_work 9 = .ok (.iconst 0, 1) := by decide +kernel
theorem dX8_work_10 : decode cX8_work 10 = .ok (.iaload, 1) := by decide +kernel
theorem dX8_work_11 : decode cX8_work 11 = .ok (.if_icmp .ge 39, 3) := by decide +kernel
theorem dX8_work_14 : decode cX8_work 14 = .ok (.iload_n 2, 1) := by decide +kernel
theorem dX8_work_15 : decode cX8_work 15 = .ok (.aload_n 0, 1) := by decide +kernel
theorem dX8_work_16 : decode cX8_work 16 = .ok (.iload_n 3, 1) := by decide +kernel
theorem dX8_work_17 : decode cX8_work 17 = .ok (.iconst 1, 1) := by decide +kernel
theorem dX8_work_18 : decode cX8_work 18 = .ok (.invokevirtual 87, 3) := by decide +kernel
theorem dX8_work_21 : decode cX8_work 21 = .ok (.iload_n 1, 1) := by decide +kernel
theorem dX8_work_22 : decode cX8_work 22 = .ok (.if_icmp .ne 19, 3) := by decide +kernel
theorem dX8_work_25 : decode cX8_work 25 = .ok (.aload_n 0, 1) := by decide +kernel
theorem dX8_work_26 : decode cX8_work 26 = .ok (.iload_n 3, 1) := by decide +kernel
theorem dX8_work_27 : decode cX8_work 27 = .ok (.iconst 0, 1) := by decide +kernel
theorem dX8_work_28 : decode cX8_work 28 = .ok (.invokevirtual 87, 3) := by decide +kernel
theorem dX8_work_31 : decode cX8_work 31 = .ok (.aload_n 0, 1) := by decide +kernel
theorem dX8_work_32 : decode cX8_work 32 = .ok (.iload_n 3, 1) := by decide +kernel
theorem dX8_work_33 : decode cX8_work 33 = .ok (.iconst 2, 1) := by decide +kernel
theorem dX8_work_34 : decode cX8_work 34 = .ok (.invokevirtual 87, 3) := by decide +kernel
theorem dX8_work_37 : decode cX8_work 37 = .ok (.imul, 1) := by decide +kernel
theorem dX8_work_38 : decode cX8_work 38 = .ok (.goto 4, 3) := by decide +kernel
theorem dX8_work_41 : decode cX8_work 41 = .ok (.iconst 0, 1) := by decide +kernel
theorem dX8_work_42 : decode cX8_work 42 = .ok (.iadd, 1) := by decide +kernel
theorem dX8_work_43 : decode cX8_work 43 = .ok (.istore_n 2, 1) := by decide +kernel
theorem dX8_work_44 : decode cX8_work 44 = .ok (.iinc 3 1, 3) := by decide +kernel
theorem dX8_work_47 : decode cX8_work 47 = .ok (.goto (-43), 3) := by decide +kernel
theorem dX8_work_50 : decode cX8_work 50 = .ok (.aload_n 0, 1) := by decide +kernel
theorem dX8_work_51 : decode cX8_work 51 = .ok (.iload_n 1, 1) := by decide +kernel
theorem dX8_work_52 : decode cX8_work 52 = .ok (.invokestatic 94, 3) := by decide +kernel
theorem dX8_work_55 : decode cX8_work 55 = .ok (.invokevirtual 67, 3) := by decide +kernel
theorem dX8_work_58 : decode cX8_work 58 = .ok (.ifCond .eq 7, 3) := by decide +kernel
theorem dX8_work_61 : decode cX8_work 61 = .ok (.iload_n 2, 1) := by decide +kernel
theorem dX8_work_62 : decode cX8_work 62 = .ok (.goto 4, 3) := by decide +kernel
theorem dX8_work_65 : decode cX8_work 65 = .ok (.iconst 0, 1) := by decide +kernel
theorem dX8_work_66 : decode cX8_work 66 = .ok (.ireturn, 1) := by decide +kernel
theorem dX8_workload_0 : decode cX8_workload 0 = .ok (.aload_n 0, 1) := by decide +kernel
theorem dX8_workload_1 : decode cX8_workload 1 = .ok (.iload_n 1, 1) := by decide +kernel
theorem dX8_workload_2 : decode cX8_workload 2 = .ok (.invokevirtual 179, 3) := by decide +kernel
theorem dX8_workload_5 : decode cX8_workload 5 = .ok (.ireturn, 1) := by decide +kernel
theorem dX8_workloadByDays_0 : decode cX8_workloadByDays 0 = .ok (.aload_n 0, 1) := by decide +kernel
theorem dX8_workloadByDays_1 : decode cX8_workloadByDays 1 = .ok (.iload_n 1, 1) := by decide +kernel
theorem dX8_workloadByDays_2 : decode cX8_workloadByDays 2 = .ok (.invokevirtual 179, 3) := by decide +kernel
theorem dX8_workloadByDays_5 : decode cX8_workloadByDays 5 = .ok (.ireturn, 1) := by decide +kernel
theorem dX8_hasBaseline_0 : decode cX8_hasBaseline 0 = .ok (.aload_n 0, 1) := by decide +kernel
theorem dX8_hasBaseline_1 : decode cX8_hasBaseline 1 = .ok (.iconst 0, 1) := by decide +kernel
theorem dX8_hasBaseline_2 : decode cX8_hasBaseline 2 = .ok (.putfield 50, 3) := by decide +kernel
theorem dX8_hasBaseline_5 : decode cX8_hasBaseline 5 = .ok (.aload_n 0, 1) := by decide +kernel
theorem dX8_hasBaseline_6 : decode cX8_hasBaseline 6 = .ok (.getfield 9, 3) := by decide +kernel
theorem dX8_hasBaseline_9 : decode cX8_hasBaseline 9 = .ok (.iconst 1, 1) := by decide +kernel
theorem dX8_hasBaseline_10 : decode cX8_hasBaseline 10 = .ok (.iaload, 1) := by decide +kernel
theorem dX8_hasBaseline_11 : decode cX8_hasBaseline 11 = .ok (.iconst 1, 1) := by decide +kernel
theorem dX8_hasBaseline_12 : decode cX8_hasBaseline 12 = .ok (.if_icmp .ne 7, 3) := by decide +kernel
theorem dX8_hasBaseline_15 : decode cX8_hasBaseline 15 = .ok (.iconst 1, 1) := by decide +kernel
theorem dX8_hasBaseline_16 : decode cX8_hasBaseline 16 = .ok (.goto 4, 3) := by decide +kernel
theorem dX8_hasBaseline_19 : decode cX8_hasBaseline 19 = .ok (.iconst 0, 1) := by decide +kernel
theorem dX8_hasBaseline_20 : decode cX8_hasBaseline 20 = .ok (.ireturn, 1) := by decide +kernel
theorem dX8_baselineStart_0 : decode cX8_baselineStart 0 = .ok (.aload_n 0, 1) := by decide +kernel
theorem dX8_baselineStart_1 : decode cX8_baselineStart 1 = .ok (.aload_n 0, 1) := by decide +kernel
theorem dX8_baselineStart_2 : decode cX8_baselineStart 2 = .ok (.iload_n 1, 1) := by decide +kernel
theorem dX8_baselineStart_3 : decode cX8_baselineStart 3 = .ok (.invokevirtual 79, 3) := by decide +kernel
theorem dX8_baselineStart_6 : decode cX8_baselineStart 6 = .ok (.aload_n 0, 1) := by decide +kernel
theorem dX8_baselineStart_7 : decode cX8_baselineStart 7 = .ok (.iload_n 1, 1) := by decide +kernel
theorem dX8_baselineStart_8 : decode cX8_baselineStart 8 = .ok (.iconst 5, 1) := by decide +kernel
theorem dX8_baselineStart_9 : decode cX8_baselineStart 9 = .ok (.invokevirtual 87, 3) := by decide +kernel
theorem dX8_baselineStart_12 : decode cX8_baselineStart 12 = .ok (.iconst (-1), 1) := by decide +kernel
theorem dX8_baselineStart_13 : decode cX8_baselineStart 13 = .ok (.if_icmp .eq 7, 3) := by decide +kernel
theorem dX8_baselineStart_16 : decode cX8_baselineStart 16 = .ok (.iconst 1, 1) := by decide +kernel
theorem dX8_baselineStart_17 : decode cX8_baselineStart 17 = .ok (.goto 4, 3) := by decide +kernel
theorem dX8_baselineStart_20 : decode cX8_baselineStart 20 = .ok (.iconst 0, 1) := by decide +kernel
theorem dX8_baselineStart_21 : decode cX8_baselineStart 21 = .ok (.iconst 1, 1) := by decide +kernel
theorem dX8_baselineStart_22 : decode cX8_baselineStart 22 = .ok (.invokevirtual 53, 3) := by decide +kernel
theorem dX8_baselineStart_25 : decode cX8_baselineStart 25 = .ok (.ifCond .eq 12, 3) := by decide +kernel
theorem dX8_baselineStart_28 : decode cX8_baselineStart 28 = .ok (.aload_n 0, 1) := by decide +kernel
theorem dX8_baselineStart_29 : decode cX8_baselineStart 29 = .ok (.iload_n 1, 1) := by decide +kernel
theorem dX8_baselineStart_30 : decode cX8_baselineStart 30 = .ok (.iconst 5, 1) := by decide +kernel
theorem dX8_baselineStart_31 : decode cX8_baselineStart 31 = .ok (.invokevirtual 87, 3) := by decide +kernel
theorem dX8_baselineStart_34 : decode cX8_baselineStart 34 = .ok (.goto 4, 3) := by decide +kernel
theorem dX8_baselineStart_37 : decode cX8_baselineStart 37 = .ok (.iconst 0, 1) := by decide +kernel
theorem dX8_baselineStart_38 : decode cX8_baselineStart 38 = .ok (.ireturn, 1) := by decide +kernel
theorem dX8_drift_0 : decode cX8_drift 0 = .ok (.aload_n 0, 1) := by decide +kernel
theorem dX8_drift_1 : decode cX8_drift 1 = .ok (.invokevirtual 130, 3) := by decide +kernel
theorem dX8_drift_4 : decode cX8_drift 4 = .ok (.aload_n 0, 1) := by decide +kernel
theorem dX8_drift_5 : decode cX8_drift 5 = .ok (.aload_n 0, 1) := by decide +kernel
theorem dX8_drift_6 : decode cX8_drift 6 = .ok (.iload_n 1, 1) := by decide +kernel
theorem dX8_drift_7 : decode cX8_drift 7 = .ok (.invokevirtual 79, 3) := by decide +kernel
theorem dX8_drift_10 : decode cX8_drift 10 = .ok (.aload_n 0, 1) := by decide +kernel
theorem dX8_drift_11 : decode cX8_drift 11 = .ok (.iload_n 1, 1) := by decide +kernel
theorem dX8_drift_12 : decode cX8_drift 12 = .ok (.iconst 5, 1) := by decide +kernel
theorem dX8_drift_13 : decode cX8_drift 13 = .ok (.invokevirtual 87, 3) := by decide +kernel
theorem dX8_drift_16 : decode cX8_drift 16 = .ok (.iconst (-1), 1) := by decide +kernel
theorem dX8_drift_17 : decode cX8_drift 17 = .ok (.if_icmp .eq 7, 3) := by decide +kernel
theorem dX8_drift_20 : decode cX8_drift 20 = .ok (.iconst 1, 1) := by decide +kernel
theorem dX8_drift_21 : decode cX8_drift 21 = .ok (.goto 4, 3) := by decide +kernel
theorem dX8_drift_24 : decode cX8_drift 24 = .ok (.iconst 0, 1) := by decide +kernel
theorem dX8_drift_25 : decode cX8_drift 25 = .ok (.iconst 1, 1) := by decide +kernel
theorem dX8_drift_26 : decode cX8_drift 26 = .ok (.invokevirtual 53, 3) := by decide +kernel
theorem dX8_drift_29 : decode cX8_drift 29 = .ok (.ifCond .eq 19, 3) := by decide +kernel
theorem dX8_drift_32 : decode cX8_drift 32 = .ok (.aload_n 0, 1) := by decide +kernel
theorem dX8_drift_33 : decode cX8_drift 33 = .ok (.getfield 35, 3) := by decide +kernel
theorem dX8_drift_36 : decode cX8_drift 36 = .ok (.iload_n 1, 1) := by decide +kernel
theorem dX8_drift_37 : decode cX8_drift 37 = .ok (.iaload, 1) := by decide +kernel
theorem dX8_drift_38 : decode cX8_drift 38 = .ok (.aload_n 0, 1) := by decide +kernel
theorem dX8_drift_39 : decode cX8_drift 39 = .ok (.iload_n 1, 1) := by decide +kernel
theorem dX8_drift_40 : decode cX8_drift 40 = .ok (.iconst 5, 1) := by decide +kernel
theorem dX8_drift_41 : decode cX8_drift 41 = .ok (.invokevirtual 87, 3) := by decide +kernel
theorem dX8_drift_44 : decode cX8_drift 44 = .ok (.isub, 1) := by decide +kernel
theorem dX8_drift_45 : decode cX8_drift 45 = .ok (.goto 4, 3) := by decide +kernel
theorem dX8_drift_48 : decode cX8_drift 48 = .ok (.iconst 0, 1) := by decide +kernel
theorem dX8_drift_49 : decode cX8_drift 49 = .ok (.ireturn, 1) := by decide +kernel
theorem dX8_totalDrift_0 : decode cX8_totalDrift 0 = .ok (.aload_n 0, 1) := by decide +kernel
theorem dX8_totalDrift_1 : decode cX8_totalDrift 1 = .ok (.invokevirtual 130, 3) := by decide +kernel
theorem dX8_totalDrift_4 : decode cX8_totalDrift 4 = .ok (.iconst 0, 1) := by decide +kernel
theorem dX8_totalDrift_5 : decode cX8_totalDrift 5 = .ok (.istore_n 1, 1) := by decide +kernel
theorem dX8_totalDrift_6 : decode cX8_totalDrift 6 = .ok (.iconst 0, 1) := by decide +kernel
theorem dX8_totalDrift_7 : decode cX8_totalDrift 7 = .ok (.istore_n 2, 1) := by decide +kernel
theorem dX8_totalDrift_8 : decode cX8_totalDrift 8 = .ok (.iload_n 2, 1) := by decide +kernel
theorem dX8_totalDrift_9 : decode cX8_totalDrift 9 = .ok (.aload_n 0, 1) := by decide +kernel
theorem dX8_totalDrift_10 : decode cX8_totalDrift 10 = .ok (.getfield 9, 3) := by decide +kernel
theorem dX8_totalDrift_13 : decode cX8_totalDrift 13 = .ok (.iconst 0, 1) := by decide +kernel
theorem dX8_totalDrift_14 : decode cX8_totalDrift 14 = .ok (.iaload, 1) := by decide +kernel
theorem dX8_totalDrift_15 : decode cX8_totalDrift 15 = .ok (.if_icmp .ge 42, 3) := by decide +kernel
theorem dX8_totalDrift_18 : decode cX8_totalDrift 18 = .ok (.iload_n 1, 1) := by decide +kernel
theorem dX8_totalDrift_19 : decode cX8_totalDrift 19 = .ok (.aload_n 0, 1) := by decide +kernel
theorem dX8_totalDrift_20 : decode cX8_totalDrift 20 = .ok (.iload_n 2, 1) := by decide +kernel
theorem dX8_totalDrift_21 : decode cX8_totalDrift 21 = .ok (.iconst 5, 1) := by decide +kernel
theorem dX8_totalDrift_22 : decode cX8_totalDrift 22 = .ok (.invokevirtual 87, 3) := by decide +kernel
theorem dX8_totalDrift_25 : decode cX8_totalDrift 25 = .ok (.iconst (-1), 1) := by decide +kernel
theorem dX8_totalDrift_26 : decode cX8_totalDrift 26 = .ok (.if_icmp .ne 7, 3) := by decide +kernel
theorem dX8_totalDrift_29 : decode cX8_totalDrift 29 = .ok (.iconst 0, 1) := by decide +kernel
theorem dX8_totalDrift_30 : decode cX8_totalDrift 30 = .ok (.goto 19, 3) := by decide +kernel
theorem dX8_totalDrift_33 : decode cX8_totalDrift 33 = .ok (.aload_n 0, 1) := by decide +kernel
theorem dX8_totalDrift_34 : decode cX8_totalDrift 34 = .ok (.getfield 35, 3) := by decide +kernel
theorem dX8_totalDrift_37 : decode cX8_totalDrift 37 = .ok (.iload_n 2, 1) := by decide +kernel
theorem dX8_totalDrift_38 : decode cX8_totalDrift 38 = .ok (.iaload, 1) := by decide +kernel
theorem dX8_totalDrift_39 : decode cX8_totalDrift 39 = .ok (.aload_n 0, 1) := by decide +kernel
theorem dX8_totalDrift_40 : decode cX8_totalDrift 40 = .ok (.iload_n 2, 1) := by decide +kernel
theorem dX8_totalDrift_41 : decode cX8_totalDrift 41 = .ok (.iconst 5, 1) := by decide +kernel
theorem dX8_totalDrift_42 : decode cX8_totalDrift 42 = .ok (.invokevirtual 87, 3) := by decide +kernel
theorem dX8_totalDrift_45 : decode cX8_totalDrift 45 = .ok (.isub, 1) := by decide +kernel
theorem dX8_totalDrift_46 : decode cX8_totalDrift 46 = .ok (.invokestatic 182, 3) := by decide +kernel
theorem dX8_totalDrift_49 : decode cX8_totalDrift 49 = .ok (.iadd, 1) := by decide +kernel
theorem dX8_totalDrift_50 : decode cX8_totalDrift 50 = .ok (.istore_n 1, 1) := by decide +kernel
theorem dX8_totalDrift_51 : decode cX8_totalDrift 51 = .ok (.iinc 2 1, 3) := by decide +kernel
theorem dX8_totalDrift_54 : decode cX8_totalDrift 54 = .ok (.goto (-46), 3) := by decide +kernel
theorem dX8_totalDrift_57 : decode cX8_totalDrift 57 = .ok (.aload_n 0, 1) := by decide +kernel
theorem dX8_totalDrift_58 : decode cX8_totalDrift 58 = .ok (.aload_n 0, 1) := by decide +kernel
theorem dX8_totalDrift_59 : decode cX8_totalDrift 59 = .ok (.getfield 9, 3) := by decide +kernel
theorem dX8_totalDrift_62 : decode cX8_totalDrift 62 = .ok (.iconst 1, 1) := by decide +kernel
theorem dX8_totalDrift_63 : decode cX8_totalDrift 63 = .ok (.iaload, 1) := by decide +kernel
theorem dX8_totalDrift_64 : decode cX8_totalDrift 64 = .ok (.iconst 1, 1) := by decide +kernel
theorem dX8_totalDrift_65 : decode cX8_totalDrift 65 = .ok (.if_icmp .ne 7, 3) := by decide +kernel
theorem dX8_totalDrift_68 : decode cX8_totalDrift 68 = .ok (.iconst 1, 1) := by decide +kernel
theorem dX8_totalDrift_69 : decode cX8_totalDrift 69 = .ok (.goto 4, 3) := by decide +kernel
theorem dX8_totalDrift_72 : decode cX8_totalDrift 72 = .ok (.iconst 0, 1) := by decide +kernel
theorem dX8_totalDrift_73 : decode cX8_totalDrift 73 = .ok (.invokevirtual 67, 3) := by decide +kernel
theorem dX8_totalDrift_76 : decode cX8_totalDrift 76 = .ok (.ifCond .eq 7, 3) := by decide +kernel
theorem dX8_totalDrift_79 : decode cX8_totalDrift 79 = .ok (.iload_n 1, 1) := by decide +kernel
theorem dX8_totalDrift_80 : decode cX8_totalDrift 80 = .ok (.goto 4, 3) := by decide +kernel
theorem dX8_totalDrift_83 : decode cX8_totalDrift 83 = .ok (.iconst 0, 1) := by decide +kernel
theorem dX8_totalDrift_84 : decode cX8_totalDrift 84 = .ok (.ireturn, 1) := by decide +kernel
theorem dX8_taskBySlack_0 : decode cX8_taskBySlack 0 = .ok (.aload_n 0, 1) := by decide +kernel
theorem dX8_taskBySlack_1 : decode cX8_taskBySlack 1 = .ok (.invokevirtual 157, 3) := by decide +kernel
theorem dX8_taskBySlack_4 : decode cX8_taskBySlack 4 = .ok (.iconst (-1), 1) := by decide +kernel
theorem dX8_taskBySlack_5 : decode cX8_taskBySlack 5 = .ok (.istore_n 2, 1) := by decide +kernel
theorem dX8_taskBySlack_6 : decode cX8_taskBySlack 6 = .ok (.iconst 0, 1) := by decide +kernel
theorem dX8_taskBySlack_7 : decode cX8_taskBySlack 7 = .ok (.istore_n 3, 1) := by decide +kernel
theorem dX8_taskBySlack_8 : decode cX8_taskBySlack 8 = .ok (.iload_n 3, 1) := by decide +kernel
theorem dX8_taskBySlack_9 : decode cX8_taskBySlack 9 = .ok (.aload_n 0, 1) := by decide +kernel
theorem dX8_taskBySlack_10 : decode cX8_taskBySlack 10 = .ok (.getfield 9, 3) := by decide +kernel
theorem dX8_taskBySlack_13 : decode cX8_taskBySlack 13 = .ok (.iconst 0, 1) := by decide +kernel
theorem dX8_taskBySlack_14 : decode cX8_taskBySlack 14 = .ok (.iaload, 1) := by decide +kernel
theorem dX8_taskBySlack_15 : decode cX8_taskBySlack 15 = .ok (.if_icmp .ge 127, 3) := by decide +kernel
theorem dX8_taskBySlack_18 : decode cX8_taskBySlack 18 = .ok (.iconst 0, 1) := by decide +kernel
theorem dX8_taskBySlack_19 : decode cX8_taskBySlack 19 = .ok (.istore 4, 2) := by decide +kernel
theorem dX8_taskBySlack_21 : decode cX8_taskBySlack 21 = .ok (.iconst 0, 1) := by decide +kernel
theorem dX8_taskBySlack_22 : decode cX8_taskBySlack 22 = .ok (.istore 5, 2) := by decide +kernel
theorem dX8_taskBySlack_24 : decode cX8_taskBySlack 24 = .ok (.iload 5, 2) := by decide +kernel
theorem dX8_taskBySlack_26 : decode cX8_taskBySlack 26 = .ok (.aload_n 0, 1) := by decide +kernel
theorem dX8_taskBySlack_27 : decode cX8_taskBySlack 27 = .ok (.getfield 9, 3) := by decide +kernel
theorem dX8_taskBySlack_30 : decode cX8_taskBySlack 30 = .ok (.iconst 0, 1) := by decide +kernel
theorem dX8_taskBySlack_31 : decode cX8_taskBySlack 31 = .ok (.iaload, 1) := by decide +kernel
theorem dX8_taskBySlack_32 : decode cX8_taskBySlack 32 = .ok (.if_icmp .ge 92, 3) := by decide +kernel
theorem dX8_taskBySlack_35 : decode cX8_taskBySlack 35 = .ok (.aload_n 0, 1) := by decide +kernel
theorem dX8_taskBySlack_36 : decode cX8_taskBySlack 36 = .ok (.getfield 32, 3) := by decide +kernel
theorem dX8_taskBySlack_39 : decode cX8_taskBySlack 39 = .ok (.iload_n 3, 1) := by decide +kernel
theorem dX8_taskBySlack_40 : decode cX8_taskBySlack 40 = .ok (.iaload, 1) := by decide +kernel
theorem dX8_taskBySlack_41 : decode cX8_taskBySlack 41 = .ok (.aload_n 0, 1) := by decide +kernel
theorem dX8_taskBySlack_42 : decode cX8_taskBySlack 42 = .ok (.getfield 29, 3) := by decide +kernel
theorem dX8_taskBySlack_45 : decode cX8_taskBySlack 45 = .ok (.iload_n 3, 1) := by decide +kernel
theorem dX8_taskBySlack_46 : decode cX8_taskBySlack 46 = .ok (.iaload, 1) := by decide +kernel
theorem dX8_taskBySlack_47 : decode cX8_taskBySlack 47 = .ok (.isub, 1) := by decide +kernel
theorem dX8_taskBySlack_48 : decode cX8_taskBySlack 48 = .ok (.aload_n 0, 1) := by decide +kernel
theorem dX8_taskBySlack_49 : decode cX8_taskBySlack 49 = .ok (.getfield 32, 3) := by decide +kernel
theorem dX8_taskBySlack_52 : decode cX8_taskBySlack 52 = .ok (.iload 5, 2) := by decide +kernel
theorem dX8_taskBySlack_54 : decode cX8_taskBySlack 54 = .ok (.iaload, 1) := by decide +kernel
theorem dX8_taskBySlack_55 : decode cX8_taskBySlack 55 = .ok (.isub, 1) := by decide +kernel
theorem dX8_taskBySlack_56 : decode cX8_taskBySlack 56 = .ok (.aload_n 0, 1) := by decide +kernel
theorem dX8_taskBySlack_57 : decode cX8_taskBySlack 57 = .ok (.getfield 29, 3) := by decide +kernel
theorem dX8_taskBySlack_60 : decode cX8_taskBySlack 60 = .ok (.iload 5, 2) := by decide +kernel
theorem dX8_taskBySlack_62 : decode cX8_taskBySlack 62 = .ok (.iaload, 1) := by decide +kernel
theorem dX8_taskBySlack_63 : decode cX8_taskBySlack 63 = .ok (.iadd, 1) := by decide +kernel
theorem dX8_taskBySlack_64 : decode cX8_taskBySlack 64 = .ok (.istore 6, 2) := by decide +kernel
theorem dX8_taskBySlack_66 : decode cX8_taskBySlack 66 = .ok (.aload_n 0, 1) := by decide +kernel
theorem dX8_taskBySlack_67 : decode cX8_taskBySlack 67 = .ok (.iload 5, 2) := by decide +kernel
theorem dX8_taskBySlack_69 : decode cX8_taskBySlack 69 = .ok (.iconst 0, 1) := by decide +kernel
theorem dX8_taskBySlack_70 : decode cX8_taskBySlack 70 = .ok (.invokevirtual 87, 3) := by decide +kernel
theorem dX8_taskBySlack_73 : decode cX8_taskBySlack 73 = .ok (.aload_n 0, 1) := by decide +kernel
theorem dX8_taskBySlack_74 : decode cX8_taskBySlack 74 = .ok (.iload_n 3, 1) := by decide +kernel
theorem dX8_taskBySlack_75 : decode cX8_taskBySlack 75 = .ok (.iconst 0, 1) := by decide +kernel
theorem dX8_taskBySlack_76 : decode cX8_taskBySlack 76 = .ok (.invokevirtual 87, 3) := by decide +kernel
theorem dX8_taskBySlack_79 : decode cX8_taskBySlack 79 = .ok (.isub, 1) := by decide +kernel
theorem dX8_taskBySlack_80 : decode cX8_taskBySlack 80 = .ok (.istore 7, 2) := by decide +kernel
theorem dX8_taskBySlack_82 : decode cX8_taskBySlack 82 = .ok (.iload 4, 2) := by decide +kernel
theorem dX8_taskBySlack_84 : decode cX8_taskBySlack 84 = .ok (.iload 6, 2) := by decide +kernel
theorem dX8_taskBySlack_86 : decode cX8_taskBySlack 86 = .ok (.ifCond .gt 24, 3) := by decide +kernel
theorem dX8_taskBySlack_89 : decode cX8_taskBySlack 89 = .ok (.iload 6, 2) := by decide +kernel
theorem dX8_taskBySlack_91 : decode cX8_taskBySlack 91 = .ok (.ifCond .ne 23, 3) := by decide +kernel
theorem dX8_taskBySlack_94 : decode cX8_taskBySlack 94 = .ok (.iload 7, 2) := by decide +kernel
theorem dX8_taskBySlack_96 : decode cX8_taskBySlack 96 = .ok (.ifCond .gt 14, 3) := by decide +kernel
theorem dX8_taskBySlack_99 : decode cX8_taskBySlack 99 = .ok (.iload 7, 2) := by decide +kernel
theorem dX8_taskBySlack_101 : decode cX8_taskBySlack 101 = .ok (.ifCond .ne 13, 3) := by decide +kernel
theorem dX8_taskBySlack_104 : decode cX8_taskBySlack 104 = .ok (.iload 5, 2) := by decide +kernel
theorem dX8_taskBySlack_106 : decode cX8_taskBySlack 106 = .ok (.iload_n 3, 1) := by decide +kernel
theorem dX8_taskBySlack_107 : decode cX8_taskBySlack 107 = .ok (.if_icmp .ge 7, 3) := by decide +kernel
theorem dX8_taskBySlack_110 : decode cX8_taskBySlack 110 = .ok (.iconst 1, 1) := by decide +kernel
theorem dX8_taskBySlack_111 : decode cX8_taskBySlack 111 = .ok (.goto 4, 3) := by decide +kernel
theorem dX8_taskBySlack_114 : decode cX8_taskBySlack 114 = .ok (.iconst 0, 1) := by decide +kernel
theorem dX8_taskBySlack_115 : decode cX8_taskBySlack 115 = .ok (.iadd, 1) := by decide +kernel
theorem dX8_taskBySlack_116 : decode cX8_taskBySlack 116 = .ok (.istore 4, 2) := by decide +kernel
theorem dX8_taskBySlack_118 : decode cX8_taskBySlack 118 = .ok (.iinc 5 1, 3) := by decide +kernel
theorem dX8_taskBySlack_121 : decode cX8_taskBySlack 121 = .ok (.goto (-97), 3) := by decide +kernel
theorem dX8_taskBySlack_124 : decode cX8_taskBySlack 124 = .ok (.iload 4, 2) := by decide +kernel
theorem dX8_taskBySlack_126 : decode cX8_taskBySlack 126 = .ok (.iload_n 1, 1) := by decide +kernel
theorem dX8_taskBySlack_127 : decode cX8_taskBySlack 127 = .ok (.if_icmp .ne 7, 3) := by decide +kernel
theorem dX8_taskBySlack_130 : decode cX8_taskBySlack 130 = .ok (.iload_n 3, 1) := by decide +kernel
theorem dX8_taskBySlack_131 : decode cX8_taskBySlack 131 = .ok (.goto 4, 3) := by decide +kernel
theorem dX8_taskBySlack_134 : decode cX8_taskBySlack 134 = .ok (.iload_n 2, 1) := by decide +kernel
theorem dX8_taskBySlack_135 : decode cX8_taskBySlack 135 = .ok (.istore_n 2, 1) := by decide +kernel
theorem dX8_taskBySlack_136 : decode cX8_taskBySlack 136 = .ok (.iinc 3 1, 3) := by decide +kernel
theorem dX8_taskBySlack_139 : decode cX8_taskBySlack 139 = .ok (.goto (-131), 3) := by decide +kernel
theorem dX8_taskBySlack_142 : decode cX8_taskBySlack 142 = .ok (.aload_n 0, 1) := by decide +kernel
theorem dX8_taskBySlack_143 : decode cX8_taskBySlack 143 = .ok (.iload_n 2, 1) := by decide +kernel
theorem dX8_taskBySlack_144 : decode cX8_taskBySlack 144 = .ok (.iconst (-1), 1) := by decide +kernel
theorem dX8_taskBySlack_145 : decode cX8_taskBySlack 145 = .ok (.if_icmp .eq 7, 3) := by decide +kernel
theorem dX8_taskBySlack_148 : decode cX8_taskBySlack 148 = .ok (.iconst 1, 1) := by decide +kernel
theorem dX8_taskBySlack_149 : decode cX8_taskBySlack 149 = .ok (.goto 4, 3) := by decide +kernel
theorem dX8_taskBySlack_152 : decode cX8_taskBySlack 152 = .ok (.iconst 0, 1) := by decide +kernel
theorem dX8_taskBySlack_153 : decode cX8_taskBySlack 153 = .ok (.invokevirtual 67, 3) := by decide +kernel
theorem dX8_taskBySlack_156 : decode cX8_taskBySlack 156 = .ok (.ifCond .eq 7, 3) := by decide +kernel
theorem dX8_taskBySlack_159 : decode cX8_taskBySlack 159 = .ok (.iload_n 2, 1) := by decide +kernel
theorem dX8_taskBySlack_160 : decode cX8_taskBySlack 160 = .ok (.goto 4, 3) := by decide +kernel
theorem dX8_taskBySlack_163 : decode cX8_taskBySlack 163 = .ok (.iconst 0, 1) := by decide +kernel
theorem dX8_taskBySlack_164 : decode cX8_taskBySlack 164 = .ok (.ireturn, 1) := by decide +kernel
theorem dX8_taskByStart_0 : decode cX8_taskByStart 0 = .ok (.aload_n 0, 1) := by decide +kernel
theorem dX8_taskByStart_1 : decode cX8_taskByStart 1 = .ok (.invokevirtual 130, 3) := by decide +kernel
theorem dX8_taskByStart_4 : decode cX8_taskByStart 4 = .ok (.iconst (-1), 1) := by decide +kernel
theorem dX8_taskByStart_5 : decode cX8_taskByStart 5 = .ok (.istore_n 2, 1) := by decide +kernel
theorem dX8_taskByStart_6 : decode cX8_taskByStart 6 = .ok (.iconst 0, 1) := by decide +kernel
theorem dX8_taskByStart_7 : decode cX8_taskByStart 7 = .ok (.istore_n 3, 1) := by decide +kernel
theorem dX8_taskByStart_8 : decode cX8_taskByStart 8 = .ok (.iload_n 3, 1) := by decide +kernel
theorem dX8_taskByStart_9 : decode cX8_taskByStart 9 = .ok (.aload_n 0, 1) := by decide +kernel
theorem dX8_taskByStart_10 : decode cX8_taskByStart 10 = .ok (.getfield 9, 3) := by decide +kernel
theorem dX8_taskByStart_13 : decode cX8_taskByStart 13 = .ok (.iconst 0, 1) := by decide +kernel
theorem dX8_taskByStart_14 : decode cX8_taskByStart 14 = .ok (.iaload, 1) := by decide +kernel
theorem dX8_taskByStart_15 : decode cX8_taskByStart 15 = .ok (.if_icmp .ge 112, 3) := by decide +kernel
theorem dX8_taskByStart_18 : decode cX8_taskByStart 18 = .ok (.iconst 0, 1) := by decide +kernel
theorem dX8_taskByStart_19 : decode cX8_taskByStart 19 = .ok (.istore 4, 2) := by decide +kernel
theorem dX8_taskByStart_21 : decode cX8_taskByStart 21 = .ok (.iconst 0, 1) := by decide +kernel
theorem dX8_taskByStart_22 : decode cX8_taskByStart 22 = .ok (.istore 5, 2) := by decide +kernel
theorem dX8_taskByStart_24 : decode cX8_taskByStart 24 = .ok (.iload 5, 2) := by decide +kernel
theorem dX8_taskByStart_26 : decode cX8_taskByStart 26 = .ok (.aload_n 0, 1) := by decide +kernel
theorem dX8_taskByStart_27 : decode cX8_taskByStart 27 = .ok (.getfield 9, 3) := by decide +kernel
theorem dX8_taskByStart_30 : decode cX8_taskByStart 30 = .ok (.iconst 0, 1) := by decide +kernel
theorem dX8_taskByStart_31 : decode cX8_taskByStart 31 = .ok (.iaload, 1) := by decide +kernel
theorem dX8_taskByStart_32 : decode cX8_taskByStart 32 = .ok (.if_icmp .ge 77, 3) := by decide +kernel
theorem dX8_taskByStart_35 : decode cX8_taskByStart 35 = .ok (.aload_n 0, 1) := by decide +kernel
theorem dX8_taskByStart_36 : decode cX8_taskByStart 36 = .ok (.getfield 35, 3) := by decide +kernel
theorem dX8_taskByStart_39 : decode cX8_taskByStart 39 = .ok (.iload_n 3, 1) := by decide +kernel
theorem dX8_taskByStart_40 : decode cX8_taskByStart 40 = .ok (.iaload, 1) := by decide +kernel
theorem dX8_taskByStart_41 : decode cX8_taskByStart 41 = .ok (.aload_n 0, 1) := by decide +kernel
theorem dX8_taskByStart_42 : decode cX8_taskByStart 42 = .ok (.getfield 35, 3) := by decide +kernel
theorem dX8_taskByStart_45 : decode cX8_taskByStart 45 = .ok (.iload 5, 2) := by decide +kernel
theorem dX8_taskByStart_47 : decode cX8_taskByStart 47 = .ok (.iaload, 1) := by decide +kernel
theorem dX8_taskByStart_48 : decode cX8_taskByStart 48 = .ok (.isub, 1) := by decide +kernel
theorem dX8_taskByStart_49 : decode cX8_taskByStart 49 = .ok (.istore 6, 2) := by decide +kernel
theorem dX8_taskByStart_51 : decode cX8_taskByStart 51 = .ok (.aload_n 0, 1) := by decide +kernel
theorem dX8_taskByStart_52 : decode cX8_taskByStart 52 = .ok (.iload 5, 2) := by decide +kernel
theorem dX8_taskByStart_54 : decode cX8_taskByStart 54 = .ok (.iconst 2, 1) := by decide +kernel
theorem dX8_taskByStart_55 : decode cX8_taskByStart 55 = .ok (.invokevirtual 87, 3) := by decide +kernel
theorem dX8_taskByStart_58 : decode cX8_taskByStart 58 = .ok (.aload_n 0, 1) := by decide +kernel
theorem dX8_taskByStart_59 : decode cX8_taskByStart 59 = .ok (.iload_n 3, 1) := by decide +kernel
theorem dX8_taskByStart_60 : decode cX8_taskByStart 60 = .ok (.iconst 2, 1) := by decide +kernel
theorem dX8_taskByStart_61 : decode cX8_taskByStart 61 = .ok (.invokevirtual 87, 3) := by decide +kernel
theorem dX8_taskByStart_64 : decode cX8_taskByStart 64 = .ok (.isub, 1) := by decide +kernel
theorem dX8_taskByStart_65 : decode cX8_taskByStart 65 = .ok (.istore 7, 2) := by decide +kernel
theorem dX8_taskByStart_67 : decode cX8_taskByStart 67 = .ok (.iload 4, 2) := by decide +kernel
theorem dX8_taskByStart_69 : decode cX8_taskByStart 69 = .ok (.iload 6, 2) := by decide +kernel
theorem dX8_taskByStart_71 : decode cX8_taskByStart 71 = .ok (.ifCond .gt 24, 3) := by decide +kernel
theorem dX8_taskByStart_74 : decode cX8_taskByStart 74 = .ok (.iload 6, 2) := by decide +kernel
theorem dX8_taskByStart_76 : decode cX8_taskByStart 76 = .ok (.ifCond .ne 23, 3) := by decide +kernel
theorem dX8_taskByStart_79 : decode cX8_taskByStart 79 = .ok (.iload 7, 2) := by decide +kernel
theorem dX8_taskByStart_81 : decode cX8_taskByStart 81 = .ok (.ifCond .gt 14, 3) := by decide +kernel
theorem dX8_taskByStart_84 : decode cX8_taskByStart 84 = .ok (.iload 7, 2) := by decide +kernel
theorem dX8_taskByStart_86 : decode cX8_taskByStart 86 = .ok (.ifCond .ne 13, 3) := by decide +kernel
theorem dX8_taskByStart_89 : decode cX8_taskByStart 89 = .ok (.iload 5, 2) := by decide +kernel
theorem dX8_taskByStart_91 : decode cX8_taskByStart 91 = .ok (.iload_n 3, 1) := by decide +kernel
theorem dX8_taskByStart_92 : decode cX8_taskByStart 92 = .ok (.if_icmp .ge 7, 3) := by decide +kernel
theorem dX8_taskByStart_95 : decode cX8_taskByStart 95 = .ok (.iconst 1, 1) := by decide +kernel
theorem dX8_taskByStart_96 : decode cX8_taskByStart 96 = .ok (.goto 4, 3) := by decide +kernel
theorem dX8_taskByStart_99 : decode cX8_taskByStart 99 = .ok (.iconst 0, 1) := by decide +kernel
theorem dX8_taskByStart_100 : decode cX8_taskByStart 100 = .ok (.iadd, 1) := by decide +kernel
theorem dX8_taskByStart_101 : decode cX8_taskByStart 101 = .ok (.istore 4, 2) := by decide +kernel
theorem dX8_taskByStart_103 : decode cX8_taskByStart 103 = .ok (.iinc 5 1, 3) := by decide +kernel
theorem dX8_taskByStart_106 : decode cX8_taskByStart 106 = .ok (.goto (-82), 3) := by decide +kernel
theorem dX8_taskByStart_109 : decode cX8_taskByStart 109 = .ok (.iload 4, 2) := by decide +kernel
theorem dX8_taskByStart_111 : decode cX8_taskByStart 111 = .ok (.iload_n 1, 1) := by decide +kernel
theorem dX8_taskByStart_112 : decode cX8_taskByStart 112 = .ok (.if_icmp .ne 7, 3) := by decide +kernel
theorem dX8_taskByStart_115 : decode cX8_taskByStart 115 = .ok (.iload_n 3, 1) := by decide +kernel
theorem dX8_taskByStart_116 : decode cX8_taskByStart 116 = .ok (.goto 4, 3) := by decide +kernel
theorem dX8_taskByStart_119 : decode cX8_taskByStart 119 = .ok (.iload_n 2, 1) := by decide +kernel
theorem dX8_taskByStart_120 : decode cX8_taskByStart 120 = .ok (.istore_n 2, 1) := by decide +kernel
theorem dX8_taskByStart_121 : decode cX8_taskByStart 121 = .ok (.iinc 3 1, 3) := by decide +kernel
theorem dX8_taskByStart_124 : decode cX8_taskByStart 124 = .ok (.goto (-116), 3) := by decide +kernel
theorem dX8_taskByStart_127 : decode cX8_taskByStart 127 = .ok (.aload_n 0, 1) := by decide +kernel
theorem dX8_taskByStart_128 : decode cX8_taskByStart 128 = .ok (.iload_n 2, 1) := by decide +kernel
theorem dX8_taskByStart_129 : decode cX8_taskByStart 129 = .ok (.iconst (-1), 1) := by decide +kernel
theorem dX8_taskByStart_130 : decode cX8_taskByStart 130 = .ok (.if_icmp .eq 7, 3) := by decide +kernel
theorem dX8_taskByStart_133 : decode cX8_taskByStart 133 = .ok (.iconst 1, 1) := by decide +kernel
theorem dX8_taskByStart_134 : decode cX8_taskByStart 134 = .ok (.goto 4, 3) := by decide +kernel
theorem dX8_taskByStart_137 : decode cX8_taskByStart 137 = .ok (.iconst 0, 1) := by decide +kernel
theorem dX8_taskByStart_138 : decode cX8_taskByStart 138 = .ok (.invokevirtual 67, 3) := by decide +kernel
theorem dX8_taskByStart_141 : decode cX8_taskByStart 141 = .ok (.ifCond .eq 7, 3) := by decide +kernel
theorem dX8_taskByStart_144 : decode cX8_taskByStart 144 = .ok (.iload_n 2, 1) := by decide +kernel
theorem dX8_taskByStart_145 : decode cX8_taskByStart 145 = .ok (.goto 4, 3) := by decide +kernel
theorem dX8_taskByStart_148 : decode cX8_taskByStart 148 = .ok (.iconst 0, 1) := by decide +kernel
theorem dX8_taskByStart_149 : decode cX8_taskByStart 149 = .ok (.ireturn, 1) := by decide +kernel
theorem dX8_meanSlack_0 : decode cX8_meanSlack 0 = .ok (.aload_n 0, 1) := by decide +kernel
theorem dX8_meanSlack_1 : decode cX8_meanSlack 1 = .ok (.invokevirtual 157, 3) := by decide +kernel
theorem dX8_meanSlack_4 : decode cX8_meanSlack 4 = .ok (.iconst 0, 1) := by decide +kernel
theorem dX8_meanSlack_5 : decode cX8_meanSlack 5 = .ok (.istore_n 1, 1) := by decide +kernel
theorem dX8_meanSlack_6 : decode cX8_meanSlack 6 = .ok (.iconst 0, 1) := by decide +kernel
theorem dX8_meanSlack_7 : decode cX8_meanSlack 7 = .ok (.istore_n 2, 1) := by decide +kernel
theorem dX8_meanSlack_8 : decode cX8_meanSlack 8 = .ok (.iload_n 2, 1) := by decide +kernel
theorem dX8_meanSlack_9 : decode cX8_meanSlack 9 = .ok (.aload_n 0, 1) := by decide +kernel
theorem dX8_meanSlack_10 : decode cX8_meanSlack 10 = .ok (.getfield 9, 3) := by decide +kernel
theorem dX8_meanSlack_13 : decode cX8_meanSlack 13 = .ok (.iconst 0, 1) := by decide +kernel
theorem dX8_meanSlack_14 : decode cX8_meanSlack 14 = .ok (.iaload, 1) := by decide +kernel
theorem dX8_meanSlack_15 : decode cX8_meanSlack 15 = .ok (.if_icmp .ge 25, 3) := by decide +kernel
theorem dX8_meanSlack_18 : decode cX8_meanSlack 18 = .ok (.iload_n 1, 1) := by decide +kernel
theorem dX8_meanSlack_19 : decode cX8_meanSlack 19 = .ok (.aload_n 0, 1) := by decide +kernel
theorem dX8_meanSlack_20 : decode cX8_meanSlack 20 = .ok (.getfield 32, 3) := by decide +kernel
theorem dX8_meanSlack_23 : decode cX8_meanSlack 23 = .ok (.iload_n 2, 1) := by decide +kernel
theorem dX8_meanSlack_24 : decode cX8_meanSlack 24 = .ok (.iaload, 1) := by decide +kernel
theorem dX8_meanSlack_25 : decode cX8_meanSlack 25 = .ok (.aload_n 0, 1) := by decide +kernel
theorem dX8_meanSlack_26 : decode cX8_meanSlack 26 = .ok (.getfield 29, 3) := by decide +kernel
theorem dX8_meanSlack_29 : decode cX8_meanSlack 29 = .ok (.iload_n 2, 1) := by decide +kernel
theorem dX8_meanSlack_30 : decode cX8_meanSlack 30 = .ok (.iaload, 1) := by decide +kernel
theorem dX8_meanSlack_31 : decode cX8_meanSlack 31 = .ok (.isub, 1) := by decide +kernel
theorem dX8_meanSlack_32 : decode cX8_meanSlack 32 = .ok (.iadd, 1) := by decide +kernel
theorem dX8_meanSlack_33 : decode cX8_meanSlack 33 = .ok (.istore_n 1, 1) := by decide +kernel
theorem dX8_meanSlack_34 : decode cX8_meanSlack 34 = .ok (.iinc 2 1, 3) := by decide +kernel
theorem dX8_meanSlack_37 : decode cX8_meanSlack 37 = .ok (.goto (-29), 3) := by decide +kernel
theorem dX8_meanSlack_40 : decode cX8_meanSlack 40 = .ok (.aload_n 0, 1) := by decide +kernel
theorem dX8_meanSlack_41 : decode cX8_meanSlack 41 = .ok (.aload_n 0, 1) := by decide +kernel
theorem dX8_meanSlack_42 : decode cX8_meanSlack 42 = .ok (.getfield 9, 3) := by decide +kernel
theorem dX8_meanSlack_45 : decode cX8_meanSlack 45 = .ok (.iconst 0, 1) := by decide +kernel
theorem dX8_meanSlack_46 : decode cX8_meanSlack 46 = .ok (.iaload, 1) := by decide +kernel
theorem dX8_meanSlack_47 : decode cX8_meanSlack 47 = .ok (.ifCond .le 7, 3) := by decide +kernel
theorem dX8_meanSlack_50 : decode cX8_meanSlack 50 = .ok (.iconst 1, 1) := by decide +kernel
theorem dX8_meanSlack_51 : decode cX8_meanSlack 51 = .ok (.goto 4, 3) := by decide +kernel
theorem dX8_meanSlack_54 : decode cX8_meanSlack 54 = .ok (.iconst 0, 1) := by decide +kernel
theorem dX8_meanSlack_55 : decode cX8_meanSlack 55 = .ok (.invokevirtual 67, 3) := by decide +kernel
theorem dX8_meanSlack_58 : decode cX8_meanSlack 58 = .ok (.ifCond .eq 16, 3) := by decide +kernel
theorem dX8_meanSlack_61 : decode cX8_meanSlack 61 = .ok (.iload_n 1, 1) := by decide +kernel
theorem dX8_meanSlack_62 : decode cX8_meanSlack 62 = .ok (.i2d, 1) := by decide +kernel
theorem dX8_meanSlack_63 : decode cX8_meanSlack 63 = .ok (.aload_n 0, 1) := by decide +kernel
theorem dX8_meanSlack_64 : decode cX8_meanSlack 64 = .ok (.getfield 9, 3) := by decide +kernel
theorem dX8_meanSlack_67 : decode cX8_meanSlack 67 = .ok (.iconst 0, 1) := by decide +kernel
theorem dX8_meanSlack_68 : decode cX8_meanSlack 68 = .ok (.iaload, 1) := by decide +kernel
theorem dX8_meanSlack_69 : decode cX8_meanSlack 69 = .ok (.i2d, 1) := by decide +kernel
theorem dX8_meanSlack_70 : decode cX8_meanSlack 70 = .ok (.ddiv, 1) := by decide +kernel
theorem dX8_meanSlack_71 : decode cX8_meanSlack 71 = .ok (.goto 4, 3) := by decide +kernel
theorem dX8_meanSlack_74 : decode cX8_meanSlack 74 = .ok (.dconst 0, 1) := by decide +kernel
theorem dX8_meanSlack_75 : decode cX8_meanSlack 75 = .ok (.dreturn, 1) := by decide +kernel
theorem dX8_utilization_0 : decode cX8_utilization 0 = .ok (.aload_n 0, 1) := by decide +kernel
theorem dX8_utilization_1 : decode cX8_utilization 1 = .ok (.iload_n 1, 1) := by decide +kernel
theorem dX8_utilization_2 : decode cX8_utilization 2 = .ok (.invokevirtual 179, 3) := by decide +kernel
theorem dX8_utilization_5 : decode cX8_utilization 5 = .ok (.istore_n 2, 1) := by decide +kernel
theorem dX8_utilization_6 : decode cX8_utilization 6 = .ok (.aload_n 0, 1) := by decide +kernel
theorem dX8_utilization_7 : decode cX8_utilization 7 = .ok (.invokevirtual 130, 3) := by decide +kernel
theorem dX8_utilization_10 : decode cX8_utilization 10 = .ok (.aload_n 0, 1) := by decide +kernel
theorem dX8_utilization_11 : decode cX8_utilization 11 = .ok (.iload_n 1, 1) := by decide +kernel
theorem dX8_utilization_12 : decode cX8_utilization 12 = .ok (.invokestatic 94, 3) := by decide +kernel
theorem dX8_utilization_15 : decode cX8_utilization 15 = .ok (.aload_n 0, 1) := by decide +kernel
theorem dX8_utilization_16 : decode cX8_utilization 16 = .ok (.getfield 9, 3) := by decide +kernel
theorem dX8_utilization_19 : decode cX8_utilization 19 = .ok (.iconst 0, 1) := by decide +kernel
theorem dX8_utilization_20 : decode cX8_utilization 20 = .ok (.iaload, 1) := by decide +kernel
theorem dX8_utilization_21 : decode cX8_utilization 21 = .ok (.ifCond .le 7, 3) := by decide +kernel
theorem dX8_utilization_24 : decode cX8_utilization 24 = .ok (.iconst 1, 1) := by decide +kernel
theorem dX8_utilization_25 : decode cX8_utilization 25 = .ok (.goto 4, 3) := by decide +kernel
theorem dX8_utilization_28 : decode cX8_utilization 28 = .ok (.iconst 0, 1) := by decide +kernel
theorem dX8_utilization_29 : decode cX8_utilization 29 = .ok (.iconst 1, 1) := by decide +kernel
theorem dX8_utilization_30 : decode cX8_utilization 30 = .ok (.invokevirtual 53, 3) := by decide +kernel
theorem dX8_utilization_33 : decode cX8_utilization 33 = .ok (.ifCond .eq 27, 3) := by decide +kernel
theorem dX8_utilization_36 : decode cX8_utilization 36 = .ok (.iload_n 2, 1) := by decide +kernel
theorem dX8_utilization_37 : decode cX8_utilization 37 = .ok (.i2f, 1) := by decide +kernel
theorem dX8_utilization_38 : decode cX8_utilization 38 = .ok (.aload_n 0, 1) := by decide +kernel
theorem dX8_utilization_39 : decode cX8_utilization 39 = .ok (.getfield 9, 3) := by decide +kernel
theorem dX8_utilization_42 : decode cX8_utilization 42 = .ok (.iconst 2, 1) := by decide +kernel
theorem dX8_utilization_43 : decode cX8_utilization 43 = .ok (.iload_n 1, 1) := by decide +kernel
theorem dX8_utilization_44 : decode cX8_utilization 44 = .ok (.iadd, 1) := by decide +kernel
theorem dX8_utilization_45 : decode cX8_utilization 45 = .ok (.iaload, 1) := by decide +kernel
theorem dX8_utilization_46 : decode cX8_utilization 46 = .ok (.aload_n 0, 1) := by decide +kernel
theorem dX8_utilization_47 : decode cX8_utilization 47 = .ok (.aload_n 0, 1) := by decide +kernel
theorem dX8_utilization_48 : decode cX8_utilization 48 = .ok (.getfield 35, 3) := by decide +kernel
theorem dX8_utilization_51 : decode cX8_utilization 51 = .ok (.invokevirtual 133, 3) := by decide +kernel
theorem dX8_utilization_54 : decode cX8_utilization 54 = .ok (.imul, 1) := by decide +kernel
theorem dX8_utilization_55 : decode cX8_utilization 55 = .ok (.i2f, 1) := by decide +kernel
theorem dX8_utilization_56 : decode cX8_utilization 56 = .ok (.fdiv, 1) := by decide +kernel
theorem dX8_utilization_57 : decode cX8_utilization 57 = .ok (.goto 4, 3) := by decide +kernel
theorem dX8_utilization_60 : decode cX8_utilization 60 = .ok (.fconst 0, 1) := by decide +kernel
theorem dX8_utilization_61 : decode cX8_utilization 61 = .ok (.freturn, 1) := by decide +kernel
theorem dX8_isConsistent_0 : decode cX8_isConsistent 0 = .ok (.aload_n 0, 1) := by decide +kernel
theorem dX8_isConsistent_1 : decode cX8_isConsistent 1 = .ok (.iconst 0, 1) := by decide +kernel
theorem dX8_isConsistent_2 : decode cX8_isConsistent 2 = .ok (.putfield 50, 3) := by decide +kernel
theorem dX8_isConsistent_5 : decode cX8_isConsistent 5 = .ok (.iconst 1, 1) := by decide +kernel
theorem dX8_isConsistent_6 : decode cX8_isConsistent 6 = .ok (.ireturn, 1) := by decide +kernel
theorem dX8_put_0 : decode cX8_put 0 = .ok (.aload_n 0, 1) := by decide +kernel
theorem dX8_put_1 : decode cX8_put 1 = .ok (.getfield 44, 3) := by decide +kernel
theorem dX8_put_4 : decode cX8_put 4 = .ok (.iload_n 1, 1) := by decide +kernel
theorem dX8_put_5 : decode cX8_put 5 = .ok (.iload_n 2, 1) := by decide +kernel
theorem dX8_put_6 : decode cX8_put 6 = .ok (.iastore, 1) := by decide +kernel
theorem dX8_put_7 : decode cX8_put 7 = .ok (.iload_n 1, 1) := by decide +kernel
theorem dX8_put_8 : decode cX8_put 8 = .ok (.iconst 1, 1) := by decide +kernel
theorem dX8_put_9 : decode cX8_put 9 = .ok (.iadd, 1) := by decide +kernel
theorem dX8_put_10 : decode cX8_put 10 = .ok (.ireturn, 1) := by decide +kernel
theorem dX8_writesNumber_0 : decode cX8_writesNumber 0 = .ok (.iload_n 1, 1) := by decide +kernel
theorem dX8_writesNumber_1 : decode cX8_writesNumber 1 = .ok (.istore_n 3, 1) := by decide +kernel
theorem dX8_writesNumber_2 : decode cX8_writesNumber 2 = .ok (.iconst 1, 1) := by decide +kernel
theorem dX8_writesNumber_3 : decode cX8_writesNumber 3 = .ok (.istore 4, 2) := by decide +kernel
theorem dX8_writesNumber_5 : decode cX8_writesNumber 5 = .ok (.iload_n 2, 1) := by decide +kernel
theorem dX8_writesNumber_6 : decode cX8_writesNumber 6 = .ok (.iload 4, 2) := by decide +kernel
theorem dX8_writesNumber_8 : decode cX8_writesNumber 8 = .ok (.idiv, 1) := by decide +kernel
theorem dX8_writesNumber_9 : decode cX8_writesNumber 9 = .ok (.bipush 9, 2) := by decide +kernel
theorem dX8_writesNumber_11 : decode cX8_writesNumber 11 = .ok (.if_icmp .le 13, 3) := by decide +kernel
theorem dX8_writesNumber_14 : decode cX8_writesNumber 14 = .ok (.iload 4, 2) := by decide +kernel
theorem dX8_writesNumber_16 : decode cX8_writesNumber 16 = .ok (.bipush 10, 2) := by decide +kernel
theorem dX8_writesNumber_18 : decode cX8_writesNumber 18 = .ok (.imul, 1) := by decide +kernel
theorem dX8_writesNumber_19 : decode cX8_writesNumber 19 = .ok (.istore 4, 2) := by decide +kernel
theorem dX8_writesNumber_21 : decode cX8_writesNumber 21 = .ok (.goto (-16), 3) := by decide +kernel
theorem dX8_writesNumber_24 : decode cX8_writesNumber 24 = .ok (.iload 4, 2) := by decide +kernel
theorem dX8_writesNumber_26 : decode cX8_writesNumber 26 = .ok (.istore 5, 2) := by decide +kernel
theorem dX8_writesNumber_28 : decode cX8_writesNumber 28 = .ok (.iload 5, 2) := by decide +kernel
theorem dX8_writesNumber_30 : decode cX8_writesNumber 30 = .ok (.ifCond .le 29, 3) := by decide +kernel
theorem dX8_writesNumber_33 : decode cX8_writesNumber 33 = .ok (.aload_n 0, 1) := by decide +kernel
theorem dX8_writesNumber_34 : decode cX8_writesNumber 34 = .ok (.iload_n 3, 1) := by decide +kernel
theorem dX8_writesNumber_35 : decode cX8_writesNumber 35 = .ok (.bipush 48, 2) := by decide +kernel
theorem dX8_writesNumber_37 : decode cX8_writesNumber 37 = .ok (.iload_n 2, 1) := by decide +kernel
theorem dX8_writesNumber_38 : decode cX8_writesNumber 38 = .ok (.iload 5, 2) := by decide +kernel
theorem dX8_writesNumber_40 : decode cX8_writesNumber 40 = .ok (.idiv, 1) := by decide +kernel
theorem dX8_writesNumber_41 : decode cX8_writesNumber 41 = .ok (.bipush 10, 2) := by decide +kernel
theorem dX8_writesNumber_43 : decode cX8_writesNumber 43 = .ok (.irem, 1) := by decide +kernel
theorem dX8_writesNumber_44 : decode cX8_writesNumber 44 = .ok (.iadd, 1) := by decide +kernel
theorem dX8_writesNumber_45 : decode cX8_writesNumber 45 = .ok (.invokevirtual 185, 3) := by decide +kernel
theorem dX8_writesNumber_48 : decode cX8_writesNumber 48 = .ok (.istore_n 3, 1) := by decide +kernel
theorem dX8_writesNumber_49 : decode cX8_writesNumber 49 = .ok (.iload 5, 2) := by decide +kernel
theorem dX8_writesNumber_51 : decode cX8_writesNumber 51 = .ok (.bipush 10, 2) := by decide +kernel
theorem dX8_writesNumber_53 : decode cX8_writesNumber 53 = .ok (.idiv, 1) := by decide +kernel
theorem dX8_writesNumber_54 : decode cX8_writesNumber 54 = .ok (.istore 5, 2) := by decide +kernel
theorem dX8_writesNumber_56 : decode cX8_writesNumber 56 = .ok (.goto (-28), 3) := by decide +kernel
theorem dX8_writesNumber_59 : decode cX8_writesNumber 59 = .ok (.iload_n 3, 1) := by decide +kernel
theorem dX8_writesNumber_60 : decode cX8_writesNumber 60 = .ok (.ireturn, 1) := by decide +kernel
theorem dX8_renderTask_0 : decode cX8_renderTask 0 = .ok (.aload_n 0, 1) := by decide +kernel
theorem dX8_renderTask_1 : decode cX8_renderTask 1 = .ok (.aload_n 0, 1) := by decide +kernel
theorem dX8_renderTask_2 : decode cX8_renderTask 2 = .ok (.iload_n 1, 1) := by decide +kernel
theorem dX8_renderTask_3 : decode cX8_renderTask 3 = .ok (.invokevirtual 79, 3) := by decide +kernel
theorem dX8_renderTask_6 : decode cX8_renderTask 6 = .ok (.invokevirtual 67, 3) := by decide +kernel
theorem dX8_renderTask_9 : decode cX8_renderTask 9 = .ok (.ifCond .ne 5, 3) := by decide +kernel
theorem dX8_renderTask_12 : decode cX8_renderTask 12 = .ok (.iconst 0, 1) := by decide +kernel
theorem dX8_renderTask_13 : decode cX8_renderTask 13 = .ok (.ireturn, 1) := by decide +kernel
theorem dX8_renderTask_14 : decode cX8_renderTask 14 = .ok (.aload_n 0, 1) := by decide +kernel
theorem dX8_renderTask_15 : decode cX8_renderTask 15 = .ok (.invokevirtual 130, 3) := by decide +kernel
theorem dX8_renderTask_18 : decode cX8_renderTask 18 = .ok (.aload_n 0, 1) := by decide +kernel
theorem dX8_renderTask_19 : decode cX8_renderTask 19 = .ok (.aload_n 0, 1) := by decide +kernel
theorem dX8_renderTask_20 : decode cX8_renderTask 20 = .ok (.iconst 0, 1) := by decide +kernel
theorem dX8_renderTask_21 : decode cX8_renderTask 21 = .ok (.iload_n 1, 1) := by decide +kernel
theorem dX8_renderTask_22 : decode cX8_renderTask 22 = .ok (.invokevirtual 188, 3) := by decide +kernel
theorem dX8_renderTask_25 : decode cX8_renderTask 25 = .ok (.bipush 58, 2) := by decide +kernel
theorem dX8_renderTask_27 : decode cX8_renderTask 27 = .ok (.invokevirtual 185, 3) := by decide +kernel
theorem dX8_renderTask_30 : decode cX8_renderTask 30 = .ok (.istore_n 2, 1) := by decide +kernel
theorem dX8_renderTask_31 : decode cX8_renderTask 31 = .ok (.aload_n 0, 1) := by decide +kernel
theorem dX8_renderTask_32 : decode cX8_renderTask 32 = .ok (.aload_n 0, 1) := by decide +kernel
theorem dX8_renderTask_33 : decode cX8_renderTask 33 = .ok (.iload_n 2, 1) := by decide +kernel
theorem dX8_renderTask_34 : decode cX8_renderTask 34 = .ok (.aload_n 0, 1) := by decide +kernel
theorem dX8_renderTask_35 : decode cX8_renderTask 35 = .ok (.iload_n 1, 1) := by decide +kernel
theorem dX8_renderTask_36 : decode cX8_renderTask 36 = .ok (.iconst 0, 1) := by decide +kernel
theorem dX8_renderTask_37 : decode cX8_renderTask 37 = .ok (.invokevirtual 87, 3) := by decide +kernel
theorem dX8_renderTask_40 : decode cX8_renderTask 40 = .ok (.invokevirtual 188, 3) := by decide +kernel
theorem dX8_renderTask_43 : decode cX8_renderTask 43 = .ok (.bipush 120, 2) := by decide +kernel
theorem dX8_renderTask_45 : decode cX8_renderTask 45 = .ok (.invokevirtual 185, 3) := by decide +kernel
theorem dX8_renderTask_48 : decode cX8_renderTask 48 = .ok (.istore_n 2, 1) := by decide +kernel
theorem dX8_renderTask_49 : decode cX8_renderTask 49 = .ok (.aload_n 0, 1) := by decide +kernel
theorem dX8_renderTask_50 : decode cX8_renderTask 50 = .ok (.aload_n 0, 1) := by decide +kernel
theorem dX8_renderTask_51 : decode cX8_renderTask 51 = .ok (.iload_n 2, 1) := by decide +kernel
theorem dX8_renderTask_52 : decode cX8_renderTask 52 = .ok (.aload_n 0, 1) := by decide +kernel
theorem dX8_renderTask_53 : decode cX8_renderTask 53 = .ok (.iload_n 1, 1) := by decide +kernel
theorem dX8_renderTask_54 : decode cX8_renderTask 54 = .ok (.iconst 2, 1) := by decide +kernel
theorem dX8_renderTask_55 : decode cX8_renderTask 55 = .ok (.invokevirtual 87, 3) := by decide +kernel
theorem dX8_renderTask_58 : decode cX8_renderTask 58 = .ok (.invokevirtual 188, 3) := by decide +kernel
theorem dX8_renderTask_61 : decode cX8_renderTask 61 = .ok (.bipush 114, 2) := by decide +kernel
theorem dX8_renderTask_63 : decode cX8_renderTask 63 = .ok (.invokevirtual 185, 3) := by decide +kernel
theorem dX8_renderTask_66 : decode cX8_renderTask 66 = .ok (.istore_n 2, 1) := by decide +kernel
theorem dX8_renderTask_67 : decode cX8_renderTask 67 = .ok (.aload_n 0, 1) := by decide +kernel
theorem dX8_renderTask_68 : decode cX8_renderTask 68 = .ok (.aload_n 0, 1) := by decide +kernel
theorem dX8_renderTask_69 : decode cX8_renderTask 69 = .ok (.iload_n 2, 1) := by decide +kernel
theorem dX8_renderTask_70 : decode cX8_renderTask 70 = .ok (.aload_n 0, 1) := by decide +kernel
theorem dX8_renderTask_71 : decode cX8_renderTask 71 = .ok (.iload_n 1, 1) := by decide +kernel
theorem dX8_renderTask_72 : decode cX8_renderTask 72 = .ok (.iconst 1, 1) := by decide +kernel
theorem dX8_renderTask_73 : decode cX8_renderTask 73 = .ok (.invokevirtual 87, 3) := by decide +kernel
theorem dX8_renderTask_76 : decode cX8_renderTask 76 = .ok (.invokevirtual 188, 3) := by decide +kernel
theorem dX8_renderTask_79 : decode cX8_renderTask 79 = .ok (.bipush 64, 2) := by decide +kernel
theorem dX8_renderTask_81 : decode cX8_renderTask 81 = .ok (.invokevirtual 185, 3) := by decide +kernel
theorem dX8_renderTask_84 : decode cX8_renderTask 84 = .ok (.istore_n 2, 1) := by decide +kernel
theorem dX8_renderTask_85 : decode cX8_renderTask 85 = .ok (.aload_n 0, 1) := by decide +kernel
theorem dX8_renderTask_86 : decode cX8_renderTask 86 = .ok (.iload_n 2, 1) := by decide +kernel
theorem dX8_renderTask_87 : decode cX8_renderTask 87 = .ok (.aload_n 0, 1) := by decide +kernel
theorem dX8_renderTask_88 : decode cX8_renderTask 88 = .ok (.getfield 35, 3) := by decide +kernel
theorem dX8_renderTask_91 : decode cX8_renderTask 91 = .ok (.iload_n 1, 1) := by decide +kernel
theorem dX8_renderTask_92 : decode cX8_renderTask 92 = .ok (.iaload, 1) := by decide +kernel
theorem dX8_renderTask_93 : decode cX8_renderTask 93 = .ok (.invokevirtual 188, 3) := by decide +kernel
theorem dX8_renderTask_96 : decode cX8_renderTask 96 = .ok (.istore_n 2, 1) := by decide +kernel
theorem dX8_renderTask_97 : decode cX8_renderTask 97 = .ok (.aload_n 0, 1) := by decide +kernel
theorem dX8_renderTask_98 : decode cX8_renderTask 98 = .ok (.getfield 32, 3) := by decide +kernel
theorem dX8_renderTask_101 : decode cX8_renderTask 101 = .ok (.iload_n 1, 1) := by decide +kernel
theorem dX8_renderTask_102 : decode cX8_renderTask 102 = .ok (.iaload, 1) := by decide +kernel
theorem dX8_renderTask_103 : decode cX8_renderTask 103 = .ok (.aload_n 0, 1) := by decide +kernel
theorem dX8_renderTask_104 : decode cX8_renderTask 104 = .ok (.getfield 29, 3) := by decide +kernel
theorem dX8_renderTask_107 : decode cX8_renderTask 107 = .ok (.iload_n 1, 1) := by decide +kernel
theorem dX8_renderTask_108 : decode cX8_renderTask 108 = .ok (.iaload, 1) := by decide +kernel
theorem dX8_renderTask_109 : decode cX8_renderTask 109 = .ok (.if_icmp .ne 13, 3) := by decide +kernel
theorem dX8_renderTask_112 : decode cX8_renderTask 112 = .ok (.aload_n 0, 1) := by decide +kernel
theorem dX8_renderTask_113 : decode cX8_renderTask 113 = .ok (.iload_n 2, 1) := by decide +kernel
theorem dX8_renderTask_114 : decode cX8_renderTask 114 = .ok (.bipush 33, 2) := by decide +kernel
theorem dX8_renderTask_116 : decode cX8_renderTask 116 = .ok (.invokevirtual 185, 3) := by decide +kernel
theorem dX8_renderTask_119 : decode cX8_renderTask 119 = .ok (.goto 4, 3) := by decide +kernel
theorem dX8_renderTask_122 : decode cX8_renderTask 122 = .ok (.iload_n 2, 1) := by decide +kernel
theorem dX8_renderTask_123 : decode cX8_renderTask 123 = .ok (.istore_n 2, 1) := by decide +kernel
theorem dX8_renderTask_124 : decode cX8_renderTask 124 = .ok (.iconst 0, 1) := by decide +kernel
theorem dX8_renderTask_125 : decode cX8_renderTask 125 = .ok (.istore_n 3, 1) := by decide +kernel
theorem dX8_renderTask_126 : decode cX8_renderTask 126 = .ok (.iload_n 3, 1) := by decide +kernel
theorem dX8_renderTask_127 : decode cX8_renderTask 127 = .ok (.aload_n 0, 1) := by decide +kernel
theorem dX8_renderTask_128 : decode cX8_renderTask 128 = .ok (.getfield 9, 3) := by decide +kernel
theorem dX8_renderTask_131 : decode cX8_renderTask 131 = .ok (.iconst 0, 1) := by decide +kernel
theorem dX8_renderTask_132 : decode cX8_renderTask 132 = .ok (.iaload, 1) := by decide +kernel
theorem dX8_renderTask_133 : decode cX8_renderTask 133 = .ok (.if_icmp .ge 35, 3) := by decide +kernel
theorem dX8_renderTask_136 : decode cX8_renderTask 136 = .ok (.aload_n 0, 1) := by decide +kernel
theorem dX8_renderTask_137 : decode cX8_renderTask 137 = .ok (.iload_n 1, 1) := by decide +kernel
theorem dX8_renderTask_138 : decode cX8_renderTask 138 = .ok (.iload_n 3, 1) := by decide +kernel
theorem dX8_renderTask_139 : decode cX8_renderTask 139 = .ok (.invokevirtual 114, 3) := by decide +kernel
theorem dX8_renderTask_142 : decode cX8_renderTask 142 = .ok (.ifCond .eq 18, 3) := by decide +kernel
theorem dX8_renderTask_145 : decode cX8_renderTask 145 = .ok (.aload_n 0, 1) := by decide +kernel
theorem dX8_renderTask_146 : decode cX8_renderTask 146 = .ok (.aload_n 0, 1) := by decide +kernel
theorem dX8_renderTask_147 : decode cX8_renderTask 147 = .ok (.iload_n 2, 1) := by decide +kernel
theorem dX8_renderTask_148 : decode cX8_renderTask 148 = .ok (.bipush 60, 2) := by decide +kernel
theorem dX8_renderTask_150 : decode cX8_renderTask 150 = .ok (.invokevirtual 185, 3) := by decide +kernel
theorem dX8_renderTask_153 : decode cX8_renderTask 153 = .ok (.iload_n 3, 1) := by decide +kernel
theorem dX8_renderTask_154 : decode cX8_renderTask 154 = .ok (.invokevirtual 188, 3) := by decide +kernel
theorem dX8_renderTask_157 : decode cX8_renderTask 157 = .ok (.goto 4, 3) := by decide +kernel
theorem dX8_renderTask_160 : decode cX8_renderTask 160 = .ok (.iload_n 2, 1) := by decide +kernel
theorem dX8_renderTask_161 : decode cX8_renderTask 161 = .ok (.istore_n 2, 1) := by decide +kernel
theorem dX8_renderTask_162 : decode cX8_renderTask 162 = .ok (.iinc 3 1, 3) := by decide +kernel
theorem dX8_renderTask_165 : decode cX8_renderTask 165 = .ok (.goto (-39), 3) := by decide +kernel
theorem dX8_renderTask_168 : decode cX8_renderTask 168 = .ok (.aload_n 0, 1) := by decide +kernel
theorem dX8_renderTask_169 : decode cX8_renderTask 169 = .ok (.iload_n 2, 1) := by decide +kernel
theorem dX8_renderTask_170 : decode cX8_renderTask 170 = .ok (.putfield 191, 3) := by decide +kernel
theorem dX8_renderTask_173 : decode cX8_renderTask 173 = .ok (.iload_n 2, 1) := by decide +kernel
theorem dX8_renderTask_174 : decode cX8_renderTask 174 = .ok (.ireturn, 1) := by decide +kernel
theorem dX8_renderUsage_0 : decode cX8_renderUsage 0 = .ok (.aload_n 0, 1) := by decide +kernel
theorem dX8_renderUsage_1 : decode cX8_renderUsage 1 = .ok (.iload_n 1, 1) := by decide +kernel
theorem dX8_renderUsage_2 : decode cX8_renderUsage 2 = .ok (.invokestatic 94, 3) := by decide +kernel
theorem dX8_renderUsage_5 : decode cX8_renderUsage 5 = .ok (.invokevirtual 67, 3) := by decide +kernel
theorem dX8_renderUsage_8 : decode cX8_renderUsage 8 = .ok (.ifCond .ne 5, 3) := by decide +kernel
theorem dX8_renderUsage_11 : decode cX8_renderUsage 11 = .ok (.iconst 0, 1) := by decide +kernel
theorem dX8_renderUsage_12 : decode cX8_renderUsage 12 = .ok (.ireturn, 1) := by decide +kernel
theorem dX8_renderUsage_13 : decode cX8_renderUsage 13 = .ok (.aload_n 0, 1) := by decide +kernel
theorem dX8_renderUsage_14 : decode cX8_renderUsage 14 = .ok (.invokevirtual 130, 3) := by decide +kernel
theorem dX8_renderUsage_17 : decode cX8_renderUsage 17 = .ok (.iconst 0, 1) := by decide +kernel
theorem dX8_renderUsage_18 : decode cX8_renderUsage 18 = .ok (.istore_n 2, 1) := by decide +kernel
theorem dX8_renderUsage_19 : decode cX8_renderUsage 19 = .ok (.iconst 0, 1) := by decide +kernel
theorem dX8_renderUsage_20 : decode cX8_renderUsage 20 = .ok (.istore_n 3, 1) := by decide +kernel
theorem dX8_renderUsage_21 : decode cX8_renderUsage 21 = .ok (.iload_n 3, 1) := by decide +kernel
theorem dX8_renderUsage_22 : decode cX8_renderUsage 22 = .ok (.aload_n 0, 1) := by decide +kernel
theorem dX8_renderUsage_23 : decode cX8_renderUsage 23 = .ok (.aload_n 0, 1) := by decide +kernel
theorem dX8_renderUsage_24 : decode cX8_renderUsage 24 = .ok (.getfield 35, 3) := by decide +kernel
theorem dX8_renderUsage_27 : decode cX8_renderUsage 27 = .ok (.invokevirtual 133, 3) := by decide +kernel
theorem dX8_renderUsage_30 : decode cX8_renderUsage 30 = .ok (.if_icmp .ge 41, 3) := by decide +kernel
theorem dX8_renderUsage_33 : decode cX8_renderUsage 33 = .ok (.aload_n 0, 1) := by decide +kernel
theorem dX8_renderUsage_34 : decode cX8_renderUsage 34 = .ok (.iload_n 3, 1) := by decide +kernel
theorem dX8_renderUsage_35 : decode cX8_renderUsage 35 = .ok (.ifCond .ne 7, 3) := by decide +kernel
theorem dX8_renderUsage_38 : decode cX8_renderUsage 38 = .ok (.iload_n 2, 1) := by decide +kernel
theorem dX8_renderUsage_39 : decode cX8_renderUsage 39 = .ok (.goto 10, 3) := by decide +kernel
theorem dX8_renderUsage_42 : decode cX8_renderUsage 42 = .ok (.aload_n 0, 1) := by decide +kernel
theorem dX8_renderUsage_43 : decode cX8_renderUsage 43 = .ok (.iload_n 2, 1) := by decide +kernel
theorem dX8_renderUsage_44 : decode cX8_renderUsage 44 = .ok (.bipush 44, 2) := by decide +kernel
theorem dX8_renderUsage_46 : decode cX8_renderUsage 46 = .ok (.invokevirtual 185, 3) := by decide +kernel
theorem dX8_renderUsage_49 : decode cX8_renderUsage 49 = .ok (.aload_n 0, 1) := by decide +kernel
theorem dX8_renderUsage_50 : decode cX8_renderUsage 50 = .ok (.getfield 38, 3) := by decide +kernel
theorem dX8_renderUsage_53 : decode cX8_renderUsage 53 = .ok (.sipush 160, 3) := by decide +kernel
theorem dX8_renderUsage_56 : decode cX8_renderUsage 56 = .ok (.iload_n 1, 1) := by decide +kernel
theorem dX8_renderUsage_57 : decode cX8_renderUsage 57 = .ok (.imul, 1) := by decide +kernel
theorem dX8_renderUsage_58 : decode cX8_renderUsage 58 = .ok (.iload_n 3, 1) := by decide +kernel
theorem dX8_renderUsage_59 : decode cX8_renderUsage 59 = .ok (.iadd, 1) := by decide +kernel
theorem dX8_renderUsage_60 : decode cX8_renderUsage 60 = .ok (.iaload, 1) := by decide +kernel
theorem dX8_renderUsage_61 : decode cX8_renderUsage 61 = .ok (.invokevirtual 188, 3) := by decide +kernel
theorem dX8_renderUsage_64 : decode cX8_renderUsage 64 = .ok (.istore_n 2, 1) := by decide +kernel
theorem dX8_renderUsage_65 : decode cX8_renderUsage 65 = .ok (.iinc 3 1, 3) := by decide +kernel
theorem dX8_renderUsage_68 : decode cX8_renderUsage 68 = .ok (.goto (-47), 3) := by decide +kernel
theorem dX8_renderUsage_71 : decode cX8_renderUsage 71 = .ok (.aload_n 0, 1) := by decide +kernel
theorem dX8_renderUsage_72 : decode cX8_renderUsage 72 = .ok (.iload_n 2, 1) := by decide +kernel
theorem dX8_renderUsage_73 : decode cX8_renderUsage 73 = .ok (.putfield 191, 3) := by decide +kernel
theorem dX8_renderUsage_76 : decode cX8_renderUsage 76 = .ok (.iload_n 2, 1) := by decide +kernel
theorem dX8_renderUsage_77 : decode cX8_renderUsage 77 = .ok (.ireturn, 1) := by decide +kernel
theorem dX8_outputAt_0 : decode cX8_outputAt 0 = .ok (.aload_n 0, 1) := by decide +kernel
theorem dX8_outputAt_1 : decode cX8_outputAt 1 = .ok (.iload_n 1, 1) := by decide +kernel
theorem dX8_outputAt_2 : decode cX8_outputAt 2 = .ok (.iconst 0, 1) := by decide +kernel
theorem dX8_outputAt_3 : decode cX8_outputAt 3 = .ok (.aload_n 0, 1) := by decide +kernel
theorem dX8_outputAt_4 : decode cX8_outputAt 4 = .ok (.getfield 191, 3) := by decide +kernel
theorem dX8_outputAt_7 : decode cX8_outputAt 7 = .ok (.iconst 1, 1) := by decide +kernel
theorem dX8_outputAt_8 : decode cX8_outputAt 8 = .ok (.isub, 1) := by decide +kernel
theorem dX8_outputAt_9 : decode cX8_outputAt 9 = .ok (.invokestatic 75, 3) := by decide +kernel
theorem dX8_outputAt_12 : decode cX8_outputAt 12 = .ok (.invokevirtual 67, 3) := by decide +kernel
theorem dX8_outputAt_15 : decode cX8_outputAt 15 = .ok (.ifCond .eq 13, 3) := by decide +kernel
theorem dX8_outputAt_18 : decode cX8_outputAt 18 = .ok (.aload_n 0, 1) := by decide +kernel
theorem dX8_outputAt_19 : decode cX8_outputAt 19 = .ok (.getfield 44, 3) := by decide +kernel
theorem dX8_outputAt_22 : decode cX8_outputAt 22 = .ok (.iload_n 1, 1) := by decide +kernel
theorem dX8_outputAt_23 : decode cX8_outputAt 23 = .ok (.iaload, 1) := by decide +kernel
theorem dX8_outputAt_24 : decode cX8_outputAt 24 = .ok (.i2c, 1) := by decide +kernel
theorem dX8_outputAt_25 : decode cX8_outputAt 25 = .ok (.goto 4, 3) := by decide +kernel
theorem dX8_outputAt_28 : decode cX8_outputAt 28 = .ok (.iconst 0, 1) := by decide +kernel
theorem dX8_outputAt_29 : decode cX8_outputAt 29 = .ok (.ireturn, 1) := by decide +kernel
theorem dX8_type_0 : decode cX8_type 0 = .ok (.aload_n 0, 1) := by decide +kernel
theorem dX8_type_1 : decode cX8_type 1 = .ok (.iload_n 1, 1) := by decide +kernel
theorem dX8_type_2 : decode cX8_type 2 = .ok (.bipush 32, 2) := by decide +kernel
theorem dX8_type_4 : decode cX8_type 4 = .ok (.bipush 126, 2) := by decide +kernel
theorem dX8_type_6 : decode cX8_type 6 = .ok (.invokestatic 75, 3) := by decide +kernel
theorem dX8_type_9 : decode cX8_type 9 = .ok (.aload_n 0, 1) := by decide +kernel
theorem dX8_type_10 : decode cX8_type 10 = .ok (.getfield 194, 3) := by decide +kernel
theorem dX8_type_13 : decode cX8_type 13 = .ok (.bipush 60, 2) := by decide +kernel
theorem dX8_type_15 : decode cX8_type 15 = .ok (.if_icmp .ge 7, 3) := by decide +kernel
theorem dX8_type_18 : decode cX8_type 18 = .ok (.iconst 1, 1) := by decide +kernel
theorem dX8_type_19 : decode cX8_type 19 = .ok (.goto 4, 3) := by decide +kernel
theorem dX8_type_22 : decode cX8_type 22 = .ok (.iconst 0, 1) := by decide +kernel
theorem dX8_type_23 : decode cX8_type 23 = .ok (.iconst 1, 1) := by decide +kernel
theorem dX8_type_24 : decode cX8_type 24 = .ok (.invokevirtual 53, 3) := by decide +kernel
theorem dX8_type_27 : decode cX8_type 27 = .ok (.ifCond .ne 5, 3) := by decide +kernel
theorem dX8_type_30 : decode cX8_type 30 = .ok (.iconst 0, 1) := by decide +kernel
theorem dX8_type_31 : decode cX8_type 31 = .ok (.ireturn, 1) := by decide +kernel
theorem dX8_type_32 : decode cX8_type 32 = .ok (.aload_n 0, 1) := by decide +kernel
theorem dX8_type_33 : decode cX8_type 33 = .ok (.getfield 41, 3) := by decide +kernel
theorem dX8_type_36 : decode cX8_type 36 = .ok (.aload_n 0, 1) := by decide +kernel
theorem dX8_type_37 : decode cX8_type 37 = .ok (.getfield 194, 3) := by decide +kernel
theorem dX8_type_40 : decode cX8_type 40 = .ok (.iload_n 1, 1) := by decide +kernel
theorem dX8_type_41 : decode cX8_type 41 = .ok (.iastore, 1) := by decide +kernel
theorem dX8_type_42 : decode cX8_type 42 = .ok (.aload_n 0, 1) := by decide +kernel
theorem dX8_type_43 : decode cX8_type 43 = .ok (.dup, 1) := by decide +kernel
theorem dX8_type_44 : decode cX8_type 44 = .ok (.getfield 194, 3) := by decide +kernel
theorem dX8_type_47 : decode cX8_type 47 = .ok (.iconst 1, 1) := by decide +kernel
theorem dX8_type_48 : decode cX8_type 48 = .ok (.iadd, 1) := by decide +kernel
theorem dX8_type_49 : decode cX8_type 49 = .ok (.putfield 194, 3) := by decide +kernel
theorem dX8_type_52 : decode cX8_type 52 = .ok (.aload_n 0, 1) := by decide +kernel
theorem dX8_type_53 : decode cX8_type 53 = .ok (.getfield 194, 3) := by decide +kernel
theorem dX8_type_56 : decode cX8_type 56 = .ok (.ireturn, 1) := by decide +kernel
theorem dX8_letterHere_0 : decode cX8_letterHere 0 = .ok (.aload_n 0, 1) := by decide +kernel
theorem dX8_letterHere_1 : decode cX8_letterHere 1 = .ok (.getfield 197, 3) := by decide +kernel
theorem dX8_letterHere_4 : decode cX8_letterHere 4 = .ok (.aload_n 0, 1) := by decide +kernel
theorem dX8_letterHere_5 : decode cX8_letterHere 5 = .ok (.getfield 200, 3) := by decide +kernel
theorem dX8_letterHere_8 : decode cX8_letterHere 8 = .ok (.if_icmp .ge 15, 3) := by decide +kernel
theorem dX8_letterHere_11 : decode cX8_letterHere 11 = .ok (.aload_n 0, 1) := by decide +kernel
theorem dX8_letterHere_12 : decode cX8_letterHere 12 = .ok (.getfield 41, 3) := by decide +kernel
theorem dX8_letterHere_15 : decode cX8_letterHere 15 = .ok (.aload_n 0, 1) := by decide +kernel
theorem dX8_letterHere_16 : decode cX8_letterHere 16 = .ok (.getfield 197, 3) := by decide +kernel
theorem dX8_letterHere_19 : decode cX8_letterHere 19 = .ok (.iaload, 1) := by decide +kernel
theorem dX8_letterHere_20 : decode cX8_letterHere 20 = .ok (.goto 4, 3) := by decide +kernel
theorem dX8_letterHere_23 : decode cX8_letterHere 23 = .ok (.iconst (-1), 1) := by decide +kernel
theorem dX8_letterHere_24 : decode cX8_letterHere 24 = .ok (.ireturn, 1) := by decide +kernel
theorem dX8_reads_0 : decode cX8_reads 0 = .ok (.aload_n 0, 1) := by decide +kernel
theorem dX8_reads_1 : decode cX8_reads 1 = .ok (.getfield 203, 3) := by decide +kernel
theorem dX8_reads_4 : decode cX8_reads 4 = .ok (.iconst (-1), 1) := by decide +kernel
theorem dX8_reads_5 : decode cX8_reads 5 = .ok (.if_icmp .ne 39, 3) := by decide +kernel
theorem dX8_reads_8 : decode cX8_reads 8 = .ok (.aload_n 0, 1) := by decide +kernel
theorem dX8_reads_9 : decode cX8_reads 9 = .ok (.invokevirtual 206, 3) := by decide +kernel
theorem dX8_reads_12 : decode cX8_reads 12 = .ok (.iload_n 1, 1) := by decide +kernel
theorem dX8_reads_13 : decode cX8_reads 13 = .ok (.iload_n 2, 1) := by decide +kernel
theorem dX8_reads_14 : decode cX8_reads 14 = .ok (.invokestatic 75, 3) := by decide +kernel
theorem dX8_reads_17 : decode cX8_reads 17 = .ok (.ifCond .eq 27, 3) := by decide +kernel
theorem dX8_reads_20 : decode cX8_reads 20 = .ok (.aload_n 0, 1) := by decide +kernel
theorem dX8_reads_21 : decode cX8_reads 21 = .ok (.dup, 1) := by decide +kernel
theorem dX8_reads_22 : decode cX8_reads 22 = .ok (.getfield 197, 3) := by decide +kernel
theorem dX8_reads_25 : decode cX8_reads 25 = .ok (.iconst 1, 1) := by decide +kernel
theorem dX8_reads_26 : decode cX8_reads 26 = .ok (.iadd, 1) := by decide +kernel
theorem dX8_reads_27 : decode cX8_reads 27 = .ok (.putfield 197, 3) := by decide +kernel
theorem dX8_reads_30 : decode cX8_reads 30 = .ok (.aload_n 0, 1) := by decide +kernel
theorem dX8_reads_31 : decode cX8_reads 31 = .ok (.getfield 41, 3) := by decide +kernel
theorem dX8_reads_34 : decode cX8_reads 34 = .ok (.aload_n 0, 1) := by decide +kernel
theorem dX8_reads_35 : decode cX8_reads 35 = .ok (.getfield 197, 3) := by decide +kernel
theorem dX8_reads_38 : decode cX8_reads 38 = .ok (.iconst 1, 1) := by decide +kernel
theorem dX8_reads_39 : decode cX8_reads 39 = .ok (.isub, 1) := by decide +kernel
theorem dX8_reads_40 : decode cX8_reads 40 = .ok (.iaload, 1) := by decide +kernel
theorem dX8_reads_41 : decode cX8_reads 41 = .ok (.iload_n 1, 1) := by decide +kernel
theorem dX8_reads_42 : decode cX8_reads 42 = .ok (.isub, 1) := by decide +kernel
theorem dX8_reads_43 : decode cX8_reads 43 = .ok (.ireturn, 1) := by decide +kernel
theorem dX8_reads_44 : decode cX8_reads 44 = .ok (.aload_n 0, 1) := by decide +kernel
theorem dX8_reads_45 : decode cX8_reads 45 = .ok (.aload_n 0, 1) := by decide +kernel
theorem dX8_reads_46 : decode cX8_reads 46 = .ok (.getfield 203, 3) := by decide +kernel
theorem dX8_reads_49 : decode cX8_reads 49 = .ok (.iconst (-1), 1) := by decide +kernel
theorem dX8_reads_50 : decode cX8_reads 50 = .ok (.if_icmp .ne 10, 3) := by decide +kernel
theorem dX8_reads_53 : decode cX8_reads 53 = .ok (.aload_n 0, 1) := by decide +kernel
theorem dX8_reads_54 : decode cX8_reads 54 = .ok (.getfield 197, 3) := by decide +kernel
theorem dX8_reads_57 : decode cX8_reads 57 = .ok (.goto 7, 3) := by decide +kernel
theorem dX8_reads_60 : decode cX8_reads 60 = .ok (.aload_n 0, 1) := by decide +kernel
theorem dX8_reads_61 : decode cX8_reads 61 = .ok (.getfield 203, 3) := by decide +kernel
theorem dX8_reads_64 : decode cX8_reads 64 = .ok (.putfield 203, 3) := by decide +kernel
theorem dX8_reads_67 : decode cX8_reads 67 = .ok (.iconst 0, 1) := by decide +kernel
theorem dX8_reads_68 : decode cX8_reads 68 = .ok (.ireturn, 1) := by decide +kernel
theorem dX8_digit_0 : decode cX8_digit 0 = .ok (.aload_n 0, 1) := by decide +kernel
theorem dX8_digit_1 : decode cX8_digit 1 = .ok (.bipush 48, 2) := by decide +kernel
theorem dX8_digit_3 : decode cX8_digit 3 = .ok (.bipush 57, 2) := by decide +kernel
theorem dX8_digit_5 : decode cX8_digit 5 = .ok (.invokevirtual 209, 3) := by decide +kernel
theorem dX8_digit_8 : decode cX8_digit 8 = .ok (.ireturn, 1) := by decide +kernel
theorem dX8_number_0 : decode cX8_number 0 = .ok (.aload_n 0, 1) := by decide +kernel
theorem dX8_number_1 : decode cX8_number 1 = .ok (.invokevirtual 212, 3) := by decide +kernel
theorem dX8_number_4 : decode cX8_number 4 = .ok (.istore_n 1, 1) := by decide +kernel
theorem dX8_number_5 : decode cX8_number 5 = .ok (.aload_n 0, 1) := by decide +kernel
theorem dX8_number_6 : decode cX8_number 6 = .ok (.getfield 203, 3) := by decide +kernel
theorem dX8_number_9 : decode cX8_number 9 = .ok (.iconst (-1), 1) := by decide +kernel
theorem dX8_number_10 : decode cX8_number 10 = .ok (.if_icmp .ne 29, 3) := by decide +kernel
theorem dX8_number_13 : decode cX8_number 13 = .ok (.aload_n 0, 1) := by decide +kernel
theorem dX8_number_14 : decode cX8_number 14 = .ok (.invokevirtual 206, 3) := by decide +kernel
theorem dX8_number_17 : decode cX8_number 17 = .ok (.bipush 48, 2) := by decide +kernel
theorem dX8_number_19 : decode cX8_number 19 = .ok (.bipush 57, 2) := by decide +kernel
theorem dX8_number_21 : decode cX8_number 21 = .ok (.invokestatic 75, 3) := by decide +kernel
theorem dX8_number_24 : decode cX8_number 24 = .ok (.ifCond .eq 15, 3) := by decide +kernel
theorem dX8_number_27 : decode cX8_number 27 = .ok (.bipush 10, 2) := by decide +kernel
theorem dX8_number_29 : decode cX8_number 29 = .ok (.iload_n 1, 1) := by decide +kernel
theorem dX8_number_30 : decode cX8_number 30 = .ok (.imul, 1) := by decide +kernel
theorem dX8_number_31 : decode cX8_number 31 = .ok (.aload_n 0, 1) := by decide +kernel
theorem dX8_number_32 : decode cX8_number 32 = .ok (.invokevirtual 212, 3) := by decide +kernel
theorem dX8_number_35 : decode cX8_number 35 = .ok (.iadd, 1) := by decide +kernel
theorem dX8_number_36 : decode cX8_number 36 = .ok (.goto 4, 3) := by decide +kernel
theorem dX8_number_39 : decode cX8_number 39 = .ok (.iload_n 1, 1) := by decide +kernel
theorem dX8_number_40 : decode cX8_number 40 = .ok (.ireturn, 1) := by decide +kernel
theorem dX8_sign_0 : decode cX8_sign 0 = .ok (.aload_n 0, 1) := by decide +kernel
theorem dX8_sign_1 : decode cX8_sign 1 = .ok (.iload_n 1, 1) := by decide +kernel
theorem dX8_sign_2 : decode cX8_sign 2 = .ok (.iload_n 1, 1) := by decide +kernel
theorem dX8_sign_3 : decode cX8_sign 3 = .ok (.invokevirtual 209, 3) := by decide +kernel
theorem dX8_sign_6 : decode cX8_sign 6 = .ok (.istore_n 2, 1) := by decide +kernel
theorem dX8_sign_7 : decode cX8_sign 7 = .ok (.return_, 1) := by decide +kernel
theorem dX8_startOf_0 : decode cX8_startOf 0 = .ok (.iload_n 0, 1) := by decide +kernel
theorem dX8_startOf_1 : decode cX8_startOf 1 = .ok (.tableswitch 63 0 7 #[47, 47, 47, 47, 51, 54, 57, 60], 47) := by decide +kernel
theorem dX8_startOf_48 : decode cX8_startOf 48 = .ok (.iconst 5, 1) := by decide +kernel
theorem dX8_startOf_49 : decode cX8_startOf 49 = .ok (.iload_n 0, 1) := by decide +kernel
theorem dX8_startOf_50 : decode cX8_startOf 50 = .ok (.imul, 1) := by decide +kernel
theorem dX8_startOf_51 : decode cX8_startOf 51 = .ok (.ireturn, 1) := by decide +kernel
theorem dX8_startOf_52 : decode cX8_startOf 52 = .ok (.bipush 22, 2) := by decide +kernel
theorem dX8_startOf_54 : decode cX8_startOf 54 = .ok (.ireturn, 1) := by decide +kernel
theorem dX8_startOf_55 : decode cX8_startOf 55 = .ok (.bipush 28, 2) := by decide +kernel
theorem dX8_startOf_57 : decode cX8_startOf 57 = .ok (.ireturn, 1) := by decide +kernel
theorem dX8_startOf_58 : decode cX8_startOf 58 = .ok (.bipush 35, 2) := by decide +kernel
theorem dX8_startOf_60 : decode cX8_startOf 60 = .ok (.ireturn, 1) := by decide +kernel
theorem dX8_startOf_61 : decode cX8_startOf 61 = .ok (.bipush 41, 2) := by decide +kernel
theorem dX8_startOf_63 : decode cX8_startOf 63 = .ok (.ireturn, 1) := by decide +kernel
theorem dX8_startOf_64 : decode cX8_startOf 64 = .ok (.bipush 45, 2) := by decide +kernel
theorem dX8_startOf_66 : decode cX8_startOf 66 = .ok (.ireturn, 1) := by decide +kernel
theorem dX8_kindHere_0 : decode cX8_kindHere 0 = .ok (.aload_n 0, 1) := by decide +kernel
theorem dX8_kindHere_1 : decode cX8_kindHere 1 = .ok (.getfield 197, 3) := by decide +kernel
theorem dX8_kindHere_4 : decode cX8_kindHere 4 = .ok (.istore_n 1, 1) := by decide +kernel
theorem dX8_kindHere_5 : decode cX8_kindHere 5 = .ok (.iconst (-1), 1) := by decide +kernel
theorem dX8_kindHere_6 : decode cX8_kindHere 6 = .ok (.istore_n 2, 1) := by decide +kernel
theorem dX8_kindHere_7 : decode cX8_kindHere 7 = .ok (.iconst 0, 1) := by decide +kernel
theorem dX8_kindHere_8 : decode cX8_kindHere 8 = .ok (.istore_n 3, 1) := by decide +kernel
theorem dX8_kindHere_9 : decode cX8_kindHere 9 = .ok (.iload_n 3, 1) := by decide +kernel
theorem dX8_kindHere_10 : decode cX8_kindHere 10 = .ok (.bipush 8, 2) := by decide +kernel
theorem dX8_kindHere_12 : decode cX8_kindHere 12 = .ok (.if_icmp .ge 109, 3) := by decide +kernel
theorem dX8_kindHere_15 : decode cX8_kindHere 15 = .ok (.iload_n 2, 1) := by decide +kernel
theorem dX8_kindHere_16 : decode cX8_kindHere 16 = .ok (.iconst (-1), 1) := by decide +kernel
theorem dX8_kindHere_17 : decode cX8_kindHere 17 = .ok (.if_icmp .ne 104, 3) := by decide +kernel
theorem dX8_kindHere_20 : decode cX8_kindHere 20 = .ok (.iload_n 3, 1) := by decide +kernel
theorem dX8_kindHere_21 : decode cX8_kindHere 21 = .ok (.iconst 1, 1) := by decide +kernel
theorem dX8_kindHere_22 : decode cX8_kindHere 22 = .ok (.iadd, 1) := by decide +kernel
theorem dX8_kindHere_23 : decode cX8_kindHere 23 = .ok (.invokestatic 215, 3) := by decide +kernel
theorem dX8_kindHere_26 : decode cX8_kindHere 26 = .ok (.iload_n 3, 1) := by decide +kernel
theorem dX8_kindHere_27 : decode cX8_kindHere 27 = .ok (.invokestatic 215, 3) := by decide +kernel
theorem dX8_kindHere_30 : decode cX8_kindHere 30 = .ok (.isub, 1) := by decide +kernel
theorem dX8_kindHere_31 : decode cX8_kindHere 31 = .ok (.istore 4, 2) := by decide +kernel
theorem dX8_kindHere_33 : decode cX8_kindHere 33 = .ok (.iconst 0, 1) := by decide +kernel
theorem dX8_kindHere_34 : decode cX8_kindHere 34 = .ok (.istore 5, 2) := by decide +kernel
theorem dX8_kindHere_36 : decode cX8_kindHere 36 = .ok (.iload 5, 2) := by decide +kernel
theorem dX8_kindHere_38 : decode cX8_kindHere 38 = .ok (.iload 4, 2) := by decide +kernel
theorem dX8_kindHere_40 : decode cX8_kindHere 40 = .ok (.if_icmp .ge 50, 3) := by decide +kernel
theorem dX8_kindHere_43 : decode cX8_kindHere 43 = .ok (.aload_n 0, 1) := by decide +kernel
theorem dX8_kindHere_44 : decode cX8_kindHere 44 = .ok (.getfield 197, 3) := by decide +kernel
theorem dX8_kindHere_47 : decode cX8_kindHere 47 = .ok (.iload 5, 2) := by decide +kernel
theorem dX8_kindHere_49 : decode cX8_kindHere 49 = .ok (.iadd, 1) := by decide +kernel
theorem dX8_kindHere_50 : decode cX8_kindHere 50 = .ok (.aload_n 0, 1) := by decide +kernel
theorem dX8_kindHere_51 : decode cX8_kindHere 51 = .ok (.getfield 200, 3) := by decide +kernel
theorem dX8_kindHere_54 : decode cX8_kindHere 54 = .ok (.if_icmp .ge 36, 3) := by decide +kernel
theorem dX8_kindHere_57 : decode cX8_kindHere 57 = .ok (.aload_n 0, 1) := by decide +kernel
theorem dX8_kindHere_58 : decode cX8_kindHere 58 = .ok (.getfield 41, 3) := by decide +kernel
theorem dX8_kindHere_61 : decode cX8_kindHere 61 = .ok (.aload_n 0, 1) := by decide +kernel
theorem dX8_kindHere_62 : decode cX8_kindHere 62 = .ok (.getfield 197, 3) := by decide +kernel
theorem dX8_kindHere_65 : decode cX8_kindHere 65 = .ok (.iload 5, 2) := by decide +kernel
theorem dX8_kindHere_67 : decode cX8_kindHere 67 = .ok (.iadd, 1) := by decide +kernel
theorem dX8_kindHere_68 : decode cX8_kindHere 68 = .ok (.iaload, 1) := by decide +kernel
theorem dX8_kindHere_69 : decode cX8_kindHere 69 = .ok (.ldc 218, 2) := by decide +kernel
theorem dX8_kindHere_71 : decode cX8_kindHere 71 = .ok (.iload_n 3, 1) := by decide +kernel
theorem dX8_kindHere_72 : decode cX8_kindHere 72 = .ok (.invokestatic 215, 3) := by decide +kernel
theorem dX8_kindHere_75 : decode cX8_kindHere 75 = .ok (.iload 5, 2) := by decide +kernel
theorem dX8_kindHere_77 : decode cX8_kindHere 77 = .ok (.iadd, 1) := by decide +kernel
theorem dX8_kindHere_78 : decode cX8_kindHere 78 = .ok (.invokevirtual 220, 3) := by decide +kernel
theorem dX8_kindHere_81 : decode cX8_kindHere 81 = .ok (.if_icmp .ne 9, 3) := by decide +kernel
theorem dX8_kindHere_84 : decode cX8_kindHere 84 = .ok (.iinc 5 1, 3) := by decide +kernel
theorem dX8_kindHere_87 : decode cX8_kindHere 87 = .ok (.goto (-51), 3) := by decide +kernel
theorem dX8_kindHere_90 : decode cX8_kindHere 90 = .ok (.iload_n 1, 1) := by decide +kernel
theorem dX8_kindHere_91 : decode cX8_kindHere 91 = .ok (.aload_n 0, 1) := by decide +kernel
theorem dX8_kindHere_92 : decode cX8_kindHere 92 = .ok (.getfield 197, 3) := by decide +kernel
theorem dX8_kindHere_95 : decode cX8_kindHere 95 = .ok (.iload 5, 2) := by decide +kernel
theorem dX8_kindHere_97 : decode cX8_kindHere 97 = .ok (.iadd, 1) := by decide +kernel
theorem dX8_kindHere_98 : decode cX8_kindHere 98 = .ok (.invokestatic 141, 3) := by decide +kernel
theorem dX8_kindHere_101 : decode cX8_kindHere 101 = .ok (.istore_n 1, 1) := by decide +kernel
theorem dX8_kindHere_102 : decode cX8_kindHere 102 = .ok (.iload 5, 2) := by decide +kernel
theorem dX8_kindHere_104 : decode cX8_kindHere 104 = .ok (.iload 4, 2) := by decide +kernel
theorem dX8_kindHere_106 : decode cX8_kindHere 106 = .ok (.if_icmp .ne 7, 3) := by decide +kernel
theorem dX8_kindHere_109 : decode cX8_kindHere 109 = .ok (.iload_n 3, 1) := by decide +kernel
theorem dX8_kindHere_110 : decode cX8_kindHere 110 = .ok (.goto 4, 3) := by decide +kernel
theorem dX8_kindHere_113 : decode cX8_kindHere 113 = .ok (.iload_n 2, 1) := by decide +kernel
theorem dX8_kindHere_114 : decode cX8_kindHere 114 = .ok (.istore_n 2, 1) := by decide +kernel
theorem dX8_kindHere_115 : decode cX8_kindHere 115 = .ok (.iinc 3 1, 3) := by decide +kernel
theorem dX8_kindHere_118 : decode cX8_kindHere 118 = .ok (.goto (-109), 3) := by decide +kernel
theorem dX8_kindHere_121 : decode cX8_kindHere 121 = .ok (.aload_n 0, 1) := by decide +kernel
theorem dX8_kindHere_122 : decode cX8_kindHere 122 = .ok (.iload_n 2, 1) := by decide +kernel
theorem dX8_kindHere_123 : decode cX8_kindHere 123 = .ok (.iconst (-1), 1) := by decide +kernel
theorem dX8_kindHere_124 : decode cX8_kindHere 124 = .ok (.if_icmp .ne 7, 3) := by decide +kernel
theorem dX8_kindHere_127 : decode cX8_kindHere 127 = .ok (.iload_n 1, 1) := by decide +kernel
theorem dX8_kindHere_128 : decode cX8_kindHere 128 = .ok (.goto 7, 3) := by decide +kernel
theorem dX8_kindHere_131 : decode cX8_kindHere 131 = .ok (.aload_n 0, 1) := by decide +kernel
theorem dX8_kindHere_132 : decode cX8_kindHere 132 = .ok (.getfield 203, 3) := by decide +kernel
theorem dX8_kindHere_135 : decode cX8_kindHere 135 = .ok (.putfield 203, 3) := by decide +kernel
theorem dX8_kindHere_138 : decode cX8_kindHere 138 = .ok (.aload_n 0, 1) := by decide +kernel
theorem dX8_kindHere_139 : decode cX8_kindHere 139 = .ok (.dup, 1) := by decide +kernel
theorem dX8_kindHere_140 : decode cX8_kindHere 140 = .ok (.getfield 197, 3) := by decide +kernel
theorem dX8_kindHere_143 : decode cX8_kindHere 143 = .ok (.iload_n 2, 1) := by decide +kernel
theorem dX8_kindHere_144 : decode cX8_kindHere 144 = .ok (.iconst (-1), 1) := by decide +kernel
theorem dX8_kindHere_145 : decode cX8_kindHere 145 = .ok (.if_icmp .ne 7, 3) := by decide +kernel
theorem dX8_kindHere_148 : decode cX8_kindHere 148 = .ok (.iconst 0, 1) := by decide +kernel
theorem dX8_kindHere_149 : decode cX8_kindHere 149 = .ok (.goto 14, 3) := by decide +kernel
theorem dX8_kindHere_152 : decode cX8_kindHere 152 = .ok (.iload_n 2, 1) := by decide +kernel
theorem dX8_kindHere_153 : decode cX8_kindHere 153 = .ok (.iconst 1, 1) := by decide +kernel
theorem dX8_kindHere_154 : decode cX8_kindHere 154 = .ok (.iadd, 1) := by decide +kernel
theorem dX8_kindHere_155 : decode cX8_kindHere 155 = .ok (.invokestatic 215, 3) := by decide +kernel
theorem dX8_kindHere_158 : decode cX8_kindHere 158 = .ok (.iload_n 2, 1) := by decide +kernel
theorem dX8_kindHere_159 : decode cX8_kindHere 159 = .ok (.invokestatic 215, 3) := by decide +kernel
theorem dX8_kindHere_162 : decode cX8_kindHere 162 = .ok (.isub, 1) := by decide +kernel
theorem dX8_kindHere_163 : decode cX8_kindHere 163 = .ok (.iadd, 1) := by decide +kernel
theorem dX8_kindHere_164 : decode cX8_kindHere 164 = .ok (.putfield 197, 3) := by decide +kernel
theorem dX8_kindHere_167 : decode cX8_kindHere 167 = .ok (.iload_n 2, 1) := by decide +kernel
theorem dX8_kindHere_168 : decode cX8_kindHere 168 = .ok (.ireturn, 1) := by decide +kernel
theorem dX8_readsTask_0 : decode cX8_readsTask 0 = .ok (.iconst 1, 1) := by decide +kernel
theorem dX8_readsTask_1 : decode cX8_readsTask 1 = .ok (.istore_n 2, 1) := by decide +kernel
theorem dX8_readsTask_2 : decode cX8_readsTask 2 = .ok (.iload_n 2, 1) := by decide +kernel
theorem dX8_readsTask_3 : decode cX8_readsTask 3 = .ok (.iconst 4, 1) := by decide +kernel
theorem dX8_readsTask_4 : decode cX8_readsTask 4 = .ok (.if_icmp .ge 27, 3) := by decide +kernel
theorem dX8_readsTask_7 : decode cX8_readsTask 7 = .ok (.aload_n 0, 1) := by decide +kernel
theorem dX8_readsTask_8 : decode cX8_readsTask 8 = .ok (.getfield 47, 3) := by decide +kernel
theorem dX8_readsTask_11 : decode cX8_readsTask 11 = .ok (.iload_n 1, 1) := by decide +kernel
theorem dX8_readsTask_12 : decode cX8_readsTask 12 = .ok (.iload_n 2, 1) := by decide +kernel
theorem dX8_readsTask_13 : decode cX8_readsTask 13 = .ok (.iadd, 1) := by decide +kernel
theorem dX8_readsTask_14 : decode cX8_readsTask 14 = .ok (.aload_n 0, 1) := by decide +kernel
theorem dX8_readsTask_15 : decode cX8_readsTask 15 = .ok (.invokevirtual 212, 3) := by decide +kernel
theorem dX8_readsTask_18 : decode cX8_readsTask 18 = .ok (.iastore, 1) := by decide +kernel
theorem dX8_readsTask_19 : decode cX8_readsTask 19 = .ok (.aload_n 0, 1) := by decide +kernel
theorem dX8_readsTask_20 : decode cX8_readsTask 20 = .ok (.bipush 32, 2) := by decide +kernel
theorem dX8_readsTask_22 : decode cX8_readsTask 22 = .ok (.invokevirtual 226, 3) := by decide +kernel
theorem dX8_readsTask_25 : decode cX8_readsTask 25 = .ok (.iinc 2 1, 3) := by decide +kernel
theorem dX8_readsTask_28 : decode cX8_readsTask 28 = .ok (.goto (-26), 3) := by decide +kernel
theorem dX8_readsTask_31 : decode cX8_readsTask 31 = .ok (.aload_n 0, 1) := by decide +kernel
theorem dX8_readsTask_32 : decode cX8_readsTask 32 = .ok (.getfield 47, 3) := by decide +kernel
theorem dX8_readsTask_35 : decode cX8_readsTask 35 = .ok (.iload_n 1, 1) := by decide +kernel
theorem dX8_readsTask_36 : decode cX8_readsTask 36 = .ok (.iconst 4, 1) := by decide +kernel
theorem dX8_readsTask_37 : decode cX8_readsTask 37 = .ok (.iadd, 1) := by decide +kernel
theorem dX8_readsTask_38 : decode cX8_readsTask 38 = .ok (.aload_n 0, 1) := by decide +kernel
theorem dX8_readsTask_39 : decode cX8_readsTask 39 = .ok (.invokevirtual 229, 3) := by decide +kernel
theorem dX8_readsTask_42 : decode cX8_readsTask 42 = .ok (.iastore, 1) := by decide +kernel
theorem dX8_readsTask_43 : decode cX8_readsTask 43 = .ok (.return_, 1) := by decide +kernel
theorem dX8_readsCommand_0 : decode cX8_readsCommand 0 = .ok (.iconst 5, 1) := by decide +kernel
theorem dX8_readsCommand_1 : decode cX8_readsCommand 1 = .ok (.aload_n 0, 1) := by decide +kernel
theorem dX8_readsCommand_2 : decode cX8_readsCommand 2 = .ok (.getfield 232, 3) := by decide +kernel
theorem dX8_readsCommand_5 : decode cX8_readsCommand 5 = .ok (.imul, 1) := by decide +kernel
theorem dX8_readsCommand_6 : decode cX8_readsCommand 6 = .ok (.istore_n 1, 1) := by decide +kernel
theorem dX8_readsCommand_7 : decode cX8_readsCommand 7 = .ok (.aload_n 0, 1) := by decide +kernel
theorem dX8_readsCommand_8 : decode cX8_readsCommand 8 = .ok (.invokevirtual 235, 3) := by decide +kernel
theorem dX8_readsCommand_11 : decode cX8_readsCommand 11 = .ok (.istore_n 2, 1) := by decide +kernel
theorem dX8_readsCommand_12 : decode cX8_readsCommand 12 = .ok (.aload_n 0, 1) := by decide +kernel
theorem dX8_readsCommand_13 : decode cX8_readsCommand 13 = .ok (.getfield 47, 3) := by decide +kernel
theorem dX8_readsCommand_16 : decode cX8_readsCommand 16 = .ok (.iload_n 1, 1) := by decide +kernel
theorem dX8_readsCommand_17 : decode cX8_readsCommand 17 = .ok (.iload_n 2, 1) := by decide +kernel
theorem dX8_readsCommand_18 : decode cX8_readsCommand 18 = .ok (.iastore, 1) := by decide +kernel
theorem dX8_readsCommand_19 : decode cX8_readsCommand 19 = .ok (.aload_n 0, 1) := by decide +kernel
theorem dX8_readsCommand_20 : decode cX8_readsCommand 20 = .ok (.dup, 1) := by decide +kernel
theorem dX8_readsCommand_21 : decode cX8_readsCommand 21 = .ok (.getfield 232, 3) := by decide +kernel
theorem dX8_readsCommand_24 : decode cX8_readsCommand 24 = .ok (.iconst 1, 1) := by decide +kernel
theorem dX8_readsCommand_25 : decode cX8_readsCommand 25 = .ok (.iadd, 1) := by decide +kernel
theorem dX8_readsCommand_26 : decode cX8_readsCommand 26 = .ok (.putfield 232, 3) := by decide +kernel
theorem dX8_readsCommand_29 : decode cX8_readsCommand 29 = .ok (.aload_n 0, 1) := by decide +kernel
theorem dX8_readsCommand_30 : decode cX8_readsCommand 30 = .ok (.getfield 203, 3) := by decide +kernel
theorem dX8_readsCommand_33 : decode cX8_readsCommand 33 = .ok (.iconst (-1), 1) := by decide +kernel
theorem dX8_readsCommand_34 : decode cX8_readsCommand 34 = .ok (.if_icmp .ne 9, 3) := by decide +kernel
theorem dX8_readsCommand_37 : decode cX8_readsCommand 37 = .ok (.iload_n 2, 1) := by decide +kernel
theorem dX8_readsCommand_38 : decode cX8_readsCommand 38 = .ok (.bipush 7, 2) := by decide +kernel
theorem dX8_readsCommand_40 : decode cX8_readsCommand 40 = .ok (.if_icmp .ne 4, 3) := by decide +kernel
theorem dX8_readsCommand_43 : decode cX8_readsCommand 43 = .ok (.return_, 1) := by decide +kernel
theorem dX8_readsCommand_44 : decode cX8_readsCommand 44 = .ok (.iload_n 2, 1) := by decide +kernel
theorem dX8_readsCommand_45 : decode cX8_readsCommand 45 = .ok (.ifCond .ne 9, 3) := by decide +kernel
theorem dX8_readsCommand_48 : decode cX8_readsCommand 48 = .ok (.aload_n 0, 1) := by decide +kernel
theorem dX8_readsCommand_49 : decode cX8_readsCommand 49 = .ok (.iload_n 1, 1) := by decide +kernel
theorem dX8_readsCommand_50 : decode cX8_readsCommand 50 = .ok (.invokevirtual 238, 3) := by decide +kernel
theorem dX8_readsCommand_53 : decode cX8_readsCommand 53 = .ok (.return_, 1) := by decide +kernel
theorem dX8_readsCommand_54 : decode cX8_readsCommand 54 = .ok (.aload_n 0, 1) := by decide +kernel
theorem dX8_readsCommand_55 : decode cX8_readsCommand 55 = .ok (.getfield 47, 3) := by decide +kernel
theorem dX8_readsCommand_58 : decode cX8_readsCommand 58 = .ok (.iload_n 1, 1) := by decide +kernel
theorem dX8_readsCommand_59 : decode cX8_readsCommand 59 = .ok (.iconst 1, 1) := by decide +kernel
theorem dX8_readsCommand_60 : decode cX8_readsCommand 60 = .ok (.iadd, 1) := by decide +kernel
theorem dX8_readsCommand_61 : decode cX8_readsCommand 61 = .ok (.iload_n 2, 1) := by decide +kernel
theorem dX8_readsCommand_62 : decode cX8_readsCommand 62 = .ok (.iconst 4, 1) := by decide +kernel
theorem dX8_readsCommand_63 : decode cX8_readsCommand 63 = .ok (.if_icmp .ne 10, 3) := by decide +kernel
theorem dX8_readsCommand_66 : decode cX8_readsCommand 66 = .ok (.aload_n 0, 1) := by decide +kernel
theorem dX8_readsCommand_67 : decode cX8_readsCommand 67 = .ok (.invokevirtual 212, 3) := by decide +kernel
theorem dX8_readsCommand_70 : decode cX8_readsCommand 70 = .ok (.goto 7, 3) := by decide +kernel
theorem dX8_readsCommand_73 : decode cX8_readsCommand 73 = .ok (.aload_n 0, 1) := by decide +kernel
theorem dX8_readsCommand_74 : decode cX8_readsCommand 74 = .ok (.invokevirtual 229, 3) := by decide +kernel
theorem dX8_readsCommand_77 : decode cX8_readsCommand 77 = .ok (.iastore, 1) := by decide +kernel
theorem dX8_readsCommand_78 : decode cX8_readsCommand 78 = .ok (.iload_n 2, 1) := by decide +kernel
theorem dX8_readsCommand_79 : decode cX8_readsCommand 79 = .ok (.iconst 1, 1) := by decide +kernel
theorem dX8_readsCommand_80 : decode cX8_readsCommand 80 = .ok (.if_icmp .le 43, 3) := by decide +kernel
theorem dX8_readsCommand_83 : decode cX8_readsCommand 83 = .ok (.aload_n 0, 1) := by decide +kernel
theorem dX8_readsCommand_84 : decode cX8_readsCommand 84 = .ok (.iload_n 2, 1) := by decide +kernel
theorem dX8_readsCommand_85 : decode cX8_readsCommand 85 = .ok (.iconst 4, 1) := by decide +kernel
theorem dX8_readsCommand_86 : decode cX8_readsCommand 86 = .ok (.if_icmp .ge 8, 3) := by decide +kernel
theorem dX8_readsCommand_89 : decode cX8_readsCommand 89 = .ok (.bipush 62, 2) := by decide +kernel
theorem dX8_readsCommand_91 : decode cX8_readsCommand 91 = .ok (.goto 5, 3) := by decide +kernel
theorem dX8_readsCommand_94 : decode cX8_readsCommand 94 = .ok (.bipush 32, 2) := by decide +kernel
theorem dX8_readsCommand_96 : decode cX8_readsCommand 96 = .ok (.invokevirtual 226, 3) := by decide +kernel
theorem dX8_readsCommand_99 : decode cX8_readsCommand 99 = .ok (.aload_n 0, 1) := by decide +kernel
theorem dX8_readsCommand_100 : decode cX8_readsCommand 100 = .ok (.getfield 47, 3) := by decide +kernel
theorem dX8_readsCommand_103 : decode cX8_readsCommand 103 = .ok (.iload_n 1, 1) := by decide +kernel
theorem dX8_readsCommand_104 : decode cX8_readsCommand 104 = .ok (.iconst 2, 1) := by decide +kernel
theorem dX8_readsCommand_105 : decode cX8_readsCommand 105 = .ok (.iadd, 1) := by decide +kernel
theorem dX8_readsCommand_106 : decode cX8_readsCommand 106 = .ok (.iload_n 2, 1) := by decide +kernel
theorem dX8_readsCommand_107 : decode cX8_readsCommand 107 = .ok (.iconst 5, 1) := by decide +kernel
theorem dX8_readsCommand_108 : decode cX8_readsCommand 108 = .ok (.if_icmp .ne 10, 3) := by decide +kernel
theorem dX8_readsCommand_111 : decode cX8_readsCommand 111 = .ok (.aload_n 0, 1) := by decide +kernel
theorem dX8_readsCommand_112 : decode cX8_readsCommand 112 = .ok (.invokevirtual 212, 3) := by decide +kernel
theorem dX8_readsCommand_115 : decode cX8_readsCommand 115 = .ok (.goto 7, 3) := by decide +kernel
theorem dX8_readsCommand_118 : decode cX8_readsCommand 118 = .ok (.aload_n 0, 1) := by decide +kernel
theorem dX8_readsCommand_119 : decode cX8_readsCommand 119 = .ok (.invokevirtual 229, 3) := by decide +kernel
theorem dX8_readsCommand_122 : decode cX8_readsCommand 122 = .ok (.iastore, 1) := by decide +kernel
theorem dX8_readsCommand_123 : decode cX8_readsCommand 123 = .ok (.return_, 1) := by decide +kernel
theorem dX8_readsAll_0 : decode cX8_readsAll 0 = .ok (.aload_n 0, 1) := by decide +kernel
theorem dX8_readsAll_1 : decode cX8_readsAll 1 = .ok (.aload_n 0, 1) := by decide +kernel
theorem dX8_readsAll_2 : decode cX8_readsAll 2 = .ok (.getfield 194, 3) := by decide +kernel
theorem dX8_readsAll_5 : decode cX8_readsAll 5 = .ok (.putfield 200, 3) := by decide +kernel
theorem dX8_readsAll_8 : decode cX8_readsAll 8 = .ok (.aload_n 0, 1) := by decide +kernel
theorem dX8_readsAll_9 : decode cX8_readsAll 9 = .ok (.iconst 0, 1) := by decide +kernel
theorem dX8_readsAll_10 : decode cX8_readsAll 10 = .ok (.putfield 194, 3) := by decide +kernel
theorem dX8_readsAll_13 : decode cX8_readsAll 13 = .ok (.aload_n 0, 1) := by decide +kernel
theorem dX8_readsAll_14 : decode cX8_readsAll 14 = .ok (.iconst 0, 1) := by decide +kernel
theorem dX8_readsAll_15 : decode cX8_readsAll 15 = .ok (.putfield 197, 3) := by decide +kernel
theorem dX8_readsAll_18 : decode cX8_readsAll 18 = .ok (.aload_n 0, 1) := by decide +kernel
theorem dX8_readsAll_19 : decode cX8_readsAll 19 = .ok (.iconst (-1), 1) := by decide +kernel
theorem dX8_readsAll_20 : decode cX8_readsAll 20 = .ok (.putfield 203, 3) := by decide +kernel
theorem dX8_readsAll_23 : decode cX8_readsAll 23 = .ok (.aload_n 0, 1) := by decide +kernel
theorem dX8_readsAll_24 : decode cX8_readsAll 24 = .ok (.iconst 0, 1) := by decide +kernel
theorem dX8_readsAll_25 : decode cX8_readsAll 25 = .ok (.putfield 232, 3) := by decide +kernel
theorem dX8_readsAll_28 : decode cX8_readsAll 28 = .ok (.aload_n 0, 1) := by decide +kernel
theorem dX8_readsAll_29 : decode cX8_readsAll 29 = .ok (.invokevirtual 241, 3) := by decide +kernel
theorem dX8_readsAll_32 : decode cX8_readsAll 32 = .ok (.aload_n 0, 1) := by decide +kernel
theorem dX8_readsAll_33 : decode cX8_readsAll 33 = .ok (.getfield 203, 3) := by decide +kernel
theorem dX8_readsAll_36 : decode cX8_readsAll 36 = .ok (.iconst (-1), 1) := by decide +kernel
theorem dX8_readsAll_37 : decode cX8_readsAll 37 = .ok (.if_icmp .ne 35, 3) := by decide +kernel
theorem dX8_readsAll_40 : decode cX8_readsAll 40 = .ok (.aload_n 0, 1) := by decide +kernel
theorem dX8_readsAll_41 : decode cX8_readsAll 41 = .ok (.getfield 197, 3) := by decide +kernel
theorem dX8_readsAll_44 : decode cX8_readsAll 44 = .ok (.aload_n 0, 1) := by decide +kernel
theorem dX8_readsAll_45 : decode cX8_readsAll 45 = .ok (.getfield 200, 3) := by decide +kernel
theorem dX8_readsAll_48 : decode cX8_readsAll 48 = .ok (.if_icmp .ge 24, 3) := by decide +kernel
theorem dX8_readsAll_51 : decode cX8_readsAll 51 = .ok (.aload_n 0, 1) := by decide +kernel
theorem dX8_readsAll_52 : decode cX8_readsAll 52 = .ok (.bipush 59, 2) := by decide +kernel
theorem dX8_readsAll_54 : decode cX8_readsAll 54 = .ok (.invokevirtual 226, 3) := by decide +kernel
theorem dX8_readsAll_57 : decode cX8_readsAll 57 = .ok (.aload_n 0, 1) := by decide +kernel
theorem dX8_readsAll_58 : decode cX8_readsAll 58 = .ok (.getfield 203, 3) := by decide +kernel
theorem dX8_readsAll_61 : decode cX8_readsAll 61 = .ok (.iconst (-1), 1) := by decide +kernel
theorem dX8_readsAll_62 : decode cX8_readsAll 62 = .ok (.if_icmp .ne (-30), 3) := by decide +kernel
theorem dX8_readsAll_65 : decode cX8_readsAll 65 = .ok (.aload_n 0, 1) := by decide +kernel
theorem dX8_readsAll_66 : decode cX8_readsAll 66 = .ok (.invokevirtual 241, 3) := by decide +kernel
theorem dX8_readsAll_69 : decode cX8_readsAll 69 = .ok (.goto (-37), 3) := by decide +kernel
theorem dX8_readsAll_72 : decode cX8_readsAll 72 = .ok (.return_, 1) := by decide +kernel
theorem dX8_does_0 : decode cX8_does 0 = .ok (.aload_n 0, 1) := by decide +kernel
theorem dX8_does_1 : decode cX8_does 1 = .ok (.getfield 47, 3) := by decide +kernel
theorem dX8_does_4 : decode cX8_does 4 = .ok (.iload_n 1, 1) := by decide +kernel
theorem dX8_does_5 : decode cX8_does 5 = .ok (.iconst 1, 1) := by decide +kernel
theorem dX8_does_6 : decode cX8_does 6 = .ok (.iadd, 1) := by decide +kernel
theorem dX8_does_7 : decode cX8_does 7 = .ok (.iaload, 1) := by decide +kernel
theorem dX8_does_8 : decode cX8_does 8 = .ok (.istore_n 2, 1) := by decide +kernel
theorem dX8_does_9 : decode cX8_does 9 = .ok (.aload_n 0, 1) := by decide +kernel
theorem dX8_does_10 : decode cX8_does 10 = .ok (.getfield 47, 3) := by decide +kernel
theorem dX8_does_13 : decode cX8_does 13 = .ok (.iload_n 1, 1) := by decide +kernel
theorem dX8_does_14 : decode cX8_does 14 = .ok (.iconst 2, 1) := by decide +kernel
theorem dX8_does_15 : decode cX8_does 15 = .ok (.iadd, 1) := by decide +kernel
theorem dX8_does_16 : decode cX8_does 16 = .ok (.iaload, 1) := by decide +kernel
theorem dX8_does_17 : decode cX8_does 17 = .ok (.istore_n 3, 1) := by decide +kernel
theorem dX8_does_18 : decode cX8_does 18 = .ok (.aload_n 0, 1) := by decide +kernel
theorem dX8_does_19 : decode cX8_does 19 = .ok (.getfield 47, 3) := by decide +kernel
theorem dX8_does_22 : decode cX8_does 22 = .ok (.iload_n 1, 1) := by decide +kernel
theorem dX8_does_23 : decode cX8_does 23 = .ok (.iaload, 1) := by decide +kernel
theorem dX8_does_24 : decode cX8_does 24 = .ok (.tableswitch 116 0 6 #[44, 67, 73, 80, 87, 94, 105], 44) := by decide +kernel
theorem dX8_does_68 : decode cX8_does 68 = .ok (.aload_n 0, 1) := by decide +kernel
theorem dX8_does_69 : decode cX8_does 69 = .ok (.iload_n 2, 1) := by decide +kernel
theorem dX8_does_70 : decode cX8_does 70 = .ok (.iload_n 3, 1) := by decide +kernel
theorem dX8_does_71 : decode cX8_does 71 = .ok (.aload_n 0, 1) := by decide +kernel
theorem dX8_does_72 : decode cX8_does 72 = .ok (.getfield 47, 3) := by decide +kernel
theorem dX8_does_75 : decode cX8_does 75 = .ok (.iload_n 1, 1) := by decide +kernel
theorem dX8_does_76 : decode cX8_does 76 = .ok (.iconst 3, 1) := by decide +kernel
theorem dX8_does_77 : decode cX8_does 77 = .ok (.iadd, 1) := by decide +kernel
theorem dX8_does_78 : decode cX8_does 78 = .ok (.iaload, 1) := by decide +kernel
theorem dX8_does_79 : decode cX8_does 79 = .ok (.aload_n 0, 1) := by decide +kernel
theorem dX8_does_80 : decode cX8_does 80 = .ok (.getfield 47, 3) := by decide +kernel
theorem dX8_does_83 : decode cX8_does 83 = .ok (.iload_n 1, 1) := by decide +kernel
theorem dX8_does_84 : decode cX8_does 84 = .ok (.iconst 4, 1) := by decide +kernel
theorem dX8_does_85 : decode cX8_does 85 = .ok (.iadd, 1) := by decide +kernel
theorem dX8_does_86 : decode cX8_does 86 = .ok (.iaload, 1) := by decide +kernel
theorem dX8_does_87 : decode cX8_does 87 = .ok (.invokevirtual 100, 3) := by decide +kernel
theorem dX8_does_90 : decode cX8_does 90 = .ok (.ireturn, 1) := by decide +kernel
theorem dX8_does_91 : decode cX8_does 91 = .ok (.aload_n 0, 1) := by decide +kernel
theorem dX8_does_92 : decode cX8_does 92 = .ok (.iload_n 2, 1) := by decide +kernel
theorem dX8_does_93 : decode cX8_does 93 = .ok (.invokevirtual 107, 3) := by decide +kernel
theorem dX8_does_96 : decode cX8_does 96 = .ok (.ireturn, 1) := by decide +kernel
theorem dX8_does_97 : decode cX8_does 97 = .ok (.aload_n 0, 1) := by decide +kernel
theorem dX8_does_98 : decode cX8_does 98 = .ok (.iload_n 2, 1) := by decide +kernel
theorem dX8_does_99 : decode cX8_does 99 = .ok (.iload_n 3, 1) := by decide +kernel
theorem dX8_does_100 : decode cX8_does 100 = .ok (.invokevirtual 117, 3) := by decide +kernel
theorem dX8_does_103 : decode cX8_does 103 = .ok (.ireturn, 1) := by decide +kernel
theorem dX8_does_104 : decode cX8_does 104 = .ok (.aload_n 0, 1) := by decide +kernel
theorem dX8_does_105 : decode cX8_does 105 = .ok (.iload_n 2, 1) := by decide +kernel
theorem dX8_does_106 : decode cX8_does 106 = .ok (.iload_n 3, 1) := by decide +kernel
theorem dX8_does_107 : decode cX8_does 107 = .ok (.invokevirtual 120, 3) := by decide +kernel
theorem dX8_does_110 : decode cX8_does 110 = .ok (.ireturn, 1) := by decide +kernel
theorem dX8_does_111 : decode cX8_does 111 = .ok (.aload_n 0, 1) := by decide +kernel
theorem dX8_does_112 : decode cX8_does 112 = .ok (.iload_n 2, 1) := by decide +kernel
theorem dX8_does_113 : decode cX8_does 113 = .ok (.iload_n 3, 1) := by decide +kernel
theorem dX8_does_114 : decode cX8_does 114 = .ok (.invokevirtual 127, 3) := by decide +kernel
theorem dX8_does_117 : decode cX8_does 117 = .ok (.ireturn, 1) := by decide +kernel
theorem dX8_does_118 : decode cX8_does 118 = .ok (.aload_n 0, 1) := by decide +kernel
theorem dX8_does_119 : decode cX8_does 119 = .ok (.iload_n 2, 1) := by decide +kernel
theorem dX8_does_120 : decode cX8_does 120 = .ok (.iconst 0, 1) := by decide +kernel
theorem dX8_does_121 : decode cX8_does 121 = .ok (.iload_n 3, 1) := by decide +kernel
theorem dX8_does_122 : decode cX8_does 122 = .ok (.iconst 1, 1) := by decide +kernel
theorem dX8_does_123 : decode cX8_does 123 = .ok (.bipush 9, 2) := by decide +kernel
theorem dX8_does_125 : decode cX8_does 125 = .ok (.invokevirtual 123, 3) := by decide +kernel
theorem dX8_does_128 : decode cX8_does 128 = .ok (.ireturn, 1) := by decide +kernel
theorem dX8_does_129 : decode cX8_does 129 = .ok (.aload_n 0, 1) := by decide +kernel
theorem dX8_does_130 : decode cX8_does 130 = .ok (.iload_n 2, 1) := by decide +kernel
theorem dX8_does_131 : decode cX8_does 131 = .ok (.iconst 3, 1) := by decide +kernel
theorem dX8_does_132 : decode cX8_does 132 = .ok (.iload_n 3, 1) := by decide +kernel
theorem dX8_does_133 : decode cX8_does 133 = .ok (.iconst 0, 1) := by decide +kernel
theorem dX8_does_134 : decode cX8_does 134 = .ok (.bipush 30, 2) := by decide +kernel
theorem dX8_does_136 : decode cX8_does 136 = .ok (.invokevirtual 123, 3) := by decide +kernel
theorem dX8_does_139 : decode cX8_does 139 = .ok (.ireturn, 1) := by decide +kernel
theorem dX8_does_140 : decode cX8_does 140 = .ok (.aload_n 0, 1) := by decide +kernel
theorem dX8_does_141 : decode cX8_does 141 = .ok (.invokevirtual 137, 3) := by decide +kernel
theorem dX8_does_144 : decode cX8_does 144 = .ok (.ireturn, 1) := by decide +kernel
theorem dX8_letterFor_0 : decode cX8_letterFor 0 = .ok (.iload_n 1, 1) := by decide +kernel
theorem dX8_letterFor_1 : decode cX8_letterFor 1 = .ok (.ifCond .ne 19, 3) := by decide +kernel
theorem dX8_letterFor_4 : decode cX8_letterFor 4 = .ok (.aload_n 0, 1) := by decide +kernel
theorem dX8_letterFor_5 : decode cX8_letterFor 5 = .ok (.getfield 50, 3) := by decide +kernel
theorem dX8_letterFor_8 : decode cX8_letterFor 8 = .ok (.iconst 1, 1) := by decide +kernel
theorem dX8_letterFor_9 : decode cX8_letterFor 9 = .ok (.if_icmp .ne 8, 3) := by decide +kernel
theorem dX8_letterFor_12 : decode cX8_letterFor 12 = .ok (.bipush 97, 2) := by decide +kernel
theorem dX8_letterFor_14 : decode cX8_letterFor 14 = .ok (.goto 5, 3) := by decide +kernel
theorem dX8_letterFor_17 : decode cX8_letterFor 17 = .ok (.bipush 115, 2) := by decide +kernel
theorem dX8_letterFor_19 : decode cX8_letterFor 19 = .ok (.ireturn, 1) := by decide +kernel
theorem dX8_letterFor_20 : decode cX8_letterFor 20 = .ok (.iload_n 1, 1) := by decide +kernel
theorem dX8_letterFor_21 : decode cX8_letterFor 21 = .ok (.iconst 4, 1) := by decide +kernel
theorem dX8_letterFor_22 : decode cX8_letterFor 22 = .ok (.if_icmp .ne 6, 3) := by decide +kernel
theorem dX8_letterFor_25 : decode cX8_letterFor 25 = .ok (.bipush 97, 2) := by decide +kernel
theorem dX8_letterFor_27 : decode cX8_letterFor 27 = .ok (.ireturn, 1) := by decide +kernel
theorem dX8_letterFor_28 : decode cX8_letterFor 28 = .ok (.aload_n 0, 1) := by decide +kernel
theorem dX8_letterFor_29 : decode cX8_letterFor 29 = .ok (.getfield 50, 3) := by decide +kernel
theorem dX8_letterFor_32 : decode cX8_letterFor 32 = .ok (.iconst 1, 1) := by decide +kernel
theorem dX8_letterFor_33 : decode cX8_letterFor 33 = .ok (.if_icmp .ne 8, 3) := by decide +kernel
theorem dX8_letterFor_36 : decode cX8_letterFor 36 = .ok (.bipush 105, 2) := by decide +kernel
theorem dX8_letterFor_38 : decode cX8_letterFor 38 = .ok (.goto 18, 3) := by decide +kernel
theorem dX8_letterFor_41 : decode cX8_letterFor 41 = .ok (.aload_n 0, 1) := by decide +kernel
theorem dX8_letterFor_42 : decode cX8_letterFor 42 = .ok (.getfield 50, 3) := by decide +kernel
theorem dX8_letterFor_45 : decode cX8_letterFor 45 = .ok (.iconst 2, 1) := by decide +kernel
theorem dX8_letterFor_46 : decode cX8_letterFor 46 = .ok (.if_icmp .ne 8, 3) := by decide +kernel
theorem dX8_letterFor_49 : decode cX8_letterFor 49 = .ok (.bipush 97, 2) := by decide +kernel
theorem dX8_letterFor_51 : decode cX8_letterFor 51 = .ok (.goto 5, 3) := by decide +kernel
theorem dX8_letterFor_54 : decode cX8_letterFor 54 = .ok (.bipush 117, 2) := by decide +kernel
theorem dX8_letterFor_56 : decode cX8_letterFor 56 = .ok (.ireturn, 1) := by decide +kernel
theorem dX8_runScript_0 : decode cX8_runScript 0 = .ok (.aload_n 0, 1) := by decide +kernel
theorem dX8_runScript_1 : decode cX8_runScript 1 = .ok (.invokevirtual 244, 3) := by decide +kernel
theorem dX8_runScript_4 : decode cX8_runScript 4 = .ok (.aload_n 0, 1) := by decide +kernel
theorem dX8_runScript_5 : decode cX8_runScript 5 = .ok (.getfield 203, 3) := by decide +kernel
theorem dX8_runScript_8 : decode cX8_runScript 8 = .ok (.iconst (-1), 1) := by decide +kernel
theorem dX8_runScript_9 : decode cX8_runScript 9 = .ok (.if_icmp .eq 18, 3) := by decide +kernel
theorem dX8_runScript_12 : decode cX8_runScript 12 = .ok (.aload_n 0, 1) := by decide +kernel
theorem dX8_runScript_13 : decode cX8_runScript 13 = .ok (.aload_n 0, 1) := by decide +kernel
theorem dX8_runScript_14 : decode cX8_runScript 14 = .ok (.getfield 203, 3) := by decide +kernel
theorem dX8_runScript_17 : decode cX8_runScript 17 = .ok (.putfield 22, 3) := by decide +kernel
theorem dX8_runScript_20 : decode cX8_runScript 20 = .ok (.aload_n 0, 1) := by decide +kernel
theorem dX8_runScript_21 : decode cX8_runScript 21 = .ok (.iconst 1, 1) := by decide +kernel
theorem dX8_runScript_22 : decode cX8_runScript 22 = .ok (.putfield 50, 3) := by decide +kernel
theorem dX8_runScript_25 : decode cX8_runScript 25 = .ok (.iconst 0, 1) := by decide +kernel
theorem dX8_runScript_26 : decode cX8_runScript 26 = .ok (.ireturn, 1) := by decide +kernel
theorem dX8_runScript_27 : decode cX8_runScript 27 = .ok (.aload_n 0, 1) := by decide +kernel
theorem dX8_runScript_28 : decode cX8_runScript 28 = .ok (.invokevirtual 97, 3) := by decide +kernel
theorem dX8_runScript_31 : decode cX8_runScript 31 = .ok (.aload_n 0, 1) := by decide +kernel
theorem dX8_runScript_32 : decode cX8_runScript 32 = .ok (.iconst 0, 1) := by decide +kernel
theorem dX8_runScript_33 : decode cX8_runScript 33 = .ok (.putfield 50, 3) := by decide +kernel
theorem dX8_runScript_36 : decode cX8_runScript 36 = .ok (.iconst 0, 1) := by decide +kernel
theorem dX8_runScript_37 : decode cX8_runScript 37 = .ok (.istore_n 1, 1) := by decide +kernel
theorem dX8_runScript_38 : decode cX8_runScript 38 = .ok (.iload_n 1, 1) := by decide +kernel
theorem dX8_runScript_39 : decode cX8_runScript 39 = .ok (.aload_n 0, 1) := by decide +kernel
theorem dX8_runScript_40 : decode cX8_runScript 40 = .ok (.getfield 232, 3) := by decide +kernel
theorem dX8_runScript_43 : decode cX8_runScript 43 = .ok (.if_icmp .ge 65, 3) := by decide +kernel
theorem dX8_runScript_46 : decode cX8_runScript 46 = .ok (.aload_n 0, 1) := by decide +kernel
theorem dX8_runScript_47 : decode cX8_runScript 47 = .ok (.iconst 5, 1) := by decide +kernel
theorem dX8_runScript_48 : decode cX8_runScript 48 = .ok (.iload_n 1, 1) := by decide +kernel
theorem dX8_runScript_49 : decode cX8_runScript 49 = .ok (.imul, 1) := by decide +kernel
theorem dX8_runScript_50 : decode cX8_runScript 50 = .ok (.invokevirtual 247, 3) := by decide +kernel
theorem dX8_runScript_53 : decode cX8_runScript 53 = .ok (.istore_n 2, 1) := by decide +kernel
theorem dX8_runScript_54 : decode cX8_runScript 54 = .ok (.aload_n 0, 1) := by decide +kernel
theorem dX8_runScript_55 : decode cX8_runScript 55 = .ok (.getfield 50, 3) := by decide +kernel
theorem dX8_runScript_58 : decode cX8_runScript 58 = .ok (.ifCond .eq 44, 3) := by decide +kernel
theorem dX8_runScript_61 : decode cX8_runScript 61 = .ok (.aload_n 0, 1) := by decide +kernel
theorem dX8_runScript_62 : decode cX8_runScript 62 = .ok (.iload_n 1, 1) := by decide +kernel
theorem dX8_runScript_63 : decode cX8_runScript 63 = .ok (.putfield 26, 3) := by decide +kernel
theorem dX8_runScript_66 : decode cX8_runScript 66 = .ok (.aload_n 0, 1) := by decide +kernel
theorem dX8_runScript_67 : decode cX8_runScript 67 = .ok (.aload_n 0, 1) := by decide +kernel
theorem dX8_runScript_68 : decode cX8_runScript 68 = .ok (.aload_n 0, 1) := by decide +kernel
theorem dX8_runScript_69 : decode cX8_runScript 69 = .ok (.getfield 47, 3) := by decide +kernel
theorem dX8_runScript_72 : decode cX8_runScript 72 = .ok (.iconst 5, 1) := by decide +kernel
theorem dX8_runScript_73 : decode cX8_runScript 73 = .ok (.iload_n 1, 1) := by decide +kernel
theorem dX8_runScript_74 : decode cX8_runScript 74 = .ok (.imul, 1) := by decide +kernel
theorem dX8_runScript_75 : decode cX8_runScript 75 = .ok (.iaload, 1) := by decide +kernel
theorem dX8_runScript_76 : decode cX8_runScript 76 = .ok (.invokevirtual 250, 3) := by decide +kernel
theorem dX8_runScript_79 : decode cX8_runScript 79 = .ok (.putfield 253, 3) := by decide +kernel
theorem dX8_runScript_82 : decode cX8_runScript 82 = .ok (.aload_n 0, 1) := by decide +kernel
theorem dX8_runScript_83 : decode cX8_runScript 83 = .ok (.iconst 2, 1) := by decide +kernel
theorem dX8_runScript_84 : decode cX8_runScript 84 = .ok (.putfield 50, 3) := by decide +kernel
theorem dX8_runScript_87 : decode cX8_runScript 87 = .ok (.aload_n 0, 1) := by decide +kernel
theorem dX8_runScript_88 : decode cX8_runScript 88 = .ok (.getfield 13, 3) := by decide +kernel
theorem dX8_runScript_91 : decode cX8_runScript 91 = .ok (.iconst 0, 1) := by decide +kernel
theorem dX8_runScript_92 : decode cX8_runScript 92 = .ok (.aload_n 0, 1) := by decide +kernel
theorem dX8_runScript_93 : decode cX8_runScript 93 = .ok (.getfield 9, 3) := by decide +kernel
theorem dX8_runScript_96 : decode cX8_runScript 96 = .ok (.iconst 0, 1) := by decide +kernel
theorem dX8_runScript_97 : decode cX8_runScript 97 = .ok (.invokestatic 57, 3) := by decide +kernel
theorem dX8_runScript_100 : decode cX8_runScript 100 = .ok (.iconst 0, 1) := by decide +kernel
theorem dX8_runScript_101 : decode cX8_runScript 101 = .ok (.ireturn, 1) := by decide +kernel
theorem dX8_runScript_102 : decode cX8_runScript 102 = .ok (.iinc 1 1, 3) := by decide +kernel
theorem dX8_runScript_105 : decode cX8_runScript 105 = .ok (.goto (-67), 3) := by decide +kernel
theorem dX8_runScript_108 : decode cX8_runScript 108 = .ok (.aload_n 0, 1) := by decide +kernel
theorem dX8_runScript_109 : decode cX8_runScript 109 = .ok (.aload_n 0, 1) := by decide +kernel
theorem dX8_runScript_110 : decode cX8_runScript 110 = .ok (.getfield 232, 3) := by decide +kernel
theorem dX8_runScript_113 : decode cX8_runScript 113 = .ok (.invokevirtual 104, 3) := by decide +kernel
theorem dX8_runScript_116 : decode cX8_runScript 116 = .ok (.ireturn, 1) := by decide +kernel
theorem dX8_errorPosition_0 : decode cX8_errorPosition 0 = .ok (.aload_n 0, 1) := by decide +kernel
theorem dX8_errorPosition_1 : decode cX8_errorPosition 1 = .ok (.aload_n 0, 1) := by decide +kernel
theorem dX8_errorPosition_2 : decode cX8_errorPosition 2 = .ok (.getfield 22, 3) := by decide +kernel
theorem dX8_errorPosition_5 : decode cX8_errorPosition 5 = .ok (.iconst (-1), 1) := by decide +kernel
theorem dX8_errorPosition_6 : decode cX8_errorPosition 6 = .ok (.if_icmp .eq 7, 3) := by decide +kernel
theorem dX8_errorPosition_9 : decode cX8_errorPosition 9 = .ok (.iconst 1, 1) := by decide +kernel
theorem dX8_errorPosition_10 : decode cX8_errorPosition 10 = .ok (.goto 4, 3) := by decide +kernel
theorem dX8_errorPosition_13 : decode cX8_errorPosition 13 = .ok (.iconst 0, 1) := by decide +kernel
theorem dX8_errorPosition_14 : decode cX8_errorPosition 14 = .ok (.invokevirtual 67, 3) := by decide +kernel
theorem dX8_errorPosition_17 : decode cX8_errorPosition 17 = .ok (.ifCond .eq 10, 3) := by decide +kernel
theorem dX8_errorPosition_20 : decode cX8_errorPosition 20 = .ok (.aload_n 0, 1) := by decide +kernel
theorem dX8_errorPosition_21 : decode cX8_errorPosition 21 = .ok (.getfield 22, 3) := by decide +kernel
theorem dX8_errorPosition_24 : decode cX8_errorPosition 24 = .ok (.goto 4, 3) := by decide +kernel
theorem dX8_errorPosition_27 : decode cX8_errorPosition 27 = .ok (.iconst 0, 1) := by decide +kernel
theorem dX8_errorPosition_28 : decode cX8_errorPosition 28 = .ok (.ireturn, 1) := by decide +kernel
theorem dX8_failedCommand_0 : decode cX8_failedCommand 0 = .ok (.aload_n 0, 1) := by decide +kernel
theorem dX8_failedCommand_1 : decode cX8_failedCommand 1 = .ok (.aload_n 0, 1) := by decide +kernel
theorem dX8_failedCommand_2 : decode cX8_failedCommand 2 = .ok (.getfield 26, 3) := by decide +kernel
theorem dX8_failedCommand_5 : decode cX8_failedCommand 5 = .ok (.iconst (-1), 1) := by decide +kernel
theorem dX8_failedCommand_6 : decode cX8_failedCommand 6 = .ok (.if_icmp .eq 7, 3) := by decide +kernel
theorem dX8_failedCommand_9 : decode cX8_failedCommand 9 = .ok (.iconst 1, 1) := by decide +kernel
theorem dX8_failedCommand_10 : decode cX8_failedCommand 10 = .ok (.goto 4, 3) := by decide +kernel
theorem dX8_failedCommand_13 : decode cX8_failedCommand 13 = .ok (.iconst 0, 1) := by decide +kernel
theorem dX8_failedCommand_14 : decode cX8_failedCommand 14 = .ok (.invokevirtual 67, 3) := by decide +kernel
theorem dX8_failedCommand_17 : decode cX8_failedCommand 17 = .ok (.ifCond .eq 10, 3) := by decide +kernel
theorem dX8_failedCommand_20 : decode cX8_failedCommand 20 = .ok (.aload_n 0, 1) := by decide +kernel
theorem dX8_failedCommand_21 : decode cX8_failedCommand 21 = .ok (.getfield 26, 3) := by decide +kernel
theorem dX8_failedCommand_24 : decode cX8_failedCommand 24 = .ok (.goto 4, 3) := by decide +kernel
theorem dX8_failedCommand_27 : decode cX8_failedCommand 27 = .ok (.iconst 0, 1) := by decide +kernel
theorem dX8_failedCommand_28 : decode cX8_failedCommand 28 = .ok (.ireturn, 1) := by decide +kernel
theorem dX8_failureReason_0 : decode cX8_failureReason 0 = .ok (.aload_n 0, 1) := by decide +kernel
theorem dX8_failureReason_1 : decode cX8_failureReason 1 = .ok (.aload_n 0, 1) := by decide +kernel
theorem dX8_failureReason_2 : decode cX8_failureReason 2 = .ok (.getfield 26, 3) := by decide +kernel
theorem dX8_failureReason_5 : decode cX8_failureReason 5 = .ok (.iconst (-1), 1) := by decide +kernel
theorem dX8_failureReason_6 : decode cX8_failureReason 6 = .ok (.if_icmp .eq 7, 3) := by decide +kernel
theorem dX8_failureReason_9 : decode cX8_failureReason 9 = .ok (.iconst 1, 1) := by decide +kernel
theorem dX8_failureReason_10 : decode cX8_failureReason 10 = .ok (.goto 4, 3) := by decide +kernel
theorem dX8_failureReason_13 : decode cX8_failureReason 13 = .ok (.iconst 0, 1) := by decide +kernel
theorem dX8_failureReason_14 : decode cX8_failureReason 14 = .ok (.invokevirtual 67, 3) := by decide +kernel
theorem dX8_failureReason_17 : decode cX8_failureReason 17 = .ok (.ifCond .eq 11, 3) := by decide +kernel
theorem dX8_failureReason_20 : decode cX8_failureReason 20 = .ok (.aload_n 0, 1) := by decide +kernel
theorem dX8_failureReason_21 : decode cX8_failureReason 21 = .ok (.getfield 253, 3) := by decide +kernel
theorem dX8_failureReason_24 : decode cX8_failureReason 24 = .ok (.i2c, 1) := by decide +kernel
theorem dX8_failureReason_25 : decode cX8_failureReason 25 = .ok (.goto 4, 3) := by decide +kernel
theorem dX8_failureReason_28 : decode cX8_failureReason 28 = .ok (.iconst 0, 1) := by decide +kernel
theorem dX8_failureReason_29 : decode cX8_failureReason 29 = .ok (.ireturn, 1) := by decide +kernel
