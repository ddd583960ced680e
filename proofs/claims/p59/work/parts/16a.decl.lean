/-! decode rows of the law, a -/
theorem dL_cell_0 : decode cL_cell 0 = .ok (.ldc 7, 2) := by decide +kernel
theorem dL_cell_2 : decode cL_cell 2 = .ok (.iload_n 1, 1) := by decide +kernel
theorem dL_cell_3 : decode cL_cell 3 = .ok (.aload_n 0, 1) := by decide +kernel
theorem dL_cell_4 : decode cL_cell 4 = .ok (.arraylength, 1) := by decide +kernel
theorem dL_cell_5 : decode cL_cell 5 = .ok (.if_icmp .ge 9, 3) := by decide +kernel
theorem dL_cell_8 : decode cL_cell 8 = .ok (.aload_n 0, 1) := by decide +kernel
theorem dL_cell_9 : decode cL_cell 9 = .ok (.iload_n 1, 1) := by decide +kernel
theorem dL_cell_10 : decode cL_cell 10 = .ok (.iaload, 1) := by decide +kernel
theorem dL_cell_11 : decode cL_cell 11 = .ok (.goto 4, 3) := by decide +kernel
theorem dL_cell_14 : decode cL_cell 14 = .ok (.iconst 0, 1) := by decide +kernel
theorem dL_cell_15 : decode cL_cell 15 = .ok (.sipush 1009, 3) := by decide +kernel
theorem dL_cell_18 : decode cL_cell 18 = .ok (.iload_n 1, 1) := by decide +kernel
theorem dL_cell_19 : decode cL_cell 19 = .ok (.imul, 1) := by decide +kernel
theorem dL_cell_20 : decode cL_cell 20 = .ok (.iadd, 1) := by decide +kernel
theorem dL_cell_21 : decode cL_cell 21 = .ok (.imul, 1) := by decide +kernel
theorem dL_cell_22 : decode cL_cell 22 = .ok (.sipush 12345, 3) := by decide +kernel
theorem dL_cell_25 : decode cL_cell 25 = .ok (.iadd, 1) := by decide +kernel
theorem dL_cell_26 : decode cL_cell 26 = .ok (.istore_n 2, 1) := by decide +kernel
theorem dL_cell_27 : decode cL_cell 27 = .ok (.iload_n 2, 1) := by decide +kernel
theorem dL_cell_28 : decode cL_cell 28 = .ok (.iload_n 2, 1) := by decide +kernel
theorem dL_cell_29 : decode cL_cell 29 = .ok (.bipush 13, 2) := by decide +kernel
theorem dL_cell_31 : decode cL_cell 31 = .ok (.iushr, 1) := by decide +kernel
theorem dL_cell_32 : decode cL_cell 32 = .ok (.ixor, 1) := by decide +kernel
theorem dL_cell_33 : decode cL_cell 33 = .ok (.ldc 8, 2) := by decide +kernel
theorem dL_cell_35 : decode cL_cell 35 = .ok (.imul, 1) := by decide +kernel
theorem dL_cell_36 : decode cL_cell 36 = .ok (.istore_n 2, 1) := by decide +kernel
theorem dL_cell_37 : decode cL_cell 37 = .ok (.iload_n 2, 1) := by decide +kernel
theorem dL_cell_38 : decode cL_cell 38 = .ok (.iload_n 2, 1) := by decide +kernel
theorem dL_cell_39 : decode cL_cell 39 = .ok (.bipush 16, 2) := by decide +kernel
theorem dL_cell_41 : decode cL_cell 41 = .ok (.iushr, 1) := by decide +kernel
theorem dL_cell_42 : decode cL_cell 42 = .ok (.ixor, 1) := by decide +kernel
theorem dL_cell_43 : decode cL_cell 43 = .ok (.ireturn, 1) := by decide +kernel
theorem dL_pick_0 : decode cL_pick 0 = .ok (.aload_n 0, 1) := by decide +kernel
theorem dL_pick_1 : decode cL_pick 1 = .ok (.iload_n 1, 1) := by decide +kernel
theorem dL_pick_2 : decode cL_pick 2 = .ok (.invokestatic 9, 3) := by decide +kernel
theorem dL_pick_5 : decode cL_pick 5 = .ok (.bipush 8, 2) := by decide +kernel
theorem dL_pick_7 : decode cL_pick 7 = .ok (.iushr, 1) := by decide +kernel
theorem dL_pick_8 : decode cL_pick 8 = .ok (.iload_n 2, 1) := by decide +kernel
theorem dL_pick_9 : decode cL_pick 9 = .ok (.irem, 1) := by decide +kernel
theorem dL_pick_10 : decode cL_pick 10 = .ok (.ireturn, 1) := by decide +kernel
theorem dL_told_0 : decode cL_told 0 = .ok (.iload_n 0, 1) := by decide +kernel
theorem dL_told_1 : decode cL_told 1 = .ok (.ifCond .eq 7, 3) := by decide +kernel
theorem dL_told_4 : decode cL_told 4 = .ok (.iconst 1, 1) := by decide +kernel
theorem dL_told_5 : decode cL_told 5 = .ok (.goto 4, 3) := by decide +kernel
theorem dL_told_8 : decode cL_told 8 = .ok (.iconst 0, 1) := by decide +kernel
theorem dL_told_9 : decode cL_told 9 = .ok (.ireturn, 1) := by decide +kernel
theorem dL_plain_0 : decode cL_plain 0 = .ok (.iload_n 1, 1) := by decide +kernel
theorem dL_plain_1 : decode cL_plain 1 = .ok (.tableswitch 110 0 7 #[47, 58, 64, 74, 84, 91, 98, 105], 47) := by decide +kernel
theorem dL_plain_48 : decode cL_plain 48 = .ok (.aload_n 0, 1) := by decide +kernel
theorem dL_plain_49 : decode cL_plain 49 = .ok (.iload_n 2, 1) := by decide +kernel
theorem dL_plain_50 : decode cL_plain 50 = .ok (.iload_n 3, 1) := by decide +kernel
theorem dL_plain_51 : decode cL_plain 51 = .ok (.iload 4, 2) := by decide +kernel
theorem dL_plain_53 : decode cL_plain 53 = .ok (.iload 5, 2) := by decide +kernel
theorem dL_plain_55 : decode cL_plain 55 = .ok (.invokevirtual 15, 3) := by decide +kernel
theorem dL_plain_58 : decode cL_plain 58 = .ok (.ireturn, 1) := by decide +kernel
theorem dL_plain_59 : decode cL_plain 59 = .ok (.aload_n 0, 1) := by decide +kernel
theorem dL_plain_60 : decode cL_plain 60 = .ok (.iload_n 2, 1) := by decide +kernel
theorem dL_plain_61 : decode cL_plain 61 = .ok (.invokevirtual 21, 3) := by decide +kernel
theorem dL_plain_64 : decode cL_plain 64 = .ok (.ireturn, 1) := by decide +kernel
theorem dL_plain_65 : decode cL_plain 65 = .ok (.aload_n 0, 1) := by decide +kernel
theorem dL_plain_66 : decode cL_plain 66 = .ok (.iload_n 2, 1) := by decide +kernel
theorem dL_plain_67 : decode cL_plain 67 = .ok (.iload_n 3, 1) := by decide +kernel
theorem dL_plain_68 : decode cL_plain 68 = .ok (.invokevirtual 25, 3) := by decide +kernel
theorem dL_plain_71 : decode cL_plain 71 = .ok (.invokestatic 29, 3) := by decide +kernel
theorem dL_plain_74 : decode cL_plain 74 = .ok (.ireturn, 1) := by decide +kernel
theorem dL_plain_75 : decode cL_plain 75 = .ok (.aload_n 0, 1) := by decide +kernel
theorem dL_plain_76 : decode cL_plain 76 = .ok (.iload_n 2, 1) := by decide +kernel
theorem dL_plain_77 : decode cL_plain 77 = .ok (.iload_n 3, 1) := by decide +kernel
theorem dL_plain_78 : decode cL_plain 78 = .ok (.invokevirtual 33, 3) := by decide +kernel
theorem dL_plain_81 : decode cL_plain 81 = .ok (.invokestatic 29, 3) := by decide +kernel
theorem dL_plain_84 : decode cL_plain 84 = .ok (.ireturn, 1) := by decide +kernel
theorem dL_plain_85 : decode cL_plain 85 = .ok (.aload_n 0, 1) := by decide +kernel
theorem dL_plain_86 : decode cL_plain 86 = .ok (.iload_n 2, 1) := by decide +kernel
theorem dL_plain_87 : decode cL_plain 87 = .ok (.iload_n 3, 1) := by decide +kernel
theorem dL_plain_88 : decode cL_plain 88 = .ok (.invokevirtual 36, 3) := by decide +kernel
theorem dL_plain_91 : decode cL_plain 91 = .ok (.ireturn, 1) := by decide +kernel
theorem dL_plain_92 : decode cL_plain 92 = .ok (.aload_n 0, 1) := by decide +kernel
theorem dL_plain_93 : decode cL_plain 93 = .ok (.iload_n 2, 1) := by decide +kernel
theorem dL_plain_94 : decode cL_plain 94 = .ok (.iload_n 3, 1) := by decide +kernel
theorem dL_plain_95 : decode cL_plain 95 = .ok (.invokevirtual 40, 3) := by decide +kernel
theorem dL_plain_98 : decode cL_plain 98 = .ok (.ireturn, 1) := by decide +kernel
theorem dL_plain_99 : decode cL_plain 99 = .ok (.aload_n 0, 1) := by decide +kernel
theorem dL_plain_100 : decode cL_plain 100 = .ok (.iload_n 2, 1) := by decide +kernel
theorem dL_plain_101 : decode cL_plain 101 = .ok (.iload_n 3, 1) := by decide +kernel
theorem dL_plain_102 : decode cL_plain 102 = .ok (.invokevirtual 43, 3) := by decide +kernel
theorem dL_plain_105 : decode cL_plain 105 = .ok (.ireturn, 1) := by decide +kernel
theorem dL_plain_106 : decode cL_plain 106 = .ok (.aload_n 0, 1) := by decide +kernel
theorem dL_plain_107 : decode cL_plain 107 = .ok (.invokevirtual 46, 3) := by decide +kernel
theorem dL_plain_110 : decode cL_plain 110 = .ok (.ireturn, 1) := by decide +kernel
theorem dL_plain_111 : decode cL_plain 111 = .ok (.aload_n 0, 1) := by decide +kernel
theorem dL_plain_112 : decode cL_plain 112 = .ok (.invokevirtual 50, 3) := by decide +kernel
theorem dL_plain_115 : decode cL_plain 115 = .ok (.ireturn, 1) := by decide +kernel
theorem dL_deed_0 : decode cL_deed 0 = .ok (.aload_n 0, 1) := by decide +kernel
theorem dL_deed_1 : decode cL_deed 1 = .ok (.iload_n 1, 1) := by decide +kernel
theorem dL_deed_2 : decode cL_deed 2 = .ok (.iload_n 2, 1) := by decide +kernel
theorem dL_deed_3 : decode cL_deed 3 = .ok (.iload_n 3, 1) := by decide +kernel
theorem dL_deed_4 : decode cL_deed 4 = .ok (.iload 4, 2) := by decide +kernel
theorem dL_deed_6 : decode cL_deed 6 = .ok (.iload 5, 2) := by decide +kernel
theorem dL_deed_8 : decode cL_deed 8 = .ok (.invokestatic 53, 3) := by decide +kernel
theorem dL_deed_11 : decode cL_deed 11 = .ok (.ireturn, 1) := by decide +kernel
theorem dL_deed_12 : decode cL_deed 12 = .ok (.astore 6, 2) := by decide +kernel
theorem dL_deed_14 : decode cL_deed 14 = .ok (.sipush (-2002), 3) := by decide +kernel
theorem dL_deed_17 : decode cL_deed 17 = .ok (.ireturn, 1) := by decide +kernel
theorem dL_deed_18 : decode cL_deed 18 = .ok (.astore 6, 2) := by decide +kernel
theorem dL_deed_20 : decode cL_deed 20 = .ok (.sipush (-2003), 3) := by decide +kernel
theorem dL_deed_23 : decode cL_deed 23 = .ok (.ireturn, 1) := by decide +kernel
theorem dL_deed_24 : decode cL_deed 24 = .ok (.astore 6, 2) := by decide +kernel
theorem dL_deed_26 : decode cL_deed 26 = .ok (.sipush (-2005), 3) := by decide +kernel
theorem dL_deed_29 : decode cL_deed 29 = .ok (.ireturn, 1) := by decide +kernel
theorem dL_deed_30 : decode cL_deed 30 = .ok (.astore 6, 2) := by decide +kernel
theorem dL_deed_32 : decode cL_deed 32 = .ok (.sipush (-2001), 3) := by decide +kernel
theorem dL_deed_35 : decode cL_deed 35 = .ok (.ireturn, 1) := by decide +kernel
theorem dL_asked_0 : decode cL_asked 0 = .ok (.iload_n 1, 1) := by decide +kernel
theorem dL_asked_1 : decode cL_asked 1 = .ok (.tableswitch 169 0 14 #[75, 81, 91, 97, 103, 108, 114, 121, 127, 132, 138, 144, 149, 154, 159], 75) := by decide +kernel
theorem dL_asked_76 : decode cL_asked 76 = .ok (.aload_n 0, 1) := by decide +kernel
theorem dL_asked_77 : decode cL_asked 77 = .ok (.iload_n 2, 1) := by decide +kernel
theorem dL_asked_78 : decode cL_asked 78 = .ok (.invokevirtual 65, 3) := by decide +kernel
theorem dL_asked_81 : decode cL_asked 81 = .ok (.ireturn, 1) := by decide +kernel
theorem dL_asked_82 : decode cL_asked 82 = .ok (.aload_n 0, 1) := by decide +kernel
theorem dL_asked_83 : decode cL_asked 83 = .ok (.iload_n 2, 1) := by decide +kernel
theorem dL_asked_84 : decode cL_asked 84 = .ok (.iload_n 3, 1) := by decide +kernel
theorem dL_asked_85 : decode cL_asked 85 = .ok (.invokevirtual 68, 3) := by decide +kernel
theorem dL_asked_88 : decode cL_asked 88 = .ok (.invokestatic 29, 3) := by decide +kernel
theorem dL_asked_91 : decode cL_asked 91 = .ok (.ireturn, 1) := by decide +kernel
theorem dL_asked_92 : decode cL_asked 92 = .ok (.aload_n 0, 1) := by decide +kernel
theorem dL_asked_93 : decode cL_asked 93 = .ok (.iload_n 2, 1) := by decide +kernel
theorem dL_asked_94 : decode cL_asked 94 = .ok (.invokevirtual 71, 3) := by decide +kernel
theorem dL_asked_97 : decode cL_asked 97 = .ok (.ireturn, 1) := by decide +kernel
theorem dL_asked_98 : decode cL_asked 98 = .ok (.aload_n 0, 1) := by decide +kernel
theorem dL_asked_99 : decode cL_asked 99 = .ok (.iload_n 2, 1) := by decide +kernel
theorem dL_asked_100 : decode cL_asked 100 = .ok (.invokevirtual 74, 3) := by decide +kernel
theorem dL_asked_103 : decode cL_asked 103 = .ok (.ireturn, 1) := by decide +kernel
theorem dL_asked_104 : decode cL_asked 104 = .ok (.aload_n 0, 1) := by decide +kernel
theorem dL_asked_105 : decode cL_asked 105 = .ok (.invokevirtual 77, 3) := by decide +kernel
theorem dL_asked_108 : decode cL_asked 108 = .ok (.ireturn, 1) := by decide +kernel
theorem dL_asked_109 : decode cL_asked 109 = .ok (.aload_n 0, 1) := by decide +kernel
theorem dL_asked_110 : decode cL_asked 110 = .ok (.iload_n 2, 1) := by decide +kernel
theorem dL_asked_111 : decode cL_asked 111 = .ok (.invokevirtual 80, 3) := by decide +kernel
theorem dL_asked_114 : decode cL_asked 114 = .ok (.ireturn, 1) := by decide +kernel
theorem dL_asked_115 : decode cL_asked 115 = .ok (.aload_n 0, 1) := by decide +kernel
theorem dL_asked_116 : decode cL_asked 116 = .ok (.iload_n 2, 1) := by decide +kernel
theorem dL_asked_117 : decode cL_asked 117 = .ok (.iload_n 3, 1) := by decide +kernel
theorem dL_asked_118 : decode cL_asked 118 = .ok (.invokevirtual 83, 3) := by decide +kernel
theorem dL_asked_121 : decode cL_asked 121 = .ok (.ireturn, 1) := by decide +kernel
theorem dL_asked_122 : decode cL_asked 122 = .ok (.aload_n 0, 1) := by decide +kernel
theorem dL_asked_123 : decode cL_asked 123 = .ok (.iload_n 2, 1) := by decide +kernel
theorem dL_asked_124 : decode cL_asked 124 = .ok (.invokevirtual 86, 3) := by decide +kernel
theorem dL_asked_127 : decode cL_asked 127 = .ok (.ireturn, 1) := by decide +kernel
theorem dL_asked_128 : decode cL_asked 128 = .ok (.aload_n 0, 1) := by decide +kernel
theorem dL_asked_129 : decode cL_asked 129 = .ok (.invokevirtual 89, 3) := by decide +kernel
theorem dL_asked_132 : decode cL_asked 132 = .ok (.ireturn, 1) := by decide +kernel
theorem dL_asked_133 : decode cL_asked 133 = .ok (.aload_n 0, 1) := by decide +kernel
theorem dL_asked_134 : decode cL_asked 134 = .ok (.iload_n 2, 1) := by decide +kernel
theorem dL_asked_135 : decode cL_asked 135 = .ok (.invokevirtual 92, 3) := by decide +kernel
theorem dL_asked_138 : decode cL_asked 138 = .ok (.ireturn, 1) := by decide +kernel
theorem dL_asked_139 : decode cL_asked 139 = .ok (.aload_n 0, 1) := by decide +kernel
theorem dL_asked_140 : decode cL_asked 140 = .ok (.iload_n 2, 1) := by decide +kernel
theorem dL_asked_141 : decode cL_asked 141 = .ok (.invokevirtual 95, 3) := by decide +kernel
theorem dL_asked_144 : decode cL_asked 144 = .ok (.ireturn, 1) := by decide +kernel
theorem dL_asked_145 : decode cL_asked 145 = .ok (.aload_n 0, 1) := by decide +kernel
theorem dL_asked_146 : decode cL_asked 146 = .ok (.invokevirtual 98, 3) := by decide +kernel
theorem dL_asked_149 : decode cL_asked 149 = .ok (.ireturn, 1) := by decide +kernel
theorem dL_asked_150 : decode cL_asked 150 = .ok (.aload_n 0, 1) := by decide +kernel
theorem dL_asked_151 : decode cL_asked 151 = .ok (.invokevirtual 101, 3) := by decide +kernel
theorem dL_asked_154 : decode cL_asked 154 = .ok (.ireturn, 1) := by decide +kernel
theorem dL_asked_155 : decode cL_asked 155 = .ok (.aload_n 0, 1) := by decide +kernel
theorem dL_asked_156 : decode cL_asked 156 = .ok (.invokevirtual 104, 3) := by decide +kernel
theorem dL_asked_159 : decode cL_asked 159 = .ok (.ireturn, 1) := by decide +kernel
theorem dL_asked_160 : decode cL_asked 160 = .ok (.aload_n 0, 1) := by decide +kernel
theorem dL_asked_161 : decode cL_asked 161 = .ok (.iload_n 2, 1) := by decide +kernel
theorem dL_asked_162 : decode cL_asked 162 = .ok (.invokevirtual 108, 3) := by decide +kernel
theorem dL_asked_165 : decode cL_asked 165 = .ok (.sipush 5000, 3) := by decide +kernel
theorem dL_asked_168 : decode cL_asked 168 = .ok (.iadd, 1) := by decide +kernel
theorem dL_asked_169 : decode cL_asked 169 = .ok (.ireturn, 1) := by decide +kernel
theorem dL_asked_170 : decode cL_asked 170 = .ok (.aload_n 0, 1) := by decide +kernel
theorem dL_asked_171 : decode cL_asked 171 = .ok (.iload_n 2, 1) := by decide +kernel
theorem dL_asked_172 : decode cL_asked 172 = .ok (.invokevirtual 111, 3) := by decide +kernel
theorem dL_asked_175 : decode cL_asked 175 = .ok (.ireturn, 1) := by decide +kernel
theorem dL_ask_0 : decode cL_ask 0 = .ok (.aload_n 0, 1) := by decide +kernel
theorem dL_ask_1 : decode cL_ask 1 = .ok (.iload_n 1, 1) := by decide +kernel
theorem dL_ask_2 : decode cL_ask 2 = .ok (.iload_n 2, 1) := by decide +kernel
theorem dL_ask_3 : decode cL_ask 3 = .ok (.iload_n 3, 1) := by decide +kernel
theorem dL_ask_4 : decode cL_ask 4 = .ok (.invokestatic 114, 3) := by decide +kernel
theorem dL_ask_7 : decode cL_ask 7 = .ok (.ireturn, 1) := by decide +kernel
theorem dL_ask_8 : decode cL_ask 8 = .ok (.astore 4, 2) := by decide +kernel
theorem dL_ask_10 : decode cL_ask 10 = .ok (.sipush (-2002), 3) := by decide +kernel
theorem dL_ask_13 : decode cL_ask 13 = .ok (.ireturn, 1) := by decide +kernel
theorem dL_ask_14 : decode cL_ask 14 = .ok (.astore 4, 2) := by decide +kernel
theorem dL_ask_16 : decode cL_ask 16 = .ok (.sipush (-2003), 3) := by decide +kernel
theorem dL_ask_19 : decode cL_ask 19 = .ok (.ireturn, 1) := by decide +kernel
theorem dL_ask_20 : decode cL_ask 20 = .ok (.astore 4, 2) := by decide +kernel
theorem dL_ask_22 : decode cL_ask 22 = .ok (.sipush (-2004), 3) := by decide +kernel
theorem dL_ask_25 : decode cL_ask 25 = .ok (.ireturn, 1) := by decide +kernel
theorem dL_lay_0 : decode cL_lay 0 = .ok (.iconst 0, 1) := by decide +kernel
theorem dL_lay_1 : decode cL_lay 1 = .ok (.istore_n 2, 1) := by decide +kernel
theorem dL_lay_2 : decode cL_lay 2 = .ok (.iconst 0, 1) := by decide +kernel
theorem dL_lay_3 : decode cL_lay 3 = .ok (.istore_n 3, 1) := by decide +kernel
theorem dL_lay_4 : decode cL_lay 4 = .ok (.iload_n 3, 1) := by decide +kernel
theorem dL_lay_5 : decode cL_lay 5 = .ok (.aload_n 1, 1) := by decide +kernel
theorem dL_lay_6 : decode cL_lay 6 = .ok (.iconst 0, 1) := by decide +kernel
theorem dL_lay_7 : decode cL_lay 7 = .ok (.bipush 14, 2) := by decide +kernel
theorem dL_lay_9 : decode cL_lay 9 = .ok (.invokestatic 120, 3) := by decide +kernel
theorem dL_lay_12 : decode cL_lay 12 = .ok (.if_icmp .ge 69, 3) := by decide +kernel
theorem dL_lay_15 : decode cL_lay 15 = .ok (.iload_n 2, 1) := by decide +kernel
theorem dL_lay_16 : decode cL_lay 16 = .ok (.aload_n 0, 1) := by decide +kernel
theorem dL_lay_17 : decode cL_lay 17 = .ok (.iconst 0, 1) := by decide +kernel
theorem dL_lay_18 : decode cL_lay 18 = .ok (.iconst 1, 1) := by decide +kernel
theorem dL_lay_19 : decode cL_lay 19 = .ok (.aload_n 1, 1) := by decide +kernel
theorem dL_lay_20 : decode cL_lay 20 = .ok (.bipush 11, 2) := by decide +kernel
theorem dL_lay_22 : decode cL_lay 22 = .ok (.iload_n 3, 1) := by decide +kernel
theorem dL_lay_23 : decode cL_lay 23 = .ok (.iadd, 1) := by decide +kernel
theorem dL_lay_24 : decode cL_lay 24 = .ok (.bipush 9, 2) := by decide +kernel
theorem dL_lay_26 : decode cL_lay 26 = .ok (.invokestatic 120, 3) := by decide +kernel
theorem dL_lay_29 : decode cL_lay 29 = .ok (.iadd, 1) := by decide +kernel
theorem dL_lay_30 : decode cL_lay 30 = .ok (.aload_n 1, 1) := by decide +kernel
theorem dL_lay_31 : decode cL_lay 31 = .ok (.bipush 31, 2) := by decide +kernel
theorem dL_lay_33 : decode cL_lay 33 = .ok (.iload_n 3, 1) := by decide +kernel
theorem dL_lay_34 : decode cL_lay 34 = .ok (.iadd, 1) := by decide +kernel
theorem dL_lay_35 : decode cL_lay 35 = .ok (.iconst 3, 1) := by decide +kernel
theorem dL_lay_36 : decode cL_lay 36 = .ok (.invokestatic 120, 3) := by decide +kernel
theorem dL_lay_39 : decode cL_lay 39 = .ok (.iconst 1, 1) := by decide +kernel
theorem dL_lay_40 : decode cL_lay 40 = .ok (.aload_n 1, 1) := by decide +kernel
theorem dL_lay_41 : decode cL_lay 41 = .ok (.bipush 51, 2) := by decide +kernel
theorem dL_lay_43 : decode cL_lay 43 = .ok (.iload_n 3, 1) := by decide +kernel
theorem dL_lay_44 : decode cL_lay 44 = .ok (.iadd, 1) := by decide +kernel
theorem dL_lay_45 : decode cL_lay 45 = .ok (.iconst 5, 1) := by decide +kernel
theorem dL_lay_46 : decode cL_lay 46 = .ok (.invokestatic 120, 3) := by decide +kernel
theorem dL_lay_49 : decode cL_lay 49 = .ok (.iadd, 1) := by decide +kernel
theorem dL_lay_50 : decode cL_lay 50 = .ok (.aload_n 1, 1) := by decide +kernel
theorem dL_lay_51 : decode cL_lay 51 = .ok (.bipush 71, 2) := by decide +kernel
theorem dL_lay_53 : decode cL_lay 53 = .ok (.iload_n 3, 1) := by decide +kernel
theorem dL_lay_54 : decode cL_lay 54 = .ok (.iadd, 1) := by decide +kernel
theorem dL_lay_55 : decode cL_lay 55 = .ok (.iconst 2, 1) := by decide +kernel
theorem dL_lay_56 : decode cL_lay 56 = .ok (.invokestatic 120, 3) := by decide +kernel
theorem dL_lay_59 : decode cL_lay 59 = .ok (.aload_n 1, 1) := by decide +kernel
theorem dL_lay_60 : decode cL_lay 60 = .ok (.bipush 91, 2) := by decide +kernel
theorem dL_lay_62 : decode cL_lay 62 = .ok (.iload_n 3, 1) := by decide +kernel
theorem dL_lay_63 : decode cL_lay 63 = .ok (.iadd, 1) := by decide +kernel
theorem dL_lay_64 : decode cL_lay 64 = .ok (.bipush 20, 2) := by decide +kernel
theorem dL_lay_66 : decode cL_lay 66 = .ok (.invokestatic 120, 3) := by decide +kernel
theorem dL_lay_69 : decode cL_lay 69 = .ok (.imul, 1) := by decide +kernel
theorem dL_lay_70 : decode cL_lay 70 = .ok (.invokestatic 124, 3) := by decide +kernel
theorem dL_lay_73 : decode cL_lay 73 = .ok (.iadd, 1) := by decide +kernel
theorem dL_lay_74 : decode cL_lay 74 = .ok (.istore_n 2, 1) := by decide +kernel
theorem dL_lay_75 : decode cL_lay 75 = .ok (.iinc 3 1, 3) := by decide +kernel
theorem dL_lay_78 : decode cL_lay 78 = .ok (.goto (-74), 3) := by decide +kernel
theorem dL_lay_81 : decode cL_lay 81 = .ok (.iconst 1, 1) := by decide +kernel
theorem dL_lay_82 : decode cL_lay 82 = .ok (.aload_n 0, 1) := by decide +kernel
theorem dL_lay_83 : decode cL_lay 83 = .ok (.invokevirtual 127, 3) := by decide +kernel
theorem dL_lay_86 : decode cL_lay 86 = .ok (.invokestatic 130, 3) := by decide +kernel
theorem dL_lay_89 : decode cL_lay 89 = .ok (.istore_n 3, 1) := by decide +kernel
theorem dL_lay_90 : decode cL_lay 90 = .ok (.iconst 0, 1) := by decide +kernel
theorem dL_lay_91 : decode cL_lay 91 = .ok (.istore 4, 2) := by decide +kernel
theorem dL_lay_93 : decode cL_lay 93 = .ok (.iload 4, 2) := by decide +kernel
theorem dL_lay_95 : decode cL_lay 95 = .ok (.aload_n 1, 1) := by decide +kernel
theorem dL_lay_96 : decode cL_lay 96 = .ok (.iconst 1, 1) := by decide +kernel
theorem dL_lay_97 : decode cL_lay 97 = .ok (.bipush 12, 2) := by decide +kernel
theorem dL_lay_99 : decode cL_lay 99 = .ok (.invokestatic 120, 3) := by decide +kernel
theorem dL_lay_102 : decode cL_lay 102 = .ok (.if_icmp .ge 40, 3) := by decide +kernel
theorem dL_lay_105 : decode cL_lay 105 = .ok (.iload_n 2, 1) := by decide +kernel
theorem dL_lay_106 : decode cL_lay 106 = .ok (.aload_n 0, 1) := by decide +kernel
theorem dL_lay_107 : decode cL_lay 107 = .ok (.iconst 2, 1) := by decide +kernel
theorem dL_lay_108 : decode cL_lay 108 = .ok (.aload_n 1, 1) := by decide +kernel
theorem dL_lay_109 : decode cL_lay 109 = .ok (.bipush 111, 2) := by decide +kernel
theorem dL_lay_111 : decode cL_lay 111 = .ok (.iload 4, 2) := by decide +kernel
theorem dL_lay_113 : decode cL_lay 113 = .ok (.iadd, 1) := by decide +kernel
theorem dL_lay_114 : decode cL_lay 114 = .ok (.iload_n 3, 1) := by decide +kernel
theorem dL_lay_115 : decode cL_lay 115 = .ok (.invokestatic 120, 3) := by decide +kernel
theorem dL_lay_118 : decode cL_lay 118 = .ok (.aload_n 1, 1) := by decide +kernel
theorem dL_lay_119 : decode cL_lay 119 = .ok (.sipush 131, 3) := by decide +kernel
theorem dL_lay_122 : decode cL_lay 122 = .ok (.iload 4, 2) := by decide +kernel
theorem dL_lay_124 : decode cL_lay 124 = .ok (.iadd, 1) := by decide +kernel
theorem dL_lay_125 : decode cL_lay 125 = .ok (.iload_n 3, 1) := by decide +kernel
theorem dL_lay_126 : decode cL_lay 126 = .ok (.invokestatic 120, 3) := by decide +kernel
theorem dL_lay_129 : decode cL_lay 129 = .ok (.iconst 0, 1) := by decide +kernel
theorem dL_lay_130 : decode cL_lay 130 = .ok (.iconst 0, 1) := by decide +kernel
theorem dL_lay_131 : decode cL_lay 131 = .ok (.invokestatic 124, 3) := by decide +kernel
theorem dL_lay_134 : decode cL_lay 134 = .ok (.iadd, 1) := by decide +kernel
theorem dL_lay_135 : decode cL_lay 135 = .ok (.istore_n 2, 1) := by decide +kernel
theorem dL_lay_136 : decode cL_lay 136 = .ok (.iinc 4 1, 3) := by decide +kernel
theorem dL_lay_139 : decode cL_lay 139 = .ok (.goto (-46), 3) := by decide +kernel
theorem dL_lay_142 : decode cL_lay 142 = .ok (.iconst 0, 1) := by decide +kernel
theorem dL_lay_143 : decode cL_lay 143 = .ok (.istore 4, 2) := by decide +kernel
theorem dL_lay_145 : decode cL_lay 145 = .ok (.iload 4, 2) := by decide +kernel
theorem dL_lay_147 : decode cL_lay 147 = .ok (.iconst 3, 1) := by decide +kernel
theorem dL_lay_148 : decode cL_lay 148 = .ok (.if_icmp .ge 34, 3) := by decide +kernel
theorem dL_lay_151 : decode cL_lay 151 = .ok (.iload_n 2, 1) := by decide +kernel
theorem dL_lay_152 : decode cL_lay 152 = .ok (.aload_n 0, 1) := by decide +kernel
theorem dL_lay_153 : decode cL_lay 153 = .ok (.bipush 6, 2) := by decide +kernel
theorem dL_lay_155 : decode cL_lay 155 = .ok (.iload 4, 2) := by decide +kernel
theorem dL_lay_157 : decode cL_lay 157 = .ok (.iconst 5, 1) := by decide +kernel
theorem dL_lay_158 : decode cL_lay 158 = .ok (.aload_n 1, 1) := by decide +kernel
theorem dL_lay_159 : decode cL_lay 159 = .ok (.iconst 2, 1) := by decide +kernel
theorem dL_lay_160 : decode cL_lay 160 = .ok (.iload 4, 2) := by decide +kernel
theorem dL_lay_162 : decode cL_lay 162 = .ok (.iadd, 1) := by decide +kernel
theorem dL_lay_163 : decode cL_lay 163 = .ok (.bipush 7, 2) := by decide +kernel
theorem dL_lay_165 : decode cL_lay 165 = .ok (.invokestatic 120, 3) := by decide +kernel
theorem dL_lay_168 : decode cL_lay 168 = .ok (.iadd, 1) := by decide +kernel
theorem dL_lay_169 : decode cL_lay 169 = .ok (.iconst 0, 1) := by decide +kernel
theorem dL_lay_170 : decode cL_lay 170 = .ok (.iconst 0, 1) := by decide +kernel
theorem dL_lay_171 : decode cL_lay 171 = .ok (.invokestatic 124, 3) := by decide +kernel
theorem dL_lay_174 : decode cL_lay 174 = .ok (.iadd, 1) := by decide +kernel
theorem dL_lay_175 : decode cL_lay 175 = .ok (.istore_n 2, 1) := by decide +kernel
theorem dL_lay_176 : decode cL_lay 176 = .ok (.iinc 4 1, 3) := by decide +kernel
theorem dL_lay_179 : decode cL_lay 179 = .ok (.goto (-34), 3) := by decide +kernel
theorem dL_lay_182 : decode cL_lay 182 = .ok (.iload_n 2, 1) := by decide +kernel
theorem dL_lay_183 : decode cL_lay 183 = .ok (.aload_n 1, 1) := by decide +kernel
theorem dL_lay_184 : decode cL_lay 184 = .ok (.iconst 5, 1) := by decide +kernel
theorem dL_lay_185 : decode cL_lay 185 = .ok (.iconst 2, 1) := by decide +kernel
theorem dL_lay_186 : decode cL_lay 186 = .ok (.invokestatic 120, 3) := by decide +kernel
theorem dL_lay_189 : decode cL_lay 189 = .ok (.ifCond .ne 16, 3) := by decide +kernel
theorem dL_lay_192 : decode cL_lay 192 = .ok (.aload_n 0, 1) := by decide +kernel
theorem dL_lay_193 : decode cL_lay 193 = .ok (.bipush 7, 2) := by decide +kernel
theorem dL_lay_195 : decode cL_lay 195 = .ok (.iconst 0, 1) := by decide +kernel
theorem dL_lay_196 : decode cL_lay 196 = .ok (.iconst 0, 1) := by decide +kernel
theorem dL_lay_197 : decode cL_lay 197 = .ok (.iconst 0, 1) := by decide +kernel
theorem dL_lay_198 : decode cL_lay 198 = .ok (.iconst 0, 1) := by decide +kernel
theorem dL_lay_199 : decode cL_lay 199 = .ok (.invokestatic 124, 3) := by decide +kernel
theorem dL_lay_202 : decode cL_lay 202 = .ok (.goto 4, 3) := by decide +kernel
theorem dL_lay_205 : decode cL_lay 205 = .ok (.iconst 0, 1) := by decide +kernel
theorem dL_lay_206 : decode cL_lay 206 = .ok (.iadd, 1) := by decide +kernel
theorem dL_lay_207 : decode cL_lay 207 = .ok (.istore_n 2, 1) := by decide +kernel
theorem dL_lay_208 : decode cL_lay 208 = .ok (.return_, 1) := by decide +kernel
theorem dL_any_0 : decode cL_any 0 = .ok (.iconst 1, 1) := by decide +kernel
theorem dL_any_1 : decode cL_any 1 = .ok (.aload_n 0, 1) := by decide +kernel
theorem dL_any_2 : decode cL_any 2 = .ok (.invokevirtual 127, 3) := by decide +kernel
theorem dL_any_5 : decode cL_any 5 = .ok (.invokestatic 130, 3) := by decide +kernel
theorem dL_any_8 : decode cL_any 8 = .ok (.istore_n 3, 1) := by decide +kernel
theorem dL_any_9 : decode cL_any 9 = .ok (.aload_n 1, 1) := by decide +kernel
theorem dL_any_10 : decode cL_any 10 = .ok (.iload_n 2, 1) := by decide +kernel
theorem dL_any_11 : decode cL_any 11 = .ok (.iconst 1, 1) := by decide +kernel
theorem dL_any_12 : decode cL_any 12 = .ok (.iadd, 1) := by decide +kernel
theorem dL_any_13 : decode cL_any 13 = .ok (.iload_n 3, 1) := by decide +kernel
theorem dL_any_14 : decode cL_any 14 = .ok (.invokestatic 120, 3) := by decide +kernel
theorem dL_any_17 : decode cL_any 17 = .ok (.istore 4, 2) := by decide +kernel
theorem dL_any_19 : decode cL_any 19 = .ok (.aload_n 1, 1) := by decide +kernel
theorem dL_any_20 : decode cL_any 20 = .ok (.iload_n 2, 1) := by decide +kernel
theorem dL_any_21 : decode cL_any 21 = .ok (.bipush 20, 2) := by decide +kernel
theorem dL_any_23 : decode cL_any 23 = .ok (.invokestatic 120, 3) := by decide +kernel
theorem dL_any_26 : decode cL_any 26 = .ok (.tableswitch 245 0 17 #[86, 86, 86, 130, 141, 141, 141, 141, 141, 141, 159, 177, 177, 198, 198, 198, 217, 217], 86) := by decide +kernel
theorem dL_any_112 : decode cL_any 112 = .ok (.aload_n 0, 1) := by decide +kernel
theorem dL_any_113 : decode cL_any 113 = .ok (.iconst 0, 1) := by decide +kernel
theorem dL_any_114 : decode cL_any 114 = .ok (.iconst 1, 1) := by decide +kernel
theorem dL_any_115 : decode cL_any 115 = .ok (.aload_n 1, 1) := by decide +kernel
theorem dL_any_116 : decode cL_any 116 = .ok (.iload_n 2, 1) := by decide +kernel
theorem dL_any_117 : decode cL_any 117 = .ok (.iconst 2, 1) := by decide +kernel
theorem dL_any_118 : decode cL_any 118 = .ok (.iadd, 1) := by decide +kernel
theorem dL_any_119 : decode cL_any 119 = .ok (.bipush 9, 2) := by decide +kernel
theorem dL_any_121 : decode cL_any 121 = .ok (.invokestatic 120, 3) := by decide +kernel
theorem dL_any_124 : decode cL_any 124 = .ok (.iadd, 1) := by decide +kernel
theorem dL_any_125 : decode cL_any 125 = .ok (.aload_n 1, 1) := by decide +kernel
theorem dL_any_126 : decode cL_any 126 = .ok (.iload_n 2, 1) := by decide +kernel
theorem dL_any_127 : decode cL_any 127 = .ok (.iconst 3, 1) := by decide +kernel
theorem dL_any_128 : decode cL_any 128 = .ok (.iadd, 1) := by decide +kernel
theorem dL_any_129 : decode cL_any 129 = .ok (.iconst 3, 1) := by decide +kernel
theorem dL_any_130 : decode cL_any 130 = .ok (.invokestatic 120, 3) := by decide +kernel
theorem dL_any_133 : decode cL_any 133 = .ok (.iconst 1, 1) := by decide +kernel
theorem dL_any_134 : decode cL_any 134 = .ok (.aload_n 1, 1) := by decide +kernel
theorem dL_any_135 : decode cL_any 135 = .ok (.iload_n 2, 1) := by decide +kernel
theorem dL_any_136 : decode cL_any 136 = .ok (.iconst 4, 1) := by decide +kernel
theorem dL_any_137 : decode cL_any 137 = .ok (.iadd, 1) := by decide +kernel
theorem dL_any_138 : decode cL_any 138 = .ok (.iconst 5, 1) := by decide +kernel
theorem dL_any_139 : decode cL_any 139 = .ok (.invokestatic 120, 3) := by decide +kernel
theorem dL_any_142 : decode cL_any 142 = .ok (.iadd, 1) := by decide +kernel
theorem dL_any_143 : decode cL_any 143 = .ok (.aload_n 1, 1) := by decide +kernel
theorem dL_any_144 : decode cL_any 144 = .ok (.iload_n 2, 1) := by decide +kernel
theorem dL_any_145 : decode cL_any 145 = .ok (.iconst 5, 1) := by decide +kernel
theorem dL_any_146 : decode cL_any 146 = .ok (.iadd, 1) := by decide +kernel
theorem dL_any_147 : decode cL_any 147 = .ok (.bipush 31, 2) := by decide +kernel
theorem dL_any_149 : decode cL_any 149 = .ok (.invokestatic 120, 3) := by decide +kernel
theorem dL_any_152 : decode cL_any 152 = .ok (.invokestatic 124, 3) := by decide +kernel
theorem dL_any_155 : decode cL_any 155 = .ok (.ireturn, 1) := by decide +kernel
theorem dL_any_156 : decode cL_any 156 = .ok (.aload_n 0, 1) := by decide +kernel
theorem dL_any_157 : decode cL_any 157 = .ok (.iconst 1, 1) := by decide +kernel
theorem dL_any_158 : decode cL_any 158 = .ok (.iload 4, 2) := by decide +kernel
theorem dL_any_160 : decode cL_any 160 = .ok (.iconst 0, 1) := by decide +kernel
theorem dL_any_161 : decode cL_any 161 = .ok (.iconst 0, 1) := by decide +kernel
theorem dL_any_162 : decode cL_any 162 = .ok (.iconst 0, 1) := by decide +kernel
theorem dL_any_163 : decode cL_any 163 = .ok (.invokestatic 124, 3) := by decide +kernel
theorem dL_any_166 : decode cL_any 166 = .ok (.ireturn, 1) := by decide +kernel
theorem dL_any_167 : decode cL_any 167 = .ok (.aload_n 0, 1) := by decide +kernel
theorem dL_any_168 : decode cL_any 168 = .ok (.iconst 2, 1) := by decide +kernel
theorem dL_any_169 : decode cL_any 169 = .ok (.iload 4, 2) := by decide +kernel
theorem dL_any_171 : decode cL_any 171 = .ok (.aload_n 1, 1) := by decide +kernel
theorem dL_any_172 : decode cL_any 172 = .ok (.iload_n 2, 1) := by decide +kernel
theorem dL_any_173 : decode cL_any 173 = .ok (.iconst 2, 1) := by decide +kernel
theorem dL_any_174 : decode cL_any 174 = .ok (.iadd, 1) := by decide +kernel
theorem dL_any_175 : decode cL_any 175 = .ok (.iload_n 3, 1) := by decide +kernel
theorem dL_any_176 : decode cL_any 176 = .ok (.invokestatic 120, 3) := by decide +kernel
theorem dL_any_179 : decode cL_any 179 = .ok (.iconst 0, 1) := by decide +kernel
theorem dL_any_180 : decode cL_any 180 = .ok (.iconst 0, 1) := by decide +kernel
theorem dL_any_181 : decode cL_any 181 = .ok (.invokestatic 124, 3) := by decide +kernel
theorem dL_any_184 : decode cL_any 184 = .ok (.ireturn, 1) := by decide +kernel
theorem dL_any_185 : decode cL_any 185 = .ok (.aload_n 0, 1) := by decide +kernel
theorem dL_any_186 : decode cL_any 186 = .ok (.iconst 3, 1) := by decide +kernel
theorem dL_any_187 : decode cL_any 187 = .ok (.iload 4, 2) := by decide +kernel
theorem dL_any_189 : decode cL_any 189 = .ok (.aload_n 1, 1) := by decide +kernel
theorem dL_any_190 : decode cL_any 190 = .ok (.iload_n 2, 1) := by decide +kernel
theorem dL_any_191 : decode cL_any 191 = .ok (.iconst 2, 1) := by decide +kernel
theorem dL_any_192 : decode cL_any 192 = .ok (.iadd, 1) := by decide +kernel
theorem dL_any_193 : decode cL_any 193 = .ok (.iload_n 3, 1) := by decide +kernel
theorem dL_any_194 : decode cL_any 194 = .ok (.invokestatic 120, 3) := by decide +kernel
theorem dL_any_197 : decode cL_any 197 = .ok (.iconst 0, 1) := by decide +kernel
theorem dL_any_198 : decode cL_any 198 = .ok (.iconst 0, 1) := by decide +kernel
theorem dL_any_199 : decode cL_any 199 = .ok (.invokestatic 124, 3) := by decide +kernel
theorem dL_any_202 : decode cL_any 202 = .ok (.ireturn, 1) := by decide +kernel
theorem dL_any_203 : decode cL_any 203 = .ok (.aload_n 0, 1) := by decide +kernel
theorem dL_any_204 : decode cL_any 204 = .ok (.iconst 4, 1) := by decide +kernel
theorem dL_any_205 : decode cL_any 205 = .ok (.iload 4, 2) := by decide +kernel
theorem dL_any_207 : decode cL_any 207 = .ok (.iconst 1, 1) := by decide +kernel
theorem dL_any_208 : decode cL_any 208 = .ok (.aload_n 1, 1) := by decide +kernel
theorem dL_any_209 : decode cL_any 209 = .ok (.iload_n 2, 1) := by decide +kernel
theorem dL_any_210 : decode cL_any 210 = .ok (.iconst 2, 1) := by decide +kernel
theorem dL_any_211 : decode cL_any 211 = .ok (.iadd, 1) := by decide +kernel
theorem dL_any_212 : decode cL_any 212 = .ok (.bipush 9, 2) := by decide +kernel
theorem dL_any_214 : decode cL_any 214 = .ok (.invokestatic 120, 3) := by decide +kernel
theorem dL_any_217 : decode cL_any 217 = .ok (.iadd, 1) := by decide +kernel
theorem dL_any_218 : decode cL_any 218 = .ok (.iconst 0, 1) := by decide +kernel
theorem dL_any_219 : decode cL_any 219 = .ok (.iconst 0, 1) := by decide +kernel
theorem dL_any_220 : decode cL_any 220 = .ok (.invokestatic 124, 3) := by decide +kernel
theorem dL_any_223 : decode cL_any 223 = .ok (.ireturn, 1) := by decide +kernel
theorem dL_any_224 : decode cL_any 224 = .ok (.aload_n 0, 1) := by decide +kernel
theorem dL_any_225 : decode cL_any 225 = .ok (.iconst 5, 1) := by decide +kernel
theorem dL_any_226 : decode cL_any 226 = .ok (.iload 4, 2) := by decide +kernel
theorem dL_any_228 : decode cL_any 228 = .ok (.aload_n 1, 1) := by decide +kernel
theorem dL_any_229 : decode cL_any 229 = .ok (.iload_n 2, 1) := by decide +kernel
theorem dL_any_230 : decode cL_any 230 = .ok (.iconst 2, 1) := by decide +kernel
theorem dL_any_231 : decode cL_any 231 = .ok (.iadd, 1) := by decide +kernel
theorem dL_any_232 : decode cL_any 232 = .ok (.bipush 31, 2) := by decide +kernel
theorem dL_any_234 : decode cL_any 234 = .ok (.invokestatic 120, 3) := by decide +kernel
theorem dL_any_237 : decode cL_any 237 = .ok (.iconst 0, 1) := by decide +kernel
theorem dL_any_238 : decode cL_any 238 = .ok (.iconst 0, 1) := by decide +kernel
theorem dL_any_239 : decode cL_any 239 = .ok (.invokestatic 124, 3) := by decide +kernel
theorem dL_any_242 : decode cL_any 242 = .ok (.ireturn, 1) := by decide +kernel
theorem dL_any_243 : decode cL_any 243 = .ok (.aload_n 0, 1) := by decide +kernel
theorem dL_any_244 : decode cL_any 244 = .ok (.bipush 6, 2) := by decide +kernel
theorem dL_any_246 : decode cL_any 246 = .ok (.aload_n 1, 1) := by decide +kernel
theorem dL_any_247 : decode cL_any 247 = .ok (.iload_n 2, 1) := by decide +kernel
theorem dL_any_248 : decode cL_any 248 = .ok (.iconst 2, 1) := by decide +kernel
theorem dL_any_249 : decode cL_any 249 = .ok (.iadd, 1) := by decide +kernel
theorem dL_any_250 : decode cL_any 250 = .ok (.iconst 3, 1) := by decide +kernel
theorem dL_any_251 : decode cL_any 251 = .ok (.invokestatic 120, 3) := by decide +kernel
theorem dL_any_254 : decode cL_any 254 = .ok (.iconst 5, 1) := by decide +kernel
theorem dL_any_255 : decode cL_any 255 = .ok (.aload_n 1, 1) := by decide +kernel
theorem dL_any_256 : decode cL_any 256 = .ok (.iload_n 2, 1) := by decide +kernel
theorem dL_any_257 : decode cL_any 257 = .ok (.iconst 3, 1) := by decide +kernel
theorem dL_any_258 : decode cL_any 258 = .ok (.iadd, 1) := by decide +kernel
theorem dL_any_259 : decode cL_any 259 = .ok (.bipush 16, 2) := by decide +kernel
theorem dL_any_261 : decode cL_any 261 = .ok (.invokestatic 120, 3) := by decide +kernel
theorem dL_any_264 : decode cL_any 264 = .ok (.iadd, 1) := by decide +kernel
theorem dL_any_265 : decode cL_any 265 = .ok (.iconst 0, 1) := by decide +kernel
theorem dL_any_266 : decode cL_any 266 = .ok (.iconst 0, 1) := by decide +kernel
theorem dL_any_267 : decode cL_any 267 = .ok (.invokestatic 124, 3) := by decide +kernel
theorem dL_any_270 : decode cL_any 270 = .ok (.ireturn, 1) := by decide +kernel
theorem dL_any_271 : decode cL_any 271 = .ok (.aload_n 0, 1) := by decide +kernel
theorem dL_any_272 : decode cL_any 272 = .ok (.bipush 7, 2) := by decide +kernel
theorem dL_any_274 : decode cL_any 274 = .ok (.iconst 0, 1) := by decide +kernel
theorem dL_any_275 : decode cL_any 275 = .ok (.iconst 0, 1) := by decide +kernel
theorem dL_any_276 : decode cL_any 276 = .ok (.iconst 0, 1) := by decide +kernel
theorem dL_any_277 : decode cL_any 277 = .ok (.iconst 0, 1) := by decide +kernel
theorem dL_any_278 : decode cL_any 278 = .ok (.invokestatic 124, 3) := by decide +kernel
theorem dL_any_281 : decode cL_any 281 = .ok (.ireturn, 1) := by decide +kernel
theorem dL_isBehind_0 : decode cL_isBehind 0 = .ok (.iconst 0, 1) := by decide +kernel
theorem dL_isBehind_1 : decode cL_isBehind 1 = .ok (.istore_n 3, 1) := by decide +kernel
theorem dL_isBehind_2 : decode cL_isBehind 2 = .ok (.iload_n 3, 1) := by decide +kernel
theorem dL_isBehind_3 : decode cL_isBehind 3 = .ok (.aload_n 0, 1) := by decide +kernel
theorem dL_isBehind_4 : decode cL_isBehind 4 = .ok (.invokevirtual 127, 3) := by decide +kernel
theorem dL_isBehind_7 : decode cL_isBehind 7 = .ok (.if_icmp .ge 34, 3) := by decide +kernel
theorem dL_isBehind_10 : decode cL_isBehind 10 = .ok (.aload_n 0, 1) := by decide +kernel
theorem dL_isBehind_11 : decode cL_isBehind 11 = .ok (.iload_n 1, 1) := by decide +kernel
theorem dL_isBehind_12 : decode cL_isBehind 12 = .ok (.iload_n 3, 1) := by decide +kernel
theorem dL_isBehind_13 : decode cL_isBehind 13 = .ok (.invokevirtual 154, 3) := by decide +kernel
theorem dL_isBehind_16 : decode cL_isBehind 16 = .ok (.ifCond .eq 19, 3) := by decide +kernel
theorem dL_isBehind_19 : decode cL_isBehind 19 = .ok (.iload_n 3, 1) := by decide +kernel
theorem dL_isBehind_20 : decode cL_isBehind 20 = .ok (.iload_n 2, 1) := by decide +kernel
theorem dL_isBehind_21 : decode cL_isBehind 21 = .ok (.if_icmp .eq 12, 3) := by decide +kernel
theorem dL_isBehind_24 : decode cL_isBehind 24 = .ok (.aload_n 0, 1) := by decide +kernel
theorem dL_isBehind_25 : decode cL_isBehind 25 = .ok (.iload_n 3, 1) := by decide +kernel
theorem dL_isBehind_26 : decode cL_isBehind 26 = .ok (.iload_n 2, 1) := by decide +kernel
theorem dL_isBehind_27 : decode cL_isBehind 27 = .ok (.invokestatic 157, 3) := by decide +kernel
theorem dL_isBehind_30 : decode cL_isBehind 30 = .ok (.ifCond .eq 5, 3) := by decide +kernel
theorem dL_isBehind_33 : decode cL_isBehind 33 = .ok (.iconst 1, 1) := by decide +kernel
theorem dL_isBehind_34 : decode cL_isBehind 34 = .ok (.ireturn, 1) := by decide +kernel
theorem dL_isBehind_35 : decode cL_isBehind 35 = .ok (.iinc 3 1, 3) := by decide +kernel
theorem dL_isBehind_38 : decode cL_isBehind 38 = .ok (.goto (-36), 3) := by decide +kernel
theorem dL_isBehind_41 : decode cL_isBehind 41 = .ok (.iconst 0, 1) := by decide +kernel
theorem dL_isBehind_42 : decode cL_isBehind 42 = .ok (.ireturn, 1) := by decide +kernel
theorem dL_soonest_0 : decode cL_soonest 0 = .ok (.aload_n 0, 1) := by decide +kernel
theorem dL_soonest_1 : decode cL_soonest 1 = .ok (.iload_n 1, 1) := by decide +kernel
theorem dL_soonest_2 : decode cL_soonest 2 = .ok (.invokevirtual 148, 3) := by decide +kernel
theorem dL_soonest_5 : decode cL_soonest 5 = .ok (.istore_n 3, 1) := by decide +kernel
theorem dL_soonest_6 : decode cL_soonest 6 = .ok (.iconst 0, 1) := by decide +kernel
theorem dL_soonest_7 : decode cL_soonest 7 = .ok (.istore 4, 2) := by decide +kernel
theorem dL_soonest_9 : decode cL_soonest 9 = .ok (.iload 4, 2) := by decide +kernel
theorem dL_soonest_11 : decode cL_soonest 11 = .ok (.aload_n 2, 1) := by decide +kernel
theorem dL_soonest_12 : decode cL_soonest 12 = .ok (.arraylength, 1) := by decide +kernel
theorem dL_soonest_13 : decode cL_soonest 13 = .ok (.if_icmp .ge 39, 3) := by decide +kernel
theorem dL_soonest_16 : decode cL_soonest 16 = .ok (.aload_n 0, 1) := by decide +kernel
theorem dL_soonest_17 : decode cL_soonest 17 = .ok (.iload_n 1, 1) := by decide +kernel
theorem dL_soonest_18 : decode cL_soonest 18 = .ok (.iload 4, 2) := by decide +kernel
theorem dL_soonest_20 : decode cL_soonest 20 = .ok (.invokevirtual 154, 3) := by decide +kernel
theorem dL_soonest_23 : decode cL_soonest 23 = .ok (.ifCond .eq 21, 3) := by decide +kernel
theorem dL_soonest_26 : decode cL_soonest 26 = .ok (.iload_n 3, 1) := by decide +kernel
theorem dL_soonest_27 : decode cL_soonest 27 = .ok (.aload_n 2, 1) := by decide +kernel
theorem dL_soonest_28 : decode cL_soonest 28 = .ok (.iload 4, 2) := by decide +kernel
theorem dL_soonest_30 : decode cL_soonest 30 = .ok (.iaload, 1) := by decide +kernel
theorem dL_soonest_31 : decode cL_soonest 31 = .ok (.aload_n 0, 1) := by decide +kernel
theorem dL_soonest_32 : decode cL_soonest 32 = .ok (.iload 4, 2) := by decide +kernel
theorem dL_soonest_34 : decode cL_soonest 34 = .ok (.invokevirtual 65, 3) := by decide +kernel
theorem dL_soonest_37 : decode cL_soonest 37 = .ok (.iadd, 1) := by decide +kernel
theorem dL_soonest_38 : decode cL_soonest 38 = .ok (.invokestatic 130, 3) := by decide +kernel
theorem dL_soonest_41 : decode cL_soonest 41 = .ok (.goto 4, 3) := by decide +kernel
theorem dL_soonest_44 : decode cL_soonest 44 = .ok (.iload_n 3, 1) := by decide +kernel
theorem dL_soonest_45 : decode cL_soonest 45 = .ok (.istore_n 3, 1) := by decide +kernel
theorem dL_soonest_46 : decode cL_soonest 46 = .ok (.iinc 4 1, 3) := by decide +kernel
theorem dL_soonest_49 : decode cL_soonest 49 = .ok (.goto (-40), 3) := by decide +kernel
theorem dL_soonest_52 : decode cL_soonest 52 = .ok (.iload_n 3, 1) := by decide +kernel
theorem dL_soonest_53 : decode cL_soonest 53 = .ok (.ireturn, 1) := by decide +kernel
theorem dL_ordered_0 : decode cL_ordered 0 = .ok (.aload_n 0, 1) := by decide +kernel
theorem dL_ordered_1 : decode cL_ordered 1 = .ok (.invokevirtual 127, 3) := by decide +kernel
theorem dL_ordered_4 : decode cL_ordered 4 = .ok (.istore_n 1, 1) := by decide +kernel
theorem dL_ordered_5 : decode cL_ordered 5 = .ok (.iload_n 1, 1) := by decide +kernel
theorem dL_ordered_6 : decode cL_ordered 6 = .ok (.newarray .int, 2) := by decide +kernel
theorem dL_ordered_8 : decode cL_ordered 8 = .ok (.astore_n 2, 1) := by decide +kernel
theorem dL_ordered_9 : decode cL_ordered 9 = .ok (.iload_n 1, 1) := by decide +kernel
theorem dL_ordered_10 : decode cL_ordered 10 = .ok (.newarray .boolean, 2) := by decide +kernel
theorem dL_ordered_12 : decode cL_ordered 12 = .ok (.astore_n 3, 1) := by decide +kernel
theorem dL_ordered_13 : decode cL_ordered 13 = .ok (.iconst 0, 1) := by decide +kernel
theorem dL_ordered_14 : decode cL_ordered 14 = .ok (.istore 4, 2) := by decide +kernel
theorem dL_ordered_16 : decode cL_ordered 16 = .ok (.iload 4, 2) := by decide +kernel
theorem dL_ordered_18 : decode cL_ordered 18 = .ok (.iload_n 1, 1) := by decide +kernel
theorem dL_ordered_19 : decode cL_ordered 19 = .ok (.if_icmp .ge 69, 3) := by decide +kernel
theorem dL_ordered_22 : decode cL_ordered 22 = .ok (.iconst (-1), 1) := by decide +kernel
theorem dL_ordered_23 : decode cL_ordered 23 = .ok (.istore 5, 2) := by decide +kernel
theorem dL_ordered_25 : decode cL_ordered 25 = .ok (.iconst 0, 1) := by decide +kernel
theorem dL_ordered_26 : decode cL_ordered 26 = .ok (.istore 6, 2) := by decide +kernel
theorem dL_ordered_28 : decode cL_ordered 28 = .ok (.iload 6, 2) := by decide +kernel
theorem dL_ordered_30 : decode cL_ordered 30 = .ok (.iload_n 1, 1) := by decide +kernel
theorem dL_ordered_31 : decode cL_ordered 31 = .ok (.if_icmp .ge 40, 3) := by decide +kernel
theorem dL_ordered_34 : decode cL_ordered 34 = .ok (.iload 5, 2) := by decide +kernel
theorem dL_ordered_36 : decode cL_ordered 36 = .ok (.ifCond .ge 35, 3) := by decide +kernel
theorem dL_ordered_39 : decode cL_ordered 39 = .ok (.aload_n 3, 1) := by decide +kernel
theorem dL_ordered_40 : decode cL_ordered 40 = .ok (.iload 6, 2) := by decide +kernel
theorem dL_ordered_42 : decode cL_ordered 42 = .ok (.baload, 1) := by decide +kernel
theorem dL_ordered_43 : decode cL_ordered 43 = .ok (.ifCond .ne 18, 3) := by decide +kernel
theorem dL_ordered_46 : decode cL_ordered 46 = .ok (.aload_n 0, 1) := by decide +kernel
theorem dL_ordered_47 : decode cL_ordered 47 = .ok (.iload 6, 2) := by decide +kernel
theorem dL_ordered_49 : decode cL_ordered 49 = .ok (.aload_n 3, 1) := by decide +kernel
theorem dL_ordered_50 : decode cL_ordered 50 = .ok (.invokestatic 161, 3) := by decide +kernel
theorem dL_ordered_53 : decode cL_ordered 53 = .ok (.ifCond .eq 8, 3) := by decide +kernel
theorem dL_ordered_56 : decode cL_ordered 56 = .ok (.iload 6, 2) := by decide +kernel
theorem dL_ordered_58 : decode cL_ordered 58 = .ok (.goto 5, 3) := by decide +kernel
theorem dL_ordered_61 : decode cL_ordered 61 = .ok (.iload 5, 2) := by decide +kernel
theorem dL_ordered_63 : decode cL_ordered 63 = .ok (.istore 5, 2) := by decide +kernel
theorem dL_ordered_65 : decode cL_ordered 65 = .ok (.iinc 6 1, 3) := by decide +kernel
theorem dL_ordered_68 : decode cL_ordered 68 = .ok (.goto (-40), 3) := by decide +kernel
theorem dL_ordered_71 : decode cL_ordered 71 = .ok (.aload_n 2, 1) := by decide +kernel
theorem dL_ordered_72 : decode cL_ordered 72 = .ok (.iload 4, 2) := by decide +kernel
theorem dL_ordered_74 : decode cL_ordered 74 = .ok (.iload 5, 2) := by decide +kernel
theorem dL_ordered_76 : decode cL_ordered 76 = .ok (.iastore, 1) := by decide +kernel
theorem dL_ordered_77 : decode cL_ordered 77 = .ok (.aload_n 3, 1) := by decide +kernel
theorem dL_ordered_78 : decode cL_ordered 78 = .ok (.iload 5, 2) := by decide +kernel
theorem dL_ordered_80 : decode cL_ordered 80 = .ok (.iconst 1, 1) := by decide +kernel
theorem dL_ordered_81 : decode cL_ordered 81 = .ok (.bastore, 1) := by decide +kernel
theorem dL_ordered_82 : decode cL_ordered 82 = .ok (.iinc 4 1, 3) := by decide +kernel
theorem dL_ordered_85 : decode cL_ordered 85 = .ok (.goto (-69), 3) := by decide +kernel
theorem dL_ordered_88 : decode cL_ordered 88 = .ok (.aload_n 2, 1) := by decide +kernel
theorem dL_ordered_89 : decode cL_ordered 89 = .ok (.areturn, 1) := by decide +kernel
theorem dL_isFree_0 : decode cL_isFree 0 = .ok (.iconst 1, 1) := by decide +kernel
theorem dL_isFree_1 : decode cL_isFree 1 = .ok (.istore_n 3, 1) := by decide +kernel
theorem dL_isFree_2 : decode cL_isFree 2 = .ok (.iconst 0, 1) := by decide +kernel
theorem dL_isFree_3 : decode cL_isFree 3 = .ok (.istore 4, 2) := by decide +kernel
theorem dL_isFree_5 : decode cL_isFree 5 = .ok (.iload 4, 2) := by decide +kernel
theorem dL_isFree_7 : decode cL_isFree 7 = .ok (.aload_n 2, 1) := by decide +kernel
theorem dL_isFree_8 : decode cL_isFree 8 = .ok (.arraylength, 1) := by decide +kernel
theorem dL_isFree_9 : decode cL_isFree 9 = .ok (.if_icmp .ge 36, 3) := by decide +kernel
theorem dL_isFree_12 : decode cL_isFree 12 = .ok (.iload_n 3, 1) := by decide +kernel
theorem dL_isFree_13 : decode cL_isFree 13 = .ok (.ifCond .eq 24, 3) := by decide +kernel
theorem dL_isFree_16 : decode cL_isFree 16 = .ok (.aload_n 2, 1) := by decide +kernel
theorem dL_isFree_17 : decode cL_isFree 17 = .ok (.iload 4, 2) := by decide +kernel
theorem dL_isFree_19 : decode cL_isFree 19 = .ok (.baload, 1) := by decide +kernel
theorem dL_isFree_20 : decode cL_isFree 20 = .ok (.ifCond .ne 13, 3) := by decide +kernel
theorem dL_isFree_23 : decode cL_isFree 23 = .ok (.aload_n 0, 1) := by decide +kernel
theorem dL_isFree_24 : decode cL_isFree 24 = .ok (.iload_n 1, 1) := by decide +kernel
theorem dL_isFree_25 : decode cL_isFree 25 = .ok (.iload 4, 2) := by decide +kernel
theorem dL_isFree_27 : decode cL_isFree 27 = .ok (.invokevirtual 154, 3) := by decide +kernel
theorem dL_isFree_30 : decode cL_isFree 30 = .ok (.ifCond .ne 7, 3) := by decide +kernel
theorem dL_isFree_33 : decode cL_isFree 33 = .ok (.iconst 1, 1) := by decide +kernel
theorem dL_isFree_34 : decode cL_isFree 34 = .ok (.goto 4, 3) := by decide +kernel
theorem dL_isFree_37 : decode cL_isFree 37 = .ok (.iconst 0, 1) := by decide +kernel
theorem dL_isFree_38 : decode cL_isFree 38 = .ok (.istore_n 3, 1) := by decide +kernel
theorem dL_isFree_39 : decode cL_isFree 39 = .ok (.iinc 4 1, 3) := by decide +kernel
theorem dL_isFree_42 : decode cL_isFree 42 = .ok (.goto (-37), 3) := by decide +kernel
theorem dL_isFree_45 : decode cL_isFree 45 = .ok (.iload_n 3, 1) := by decide +kernel
theorem dL_isFree_46 : decode cL_isFree 46 = .ok (.ireturn, 1) := by decide +kernel
theorem dL_last_0 : decode cL_last 0 = .ok (.iconst 0, 1) := by decide +kernel
theorem dL_last_1 : decode cL_last 1 = .ok (.istore_n 2, 1) := by decide +kernel
theorem dL_last_2 : decode cL_last 2 = .ok (.iconst 0, 1) := by decide +kernel
theorem dL_last_3 : decode cL_last 3 = .ok (.istore_n 3, 1) := by decide +kernel
theorem dL_last_4 : decode cL_last 4 = .ok (.iload_n 3, 1) := by decide +kernel
theorem dL_last_5 : decode cL_last 5 = .ok (.aload_n 1, 1) := by decide +kernel
theorem dL_last_6 : decode cL_last 6 = .ok (.arraylength, 1) := by decide +kernel
theorem dL_last_7 : decode cL_last 7 = .ok (.if_icmp .ge 23, 3) := by decide +kernel
theorem dL_last_10 : decode cL_last 10 = .ok (.iload_n 2, 1) := by decide +kernel
theorem dL_last_11 : decode cL_last 11 = .ok (.aload_n 1, 1) := by decide +kernel
theorem dL_last_12 : decode cL_last 12 = .ok (.iload_n 3, 1) := by decide +kernel
theorem dL_last_13 : decode cL_last 13 = .ok (.iaload, 1) := by decide +kernel
theorem dL_last_14 : decode cL_last 14 = .ok (.aload_n 0, 1) := by decide +kernel
theorem dL_last_15 : decode cL_last 15 = .ok (.iload_n 3, 1) := by decide +kernel
theorem dL_last_16 : decode cL_last 16 = .ok (.invokevirtual 65, 3) := by decide +kernel
theorem dL_last_19 : decode cL_last 19 = .ok (.iadd, 1) := by decide +kernel
theorem dL_last_20 : decode cL_last 20 = .ok (.invokestatic 130, 3) := by decide +kernel
theorem dL_last_23 : decode cL_last 23 = .ok (.istore_n 2, 1) := by decide +kernel
theorem dL_last_24 : decode cL_last 24 = .ok (.iinc 3 1, 3) := by decide +kernel
theorem dL_last_27 : decode cL_last 27 = .ok (.goto (-23), 3) := by decide +kernel
theorem dL_last_30 : decode cL_last 30 = .ok (.iload_n 2, 1) := by decide +kernel
theorem dL_last_31 : decode cL_last 31 = .ok (.ireturn, 1) := by decide +kernel
theorem dL_areDependenciesRight_0 : decode cL_areDependenciesRight 0 = .ok (.aload_n 0, 1) := by decide +kernel
theorem dL_areDependenciesRight_1 : decode cL_areDependenciesRight 1 = .ok (.invokevirtual 127, 3) := by decide +kernel
theorem dL_areDependenciesRight_4 : decode cL_areDependenciesRight 4 = .ok (.istore_n 1, 1) := by decide +kernel
theorem dL_areDependenciesRight_5 : decode cL_areDependenciesRight 5 = .ok (.aload_n 0, 1) := by decide +kernel
theorem dL_areDependenciesRight_6 : decode cL_areDependenciesRight 6 = .ok (.invokestatic 165, 3) := by decide +kernel
theorem dL_areDependenciesRight_9 : decode cL_areDependenciesRight 9 = .ok (.astore_n 2, 1) := by decide +kernel
theorem dL_areDependenciesRight_10 : decode cL_areDependenciesRight 10 = .ok (.aload_n 0, 1) := by decide +kernel
theorem dL_areDependenciesRight_11 : decode cL_areDependenciesRight 11 = .ok (.iconst 1, 1) := by decide +kernel
theorem dL_areDependenciesRight_12 : decode cL_areDependenciesRight 12 = .ok (.iload_n 1, 1) := by decide +kernel
theorem dL_areDependenciesRight_13 : decode cL_areDependenciesRight 13 = .ok (.iconst 0, 1) := by decide +kernel
theorem dL_areDependenciesRight_14 : decode cL_areDependenciesRight 14 = .ok (.invokestatic 151, 3) := by decide +kernel
theorem dL_areDependenciesRight_17 : decode cL_areDependenciesRight 17 = .ok (.sipush (-2002), 3) := by decide +kernel
theorem dL_areDependenciesRight_20 : decode cL_areDependenciesRight 20 = .ok (.if_icmp .ne 46, 3) := by decide +kernel
theorem dL_areDependenciesRight_23 : decode cL_areDependenciesRight 23 = .ok (.aload_n 0, 1) := by decide +kernel
theorem dL_areDependenciesRight_24 : decode cL_areDependenciesRight 24 = .ok (.iconst 0, 1) := by decide +kernel
theorem dL_areDependenciesRight_25 : decode cL_areDependenciesRight 25 = .ok (.iconst (-1), 1) := by decide +kernel
theorem dL_areDependenciesRight_26 : decode cL_areDependenciesRight 26 = .ok (.iconst 0, 1) := by decide +kernel
theorem dL_areDependenciesRight_27 : decode cL_areDependenciesRight 27 = .ok (.invokestatic 151, 3) := by decide +kernel
theorem dL_areDependenciesRight_30 : decode cL_areDependenciesRight 30 = .ok (.sipush (-2002), 3) := by decide +kernel
theorem dL_areDependenciesRight_33 : decode cL_areDependenciesRight 33 = .ok (.if_icmp .ne 33, 3) := by decide +kernel
theorem dL_areDependenciesRight_36 : decode cL_areDependenciesRight 36 = .ok (.aload_n 0, 1) := by decide +kernel
theorem dL_areDependenciesRight_37 : decode cL_areDependenciesRight 37 = .ok (.iconst 2, 1) := by decide +kernel
theorem dL_areDependenciesRight_38 : decode cL_areDependenciesRight 38 = .ok (.iload_n 1, 1) := by decide +kernel
theorem dL_areDependenciesRight_39 : decode cL_areDependenciesRight 39 = .ok (.iconst 0, 1) := by decide +kernel
theorem dL_areDependenciesRight_40 : decode cL_areDependenciesRight 40 = .ok (.invokestatic 151, 3) := by decide +kernel
theorem dL_areDependenciesRight_43 : decode cL_areDependenciesRight 43 = .ok (.sipush (-2004), 3) := by decide +kernel
theorem dL_areDependenciesRight_46 : decode cL_areDependenciesRight 46 = .ok (.if_icmp .ne 20, 3) := by decide +kernel
theorem dL_areDependenciesRight_49 : decode cL_areDependenciesRight 49 = .ok (.aload_n 0, 1) := by decide +kernel
theorem dL_areDependenciesRight_50 : decode cL_areDependenciesRight 50 = .ok (.iconst 2, 1) := by decide +kernel
theorem dL_areDependenciesRight_51 : decode cL_areDependenciesRight 51 = .ok (.iconst (-1), 1) := by decide +kernel
theorem dL_areDependenciesRight_52 : decode cL_areDependenciesRight 52 = .ok (.iconst 0, 1) := by decide +kernel
theorem dL_areDependenciesRight_53 : decode cL_areDependenciesRight 53 = .ok (.invokestatic 151, 3) := by decide +kernel
theorem dL_areDependenciesRight_56 : decode cL_areDependenciesRight 56 = .ok (.sipush (-2004), 3) := by decide +kernel
theorem dL_areDependenciesRight_59 : decode cL_areDependenciesRight 59 = .ok (.if_icmp .ne 7, 3) := by decide +kernel
theorem dL_areDependenciesRight_62 : decode cL_areDependenciesRight 62 = .ok (.iconst 1, 1) := by decide +kernel
theorem dL_areDependenciesRight_63 : decode cL_areDependenciesRight 63 = .ok (.goto 4, 3) := by decide +kernel
theorem dL_areDependenciesRight_66 : decode cL_areDependenciesRight 66 = .ok (.iconst 0, 1) := by decide +kernel
theorem dL_areDependenciesRight_67 : decode cL_areDependenciesRight 67 = .ok (.istore_n 3, 1) := by decide +kernel
theorem dL_areDependenciesRight_68 : decode cL_areDependenciesRight 68 = .ok (.iconst 0, 1) := by decide +kernel
theorem dL_areDependenciesRight_69 : decode cL_areDependenciesRight 69 = .ok (.istore 4, 2) := by decide +kernel
theorem dL_areDependenciesRight_71 : decode cL_areDependenciesRight 71 = .ok (.iload 4, 2) := by decide +kernel
theorem dL_areDependenciesRight_73 : decode cL_areDependenciesRight 73 = .ok (.iload_n 1, 1) := by decide +kernel
theorem dL_areDependenciesRight_74 : decode cL_areDependenciesRight 74 = .ok (.if_icmp .ge 164, 3) := by decide +kernel
theorem dL_areDependenciesRight_77 : decode cL_areDependenciesRight 77 = .ok (.iconst 0, 1) := by decide +kernel
theorem dL_areDependenciesRight_78 : decode cL_areDependenciesRight 78 = .ok (.istore 5, 2) := by decide +kernel
theorem dL_areDependenciesRight_80 : decode cL_areDependenciesRight 80 = .ok (.iconst 0, 1) := by decide +kernel
theorem dL_areDependenciesRight_81 : decode cL_areDependenciesRight 81 = .ok (.istore 6, 2) := by decide +kernel
theorem dL_areDependenciesRight_83 : decode cL_areDependenciesRight 83 = .ok (.iconst 0, 1) := by decide +kernel
theorem dL_areDependenciesRight_84 : decode cL_areDependenciesRight 84 = .ok (.istore 7, 2) := by decide +kernel
theorem dL_areDependenciesRight_86 : decode cL_areDependenciesRight 86 = .ok (.iload 7, 2) := by decide +kernel
theorem dL_areDependenciesRight_88 : decode cL_areDependenciesRight 88 = .ok (.iload_n 1, 1) := by decide +kernel
theorem dL_areDependenciesRight_89 : decode cL_areDependenciesRight 89 = .ok (.if_icmp .ge 87, 3) := by decide +kernel
theorem dL_areDependenciesRight_92 : decode cL_areDependenciesRight 92 = .ok (.aload_n 0, 1) := by decide +kernel
theorem dL_areDependenciesRight_93 : decode cL_areDependenciesRight 93 = .ok (.iload 4, 2) := by decide +kernel
theorem dL_areDependenciesRight_95 : decode cL_areDependenciesRight 95 = .ok (.iload 7, 2) := by decide +kernel
theorem dL_areDependenciesRight_97 : decode cL_areDependenciesRight 97 = .ok (.invokestatic 157, 3) := by decide +kernel
theorem dL_areDependenciesRight_100 : decode cL_areDependenciesRight 100 = .ok (.istore 8, 2) := by decide +kernel
theorem dL_areDependenciesRight_102 : decode cL_areDependenciesRight 102 = .ok (.iload 5, 2) := by decide +kernel
theorem dL_areDependenciesRight_104 : decode cL_areDependenciesRight 104 = .ok (.aload_n 0, 1) := by decide +kernel
theorem dL_areDependenciesRight_105 : decode cL_areDependenciesRight 105 = .ok (.iload 4, 2) := by decide +kernel
theorem dL_areDependenciesRight_107 : decode cL_areDependenciesRight 107 = .ok (.iload 7, 2) := by decide +kernel
theorem dL_areDependenciesRight_109 : decode cL_areDependenciesRight 109 = .ok (.invokevirtual 154, 3) := by decide +kernel
theorem dL_areDependenciesRight_112 : decode cL_areDependenciesRight 112 = .ok (.invokestatic 29, 3) := by decide +kernel
theorem dL_areDependenciesRight_115 : decode cL_areDependenciesRight 115 = .ok (.iadd, 1) := by decide +kernel
theorem dL_areDependenciesRight_116 : decode cL_areDependenciesRight 116 = .ok (.istore 5, 2) := by decide +kernel
theorem dL_areDependenciesRight_118 : decode cL_areDependenciesRight 118 = .ok (.iload 6, 2) := by decide +kernel
theorem dL_areDependenciesRight_120 : decode cL_areDependenciesRight 120 = .ok (.aload_n 0, 1) := by decide +kernel
theorem dL_areDependenciesRight_121 : decode cL_areDependenciesRight 121 = .ok (.iload 7, 2) := by decide +kernel
theorem dL_areDependenciesRight_123 : decode cL_areDependenciesRight 123 = .ok (.iload 4, 2) := by decide +kernel
theorem dL_areDependenciesRight_125 : decode cL_areDependenciesRight 125 = .ok (.invokevirtual 154, 3) := by decide +kernel
theorem dL_areDependenciesRight_128 : decode cL_areDependenciesRight 128 = .ok (.invokestatic 29, 3) := by decide +kernel
theorem dL_areDependenciesRight_131 : decode cL_areDependenciesRight 131 = .ok (.iadd, 1) := by decide +kernel
theorem dL_areDependenciesRight_132 : decode cL_areDependenciesRight 132 = .ok (.istore 6, 2) := by decide +kernel
theorem dL_areDependenciesRight_134 : decode cL_areDependenciesRight 134 = .ok (.iload_n 3, 1) := by decide +kernel
theorem dL_areDependenciesRight_135 : decode cL_areDependenciesRight 135 = .ok (.ifCond .eq 33, 3) := by decide +kernel
theorem dL_areDependenciesRight_138 : decode cL_areDependenciesRight 138 = .ok (.aload_n 0, 1) := by decide +kernel
theorem dL_areDependenciesRight_139 : decode cL_areDependenciesRight 139 = .ok (.iload 4, 2) := by decide +kernel
theorem dL_areDependenciesRight_141 : decode cL_areDependenciesRight 141 = .ok (.iload 7, 2) := by decide +kernel
theorem dL_areDependenciesRight_143 : decode cL_areDependenciesRight 143 = .ok (.invokevirtual 68, 3) := by decide +kernel
theorem dL_areDependenciesRight_146 : decode cL_areDependenciesRight 146 = .ok (.iload 8, 2) := by decide +kernel
theorem dL_areDependenciesRight_148 : decode cL_areDependenciesRight 148 = .ok (.if_icmp .ne 20, 3) := by decide +kernel
theorem dL_areDependenciesRight_151 : decode cL_areDependenciesRight 151 = .ok (.aload_n 0, 1) := by decide +kernel
theorem dL_areDependenciesRight_152 : decode cL_areDependenciesRight 152 = .ok (.iload 4, 2) := by decide +kernel
theorem dL_areDependenciesRight_154 : decode cL_areDependenciesRight 154 = .ok (.iload 7, 2) := by decide +kernel
theorem dL_areDependenciesRight_156 : decode cL_areDependenciesRight 156 = .ok (.invokevirtual 169, 3) := by decide +kernel
theorem dL_areDependenciesRight_159 : decode cL_areDependenciesRight 159 = .ok (.iload 8, 2) := by decide +kernel
theorem dL_areDependenciesRight_161 : decode cL_areDependenciesRight 161 = .ok (.if_icmp .ne 7, 3) := by decide +kernel
theorem dL_areDependenciesRight_164 : decode cL_areDependenciesRight 164 = .ok (.iconst 1, 1) := by decide +kernel
theorem dL_areDependenciesRight_165 : decode cL_areDependenciesRight 165 = .ok (.goto 4, 3) := by decide +kernel
theorem dL_areDependenciesRight_168 : decode cL_areDependenciesRight 168 = .ok (.iconst 0, 1) := by decide +kernel
theorem dL_areDependenciesRight_169 : decode cL_areDependenciesRight 169 = .ok (.istore_n 3, 1) := by decide +kernel
theorem dL_areDependenciesRight_170 : decode cL_areDependenciesRight 170 = .ok (.iinc 7 1, 3) := by decide +kernel
theorem dL_areDependenciesRight_173 : decode cL_areDependenciesRight 173 = .ok (.goto (-87), 3) := by decide +kernel
theorem dL_areDependenciesRight_176 : decode cL_areDependenciesRight 176 = .ok (.iload_n 3, 1) := by decide +kernel
theorem dL_areDependenciesRight_177 : decode cL_areDependenciesRight 177 = .ok (.ifCond .eq 53, 3) := by decide +kernel
theorem dL_areDependenciesRight_180 : decode cL_areDependenciesRight 180 = .ok (.aload_n 0, 1) := by decide +kernel
theorem dL_areDependenciesRight_181 : decode cL_areDependenciesRight 181 = .ok (.iload 4, 2) := by decide +kernel
theorem dL_areDependenciesRight_183 : decode cL_areDependenciesRight 183 = .ok (.invokevirtual 172, 3) := by decide +kernel
theorem dL_areDependenciesRight_186 : decode cL_areDependenciesRight 186 = .ok (.iload 5, 2) := by decide +kernel
theorem dL_areDependenciesRight_188 : decode cL_areDependenciesRight 188 = .ok (.if_icmp .ne 42, 3) := by decide +kernel
theorem dL_areDependenciesRight_191 : decode cL_areDependenciesRight 191 = .ok (.aload_n 0, 1) := by decide +kernel
theorem dL_areDependenciesRight_192 : decode cL_areDependenciesRight 192 = .ok (.iload 4, 2) := by decide +kernel
theorem dL_areDependenciesRight_194 : decode cL_areDependenciesRight 194 = .ok (.invokevirtual 175, 3) := by decide +kernel
theorem dL_areDependenciesRight_197 : decode cL_areDependenciesRight 197 = .ok (.iload 6, 2) := by decide +kernel
theorem dL_areDependenciesRight_199 : decode cL_areDependenciesRight 199 = .ok (.if_icmp .ne 31, 3) := by decide +kernel
theorem dL_areDependenciesRight_202 : decode cL_areDependenciesRight 202 = .ok (.aload_n 0, 1) := by decide +kernel
theorem dL_areDependenciesRight_203 : decode cL_areDependenciesRight 203 = .ok (.iload 4, 2) := by decide +kernel
theorem dL_areDependenciesRight_205 : decode cL_areDependenciesRight 205 = .ok (.iload 4, 2) := by decide +kernel
theorem dL_areDependenciesRight_207 : decode cL_areDependenciesRight 207 = .ok (.invokevirtual 68, 3) := by decide +kernel
theorem dL_areDependenciesRight_210 : decode cL_areDependenciesRight 210 = .ok (.ifCond .ne 20, 3) := by decide +kernel
theorem dL_areDependenciesRight_213 : decode cL_areDependenciesRight 213 = .ok (.aload_n 0, 1) := by decide +kernel
theorem dL_areDependenciesRight_214 : decode cL_areDependenciesRight 214 = .ok (.iload 4, 2) := by decide +kernel
theorem dL_areDependenciesRight_216 : decode cL_areDependenciesRight 216 = .ok (.invokevirtual 71, 3) := by decide +kernel
theorem dL_areDependenciesRight_219 : decode cL_areDependenciesRight 219 = .ok (.aload_n 2, 1) := by decide +kernel
theorem dL_areDependenciesRight_220 : decode cL_areDependenciesRight 220 = .ok (.iload 4, 2) := by decide +kernel
theorem dL_areDependenciesRight_222 : decode cL_areDependenciesRight 222 = .ok (.iaload, 1) := by decide +kernel
theorem dL_areDependenciesRight_223 : decode cL_areDependenciesRight 223 = .ok (.if_icmp .ne 7, 3) := by decide +kernel
theorem dL_areDependenciesRight_226 : decode cL_areDependenciesRight 226 = .ok (.iconst 1, 1) := by decide +kernel
theorem dL_areDependenciesRight_227 : decode cL_areDependenciesRight 227 = .ok (.goto 4, 3) := by decide +kernel
theorem dL_areDependenciesRight_230 : decode cL_areDependenciesRight 230 = .ok (.iconst 0, 1) := by decide +kernel
theorem dL_areDependenciesRight_231 : decode cL_areDependenciesRight 231 = .ok (.istore_n 3, 1) := by decide +kernel
theorem dL_areDependenciesRight_232 : decode cL_areDependenciesRight 232 = .ok (.iinc 4 1, 3) := by decide +kernel
theorem dL_areDependenciesRight_235 : decode cL_areDependenciesRight 235 = .ok (.goto (-164), 3) := by decide +kernel
theorem dL_areDependenciesRight_238 : decode cL_areDependenciesRight 238 = .ok (.iload_n 3, 1) := by decide +kernel
theorem dL_areDependenciesRight_239 : decode cL_areDependenciesRight 239 = .ok (.ireturn, 1) := by decide +kernel
theorem dL_earliest_0 : decode cL_earliest 0 = .ok (.aload_n 0, 1) := by decide +kernel
theorem dL_earliest_1 : decode cL_earliest 1 = .ok (.invokestatic 165, 3) := by decide +kernel
theorem dL_earliest_4 : decode cL_earliest 4 = .ok (.astore_n 1, 1) := by decide +kernel
theorem dL_earliest_5 : decode cL_earliest 5 = .ok (.aload_n 1, 1) := by decide +kernel
theorem dL_earliest_6 : decode cL_earliest 6 = .ok (.arraylength, 1) := by decide +kernel
theorem dL_earliest_7 : decode cL_earliest 7 = .ok (.newarray .int, 2) := by decide +kernel
theorem dL_earliest_9 : decode cL_earliest 9 = .ok (.astore_n 2, 1) := by decide +kernel
theorem dL_earliest_10 : decode cL_earliest 10 = .ok (.iconst 0, 1) := by decide +kernel
theorem dL_earliest_11 : decode cL_earliest 11 = .ok (.istore_n 3, 1) := by decide +kernel
theorem dL_earliest_12 : decode cL_earliest 12 = .ok (.iload_n 3, 1) := by decide +kernel
theorem dL_earliest_13 : decode cL_earliest 13 = .ok (.aload_n 1, 1) := by decide +kernel
theorem dL_earliest_14 : decode cL_earliest 14 = .ok (.arraylength, 1) := by decide +kernel
theorem dL_earliest_15 : decode cL_earliest 15 = .ok (.if_icmp .ge 22, 3) := by decide +kernel
theorem dL_earliest_18 : decode cL_earliest 18 = .ok (.aload_n 2, 1) := by decide +kernel
theorem dL_earliest_19 : decode cL_earliest 19 = .ok (.aload_n 1, 1) := by decide +kernel
theorem dL_earliest_20 : decode cL_earliest 20 = .ok (.iload_n 3, 1) := by decide +kernel
theorem dL_earliest_21 : decode cL_earliest 21 = .ok (.iaload, 1) := by decide +kernel
theorem dL_earliest_22 : decode cL_earliest 22 = .ok (.aload_n 0, 1) := by decide +kernel
theorem dL_earliest_23 : decode cL_earliest 23 = .ok (.aload_n 1, 1) := by decide +kernel
theorem dL_earliest_24 : decode cL_earliest 24 = .ok (.iload_n 3, 1) := by decide +kernel
theorem dL_earliest_25 : decode cL_earliest 25 = .ok (.iaload, 1) := by decide +kernel
theorem dL_earliest_26 : decode cL_earliest 26 = .ok (.aload_n 2, 1) := by decide +kernel
theorem dL_earliest_27 : decode cL_earliest 27 = .ok (.invokestatic 178, 3) := by decide +kernel
theorem dL_earliest_30 : decode cL_earliest 30 = .ok (.iastore, 1) := by decide +kernel
theorem dL_earliest_31 : decode cL_earliest 31 = .ok (.iinc 3 1, 3) := by decide +kernel
theorem dL_earliest_34 : decode cL_earliest 34 = .ok (.goto (-22), 3) := by decide +kernel
theorem dL_earliest_37 : decode cL_earliest 37 = .ok (.aload_n 2, 1) := by decide +kernel
theorem dL_earliest_38 : decode cL_earliest 38 = .ok (.areturn, 1) := by decide +kernel
theorem dL_latest_0 : decode cL_latest 0 = .ok (.aload_n 0, 1) := by decide +kernel
theorem dL_latest_1 : decode cL_latest 1 = .ok (.invokestatic 165, 3) := by decide +kernel
theorem dL_latest_4 : decode cL_latest 4 = .ok (.astore_n 2, 1) := by decide +kernel
theorem dL_latest_5 : decode cL_latest 5 = .ok (.aload_n 2, 1) := by decide +kernel
theorem dL_latest_6 : decode cL_latest 6 = .ok (.arraylength, 1) := by decide +kernel
theorem dL_latest_7 : decode cL_latest 7 = .ok (.newarray .int, 2) := by decide +kernel
theorem dL_latest_9 : decode cL_latest 9 = .ok (.astore_n 3, 1) := by decide +kernel
theorem dL_latest_10 : decode cL_latest 10 = .ok (.aload_n 2, 1) := by decide +kernel
theorem dL_latest_11 : decode cL_latest 11 = .ok (.arraylength, 1) := by decide +kernel
theorem dL_latest_12 : decode cL_latest 12 = .ok (.iconst 1, 1) := by decide +kernel
theorem dL_latest_13 : decode cL_latest 13 = .ok (.isub, 1) := by decide +kernel
theorem dL_latest_14 : decode cL_latest 14 = .ok (.istore 4, 2) := by decide +kernel
theorem dL_latest_16 : decode cL_latest 16 = .ok (.iload 4, 2) := by decide +kernel
theorem dL_latest_18 : decode cL_latest 18 = .ok (.ifCond .lt 74, 3) := by decide +kernel
theorem dL_latest_21 : decode cL_latest 21 = .ok (.aload_n 2, 1) := by decide +kernel
theorem dL_latest_22 : decode cL_latest 22 = .ok (.iload 4, 2) := by decide +kernel
theorem dL_latest_24 : decode cL_latest 24 = .ok (.iaload, 1) := by decide +kernel
theorem dL_latest_25 : decode cL_latest 25 = .ok (.istore 5, 2) := by decide +kernel
theorem dL_latest_27 : decode cL_latest 27 = .ok (.iload_n 1, 1) := by decide +kernel
theorem dL_latest_28 : decode cL_latest 28 = .ok (.istore 6, 2) := by decide +kernel
theorem dL_latest_30 : decode cL_latest 30 = .ok (.iconst 0, 1) := by decide +kernel
theorem dL_latest_31 : decode cL_latest 31 = .ok (.istore 7, 2) := by decide +kernel
theorem dL_latest_33 : decode cL_latest 33 = .ok (.iload 7, 2) := by decide +kernel
theorem dL_latest_35 : decode cL_latest 35 = .ok (.aload_n 2, 1) := by decide +kernel
theorem dL_latest_36 : decode cL_latest 36 = .ok (.arraylength, 1) := by decide +kernel
theorem dL_latest_37 : decode cL_latest 37 = .ok (.if_icmp .ge 36, 3) := by decide +kernel
theorem dL_latest_40 : decode cL_latest 40 = .ok (.aload_n 0, 1) := by decide +kernel
theorem dL_latest_41 : decode cL_latest 41 = .ok (.iload 7, 2) := by decide +kernel
theorem dL_latest_43 : decode cL_latest 43 = .ok (.iload 5, 2) := by decide +kernel
theorem dL_latest_45 : decode cL_latest 45 = .ok (.invokevirtual 154, 3) := by decide +kernel
theorem dL_latest_48 : decode cL_latest 48 = .ok (.ifCond .eq 15, 3) := by decide +kernel
theorem dL_latest_51 : decode cL_latest 51 = .ok (.iload 6, 2) := by decide +kernel
theorem dL_latest_53 : decode cL_latest 53 = .ok (.aload_n 3, 1) := by decide +kernel
theorem dL_latest_54 : decode cL_latest 54 = .ok (.iload 7, 2) := by decide +kernel
theorem dL_latest_56 : decode cL_latest 56 = .ok (.iaload, 1) := by decide +kernel
theorem dL_latest_57 : decode cL_latest 57 = .ok (.invokestatic 182, 3) := by decide +kernel
theorem dL_latest_60 : decode cL_latest 60 = .ok (.goto 5, 3) := by decide +kernel
theorem dL_latest_63 : decode cL_latest 63 = .ok (.iload 6, 2) := by decide +kernel
theorem dL_latest_65 : decode cL_latest 65 = .ok (.istore 6, 2) := by decide +kernel
theorem dL_latest_67 : decode cL_latest 67 = .ok (.iinc 7 1, 3) := by decide +kernel
theorem dL_latest_70 : decode cL_latest 70 = .ok (.goto (-37), 3) := by decide +kernel
theorem dL_latest_73 : decode cL_latest 73 = .ok (.aload_n 3, 1) := by decide +kernel
theorem dL_latest_74 : decode cL_latest 74 = .ok (.iload 5, 2) := by decide +kernel
theorem dL_latest_76 : decode cL_latest 76 = .ok (.iload 6, 2) := by decide +kernel
theorem dL_latest_78 : decode cL_latest 78 = .ok (.aload_n 0, 1) := by decide +kernel
theorem dL_latest_79 : decode cL_latest 79 = .ok (.iload 5, 2) := by decide +kernel
theorem dL_latest_81 : decode cL_latest 81 = .ok (.invokevirtual 65, 3) := by decide +kernel
theorem dL_latest_84 : decode cL_latest 84 = .ok (.isub, 1) := by decide +kernel
theorem dL_latest_85 : decode cL_latest 85 = .ok (.iastore, 1) := by decide +kernel
theorem dL_latest_86 : decode cL_latest 86 = .ok (.iinc 4 (-1), 3) := by decide +kernel
theorem dL_latest_89 : decode cL_latest 89 = .ok (.goto (-73), 3) := by decide +kernel
theorem dL_latest_92 : decode cL_latest 92 = .ok (.aload_n 3, 1) := by decide +kernel
theorem dL_latest_93 : decode cL_latest 93 = .ok (.areturn, 1) := by decide +kernel
theorem dL_areStartsRight_0 : decode cL_areStartsRight 0 = .ok (.aload_n 1, 1) := by decide +kernel
theorem dL_areStartsRight_1 : decode cL_areStartsRight 1 = .ok (.arraylength, 1) := by decide +kernel
theorem dL_areStartsRight_2 : decode cL_areStartsRight 2 = .ok (.istore_n 3, 1) := by decide +kernel
theorem dL_areStartsRight_3 : decode cL_areStartsRight 3 = .ok (.aload_n 0, 1) := by decide +kernel
theorem dL_areStartsRight_4 : decode cL_areStartsRight 4 = .ok (.aload_n 1, 1) := by decide +kernel
theorem dL_areStartsRight_5 : decode cL_areStartsRight 5 = .ok (.invokestatic 185, 3) := by decide +kernel
theorem dL_areStartsRight_8 : decode cL_areStartsRight 8 = .ok (.istore 4, 2) := by decide +kernel
theorem dL_areStartsRight_10 : decode cL_areStartsRight 10 = .ok (.iconst 0, 1) := by decide +kernel
theorem dL_areStartsRight_11 : decode cL_areStartsRight 11 = .ok (.istore 5, 2) := by decide +kernel
theorem dL_areStartsRight_13 : decode cL_areStartsRight 13 = .ok (.iconst 0, 1) := by decide +kernel
theorem dL_areStartsRight_14 : decode cL_areStartsRight 14 = .ok (.istore 6, 2) := by decide +kernel
theorem dL_areStartsRight_16 : decode cL_areStartsRight 16 = .ok (.sipush (-2004), 3) := by decide +kernel
theorem dL_areStartsRight_19 : decode cL_areStartsRight 19 = .ok (.istore 7, 2) := by decide +kernel
theorem dL_areStartsRight_21 : decode cL_areStartsRight 21 = .ok (.aload_n 0, 1) := by decide +kernel
theorem dL_areStartsRight_22 : decode cL_areStartsRight 22 = .ok (.invokevirtual 189, 3) := by decide +kernel
theorem dL_areStartsRight_25 : decode cL_areStartsRight 25 = .ok (.iload 4, 2) := by decide +kernel
theorem dL_areStartsRight_27 : decode cL_areStartsRight 27 = .ok (.if_icmp .ne 20, 3) := by decide +kernel
theorem dL_areStartsRight_30 : decode cL_areStartsRight 30 = .ok (.aload_n 0, 1) := by decide +kernel
theorem dL_areStartsRight_31 : decode cL_areStartsRight 31 = .ok (.iconst 3, 1) := by decide +kernel
theorem dL_areStartsRight_32 : decode cL_areStartsRight 32 = .ok (.iload_n 3, 1) := by decide +kernel
theorem dL_areStartsRight_33 : decode cL_areStartsRight 33 = .ok (.iconst 0, 1) := by decide +kernel
theorem dL_areStartsRight_34 : decode cL_areStartsRight 34 = .ok (.invokestatic 151, 3) := by decide +kernel
theorem dL_areStartsRight_37 : decode cL_areStartsRight 37 = .ok (.sipush (-2002), 3) := by decide +kernel
theorem dL_areStartsRight_40 : decode cL_areStartsRight 40 = .ok (.if_icmp .ne 7, 3) := by decide +kernel
theorem dL_areStartsRight_43 : decode cL_areStartsRight 43 = .ok (.iconst 1, 1) := by decide +kernel
theorem dL_areStartsRight_44 : decode cL_areStartsRight 44 = .ok (.goto 4, 3) := by decide +kernel
theorem dL_areStartsRight_47 : decode cL_areStartsRight 47 = .ok (.iconst 0, 1) := by decide +kernel
theorem dL_areStartsRight_48 : decode cL_areStartsRight 48 = .ok (.istore 8, 2) := by decide +kernel
theorem dL_areStartsRight_50 : decode cL_areStartsRight 50 = .ok (.iconst 0, 1) := by decide +kernel
theorem dL_areStartsRight_51 : decode cL_areStartsRight 51 = .ok (.istore 9, 2) := by decide +kernel
theorem dL_areStartsRight_53 : decode cL_areStartsRight 53 = .ok (.iload 9, 2) := by decide +kernel
theorem dL_areStartsRight_55 : decode cL_areStartsRight 55 = .ok (.iload_n 3, 1) := by decide +kernel
theorem dL_areStartsRight_56 : decode cL_areStartsRight 56 = .ok (.if_icmp .ge 161, 3) := by decide +kernel
theorem dL_areStartsRight_59 : decode cL_areStartsRight 59 = .ok (.aload_n 2, 1) := by decide +kernel
