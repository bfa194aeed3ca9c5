theorem dX12_isWord_0 : decode cX12_isWord 0 = .ok (.iload_n 1, 1) := by decide +kernel
theorem dX12_isWord_1 : decode cX12_isWord 1 = .ok (.i2l, 1) := by decide +kernel
theorem dX12_isWord_2 : decode cX12_isWord 2 = .ok (.ldc2_w 214, 3) := by decide +kernel
theorem dX12_isWord_5 : decode cX12_isWord 5 = .ok (.lsub, 1) := by decide +kernel
theorem dX12_isWord_6 : decode cX12_isWord 6 = .ok (.ldc2_w 212, 3) := by decide +kernel
theorem dX12_isWord_9 : decode cX12_isWord 9 = .ok (.lmul, 1) := by decide +kernel
theorem dX12_isWord_10 : decode cX12_isWord 10 = .ok (.iload_n 2, 1) := by decide +kernel
theorem dX12_isWord_11 : decode cX12_isWord 11 = .ok (.i2l, 1) := by decide +kernel
theorem dX12_isWord_12 : decode cX12_isWord 12 = .ok (.ladd, 1) := by decide +kernel
theorem dX12_isWord_13 : decode cX12_isWord 13 = .ok (.ldc2_w 214, 3) := by decide +kernel
theorem dX12_isWord_16 : decode cX12_isWord 16 = .ok (.lsub, 1) := by decide +kernel
theorem dX12_isWord_17 : decode cX12_isWord 17 = .ok (.lstore 8, 2) := by decide +kernel
theorem dX12_isWord_19 : decode cX12_isWord 19 = .ok (.iload_n 3, 1) := by decide +kernel
theorem dX12_isWord_20 : decode cX12_isWord 20 = .ok (.ifCond .ne 8, 3) := by decide +kernel
theorem dX12_isWord_23 : decode cX12_isWord 23 = .ok (.lload 8, 2) := by decide +kernel
theorem dX12_isWord_25 : decode cX12_isWord 25 = .ok (.goto 16, 3) := by decide +kernel
theorem dX12_isWord_28 : decode cX12_isWord 28 = .ok (.lload 8, 2) := by decide +kernel
theorem dX12_isWord_30 : decode cX12_isWord 30 = .ok (.ldc2_w 212, 3) := by decide +kernel
theorem dX12_isWord_33 : decode cX12_isWord 33 = .ok (.lmul, 1) := by decide +kernel
theorem dX12_isWord_34 : decode cX12_isWord 34 = .ok (.iload_n 3, 1) := by decide +kernel
theorem dX12_isWord_35 : decode cX12_isWord 35 = .ok (.i2l, 1) := by decide +kernel
theorem dX12_isWord_36 : decode cX12_isWord 36 = .ok (.ladd, 1) := by decide +kernel
theorem dX12_isWord_37 : decode cX12_isWord 37 = .ok (.ldc2_w 214, 3) := by decide +kernel
theorem dX12_isWord_40 : decode cX12_isWord 40 = .ok (.lsub, 1) := by decide +kernel
theorem dX12_isWord_41 : decode cX12_isWord 41 = .ok (.lstore 8, 2) := by decide +kernel
theorem dX12_isWord_43 : decode cX12_isWord 43 = .ok (.iload 4, 2) := by decide +kernel
theorem dX12_isWord_45 : decode cX12_isWord 45 = .ok (.ifCond .ne 8, 3) := by decide +kernel
theorem dX12_isWord_48 : decode cX12_isWord 48 = .ok (.lload 8, 2) := by decide +kernel
theorem dX12_isWord_50 : decode cX12_isWord 50 = .ok (.goto 17, 3) := by decide +kernel
theorem dX12_isWord_53 : decode cX12_isWord 53 = .ok (.lload 8, 2) := by decide +kernel
theorem dX12_isWord_55 : decode cX12_isWord 55 = .ok (.ldc2_w 212, 3) := by decide +kernel
theorem dX12_isWord_58 : decode cX12_isWord 58 = .ok (.lmul, 1) := by decide +kernel
theorem dX12_isWord_59 : decode cX12_isWord 59 = .ok (.iload 4, 2) := by decide +kernel
theorem dX12_isWord_61 : decode cX12_isWord 61 = .ok (.i2l, 1) := by decide +kernel
theorem dX12_isWord_62 : decode cX12_isWord 62 = .ok (.ladd, 1) := by decide +kernel
theorem dX12_isWord_63 : decode cX12_isWord 63 = .ok (.ldc2_w 214, 3) := by decide +kernel
theorem dX12_isWord_66 : decode cX12_isWord 66 = .ok (.lsub, 1) := by decide +kernel
theorem dX12_isWord_67 : decode cX12_isWord 67 = .ok (.lstore 8, 2) := by decide +kernel
theorem dX12_isWord_69 : decode cX12_isWord 69 = .ok (.iload 5, 2) := by decide +kernel
theorem dX12_isWord_71 : decode cX12_isWord 71 = .ok (.ifCond .ne 8, 3) := by decide +kernel
theorem dX12_isWord_74 : decode cX12_isWord 74 = .ok (.lload 8, 2) := by decide +kernel
theorem dX12_isWord_76 : decode cX12_isWord 76 = .ok (.goto 17, 3) := by decide +kernel
theorem dX12_isWord_79 : decode cX12_isWord 79 = .ok (.lload 8, 2) := by decide +kernel
theorem dX12_isWord_81 : decode cX12_isWord 81 = .ok (.ldc2_w 212, 3) := by decide +kernel
theorem dX12_isWord_84 : decode cX12_isWord 84 = .ok (.lmul, 1) := by decide +kernel
theorem dX12_isWord_85 : decode cX12_isWord 85 = .ok (.iload 5, 2) := by decide +kernel
theorem dX12_isWord_87 : decode cX12_isWord 87 = .ok (.i2l, 1) := by decide +kernel
theorem dX12_isWord_88 : decode cX12_isWord 88 = .ok (.ladd, 1) := by decide +kernel
theorem dX12_isWord_89 : decode cX12_isWord 89 = .ok (.ldc2_w 214, 3) := by decide +kernel
theorem dX12_isWord_92 : decode cX12_isWord 92 = .ok (.lsub, 1) := by decide +kernel
theorem dX12_isWord_93 : decode cX12_isWord 93 = .ok (.lstore 8, 2) := by decide +kernel
theorem dX12_isWord_95 : decode cX12_isWord 95 = .ok (.iload 6, 2) := by decide +kernel
theorem dX12_isWord_97 : decode cX12_isWord 97 = .ok (.ifCond .ne 8, 3) := by decide +kernel
theorem dX12_isWord_100 : decode cX12_isWord 100 = .ok (.lload 8, 2) := by decide +kernel
theorem dX12_isWord_102 : decode cX12_isWord 102 = .ok (.goto 17, 3) := by decide +kernel
theorem dX12_isWord_105 : decode cX12_isWord 105 = .ok (.lload 8, 2) := by decide +kernel
theorem dX12_isWord_107 : decode cX12_isWord 107 = .ok (.ldc2_w 212, 3) := by decide +kernel
theorem dX12_isWord_110 : decode cX12_isWord 110 = .ok (.lmul, 1) := by decide +kernel
theorem dX12_isWord_111 : decode cX12_isWord 111 = .ok (.iload 6, 2) := by decide +kernel
theorem dX12_isWord_113 : decode cX12_isWord 113 = .ok (.i2l, 1) := by decide +kernel
theorem dX12_isWord_114 : decode cX12_isWord 114 = .ok (.ladd, 1) := by decide +kernel
theorem dX12_isWord_115 : decode cX12_isWord 115 = .ok (.ldc2_w 214, 3) := by decide +kernel
theorem dX12_isWord_118 : decode cX12_isWord 118 = .ok (.lsub, 1) := by decide +kernel
theorem dX12_isWord_119 : decode cX12_isWord 119 = .ok (.lstore 8, 2) := by decide +kernel
theorem dX12_isWord_121 : decode cX12_isWord 121 = .ok (.iload 7, 2) := by decide +kernel
theorem dX12_isWord_123 : decode cX12_isWord 123 = .ok (.ifCond .ne 8, 3) := by decide +kernel
theorem dX12_isWord_126 : decode cX12_isWord 126 = .ok (.lload 8, 2) := by decide +kernel
theorem dX12_isWord_128 : decode cX12_isWord 128 = .ok (.goto 17, 3) := by decide +kernel
theorem dX12_isWord_131 : decode cX12_isWord 131 = .ok (.lload 8, 2) := by decide +kernel
theorem dX12_isWord_133 : decode cX12_isWord 133 = .ok (.ldc2_w 212, 3) := by decide +kernel
theorem dX12_isWord_136 : decode cX12_isWord 136 = .ok (.lmul, 1) := by decide +kernel
theorem dX12_isWord_137 : decode cX12_isWord 137 = .ok (.iload 7, 2) := by decide +kernel
theorem dX12_isWord_139 : decode cX12_isWord 139 = .ok (.i2l, 1) := by decide +kernel
theorem dX12_isWord_140 : decode cX12_isWord 140 = .ok (.ladd, 1) := by decide +kernel
theorem dX12_isWord_141 : decode cX12_isWord 141 = .ok (.ldc2_w 214, 3) := by decide +kernel
theorem dX12_isWord_144 : decode cX12_isWord 144 = .ok (.lsub, 1) := by decide +kernel
theorem dX12_isWord_145 : decode cX12_isWord 145 = .ok (.lstore 8, 2) := by decide +kernel
theorem dX12_isWord_147 : decode cX12_isWord 147 = .ok (.aload_n 0, 1) := by decide +kernel
theorem dX12_isWord_148 : decode cX12_isWord 148 = .ok (.getfield 209, 3) := by decide +kernel
theorem dX12_isWord_151 : decode cX12_isWord 151 = .ok (.iconst 1, 1) := by decide +kernel
theorem dX12_isWord_152 : decode cX12_isWord 152 = .ok (.if_icmp .ne 17, 3) := by decide +kernel
theorem dX12_isWord_155 : decode cX12_isWord 155 = .ok (.aload_n 0, 1) := by decide +kernel
theorem dX12_isWord_156 : decode cX12_isWord 156 = .ok (.getfield 199, 3) := by decide +kernel
theorem dX12_isWord_159 : decode cX12_isWord 159 = .ok (.lload 8, 2) := by decide +kernel
theorem dX12_isWord_161 : decode cX12_isWord 161 = .ok (.lcmp, 1) := by decide +kernel
theorem dX12_isWord_162 : decode cX12_isWord 162 = .ok (.ifCond .ne 7, 3) := by decide +kernel
theorem dX12_isWord_165 : decode cX12_isWord 165 = .ok (.iconst 1, 1) := by decide +kernel
theorem dX12_isWord_166 : decode cX12_isWord 166 = .ok (.goto 4, 3) := by decide +kernel
theorem dX12_isWord_169 : decode cX12_isWord 169 = .ok (.iconst 0, 1) := by decide +kernel
theorem dX12_isWord_170 : decode cX12_isWord 170 = .ok (.ireturn, 1) := by decide +kernel
theorem dX12_must_0 : decode cX12_must 0 = .ok (.aload_n 0, 1) := by decide +kernel
theorem dX12_must_1 : decode cX12_must 1 = .ok (.getfield 220, 3) := by decide +kernel
theorem dX12_must_4 : decode cX12_must 4 = .ok (.ifCond .ne 20, 3) := by decide +kernel
theorem dX12_must_7 : decode cX12_must 7 = .ok (.iload_n 1, 1) := by decide +kernel
theorem dX12_must_8 : decode cX12_must 8 = .ok (.ifCond .ne 16, 3) := by decide +kernel
theorem dX12_must_11 : decode cX12_must 11 = .ok (.aload_n 0, 1) := by decide +kernel
theorem dX12_must_12 : decode cX12_must 12 = .ok (.iconst 1, 1) := by decide +kernel
theorem dX12_must_13 : decode cX12_must 13 = .ok (.putfield 220, 3) := by decide +kernel
theorem dX12_must_16 : decode cX12_must 16 = .ok (.aload_n 0, 1) := by decide +kernel
theorem dX12_must_17 : decode cX12_must 17 = .ok (.aload_n 0, 1) := by decide +kernel
theorem dX12_must_18 : decode cX12_must 18 = .ok (.getfield 196, 3) := by decide +kernel
theorem dX12_must_21 : decode cX12_must 21 = .ok (.putfield 81, 3) := by decide +kernel
theorem dX12_must_24 : decode cX12_must 24 = .ok (.aload_n 0, 1) := by decide +kernel
theorem dX12_must_25 : decode cX12_must 25 = .ok (.getfield 220, 3) := by decide +kernel
theorem dX12_must_28 : decode cX12_must 28 = .ok (.ifCond .ne 7, 3) := by decide +kernel
theorem dX12_must_31 : decode cX12_must 31 = .ok (.aload_n 0, 1) := by decide +kernel
theorem dX12_must_32 : decode cX12_must 32 = .ok (.invokevirtual 224, 3) := by decide +kernel
theorem dX12_must_35 : decode cX12_must 35 = .ok (.return_, 1) := by decide +kernel
theorem dX12_number_0 : decode cX12_number 0 = .ok (.aload_n 0, 1) := by decide +kernel
theorem dX12_number_1 : decode cX12_number 1 = .ok (.getfield 199, 3) := by decide +kernel
theorem dX12_number_4 : decode cX12_number 4 = .ok (.l2i, 1) := by decide +kernel
theorem dX12_number_5 : decode cX12_number 5 = .ok (.istore_n 3, 1) := by decide +kernel
theorem dX12_number_6 : decode cX12_number 6 = .ok (.aload_n 0, 1) := by decide +kernel
theorem dX12_number_7 : decode cX12_number 7 = .ok (.aload_n 0, 1) := by decide +kernel
theorem dX12_number_8 : decode cX12_number 8 = .ok (.getfield 209, 3) := by decide +kernel
theorem dX12_number_11 : decode cX12_number 11 = .ok (.iconst 2, 1) := by decide +kernel
theorem dX12_number_12 : decode cX12_number 12 = .ok (.if_icmp .ne 21, 3) := by decide +kernel
theorem dX12_number_15 : decode cX12_number 15 = .ok (.aload_n 0, 1) := by decide +kernel
theorem dX12_number_16 : decode cX12_number 16 = .ok (.getfield 199, 3) := by decide +kernel
theorem dX12_number_19 : decode cX12_number 19 = .ok (.lload_n 1, 1) := by decide +kernel
theorem dX12_number_20 : decode cX12_number 20 = .ok (.ldc2_w 176, 3) := by decide +kernel
theorem dX12_number_23 : decode cX12_number 23 = .ok (.invokestatic 102, 3) := by decide +kernel
theorem dX12_number_26 : decode cX12_number 26 = .ok (.ifCond .eq 7, 3) := by decide +kernel
theorem dX12_number_29 : decode cX12_number 29 = .ok (.iconst 1, 1) := by decide +kernel
theorem dX12_number_30 : decode cX12_number 30 = .ok (.goto 4, 3) := by decide +kernel
theorem dX12_number_33 : decode cX12_number 33 = .ok (.iconst 0, 1) := by decide +kernel
theorem dX12_number_34 : decode cX12_number 34 = .ok (.invokevirtual 227, 3) := by decide +kernel
theorem dX12_number_37 : decode cX12_number 37 = .ok (.iload_n 3, 1) := by decide +kernel
theorem dX12_number_38 : decode cX12_number 38 = .ok (.ireturn, 1) := by decide +kernel
theorem dX12_sortAt_0 : decode cX12_sortAt 0 = .ok (.aload_n 0, 1) := by decide +kernel
theorem dX12_sortAt_1 : decode cX12_sortAt 1 = .ok (.bipush 116, 2) := by decide +kernel
theorem dX12_sortAt_3 : decode cX12_sortAt 3 = .ok (.bipush 105, 2) := by decide +kernel
theorem dX12_sortAt_5 : decode cX12_sortAt 5 = .ok (.bipush 110, 2) := by decide +kernel
theorem dX12_sortAt_7 : decode cX12_sortAt 7 = .ok (.iconst 0, 1) := by decide +kernel
theorem dX12_sortAt_8 : decode cX12_sortAt 8 = .ok (.iconst 0, 1) := by decide +kernel
theorem dX12_sortAt_9 : decode cX12_sortAt 9 = .ok (.iconst 0, 1) := by decide +kernel
theorem dX12_sortAt_10 : decode cX12_sortAt 10 = .ok (.iconst 0, 1) := by decide +kernel
theorem dX12_sortAt_11 : decode cX12_sortAt 11 = .ok (.invokevirtual 231, 3) := by decide +kernel
theorem dX12_sortAt_14 : decode cX12_sortAt 14 = .ok (.ifCond .ne 21, 3) := by decide +kernel
theorem dX12_sortAt_17 : decode cX12_sortAt 17 = .ok (.aload_n 0, 1) := by decide +kernel
theorem dX12_sortAt_18 : decode cX12_sortAt 18 = .ok (.bipush 108, 2) := by decide +kernel
theorem dX12_sortAt_20 : decode cX12_sortAt 20 = .ok (.bipush 101, 2) := by decide +kernel
theorem dX12_sortAt_22 : decode cX12_sortAt 22 = .ok (.bipush 97, 2) := by decide +kernel
theorem dX12_sortAt_24 : decode cX12_sortAt 24 = .ok (.bipush 100, 2) := by decide +kernel
theorem dX12_sortAt_26 : decode cX12_sortAt 26 = .ok (.iconst 0, 1) := by decide +kernel
theorem dX12_sortAt_27 : decode cX12_sortAt 27 = .ok (.iconst 0, 1) := by decide +kernel
theorem dX12_sortAt_28 : decode cX12_sortAt 28 = .ok (.iconst 0, 1) := by decide +kernel
theorem dX12_sortAt_29 : decode cX12_sortAt 29 = .ok (.invokevirtual 231, 3) := by decide +kernel
theorem dX12_sortAt_32 : decode cX12_sortAt 32 = .ok (.ifCond .eq 26, 3) := by decide +kernel
theorem dX12_sortAt_35 : decode cX12_sortAt 35 = .ok (.aload_n 0, 1) := by decide +kernel
theorem dX12_sortAt_36 : decode cX12_sortAt 36 = .ok (.bipush 116, 2) := by decide +kernel
theorem dX12_sortAt_38 : decode cX12_sortAt 38 = .ok (.bipush 105, 2) := by decide +kernel
theorem dX12_sortAt_40 : decode cX12_sortAt 40 = .ok (.bipush 110, 2) := by decide +kernel
theorem dX12_sortAt_42 : decode cX12_sortAt 42 = .ok (.iconst 0, 1) := by decide +kernel
theorem dX12_sortAt_43 : decode cX12_sortAt 43 = .ok (.iconst 0, 1) := by decide +kernel
theorem dX12_sortAt_44 : decode cX12_sortAt 44 = .ok (.iconst 0, 1) := by decide +kernel
theorem dX12_sortAt_45 : decode cX12_sortAt 45 = .ok (.iconst 0, 1) := by decide +kernel
theorem dX12_sortAt_46 : decode cX12_sortAt 46 = .ok (.invokevirtual 231, 3) := by decide +kernel
theorem dX12_sortAt_49 : decode cX12_sortAt 49 = .ok (.ifCond .eq 7, 3) := by decide +kernel
theorem dX12_sortAt_52 : decode cX12_sortAt 52 = .ok (.iconst 0, 1) := by decide +kernel
theorem dX12_sortAt_53 : decode cX12_sortAt 53 = .ok (.goto 4, 3) := by decide +kernel
theorem dX12_sortAt_56 : decode cX12_sortAt 56 = .ok (.iconst 1, 1) := by decide +kernel
theorem dX12_sortAt_57 : decode cX12_sortAt 57 = .ok (.ireturn, 1) := by decide +kernel
theorem dX12_sortAt_58 : decode cX12_sortAt 58 = .ok (.aload_n 0, 1) := by decide +kernel
theorem dX12_sortAt_59 : decode cX12_sortAt 59 = .ok (.bipush 99, 2) := by decide +kernel
theorem dX12_sortAt_61 : decode cX12_sortAt 61 = .ok (.bipush 111, 2) := by decide +kernel
theorem dX12_sortAt_63 : decode cX12_sortAt 63 = .ok (.bipush 112, 2) := by decide +kernel
theorem dX12_sortAt_65 : decode cX12_sortAt 65 = .ok (.bipush 112, 2) := by decide +kernel
theorem dX12_sortAt_67 : decode cX12_sortAt 67 = .ok (.bipush 101, 2) := by decide +kernel
theorem dX12_sortAt_69 : decode cX12_sortAt 69 = .ok (.bipush 114, 2) := by decide +kernel
theorem dX12_sortAt_71 : decode cX12_sortAt 71 = .ok (.iconst 0, 1) := by decide +kernel
theorem dX12_sortAt_72 : decode cX12_sortAt 72 = .ok (.invokevirtual 231, 3) := by decide +kernel
theorem dX12_sortAt_75 : decode cX12_sortAt 75 = .ok (.ifCond .ne 21, 3) := by decide +kernel
theorem dX12_sortAt_78 : decode cX12_sortAt 78 = .ok (.aload_n 0, 1) := by decide +kernel
theorem dX12_sortAt_79 : decode cX12_sortAt 79 = .ok (.bipush 119, 2) := by decide +kernel
theorem dX12_sortAt_81 : decode cX12_sortAt 81 = .ok (.bipush 97, 2) := by decide +kernel
theorem dX12_sortAt_83 : decode cX12_sortAt 83 = .ok (.bipush 108, 2) := by decide +kernel
theorem dX12_sortAt_85 : decode cX12_sortAt 85 = .ok (.bipush 108, 2) := by decide +kernel
theorem dX12_sortAt_87 : decode cX12_sortAt 87 = .ok (.iconst 0, 1) := by decide +kernel
theorem dX12_sortAt_88 : decode cX12_sortAt 88 = .ok (.iconst 0, 1) := by decide +kernel
theorem dX12_sortAt_89 : decode cX12_sortAt 89 = .ok (.iconst 0, 1) := by decide +kernel
theorem dX12_sortAt_90 : decode cX12_sortAt 90 = .ok (.invokevirtual 231, 3) := by decide +kernel
theorem dX12_sortAt_93 : decode cX12_sortAt 93 = .ok (.ifCond .eq 27, 3) := by decide +kernel
theorem dX12_sortAt_96 : decode cX12_sortAt 96 = .ok (.aload_n 0, 1) := by decide +kernel
theorem dX12_sortAt_97 : decode cX12_sortAt 97 = .ok (.bipush 119, 2) := by decide +kernel
theorem dX12_sortAt_99 : decode cX12_sortAt 99 = .ok (.bipush 97, 2) := by decide +kernel
theorem dX12_sortAt_101 : decode cX12_sortAt 101 = .ok (.bipush 108, 2) := by decide +kernel
theorem dX12_sortAt_103 : decode cX12_sortAt 103 = .ok (.bipush 108, 2) := by decide +kernel
theorem dX12_sortAt_105 : decode cX12_sortAt 105 = .ok (.iconst 0, 1) := by decide +kernel
theorem dX12_sortAt_106 : decode cX12_sortAt 106 = .ok (.iconst 0, 1) := by decide +kernel
theorem dX12_sortAt_107 : decode cX12_sortAt 107 = .ok (.iconst 0, 1) := by decide +kernel
theorem dX12_sortAt_108 : decode cX12_sortAt 108 = .ok (.invokevirtual 231, 3) := by decide +kernel
theorem dX12_sortAt_111 : decode cX12_sortAt 111 = .ok (.ifCond .eq 7, 3) := by decide +kernel
theorem dX12_sortAt_114 : decode cX12_sortAt 114 = .ok (.iconst 3, 1) := by decide +kernel
theorem dX12_sortAt_115 : decode cX12_sortAt 115 = .ok (.goto 4, 3) := by decide +kernel
theorem dX12_sortAt_118 : decode cX12_sortAt 118 = .ok (.iconst 2, 1) := by decide +kernel
theorem dX12_sortAt_119 : decode cX12_sortAt 119 = .ok (.ireturn, 1) := by decide +kernel
theorem dX12_sortAt_120 : decode cX12_sortAt 120 = .ok (.aload_n 0, 1) := by decide +kernel
theorem dX12_sortAt_121 : decode cX12_sortAt 121 = .ok (.bipush 97, 2) := by decide +kernel
theorem dX12_sortAt_123 : decode cX12_sortAt 123 = .ok (.bipush 105, 2) := by decide +kernel
theorem dX12_sortAt_125 : decode cX12_sortAt 125 = .ok (.bipush 114, 2) := by decide +kernel
theorem dX12_sortAt_127 : decode cX12_sortAt 127 = .ok (.iconst 0, 1) := by decide +kernel
theorem dX12_sortAt_128 : decode cX12_sortAt 128 = .ok (.iconst 0, 1) := by decide +kernel
theorem dX12_sortAt_129 : decode cX12_sortAt 129 = .ok (.iconst 0, 1) := by decide +kernel
theorem dX12_sortAt_130 : decode cX12_sortAt 130 = .ok (.iconst 0, 1) := by decide +kernel
theorem dX12_sortAt_131 : decode cX12_sortAt 131 = .ok (.invokevirtual 231, 3) := by decide +kernel
theorem dX12_sortAt_134 : decode cX12_sortAt 134 = .ok (.ifCond .ne 20, 3) := by decide +kernel
theorem dX12_sortAt_137 : decode cX12_sortAt 137 = .ok (.aload_n 0, 1) := by decide +kernel
theorem dX12_sortAt_138 : decode cX12_sortAt 138 = .ok (.bipush 100, 2) := by decide +kernel
theorem dX12_sortAt_140 : decode cX12_sortAt 140 = .ok (.bipush 114, 2) := by decide +kernel
theorem dX12_sortAt_142 : decode cX12_sortAt 142 = .ok (.bipush 121, 2) := by decide +kernel
theorem dX12_sortAt_144 : decode cX12_sortAt 144 = .ok (.iconst 0, 1) := by decide +kernel
theorem dX12_sortAt_145 : decode cX12_sortAt 145 = .ok (.iconst 0, 1) := by decide +kernel
theorem dX12_sortAt_146 : decode cX12_sortAt 146 = .ok (.iconst 0, 1) := by decide +kernel
theorem dX12_sortAt_147 : decode cX12_sortAt 147 = .ok (.iconst 0, 1) := by decide +kernel
theorem dX12_sortAt_148 : decode cX12_sortAt 148 = .ok (.invokevirtual 231, 3) := by decide +kernel
theorem dX12_sortAt_151 : decode cX12_sortAt 151 = .ok (.ifCond .eq 26, 3) := by decide +kernel
theorem dX12_sortAt_154 : decode cX12_sortAt 154 = .ok (.aload_n 0, 1) := by decide +kernel
theorem dX12_sortAt_155 : decode cX12_sortAt 155 = .ok (.bipush 97, 2) := by decide +kernel
theorem dX12_sortAt_157 : decode cX12_sortAt 157 = .ok (.bipush 105, 2) := by decide +kernel
theorem dX12_sortAt_159 : decode cX12_sortAt 159 = .ok (.bipush 114, 2) := by decide +kernel
theorem dX12_sortAt_161 : decode cX12_sortAt 161 = .ok (.iconst 0, 1) := by decide +kernel
theorem dX12_sortAt_162 : decode cX12_sortAt 162 = .ok (.iconst 0, 1) := by decide +kernel
theorem dX12_sortAt_163 : decode cX12_sortAt 163 = .ok (.iconst 0, 1) := by decide +kernel
theorem dX12_sortAt_164 : decode cX12_sortAt 164 = .ok (.iconst 0, 1) := by decide +kernel
theorem dX12_sortAt_165 : decode cX12_sortAt 165 = .ok (.invokevirtual 231, 3) := by decide +kernel
theorem dX12_sortAt_168 : decode cX12_sortAt 168 = .ok (.ifCond .eq 7, 3) := by decide +kernel
theorem dX12_sortAt_171 : decode cX12_sortAt 171 = .ok (.iconst 4, 1) := by decide +kernel
theorem dX12_sortAt_172 : decode cX12_sortAt 172 = .ok (.goto 4, 3) := by decide +kernel
theorem dX12_sortAt_175 : decode cX12_sortAt 175 = .ok (.iconst 5, 1) := by decide +kernel
theorem dX12_sortAt_176 : decode cX12_sortAt 176 = .ok (.ireturn, 1) := by decide +kernel
theorem dX12_sortAt_177 : decode cX12_sortAt 177 = .ok (.aload_n 0, 1) := by decide +kernel
theorem dX12_sortAt_178 : decode cX12_sortAt 178 = .ok (.bipush 115, 2) := by decide +kernel
theorem dX12_sortAt_180 : decode cX12_sortAt 180 = .ok (.bipush 116, 2) := by decide +kernel
theorem dX12_sortAt_182 : decode cX12_sortAt 182 = .ok (.bipush 117, 2) := by decide +kernel
theorem dX12_sortAt_184 : decode cX12_sortAt 184 = .ok (.bipush 99, 2) := by decide +kernel
theorem dX12_sortAt_186 : decode cX12_sortAt 186 = .ok (.bipush 107, 2) := by decide +kernel
theorem dX12_sortAt_188 : decode cX12_sortAt 188 = .ok (.iconst 0, 1) := by decide +kernel
theorem dX12_sortAt_189 : decode cX12_sortAt 189 = .ok (.iconst 0, 1) := by decide +kernel
theorem dX12_sortAt_190 : decode cX12_sortAt 190 = .ok (.invokevirtual 231, 3) := by decide +kernel
theorem dX12_sortAt_193 : decode cX12_sortAt 193 = .ok (.ifCond .ne 23, 3) := by decide +kernel
theorem dX12_sortAt_196 : decode cX12_sortAt 196 = .ok (.aload_n 0, 1) := by decide +kernel
theorem dX12_sortAt_197 : decode cX12_sortAt 197 = .ok (.bipush 112, 2) := by decide +kernel
theorem dX12_sortAt_199 : decode cX12_sortAt 199 = .ok (.bipush 105, 2) := by decide +kernel
theorem dX12_sortAt_201 : decode cX12_sortAt 201 = .ok (.bipush 101, 2) := by decide +kernel
theorem dX12_sortAt_203 : decode cX12_sortAt 203 = .ok (.bipush 99, 2) := by decide +kernel
theorem dX12_sortAt_205 : decode cX12_sortAt 205 = .ok (.bipush 101, 2) := by decide +kernel
theorem dX12_sortAt_207 : decode cX12_sortAt 207 = .ok (.bipush 115, 2) := by decide +kernel
theorem dX12_sortAt_209 : decode cX12_sortAt 209 = .ok (.iconst 0, 1) := by decide +kernel
theorem dX12_sortAt_210 : decode cX12_sortAt 210 = .ok (.invokevirtual 231, 3) := by decide +kernel
theorem dX12_sortAt_213 : decode cX12_sortAt 213 = .ok (.ifCond .eq 30, 3) := by decide +kernel
theorem dX12_sortAt_216 : decode cX12_sortAt 216 = .ok (.aload_n 0, 1) := by decide +kernel
theorem dX12_sortAt_217 : decode cX12_sortAt 217 = .ok (.bipush 115, 2) := by decide +kernel
theorem dX12_sortAt_219 : decode cX12_sortAt 219 = .ok (.bipush 116, 2) := by decide +kernel
theorem dX12_sortAt_221 : decode cX12_sortAt 221 = .ok (.bipush 117, 2) := by decide +kernel
theorem dX12_sortAt_223 : decode cX12_sortAt 223 = .ok (.bipush 99, 2) := by decide +kernel
theorem dX12_sortAt_225 : decode cX12_sortAt 225 = .ok (.bipush 107, 2) := by decide +kernel
theorem dX12_sortAt_227 : decode cX12_sortAt 227 = .ok (.iconst 0, 1) := by decide +kernel
theorem dX12_sortAt_228 : decode cX12_sortAt 228 = .ok (.iconst 0, 1) := by decide +kernel
theorem dX12_sortAt_229 : decode cX12_sortAt 229 = .ok (.invokevirtual 231, 3) := by decide +kernel
theorem dX12_sortAt_232 : decode cX12_sortAt 232 = .ok (.ifCond .eq 8, 3) := by decide +kernel
theorem dX12_sortAt_235 : decode cX12_sortAt 235 = .ok (.bipush 6, 2) := by decide +kernel
theorem dX12_sortAt_237 : decode cX12_sortAt 237 = .ok (.goto 5, 3) := by decide +kernel
theorem dX12_sortAt_240 : decode cX12_sortAt 240 = .ok (.bipush 7, 2) := by decide +kernel
theorem dX12_sortAt_242 : decode cX12_sortAt 242 = .ok (.ireturn, 1) := by decide +kernel
theorem dX12_sortAt_243 : decode cX12_sortAt 243 = .ok (.aload_n 0, 1) := by decide +kernel
theorem dX12_sortAt_244 : decode cX12_sortAt 244 = .ok (.bipush 115, 2) := by decide +kernel
theorem dX12_sortAt_246 : decode cX12_sortAt 246 = .ok (.bipush 112, 2) := by decide +kernel
theorem dX12_sortAt_248 : decode cX12_sortAt 248 = .ok (.bipush 97, 2) := by decide +kernel
theorem dX12_sortAt_250 : decode cX12_sortAt 250 = .ok (.bipush 99, 2) := by decide +kernel
theorem dX12_sortAt_252 : decode cX12_sortAt 252 = .ok (.bipush 101, 2) := by decide +kernel
theorem dX12_sortAt_254 : decode cX12_sortAt 254 = .ok (.bipush 114, 2) := by decide +kernel
theorem dX12_sortAt_256 : decode cX12_sortAt 256 = .ok (.bipush 115, 2) := by decide +kernel
theorem dX12_sortAt_258 : decode cX12_sortAt 258 = .ok (.invokevirtual 231, 3) := by decide +kernel
theorem dX12_sortAt_261 : decode cX12_sortAt 261 = .ok (.ifCond .eq 8, 3) := by decide +kernel
theorem dX12_sortAt_264 : decode cX12_sortAt 264 = .ok (.bipush 8, 2) := by decide +kernel
theorem dX12_sortAt_266 : decode cX12_sortAt 266 = .ok (.goto 4, 3) := by decide +kernel
theorem dX12_sortAt_269 : decode cX12_sortAt 269 = .ok (.iconst (-1), 1) := by decide +kernel
theorem dX12_sortAt_270 : decode cX12_sortAt 270 = .ok (.ireturn, 1) := by decide +kernel
theorem dX12_readRule_0 : decode cX12_readRule 0 = .ok (.aload_n 0, 1) := by decide +kernel
theorem dX12_readRule_1 : decode cX12_readRule 1 = .ok (.invokevirtual 235, 3) := by decide +kernel
theorem dX12_readRule_4 : decode cX12_readRule 4 = .ok (.istore_n 1, 1) := by decide +kernel
theorem dX12_readRule_5 : decode cX12_readRule 5 = .ok (.aload_n 0, 1) := by decide +kernel
theorem dX12_readRule_6 : decode cX12_readRule 6 = .ok (.iload_n 1, 1) := by decide +kernel
theorem dX12_readRule_7 : decode cX12_readRule 7 = .ok (.ifCond .lt 16, 3) := by decide +kernel
theorem dX12_readRule_10 : decode cX12_readRule 10 = .ok (.aload_n 0, 1) := by decide +kernel
theorem dX12_readRule_11 : decode cX12_readRule 11 = .ok (.getfield 238, 3) := by decide +kernel
theorem dX12_readRule_14 : decode cX12_readRule 14 = .ok (.bipush 20, 2) := by decide +kernel
theorem dX12_readRule_16 : decode cX12_readRule 16 = .ok (.if_icmp .ge 7, 3) := by decide +kernel
theorem dX12_readRule_19 : decode cX12_readRule 19 = .ok (.iconst 1, 1) := by decide +kernel
theorem dX12_readRule_20 : decode cX12_readRule 20 = .ok (.goto 4, 3) := by decide +kernel
theorem dX12_readRule_23 : decode cX12_readRule 23 = .ok (.iconst 0, 1) := by decide +kernel
theorem dX12_readRule_24 : decode cX12_readRule 24 = .ok (.invokevirtual 227, 3) := by decide +kernel
theorem dX12_readRule_27 : decode cX12_readRule 27 = .ok (.iconst 0, 1) := by decide +kernel
theorem dX12_readRule_28 : decode cX12_readRule 28 = .ok (.istore_n 2, 1) := by decide +kernel
theorem dX12_readRule_29 : decode cX12_readRule 29 = .ok (.iconst 0, 1) := by decide +kernel
theorem dX12_readRule_30 : decode cX12_readRule 30 = .ok (.istore_n 3, 1) := by decide +kernel
theorem dX12_readRule_31 : decode cX12_readRule 31 = .ok (.iload_n 1, 1) := by decide +kernel
theorem dX12_readRule_32 : decode cX12_readRule 32 = .ok (.iconst 3, 1) := by decide +kernel
theorem dX12_readRule_33 : decode cX12_readRule 33 = .ok (.if_icmp .ge 55, 3) := by decide +kernel
theorem dX12_readRule_36 : decode cX12_readRule 36 = .ok (.aload_n 0, 1) := by decide +kernel
theorem dX12_readRule_37 : decode cX12_readRule 37 = .ok (.aload_n 0, 1) := by decide +kernel
theorem dX12_readRule_38 : decode cX12_readRule 38 = .ok (.bipush 102, 2) := by decide +kernel
theorem dX12_readRule_40 : decode cX12_readRule 40 = .ok (.bipush 114, 2) := by decide +kernel
theorem dX12_readRule_42 : decode cX12_readRule 42 = .ok (.bipush 111, 2) := by decide +kernel
theorem dX12_readRule_44 : decode cX12_readRule 44 = .ok (.bipush 109, 2) := by decide +kernel
theorem dX12_readRule_46 : decode cX12_readRule 46 = .ok (.iconst 0, 1) := by decide +kernel
theorem dX12_readRule_47 : decode cX12_readRule 47 = .ok (.iconst 0, 1) := by decide +kernel
theorem dX12_readRule_48 : decode cX12_readRule 48 = .ok (.iconst 0, 1) := by decide +kernel
theorem dX12_readRule_49 : decode cX12_readRule 49 = .ok (.invokevirtual 231, 3) := by decide +kernel
theorem dX12_readRule_52 : decode cX12_readRule 52 = .ok (.invokevirtual 227, 3) := by decide +kernel
theorem dX12_readRule_55 : decode cX12_readRule 55 = .ok (.aload_n 0, 1) := by decide +kernel
theorem dX12_readRule_56 : decode cX12_readRule 56 = .ok (.lconst 0, 1) := by decide +kernel
theorem dX12_readRule_57 : decode cX12_readRule 57 = .ok (.invokevirtual 241, 3) := by decide +kernel
theorem dX12_readRule_60 : decode cX12_readRule 60 = .ok (.istore_n 2, 1) := by decide +kernel
theorem dX12_readRule_61 : decode cX12_readRule 61 = .ok (.aload_n 0, 1) := by decide +kernel
theorem dX12_readRule_62 : decode cX12_readRule 62 = .ok (.aload_n 0, 1) := by decide +kernel
theorem dX12_readRule_63 : decode cX12_readRule 63 = .ok (.bipush 116, 2) := by decide +kernel
theorem dX12_readRule_65 : decode cX12_readRule 65 = .ok (.bipush 111, 2) := by decide +kernel
theorem dX12_readRule_67 : decode cX12_readRule 67 = .ok (.iconst 0, 1) := by decide +kernel
theorem dX12_readRule_68 : decode cX12_readRule 68 = .ok (.iconst 0, 1) := by decide +kernel
theorem dX12_readRule_69 : decode cX12_readRule 69 = .ok (.iconst 0, 1) := by decide +kernel
theorem dX12_readRule_70 : decode cX12_readRule 70 = .ok (.iconst 0, 1) := by decide +kernel
theorem dX12_readRule_71 : decode cX12_readRule 71 = .ok (.iconst 0, 1) := by decide +kernel
theorem dX12_readRule_72 : decode cX12_readRule 72 = .ok (.invokevirtual 231, 3) := by decide +kernel
theorem dX12_readRule_75 : decode cX12_readRule 75 = .ok (.invokevirtual 227, 3) := by decide +kernel
theorem dX12_readRule_78 : decode cX12_readRule 78 = .ok (.aload_n 0, 1) := by decide +kernel
theorem dX12_readRule_79 : decode cX12_readRule 79 = .ok (.iload_n 2, 1) := by decide +kernel
theorem dX12_readRule_80 : decode cX12_readRule 80 = .ok (.i2l, 1) := by decide +kernel
theorem dX12_readRule_81 : decode cX12_readRule 81 = .ok (.invokevirtual 241, 3) := by decide +kernel
theorem dX12_readRule_84 : decode cX12_readRule 84 = .ok (.istore_n 3, 1) := by decide +kernel
theorem dX12_readRule_85 : decode cX12_readRule 85 = .ok (.goto 41, 3) := by decide +kernel
theorem dX12_readRule_88 : decode cX12_readRule 88 = .ok (.aload_n 0, 1) := by decide +kernel
theorem dX12_readRule_89 : decode cX12_readRule 89 = .ok (.lconst 0, 1) := by decide +kernel
theorem dX12_readRule_90 : decode cX12_readRule 90 = .ok (.invokevirtual 241, 3) := by decide +kernel
theorem dX12_readRule_93 : decode cX12_readRule 93 = .ok (.istore_n 2, 1) := by decide +kernel
theorem dX12_readRule_94 : decode cX12_readRule 94 = .ok (.iload_n 1, 1) := by decide +kernel
theorem dX12_readRule_95 : decode cX12_readRule 95 = .ok (.bipush 8, 2) := by decide +kernel
theorem dX12_readRule_97 : decode cX12_readRule 97 = .ok (.if_icmp .ne 29, 3) := by decide +kernel
theorem dX12_readRule_100 : decode cX12_readRule 100 = .ok (.aload_n 0, 1) := by decide +kernel
theorem dX12_readRule_101 : decode cX12_readRule 101 = .ok (.aload_n 0, 1) := by decide +kernel
theorem dX12_readRule_102 : decode cX12_readRule 102 = .ok (.bipush 101, 2) := by decide +kernel
theorem dX12_readRule_104 : decode cX12_readRule 104 = .ok (.bipush 118, 2) := by decide +kernel
theorem dX12_readRule_106 : decode cX12_readRule 106 = .ok (.bipush 101, 2) := by decide +kernel
theorem dX12_readRule_108 : decode cX12_readRule 108 = .ok (.bipush 114, 2) := by decide +kernel
theorem dX12_readRule_110 : decode cX12_readRule 110 = .ok (.bipush 121, 2) := by decide +kernel
theorem dX12_readRule_112 : decode cX12_readRule 112 = .ok (.iconst 0, 1) := by decide +kernel
theorem dX12_readRule_113 : decode cX12_readRule 113 = .ok (.iconst 0, 1) := by decide +kernel
theorem dX12_readRule_114 : decode cX12_readRule 114 = .ok (.invokevirtual 231, 3) := by decide +kernel
theorem dX12_readRule_117 : decode cX12_readRule 117 = .ok (.invokevirtual 227, 3) := by decide +kernel
theorem dX12_readRule_120 : decode cX12_readRule 120 = .ok (.aload_n 0, 1) := by decide +kernel
theorem dX12_readRule_121 : decode cX12_readRule 121 = .ok (.lconst 1, 1) := by decide +kernel
theorem dX12_readRule_122 : decode cX12_readRule 122 = .ok (.invokevirtual 241, 3) := by decide +kernel
theorem dX12_readRule_125 : decode cX12_readRule 125 = .ok (.istore_n 3, 1) := by decide +kernel
theorem dX12_readRule_126 : decode cX12_readRule 126 = .ok (.aload_n 0, 1) := by decide +kernel
theorem dX12_readRule_127 : decode cX12_readRule 127 = .ok (.getfield 220, 3) := by decide +kernel
theorem dX12_readRule_130 : decode cX12_readRule 130 = .ok (.ifCond .eq 4, 3) := by decide +kernel
theorem dX12_readRule_133 : decode cX12_readRule 133 = .ok (.return_, 1) := by decide +kernel
theorem dX12_readRule_134 : decode cX12_readRule 134 = .ok (.aload_n 0, 1) := by decide +kernel
theorem dX12_readRule_135 : decode cX12_readRule 135 = .ok (.getfield 75, 3) := by decide +kernel
theorem dX12_readRule_138 : decode cX12_readRule 138 = .ok (.iconst 3, 1) := by decide +kernel
theorem dX12_readRule_139 : decode cX12_readRule 139 = .ok (.aload_n 0, 1) := by decide +kernel
theorem dX12_readRule_140 : decode cX12_readRule 140 = .ok (.getfield 238, 3) := by decide +kernel
theorem dX12_readRule_143 : decode cX12_readRule 143 = .ok (.imul, 1) := by decide +kernel
theorem dX12_readRule_144 : decode cX12_readRule 144 = .ok (.iload_n 1, 1) := by decide +kernel
theorem dX12_readRule_145 : decode cX12_readRule 145 = .ok (.iastore, 1) := by decide +kernel
theorem dX12_readRule_146 : decode cX12_readRule 146 = .ok (.aload_n 0, 1) := by decide +kernel
theorem dX12_readRule_147 : decode cX12_readRule 147 = .ok (.getfield 75, 3) := by decide +kernel
theorem dX12_readRule_150 : decode cX12_readRule 150 = .ok (.iconst 3, 1) := by decide +kernel
theorem dX12_readRule_151 : decode cX12_readRule 151 = .ok (.aload_n 0, 1) := by decide +kernel
theorem dX12_readRule_152 : decode cX12_readRule 152 = .ok (.getfield 238, 3) := by decide +kernel
theorem dX12_readRule_155 : decode cX12_readRule 155 = .ok (.imul, 1) := by decide +kernel
theorem dX12_readRule_156 : decode cX12_readRule 156 = .ok (.iconst 1, 1) := by decide +kernel
theorem dX12_readRule_157 : decode cX12_readRule 157 = .ok (.iadd, 1) := by decide +kernel
theorem dX12_readRule_158 : decode cX12_readRule 158 = .ok (.iload_n 2, 1) := by decide +kernel
theorem dX12_readRule_159 : decode cX12_readRule 159 = .ok (.iastore, 1) := by decide +kernel
theorem dX12_readRule_160 : decode cX12_readRule 160 = .ok (.aload_n 0, 1) := by decide +kernel
theorem dX12_readRule_161 : decode cX12_readRule 161 = .ok (.getfield 75, 3) := by decide +kernel
theorem dX12_readRule_164 : decode cX12_readRule 164 = .ok (.iconst 3, 1) := by decide +kernel
theorem dX12_readRule_165 : decode cX12_readRule 165 = .ok (.aload_n 0, 1) := by decide +kernel
theorem dX12_readRule_166 : decode cX12_readRule 166 = .ok (.getfield 238, 3) := by decide +kernel
theorem dX12_readRule_169 : decode cX12_readRule 169 = .ok (.imul, 1) := by decide +kernel
theorem dX12_readRule_170 : decode cX12_readRule 170 = .ok (.iconst 2, 1) := by decide +kernel
theorem dX12_readRule_171 : decode cX12_readRule 171 = .ok (.iadd, 1) := by decide +kernel
theorem dX12_readRule_172 : decode cX12_readRule 172 = .ok (.iload_n 3, 1) := by decide +kernel
theorem dX12_readRule_173 : decode cX12_readRule 173 = .ok (.iastore, 1) := by decide +kernel
theorem dX12_readRule_174 : decode cX12_readRule 174 = .ok (.aload_n 0, 1) := by decide +kernel
theorem dX12_readRule_175 : decode cX12_readRule 175 = .ok (.dup, 1) := by decide +kernel
theorem dX12_readRule_176 : decode cX12_readRule 176 = .ok (.getfield 238, 3) := by decide +kernel
theorem dX12_readRule_179 : decode cX12_readRule 179 = .ok (.iconst 1, 1) := by decide +kernel
theorem dX12_readRule_180 : decode cX12_readRule 180 = .ok (.iadd, 1) := by decide +kernel
theorem dX12_readRule_181 : decode cX12_readRule 181 = .ok (.putfield 238, 3) := by decide +kernel
theorem dX12_readRule_184 : decode cX12_readRule 184 = .ok (.return_, 1) := by decide +kernel
theorem dX12_rules_0 : decode cX12_rules 0 = .ok (.aload_n 0, 1) := by decide +kernel
theorem dX12_rules_1 : decode cX12_rules 1 = .ok (.iconst 0, 1) := by decide +kernel
theorem dX12_rules_2 : decode cX12_rules 2 = .ok (.putfield 96, 3) := by decide +kernel
theorem dX12_rules_5 : decode cX12_rules 5 = .ok (.aload_n 0, 1) := by decide +kernel
theorem dX12_rules_6 : decode cX12_rules 6 = .ok (.iconst 0, 1) := by decide +kernel
theorem dX12_rules_7 : decode cX12_rules 7 = .ok (.putfield 193, 3) := by decide +kernel
theorem dX12_rules_10 : decode cX12_rules 10 = .ok (.aload_n 0, 1) := by decide +kernel
theorem dX12_rules_11 : decode cX12_rules 11 = .ok (.iconst 0, 1) := by decide +kernel
theorem dX12_rules_12 : decode cX12_rules 12 = .ok (.putfield 220, 3) := by decide +kernel
theorem dX12_rules_15 : decode cX12_rules 15 = .ok (.aload_n 0, 1) := by decide +kernel
theorem dX12_rules_16 : decode cX12_rules 16 = .ok (.iconst (-1), 1) := by decide +kernel
theorem dX12_rules_17 : decode cX12_rules 17 = .ok (.putfield 81, 3) := by decide +kernel
theorem dX12_rules_20 : decode cX12_rules 20 = .ok (.aload_n 0, 1) := by decide +kernel
theorem dX12_rules_21 : decode cX12_rules 21 = .ok (.iconst 0, 1) := by decide +kernel
theorem dX12_rules_22 : decode cX12_rules 22 = .ok (.putfield 238, 3) := by decide +kernel
theorem dX12_rules_25 : decode cX12_rules 25 = .ok (.aload_n 0, 1) := by decide +kernel
theorem dX12_rules_26 : decode cX12_rules 26 = .ok (.invokevirtual 224, 3) := by decide +kernel
theorem dX12_rules_29 : decode cX12_rules 29 = .ok (.aload_n 0, 1) := by decide +kernel
theorem dX12_rules_30 : decode cX12_rules 30 = .ok (.getfield 209, 3) := by decide +kernel
theorem dX12_rules_33 : decode cX12_rules 33 = .ok (.ifCond .eq 63, 3) := by decide +kernel
theorem dX12_rules_36 : decode cX12_rules 36 = .ok (.aload_n 0, 1) := by decide +kernel
theorem dX12_rules_37 : decode cX12_rules 37 = .ok (.invokevirtual 245, 3) := by decide +kernel
theorem dX12_rules_40 : decode cX12_rules 40 = .ok (.aload_n 0, 1) := by decide +kernel
theorem dX12_rules_41 : decode cX12_rules 41 = .ok (.getfield 220, 3) := by decide +kernel
theorem dX12_rules_44 : decode cX12_rules 44 = .ok (.ifCond .ne 33, 3) := by decide +kernel
theorem dX12_rules_47 : decode cX12_rules 47 = .ok (.aload_n 0, 1) := by decide +kernel
theorem dX12_rules_48 : decode cX12_rules 48 = .ok (.getfield 209, 3) := by decide +kernel
theorem dX12_rules_51 : decode cX12_rules 51 = .ok (.iconst 3, 1) := by decide +kernel
theorem dX12_rules_52 : decode cX12_rules 52 = .ok (.if_icmp .ne 25, 3) := by decide +kernel
theorem dX12_rules_55 : decode cX12_rules 55 = .ok (.aload_n 0, 1) := by decide +kernel
theorem dX12_rules_56 : decode cX12_rules 56 = .ok (.getfield 199, 3) := by decide +kernel
theorem dX12_rules_59 : decode cX12_rules 59 = .ok (.ldc2_w 248, 3) := by decide +kernel
theorem dX12_rules_62 : decode cX12_rules 62 = .ok (.lcmp, 1) := by decide +kernel
theorem dX12_rules_63 : decode cX12_rules 63 = .ok (.ifCond .ne 14, 3) := by decide +kernel
theorem dX12_rules_66 : decode cX12_rules 66 = .ok (.aload_n 0, 1) := by decide +kernel
theorem dX12_rules_67 : decode cX12_rules 67 = .ok (.invokevirtual 224, 3) := by decide +kernel
theorem dX12_rules_70 : decode cX12_rules 70 = .ok (.aload_n 0, 1) := by decide +kernel
theorem dX12_rules_71 : decode cX12_rules 71 = .ok (.invokevirtual 245, 3) := by decide +kernel
theorem dX12_rules_74 : decode cX12_rules 74 = .ok (.goto (-34), 3) := by decide +kernel
theorem dX12_rules_77 : decode cX12_rules 77 = .ok (.aload_n 0, 1) := by decide +kernel
theorem dX12_rules_78 : decode cX12_rules 78 = .ok (.getfield 220, 3) := by decide +kernel
theorem dX12_rules_81 : decode cX12_rules 81 = .ok (.ifCond .ne 15, 3) := by decide +kernel
theorem dX12_rules_84 : decode cX12_rules 84 = .ok (.aload_n 0, 1) := by decide +kernel
theorem dX12_rules_85 : decode cX12_rules 85 = .ok (.getfield 209, 3) := by decide +kernel
theorem dX12_rules_88 : decode cX12_rules 88 = .ok (.ifCond .eq 8, 3) := by decide +kernel
theorem dX12_rules_91 : decode cX12_rules 91 = .ok (.aload_n 0, 1) := by decide +kernel
theorem dX12_rules_92 : decode cX12_rules 92 = .ok (.iconst 0, 1) := by decide +kernel
theorem dX12_rules_93 : decode cX12_rules 93 = .ok (.invokevirtual 227, 3) := by decide +kernel
theorem dX12_rules_96 : decode cX12_rules 96 = .ok (.aload_n 0, 1) := by decide +kernel
theorem dX12_rules_97 : decode cX12_rules 97 = .ok (.iconst 0, 1) := by decide +kernel
theorem dX12_rules_98 : decode cX12_rules 98 = .ok (.putfield 187, 3) := by decide +kernel
theorem dX12_rules_101 : decode cX12_rules 101 = .ok (.aload_n 0, 1) := by decide +kernel
theorem dX12_rules_102 : decode cX12_rules 102 = .ok (.getfield 220, 3) := by decide +kernel
theorem dX12_rules_105 : decode cX12_rules 105 = .ok (.ifCond .eq 10, 3) := by decide +kernel
theorem dX12_rules_108 : decode cX12_rules 108 = .ok (.aload_n 0, 1) := by decide +kernel
theorem dX12_rules_109 : decode cX12_rules 109 = .ok (.bipush (-6), 2) := by decide +kernel
theorem dX12_rules_111 : decode cX12_rules 111 = .ok (.invokevirtual 113, 3) := by decide +kernel
theorem dX12_rules_114 : decode cX12_rules 114 = .ok (.ireturn, 1) := by decide +kernel
theorem dX12_rules_115 : decode cX12_rules 115 = .ok (.aload_n 0, 1) := by decide +kernel
theorem dX12_rules_116 : decode cX12_rules 116 = .ok (.aload_n 0, 1) := by decide +kernel
theorem dX12_rules_117 : decode cX12_rules 117 = .ok (.getfield 238, 3) := by decide +kernel
theorem dX12_rules_120 : decode cX12_rules 120 = .ok (.putfield 250, 3) := by decide +kernel
theorem dX12_rules_123 : decode cX12_rules 123 = .ok (.iconst 0, 1) := by decide +kernel
theorem dX12_rules_124 : decode cX12_rules 124 = .ok (.istore_n 1, 1) := by decide +kernel
theorem dX12_rules_125 : decode cX12_rules 125 = .ok (.iload_n 1, 1) := by decide +kernel
theorem dX12_rules_126 : decode cX12_rules 126 = .ok (.aload_n 0, 1) := by decide +kernel
theorem dX12_rules_127 : decode cX12_rules 127 = .ok (.getfield 250, 3) := by decide +kernel
theorem dX12_rules_130 : decode cX12_rules 130 = .ok (.if_icmp .ge 55, 3) := by decide +kernel
theorem dX12_rules_133 : decode cX12_rules 133 = .ok (.aload_n 0, 1) := by decide +kernel
theorem dX12_rules_134 : decode cX12_rules 134 = .ok (.getfield 66, 3) := by decide +kernel
theorem dX12_rules_137 : decode cX12_rules 137 = .ok (.iload_n 1, 1) := by decide +kernel
theorem dX12_rules_138 : decode cX12_rules 138 = .ok (.aload_n 0, 1) := by decide +kernel
theorem dX12_rules_139 : decode cX12_rules 139 = .ok (.getfield 75, 3) := by decide +kernel
theorem dX12_rules_142 : decode cX12_rules 142 = .ok (.iconst 3, 1) := by decide +kernel
theorem dX12_rules_143 : decode cX12_rules 143 = .ok (.iload_n 1, 1) := by decide +kernel
theorem dX12_rules_144 : decode cX12_rules 144 = .ok (.imul, 1) := by decide +kernel
theorem dX12_rules_145 : decode cX12_rules 145 = .ok (.iaload, 1) := by decide +kernel
theorem dX12_rules_146 : decode cX12_rules 146 = .ok (.iastore, 1) := by decide +kernel
theorem dX12_rules_147 : decode cX12_rules 147 = .ok (.aload_n 0, 1) := by decide +kernel
theorem dX12_rules_148 : decode cX12_rules 148 = .ok (.getfield 69, 3) := by decide +kernel
theorem dX12_rules_151 : decode cX12_rules 151 = .ok (.iload_n 1, 1) := by decide +kernel
theorem dX12_rules_152 : decode cX12_rules 152 = .ok (.aload_n 0, 1) := by decide +kernel
theorem dX12_rules_153 : decode cX12_rules 153 = .ok (.getfield 75, 3) := by decide +kernel
theorem dX12_rules_156 : decode cX12_rules 156 = .ok (.iconst 3, 1) := by decide +kernel
theorem dX12_rules_157 : decode cX12_rules 157 = .ok (.iload_n 1, 1) := by decide +kernel
theorem dX12_rules_158 : decode cX12_rules 158 = .ok (.imul, 1) := by decide +kernel
theorem dX12_rules_159 : decode cX12_rules 159 = .ok (.iconst 1, 1) := by decide +kernel
theorem dX12_rules_160 : decode cX12_rules 160 = .ok (.iadd, 1) := by decide +kernel
theorem dX12_rules_161 : decode cX12_rules 161 = .ok (.iaload, 1) := by decide +kernel
theorem dX12_rules_162 : decode cX12_rules 162 = .ok (.iastore, 1) := by decide +kernel
theorem dX12_rules_163 : decode cX12_rules 163 = .ok (.aload_n 0, 1) := by decide +kernel
theorem dX12_rules_164 : decode cX12_rules 164 = .ok (.getfield 72, 3) := by decide +kernel
theorem dX12_rules_167 : decode cX12_rules 167 = .ok (.iload_n 1, 1) := by decide +kernel
theorem dX12_rules_168 : decode cX12_rules 168 = .ok (.aload_n 0, 1) := by decide +kernel
theorem dX12_rules_169 : decode cX12_rules 169 = .ok (.getfield 75, 3) := by decide +kernel
theorem dX12_rules_172 : decode cX12_rules 172 = .ok (.iconst 3, 1) := by decide +kernel
theorem dX12_rules_173 : decode cX12_rules 173 = .ok (.iload_n 1, 1) := by decide +kernel
theorem dX12_rules_174 : decode cX12_rules 174 = .ok (.imul, 1) := by decide +kernel
theorem dX12_rules_175 : decode cX12_rules 175 = .ok (.iconst 2, 1) := by decide +kernel
theorem dX12_rules_176 : decode cX12_rules 176 = .ok (.iadd, 1) := by decide +kernel
theorem dX12_rules_177 : decode cX12_rules 177 = .ok (.iaload, 1) := by decide +kernel
theorem dX12_rules_178 : decode cX12_rules 178 = .ok (.iastore, 1) := by decide +kernel
theorem dX12_rules_179 : decode cX12_rules 179 = .ok (.iinc 1 1, 3) := by decide +kernel
theorem dX12_rules_182 : decode cX12_rules 182 = .ok (.goto (-57), 3) := by decide +kernel
theorem dX12_rules_185 : decode cX12_rules 185 = .ok (.aload_n 0, 1) := by decide +kernel
theorem dX12_rules_186 : decode cX12_rules 186 = .ok (.aload_n 0, 1) := by decide +kernel
theorem dX12_rules_187 : decode cX12_rules 187 = .ok (.getfield 250, 3) := by decide +kernel
theorem dX12_rules_190 : decode cX12_rules 190 = .ok (.invokevirtual 113, 3) := by decide +kernel
theorem dX12_rules_193 : decode cX12_rules 193 = .ok (.ireturn, 1) := by decide +kernel
theorem dX12_fault_0 : decode cX12_fault 0 = .ok (.aload_n 0, 1) := by decide +kernel
theorem dX12_fault_1 : decode cX12_fault 1 = .ok (.iconst 0, 1) := by decide +kernel
theorem dX12_fault_2 : decode cX12_fault 2 = .ok (.putfield 96, 3) := by decide +kernel
theorem dX12_fault_5 : decode cX12_fault 5 = .ok (.aload_n 0, 1) := by decide +kernel
theorem dX12_fault_6 : decode cX12_fault 6 = .ok (.getfield 81, 3) := by decide +kernel
theorem dX12_fault_9 : decode cX12_fault 9 = .ok (.ireturn, 1) := by decide +kernel
theorem dX12_isBroken_0 : decode cX12_isBroken 0 = .ok (.aload_n 0, 1) := by decide +kernel
theorem dX12_isBroken_1 : decode cX12_isBroken 1 = .ok (.getfield 66, 3) := by decide +kernel
theorem dX12_isBroken_4 : decode cX12_isBroken 4 = .ok (.iload_n 1, 1) := by decide +kernel
theorem dX12_isBroken_5 : decode cX12_isBroken 5 = .ok (.iaload, 1) := by decide +kernel
theorem dX12_isBroken_6 : decode cX12_isBroken 6 = .ok (.iconst 3, 1) := by decide +kernel
theorem dX12_isBroken_7 : decode cX12_isBroken 7 = .ok (.if_icmp .ge 135, 3) := by decide +kernel
theorem dX12_isBroken_10 : decode cX12_isBroken 10 = .ok (.iconst 0, 1) := by decide +kernel
theorem dX12_isBroken_11 : decode cX12_isBroken 11 = .ok (.istore_n 2, 1) := by decide +kernel
theorem dX12_isBroken_12 : decode cX12_isBroken 12 = .ok (.iconst 0, 1) := by decide +kernel
theorem dX12_isBroken_13 : decode cX12_isBroken 13 = .ok (.istore_n 3, 1) := by decide +kernel
theorem dX12_isBroken_14 : decode cX12_isBroken 14 = .ok (.iload_n 3, 1) := by decide +kernel
theorem dX12_isBroken_15 : decode cX12_isBroken 15 = .ok (.aload_n 0, 1) := by decide +kernel
theorem dX12_isBroken_16 : decode cX12_isBroken 16 = .ok (.getfield 180, 3) := by decide +kernel
theorem dX12_isBroken_19 : decode cX12_isBroken 19 = .ok (.if_icmp .ge 80, 3) := by decide +kernel
theorem dX12_isBroken_22 : decode cX12_isBroken 22 = .ok (.aload_n 0, 1) := by decide +kernel
theorem dX12_isBroken_23 : decode cX12_isBroken 23 = .ok (.getfield 57, 3) := by decide +kernel
theorem dX12_isBroken_26 : decode cX12_isBroken 26 = .ok (.ifCond .lt 73, 3) := by decide +kernel
theorem dX12_isBroken_29 : decode cX12_isBroken 29 = .ok (.iload_n 2, 1) := by decide +kernel
theorem dX12_isBroken_30 : decode cX12_isBroken 30 = .ok (.aload_n 0, 1) := by decide +kernel
theorem dX12_isBroken_31 : decode cX12_isBroken 31 = .ok (.getfield 54, 3) := by decide +kernel
theorem dX12_isBroken_34 : decode cX12_isBroken 34 = .ok (.iload_n 3, 1) := by decide +kernel
theorem dX12_isBroken_35 : decode cX12_isBroken 35 = .ok (.iaload, 1) := by decide +kernel
theorem dX12_isBroken_36 : decode cX12_isBroken 36 = .ok (.aload_n 0, 1) := by decide +kernel
theorem dX12_isBroken_37 : decode cX12_isBroken 37 = .ok (.getfield 66, 3) := by decide +kernel
theorem dX12_isBroken_40 : decode cX12_isBroken 40 = .ok (.iload_n 1, 1) := by decide +kernel
theorem dX12_isBroken_41 : decode cX12_isBroken 41 = .ok (.iaload, 1) := by decide +kernel
theorem dX12_isBroken_42 : decode cX12_isBroken 42 = .ok (.ifCond .ne 12, 3) := by decide +kernel
theorem dX12_isBroken_45 : decode cX12_isBroken 45 = .ok (.aload_n 0, 1) := by decide +kernel
theorem dX12_isBroken_46 : decode cX12_isBroken 46 = .ok (.getfield 42, 3) := by decide +kernel
theorem dX12_isBroken_49 : decode cX12_isBroken 49 = .ok (.iload_n 3, 1) := by decide +kernel
theorem dX12_isBroken_50 : decode cX12_isBroken 50 = .ok (.iaload, 1) := by decide +kernel
theorem dX12_isBroken_51 : decode cX12_isBroken 51 = .ok (.goto 39, 3) := by decide +kernel
theorem dX12_isBroken_54 : decode cX12_isBroken 54 = .ok (.aload_n 0, 1) := by decide +kernel
theorem dX12_isBroken_55 : decode cX12_isBroken 55 = .ok (.getfield 66, 3) := by decide +kernel
theorem dX12_isBroken_58 : decode cX12_isBroken 58 = .ok (.iload_n 1, 1) := by decide +kernel
theorem dX12_isBroken_59 : decode cX12_isBroken 59 = .ok (.iaload, 1) := by decide +kernel
theorem dX12_isBroken_60 : decode cX12_isBroken 60 = .ok (.iconst 1, 1) := by decide +kernel
theorem dX12_isBroken_61 : decode cX12_isBroken 61 = .ok (.if_icmp .ne 12, 3) := by decide +kernel
theorem dX12_isBroken_64 : decode cX12_isBroken 64 = .ok (.aload_n 0, 1) := by decide +kernel
theorem dX12_isBroken_65 : decode cX12_isBroken 65 = .ok (.getfield 45, 3) := by decide +kernel
theorem dX12_isBroken_68 : decode cX12_isBroken 68 = .ok (.iload_n 3, 1) := by decide +kernel
theorem dX12_isBroken_69 : decode cX12_isBroken 69 = .ok (.iaload, 1) := by decide +kernel
theorem dX12_isBroken_70 : decode cX12_isBroken 70 = .ok (.goto 20, 3) := by decide +kernel
theorem dX12_isBroken_73 : decode cX12_isBroken 73 = .ok (.sipush 1000, 3) := by decide +kernel
theorem dX12_isBroken_76 : decode cX12_isBroken 76 = .ok (.aload_n 0, 1) := by decide +kernel
theorem dX12_isBroken_77 : decode cX12_isBroken 77 = .ok (.getfield 42, 3) := by decide +kernel
theorem dX12_isBroken_80 : decode cX12_isBroken 80 = .ok (.iload_n 3, 1) := by decide +kernel
theorem dX12_isBroken_81 : decode cX12_isBroken 81 = .ok (.iaload, 1) := by decide +kernel
theorem dX12_isBroken_82 : decode cX12_isBroken 82 = .ok (.isub, 1) := by decide +kernel
theorem dX12_isBroken_83 : decode cX12_isBroken 83 = .ok (.aload_n 0, 1) := by decide +kernel
theorem dX12_isBroken_84 : decode cX12_isBroken 84 = .ok (.getfield 45, 3) := by decide +kernel
theorem dX12_isBroken_87 : decode cX12_isBroken 87 = .ok (.iload_n 3, 1) := by decide +kernel
theorem dX12_isBroken_88 : decode cX12_isBroken 88 = .ok (.iaload, 1) := by decide +kernel
theorem dX12_isBroken_89 : decode cX12_isBroken 89 = .ok (.isub, 1) := by decide +kernel
theorem dX12_isBroken_90 : decode cX12_isBroken 90 = .ok (.imul, 1) := by decide +kernel
theorem dX12_isBroken_91 : decode cX12_isBroken 91 = .ok (.iadd, 1) := by decide +kernel
theorem dX12_isBroken_92 : decode cX12_isBroken 92 = .ok (.istore_n 2, 1) := by decide +kernel
theorem dX12_isBroken_93 : decode cX12_isBroken 93 = .ok (.iinc 3 1, 3) := by decide +kernel
theorem dX12_isBroken_96 : decode cX12_isBroken 96 = .ok (.goto (-82), 3) := by decide +kernel
theorem dX12_isBroken_99 : decode cX12_isBroken 99 = .ok (.aload_n 0, 1) := by decide +kernel
theorem dX12_isBroken_100 : decode cX12_isBroken 100 = .ok (.getfield 57, 3) := by decide +kernel
theorem dX12_isBroken_103 : decode cX12_isBroken 103 = .ok (.ifCond .lt 33, 3) := by decide +kernel
theorem dX12_isBroken_106 : decode cX12_isBroken 106 = .ok (.iload_n 2, 1) := by decide +kernel
theorem dX12_isBroken_107 : decode cX12_isBroken 107 = .ok (.aload_n 0, 1) := by decide +kernel
theorem dX12_isBroken_108 : decode cX12_isBroken 108 = .ok (.getfield 69, 3) := by decide +kernel
theorem dX12_isBroken_111 : decode cX12_isBroken 111 = .ok (.iload_n 1, 1) := by decide +kernel
theorem dX12_isBroken_112 : decode cX12_isBroken 112 = .ok (.iaload, 1) := by decide +kernel
theorem dX12_isBroken_113 : decode cX12_isBroken 113 = .ok (.aload_n 0, 1) := by decide +kernel
theorem dX12_isBroken_114 : decode cX12_isBroken 114 = .ok (.getfield 57, 3) := by decide +kernel
theorem dX12_isBroken_117 : decode cX12_isBroken 117 = .ok (.imul, 1) := by decide +kernel
theorem dX12_isBroken_118 : decode cX12_isBroken 118 = .ok (.if_icmp .lt 18, 3) := by decide +kernel
theorem dX12_isBroken_121 : decode cX12_isBroken 121 = .ok (.iload_n 2, 1) := by decide +kernel
theorem dX12_isBroken_122 : decode cX12_isBroken 122 = .ok (.aload_n 0, 1) := by decide +kernel
theorem dX12_isBroken_123 : decode cX12_isBroken 123 = .ok (.getfield 72, 3) := by decide +kernel
theorem dX12_isBroken_126 : decode cX12_isBroken 126 = .ok (.iload_n 1, 1) := by decide +kernel
theorem dX12_isBroken_127 : decode cX12_isBroken 127 = .ok (.iaload, 1) := by decide +kernel
theorem dX12_isBroken_128 : decode cX12_isBroken 128 = .ok (.aload_n 0, 1) := by decide +kernel
theorem dX12_isBroken_129 : decode cX12_isBroken 129 = .ok (.getfield 57, 3) := by decide +kernel
theorem dX12_isBroken_132 : decode cX12_isBroken 132 = .ok (.imul, 1) := by decide +kernel
theorem dX12_isBroken_133 : decode cX12_isBroken 133 = .ok (.if_icmp .le 7, 3) := by decide +kernel
theorem dX12_isBroken_136 : decode cX12_isBroken 136 = .ok (.iconst 1, 1) := by decide +kernel
theorem dX12_isBroken_137 : decode cX12_isBroken 137 = .ok (.goto 4, 3) := by decide +kernel
theorem dX12_isBroken_140 : decode cX12_isBroken 140 = .ok (.iconst 0, 1) := by decide +kernel
theorem dX12_isBroken_141 : decode cX12_isBroken 141 = .ok (.ireturn, 1) := by decide +kernel
theorem dX12_isBroken_142 : decode cX12_isBroken 142 = .ok (.aload_n 0, 1) := by decide +kernel
theorem dX12_isBroken_143 : decode cX12_isBroken 143 = .ok (.getfield 66, 3) := by decide +kernel
theorem dX12_isBroken_146 : decode cX12_isBroken 146 = .ok (.iload_n 1, 1) := by decide +kernel
theorem dX12_isBroken_147 : decode cX12_isBroken 147 = .ok (.iaload, 1) := by decide +kernel
theorem dX12_isBroken_148 : decode cX12_isBroken 148 = .ok (.tableswitch 138 3 7 #[36, 55, 75, 95, 119], 36) := by decide +kernel
theorem dX12_isBroken_184 : decode cX12_isBroken 184 = .ok (.aload_n 0, 1) := by decide +kernel
theorem dX12_isBroken_185 : decode cX12_isBroken 185 = .ok (.invokevirtual 155, 3) := by decide +kernel
theorem dX12_isBroken_188 : decode cX12_isBroken 188 = .ok (.aload_n 0, 1) := by decide +kernel
theorem dX12_isBroken_189 : decode cX12_isBroken 189 = .ok (.getfield 69, 3) := by decide +kernel
theorem dX12_isBroken_192 : decode cX12_isBroken 192 = .ok (.iload_n 1, 1) := by decide +kernel
theorem dX12_isBroken_193 : decode cX12_isBroken 193 = .ok (.iaload, 1) := by decide +kernel
theorem dX12_isBroken_194 : decode cX12_isBroken 194 = .ok (.if_icmp .ge 7, 3) := by decide +kernel
theorem dX12_isBroken_197 : decode cX12_isBroken 197 = .ok (.iconst 1, 1) := by decide +kernel
theorem dX12_isBroken_198 : decode cX12_isBroken 198 = .ok (.goto 4, 3) := by decide +kernel
theorem dX12_isBroken_201 : decode cX12_isBroken 201 = .ok (.iconst 0, 1) := by decide +kernel
theorem dX12_isBroken_202 : decode cX12_isBroken 202 = .ok (.ireturn, 1) := by decide +kernel
theorem dX12_isBroken_203 : decode cX12_isBroken 203 = .ok (.aload_n 0, 1) := by decide +kernel
theorem dX12_isBroken_204 : decode cX12_isBroken 204 = .ok (.iconst 2, 1) := by decide +kernel
theorem dX12_isBroken_205 : decode cX12_isBroken 205 = .ok (.invokevirtual 161, 3) := by decide +kernel
theorem dX12_isBroken_208 : decode cX12_isBroken 208 = .ok (.aload_n 0, 1) := by decide +kernel
theorem dX12_isBroken_209 : decode cX12_isBroken 209 = .ok (.getfield 69, 3) := by decide +kernel
theorem dX12_isBroken_212 : decode cX12_isBroken 212 = .ok (.iload_n 1, 1) := by decide +kernel
theorem dX12_isBroken_213 : decode cX12_isBroken 213 = .ok (.iaload, 1) := by decide +kernel
theorem dX12_isBroken_214 : decode cX12_isBroken 214 = .ok (.if_icmp .le 7, 3) := by decide +kernel
theorem dX12_isBroken_217 : decode cX12_isBroken 217 = .ok (.iconst 1, 1) := by decide +kernel
theorem dX12_isBroken_218 : decode cX12_isBroken 218 = .ok (.goto 4, 3) := by decide +kernel
theorem dX12_isBroken_221 : decode cX12_isBroken 221 = .ok (.iconst 0, 1) := by decide +kernel
theorem dX12_isBroken_222 : decode cX12_isBroken 222 = .ok (.ireturn, 1) := by decide +kernel
theorem dX12_isBroken_223 : decode cX12_isBroken 223 = .ok (.aload_n 0, 1) := by decide +kernel
theorem dX12_isBroken_224 : decode cX12_isBroken 224 = .ok (.iconst 1, 1) := by decide +kernel
theorem dX12_isBroken_225 : decode cX12_isBroken 225 = .ok (.invokevirtual 161, 3) := by decide +kernel
theorem dX12_isBroken_228 : decode cX12_isBroken 228 = .ok (.aload_n 0, 1) := by decide +kernel
theorem dX12_isBroken_229 : decode cX12_isBroken 229 = .ok (.getfield 69, 3) := by decide +kernel
theorem dX12_isBroken_232 : decode cX12_isBroken 232 = .ok (.iload_n 1, 1) := by decide +kernel
theorem dX12_isBroken_233 : decode cX12_isBroken 233 = .ok (.iaload, 1) := by decide +kernel
theorem dX12_isBroken_234 : decode cX12_isBroken 234 = .ok (.if_icmp .le 7, 3) := by decide +kernel
theorem dX12_isBroken_237 : decode cX12_isBroken 237 = .ok (.iconst 1, 1) := by decide +kernel
theorem dX12_isBroken_238 : decode cX12_isBroken 238 = .ok (.goto 4, 3) := by decide +kernel
theorem dX12_isBroken_241 : decode cX12_isBroken 241 = .ok (.iconst 0, 1) := by decide +kernel
theorem dX12_isBroken_242 : decode cX12_isBroken 242 = .ok (.ireturn, 1) := by decide +kernel
theorem dX12_isBroken_243 : decode cX12_isBroken 243 = .ok (.aload_n 0, 1) := by decide +kernel
theorem dX12_isBroken_244 : decode cX12_isBroken 244 = .ok (.getfield 164, 3) := by decide +kernel
theorem dX12_isBroken_247 : decode cX12_isBroken 247 = .ok (.aload_n 0, 1) := by decide +kernel
theorem dX12_isBroken_248 : decode cX12_isBroken 248 = .ok (.getfield 167, 3) := by decide +kernel
theorem dX12_isBroken_251 : decode cX12_isBroken 251 = .ok (.isub, 1) := by decide +kernel
theorem dX12_isBroken_252 : decode cX12_isBroken 252 = .ok (.aload_n 0, 1) := by decide +kernel
theorem dX12_isBroken_253 : decode cX12_isBroken 253 = .ok (.getfield 69, 3) := by decide +kernel
theorem dX12_isBroken_256 : decode cX12_isBroken 256 = .ok (.iload_n 1, 1) := by decide +kernel
theorem dX12_isBroken_257 : decode cX12_isBroken 257 = .ok (.iaload, 1) := by decide +kernel
theorem dX12_isBroken_258 : decode cX12_isBroken 258 = .ok (.if_icmp .le 7, 3) := by decide +kernel
theorem dX12_isBroken_261 : decode cX12_isBroken 261 = .ok (.iconst 1, 1) := by decide +kernel
theorem dX12_isBroken_262 : decode cX12_isBroken 262 = .ok (.goto 4, 3) := by decide +kernel
theorem dX12_isBroken_265 : decode cX12_isBroken 265 = .ok (.iconst 0, 1) := by decide +kernel
theorem dX12_isBroken_266 : decode cX12_isBroken 266 = .ok (.ireturn, 1) := by decide +kernel
theorem dX12_isBroken_267 : decode cX12_isBroken 267 = .ok (.aload_n 0, 1) := by decide +kernel
theorem dX12_isBroken_268 : decode cX12_isBroken 268 = .ok (.getfield 164, 3) := by decide +kernel
theorem dX12_isBroken_271 : decode cX12_isBroken 271 = .ok (.aload_n 0, 1) := by decide +kernel
theorem dX12_isBroken_272 : decode cX12_isBroken 272 = .ok (.getfield 69, 3) := by decide +kernel
theorem dX12_isBroken_275 : decode cX12_isBroken 275 = .ok (.iload_n 1, 1) := by decide +kernel
theorem dX12_isBroken_276 : decode cX12_isBroken 276 = .ok (.iaload, 1) := by decide +kernel
theorem dX12_isBroken_277 : decode cX12_isBroken 277 = .ok (.if_icmp .le 7, 3) := by decide +kernel
theorem dX12_isBroken_280 : decode cX12_isBroken 280 = .ok (.iconst 1, 1) := by decide +kernel
theorem dX12_isBroken_281 : decode cX12_isBroken 281 = .ok (.goto 4, 3) := by decide +kernel
theorem dX12_isBroken_284 : decode cX12_isBroken 284 = .ok (.iconst 0, 1) := by decide +kernel
theorem dX12_isBroken_285 : decode cX12_isBroken 285 = .ok (.ireturn, 1) := by decide +kernel
theorem dX12_isBroken_286 : decode cX12_isBroken 286 = .ok (.aload_n 0, 1) := by decide +kernel
theorem dX12_isBroken_287 : decode cX12_isBroken 287 = .ok (.iconst 4, 1) := by decide +kernel
theorem dX12_isBroken_288 : decode cX12_isBroken 288 = .ok (.invokevirtual 161, 3) := by decide +kernel
theorem dX12_isBroken_291 : decode cX12_isBroken 291 = .ok (.aload_n 0, 1) := by decide +kernel
theorem dX12_isBroken_292 : decode cX12_isBroken 292 = .ok (.getfield 72, 3) := by decide +kernel
theorem dX12_isBroken_295 : decode cX12_isBroken 295 = .ok (.iload_n 1, 1) := by decide +kernel
theorem dX12_isBroken_296 : decode cX12_isBroken 296 = .ok (.iaload, 1) := by decide +kernel
theorem dX12_isBroken_297 : decode cX12_isBroken 297 = .ok (.imul, 1) := by decide +kernel
theorem dX12_isBroken_298 : decode cX12_isBroken 298 = .ok (.aload_n 0, 1) := by decide +kernel
theorem dX12_isBroken_299 : decode cX12_isBroken 299 = .ok (.getfield 69, 3) := by decide +kernel
theorem dX12_isBroken_302 : decode cX12_isBroken 302 = .ok (.iload_n 1, 1) := by decide +kernel
theorem dX12_isBroken_303 : decode cX12_isBroken 303 = .ok (.iaload, 1) := by decide +kernel
theorem dX12_isBroken_304 : decode cX12_isBroken 304 = .ok (.aload_n 0, 1) := by decide +kernel
theorem dX12_isBroken_305 : decode cX12_isBroken 305 = .ok (.iconst 3, 1) := by decide +kernel
theorem dX12_isBroken_306 : decode cX12_isBroken 306 = .ok (.invokevirtual 161, 3) := by decide +kernel
theorem dX12_isBroken_309 : decode cX12_isBroken 309 = .ok (.imul, 1) := by decide +kernel
theorem dX12_isBroken_310 : decode cX12_isBroken 310 = .ok (.if_icmp .ge 7, 3) := by decide +kernel
theorem dX12_isBroken_313 : decode cX12_isBroken 313 = .ok (.iconst 1, 1) := by decide +kernel
theorem dX12_isBroken_314 : decode cX12_isBroken 314 = .ok (.goto 4, 3) := by decide +kernel
theorem dX12_isBroken_317 : decode cX12_isBroken 317 = .ok (.iconst 0, 1) := by decide +kernel
theorem dX12_isBroken_318 : decode cX12_isBroken 318 = .ok (.ireturn, 1) := by decide +kernel
theorem dX12_broken_0 : decode cX12_broken 0 = .ok (.aload_n 0, 1) := by decide +kernel
theorem dX12_broken_1 : decode cX12_broken 1 = .ok (.iconst 0, 1) := by decide +kernel
theorem dX12_broken_2 : decode cX12_broken 2 = .ok (.putfield 96, 3) := by decide +kernel
theorem dX12_broken_5 : decode cX12_broken 5 = .ok (.iload_n 1, 1) := by decide +kernel
theorem dX12_broken_6 : decode cX12_broken 6 = .ok (.ifCond .ge 5, 3) := by decide +kernel
theorem dX12_broken_9 : decode cX12_broken 9 = .ok (.iconst (-1), 1) := by decide +kernel
theorem dX12_broken_10 : decode cX12_broken 10 = .ok (.ireturn, 1) := by decide +kernel
theorem dX12_broken_11 : decode cX12_broken 11 = .ok (.aload_n 0, 1) := by decide +kernel
theorem dX12_broken_12 : decode cX12_broken 12 = .ok (.invokevirtual 145, 3) := by decide +kernel
theorem dX12_broken_15 : decode cX12_broken 15 = .ok (.aload_n 0, 1) := by decide +kernel
theorem dX12_broken_16 : decode cX12_broken 16 = .ok (.invokevirtual 173, 3) := by decide +kernel
theorem dX12_broken_19 : decode cX12_broken 19 = .ok (.iload_n 1, 1) := by decide +kernel
theorem dX12_broken_20 : decode cX12_broken 20 = .ok (.istore_n 2, 1) := by decide +kernel
theorem dX12_broken_21 : decode cX12_broken 21 = .ok (.iload_n 2, 1) := by decide +kernel
theorem dX12_broken_22 : decode cX12_broken 22 = .ok (.aload_n 0, 1) := by decide +kernel
theorem dX12_broken_23 : decode cX12_broken 23 = .ok (.getfield 250, 3) := by decide +kernel
theorem dX12_broken_26 : decode cX12_broken 26 = .ok (.if_icmp .ge 19, 3) := by decide +kernel
theorem dX12_broken_29 : decode cX12_broken 29 = .ok (.aload_n 0, 1) := by decide +kernel
theorem dX12_broken_30 : decode cX12_broken 30 = .ok (.iload_n 2, 1) := by decide +kernel
theorem dX12_broken_31 : decode cX12_broken 31 = .ok (.invokevirtual 253, 3) := by decide +kernel
theorem dX12_broken_34 : decode cX12_broken 34 = .ok (.ifCond .eq 5, 3) := by decide +kernel
theorem dX12_broken_37 : decode cX12_broken 37 = .ok (.iload_n 2, 1) := by decide +kernel
theorem dX12_broken_38 : decode cX12_broken 38 = .ok (.ireturn, 1) := by decide +kernel
theorem dX12_broken_39 : decode cX12_broken 39 = .ok (.iinc 2 1, 3) := by decide +kernel
theorem dX12_broken_42 : decode cX12_broken 42 = .ok (.goto (-21), 3) := by decide +kernel
theorem dX12_broken_45 : decode cX12_broken 45 = .ok (.iconst (-1), 1) := by decide +kernel
theorem dX12_broken_46 : decode cX12_broken 46 = .ok (.ireturn, 1) := by decide +kernel
theorem dX12_isVessel_0 : decode cX12_isVessel 0 = .ok (.iload_n 1, 1) := by decide +kernel
theorem dX12_isVessel_1 : decode cX12_isVessel 1 = .ok (.i2l, 1) := by decide +kernel
theorem dX12_isVessel_2 : decode cX12_isVessel 2 = .ok (.lconst 0, 1) := by decide +kernel
theorem dX12_isVessel_3 : decode cX12_isVessel 3 = .ok (.aload_n 0, 1) := by decide +kernel
theorem dX12_isVessel_4 : decode cX12_isVessel 4 = .ok (.getfield 256, 3) := by decide +kernel
theorem dX12_isVessel_7 : decode cX12_isVessel 7 = .ok (.i2l, 1) := by decide +kernel
theorem dX12_isVessel_8 : decode cX12_isVessel 8 = .ok (.lconst 1, 1) := by decide +kernel
theorem dX12_isVessel_9 : decode cX12_isVessel 9 = .ok (.lsub, 1) := by decide +kernel
theorem dX12_isVessel_10 : decode cX12_isVessel 10 = .ok (.invokestatic 102, 3) := by decide +kernel
theorem dX12_isVessel_13 : decode cX12_isVessel 13 = .ok (.ireturn, 1) := by decide +kernel
theorem dX12_vessel_0 : decode cX12_vessel 0 = .ok (.aload_n 0, 1) := by decide +kernel
theorem dX12_vessel_1 : decode cX12_vessel 1 = .ok (.iconst 0, 1) := by decide +kernel
theorem dX12_vessel_2 : decode cX12_vessel 2 = .ok (.putfield 96, 3) := by decide +kernel
theorem dX12_vessel_5 : decode cX12_vessel 5 = .ok (.iload_n 1, 1) := by decide +kernel
theorem dX12_vessel_6 : decode cX12_vessel 6 = .ok (.i2l, 1) := by decide +kernel
theorem dX12_vessel_7 : decode cX12_vessel 7 = .ok (.lconst 0, 1) := by decide +kernel
theorem dX12_vessel_8 : decode cX12_vessel 8 = .ok (.ldc2_w 259, 3) := by decide +kernel
theorem dX12_vessel_11 : decode cX12_vessel 11 = .ok (.invokestatic 102, 3) := by decide +kernel
theorem dX12_vessel_14 : decode cX12_vessel 14 = .ok (.ifCond .ne 9, 3) := by decide +kernel
theorem dX12_vessel_17 : decode cX12_vessel 17 = .ok (.aload_n 0, 1) := by decide +kernel
theorem dX12_vessel_18 : decode cX12_vessel 18 = .ok (.iconst (-1), 1) := by decide +kernel
theorem dX12_vessel_19 : decode cX12_vessel 19 = .ok (.invokevirtual 113, 3) := by decide +kernel
theorem dX12_vessel_22 : decode cX12_vessel 22 = .ok (.ireturn, 1) := by decide +kernel
theorem dX12_vessel_23 : decode cX12_vessel 23 = .ok (.aload_n 0, 1) := by decide +kernel
theorem dX12_vessel_24 : decode cX12_vessel 24 = .ok (.getfield 256, 3) := by decide +kernel
theorem dX12_vessel_27 : decode cX12_vessel 27 = .ok (.bipush 40, 2) := by decide +kernel
theorem dX12_vessel_29 : decode cX12_vessel 29 = .ok (.if_icmp .ne 10, 3) := by decide +kernel
theorem dX12_vessel_32 : decode cX12_vessel 32 = .ok (.aload_n 0, 1) := by decide +kernel
theorem dX12_vessel_33 : decode cX12_vessel 33 = .ok (.bipush (-5), 2) := by decide +kernel
theorem dX12_vessel_35 : decode cX12_vessel 35 = .ok (.invokevirtual 113, 3) := by decide +kernel
theorem dX12_vessel_38 : decode cX12_vessel 38 = .ok (.ireturn, 1) := by decide +kernel
theorem dX12_vessel_39 : decode cX12_vessel 39 = .ok (.iload_n 1, 1) := by decide +kernel
theorem dX12_vessel_40 : decode cX12_vessel 40 = .ok (.istore_n 2, 1) := by decide +kernel
theorem dX12_vessel_41 : decode cX12_vessel 41 = .ok (.iconst 0, 1) := by decide +kernel
theorem dX12_vessel_42 : decode cX12_vessel 42 = .ok (.istore_n 3, 1) := by decide +kernel
theorem dX12_vessel_43 : decode cX12_vessel 43 = .ok (.iload_n 3, 1) := by decide +kernel
theorem dX12_vessel_44 : decode cX12_vessel 44 = .ok (.bipush 8, 2) := by decide +kernel
theorem dX12_vessel_46 : decode cX12_vessel 46 = .ok (.if_icmp .ge 32, 3) := by decide +kernel
theorem dX12_vessel_49 : decode cX12_vessel 49 = .ok (.aload_n 0, 1) := by decide +kernel
theorem dX12_vessel_50 : decode cX12_vessel 50 = .ok (.getfield 84, 3) := by decide +kernel
theorem dX12_vessel_53 : decode cX12_vessel 53 = .ok (.bipush 8, 2) := by decide +kernel
theorem dX12_vessel_55 : decode cX12_vessel 55 = .ok (.aload_n 0, 1) := by decide +kernel
theorem dX12_vessel_56 : decode cX12_vessel 56 = .ok (.getfield 256, 3) := by decide +kernel
theorem dX12_vessel_59 : decode cX12_vessel 59 = .ok (.imul, 1) := by decide +kernel
theorem dX12_vessel_60 : decode cX12_vessel 60 = .ok (.iload_n 3, 1) := by decide +kernel
theorem dX12_vessel_61 : decode cX12_vessel 61 = .ok (.iadd, 1) := by decide +kernel
theorem dX12_vessel_62 : decode cX12_vessel 62 = .ok (.iload_n 2, 1) := by decide +kernel
theorem dX12_vessel_63 : decode cX12_vessel 63 = .ok (.bipush 10, 2) := by decide +kernel
theorem dX12_vessel_65 : decode cX12_vessel 65 = .ok (.irem, 1) := by decide +kernel
theorem dX12_vessel_66 : decode cX12_vessel 66 = .ok (.iastore, 1) := by decide +kernel
theorem dX12_vessel_67 : decode cX12_vessel 67 = .ok (.iload_n 2, 1) := by decide +kernel
theorem dX12_vessel_68 : decode cX12_vessel 68 = .ok (.bipush 10, 2) := by decide +kernel
theorem dX12_vessel_70 : decode cX12_vessel 70 = .ok (.idiv, 1) := by decide +kernel
theorem dX12_vessel_71 : decode cX12_vessel 71 = .ok (.istore_n 2, 1) := by decide +kernel
theorem dX12_vessel_72 : decode cX12_vessel 72 = .ok (.iinc 3 1, 3) := by decide +kernel
theorem dX12_vessel_75 : decode cX12_vessel 75 = .ok (.goto (-32), 3) := by decide +kernel
theorem dX12_vessel_78 : decode cX12_vessel 78 = .ok (.aload_n 0, 1) := by decide +kernel
theorem dX12_vessel_79 : decode cX12_vessel 79 = .ok (.dup, 1) := by decide +kernel
theorem dX12_vessel_80 : decode cX12_vessel 80 = .ok (.getfield 256, 3) := by decide +kernel
theorem dX12_vessel_83 : decode cX12_vessel 83 = .ok (.iconst 1, 1) := by decide +kernel
theorem dX12_vessel_84 : decode cX12_vessel 84 = .ok (.iadd, 1) := by decide +kernel
theorem dX12_vessel_85 : decode cX12_vessel 85 = .ok (.putfield 256, 3) := by decide +kernel
theorem dX12_vessel_88 : decode cX12_vessel 88 = .ok (.aload_n 0, 1) := by decide +kernel
theorem dX12_vessel_89 : decode cX12_vessel 89 = .ok (.aload_n 0, 1) := by decide +kernel
theorem dX12_vessel_90 : decode cX12_vessel 90 = .ok (.getfield 256, 3) := by decide +kernel
theorem dX12_vessel_93 : decode cX12_vessel 93 = .ok (.iconst 1, 1) := by decide +kernel
theorem dX12_vessel_94 : decode cX12_vessel 94 = .ok (.isub, 1) := by decide +kernel
theorem dX12_vessel_95 : decode cX12_vessel 95 = .ok (.invokevirtual 113, 3) := by decide +kernel
theorem dX12_vessel_98 : decode cX12_vessel 98 = .ok (.ireturn, 1) := by decide +kernel
theorem dX12_likeness_0 : decode cX12_likeness 0 = .ok (.iconst 0, 1) := by decide +kernel
theorem dX12_likeness_1 : decode cX12_likeness 1 = .ok (.istore_n 3, 1) := by decide +kernel
theorem dX12_likeness_2 : decode cX12_likeness 2 = .ok (.iconst 0, 1) := by decide +kernel
theorem dX12_likeness_3 : decode cX12_likeness 3 = .ok (.istore 4, 2) := by decide +kernel
theorem dX12_likeness_5 : decode cX12_likeness 5 = .ok (.iload 4, 2) := by decide +kernel
theorem dX12_likeness_7 : decode cX12_likeness 7 = .ok (.bipush 8, 2) := by decide +kernel
theorem dX12_likeness_9 : decode cX12_likeness 9 = .ok (.if_icmp .ge 66, 3) := by decide +kernel
theorem dX12_likeness_12 : decode cX12_likeness 12 = .ok (.aload_n 0, 1) := by decide +kernel
theorem dX12_likeness_13 : decode cX12_likeness 13 = .ok (.getfield 84, 3) := by decide +kernel
theorem dX12_likeness_16 : decode cX12_likeness 16 = .ok (.bipush 8, 2) := by decide +kernel
theorem dX12_likeness_18 : decode cX12_likeness 18 = .ok (.iload_n 1, 1) := by decide +kernel
theorem dX12_likeness_19 : decode cX12_likeness 19 = .ok (.imul, 1) := by decide +kernel
theorem dX12_likeness_20 : decode cX12_likeness 20 = .ok (.iload 4, 2) := by decide +kernel
theorem dX12_likeness_22 : decode cX12_likeness 22 = .ok (.iadd, 1) := by decide +kernel
theorem dX12_likeness_23 : decode cX12_likeness 23 = .ok (.iaload, 1) := by decide +kernel
theorem dX12_likeness_24 : decode cX12_likeness 24 = .ok (.istore 5, 2) := by decide +kernel
theorem dX12_likeness_26 : decode cX12_likeness 26 = .ok (.aload_n 0, 1) := by decide +kernel
theorem dX12_likeness_27 : decode cX12_likeness 27 = .ok (.getfield 84, 3) := by decide +kernel
theorem dX12_likeness_30 : decode cX12_likeness 30 = .ok (.bipush 8, 2) := by decide +kernel
theorem dX12_likeness_32 : decode cX12_likeness 32 = .ok (.iload_n 2, 1) := by decide +kernel
theorem dX12_likeness_33 : decode cX12_likeness 33 = .ok (.imul, 1) := by decide +kernel
theorem dX12_likeness_34 : decode cX12_likeness 34 = .ok (.iload 4, 2) := by decide +kernel
theorem dX12_likeness_36 : decode cX12_likeness 36 = .ok (.iadd, 1) := by decide +kernel
theorem dX12_likeness_37 : decode cX12_likeness 37 = .ok (.iaload, 1) := by decide +kernel
theorem dX12_likeness_38 : decode cX12_likeness 38 = .ok (.istore 6, 2) := by decide +kernel
theorem dX12_likeness_40 : decode cX12_likeness 40 = .ok (.iload_n 3, 1) := by decide +kernel
theorem dX12_likeness_41 : decode cX12_likeness 41 = .ok (.iload 5, 2) := by decide +kernel
theorem dX12_likeness_43 : decode cX12_likeness 43 = .ok (.ifCond .eq 8, 3) := by decide +kernel
theorem dX12_likeness_46 : decode cX12_likeness 46 = .ok (.iload 6, 2) := by decide +kernel
theorem dX12_likeness_48 : decode cX12_likeness 48 = .ok (.ifCond .ne 7, 3) := by decide +kernel
theorem dX12_likeness_51 : decode cX12_likeness 51 = .ok (.iconst 0, 1) := by decide +kernel
theorem dX12_likeness_52 : decode cX12_likeness 52 = .ok (.goto 15, 3) := by decide +kernel
theorem dX12_likeness_55 : decode cX12_likeness 55 = .ok (.iload 5, 2) := by decide +kernel
theorem dX12_likeness_57 : decode cX12_likeness 57 = .ok (.iload 6, 2) := by decide +kernel
theorem dX12_likeness_59 : decode cX12_likeness 59 = .ok (.if_icmp .ne 7, 3) := by decide +kernel
theorem dX12_likeness_62 : decode cX12_likeness 62 = .ok (.iconst 1, 1) := by decide +kernel
theorem dX12_likeness_63 : decode cX12_likeness 63 = .ok (.goto 4, 3) := by decide +kernel
theorem dX12_likeness_66 : decode cX12_likeness 66 = .ok (.iconst (-1), 1) := by decide +kernel
theorem dX12_likeness_67 : decode cX12_likeness 67 = .ok (.iadd, 1) := by decide +kernel
theorem dX12_likeness_68 : decode cX12_likeness 68 = .ok (.istore_n 3, 1) := by decide +kernel
theorem dX12_likeness_69 : decode cX12_likeness 69 = .ok (.iinc 4 1, 3) := by decide +kernel
theorem dX12_likeness_72 : decode cX12_likeness 72 = .ok (.goto (-67), 3) := by decide +kernel
theorem dX12_likeness_75 : decode cX12_likeness 75 = .ok (.iload_n 3, 1) := by decide +kernel
theorem dX12_likeness_76 : decode cX12_likeness 76 = .ok (.ireturn, 1) := by decide +kernel
theorem dX12_like_0 : decode cX12_like 0 = .ok (.aload_n 0, 1) := by decide +kernel
theorem dX12_like_1 : decode cX12_like 1 = .ok (.iconst 0, 1) := by decide +kernel
theorem dX12_like_2 : decode cX12_like 2 = .ok (.putfield 96, 3) := by decide +kernel
theorem dX12_like_5 : decode cX12_like 5 = .ok (.aload_n 0, 1) := by decide +kernel
theorem dX12_like_6 : decode cX12_like 6 = .ok (.iload_n 1, 1) := by decide +kernel
theorem dX12_like_7 : decode cX12_like 7 = .ok (.invokevirtual 261, 3) := by decide +kernel
theorem dX12_like_10 : decode cX12_like 10 = .ok (.ifCond .eq 20, 3) := by decide +kernel
theorem dX12_like_13 : decode cX12_like 13 = .ok (.aload_n 0, 1) := by decide +kernel
theorem dX12_like_14 : decode cX12_like 14 = .ok (.iload_n 2, 1) := by decide +kernel
theorem dX12_like_15 : decode cX12_like 15 = .ok (.invokevirtual 261, 3) := by decide +kernel
theorem dX12_like_18 : decode cX12_like 18 = .ok (.ifCond .eq 12, 3) := by decide +kernel
theorem dX12_like_21 : decode cX12_like 21 = .ok (.aload_n 0, 1) := by decide +kernel
theorem dX12_like_22 : decode cX12_like 22 = .ok (.iload_n 1, 1) := by decide +kernel
theorem dX12_like_23 : decode cX12_like 23 = .ok (.iload_n 2, 1) := by decide +kernel
theorem dX12_like_24 : decode cX12_like 24 = .ok (.invokevirtual 264, 3) := by decide +kernel
theorem dX12_like_27 : decode cX12_like 27 = .ok (.goto 6, 3) := by decide +kernel
theorem dX12_like_30 : decode cX12_like 30 = .ok (.sipush (-1000), 3) := by decide +kernel
theorem dX12_like_33 : decode cX12_like 33 = .ok (.ireturn, 1) := by decide +kernel
theorem dX12_tell_0 : decode cX12_tell 0 = .ok (.aload_n 0, 1) := by decide +kernel
theorem dX12_tell_1 : decode cX12_tell 1 = .ok (.iconst 0, 1) := by decide +kernel
theorem dX12_tell_2 : decode cX12_tell 2 = .ok (.putfield 96, 3) := by decide +kernel
theorem dX12_tell_5 : decode cX12_tell 5 = .ok (.iload_n 2, 1) := by decide +kernel
theorem dX12_tell_6 : decode cX12_tell 6 = .ok (.i2l, 1) := by decide +kernel
theorem dX12_tell_7 : decode cX12_tell 7 = .ok (.ldc2_w 216, 3) := by decide +kernel
theorem dX12_tell_10 : decode cX12_tell 10 = .ok (.ldc2_w 267, 3) := by decide +kernel
theorem dX12_tell_13 : decode cX12_tell 13 = .ok (.invokestatic 102, 3) := by decide +kernel
theorem dX12_tell_16 : decode cX12_tell 16 = .ok (.ifCond .eq 15, 3) := by decide +kernel
theorem dX12_tell_19 : decode cX12_tell 19 = .ok (.iload_n 3, 1) := by decide +kernel
theorem dX12_tell_20 : decode cX12_tell 20 = .ok (.i2l, 1) := by decide +kernel
theorem dX12_tell_21 : decode cX12_tell 21 = .ok (.lconst 0, 1) := by decide +kernel
theorem dX12_tell_22 : decode cX12_tell 22 = .ok (.ldc2_w 269, 3) := by decide +kernel
theorem dX12_tell_25 : decode cX12_tell 25 = .ok (.invokestatic 102, 3) := by decide +kernel
theorem dX12_tell_28 : decode cX12_tell 28 = .ok (.ifCond .ne 9, 3) := by decide +kernel
theorem dX12_tell_31 : decode cX12_tell 31 = .ok (.aload_n 0, 1) := by decide +kernel
theorem dX12_tell_32 : decode cX12_tell 32 = .ok (.iconst (-1), 1) := by decide +kernel
theorem dX12_tell_33 : decode cX12_tell 33 = .ok (.invokevirtual 113, 3) := by decide +kernel
theorem dX12_tell_36 : decode cX12_tell 36 = .ok (.ireturn, 1) := by decide +kernel
theorem dX12_tell_37 : decode cX12_tell 37 = .ok (.aload_n 0, 1) := by decide +kernel
theorem dX12_tell_38 : decode cX12_tell 38 = .ok (.iload_n 1, 1) := by decide +kernel
theorem dX12_tell_39 : decode cX12_tell 39 = .ok (.invokevirtual 261, 3) := by decide +kernel
theorem dX12_tell_42 : decode cX12_tell 42 = .ok (.ifCond .ne 10, 3) := by decide +kernel
theorem dX12_tell_45 : decode cX12_tell 45 = .ok (.aload_n 0, 1) := by decide +kernel
theorem dX12_tell_46 : decode cX12_tell 46 = .ok (.bipush (-2), 2) := by decide +kernel
theorem dX12_tell_48 : decode cX12_tell 48 = .ok (.invokevirtual 113, 3) := by decide +kernel
theorem dX12_tell_51 : decode cX12_tell 51 = .ok (.ireturn, 1) := by decide +kernel
theorem dX12_tell_52 : decode cX12_tell 52 = .ok (.aload_n 0, 1) := by decide +kernel
theorem dX12_tell_53 : decode cX12_tell 53 = .ok (.getfield 271, 3) := by decide +kernel
theorem dX12_tell_56 : decode cX12_tell 56 = .ok (.sipush 150, 3) := by decide +kernel
theorem dX12_tell_59 : decode cX12_tell 59 = .ok (.if_icmp .ne 10, 3) := by decide +kernel
theorem dX12_tell_62 : decode cX12_tell 62 = .ok (.aload_n 0, 1) := by decide +kernel
theorem dX12_tell_63 : decode cX12_tell 63 = .ok (.bipush (-5), 2) := by decide +kernel
theorem dX12_tell_65 : decode cX12_tell 65 = .ok (.invokevirtual 113, 3) := by decide +kernel
theorem dX12_tell_68 : decode cX12_tell 68 = .ok (.ireturn, 1) := by decide +kernel
theorem dX12_tell_69 : decode cX12_tell 69 = .ok (.aload_n 0, 1) := by decide +kernel
theorem dX12_tell_70 : decode cX12_tell 70 = .ok (.getfield 87, 3) := by decide +kernel
theorem dX12_tell_73 : decode cX12_tell 73 = .ok (.aload_n 0, 1) := by decide +kernel
theorem dX12_tell_74 : decode cX12_tell 74 = .ok (.getfield 271, 3) := by decide +kernel
theorem dX12_tell_77 : decode cX12_tell 77 = .ok (.iload_n 1, 1) := by decide +kernel
theorem dX12_tell_78 : decode cX12_tell 78 = .ok (.iastore, 1) := by decide +kernel
theorem dX12_tell_79 : decode cX12_tell 79 = .ok (.aload_n 0, 1) := by decide +kernel
theorem dX12_tell_80 : decode cX12_tell 80 = .ok (.getfield 90, 3) := by decide +kernel
theorem dX12_tell_83 : decode cX12_tell 83 = .ok (.aload_n 0, 1) := by decide +kernel
theorem dX12_tell_84 : decode cX12_tell 84 = .ok (.getfield 271, 3) := by decide +kernel
theorem dX12_tell_87 : decode cX12_tell 87 = .ok (.iload_n 2, 1) := by decide +kernel
theorem dX12_tell_88 : decode cX12_tell 88 = .ok (.iastore, 1) := by decide +kernel
theorem dX12_tell_89 : decode cX12_tell 89 = .ok (.aload_n 0, 1) := by decide +kernel
theorem dX12_tell_90 : decode cX12_tell 90 = .ok (.getfield 93, 3) := by decide +kernel
theorem dX12_tell_93 : decode cX12_tell 93 = .ok (.aload_n 0, 1) := by decide +kernel
theorem dX12_tell_94 : decode cX12_tell 94 = .ok (.getfield 271, 3) := by decide +kernel
theorem dX12_tell_97 : decode cX12_tell 97 = .ok (.iload_n 3, 1) := by decide +kernel
theorem dX12_tell_98 : decode cX12_tell 98 = .ok (.iastore, 1) := by decide +kernel
theorem dX12_tell_99 : decode cX12_tell 99 = .ok (.aload_n 0, 1) := by decide +kernel
theorem dX12_tell_100 : decode cX12_tell 100 = .ok (.dup, 1) := by decide +kernel
theorem dX12_tell_101 : decode cX12_tell 101 = .ok (.getfield 271, 3) := by decide +kernel
theorem dX12_tell_104 : decode cX12_tell 104 = .ok (.iconst 1, 1) := by decide +kernel
theorem dX12_tell_105 : decode cX12_tell 105 = .ok (.iadd, 1) := by decide +kernel
theorem dX12_tell_106 : decode cX12_tell 106 = .ok (.putfield 271, 3) := by decide +kernel
theorem dX12_tell_109 : decode cX12_tell 109 = .ok (.aload_n 0, 1) := by decide +kernel
theorem dX12_tell_110 : decode cX12_tell 110 = .ok (.aload_n 0, 1) := by decide +kernel
theorem dX12_tell_111 : decode cX12_tell 111 = .ok (.getfield 271, 3) := by decide +kernel
theorem dX12_tell_114 : decode cX12_tell 114 = .ok (.invokevirtual 113, 3) := by decide +kernel
theorem dX12_tell_117 : decode cX12_tell 117 = .ok (.ireturn, 1) := by decide +kernel
theorem dX12_shopOf_0 : decode cX12_shopOf 0 = .ok (.iconst (-1), 1) := by decide +kernel
theorem dX12_shopOf_1 : decode cX12_shopOf 1 = .ok (.istore_n 3, 1) := by decide +kernel
theorem dX12_shopOf_2 : decode cX12_shopOf 2 = .ok (.iconst 0, 1) := by decide +kernel
theorem dX12_shopOf_3 : decode cX12_shopOf 3 = .ok (.istore 4, 2) := by decide +kernel
theorem dX12_shopOf_5 : decode cX12_shopOf 5 = .ok (.iload 4, 2) := by decide +kernel
theorem dX12_shopOf_7 : decode cX12_shopOf 7 = .ok (.aload_n 0, 1) := by decide +kernel
theorem dX12_shopOf_8 : decode cX12_shopOf 8 = .ok (.getfield 271, 3) := by decide +kernel
theorem dX12_shopOf_11 : decode cX12_shopOf 11 = .ok (.if_icmp .ge 43, 3) := by decide +kernel
theorem dX12_shopOf_14 : decode cX12_shopOf 14 = .ok (.aload_n 0, 1) := by decide +kernel
theorem dX12_shopOf_15 : decode cX12_shopOf 15 = .ok (.getfield 87, 3) := by decide +kernel
theorem dX12_shopOf_18 : decode cX12_shopOf 18 = .ok (.iload 4, 2) := by decide +kernel
theorem dX12_shopOf_20 : decode cX12_shopOf 20 = .ok (.iaload, 1) := by decide +kernel
theorem dX12_shopOf_21 : decode cX12_shopOf 21 = .ok (.iload_n 1, 1) := by decide +kernel
theorem dX12_shopOf_22 : decode cX12_shopOf 22 = .ok (.if_icmp .ne 24, 3) := by decide +kernel
theorem dX12_shopOf_25 : decode cX12_shopOf 25 = .ok (.aload_n 0, 1) := by decide +kernel
theorem dX12_shopOf_26 : decode cX12_shopOf 26 = .ok (.getfield 93, 3) := by decide +kernel
theorem dX12_shopOf_29 : decode cX12_shopOf 29 = .ok (.iload 4, 2) := by decide +kernel
theorem dX12_shopOf_31 : decode cX12_shopOf 31 = .ok (.iaload, 1) := by decide +kernel
theorem dX12_shopOf_32 : decode cX12_shopOf 32 = .ok (.iload_n 2, 1) := by decide +kernel
theorem dX12_shopOf_33 : decode cX12_shopOf 33 = .ok (.if_icmp .gt 13, 3) := by decide +kernel
theorem dX12_shopOf_36 : decode cX12_shopOf 36 = .ok (.aload_n 0, 1) := by decide +kernel
theorem dX12_shopOf_37 : decode cX12_shopOf 37 = .ok (.getfield 90, 3) := by decide +kernel
theorem dX12_shopOf_40 : decode cX12_shopOf 40 = .ok (.iload 4, 2) := by decide +kernel
theorem dX12_shopOf_42 : decode cX12_shopOf 42 = .ok (.iaload, 1) := by decide +kernel
theorem dX12_shopOf_43 : decode cX12_shopOf 43 = .ok (.goto 4, 3) := by decide +kernel
theorem dX12_shopOf_46 : decode cX12_shopOf 46 = .ok (.iload_n 3, 1) := by decide +kernel
theorem dX12_shopOf_47 : decode cX12_shopOf 47 = .ok (.istore_n 3, 1) := by decide +kernel
theorem dX12_shopOf_48 : decode cX12_shopOf 48 = .ok (.iinc 4 1, 3) := by decide +kernel
theorem dX12_shopOf_51 : decode cX12_shopOf 51 = .ok (.goto (-46), 3) := by decide +kernel
theorem dX12_shopOf_54 : decode cX12_shopOf 54 = .ok (.iload_n 3, 1) := by decide +kernel
theorem dX12_shopOf_55 : decode cX12_shopOf 55 = .ok (.ireturn, 1) := by decide +kernel
theorem dX12_of_0 : decode cX12_of 0 = .ok (.aload_n 0, 1) := by decide +kernel
theorem dX12_of_1 : decode cX12_of 1 = .ok (.iconst 0, 1) := by decide +kernel
theorem dX12_of_2 : decode cX12_of 2 = .ok (.putfield 96, 3) := by decide +kernel
theorem dX12_of_5 : decode cX12_of 5 = .ok (.aload_n 0, 1) := by decide +kernel
theorem dX12_of_6 : decode cX12_of 6 = .ok (.iload_n 1, 1) := by decide +kernel
theorem dX12_of_7 : decode cX12_of 7 = .ok (.invokevirtual 261, 3) := by decide +kernel
theorem dX12_of_10 : decode cX12_of 10 = .ok (.ifCond .eq 24, 3) := by decide +kernel
theorem dX12_of_13 : decode cX12_of 13 = .ok (.iload_n 2, 1) := by decide +kernel
theorem dX12_of_14 : decode cX12_of 14 = .ok (.i2l, 1) := by decide +kernel
theorem dX12_of_15 : decode cX12_of 15 = .ok (.lconst 0, 1) := by decide +kernel
theorem dX12_of_16 : decode cX12_of 16 = .ok (.ldc2_w 269, 3) := by decide +kernel
theorem dX12_of_19 : decode cX12_of 19 = .ok (.invokestatic 102, 3) := by decide +kernel
theorem dX12_of_22 : decode cX12_of 22 = .ok (.ifCond .eq 12, 3) := by decide +kernel
theorem dX12_of_25 : decode cX12_of 25 = .ok (.aload_n 0, 1) := by decide +kernel
theorem dX12_of_26 : decode cX12_of 26 = .ok (.iload_n 1, 1) := by decide +kernel
theorem dX12_of_27 : decode cX12_of 27 = .ok (.iload_n 2, 1) := by decide +kernel
theorem dX12_of_28 : decode cX12_of 28 = .ok (.invokevirtual 274, 3) := by decide +kernel
theorem dX12_of_31 : decode cX12_of 31 = .ok (.goto 5, 3) := by decide +kernel
theorem dX12_of_34 : decode cX12_of 34 = .ok (.bipush (-2), 2) := by decide +kernel
theorem dX12_of_36 : decode cX12_of 36 = .ok (.ireturn, 1) := by decide +kernel
theorem dX12_by_0 : decode cX12_by 0 = .ok (.aload_n 0, 1) := by decide +kernel
theorem dX12_by_1 : decode cX12_by 1 = .ok (.iconst 0, 1) := by decide +kernel
theorem dX12_by_2 : decode cX12_by 2 = .ok (.putfield 96, 3) := by decide +kernel
theorem dX12_by_5 : decode cX12_by 5 = .ok (.aload_n 0, 1) := by decide +kernel
theorem dX12_by_6 : decode cX12_by 6 = .ok (.iload_n 1, 1) := by decide +kernel
theorem dX12_by_7 : decode cX12_by 7 = .ok (.invokevirtual 261, 3) := by decide +kernel
theorem dX12_by_10 : decode cX12_by 10 = .ok (.ifCond .eq 15, 3) := by decide +kernel
theorem dX12_by_13 : decode cX12_by 13 = .ok (.iload_n 2, 1) := by decide +kernel
theorem dX12_by_14 : decode cX12_by 14 = .ok (.i2l, 1) := by decide +kernel
theorem dX12_by_15 : decode cX12_by 15 = .ok (.lconst 0, 1) := by decide +kernel
theorem dX12_by_16 : decode cX12_by 16 = .ok (.ldc2_w 269, 3) := by decide +kernel
theorem dX12_by_19 : decode cX12_by 19 = .ok (.invokestatic 102, 3) := by decide +kernel
theorem dX12_by_22 : decode cX12_by 22 = .ok (.ifCond .ne 6, 3) := by decide +kernel
theorem dX12_by_25 : decode cX12_by 25 = .ok (.bipush (-2), 2) := by decide +kernel
theorem dX12_by_27 : decode cX12_by 27 = .ok (.ireturn, 1) := by decide +kernel
theorem dX12_by_28 : decode cX12_by 28 = .ok (.iconst (-1), 1) := by decide +kernel
theorem dX12_by_29 : decode cX12_by 29 = .ok (.istore_n 3, 1) := by decide +kernel
theorem dX12_by_30 : decode cX12_by 30 = .ok (.iconst 0, 1) := by decide +kernel
theorem dX12_by_31 : decode cX12_by 31 = .ok (.istore 4, 2) := by decide +kernel
theorem dX12_by_33 : decode cX12_by 33 = .ok (.iconst 1, 1) := by decide +kernel
theorem dX12_by_34 : decode cX12_by 34 = .ok (.istore 5, 2) := by decide +kernel
theorem dX12_by_36 : decode cX12_by 36 = .ok (.iconst 0, 1) := by decide +kernel
theorem dX12_by_37 : decode cX12_by 37 = .ok (.istore 6, 2) := by decide +kernel
theorem dX12_by_39 : decode cX12_by 39 = .ok (.iload 6, 2) := by decide +kernel
theorem dX12_by_41 : decode cX12_by 41 = .ok (.bipush 8, 2) := by decide +kernel
theorem dX12_by_43 : decode cX12_by 43 = .ok (.if_icmp .ge 99, 3) := by decide +kernel
theorem dX12_by_46 : decode cX12_by 46 = .ok (.iconst 0, 1) := by decide +kernel
theorem dX12_by_47 : decode cX12_by 47 = .ok (.istore 7, 2) := by decide +kernel
theorem dX12_by_49 : decode cX12_by 49 = .ok (.iconst 0, 1) := by decide +kernel
theorem dX12_by_50 : decode cX12_by 50 = .ok (.istore 8, 2) := by decide +kernel
theorem dX12_by_52 : decode cX12_by 52 = .ok (.iconst 0, 1) := by decide +kernel
theorem dX12_by_53 : decode cX12_by 53 = .ok (.istore 9, 2) := by decide +kernel
theorem dX12_by_55 : decode cX12_by 55 = .ok (.iload 9, 2) := by decide +kernel
theorem dX12_by_57 : decode cX12_by 57 = .ok (.aload_n 0, 1) := by decide +kernel
theorem dX12_by_58 : decode cX12_by 58 = .ok (.getfield 256, 3) := by decide +kernel
theorem dX12_by_61 : decode cX12_by 61 = .ok (.if_icmp .ge 42, 3) := by decide +kernel
theorem dX12_by_64 : decode cX12_by 64 = .ok (.iload 9, 2) := by decide +kernel
theorem dX12_by_66 : decode cX12_by 66 = .ok (.iload_n 1, 1) := by decide +kernel
theorem dX12_by_67 : decode cX12_by 67 = .ok (.if_icmp .eq 30, 3) := by decide +kernel
theorem dX12_by_70 : decode cX12_by 70 = .ok (.aload_n 0, 1) := by decide +kernel
theorem dX12_by_71 : decode cX12_by 71 = .ok (.iload 9, 2) := by decide +kernel
theorem dX12_by_73 : decode cX12_by 73 = .ok (.iload_n 2, 1) := by decide +kernel
theorem dX12_by_74 : decode cX12_by 74 = .ok (.invokevirtual 274, 3) := by decide +kernel
theorem dX12_by_77 : decode cX12_by 77 = .ok (.iload 6, 2) := by decide +kernel
theorem dX12_by_79 : decode cX12_by 79 = .ok (.if_icmp .ne 18, 3) := by decide +kernel
theorem dX12_by_82 : decode cX12_by 82 = .ok (.iload 7, 2) := by decide +kernel
theorem dX12_by_84 : decode cX12_by 84 = .ok (.aload_n 0, 1) := by decide +kernel
theorem dX12_by_85 : decode cX12_by 85 = .ok (.iload 9, 2) := by decide +kernel
theorem dX12_by_87 : decode cX12_by 87 = .ok (.iload_n 1, 1) := by decide +kernel
theorem dX12_by_88 : decode cX12_by 88 = .ok (.invokevirtual 264, 3) := by decide +kernel
theorem dX12_by_91 : decode cX12_by 91 = .ok (.iadd, 1) := by decide +kernel
theorem dX12_by_92 : decode cX12_by 92 = .ok (.istore 7, 2) := by decide +kernel
theorem dX12_by_94 : decode cX12_by 94 = .ok (.iinc 8 1, 3) := by decide +kernel
theorem dX12_by_97 : decode cX12_by 97 = .ok (.iinc 9 1, 3) := by decide +kernel
theorem dX12_by_100 : decode cX12_by 100 = .ok (.goto (-45), 3) := by decide +kernel
theorem dX12_by_103 : decode cX12_by 103 = .ok (.iload 8, 2) := by decide +kernel
theorem dX12_by_105 : decode cX12_by 105 = .ok (.ifCond .le 31, 3) := by decide +kernel
theorem dX12_by_108 : decode cX12_by 108 = .ok (.iload_n 3, 1) := by decide +kernel
theorem dX12_by_109 : decode cX12_by 109 = .ok (.ifCond .lt 16, 3) := by decide +kernel
theorem dX12_by_112 : decode cX12_by 112 = .ok (.iload 7, 2) := by decide +kernel
theorem dX12_by_114 : decode cX12_by 114 = .ok (.iload 5, 2) := by decide +kernel
theorem dX12_by_116 : decode cX12_by 116 = .ok (.imul, 1) := by decide +kernel
theorem dX12_by_117 : decode cX12_by 117 = .ok (.iload 4, 2) := by decide +kernel
theorem dX12_by_119 : decode cX12_by 119 = .ok (.iload 8, 2) := by decide +kernel
theorem dX12_by_121 : decode cX12_by 121 = .ok (.imul, 1) := by decide +kernel
theorem dX12_by_122 : decode cX12_by 122 = .ok (.if_icmp .le 14, 3) := by decide +kernel
theorem dX12_by_125 : decode cX12_by 125 = .ok (.iload 6, 2) := by decide +kernel
theorem dX12_by_127 : decode cX12_by 127 = .ok (.istore_n 3, 1) := by decide +kernel
theorem dX12_by_128 : decode cX12_by 128 = .ok (.iload 7, 2) := by decide +kernel
theorem dX12_by_130 : decode cX12_by 130 = .ok (.istore 4, 2) := by decide +kernel
theorem dX12_by_132 : decode cX12_by 132 = .ok (.iload 8, 2) := by decide +kernel
theorem dX12_by_134 : decode cX12_by 134 = .ok (.istore 5, 2) := by decide +kernel
theorem dX12_by_136 : decode cX12_by 136 = .ok (.iinc 6 1, 3) := by decide +kernel
theorem dX12_by_139 : decode cX12_by 139 = .ok (.goto (-100), 3) := by decide +kernel
theorem dX12_by_142 : decode cX12_by 142 = .ok (.iload_n 3, 1) := by decide +kernel
theorem dX12_by_143 : decode cX12_by 143 = .ok (.ireturn, 1) := by decide +kernel
theorem dX12_count_0 : decode cX12_count 0 = .ok (.aload_n 0, 1) := by decide +kernel
theorem dX12_count_1 : decode cX12_count 1 = .ok (.iconst 0, 1) := by decide +kernel
theorem dX12_count_2 : decode cX12_count 2 = .ok (.putfield 96, 3) := by decide +kernel
theorem dX12_count_5 : decode cX12_count 5 = .ok (.iload_n 1, 1) := by decide +kernel
theorem dX12_count_6 : decode cX12_count 6 = .ok (.tableswitch 77 0 6 #[42, 47, 52, 57, 62, 67, 72], 42) := by decide +kernel
theorem dX12_count_48 : decode cX12_count 48 = .ok (.aload_n 0, 1) := by decide +kernel
theorem dX12_count_49 : decode cX12_count 49 = .ok (.getfield 7, 3) := by decide +kernel
theorem dX12_count_52 : decode cX12_count 52 = .ok (.ireturn, 1) := by decide +kernel
theorem dX12_count_53 : decode cX12_count 53 = .ok (.aload_n 0, 1) := by decide +kernel
theorem dX12_count_54 : decode cX12_count 54 = .ok (.getfield 13, 3) := by decide +kernel
theorem dX12_count_57 : decode cX12_count 57 = .ok (.ireturn, 1) := by decide +kernel
theorem dX12_count_58 : decode cX12_count 58 = .ok (.aload_n 0, 1) := by decide +kernel
theorem dX12_count_59 : decode cX12_count 59 = .ok (.getfield 180, 3) := by decide +kernel
theorem dX12_count_62 : decode cX12_count 62 = .ok (.ireturn, 1) := by decide +kernel
theorem dX12_count_63 : decode cX12_count 63 = .ok (.aload_n 0, 1) := by decide +kernel
theorem dX12_count_64 : decode cX12_count 64 = .ok (.getfield 250, 3) := by decide +kernel
theorem dX12_count_67 : decode cX12_count 67 = .ok (.ireturn, 1) := by decide +kernel
theorem dX12_count_68 : decode cX12_count 68 = .ok (.aload_n 0, 1) := by decide +kernel
theorem dX12_count_69 : decode cX12_count 69 = .ok (.getfield 256, 3) := by decide +kernel
theorem dX12_count_72 : decode cX12_count 72 = .ok (.ireturn, 1) := by decide +kernel
theorem dX12_count_73 : decode cX12_count 73 = .ok (.aload_n 0, 1) := by decide +kernel
theorem dX12_count_74 : decode cX12_count 74 = .ok (.getfield 271, 3) := by decide +kernel
theorem dX12_count_77 : decode cX12_count 77 = .ok (.ireturn, 1) := by decide +kernel
theorem dX12_count_78 : decode cX12_count 78 = .ok (.aload_n 0, 1) := by decide +kernel
theorem dX12_count_79 : decode cX12_count 79 = .ok (.getfield 187, 3) := by decide +kernel
theorem dX12_count_82 : decode cX12_count 82 = .ok (.ireturn, 1) := by decide +kernel
theorem dX12_count_83 : decode cX12_count 83 = .ok (.iconst (-1), 1) := by decide +kernel
theorem dX12_count_84 : decode cX12_count 84 = .ok (.ireturn, 1) := by decide +kernel
theorem dX12_status_0 : decode cX12_status 0 = .ok (.aload_n 0, 1) := by decide +kernel
theorem dX12_status_1 : decode cX12_status 1 = .ok (.iconst 0, 1) := by decide +kernel
theorem dX12_status_2 : decode cX12_status 2 = .ok (.putfield 96, 3) := by decide +kernel
theorem dX12_status_5 : decode cX12_status 5 = .ok (.aload_n 0, 1) := by decide +kernel
theorem dX12_status_6 : decode cX12_status 6 = .ok (.getfield 99, 3) := by decide +kernel
theorem dX12_status_9 : decode cX12_status 9 = .ok (.ireturn, 1) := by decide +kernel
