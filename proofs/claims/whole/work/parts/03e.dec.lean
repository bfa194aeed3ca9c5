theorem dX12_init_0 : decode cX12_init 0 = .ok (.aload_n 0, 1) := by decide +kernel
theorem dX12_init_1 : decode cX12_init 1 = .ok (.invokespecial 1, 3) := by decide +kernel
theorem dX12_init_4 : decode cX12_init 4 = .ok (.aload_n 0, 1) := by decide +kernel
theorem dX12_init_5 : decode cX12_init 5 = .ok (.bipush 8, 2) := by decide +kernel
theorem dX12_init_7 : decode cX12_init 7 = .ok (.putfield 7, 3) := by decide +kernel
theorem dX12_init_10 : decode cX12_init 10 = .ok (.aload_n 0, 1) := by decide +kernel
theorem dX12_init_11 : decode cX12_init 11 = .ok (.bipush 8, 2) := by decide +kernel
theorem dX12_init_13 : decode cX12_init 13 = .ok (.putfield 13, 3) := by decide +kernel
theorem dX12_init_16 : decode cX12_init 16 = .ok (.aload_n 0, 1) := by decide +kernel
theorem dX12_init_17 : decode cX12_init 17 = .ok (.sipush 144, 3) := by decide +kernel
theorem dX12_init_20 : decode cX12_init 20 = .ok (.newarray .int, 2) := by decide +kernel
theorem dX12_init_22 : decode cX12_init 22 = .ok (.putfield 16, 3) := by decide +kernel
theorem dX12_init_25 : decode cX12_init 25 = .ok (.aload_n 0, 1) := by decide +kernel
theorem dX12_init_26 : decode cX12_init 26 = .ok (.sipush 144, 3) := by decide +kernel
theorem dX12_init_29 : decode cX12_init 29 = .ok (.newarray .boolean, 2) := by decide +kernel
theorem dX12_init_31 : decode cX12_init 31 = .ok (.putfield 20, 3) := by decide +kernel
theorem dX12_init_34 : decode cX12_init 34 = .ok (.aload_n 0, 1) := by decide +kernel
theorem dX12_init_35 : decode cX12_init 35 = .ok (.sipush 144, 3) := by decide +kernel
theorem dX12_init_38 : decode cX12_init 38 = .ok (.newarray .int, 2) := by decide +kernel
theorem dX12_init_40 : decode cX12_init 40 = .ok (.putfield 24, 3) := by decide +kernel
theorem dX12_init_43 : decode cX12_init 43 = .ok (.aload_n 0, 1) := by decide +kernel
theorem dX12_init_44 : decode cX12_init 44 = .ok (.sipush 144, 3) := by decide +kernel
theorem dX12_init_47 : decode cX12_init 47 = .ok (.newarray .int, 2) := by decide +kernel
theorem dX12_init_49 : decode cX12_init 49 = .ok (.putfield 27, 3) := by decide +kernel
theorem dX12_init_52 : decode cX12_init 52 = .ok (.aload_n 0, 1) := by decide +kernel
theorem dX12_init_53 : decode cX12_init 53 = .ok (.bipush 8, 2) := by decide +kernel
theorem dX12_init_55 : decode cX12_init 55 = .ok (.newarray .boolean, 2) := by decide +kernel
theorem dX12_init_57 : decode cX12_init 57 = .ok (.putfield 30, 3) := by decide +kernel
theorem dX12_init_60 : decode cX12_init 60 = .ok (.aload_n 0, 1) := by decide +kernel
theorem dX12_init_61 : decode cX12_init 61 = .ok (.bipush 8, 2) := by decide +kernel
theorem dX12_init_63 : decode cX12_init 63 = .ok (.newarray .boolean, 2) := by decide +kernel
theorem dX12_init_65 : decode cX12_init 65 = .ok (.putfield 33, 3) := by decide +kernel
theorem dX12_init_68 : decode cX12_init 68 = .ok (.aload_n 0, 1) := by decide +kernel
theorem dX12_init_69 : decode cX12_init 69 = .ok (.bipush 8, 2) := by decide +kernel
theorem dX12_init_71 : decode cX12_init 71 = .ok (.newarray .int, 2) := by decide +kernel
theorem dX12_init_73 : decode cX12_init 73 = .ok (.putfield 36, 3) := by decide +kernel
theorem dX12_init_76 : decode cX12_init 76 = .ok (.aload_n 0, 1) := by decide +kernel
theorem dX12_init_77 : decode cX12_init 77 = .ok (.bipush 8, 2) := by decide +kernel
theorem dX12_init_79 : decode cX12_init 79 = .ok (.newarray .int, 2) := by decide +kernel
theorem dX12_init_81 : decode cX12_init 81 = .ok (.putfield 39, 3) := by decide +kernel
theorem dX12_init_84 : decode cX12_init 84 = .ok (.aload_n 0, 1) := by decide +kernel
theorem dX12_init_85 : decode cX12_init 85 = .ok (.bipush 6, 2) := by decide +kernel
theorem dX12_init_87 : decode cX12_init 87 = .ok (.newarray .int, 2) := by decide +kernel
theorem dX12_init_89 : decode cX12_init 89 = .ok (.putfield 42, 3) := by decide +kernel
theorem dX12_init_92 : decode cX12_init 92 = .ok (.aload_n 0, 1) := by decide +kernel
theorem dX12_init_93 : decode cX12_init 93 = .ok (.bipush 6, 2) := by decide +kernel
theorem dX12_init_95 : decode cX12_init 95 = .ok (.newarray .int, 2) := by decide +kernel
theorem dX12_init_97 : decode cX12_init 97 = .ok (.putfield 45, 3) := by decide +kernel
theorem dX12_init_100 : decode cX12_init 100 = .ok (.aload_n 0, 1) := by decide +kernel
theorem dX12_init_101 : decode cX12_init 101 = .ok (.bipush 6, 2) := by decide +kernel
theorem dX12_init_103 : decode cX12_init 103 = .ok (.newarray .int, 2) := by decide +kernel
theorem dX12_init_105 : decode cX12_init 105 = .ok (.putfield 48, 3) := by decide +kernel
theorem dX12_init_108 : decode cX12_init 108 = .ok (.aload_n 0, 1) := by decide +kernel
theorem dX12_init_109 : decode cX12_init 109 = .ok (.bipush 6, 2) := by decide +kernel
theorem dX12_init_111 : decode cX12_init 111 = .ok (.newarray .int, 2) := by decide +kernel
theorem dX12_init_113 : decode cX12_init 113 = .ok (.putfield 51, 3) := by decide +kernel
theorem dX12_init_116 : decode cX12_init 116 = .ok (.aload_n 0, 1) := by decide +kernel
theorem dX12_init_117 : decode cX12_init 117 = .ok (.bipush 6, 2) := by decide +kernel
theorem dX12_init_119 : decode cX12_init 119 = .ok (.newarray .int, 2) := by decide +kernel
theorem dX12_init_121 : decode cX12_init 121 = .ok (.putfield 54, 3) := by decide +kernel
theorem dX12_init_124 : decode cX12_init 124 = .ok (.aload_n 0, 1) := by decide +kernel
theorem dX12_init_125 : decode cX12_init 125 = .ok (.iconst (-1), 1) := by decide +kernel
theorem dX12_init_126 : decode cX12_init 126 = .ok (.putfield 57, 3) := by decide +kernel
theorem dX12_init_129 : decode cX12_init 129 = .ok (.aload_n 0, 1) := by decide +kernel
theorem dX12_init_130 : decode cX12_init 130 = .ok (.bipush 7, 2) := by decide +kernel
theorem dX12_init_132 : decode cX12_init 132 = .ok (.newarray .int, 2) := by decide +kernel
theorem dX12_init_134 : decode cX12_init 134 = .ok (.putfield 60, 3) := by decide +kernel
theorem dX12_init_137 : decode cX12_init 137 = .ok (.aload_n 0, 1) := by decide +kernel
theorem dX12_init_138 : decode cX12_init 138 = .ok (.bipush 6, 2) := by decide +kernel
theorem dX12_init_140 : decode cX12_init 140 = .ok (.newarray .int, 2) := by decide +kernel
theorem dX12_init_142 : decode cX12_init 142 = .ok (.putfield 63, 3) := by decide +kernel
theorem dX12_init_145 : decode cX12_init 145 = .ok (.aload_n 0, 1) := by decide +kernel
theorem dX12_init_146 : decode cX12_init 146 = .ok (.bipush 20, 2) := by decide +kernel
theorem dX12_init_148 : decode cX12_init 148 = .ok (.newarray .int, 2) := by decide +kernel
theorem dX12_init_150 : decode cX12_init 150 = .ok (.putfield 66, 3) := by decide +kernel
theorem dX12_init_153 : decode cX12_init 153 = .ok (.aload_n 0, 1) := by decide +kernel
theorem dX12_init_154 : decode cX12_init 154 = .ok (.bipush 20, 2) := by decide +kernel
theorem dX12_init_156 : decode cX12_init 156 = .ok (.newarray .int, 2) := by decide +kernel
theorem dX12_init_158 : decode cX12_init 158 = .ok (.putfield 69, 3) := by decide +kernel
theorem dX12_init_161 : decode cX12_init 161 = .ok (.aload_n 0, 1) := by decide +kernel
theorem dX12_init_162 : decode cX12_init 162 = .ok (.bipush 20, 2) := by decide +kernel
theorem dX12_init_164 : decode cX12_init 164 = .ok (.newarray .int, 2) := by decide +kernel
theorem dX12_init_166 : decode cX12_init 166 = .ok (.putfield 72, 3) := by decide +kernel
theorem dX12_init_169 : decode cX12_init 169 = .ok (.aload_n 0, 1) := by decide +kernel
theorem dX12_init_170 : decode cX12_init 170 = .ok (.bipush 60, 2) := by decide +kernel
theorem dX12_init_172 : decode cX12_init 172 = .ok (.newarray .int, 2) := by decide +kernel
theorem dX12_init_174 : decode cX12_init 174 = .ok (.putfield 75, 3) := by decide +kernel
theorem dX12_init_177 : decode cX12_init 177 = .ok (.aload_n 0, 1) := by decide +kernel
theorem dX12_init_178 : decode cX12_init 178 = .ok (.sipush 300, 3) := by decide +kernel
theorem dX12_init_181 : decode cX12_init 181 = .ok (.newarray .int, 2) := by decide +kernel
theorem dX12_init_183 : decode cX12_init 183 = .ok (.putfield 78, 3) := by decide +kernel
theorem dX12_init_186 : decode cX12_init 186 = .ok (.aload_n 0, 1) := by decide +kernel
theorem dX12_init_187 : decode cX12_init 187 = .ok (.iconst (-1), 1) := by decide +kernel
theorem dX12_init_188 : decode cX12_init 188 = .ok (.putfield 81, 3) := by decide +kernel
theorem dX12_init_191 : decode cX12_init 191 = .ok (.aload_n 0, 1) := by decide +kernel
theorem dX12_init_192 : decode cX12_init 192 = .ok (.sipush 320, 3) := by decide +kernel
theorem dX12_init_195 : decode cX12_init 195 = .ok (.newarray .int, 2) := by decide +kernel
theorem dX12_init_197 : decode cX12_init 197 = .ok (.putfield 84, 3) := by decide +kernel
theorem dX12_init_200 : decode cX12_init 200 = .ok (.aload_n 0, 1) := by decide +kernel
theorem dX12_init_201 : decode cX12_init 201 = .ok (.sipush 150, 3) := by decide +kernel
theorem dX12_init_204 : decode cX12_init 204 = .ok (.newarray .int, 2) := by decide +kernel
theorem dX12_init_206 : decode cX12_init 206 = .ok (.putfield 87, 3) := by decide +kernel
theorem dX12_init_209 : decode cX12_init 209 = .ok (.aload_n 0, 1) := by decide +kernel
theorem dX12_init_210 : decode cX12_init 210 = .ok (.sipush 150, 3) := by decide +kernel
theorem dX12_init_213 : decode cX12_init 213 = .ok (.newarray .int, 2) := by decide +kernel
theorem dX12_init_215 : decode cX12_init 215 = .ok (.putfield 90, 3) := by decide +kernel
theorem dX12_init_218 : decode cX12_init 218 = .ok (.aload_n 0, 1) := by decide +kernel
theorem dX12_init_219 : decode cX12_init 219 = .ok (.sipush 150, 3) := by decide +kernel
theorem dX12_init_222 : decode cX12_init 222 = .ok (.newarray .int, 2) := by decide +kernel
theorem dX12_init_224 : decode cX12_init 224 = .ok (.putfield 93, 3) := by decide +kernel
theorem dX12_init_227 : decode cX12_init 227 = .ok (.return_, 1) := by decide +kernel
theorem dX12_in_0 : decode cX12_in 0 = .ok (.lload_n 0, 1) := by decide +kernel
theorem dX12_in_1 : decode cX12_in 1 = .ok (.lload_n 2, 1) := by decide +kernel
theorem dX12_in_2 : decode cX12_in 2 = .ok (.lcmp, 1) := by decide +kernel
theorem dX12_in_3 : decode cX12_in 3 = .ok (.ifCond .lt 14, 3) := by decide +kernel
theorem dX12_in_6 : decode cX12_in 6 = .ok (.lload_n 0, 1) := by decide +kernel
theorem dX12_in_7 : decode cX12_in 7 = .ok (.lload 4, 2) := by decide +kernel
theorem dX12_in_9 : decode cX12_in 9 = .ok (.lcmp, 1) := by decide +kernel
theorem dX12_in_10 : decode cX12_in 10 = .ok (.ifCond .gt 7, 3) := by decide +kernel
theorem dX12_in_13 : decode cX12_in 13 = .ok (.iconst 1, 1) := by decide +kernel
theorem dX12_in_14 : decode cX12_in 14 = .ok (.goto 4, 3) := by decide +kernel
theorem dX12_in_17 : decode cX12_in 17 = .ok (.iconst 0, 1) := by decide +kernel
theorem dX12_in_18 : decode cX12_in 18 = .ok (.ireturn, 1) := by decide +kernel
theorem dX12_told_0 : decode cX12_told 0 = .ok (.aload_n 0, 1) := by decide +kernel
theorem dX12_told_1 : decode cX12_told 1 = .ok (.iload_n 1, 1) := by decide +kernel
theorem dX12_told_2 : decode cX12_told 2 = .ok (.ifCond .ge 7, 3) := by decide +kernel
theorem dX12_told_5 : decode cX12_told 5 = .ok (.iload_n 1, 1) := by decide +kernel
theorem dX12_told_6 : decode cX12_told 6 = .ok (.goto 4, 3) := by decide +kernel
theorem dX12_told_9 : decode cX12_told 9 = .ok (.iconst 0, 1) := by decide +kernel
theorem dX12_told_10 : decode cX12_told 10 = .ok (.putfield 99, 3) := by decide +kernel
theorem dX12_told_13 : decode cX12_told 13 = .ok (.iload_n 1, 1) := by decide +kernel
theorem dX12_told_14 : decode cX12_told 14 = .ok (.ireturn, 1) := by decide +kernel
theorem dX12_isCell_0 : decode cX12_isCell 0 = .ok (.iload_n 1, 1) := by decide +kernel
theorem dX12_isCell_1 : decode cX12_isCell 1 = .ok (.i2l, 1) := by decide +kernel
theorem dX12_isCell_2 : decode cX12_isCell 2 = .ok (.lconst 0, 1) := by decide +kernel
theorem dX12_isCell_3 : decode cX12_isCell 3 = .ok (.aload_n 0, 1) := by decide +kernel
theorem dX12_isCell_4 : decode cX12_isCell 4 = .ok (.getfield 7, 3) := by decide +kernel
theorem dX12_isCell_7 : decode cX12_isCell 7 = .ok (.i2l, 1) := by decide +kernel
theorem dX12_isCell_8 : decode cX12_isCell 8 = .ok (.lconst 1, 1) := by decide +kernel
theorem dX12_isCell_9 : decode cX12_isCell 9 = .ok (.lsub, 1) := by decide +kernel
theorem dX12_isCell_10 : decode cX12_isCell 10 = .ok (.invokestatic 102, 3) := by decide +kernel
theorem dX12_isCell_13 : decode cX12_isCell 13 = .ok (.ifCond .eq 23, 3) := by decide +kernel
theorem dX12_isCell_16 : decode cX12_isCell 16 = .ok (.iload_n 2, 1) := by decide +kernel
theorem dX12_isCell_17 : decode cX12_isCell 17 = .ok (.i2l, 1) := by decide +kernel
theorem dX12_isCell_18 : decode cX12_isCell 18 = .ok (.lconst 0, 1) := by decide +kernel
theorem dX12_isCell_19 : decode cX12_isCell 19 = .ok (.aload_n 0, 1) := by decide +kernel
theorem dX12_isCell_20 : decode cX12_isCell 20 = .ok (.getfield 13, 3) := by decide +kernel
theorem dX12_isCell_23 : decode cX12_isCell 23 = .ok (.i2l, 1) := by decide +kernel
theorem dX12_isCell_24 : decode cX12_isCell 24 = .ok (.lconst 1, 1) := by decide +kernel
theorem dX12_isCell_25 : decode cX12_isCell 25 = .ok (.lsub, 1) := by decide +kernel
theorem dX12_isCell_26 : decode cX12_isCell 26 = .ok (.invokestatic 102, 3) := by decide +kernel
theorem dX12_isCell_29 : decode cX12_isCell 29 = .ok (.ifCond .eq 7, 3) := by decide +kernel
theorem dX12_isCell_32 : decode cX12_isCell 32 = .ok (.iconst 1, 1) := by decide +kernel
theorem dX12_isCell_33 : decode cX12_isCell 33 = .ok (.goto 4, 3) := by decide +kernel
theorem dX12_isCell_36 : decode cX12_isCell 36 = .ok (.iconst 0, 1) := by decide +kernel
theorem dX12_isCell_37 : decode cX12_isCell 37 = .ok (.ireturn, 1) := by decide +kernel
theorem dX12_forget_0 : decode cX12_forget 0 = .ok (.aload_n 0, 1) := by decide +kernel
theorem dX12_forget_1 : decode cX12_forget 1 = .ok (.iconst 0, 1) := by decide +kernel
theorem dX12_forget_2 : decode cX12_forget 2 = .ok (.putfield 106, 3) := by decide +kernel
theorem dX12_forget_5 : decode cX12_forget 5 = .ok (.iconst 0, 1) := by decide +kernel
theorem dX12_forget_6 : decode cX12_forget 6 = .ok (.istore_n 1, 1) := by decide +kernel
theorem dX12_forget_7 : decode cX12_forget 7 = .ok (.iload_n 1, 1) := by decide +kernel
theorem dX12_forget_8 : decode cX12_forget 8 = .ok (.sipush 144, 3) := by decide +kernel
theorem dX12_forget_11 : decode cX12_forget 11 = .ok (.if_icmp .ge 16, 3) := by decide +kernel
theorem dX12_forget_14 : decode cX12_forget 14 = .ok (.aload_n 0, 1) := by decide +kernel
theorem dX12_forget_15 : decode cX12_forget 15 = .ok (.getfield 20, 3) := by decide +kernel
theorem dX12_forget_18 : decode cX12_forget 18 = .ok (.iload_n 1, 1) := by decide +kernel
theorem dX12_forget_19 : decode cX12_forget 19 = .ok (.iconst 0, 1) := by decide +kernel
theorem dX12_forget_20 : decode cX12_forget 20 = .ok (.bastore, 1) := by decide +kernel
theorem dX12_forget_21 : decode cX12_forget 21 = .ok (.iinc 1 1, 3) := by decide +kernel
theorem dX12_forget_24 : decode cX12_forget 24 = .ok (.goto (-17), 3) := by decide +kernel
theorem dX12_forget_27 : decode cX12_forget 27 = .ok (.return_, 1) := by decide +kernel
theorem dX12_size_0 : decode cX12_size 0 = .ok (.aload_n 0, 1) := by decide +kernel
theorem dX12_size_1 : decode cX12_size 1 = .ok (.iconst 0, 1) := by decide +kernel
theorem dX12_size_2 : decode cX12_size 2 = .ok (.putfield 96, 3) := by decide +kernel
theorem dX12_size_5 : decode cX12_size 5 = .ok (.iload_n 1, 1) := by decide +kernel
theorem dX12_size_6 : decode cX12_size 6 = .ok (.i2l, 1) := by decide +kernel
theorem dX12_size_7 : decode cX12_size 7 = .ok (.ldc2_w 109, 3) := by decide +kernel
theorem dX12_size_10 : decode cX12_size 10 = .ok (.ldc2_w 111, 3) := by decide +kernel
theorem dX12_size_13 : decode cX12_size 13 = .ok (.invokestatic 102, 3) := by decide +kernel
theorem dX12_size_16 : decode cX12_size 16 = .ok (.ifCond .eq 17, 3) := by decide +kernel
theorem dX12_size_19 : decode cX12_size 19 = .ok (.iload_n 2, 1) := by decide +kernel
theorem dX12_size_20 : decode cX12_size 20 = .ok (.i2l, 1) := by decide +kernel
theorem dX12_size_21 : decode cX12_size 21 = .ok (.ldc2_w 109, 3) := by decide +kernel
theorem dX12_size_24 : decode cX12_size 24 = .ok (.ldc2_w 111, 3) := by decide +kernel
theorem dX12_size_27 : decode cX12_size 27 = .ok (.invokestatic 102, 3) := by decide +kernel
theorem dX12_size_30 : decode cX12_size 30 = .ok (.ifCond .ne 9, 3) := by decide +kernel
theorem dX12_size_33 : decode cX12_size 33 = .ok (.aload_n 0, 1) := by decide +kernel
theorem dX12_size_34 : decode cX12_size 34 = .ok (.iconst (-1), 1) := by decide +kernel
theorem dX12_size_35 : decode cX12_size 35 = .ok (.invokevirtual 113, 3) := by decide +kernel
theorem dX12_size_38 : decode cX12_size 38 = .ok (.ireturn, 1) := by decide +kernel
theorem dX12_size_39 : decode cX12_size 39 = .ok (.aload_n 0, 1) := by decide +kernel
theorem dX12_size_40 : decode cX12_size 40 = .ok (.iload_n 1, 1) := by decide +kernel
theorem dX12_size_41 : decode cX12_size 41 = .ok (.putfield 7, 3) := by decide +kernel
theorem dX12_size_44 : decode cX12_size 44 = .ok (.aload_n 0, 1) := by decide +kernel
theorem dX12_size_45 : decode cX12_size 45 = .ok (.iload_n 2, 1) := by decide +kernel
theorem dX12_size_46 : decode cX12_size 46 = .ok (.putfield 13, 3) := by decide +kernel
theorem dX12_size_49 : decode cX12_size 49 = .ok (.iconst 0, 1) := by decide +kernel
theorem dX12_size_50 : decode cX12_size 50 = .ok (.istore_n 3, 1) := by decide +kernel
theorem dX12_size_51 : decode cX12_size 51 = .ok (.iload_n 3, 1) := by decide +kernel
theorem dX12_size_52 : decode cX12_size 52 = .ok (.sipush 144, 3) := by decide +kernel
theorem dX12_size_55 : decode cX12_size 55 = .ok (.if_icmp .ge 16, 3) := by decide +kernel
theorem dX12_size_58 : decode cX12_size 58 = .ok (.aload_n 0, 1) := by decide +kernel
theorem dX12_size_59 : decode cX12_size 59 = .ok (.getfield 16, 3) := by decide +kernel
theorem dX12_size_62 : decode cX12_size 62 = .ok (.iload_n 3, 1) := by decide +kernel
theorem dX12_size_63 : decode cX12_size 63 = .ok (.iconst 0, 1) := by decide +kernel
theorem dX12_size_64 : decode cX12_size 64 = .ok (.iastore, 1) := by decide +kernel
theorem dX12_size_65 : decode cX12_size 65 = .ok (.iinc 3 1, 3) := by decide +kernel
theorem dX12_size_68 : decode cX12_size 68 = .ok (.goto (-17), 3) := by decide +kernel
theorem dX12_size_71 : decode cX12_size 71 = .ok (.aload_n 0, 1) := by decide +kernel
theorem dX12_size_72 : decode cX12_size 72 = .ok (.invokevirtual 117, 3) := by decide +kernel
theorem dX12_size_75 : decode cX12_size 75 = .ok (.aload_n 0, 1) := by decide +kernel
theorem dX12_size_76 : decode cX12_size 76 = .ok (.iconst 0, 1) := by decide +kernel
theorem dX12_size_77 : decode cX12_size 77 = .ok (.invokevirtual 113, 3) := by decide +kernel
theorem dX12_size_80 : decode cX12_size 80 = .ok (.ireturn, 1) := by decide +kernel
theorem dX12_draw_0 : decode cX12_draw 0 = .ok (.aload_n 0, 1) := by decide +kernel
theorem dX12_draw_1 : decode cX12_draw 1 = .ok (.iconst 0, 1) := by decide +kernel
theorem dX12_draw_2 : decode cX12_draw 2 = .ok (.putfield 96, 3) := by decide +kernel
theorem dX12_draw_5 : decode cX12_draw 5 = .ok (.iload 5, 2) := by decide +kernel
theorem dX12_draw_7 : decode cX12_draw 7 = .ok (.i2l, 1) := by decide +kernel
theorem dX12_draw_8 : decode cX12_draw 8 = .ok (.lconst 0, 1) := by decide +kernel
theorem dX12_draw_9 : decode cX12_draw 9 = .ok (.ldc2_w 120, 3) := by decide +kernel
theorem dX12_draw_12 : decode cX12_draw 12 = .ok (.invokestatic 102, 3) := by decide +kernel
theorem dX12_draw_15 : decode cX12_draw 15 = .ok (.ifCond .ne 18, 3) := by decide +kernel
theorem dX12_draw_18 : decode cX12_draw 18 = .ok (.iload 5, 2) := by decide +kernel
theorem dX12_draw_20 : decode cX12_draw 20 = .ok (.i2l, 1) := by decide +kernel
theorem dX12_draw_21 : decode cX12_draw 21 = .ok (.ldc2_w 122, 3) := by decide +kernel
theorem dX12_draw_24 : decode cX12_draw 24 = .ok (.ldc2_w 124, 3) := by decide +kernel
theorem dX12_draw_27 : decode cX12_draw 27 = .ok (.invokestatic 102, 3) := by decide +kernel
theorem dX12_draw_30 : decode cX12_draw 30 = .ok (.ifCond .eq 14, 3) := by decide +kernel
theorem dX12_draw_33 : decode cX12_draw 33 = .ok (.iload_n 1, 1) := by decide +kernel
theorem dX12_draw_34 : decode cX12_draw 34 = .ok (.iload_n 3, 1) := by decide +kernel
theorem dX12_draw_35 : decode cX12_draw 35 = .ok (.if_icmp .gt 9, 3) := by decide +kernel
theorem dX12_draw_38 : decode cX12_draw 38 = .ok (.iload_n 2, 1) := by decide +kernel
theorem dX12_draw_39 : decode cX12_draw 39 = .ok (.iload 4, 2) := by decide +kernel
theorem dX12_draw_41 : decode cX12_draw 41 = .ok (.if_icmp .le 9, 3) := by decide +kernel
theorem dX12_draw_44 : decode cX12_draw 44 = .ok (.aload_n 0, 1) := by decide +kernel
theorem dX12_draw_45 : decode cX12_draw 45 = .ok (.iconst (-1), 1) := by decide +kernel
theorem dX12_draw_46 : decode cX12_draw 46 = .ok (.invokevirtual 113, 3) := by decide +kernel
theorem dX12_draw_49 : decode cX12_draw 49 = .ok (.ireturn, 1) := by decide +kernel
theorem dX12_draw_50 : decode cX12_draw 50 = .ok (.aload_n 0, 1) := by decide +kernel
theorem dX12_draw_51 : decode cX12_draw 51 = .ok (.iload_n 1, 1) := by decide +kernel
theorem dX12_draw_52 : decode cX12_draw 52 = .ok (.iload_n 2, 1) := by decide +kernel
theorem dX12_draw_53 : decode cX12_draw 53 = .ok (.invokevirtual 126, 3) := by decide +kernel
theorem dX12_draw_56 : decode cX12_draw 56 = .ok (.ifCond .eq 13, 3) := by decide +kernel
theorem dX12_draw_59 : decode cX12_draw 59 = .ok (.aload_n 0, 1) := by decide +kernel
theorem dX12_draw_60 : decode cX12_draw 60 = .ok (.iload_n 3, 1) := by decide +kernel
theorem dX12_draw_61 : decode cX12_draw 61 = .ok (.iload 4, 2) := by decide +kernel
theorem dX12_draw_63 : decode cX12_draw 63 = .ok (.invokevirtual 126, 3) := by decide +kernel
theorem dX12_draw_66 : decode cX12_draw 66 = .ok (.ifCond .ne 10, 3) := by decide +kernel
theorem dX12_draw_69 : decode cX12_draw 69 = .ok (.aload_n 0, 1) := by decide +kernel
theorem dX12_draw_70 : decode cX12_draw 70 = .ok (.bipush (-2), 2) := by decide +kernel
theorem dX12_draw_72 : decode cX12_draw 72 = .ok (.invokevirtual 113, 3) := by decide +kernel
theorem dX12_draw_75 : decode cX12_draw 75 = .ok (.ireturn, 1) := by decide +kernel
theorem dX12_draw_76 : decode cX12_draw 76 = .ok (.iconst 0, 1) := by decide +kernel
theorem dX12_draw_77 : decode cX12_draw 77 = .ok (.istore 6, 2) := by decide +kernel
theorem dX12_draw_79 : decode cX12_draw 79 = .ok (.iload_n 2, 1) := by decide +kernel
theorem dX12_draw_80 : decode cX12_draw 80 = .ok (.istore 7, 2) := by decide +kernel
theorem dX12_draw_82 : decode cX12_draw 82 = .ok (.iload 7, 2) := by decide +kernel
theorem dX12_draw_84 : decode cX12_draw 84 = .ok (.iload 4, 2) := by decide +kernel
theorem dX12_draw_86 : decode cX12_draw 86 = .ok (.if_icmp .gt 42, 3) := by decide +kernel
theorem dX12_draw_89 : decode cX12_draw 89 = .ok (.iload_n 1, 1) := by decide +kernel
theorem dX12_draw_90 : decode cX12_draw 90 = .ok (.istore 8, 2) := by decide +kernel
theorem dX12_draw_92 : decode cX12_draw 92 = .ok (.iload 8, 2) := by decide +kernel
theorem dX12_draw_94 : decode cX12_draw 94 = .ok (.iload_n 3, 1) := by decide +kernel
theorem dX12_draw_95 : decode cX12_draw 95 = .ok (.if_icmp .gt 27, 3) := by decide +kernel
theorem dX12_draw_98 : decode cX12_draw 98 = .ok (.aload_n 0, 1) := by decide +kernel
theorem dX12_draw_99 : decode cX12_draw 99 = .ok (.getfield 16, 3) := by decide +kernel
theorem dX12_draw_102 : decode cX12_draw 102 = .ok (.bipush 12, 2) := by decide +kernel
theorem dX12_draw_104 : decode cX12_draw 104 = .ok (.iload 7, 2) := by decide +kernel
theorem dX12_draw_106 : decode cX12_draw 106 = .ok (.imul, 1) := by decide +kernel
theorem dX12_draw_107 : decode cX12_draw 107 = .ok (.iload 8, 2) := by decide +kernel
theorem dX12_draw_109 : decode cX12_draw 109 = .ok (.iadd, 1) := by decide +kernel
theorem dX12_draw_110 : decode cX12_draw 110 = .ok (.iload 5, 2) := by decide +kernel
theorem dX12_draw_112 : decode cX12_draw 112 = .ok (.iastore, 1) := by decide +kernel
theorem dX12_draw_113 : decode cX12_draw 113 = .ok (.iinc 6 1, 3) := by decide +kernel
theorem dX12_draw_116 : decode cX12_draw 116 = .ok (.iinc 8 1, 3) := by decide +kernel
theorem dX12_draw_119 : decode cX12_draw 119 = .ok (.goto (-27), 3) := by decide +kernel
theorem dX12_draw_122 : decode cX12_draw 122 = .ok (.iinc 7 1, 3) := by decide +kernel
theorem dX12_draw_125 : decode cX12_draw 125 = .ok (.goto (-43), 3) := by decide +kernel
theorem dX12_draw_128 : decode cX12_draw 128 = .ok (.aload_n 0, 1) := by decide +kernel
theorem dX12_draw_129 : decode cX12_draw 129 = .ok (.invokevirtual 117, 3) := by decide +kernel
theorem dX12_draw_132 : decode cX12_draw 132 = .ok (.aload_n 0, 1) := by decide +kernel
theorem dX12_draw_133 : decode cX12_draw 133 = .ok (.iload 6, 2) := by decide +kernel
theorem dX12_draw_135 : decode cX12_draw 135 = .ok (.invokevirtual 113, 3) := by decide +kernel
theorem dX12_draw_138 : decode cX12_draw 138 = .ok (.ireturn, 1) := by decide +kernel
theorem dX12_isHollow_0 : decode cX12_isHollow 0 = .ok (.aload_n 0, 1) := by decide +kernel
theorem dX12_isHollow_1 : decode cX12_isHollow 1 = .ok (.getfield 16, 3) := by decide +kernel
theorem dX12_isHollow_4 : decode cX12_isHollow 4 = .ok (.iload_n 1, 1) := by decide +kernel
theorem dX12_isHollow_5 : decode cX12_isHollow 5 = .ok (.iaload, 1) := by decide +kernel
theorem dX12_isHollow_6 : decode cX12_isHollow 6 = .ok (.ifCond .eq 23, 3) := by decide +kernel
theorem dX12_isHollow_9 : decode cX12_isHollow 9 = .ok (.aload_n 0, 1) := by decide +kernel
theorem dX12_isHollow_10 : decode cX12_isHollow 10 = .ok (.getfield 16, 3) := by decide +kernel
theorem dX12_isHollow_13 : decode cX12_isHollow 13 = .ok (.iload_n 1, 1) := by decide +kernel
theorem dX12_isHollow_14 : decode cX12_isHollow 14 = .ok (.iaload, 1) := by decide +kernel
theorem dX12_isHollow_15 : decode cX12_isHollow 15 = .ok (.iconst 3, 1) := by decide +kernel
theorem dX12_isHollow_16 : decode cX12_isHollow 16 = .ok (.if_icmp .eq 13, 3) := by decide +kernel
theorem dX12_isHollow_19 : decode cX12_isHollow 19 = .ok (.aload_n 0, 1) := by decide +kernel
theorem dX12_isHollow_20 : decode cX12_isHollow 20 = .ok (.getfield 16, 3) := by decide +kernel
theorem dX12_isHollow_23 : decode cX12_isHollow 23 = .ok (.iload_n 1, 1) := by decide +kernel
theorem dX12_isHollow_24 : decode cX12_isHollow 24 = .ok (.iaload, 1) := by decide +kernel
theorem dX12_isHollow_25 : decode cX12_isHollow 25 = .ok (.iconst 4, 1) := by decide +kernel
theorem dX12_isHollow_26 : decode cX12_isHollow 26 = .ok (.if_icmp .ne 7, 3) := by decide +kernel
theorem dX12_isHollow_29 : decode cX12_isHollow 29 = .ok (.iconst 1, 1) := by decide +kernel
theorem dX12_isHollow_30 : decode cX12_isHollow 30 = .ok (.goto 4, 3) := by decide +kernel
theorem dX12_isHollow_33 : decode cX12_isHollow 33 = .ok (.iconst 0, 1) := by decide +kernel
theorem dX12_isHollow_34 : decode cX12_isHollow 34 = .ok (.ireturn, 1) := by decide +kernel
theorem dX12_join_0 : decode cX12_join 0 = .ok (.iconst 0, 1) := by decide +kernel
theorem dX12_join_1 : decode cX12_join 1 = .ok (.istore_n 2, 1) := by decide +kernel
theorem dX12_join_2 : decode cX12_join 2 = .ok (.iload_n 2, 1) := by decide +kernel
theorem dX12_join_3 : decode cX12_join 3 = .ok (.sipush 144, 3) := by decide +kernel
theorem dX12_join_6 : decode cX12_join 6 = .ok (.if_icmp .ge 16, 3) := by decide +kernel
theorem dX12_join_9 : decode cX12_join 9 = .ok (.aload_n 0, 1) := by decide +kernel
theorem dX12_join_10 : decode cX12_join 10 = .ok (.getfield 27, 3) := by decide +kernel
theorem dX12_join_13 : decode cX12_join 13 = .ok (.iload_n 2, 1) := by decide +kernel
theorem dX12_join_14 : decode cX12_join 14 = .ok (.iload_n 2, 1) := by decide +kernel
theorem dX12_join_15 : decode cX12_join 15 = .ok (.iastore, 1) := by decide +kernel
theorem dX12_join_16 : decode cX12_join 16 = .ok (.iinc 2 1, 3) := by decide +kernel
theorem dX12_join_19 : decode cX12_join 19 = .ok (.goto (-17), 3) := by decide +kernel
theorem dX12_join_22 : decode cX12_join 22 = .ok (.iconst 1, 1) := by decide +kernel
theorem dX12_join_23 : decode cX12_join 23 = .ok (.istore_n 2, 1) := by decide +kernel
theorem dX12_join_24 : decode cX12_join 24 = .ok (.iload_n 2, 1) := by decide +kernel
theorem dX12_join_25 : decode cX12_join 25 = .ok (.ifCond .eq 119, 3) := by decide +kernel
theorem dX12_join_28 : decode cX12_join 28 = .ok (.iconst 0, 1) := by decide +kernel
theorem dX12_join_29 : decode cX12_join 29 = .ok (.istore_n 2, 1) := by decide +kernel
theorem dX12_join_30 : decode cX12_join 30 = .ok (.iload_n 1, 1) := by decide +kernel
theorem dX12_join_31 : decode cX12_join 31 = .ok (.istore_n 3, 1) := by decide +kernel
theorem dX12_join_32 : decode cX12_join 32 = .ok (.iload_n 3, 1) := by decide +kernel
theorem dX12_join_33 : decode cX12_join 33 = .ok (.aload_n 0, 1) := by decide +kernel
theorem dX12_join_34 : decode cX12_join 34 = .ok (.getfield 13, 3) := by decide +kernel
theorem dX12_join_37 : decode cX12_join 37 = .ok (.if_icmp .ge 104, 3) := by decide +kernel
theorem dX12_join_40 : decode cX12_join 40 = .ok (.iconst 0, 1) := by decide +kernel
theorem dX12_join_41 : decode cX12_join 41 = .ok (.istore 4, 2) := by decide +kernel
theorem dX12_join_43 : decode cX12_join 43 = .ok (.iload 4, 2) := by decide +kernel
theorem dX12_join_45 : decode cX12_join 45 = .ok (.aload_n 0, 1) := by decide +kernel
theorem dX12_join_46 : decode cX12_join 46 = .ok (.getfield 7, 3) := by decide +kernel
theorem dX12_join_49 : decode cX12_join 49 = .ok (.if_icmp .ge 86, 3) := by decide +kernel
theorem dX12_join_52 : decode cX12_join 52 = .ok (.bipush 12, 2) := by decide +kernel
theorem dX12_join_54 : decode cX12_join 54 = .ok (.iload_n 3, 1) := by decide +kernel
theorem dX12_join_55 : decode cX12_join 55 = .ok (.imul, 1) := by decide +kernel
theorem dX12_join_56 : decode cX12_join 56 = .ok (.iload 4, 2) := by decide +kernel
theorem dX12_join_58 : decode cX12_join 58 = .ok (.iadd, 1) := by decide +kernel
theorem dX12_join_59 : decode cX12_join 59 = .ok (.istore 5, 2) := by decide +kernel
theorem dX12_join_61 : decode cX12_join 61 = .ok (.iload 4, 2) := by decide +kernel
theorem dX12_join_63 : decode cX12_join 63 = .ok (.iconst 1, 1) := by decide +kernel
theorem dX12_join_64 : decode cX12_join 64 = .ok (.iadd, 1) := by decide +kernel
theorem dX12_join_65 : decode cX12_join 65 = .ok (.aload_n 0, 1) := by decide +kernel
theorem dX12_join_66 : decode cX12_join 66 = .ok (.getfield 7, 3) := by decide +kernel
theorem dX12_join_69 : decode cX12_join 69 = .ok (.if_icmp .ge 16, 3) := by decide +kernel
theorem dX12_join_72 : decode cX12_join 72 = .ok (.aload_n 0, 1) := by decide +kernel
theorem dX12_join_73 : decode cX12_join 73 = .ok (.iload 5, 2) := by decide +kernel
theorem dX12_join_75 : decode cX12_join 75 = .ok (.iload 5, 2) := by decide +kernel
theorem dX12_join_77 : decode cX12_join 77 = .ok (.iconst 1, 1) := by decide +kernel
theorem dX12_join_78 : decode cX12_join 78 = .ok (.iadd, 1) := by decide +kernel
theorem dX12_join_79 : decode cX12_join 79 = .ok (.invokevirtual 130, 3) := by decide +kernel
theorem dX12_join_82 : decode cX12_join 82 = .ok (.ifCond .ne 7, 3) := by decide +kernel
theorem dX12_join_85 : decode cX12_join 85 = .ok (.iload_n 2, 1) := by decide +kernel
theorem dX12_join_86 : decode cX12_join 86 = .ok (.ifCond .eq 7, 3) := by decide +kernel
theorem dX12_join_89 : decode cX12_join 89 = .ok (.iconst 1, 1) := by decide +kernel
theorem dX12_join_90 : decode cX12_join 90 = .ok (.goto 4, 3) := by decide +kernel
theorem dX12_join_93 : decode cX12_join 93 = .ok (.iconst 0, 1) := by decide +kernel
theorem dX12_join_94 : decode cX12_join 94 = .ok (.istore_n 2, 1) := by decide +kernel
theorem dX12_join_95 : decode cX12_join 95 = .ok (.iload_n 3, 1) := by decide +kernel
theorem dX12_join_96 : decode cX12_join 96 = .ok (.iconst 1, 1) := by decide +kernel
theorem dX12_join_97 : decode cX12_join 97 = .ok (.iadd, 1) := by decide +kernel
theorem dX12_join_98 : decode cX12_join 98 = .ok (.aload_n 0, 1) := by decide +kernel
theorem dX12_join_99 : decode cX12_join 99 = .ok (.getfield 13, 3) := by decide +kernel
theorem dX12_join_102 : decode cX12_join 102 = .ok (.if_icmp .ge 17, 3) := by decide +kernel
theorem dX12_join_105 : decode cX12_join 105 = .ok (.aload_n 0, 1) := by decide +kernel
theorem dX12_join_106 : decode cX12_join 106 = .ok (.iload 5, 2) := by decide +kernel
theorem dX12_join_108 : decode cX12_join 108 = .ok (.iload 5, 2) := by decide +kernel
theorem dX12_join_110 : decode cX12_join 110 = .ok (.bipush 12, 2) := by decide +kernel
theorem dX12_join_112 : decode cX12_join 112 = .ok (.iadd, 1) := by decide +kernel
theorem dX12_join_113 : decode cX12_join 113 = .ok (.invokevirtual 130, 3) := by decide +kernel
theorem dX12_join_116 : decode cX12_join 116 = .ok (.ifCond .ne 7, 3) := by decide +kernel
theorem dX12_join_119 : decode cX12_join 119 = .ok (.iload_n 2, 1) := by decide +kernel
theorem dX12_join_120 : decode cX12_join 120 = .ok (.ifCond .eq 7, 3) := by decide +kernel
theorem dX12_join_123 : decode cX12_join 123 = .ok (.iconst 1, 1) := by decide +kernel
theorem dX12_join_124 : decode cX12_join 124 = .ok (.goto 4, 3) := by decide +kernel
theorem dX12_join_127 : decode cX12_join 127 = .ok (.iconst 0, 1) := by decide +kernel
theorem dX12_join_128 : decode cX12_join 128 = .ok (.istore_n 2, 1) := by decide +kernel
theorem dX12_join_129 : decode cX12_join 129 = .ok (.iinc 4 1, 3) := by decide +kernel
theorem dX12_join_132 : decode cX12_join 132 = .ok (.goto (-89), 3) := by decide +kernel
theorem dX12_join_135 : decode cX12_join 135 = .ok (.iinc 3 1, 3) := by decide +kernel
theorem dX12_join_138 : decode cX12_join 138 = .ok (.goto (-106), 3) := by decide +kernel
theorem dX12_join_141 : decode cX12_join 141 = .ok (.goto (-117), 3) := by decide +kernel
theorem dX12_join_144 : decode cX12_join 144 = .ok (.return_, 1) := by decide +kernel
theorem dX12_melt_0 : decode cX12_melt 0 = .ok (.aload_n 0, 1) := by decide +kernel
theorem dX12_melt_1 : decode cX12_melt 1 = .ok (.iload_n 1, 1) := by decide +kernel
theorem dX12_melt_2 : decode cX12_melt 2 = .ok (.invokevirtual 133, 3) := by decide +kernel
theorem dX12_melt_5 : decode cX12_melt 5 = .ok (.ifCond .eq 26, 3) := by decide +kernel
theorem dX12_melt_8 : decode cX12_melt 8 = .ok (.aload_n 0, 1) := by decide +kernel
theorem dX12_melt_9 : decode cX12_melt 9 = .ok (.iload_n 2, 1) := by decide +kernel
theorem dX12_melt_10 : decode cX12_melt 10 = .ok (.invokevirtual 133, 3) := by decide +kernel
theorem dX12_melt_13 : decode cX12_melt 13 = .ok (.ifCond .eq 18, 3) := by decide +kernel
theorem dX12_melt_16 : decode cX12_melt 16 = .ok (.aload_n 0, 1) := by decide +kernel
theorem dX12_melt_17 : decode cX12_melt 17 = .ok (.getfield 27, 3) := by decide +kernel
theorem dX12_melt_20 : decode cX12_melt 20 = .ok (.iload_n 1, 1) := by decide +kernel
theorem dX12_melt_21 : decode cX12_melt 21 = .ok (.iaload, 1) := by decide +kernel
theorem dX12_melt_22 : decode cX12_melt 22 = .ok (.aload_n 0, 1) := by decide +kernel
theorem dX12_melt_23 : decode cX12_melt 23 = .ok (.getfield 27, 3) := by decide +kernel
theorem dX12_melt_26 : decode cX12_melt 26 = .ok (.iload_n 2, 1) := by decide +kernel
theorem dX12_melt_27 : decode cX12_melt 27 = .ok (.iaload, 1) := by decide +kernel
theorem dX12_melt_28 : decode cX12_melt 28 = .ok (.if_icmp .ne 5, 3) := by decide +kernel
theorem dX12_melt_31 : decode cX12_melt 31 = .ok (.iconst 0, 1) := by decide +kernel
theorem dX12_melt_32 : decode cX12_melt 32 = .ok (.ireturn, 1) := by decide +kernel
theorem dX12_melt_33 : decode cX12_melt 33 = .ok (.aload_n 0, 1) := by decide +kernel
theorem dX12_melt_34 : decode cX12_melt 34 = .ok (.getfield 27, 3) := by decide +kernel
theorem dX12_melt_37 : decode cX12_melt 37 = .ok (.iload_n 1, 1) := by decide +kernel
theorem dX12_melt_38 : decode cX12_melt 38 = .ok (.iaload, 1) := by decide +kernel
theorem dX12_melt_39 : decode cX12_melt 39 = .ok (.aload_n 0, 1) := by decide +kernel
theorem dX12_melt_40 : decode cX12_melt 40 = .ok (.getfield 27, 3) := by decide +kernel
theorem dX12_melt_43 : decode cX12_melt 43 = .ok (.iload_n 2, 1) := by decide +kernel
theorem dX12_melt_44 : decode cX12_melt 44 = .ok (.iaload, 1) := by decide +kernel
theorem dX12_melt_45 : decode cX12_melt 45 = .ok (.if_icmp .ge 12, 3) := by decide +kernel
theorem dX12_melt_48 : decode cX12_melt 48 = .ok (.aload_n 0, 1) := by decide +kernel
theorem dX12_melt_49 : decode cX12_melt 49 = .ok (.getfield 27, 3) := by decide +kernel
theorem dX12_melt_52 : decode cX12_melt 52 = .ok (.iload_n 1, 1) := by decide +kernel
theorem dX12_melt_53 : decode cX12_melt 53 = .ok (.iaload, 1) := by decide +kernel
theorem dX12_melt_54 : decode cX12_melt 54 = .ok (.goto 9, 3) := by decide +kernel
theorem dX12_melt_57 : decode cX12_melt 57 = .ok (.aload_n 0, 1) := by decide +kernel
theorem dX12_melt_58 : decode cX12_melt 58 = .ok (.getfield 27, 3) := by decide +kernel
theorem dX12_melt_61 : decode cX12_melt 61 = .ok (.iload_n 2, 1) := by decide +kernel
theorem dX12_melt_62 : decode cX12_melt 62 = .ok (.iaload, 1) := by decide +kernel
theorem dX12_melt_63 : decode cX12_melt 63 = .ok (.istore_n 3, 1) := by decide +kernel
theorem dX12_melt_64 : decode cX12_melt 64 = .ok (.aload_n 0, 1) := by decide +kernel
theorem dX12_melt_65 : decode cX12_melt 65 = .ok (.getfield 27, 3) := by decide +kernel
theorem dX12_melt_68 : decode cX12_melt 68 = .ok (.iload_n 1, 1) := by decide +kernel
theorem dX12_melt_69 : decode cX12_melt 69 = .ok (.iload_n 3, 1) := by decide +kernel
theorem dX12_melt_70 : decode cX12_melt 70 = .ok (.iastore, 1) := by decide +kernel
theorem dX12_melt_71 : decode cX12_melt 71 = .ok (.aload_n 0, 1) := by decide +kernel
theorem dX12_melt_72 : decode cX12_melt 72 = .ok (.getfield 27, 3) := by decide +kernel
theorem dX12_melt_75 : decode cX12_melt 75 = .ok (.iload_n 2, 1) := by decide +kernel
theorem dX12_melt_76 : decode cX12_melt 76 = .ok (.iload_n 3, 1) := by decide +kernel
theorem dX12_melt_77 : decode cX12_melt 77 = .ok (.iastore, 1) := by decide +kernel
theorem dX12_melt_78 : decode cX12_melt 78 = .ok (.iconst 1, 1) := by decide +kernel
theorem dX12_melt_79 : decode cX12_melt 79 = .ok (.ireturn, 1) := by decide +kernel
theorem dX12_has_0 : decode cX12_has 0 = .ok (.iconst 0, 1) := by decide +kernel
theorem dX12_has_1 : decode cX12_has 1 = .ok (.istore 4, 2) := by decide +kernel
theorem dX12_has_3 : decode cX12_has 3 = .ok (.iload_n 2, 1) := by decide +kernel
theorem dX12_has_4 : decode cX12_has 4 = .ok (.istore 5, 2) := by decide +kernel
theorem dX12_has_6 : decode cX12_has 6 = .ok (.iload 5, 2) := by decide +kernel
theorem dX12_has_8 : decode cX12_has 8 = .ok (.aload_n 0, 1) := by decide +kernel
theorem dX12_has_9 : decode cX12_has 9 = .ok (.getfield 13, 3) := by decide +kernel
theorem dX12_has_12 : decode cX12_has 12 = .ok (.if_icmp .ge 78, 3) := by decide +kernel
theorem dX12_has_15 : decode cX12_has 15 = .ok (.iconst 0, 1) := by decide +kernel
theorem dX12_has_16 : decode cX12_has 16 = .ok (.istore 6, 2) := by decide +kernel
theorem dX12_has_18 : decode cX12_has 18 = .ok (.iload 6, 2) := by decide +kernel
theorem dX12_has_20 : decode cX12_has 20 = .ok (.aload_n 0, 1) := by decide +kernel
theorem dX12_has_21 : decode cX12_has 21 = .ok (.getfield 7, 3) := by decide +kernel
theorem dX12_has_24 : decode cX12_has 24 = .ok (.if_icmp .ge 60, 3) := by decide +kernel
theorem dX12_has_27 : decode cX12_has 27 = .ok (.iload 4, 2) := by decide +kernel
theorem dX12_has_29 : decode cX12_has 29 = .ok (.ifCond .ne 42, 3) := by decide +kernel
theorem dX12_has_32 : decode cX12_has 32 = .ok (.aload_n 0, 1) := by decide +kernel
theorem dX12_has_33 : decode cX12_has 33 = .ok (.getfield 16, 3) := by decide +kernel
theorem dX12_has_36 : decode cX12_has 36 = .ok (.bipush 12, 2) := by decide +kernel
theorem dX12_has_38 : decode cX12_has 38 = .ok (.iload 5, 2) := by decide +kernel
theorem dX12_has_40 : decode cX12_has 40 = .ok (.imul, 1) := by decide +kernel
theorem dX12_has_41 : decode cX12_has 41 = .ok (.iload 6, 2) := by decide +kernel
theorem dX12_has_43 : decode cX12_has 43 = .ok (.iadd, 1) := by decide +kernel
theorem dX12_has_44 : decode cX12_has 44 = .ok (.iaload, 1) := by decide +kernel
theorem dX12_has_45 : decode cX12_has 45 = .ok (.iload_n 3, 1) := by decide +kernel
theorem dX12_has_46 : decode cX12_has 46 = .ok (.if_icmp .ne 29, 3) := by decide +kernel
theorem dX12_has_49 : decode cX12_has 49 = .ok (.aload_n 0, 1) := by decide +kernel
theorem dX12_has_50 : decode cX12_has 50 = .ok (.getfield 27, 3) := by decide +kernel
theorem dX12_has_53 : decode cX12_has 53 = .ok (.bipush 12, 2) := by decide +kernel
theorem dX12_has_55 : decode cX12_has 55 = .ok (.iload 5, 2) := by decide +kernel
theorem dX12_has_57 : decode cX12_has 57 = .ok (.imul, 1) := by decide +kernel
theorem dX12_has_58 : decode cX12_has 58 = .ok (.iload 6, 2) := by decide +kernel
theorem dX12_has_60 : decode cX12_has 60 = .ok (.iadd, 1) := by decide +kernel
theorem dX12_has_61 : decode cX12_has 61 = .ok (.iaload, 1) := by decide +kernel
theorem dX12_has_62 : decode cX12_has 62 = .ok (.aload_n 0, 1) := by decide +kernel
theorem dX12_has_63 : decode cX12_has 63 = .ok (.getfield 27, 3) := by decide +kernel
theorem dX12_has_66 : decode cX12_has 66 = .ok (.iload_n 1, 1) := by decide +kernel
theorem dX12_has_67 : decode cX12_has 67 = .ok (.iaload, 1) := by decide +kernel
theorem dX12_has_68 : decode cX12_has 68 = .ok (.if_icmp .ne 7, 3) := by decide +kernel
theorem dX12_has_71 : decode cX12_has 71 = .ok (.iconst 1, 1) := by decide +kernel
theorem dX12_has_72 : decode cX12_has 72 = .ok (.goto 4, 3) := by decide +kernel
theorem dX12_has_75 : decode cX12_has 75 = .ok (.iconst 0, 1) := by decide +kernel
theorem dX12_has_76 : decode cX12_has 76 = .ok (.istore 4, 2) := by decide +kernel
theorem dX12_has_78 : decode cX12_has 78 = .ok (.iinc 6 1, 3) := by decide +kernel
theorem dX12_has_81 : decode cX12_has 81 = .ok (.goto (-63), 3) := by decide +kernel
theorem dX12_has_84 : decode cX12_has 84 = .ok (.iinc 5 1, 3) := by decide +kernel
theorem dX12_has_87 : decode cX12_has 87 = .ok (.goto (-81), 3) := by decide +kernel
theorem dX12_has_90 : decode cX12_has 90 = .ok (.iload 4, 2) := by decide +kernel
theorem dX12_has_92 : decode cX12_has 92 = .ok (.ireturn, 1) := by decide +kernel
theorem dX12_pourMould_0 : decode cX12_pourMould 0 = .ok (.aload_n 0, 1) := by decide +kernel
theorem dX12_pourMould_1 : decode cX12_pourMould 1 = .ok (.iconst 0, 1) := by decide +kernel
theorem dX12_pourMould_2 : decode cX12_pourMould 2 = .ok (.invokevirtual 137, 3) := by decide +kernel
theorem dX12_pourMould_5 : decode cX12_pourMould 5 = .ok (.iconst 0, 1) := by decide +kernel
theorem dX12_pourMould_6 : decode cX12_pourMould 6 = .ok (.istore_n 1, 1) := by decide +kernel
theorem dX12_pourMould_7 : decode cX12_pourMould 7 = .ok (.iload_n 1, 1) := by decide +kernel
theorem dX12_pourMould_8 : decode cX12_pourMould 8 = .ok (.aload_n 0, 1) := by decide +kernel
theorem dX12_pourMould_9 : decode cX12_pourMould 9 = .ok (.getfield 13, 3) := by decide +kernel
theorem dX12_pourMould_12 : decode cX12_pourMould 12 = .ok (.if_icmp .ge 79, 3) := by decide +kernel
theorem dX12_pourMould_15 : decode cX12_pourMould 15 = .ok (.iconst 0, 1) := by decide +kernel
theorem dX12_pourMould_16 : decode cX12_pourMould 16 = .ok (.istore_n 2, 1) := by decide +kernel
theorem dX12_pourMould_17 : decode cX12_pourMould 17 = .ok (.iload_n 2, 1) := by decide +kernel
theorem dX12_pourMould_18 : decode cX12_pourMould 18 = .ok (.aload_n 0, 1) := by decide +kernel
theorem dX12_pourMould_19 : decode cX12_pourMould 19 = .ok (.getfield 7, 3) := by decide +kernel
theorem dX12_pourMould_22 : decode cX12_pourMould 22 = .ok (.if_icmp .ge 63, 3) := by decide +kernel
theorem dX12_pourMould_25 : decode cX12_pourMould 25 = .ok (.bipush 12, 2) := by decide +kernel
theorem dX12_pourMould_27 : decode cX12_pourMould 27 = .ok (.iload_n 1, 1) := by decide +kernel
theorem dX12_pourMould_28 : decode cX12_pourMould 28 = .ok (.imul, 1) := by decide +kernel
theorem dX12_pourMould_29 : decode cX12_pourMould 29 = .ok (.iload_n 2, 1) := by decide +kernel
theorem dX12_pourMould_30 : decode cX12_pourMould 30 = .ok (.iadd, 1) := by decide +kernel
theorem dX12_pourMould_31 : decode cX12_pourMould 31 = .ok (.istore_n 3, 1) := by decide +kernel
theorem dX12_pourMould_32 : decode cX12_pourMould 32 = .ok (.aload_n 0, 1) := by decide +kernel
theorem dX12_pourMould_33 : decode cX12_pourMould 33 = .ok (.getfield 24, 3) := by decide +kernel
theorem dX12_pourMould_36 : decode cX12_pourMould 36 = .ok (.iload_n 3, 1) := by decide +kernel
theorem dX12_pourMould_37 : decode cX12_pourMould 37 = .ok (.aload_n 0, 1) := by decide +kernel
theorem dX12_pourMould_38 : decode cX12_pourMould 38 = .ok (.getfield 16, 3) := by decide +kernel
theorem dX12_pourMould_41 : decode cX12_pourMould 41 = .ok (.iload_n 3, 1) := by decide +kernel
theorem dX12_pourMould_42 : decode cX12_pourMould 42 = .ok (.iaload, 1) := by decide +kernel
theorem dX12_pourMould_43 : decode cX12_pourMould 43 = .ok (.iconst 2, 1) := by decide +kernel
theorem dX12_pourMould_44 : decode cX12_pourMould 44 = .ok (.if_icmp .ne 7, 3) := by decide +kernel
theorem dX12_pourMould_47 : decode cX12_pourMould 47 = .ok (.iconst 1, 1) := by decide +kernel
theorem dX12_pourMould_48 : decode cX12_pourMould 48 = .ok (.goto 30, 3) := by decide +kernel
theorem dX12_pourMould_51 : decode cX12_pourMould 51 = .ok (.aload_n 0, 1) := by decide +kernel
theorem dX12_pourMould_52 : decode cX12_pourMould 52 = .ok (.iload_n 3, 1) := by decide +kernel
theorem dX12_pourMould_53 : decode cX12_pourMould 53 = .ok (.invokevirtual 133, 3) := by decide +kernel
theorem dX12_pourMould_56 : decode cX12_pourMould 56 = .ok (.ifCond .ne 7, 3) := by decide +kernel
theorem dX12_pourMould_59 : decode cX12_pourMould 59 = .ok (.iconst 0, 1) := by decide +kernel
theorem dX12_pourMould_60 : decode cX12_pourMould 60 = .ok (.goto 18, 3) := by decide +kernel
theorem dX12_pourMould_63 : decode cX12_pourMould 63 = .ok (.aload_n 0, 1) := by decide +kernel
theorem dX12_pourMould_64 : decode cX12_pourMould 64 = .ok (.iload_n 3, 1) := by decide +kernel
theorem dX12_pourMould_65 : decode cX12_pourMould 65 = .ok (.iconst 0, 1) := by decide +kernel
theorem dX12_pourMould_66 : decode cX12_pourMould 66 = .ok (.iconst 3, 1) := by decide +kernel
theorem dX12_pourMould_67 : decode cX12_pourMould 67 = .ok (.invokevirtual 141, 3) := by decide +kernel
theorem dX12_pourMould_70 : decode cX12_pourMould 70 = .ok (.ifCond .eq 7, 3) := by decide +kernel
theorem dX12_pourMould_73 : decode cX12_pourMould 73 = .ok (.iconst 1, 1) := by decide +kernel
theorem dX12_pourMould_74 : decode cX12_pourMould 74 = .ok (.goto 4, 3) := by decide +kernel
theorem dX12_pourMould_77 : decode cX12_pourMould 77 = .ok (.iconst 2, 1) := by decide +kernel
theorem dX12_pourMould_78 : decode cX12_pourMould 78 = .ok (.iastore, 1) := by decide +kernel
theorem dX12_pourMould_79 : decode cX12_pourMould 79 = .ok (.iinc 2 1, 3) := by decide +kernel
theorem dX12_pourMould_82 : decode cX12_pourMould 82 = .ok (.goto (-65), 3) := by decide +kernel
theorem dX12_pourMould_85 : decode cX12_pourMould 85 = .ok (.iinc 1 1, 3) := by decide +kernel
theorem dX12_pourMould_88 : decode cX12_pourMould 88 = .ok (.goto (-81), 3) := by decide +kernel
theorem dX12_pourMould_91 : decode cX12_pourMould 91 = .ok (.iconst 0, 1) := by decide +kernel
theorem dX12_pourMould_92 : decode cX12_pourMould 92 = .ok (.istore_n 1, 1) := by decide +kernel
theorem dX12_pourMould_93 : decode cX12_pourMould 93 = .ok (.iload_n 1, 1) := by decide +kernel
theorem dX12_pourMould_94 : decode cX12_pourMould 94 = .ok (.aload_n 0, 1) := by decide +kernel
theorem dX12_pourMould_95 : decode cX12_pourMould 95 = .ok (.getfield 13, 3) := by decide +kernel
theorem dX12_pourMould_98 : decode cX12_pourMould 98 = .ok (.if_icmp .ge 82, 3) := by decide +kernel
theorem dX12_pourMould_101 : decode cX12_pourMould 101 = .ok (.aload_n 0, 1) := by decide +kernel
theorem dX12_pourMould_102 : decode cX12_pourMould 102 = .ok (.iload_n 1, 1) := by decide +kernel
theorem dX12_pourMould_103 : decode cX12_pourMould 103 = .ok (.invokevirtual 137, 3) := by decide +kernel
theorem dX12_pourMould_106 : decode cX12_pourMould 106 = .ok (.iconst 0, 1) := by decide +kernel
theorem dX12_pourMould_107 : decode cX12_pourMould 107 = .ok (.istore_n 2, 1) := by decide +kernel
theorem dX12_pourMould_108 : decode cX12_pourMould 108 = .ok (.iload_n 2, 1) := by decide +kernel
theorem dX12_pourMould_109 : decode cX12_pourMould 109 = .ok (.aload_n 0, 1) := by decide +kernel
theorem dX12_pourMould_110 : decode cX12_pourMould 110 = .ok (.getfield 7, 3) := by decide +kernel
theorem dX12_pourMould_113 : decode cX12_pourMould 113 = .ok (.if_icmp .ge 61, 3) := by decide +kernel
theorem dX12_pourMould_116 : decode cX12_pourMould 116 = .ok (.bipush 12, 2) := by decide +kernel
theorem dX12_pourMould_118 : decode cX12_pourMould 118 = .ok (.iload_n 1, 1) := by decide +kernel
theorem dX12_pourMould_119 : decode cX12_pourMould 119 = .ok (.imul, 1) := by decide +kernel
theorem dX12_pourMould_120 : decode cX12_pourMould 120 = .ok (.iload_n 2, 1) := by decide +kernel
theorem dX12_pourMould_121 : decode cX12_pourMould 121 = .ok (.iadd, 1) := by decide +kernel
theorem dX12_pourMould_122 : decode cX12_pourMould 122 = .ok (.istore_n 3, 1) := by decide +kernel
theorem dX12_pourMould_123 : decode cX12_pourMould 123 = .ok (.aload_n 0, 1) := by decide +kernel
theorem dX12_pourMould_124 : decode cX12_pourMould 124 = .ok (.iload_n 3, 1) := by decide +kernel
theorem dX12_pourMould_125 : decode cX12_pourMould 125 = .ok (.invokevirtual 133, 3) := by decide +kernel
theorem dX12_pourMould_128 : decode cX12_pourMould 128 = .ok (.ifCond .eq 40, 3) := by decide +kernel
theorem dX12_pourMould_131 : decode cX12_pourMould 131 = .ok (.aload_n 0, 1) := by decide +kernel
theorem dX12_pourMould_132 : decode cX12_pourMould 132 = .ok (.getfield 24, 3) := by decide +kernel
theorem dX12_pourMould_135 : decode cX12_pourMould 135 = .ok (.iload_n 3, 1) := by decide +kernel
theorem dX12_pourMould_136 : decode cX12_pourMould 136 = .ok (.iaload, 1) := by decide +kernel
theorem dX12_pourMould_137 : decode cX12_pourMould 137 = .ok (.iconst 1, 1) := by decide +kernel
theorem dX12_pourMould_138 : decode cX12_pourMould 138 = .ok (.if_icmp .ne 30, 3) := by decide +kernel
theorem dX12_pourMould_141 : decode cX12_pourMould 141 = .ok (.aload_n 0, 1) := by decide +kernel
theorem dX12_pourMould_142 : decode cX12_pourMould 142 = .ok (.iload_n 3, 1) := by decide +kernel
theorem dX12_pourMould_143 : decode cX12_pourMould 143 = .ok (.iload_n 1, 1) := by decide +kernel
theorem dX12_pourMould_144 : decode cX12_pourMould 144 = .ok (.iconst 3, 1) := by decide +kernel
theorem dX12_pourMould_145 : decode cX12_pourMould 145 = .ok (.invokevirtual 141, 3) := by decide +kernel
theorem dX12_pourMould_148 : decode cX12_pourMould 148 = .ok (.ifCond .ne 20, 3) := by decide +kernel
theorem dX12_pourMould_151 : decode cX12_pourMould 151 = .ok (.aload_n 0, 1) := by decide +kernel
theorem dX12_pourMould_152 : decode cX12_pourMould 152 = .ok (.iload_n 3, 1) := by decide +kernel
theorem dX12_pourMould_153 : decode cX12_pourMould 153 = .ok (.iload_n 1, 1) := by decide +kernel
theorem dX12_pourMould_154 : decode cX12_pourMould 154 = .ok (.iconst 4, 1) := by decide +kernel
theorem dX12_pourMould_155 : decode cX12_pourMould 155 = .ok (.invokevirtual 141, 3) := by decide +kernel
theorem dX12_pourMould_158 : decode cX12_pourMould 158 = .ok (.ifCond .ne 10, 3) := by decide +kernel
theorem dX12_pourMould_161 : decode cX12_pourMould 161 = .ok (.aload_n 0, 1) := by decide +kernel
theorem dX12_pourMould_162 : decode cX12_pourMould 162 = .ok (.getfield 24, 3) := by decide +kernel
theorem dX12_pourMould_165 : decode cX12_pourMould 165 = .ok (.iload_n 3, 1) := by decide +kernel
theorem dX12_pourMould_166 : decode cX12_pourMould 166 = .ok (.iconst 3, 1) := by decide +kernel
theorem dX12_pourMould_167 : decode cX12_pourMould 167 = .ok (.iastore, 1) := by decide +kernel
theorem dX12_pourMould_168 : decode cX12_pourMould 168 = .ok (.iinc 2 1, 3) := by decide +kernel
theorem dX12_pourMould_171 : decode cX12_pourMould 171 = .ok (.goto (-63), 3) := by decide +kernel
theorem dX12_pourMould_174 : decode cX12_pourMould 174 = .ok (.iinc 1 1, 3) := by decide +kernel
theorem dX12_pourMould_177 : decode cX12_pourMould 177 = .ok (.goto (-84), 3) := by decide +kernel
theorem dX12_pourMould_180 : decode cX12_pourMould 180 = .ok (.iconst 0, 1) := by decide +kernel
theorem dX12_pourMould_181 : decode cX12_pourMould 181 = .ok (.istore_n 1, 1) := by decide +kernel
theorem dX12_pourMould_182 : decode cX12_pourMould 182 = .ok (.iload_n 1, 1) := by decide +kernel
theorem dX12_pourMould_183 : decode cX12_pourMould 183 = .ok (.sipush 144, 3) := by decide +kernel
theorem dX12_pourMould_186 : decode cX12_pourMould 186 = .ok (.if_icmp .ge 34, 3) := by decide +kernel
theorem dX12_pourMould_189 : decode cX12_pourMould 189 = .ok (.aload_n 0, 1) := by decide +kernel
theorem dX12_pourMould_190 : decode cX12_pourMould 190 = .ok (.getfield 24, 3) := by decide +kernel
theorem dX12_pourMould_193 : decode cX12_pourMould 193 = .ok (.iload_n 1, 1) := by decide +kernel
theorem dX12_pourMould_194 : decode cX12_pourMould 194 = .ok (.aload_n 0, 1) := by decide +kernel
theorem dX12_pourMould_195 : decode cX12_pourMould 195 = .ok (.getfield 20, 3) := by decide +kernel
theorem dX12_pourMould_198 : decode cX12_pourMould 198 = .ok (.iload_n 1, 1) := by decide +kernel
theorem dX12_pourMould_199 : decode cX12_pourMould 199 = .ok (.baload, 1) := by decide +kernel
theorem dX12_pourMould_200 : decode cX12_pourMould 200 = .ok (.ifCond .eq 7, 3) := by decide +kernel
theorem dX12_pourMould_203 : decode cX12_pourMould 203 = .ok (.iconst 5, 1) := by decide +kernel
theorem dX12_pourMould_204 : decode cX12_pourMould 204 = .ok (.goto 9, 3) := by decide +kernel
theorem dX12_pourMould_207 : decode cX12_pourMould 207 = .ok (.aload_n 0, 1) := by decide +kernel
theorem dX12_pourMould_208 : decode cX12_pourMould 208 = .ok (.getfield 24, 3) := by decide +kernel
theorem dX12_pourMould_211 : decode cX12_pourMould 211 = .ok (.iload_n 1, 1) := by decide +kernel
theorem dX12_pourMould_212 : decode cX12_pourMould 212 = .ok (.iaload, 1) := by decide +kernel
theorem dX12_pourMould_213 : decode cX12_pourMould 213 = .ok (.iastore, 1) := by decide +kernel
theorem dX12_pourMould_214 : decode cX12_pourMould 214 = .ok (.iinc 1 1, 3) := by decide +kernel
theorem dX12_pourMould_217 : decode cX12_pourMould 217 = .ok (.goto (-35), 3) := by decide +kernel
theorem dX12_pourMould_220 : decode cX12_pourMould 220 = .ok (.return_, 1) := by decide +kernel
theorem dX12_isCast_0 : decode cX12_isCast 0 = .ok (.aload_n 0, 1) := by decide +kernel
theorem dX12_isCast_1 : decode cX12_isCast 1 = .ok (.iload_n 1, 1) := by decide +kernel
theorem dX12_isCast_2 : decode cX12_isCast 2 = .ok (.iload_n 2, 1) := by decide +kernel
theorem dX12_isCast_3 : decode cX12_isCast 3 = .ok (.invokevirtual 126, 3) := by decide +kernel
theorem dX12_isCast_6 : decode cX12_isCast 6 = .ok (.ifCond .eq 37, 3) := by decide +kernel
theorem dX12_isCast_9 : decode cX12_isCast 9 = .ok (.aload_n 0, 1) := by decide +kernel
theorem dX12_isCast_10 : decode cX12_isCast 10 = .ok (.getfield 24, 3) := by decide +kernel
theorem dX12_isCast_13 : decode cX12_isCast 13 = .ok (.bipush 12, 2) := by decide +kernel
theorem dX12_isCast_15 : decode cX12_isCast 15 = .ok (.iload_n 2, 1) := by decide +kernel
theorem dX12_isCast_16 : decode cX12_isCast 16 = .ok (.imul, 1) := by decide +kernel
theorem dX12_isCast_17 : decode cX12_isCast 17 = .ok (.iload_n 1, 1) := by decide +kernel
theorem dX12_isCast_18 : decode cX12_isCast 18 = .ok (.iadd, 1) := by decide +kernel
theorem dX12_isCast_19 : decode cX12_isCast 19 = .ok (.iaload, 1) := by decide +kernel
theorem dX12_isCast_20 : decode cX12_isCast 20 = .ok (.iconst 1, 1) := by decide +kernel
theorem dX12_isCast_21 : decode cX12_isCast 21 = .ok (.if_icmp .eq 18, 3) := by decide +kernel
theorem dX12_isCast_24 : decode cX12_isCast 24 = .ok (.aload_n 0, 1) := by decide +kernel
theorem dX12_isCast_25 : decode cX12_isCast 25 = .ok (.getfield 24, 3) := by decide +kernel
theorem dX12_isCast_28 : decode cX12_isCast 28 = .ok (.bipush 12, 2) := by decide +kernel
theorem dX12_isCast_30 : decode cX12_isCast 30 = .ok (.iload_n 2, 1) := by decide +kernel
theorem dX12_isCast_31 : decode cX12_isCast 31 = .ok (.imul, 1) := by decide +kernel
theorem dX12_isCast_32 : decode cX12_isCast 32 = .ok (.iload_n 1, 1) := by decide +kernel
theorem dX12_isCast_33 : decode cX12_isCast 33 = .ok (.iadd, 1) := by decide +kernel
theorem dX12_isCast_34 : decode cX12_isCast 34 = .ok (.iaload, 1) := by decide +kernel
theorem dX12_isCast_35 : decode cX12_isCast 35 = .ok (.iconst 5, 1) := by decide +kernel
theorem dX12_isCast_36 : decode cX12_isCast 36 = .ok (.if_icmp .ne 7, 3) := by decide +kernel
theorem dX12_isCast_39 : decode cX12_isCast 39 = .ok (.iconst 1, 1) := by decide +kernel
theorem dX12_isCast_40 : decode cX12_isCast 40 = .ok (.goto 4, 3) := by decide +kernel
theorem dX12_isCast_43 : decode cX12_isCast 43 = .ok (.iconst 0, 1) := by decide +kernel
theorem dX12_isCast_44 : decode cX12_isCast 44 = .ok (.ireturn, 1) := by decide +kernel
theorem dX12_cell_0 : decode cX12_cell 0 = .ok (.aload_n 0, 1) := by decide +kernel
theorem dX12_cell_1 : decode cX12_cell 1 = .ok (.iconst 0, 1) := by decide +kernel
theorem dX12_cell_2 : decode cX12_cell 2 = .ok (.putfield 96, 3) := by decide +kernel
theorem dX12_cell_5 : decode cX12_cell 5 = .ok (.aload_n 0, 1) := by decide +kernel
theorem dX12_cell_6 : decode cX12_cell 6 = .ok (.iload_n 1, 1) := by decide +kernel
theorem dX12_cell_7 : decode cX12_cell 7 = .ok (.iload_n 2, 1) := by decide +kernel
theorem dX12_cell_8 : decode cX12_cell 8 = .ok (.invokevirtual 126, 3) := by decide +kernel
theorem dX12_cell_11 : decode cX12_cell 11 = .ok (.ifCond .eq 13, 3) := by decide +kernel
theorem dX12_cell_14 : decode cX12_cell 14 = .ok (.iload_n 3, 1) := by decide +kernel
theorem dX12_cell_15 : decode cX12_cell 15 = .ok (.i2l, 1) := by decide +kernel
theorem dX12_cell_16 : decode cX12_cell 16 = .ok (.lconst 0, 1) := by decide +kernel
theorem dX12_cell_17 : decode cX12_cell 17 = .ok (.lconst 1, 1) := by decide +kernel
theorem dX12_cell_18 : decode cX12_cell 18 = .ok (.invokestatic 102, 3) := by decide +kernel
theorem dX12_cell_21 : decode cX12_cell 21 = .ok (.ifCond .ne 5, 3) := by decide +kernel
theorem dX12_cell_24 : decode cX12_cell 24 = .ok (.iconst (-1), 1) := by decide +kernel
theorem dX12_cell_25 : decode cX12_cell 25 = .ok (.ireturn, 1) := by decide +kernel
theorem dX12_cell_26 : decode cX12_cell 26 = .ok (.aload_n 0, 1) := by decide +kernel
theorem dX12_cell_27 : decode cX12_cell 27 = .ok (.invokevirtual 145, 3) := by decide +kernel
theorem dX12_cell_30 : decode cX12_cell 30 = .ok (.iload_n 3, 1) := by decide +kernel
theorem dX12_cell_31 : decode cX12_cell 31 = .ok (.ifCond .ne 17, 3) := by decide +kernel
theorem dX12_cell_34 : decode cX12_cell 34 = .ok (.aload_n 0, 1) := by decide +kernel
theorem dX12_cell_35 : decode cX12_cell 35 = .ok (.getfield 16, 3) := by decide +kernel
theorem dX12_cell_38 : decode cX12_cell 38 = .ok (.bipush 12, 2) := by decide +kernel
theorem dX12_cell_40 : decode cX12_cell 40 = .ok (.iload_n 2, 1) := by decide +kernel
theorem dX12_cell_41 : decode cX12_cell 41 = .ok (.imul, 1) := by decide +kernel
theorem dX12_cell_42 : decode cX12_cell 42 = .ok (.iload_n 1, 1) := by decide +kernel
theorem dX12_cell_43 : decode cX12_cell 43 = .ok (.iadd, 1) := by decide +kernel
theorem dX12_cell_44 : decode cX12_cell 44 = .ok (.iaload, 1) := by decide +kernel
theorem dX12_cell_45 : decode cX12_cell 45 = .ok (.goto 14, 3) := by decide +kernel
theorem dX12_cell_48 : decode cX12_cell 48 = .ok (.aload_n 0, 1) := by decide +kernel
theorem dX12_cell_49 : decode cX12_cell 49 = .ok (.getfield 24, 3) := by decide +kernel
theorem dX12_cell_52 : decode cX12_cell 52 = .ok (.bipush 12, 2) := by decide +kernel
theorem dX12_cell_54 : decode cX12_cell 54 = .ok (.iload_n 2, 1) := by decide +kernel
theorem dX12_cell_55 : decode cX12_cell 55 = .ok (.imul, 1) := by decide +kernel
theorem dX12_cell_56 : decode cX12_cell 56 = .ok (.iload_n 1, 1) := by decide +kernel
theorem dX12_cell_57 : decode cX12_cell 57 = .ok (.iadd, 1) := by decide +kernel
theorem dX12_cell_58 : decode cX12_cell 58 = .ok (.iaload, 1) := by decide +kernel
theorem dX12_cell_59 : decode cX12_cell 59 = .ok (.ireturn, 1) := by decide +kernel
theorem dX12_repair_0 : decode cX12_repair 0 = .ok (.aload_n 0, 1) := by decide +kernel
theorem dX12_repair_1 : decode cX12_repair 1 = .ok (.iconst 0, 1) := by decide +kernel
theorem dX12_repair_2 : decode cX12_repair 2 = .ok (.putfield 96, 3) := by decide +kernel
theorem dX12_repair_5 : decode cX12_repair 5 = .ok (.aload_n 0, 1) := by decide +kernel
theorem dX12_repair_6 : decode cX12_repair 6 = .ok (.iload_n 1, 1) := by decide +kernel
theorem dX12_repair_7 : decode cX12_repair 7 = .ok (.iload_n 2, 1) := by decide +kernel
theorem dX12_repair_8 : decode cX12_repair 8 = .ok (.invokevirtual 126, 3) := by decide +kernel
theorem dX12_repair_11 : decode cX12_repair 11 = .ok (.ifCond .ne 10, 3) := by decide +kernel
theorem dX12_repair_14 : decode cX12_repair 14 = .ok (.aload_n 0, 1) := by decide +kernel
theorem dX12_repair_15 : decode cX12_repair 15 = .ok (.bipush (-2), 2) := by decide +kernel
theorem dX12_repair_17 : decode cX12_repair 17 = .ok (.invokevirtual 113, 3) := by decide +kernel
theorem dX12_repair_20 : decode cX12_repair 20 = .ok (.ireturn, 1) := by decide +kernel
theorem dX12_repair_21 : decode cX12_repair 21 = .ok (.aload_n 0, 1) := by decide +kernel
theorem dX12_repair_22 : decode cX12_repair 22 = .ok (.invokevirtual 145, 3) := by decide +kernel
theorem dX12_repair_25 : decode cX12_repair 25 = .ok (.aload_n 0, 1) := by decide +kernel
theorem dX12_repair_26 : decode cX12_repair 26 = .ok (.getfield 24, 3) := by decide +kernel
theorem dX12_repair_29 : decode cX12_repair 29 = .ok (.bipush 12, 2) := by decide +kernel
theorem dX12_repair_31 : decode cX12_repair 31 = .ok (.iload_n 2, 1) := by decide +kernel
theorem dX12_repair_32 : decode cX12_repair 32 = .ok (.imul, 1) := by decide +kernel
theorem dX12_repair_33 : decode cX12_repair 33 = .ok (.iload_n 1, 1) := by decide +kernel
theorem dX12_repair_34 : decode cX12_repair 34 = .ok (.iadd, 1) := by decide +kernel
theorem dX12_repair_35 : decode cX12_repair 35 = .ok (.iaload, 1) := by decide +kernel
theorem dX12_repair_36 : decode cX12_repair 36 = .ok (.istore_n 3, 1) := by decide +kernel
theorem dX12_repair_37 : decode cX12_repair 37 = .ok (.aload_n 0, 1) := by decide +kernel
theorem dX12_repair_38 : decode cX12_repair 38 = .ok (.iload_n 1, 1) := by decide +kernel
theorem dX12_repair_39 : decode cX12_repair 39 = .ok (.iconst 1, 1) := by decide +kernel
theorem dX12_repair_40 : decode cX12_repair 40 = .ok (.isub, 1) := by decide +kernel
theorem dX12_repair_41 : decode cX12_repair 41 = .ok (.iload_n 2, 1) := by decide +kernel
theorem dX12_repair_42 : decode cX12_repair 42 = .ok (.invokevirtual 148, 3) := by decide +kernel
theorem dX12_repair_45 : decode cX12_repair 45 = .ok (.ifCond .ne 36, 3) := by decide +kernel
theorem dX12_repair_48 : decode cX12_repair 48 = .ok (.aload_n 0, 1) := by decide +kernel
theorem dX12_repair_49 : decode cX12_repair 49 = .ok (.iload_n 1, 1) := by decide +kernel
theorem dX12_repair_50 : decode cX12_repair 50 = .ok (.iconst 1, 1) := by decide +kernel
theorem dX12_repair_51 : decode cX12_repair 51 = .ok (.iadd, 1) := by decide +kernel
theorem dX12_repair_52 : decode cX12_repair 52 = .ok (.iload_n 2, 1) := by decide +kernel
theorem dX12_repair_53 : decode cX12_repair 53 = .ok (.invokevirtual 148, 3) := by decide +kernel
theorem dX12_repair_56 : decode cX12_repair 56 = .ok (.ifCond .ne 25, 3) := by decide +kernel
theorem dX12_repair_59 : decode cX12_repair 59 = .ok (.aload_n 0, 1) := by decide +kernel
theorem dX12_repair_60 : decode cX12_repair 60 = .ok (.iload_n 1, 1) := by decide +kernel
theorem dX12_repair_61 : decode cX12_repair 61 = .ok (.iload_n 2, 1) := by decide +kernel
theorem dX12_repair_62 : decode cX12_repair 62 = .ok (.iconst 1, 1) := by decide +kernel
theorem dX12_repair_63 : decode cX12_repair 63 = .ok (.isub, 1) := by decide +kernel
theorem dX12_repair_64 : decode cX12_repair 64 = .ok (.invokevirtual 148, 3) := by decide +kernel
theorem dX12_repair_67 : decode cX12_repair 67 = .ok (.ifCond .ne 14, 3) := by decide +kernel
theorem dX12_repair_70 : decode cX12_repair 70 = .ok (.aload_n 0, 1) := by decide +kernel
theorem dX12_repair_71 : decode cX12_repair 71 = .ok (.iload_n 1, 1) := by decide +kernel
theorem dX12_repair_72 : decode cX12_repair 72 = .ok (.iload_n 2, 1) := by decide +kernel
theorem dX12_repair_73 : decode cX12_repair 73 = .ok (.iconst 1, 1) := by decide +kernel
theorem dX12_repair_74 : decode cX12_repair 74 = .ok (.iadd, 1) := by decide +kernel
theorem dX12_repair_75 : decode cX12_repair 75 = .ok (.invokevirtual 148, 3) := by decide +kernel
theorem dX12_repair_78 : decode cX12_repair 78 = .ok (.ifCond .eq 7, 3) := by decide +kernel
theorem dX12_repair_81 : decode cX12_repair 81 = .ok (.iconst 1, 1) := by decide +kernel
theorem dX12_repair_82 : decode cX12_repair 82 = .ok (.goto 4, 3) := by decide +kernel
theorem dX12_repair_85 : decode cX12_repair 85 = .ok (.iconst 0, 1) := by decide +kernel
theorem dX12_repair_86 : decode cX12_repair 86 = .ok (.istore 4, 2) := by decide +kernel
theorem dX12_repair_88 : decode cX12_repair 88 = .ok (.iload_n 3, 1) := by decide +kernel
theorem dX12_repair_89 : decode cX12_repair 89 = .ok (.iconst 2, 1) := by decide +kernel
theorem dX12_repair_90 : decode cX12_repair 90 = .ok (.if_icmp .eq 8, 3) := by decide +kernel
theorem dX12_repair_93 : decode cX12_repair 93 = .ok (.iload_n 3, 1) := by decide +kernel
theorem dX12_repair_94 : decode cX12_repair 94 = .ok (.iconst 3, 1) := by decide +kernel
theorem dX12_repair_95 : decode cX12_repair 95 = .ok (.if_icmp .ne 8, 3) := by decide +kernel
theorem dX12_repair_98 : decode cX12_repair 98 = .ok (.iload 4, 2) := by decide +kernel
theorem dX12_repair_100 : decode cX12_repair 100 = .ok (.ifCond .ne 10, 3) := by decide +kernel
theorem dX12_repair_103 : decode cX12_repair 103 = .ok (.aload_n 0, 1) := by decide +kernel
theorem dX12_repair_104 : decode cX12_repair 104 = .ok (.bipush (-3), 2) := by decide +kernel
theorem dX12_repair_106 : decode cX12_repair 106 = .ok (.invokevirtual 113, 3) := by decide +kernel
theorem dX12_repair_109 : decode cX12_repair 109 = .ok (.ireturn, 1) := by decide +kernel
theorem dX12_repair_110 : decode cX12_repair 110 = .ok (.aload_n 0, 1) := by decide +kernel
theorem dX12_repair_111 : decode cX12_repair 111 = .ok (.getfield 20, 3) := by decide +kernel
theorem dX12_repair_114 : decode cX12_repair 114 = .ok (.bipush 12, 2) := by decide +kernel
theorem dX12_repair_116 : decode cX12_repair 116 = .ok (.iload_n 2, 1) := by decide +kernel
theorem dX12_repair_117 : decode cX12_repair 117 = .ok (.imul, 1) := by decide +kernel
theorem dX12_repair_118 : decode cX12_repair 118 = .ok (.iload_n 1, 1) := by decide +kernel
theorem dX12_repair_119 : decode cX12_repair 119 = .ok (.iadd, 1) := by decide +kernel
theorem dX12_repair_120 : decode cX12_repair 120 = .ok (.iconst 1, 1) := by decide +kernel
theorem dX12_repair_121 : decode cX12_repair 121 = .ok (.bastore, 1) := by decide +kernel
theorem dX12_repair_122 : decode cX12_repair 122 = .ok (.aload_n 0, 1) := by decide +kernel
theorem dX12_repair_123 : decode cX12_repair 123 = .ok (.dup, 1) := by decide +kernel
theorem dX12_repair_124 : decode cX12_repair 124 = .ok (.getfield 106, 3) := by decide +kernel
theorem dX12_repair_127 : decode cX12_repair 127 = .ok (.iconst 1, 1) := by decide +kernel
theorem dX12_repair_128 : decode cX12_repair 128 = .ok (.iadd, 1) := by decide +kernel
theorem dX12_repair_129 : decode cX12_repair 129 = .ok (.putfield 106, 3) := by decide +kernel
theorem dX12_repair_132 : decode cX12_repair 132 = .ok (.aload_n 0, 1) := by decide +kernel
theorem dX12_repair_133 : decode cX12_repair 133 = .ok (.aload_n 0, 1) := by decide +kernel
theorem dX12_repair_134 : decode cX12_repair 134 = .ok (.getfield 106, 3) := by decide +kernel
theorem dX12_repair_137 : decode cX12_repair 137 = .ok (.invokevirtual 113, 3) := by decide +kernel
theorem dX12_repair_140 : decode cX12_repair 140 = .ok (.ireturn, 1) := by decide +kernel
theorem dX12_wallAt_0 : decode cX12_wallAt 0 = .ok (.iconst 1, 1) := by decide +kernel
theorem dX12_wallAt_1 : decode cX12_wallAt 1 = .ok (.istore_n 3, 1) := by decide +kernel
theorem dX12_wallAt_2 : decode cX12_wallAt 2 = .ok (.iload_n 1, 1) := by decide +kernel
theorem dX12_wallAt_3 : decode cX12_wallAt 3 = .ok (.iconst 1, 1) := by decide +kernel
theorem dX12_wallAt_4 : decode cX12_wallAt 4 = .ok (.isub, 1) := by decide +kernel
theorem dX12_wallAt_5 : decode cX12_wallAt 5 = .ok (.istore 4, 2) := by decide +kernel
theorem dX12_wallAt_7 : decode cX12_wallAt 7 = .ok (.aload_n 0, 1) := by decide +kernel
theorem dX12_wallAt_8 : decode cX12_wallAt 8 = .ok (.iload 4, 2) := by decide +kernel
theorem dX12_wallAt_10 : decode cX12_wallAt 10 = .ok (.iload_n 2, 1) := by decide +kernel
theorem dX12_wallAt_11 : decode cX12_wallAt 11 = .ok (.invokevirtual 148, 3) := by decide +kernel
theorem dX12_wallAt_14 : decode cX12_wallAt 14 = .ok (.ifCond .eq 12, 3) := by decide +kernel
theorem dX12_wallAt_17 : decode cX12_wallAt 17 = .ok (.iinc 3 1, 3) := by decide +kernel
theorem dX12_wallAt_20 : decode cX12_wallAt 20 = .ok (.iinc 4 (-1), 3) := by decide +kernel
theorem dX12_wallAt_23 : decode cX12_wallAt 23 = .ok (.goto (-16), 3) := by decide +kernel
theorem dX12_wallAt_26 : decode cX12_wallAt 26 = .ok (.iload_n 1, 1) := by decide +kernel
theorem dX12_wallAt_27 : decode cX12_wallAt 27 = .ok (.iconst 1, 1) := by decide +kernel
theorem dX12_wallAt_28 : decode cX12_wallAt 28 = .ok (.iadd, 1) := by decide +kernel
theorem dX12_wallAt_29 : decode cX12_wallAt 29 = .ok (.istore 4, 2) := by decide +kernel
theorem dX12_wallAt_31 : decode cX12_wallAt 31 = .ok (.aload_n 0, 1) := by decide +kernel
theorem dX12_wallAt_32 : decode cX12_wallAt 32 = .ok (.iload 4, 2) := by decide +kernel
theorem dX12_wallAt_34 : decode cX12_wallAt 34 = .ok (.iload_n 2, 1) := by decide +kernel
theorem dX12_wallAt_35 : decode cX12_wallAt 35 = .ok (.invokevirtual 148, 3) := by decide +kernel
theorem dX12_wallAt_38 : decode cX12_wallAt 38 = .ok (.ifCond .eq 12, 3) := by decide +kernel
theorem dX12_wallAt_41 : decode cX12_wallAt 41 = .ok (.iinc 3 1, 3) := by decide +kernel
theorem dX12_wallAt_44 : decode cX12_wallAt 44 = .ok (.iinc 4 1, 3) := by decide +kernel
theorem dX12_wallAt_47 : decode cX12_wallAt 47 = .ok (.goto (-16), 3) := by decide +kernel
theorem dX12_wallAt_50 : decode cX12_wallAt 50 = .ok (.iconst 1, 1) := by decide +kernel
theorem dX12_wallAt_51 : decode cX12_wallAt 51 = .ok (.istore 4, 2) := by decide +kernel
theorem dX12_wallAt_53 : decode cX12_wallAt 53 = .ok (.iload_n 2, 1) := by decide +kernel
theorem dX12_wallAt_54 : decode cX12_wallAt 54 = .ok (.iconst 1, 1) := by decide +kernel
theorem dX12_wallAt_55 : decode cX12_wallAt 55 = .ok (.isub, 1) := by decide +kernel
theorem dX12_wallAt_56 : decode cX12_wallAt 56 = .ok (.istore 5, 2) := by decide +kernel
theorem dX12_wallAt_58 : decode cX12_wallAt 58 = .ok (.aload_n 0, 1) := by decide +kernel
theorem dX12_wallAt_59 : decode cX12_wallAt 59 = .ok (.iload_n 1, 1) := by decide +kernel
theorem dX12_wallAt_60 : decode cX12_wallAt 60 = .ok (.iload 5, 2) := by decide +kernel
theorem dX12_wallAt_62 : decode cX12_wallAt 62 = .ok (.invokevirtual 148, 3) := by decide +kernel
theorem dX12_wallAt_65 : decode cX12_wallAt 65 = .ok (.ifCond .eq 12, 3) := by decide +kernel
theorem dX12_wallAt_68 : decode cX12_wallAt 68 = .ok (.iinc 4 1, 3) := by decide +kernel
theorem dX12_wallAt_71 : decode cX12_wallAt 71 = .ok (.iinc 5 (-1), 3) := by decide +kernel
theorem dX12_wallAt_74 : decode cX12_wallAt 74 = .ok (.goto (-16), 3) := by decide +kernel
theorem dX12_wallAt_77 : decode cX12_wallAt 77 = .ok (.iload_n 2, 1) := by decide +kernel
theorem dX12_wallAt_78 : decode cX12_wallAt 78 = .ok (.iconst 1, 1) := by decide +kernel
theorem dX12_wallAt_79 : decode cX12_wallAt 79 = .ok (.iadd, 1) := by decide +kernel
theorem dX12_wallAt_80 : decode cX12_wallAt 80 = .ok (.istore 5, 2) := by decide +kernel
theorem dX12_wallAt_82 : decode cX12_wallAt 82 = .ok (.aload_n 0, 1) := by decide +kernel
theorem dX12_wallAt_83 : decode cX12_wallAt 83 = .ok (.iload_n 1, 1) := by decide +kernel
theorem dX12_wallAt_84 : decode cX12_wallAt 84 = .ok (.iload 5, 2) := by decide +kernel
theorem dX12_wallAt_86 : decode cX12_wallAt 86 = .ok (.invokevirtual 148, 3) := by decide +kernel
theorem dX12_wallAt_89 : decode cX12_wallAt 89 = .ok (.ifCond .eq 12, 3) := by decide +kernel
theorem dX12_wallAt_92 : decode cX12_wallAt 92 = .ok (.iinc 4 1, 3) := by decide +kernel
theorem dX12_wallAt_95 : decode cX12_wallAt 95 = .ok (.iinc 5 1, 3) := by decide +kernel
theorem dX12_wallAt_98 : decode cX12_wallAt 98 = .ok (.goto (-16), 3) := by decide +kernel
theorem dX12_wallAt_101 : decode cX12_wallAt 101 = .ok (.iload_n 3, 1) := by decide +kernel
theorem dX12_wallAt_102 : decode cX12_wallAt 102 = .ok (.iload 4, 2) := by decide +kernel
theorem dX12_wallAt_104 : decode cX12_wallAt 104 = .ok (.if_icmp .ge 7, 3) := by decide +kernel
theorem dX12_wallAt_107 : decode cX12_wallAt 107 = .ok (.iload_n 3, 1) := by decide +kernel
theorem dX12_wallAt_108 : decode cX12_wallAt 108 = .ok (.goto 5, 3) := by decide +kernel
theorem dX12_wallAt_111 : decode cX12_wallAt 111 = .ok (.iload 4, 2) := by decide +kernel
theorem dX12_wallAt_113 : decode cX12_wallAt 113 = .ok (.ireturn, 1) := by decide +kernel
theorem dX12_wallOf_0 : decode cX12_wallOf 0 = .ok (.iconst 0, 1) := by decide +kernel
theorem dX12_wallOf_1 : decode cX12_wallOf 1 = .ok (.istore_n 1, 1) := by decide +kernel
theorem dX12_wallOf_2 : decode cX12_wallOf 2 = .ok (.iconst 0, 1) := by decide +kernel
theorem dX12_wallOf_3 : decode cX12_wallOf 3 = .ok (.istore_n 2, 1) := by decide +kernel
theorem dX12_wallOf_4 : decode cX12_wallOf 4 = .ok (.iload_n 2, 1) := by decide +kernel
theorem dX12_wallOf_5 : decode cX12_wallOf 5 = .ok (.aload_n 0, 1) := by decide +kernel
theorem dX12_wallOf_6 : decode cX12_wallOf 6 = .ok (.getfield 13, 3) := by decide +kernel
theorem dX12_wallOf_9 : decode cX12_wallOf 9 = .ok (.if_icmp .ge 68, 3) := by decide +kernel
theorem dX12_wallOf_12 : decode cX12_wallOf 12 = .ok (.iconst 0, 1) := by decide +kernel
theorem dX12_wallOf_13 : decode cX12_wallOf 13 = .ok (.istore_n 3, 1) := by decide +kernel
theorem dX12_wallOf_14 : decode cX12_wallOf 14 = .ok (.iload_n 3, 1) := by decide +kernel
theorem dX12_wallOf_15 : decode cX12_wallOf 15 = .ok (.aload_n 0, 1) := by decide +kernel
theorem dX12_wallOf_16 : decode cX12_wallOf 16 = .ok (.getfield 7, 3) := by decide +kernel
theorem dX12_wallOf_19 : decode cX12_wallOf 19 = .ok (.if_icmp .ge 52, 3) := by decide +kernel
theorem dX12_wallOf_22 : decode cX12_wallOf 22 = .ok (.aload_n 0, 1) := by decide +kernel
theorem dX12_wallOf_23 : decode cX12_wallOf 23 = .ok (.iload_n 3, 1) := by decide +kernel
theorem dX12_wallOf_24 : decode cX12_wallOf 24 = .ok (.iload_n 2, 1) := by decide +kernel
theorem dX12_wallOf_25 : decode cX12_wallOf 25 = .ok (.invokevirtual 148, 3) := by decide +kernel
theorem dX12_wallOf_28 : decode cX12_wallOf 28 = .ok (.ifCond .eq 12, 3) := by decide +kernel
theorem dX12_wallOf_31 : decode cX12_wallOf 31 = .ok (.aload_n 0, 1) := by decide +kernel
theorem dX12_wallOf_32 : decode cX12_wallOf 32 = .ok (.iload_n 3, 1) := by decide +kernel
theorem dX12_wallOf_33 : decode cX12_wallOf 33 = .ok (.iload_n 2, 1) := by decide +kernel
theorem dX12_wallOf_34 : decode cX12_wallOf 34 = .ok (.invokevirtual 151, 3) := by decide +kernel
theorem dX12_wallOf_37 : decode cX12_wallOf 37 = .ok (.goto 4, 3) := by decide +kernel
theorem dX12_wallOf_40 : decode cX12_wallOf 40 = .ok (.iconst 0, 1) := by decide +kernel
theorem dX12_wallOf_41 : decode cX12_wallOf 41 = .ok (.istore 4, 2) := by decide +kernel
theorem dX12_wallOf_43 : decode cX12_wallOf 43 = .ok (.iload 4, 2) := by decide +kernel
theorem dX12_wallOf_45 : decode cX12_wallOf 45 = .ok (.ifCond .le 18, 3) := by decide +kernel
theorem dX12_wallOf_48 : decode cX12_wallOf 48 = .ok (.iload_n 1, 1) := by decide +kernel
theorem dX12_wallOf_49 : decode cX12_wallOf 49 = .ok (.ifCond .eq 9, 3) := by decide +kernel
theorem dX12_wallOf_52 : decode cX12_wallOf 52 = .ok (.iload 4, 2) := by decide +kernel
theorem dX12_wallOf_54 : decode cX12_wallOf 54 = .ok (.iload_n 1, 1) := by decide +kernel
theorem dX12_wallOf_55 : decode cX12_wallOf 55 = .ok (.if_icmp .ge 8, 3) := by decide +kernel
theorem dX12_wallOf_58 : decode cX12_wallOf 58 = .ok (.iload 4, 2) := by decide +kernel
theorem dX12_wallOf_60 : decode cX12_wallOf 60 = .ok (.goto 4, 3) := by decide +kernel
theorem dX12_wallOf_63 : decode cX12_wallOf 63 = .ok (.iload_n 1, 1) := by decide +kernel
theorem dX12_wallOf_64 : decode cX12_wallOf 64 = .ok (.istore_n 1, 1) := by decide +kernel
theorem dX12_wallOf_65 : decode cX12_wallOf 65 = .ok (.iinc 3 1, 3) := by decide +kernel
theorem dX12_wallOf_68 : decode cX12_wallOf 68 = .ok (.goto (-54), 3) := by decide +kernel
theorem dX12_wallOf_71 : decode cX12_wallOf 71 = .ok (.iinc 2 1, 3) := by decide +kernel
theorem dX12_wallOf_74 : decode cX12_wallOf 74 = .ok (.goto (-70), 3) := by decide +kernel
theorem dX12_wallOf_77 : decode cX12_wallOf 77 = .ok (.iload_n 1, 1) := by decide +kernel
theorem dX12_wallOf_78 : decode cX12_wallOf 78 = .ok (.ireturn, 1) := by decide +kernel
theorem dX12_wall_0 : decode cX12_wall 0 = .ok (.aload_n 0, 1) := by decide +kernel
theorem dX12_wall_1 : decode cX12_wall 1 = .ok (.iconst 0, 1) := by decide +kernel
theorem dX12_wall_2 : decode cX12_wall 2 = .ok (.putfield 96, 3) := by decide +kernel
theorem dX12_wall_5 : decode cX12_wall 5 = .ok (.iload_n 1, 1) := by decide +kernel
theorem dX12_wall_6 : decode cX12_wall 6 = .ok (.iconst (-1), 1) := by decide +kernel
theorem dX12_wall_7 : decode cX12_wall 7 = .ok (.if_icmp .ne 12, 3) := by decide +kernel
theorem dX12_wall_10 : decode cX12_wall 10 = .ok (.iload_n 2, 1) := by decide +kernel
theorem dX12_wall_11 : decode cX12_wall 11 = .ok (.iconst (-1), 1) := by decide +kernel
theorem dX12_wall_12 : decode cX12_wall 12 = .ok (.if_icmp .ne 7, 3) := by decide +kernel
theorem dX12_wall_15 : decode cX12_wall 15 = .ok (.iconst 1, 1) := by decide +kernel
theorem dX12_wall_16 : decode cX12_wall 16 = .ok (.goto 4, 3) := by decide +kernel
theorem dX12_wall_19 : decode cX12_wall 19 = .ok (.iconst 0, 1) := by decide +kernel
theorem dX12_wall_20 : decode cX12_wall 20 = .ok (.istore_n 3, 1) := by decide +kernel
theorem dX12_wall_21 : decode cX12_wall 21 = .ok (.iload_n 3, 1) := by decide +kernel
theorem dX12_wall_22 : decode cX12_wall 22 = .ok (.ifCond .ne 14, 3) := by decide +kernel
theorem dX12_wall_25 : decode cX12_wall 25 = .ok (.aload_n 0, 1) := by decide +kernel
theorem dX12_wall_26 : decode cX12_wall 26 = .ok (.iload_n 1, 1) := by decide +kernel
theorem dX12_wall_27 : decode cX12_wall 27 = .ok (.iload_n 2, 1) := by decide +kernel
theorem dX12_wall_28 : decode cX12_wall 28 = .ok (.invokevirtual 126, 3) := by decide +kernel
theorem dX12_wall_31 : decode cX12_wall 31 = .ok (.ifCond .ne 5, 3) := by decide +kernel
theorem dX12_wall_34 : decode cX12_wall 34 = .ok (.iconst (-1), 1) := by decide +kernel
theorem dX12_wall_35 : decode cX12_wall 35 = .ok (.ireturn, 1) := by decide +kernel
theorem dX12_wall_36 : decode cX12_wall 36 = .ok (.aload_n 0, 1) := by decide +kernel
theorem dX12_wall_37 : decode cX12_wall 37 = .ok (.invokevirtual 145, 3) := by decide +kernel
theorem dX12_wall_40 : decode cX12_wall 40 = .ok (.iload_n 3, 1) := by decide +kernel
theorem dX12_wall_41 : decode cX12_wall 41 = .ok (.ifCond .eq 10, 3) := by decide +kernel
theorem dX12_wall_44 : decode cX12_wall 44 = .ok (.aload_n 0, 1) := by decide +kernel
theorem dX12_wall_45 : decode cX12_wall 45 = .ok (.invokevirtual 155, 3) := by decide +kernel
theorem dX12_wall_48 : decode cX12_wall 48 = .ok (.goto 22, 3) := by decide +kernel
theorem dX12_wall_51 : decode cX12_wall 51 = .ok (.aload_n 0, 1) := by decide +kernel
theorem dX12_wall_52 : decode cX12_wall 52 = .ok (.iload_n 1, 1) := by decide +kernel
theorem dX12_wall_53 : decode cX12_wall 53 = .ok (.iload_n 2, 1) := by decide +kernel
theorem dX12_wall_54 : decode cX12_wall 54 = .ok (.invokevirtual 148, 3) := by decide +kernel
theorem dX12_wall_57 : decode cX12_wall 57 = .ok (.ifCond .eq 12, 3) := by decide +kernel
theorem dX12_wall_60 : decode cX12_wall 60 = .ok (.aload_n 0, 1) := by decide +kernel
theorem dX12_wall_61 : decode cX12_wall 61 = .ok (.iload_n 1, 1) := by decide +kernel
theorem dX12_wall_62 : decode cX12_wall 62 = .ok (.iload_n 2, 1) := by decide +kernel
theorem dX12_wall_63 : decode cX12_wall 63 = .ok (.invokevirtual 151, 3) := by decide +kernel
theorem dX12_wall_66 : decode cX12_wall 66 = .ok (.goto 4, 3) := by decide +kernel
theorem dX12_wall_69 : decode cX12_wall 69 = .ok (.iconst 0, 1) := by decide +kernel
theorem dX12_wall_70 : decode cX12_wall 70 = .ok (.ireturn, 1) := by decide +kernel
theorem dX12_cellsOf_0 : decode cX12_cellsOf 0 = .ok (.iconst 0, 1) := by decide +kernel
theorem dX12_cellsOf_1 : decode cX12_cellsOf 1 = .ok (.istore_n 2, 1) := by decide +kernel
theorem dX12_cellsOf_2 : decode cX12_cellsOf 2 = .ok (.iconst 0, 1) := by decide +kernel
theorem dX12_cellsOf_3 : decode cX12_cellsOf 3 = .ok (.istore_n 3, 1) := by decide +kernel
theorem dX12_cellsOf_4 : decode cX12_cellsOf 4 = .ok (.iload_n 3, 1) := by decide +kernel
theorem dX12_cellsOf_5 : decode cX12_cellsOf 5 = .ok (.aload_n 0, 1) := by decide +kernel
theorem dX12_cellsOf_6 : decode cX12_cellsOf 6 = .ok (.getfield 13, 3) := by decide +kernel
theorem dX12_cellsOf_9 : decode cX12_cellsOf 9 = .ok (.if_icmp .ge 202, 3) := by decide +kernel
theorem dX12_cellsOf_12 : decode cX12_cellsOf 12 = .ok (.iconst 0, 1) := by decide +kernel
theorem dX12_cellsOf_13 : decode cX12_cellsOf 13 = .ok (.istore 4, 2) := by decide +kernel
theorem dX12_cellsOf_15 : decode cX12_cellsOf 15 = .ok (.iload 4, 2) := by decide +kernel
theorem dX12_cellsOf_17 : decode cX12_cellsOf 17 = .ok (.aload_n 0, 1) := by decide +kernel
theorem dX12_cellsOf_18 : decode cX12_cellsOf 18 = .ok (.getfield 7, 3) := by decide +kernel
theorem dX12_cellsOf_21 : decode cX12_cellsOf 21 = .ok (.if_icmp .ge 184, 3) := by decide +kernel
theorem dX12_cellsOf_24 : decode cX12_cellsOf 24 = .ok (.bipush 12, 2) := by decide +kernel
theorem dX12_cellsOf_26 : decode cX12_cellsOf 26 = .ok (.iload_n 3, 1) := by decide +kernel
theorem dX12_cellsOf_27 : decode cX12_cellsOf 27 = .ok (.imul, 1) := by decide +kernel
theorem dX12_cellsOf_28 : decode cX12_cellsOf 28 = .ok (.iload 4, 2) := by decide +kernel
theorem dX12_cellsOf_30 : decode cX12_cellsOf 30 = .ok (.iadd, 1) := by decide +kernel
theorem dX12_cellsOf_31 : decode cX12_cellsOf 31 = .ok (.istore 5, 2) := by decide +kernel
theorem dX12_cellsOf_33 : decode cX12_cellsOf 33 = .ok (.iload_n 1, 1) := by decide +kernel
theorem dX12_cellsOf_34 : decode cX12_cellsOf 34 = .ok (.ifCond .ne 13, 3) := by decide +kernel
theorem dX12_cellsOf_37 : decode cX12_cellsOf 37 = .ok (.aload_n 0, 1) := by decide +kernel
theorem dX12_cellsOf_38 : decode cX12_cellsOf 38 = .ok (.iload 4, 2) := by decide +kernel
theorem dX12_cellsOf_40 : decode cX12_cellsOf 40 = .ok (.iload_n 3, 1) := by decide +kernel
theorem dX12_cellsOf_41 : decode cX12_cellsOf 41 = .ok (.invokevirtual 148, 3) := by decide +kernel
theorem dX12_cellsOf_44 : decode cX12_cellsOf 44 = .ok (.goto 140, 3) := by decide +kernel
theorem dX12_cellsOf_47 : decode cX12_cellsOf 47 = .ok (.iload_n 1, 1) := by decide +kernel
theorem dX12_cellsOf_48 : decode cX12_cellsOf 48 = .ok (.iconst 1, 1) := by decide +kernel
theorem dX12_cellsOf_49 : decode cX12_cellsOf 49 = .ok (.if_icmp .ne 22, 3) := by decide +kernel
theorem dX12_cellsOf_52 : decode cX12_cellsOf 52 = .ok (.aload_n 0, 1) := by decide +kernel
theorem dX12_cellsOf_53 : decode cX12_cellsOf 53 = .ok (.getfield 24, 3) := by decide +kernel
theorem dX12_cellsOf_56 : decode cX12_cellsOf 56 = .ok (.iload 5, 2) := by decide +kernel
theorem dX12_cellsOf_58 : decode cX12_cellsOf 58 = .ok (.iaload, 1) := by decide +kernel
theorem dX12_cellsOf_59 : decode cX12_cellsOf 59 = .ok (.iconst 2, 1) := by decide +kernel
theorem dX12_cellsOf_60 : decode cX12_cellsOf 60 = .ok (.if_icmp .ne 7, 3) := by decide +kernel
theorem dX12_cellsOf_63 : decode cX12_cellsOf 63 = .ok (.iconst 1, 1) := by decide +kernel
theorem dX12_cellsOf_64 : decode cX12_cellsOf 64 = .ok (.goto 120, 3) := by decide +kernel
theorem dX12_cellsOf_67 : decode cX12_cellsOf 67 = .ok (.iconst 0, 1) := by decide +kernel
theorem dX12_cellsOf_68 : decode cX12_cellsOf 68 = .ok (.goto 116, 3) := by decide +kernel
theorem dX12_cellsOf_71 : decode cX12_cellsOf 71 = .ok (.iload_n 1, 1) := by decide +kernel
theorem dX12_cellsOf_72 : decode cX12_cellsOf 72 = .ok (.iconst 2, 1) := by decide +kernel
theorem dX12_cellsOf_73 : decode cX12_cellsOf 73 = .ok (.if_icmp .ne 22, 3) := by decide +kernel
theorem dX12_cellsOf_76 : decode cX12_cellsOf 76 = .ok (.aload_n 0, 1) := by decide +kernel
theorem dX12_cellsOf_77 : decode cX12_cellsOf 77 = .ok (.getfield 24, 3) := by decide +kernel
theorem dX12_cellsOf_80 : decode cX12_cellsOf 80 = .ok (.iload 5, 2) := by decide +kernel
theorem dX12_cellsOf_82 : decode cX12_cellsOf 82 = .ok (.iaload, 1) := by decide +kernel
theorem dX12_cellsOf_83 : decode cX12_cellsOf 83 = .ok (.iconst 3, 1) := by decide +kernel
theorem dX12_cellsOf_84 : decode cX12_cellsOf 84 = .ok (.if_icmp .ne 7, 3) := by decide +kernel
theorem dX12_cellsOf_87 : decode cX12_cellsOf 87 = .ok (.iconst 1, 1) := by decide +kernel
theorem dX12_cellsOf_88 : decode cX12_cellsOf 88 = .ok (.goto 96, 3) := by decide +kernel
theorem dX12_cellsOf_91 : decode cX12_cellsOf 91 = .ok (.iconst 0, 1) := by decide +kernel
theorem dX12_cellsOf_92 : decode cX12_cellsOf 92 = .ok (.goto 92, 3) := by decide +kernel
theorem dX12_cellsOf_95 : decode cX12_cellsOf 95 = .ok (.iload_n 1, 1) := by decide +kernel
theorem dX12_cellsOf_96 : decode cX12_cellsOf 96 = .ok (.iconst 3, 1) := by decide +kernel
theorem dX12_cellsOf_97 : decode cX12_cellsOf 97 = .ok (.if_icmp .ne 22, 3) := by decide +kernel
theorem dX12_cellsOf_100 : decode cX12_cellsOf 100 = .ok (.aload_n 0, 1) := by decide +kernel
theorem dX12_cellsOf_101 : decode cX12_cellsOf 101 = .ok (.getfield 16, 3) := by decide +kernel
theorem dX12_cellsOf_104 : decode cX12_cellsOf 104 = .ok (.iload 5, 2) := by decide +kernel
theorem dX12_cellsOf_106 : decode cX12_cellsOf 106 = .ok (.iaload, 1) := by decide +kernel
theorem dX12_cellsOf_107 : decode cX12_cellsOf 107 = .ok (.iconst 1, 1) := by decide +kernel
theorem dX12_cellsOf_108 : decode cX12_cellsOf 108 = .ok (.if_icmp .ne 7, 3) := by decide +kernel
theorem dX12_cellsOf_111 : decode cX12_cellsOf 111 = .ok (.iconst 1, 1) := by decide +kernel
theorem dX12_cellsOf_112 : decode cX12_cellsOf 112 = .ok (.goto 72, 3) := by decide +kernel
theorem dX12_cellsOf_115 : decode cX12_cellsOf 115 = .ok (.iconst 0, 1) := by decide +kernel
theorem dX12_cellsOf_116 : decode cX12_cellsOf 116 = .ok (.goto 68, 3) := by decide +kernel
theorem dX12_cellsOf_119 : decode cX12_cellsOf 119 = .ok (.iload_n 1, 1) := by decide +kernel
theorem dX12_cellsOf_120 : decode cX12_cellsOf 120 = .ok (.iconst 4, 1) := by decide +kernel
theorem dX12_cellsOf_121 : decode cX12_cellsOf 121 = .ok (.if_icmp .ne 22, 3) := by decide +kernel
theorem dX12_cellsOf_124 : decode cX12_cellsOf 124 = .ok (.aload_n 0, 1) := by decide +kernel
theorem dX12_cellsOf_125 : decode cX12_cellsOf 125 = .ok (.getfield 16, 3) := by decide +kernel
theorem dX12_cellsOf_128 : decode cX12_cellsOf 128 = .ok (.iload 5, 2) := by decide +kernel
theorem dX12_cellsOf_130 : decode cX12_cellsOf 130 = .ok (.iaload, 1) := by decide +kernel
theorem dX12_cellsOf_131 : decode cX12_cellsOf 131 = .ok (.iconst 2, 1) := by decide +kernel
theorem dX12_cellsOf_132 : decode cX12_cellsOf 132 = .ok (.if_icmp .ne 7, 3) := by decide +kernel
theorem dX12_cellsOf_135 : decode cX12_cellsOf 135 = .ok (.iconst 1, 1) := by decide +kernel
theorem dX12_cellsOf_136 : decode cX12_cellsOf 136 = .ok (.goto 48, 3) := by decide +kernel
theorem dX12_cellsOf_139 : decode cX12_cellsOf 139 = .ok (.iconst 0, 1) := by decide +kernel
theorem dX12_cellsOf_140 : decode cX12_cellsOf 140 = .ok (.goto 44, 3) := by decide +kernel
theorem dX12_cellsOf_143 : decode cX12_cellsOf 143 = .ok (.iload_n 1, 1) := by decide +kernel
theorem dX12_cellsOf_144 : decode cX12_cellsOf 144 = .ok (.iconst 5, 1) := by decide +kernel
theorem dX12_cellsOf_145 : decode cX12_cellsOf 145 = .ok (.if_icmp .ne 22, 3) := by decide +kernel
theorem dX12_cellsOf_148 : decode cX12_cellsOf 148 = .ok (.aload_n 0, 1) := by decide +kernel
theorem dX12_cellsOf_149 : decode cX12_cellsOf 149 = .ok (.getfield 24, 3) := by decide +kernel
theorem dX12_cellsOf_152 : decode cX12_cellsOf 152 = .ok (.iload 5, 2) := by decide +kernel
theorem dX12_cellsOf_154 : decode cX12_cellsOf 154 = .ok (.iaload, 1) := by decide +kernel
theorem dX12_cellsOf_155 : decode cX12_cellsOf 155 = .ok (.iconst 5, 1) := by decide +kernel
theorem dX12_cellsOf_156 : decode cX12_cellsOf 156 = .ok (.if_icmp .ne 7, 3) := by decide +kernel
theorem dX12_cellsOf_159 : decode cX12_cellsOf 159 = .ok (.iconst 1, 1) := by decide +kernel
theorem dX12_cellsOf_160 : decode cX12_cellsOf 160 = .ok (.goto 24, 3) := by decide +kernel
theorem dX12_cellsOf_163 : decode cX12_cellsOf 163 = .ok (.iconst 0, 1) := by decide +kernel
theorem dX12_cellsOf_164 : decode cX12_cellsOf 164 = .ok (.goto 20, 3) := by decide +kernel
theorem dX12_cellsOf_167 : decode cX12_cellsOf 167 = .ok (.aload_n 0, 1) := by decide +kernel
theorem dX12_cellsOf_168 : decode cX12_cellsOf 168 = .ok (.getfield 16, 3) := by decide +kernel
theorem dX12_cellsOf_171 : decode cX12_cellsOf 171 = .ok (.iload 5, 2) := by decide +kernel
theorem dX12_cellsOf_173 : decode cX12_cellsOf 173 = .ok (.iaload, 1) := by decide +kernel
theorem dX12_cellsOf_174 : decode cX12_cellsOf 174 = .ok (.bipush 10, 2) := by decide +kernel
theorem dX12_cellsOf_176 : decode cX12_cellsOf 176 = .ok (.if_icmp .lt 7, 3) := by decide +kernel
theorem dX12_cellsOf_179 : decode cX12_cellsOf 179 = .ok (.iconst 1, 1) := by decide +kernel
theorem dX12_cellsOf_180 : decode cX12_cellsOf 180 = .ok (.goto 4, 3) := by decide +kernel
theorem dX12_cellsOf_183 : decode cX12_cellsOf 183 = .ok (.iconst 0, 1) := by decide +kernel
theorem dX12_cellsOf_184 : decode cX12_cellsOf 184 = .ok (.istore 6, 2) := by decide +kernel
theorem dX12_cellsOf_186 : decode cX12_cellsOf 186 = .ok (.iload_n 2, 1) := by decide +kernel
theorem dX12_cellsOf_187 : decode cX12_cellsOf 187 = .ok (.iload 6, 2) := by decide +kernel
theorem dX12_cellsOf_189 : decode cX12_cellsOf 189 = .ok (.ifCond .eq 7, 3) := by decide +kernel
theorem dX12_cellsOf_192 : decode cX12_cellsOf 192 = .ok (.iconst 1, 1) := by decide +kernel
theorem dX12_cellsOf_193 : decode cX12_cellsOf 193 = .ok (.goto 4, 3) := by decide +kernel
theorem dX12_cellsOf_196 : decode cX12_cellsOf 196 = .ok (.iconst 0, 1) := by decide +kernel
theorem dX12_cellsOf_197 : decode cX12_cellsOf 197 = .ok (.iadd, 1) := by decide +kernel
theorem dX12_cellsOf_198 : decode cX12_cellsOf 198 = .ok (.istore_n 2, 1) := by decide +kernel
theorem dX12_cellsOf_199 : decode cX12_cellsOf 199 = .ok (.iinc 4 1, 3) := by decide +kernel
theorem dX12_cellsOf_202 : decode cX12_cellsOf 202 = .ok (.goto (-187), 3) := by decide +kernel
theorem dX12_cellsOf_205 : decode cX12_cellsOf 205 = .ok (.iinc 3 1, 3) := by decide +kernel
theorem dX12_cellsOf_208 : decode cX12_cellsOf 208 = .ok (.goto (-204), 3) := by decide +kernel
theorem dX12_cellsOf_211 : decode cX12_cellsOf 211 = .ok (.iload_n 2, 1) := by decide +kernel
theorem dX12_cellsOf_212 : decode cX12_cellsOf 212 = .ok (.ireturn, 1) := by decide +kernel
