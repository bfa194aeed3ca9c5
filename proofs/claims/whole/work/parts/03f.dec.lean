theorem dX12_many_0 : decode cX12_many 0 = .ok (.aload_n 0, 1) := by decide +kernel
theorem dX12_many_1 : decode cX12_many 1 = .ok (.iconst 0, 1) := by decide +kernel
theorem dX12_many_2 : decode cX12_many 2 = .ok (.putfield 96, 3) := by decide +kernel
theorem dX12_many_5 : decode cX12_many 5 = .ok (.iload_n 1, 1) := by decide +kernel
theorem dX12_many_6 : decode cX12_many 6 = .ok (.i2l, 1) := by decide +kernel
theorem dX12_many_7 : decode cX12_many 7 = .ok (.lconst 0, 1) := by decide +kernel
theorem dX12_many_8 : decode cX12_many 8 = .ok (.ldc2_w 159, 3) := by decide +kernel
theorem dX12_many_11 : decode cX12_many 11 = .ok (.invokestatic 102, 3) := by decide +kernel
theorem dX12_many_14 : decode cX12_many 14 = .ok (.ifCond .ne 5, 3) := by decide +kernel
theorem dX12_many_17 : decode cX12_many 17 = .ok (.iconst (-1), 1) := by decide +kernel
theorem dX12_many_18 : decode cX12_many 18 = .ok (.ireturn, 1) := by decide +kernel
theorem dX12_many_19 : decode cX12_many 19 = .ok (.aload_n 0, 1) := by decide +kernel
theorem dX12_many_20 : decode cX12_many 20 = .ok (.invokevirtual 145, 3) := by decide +kernel
theorem dX12_many_23 : decode cX12_many 23 = .ok (.aload_n 0, 1) := by decide +kernel
theorem dX12_many_24 : decode cX12_many 24 = .ok (.iload_n 1, 1) := by decide +kernel
theorem dX12_many_25 : decode cX12_many 25 = .ok (.invokevirtual 161, 3) := by decide +kernel
theorem dX12_many_28 : decode cX12_many 28 = .ok (.ireturn, 1) := by decide +kernel
theorem dX12_canGo_0 : decode cX12_canGo 0 = .ok (.iload_n 2, 1) := by decide +kernel
theorem dX12_canGo_1 : decode cX12_canGo 1 = .ok (.ifCond .ne 7, 3) := by decide +kernel
theorem dX12_canGo_4 : decode cX12_canGo 4 = .ok (.iconst 1, 1) := by decide +kernel
theorem dX12_canGo_5 : decode cX12_canGo 5 = .ok (.goto 13, 3) := by decide +kernel
theorem dX12_canGo_8 : decode cX12_canGo 8 = .ok (.iload_n 2, 1) := by decide +kernel
theorem dX12_canGo_9 : decode cX12_canGo 9 = .ok (.iconst 2, 1) := by decide +kernel
theorem dX12_canGo_10 : decode cX12_canGo 10 = .ok (.if_icmp .ne 7, 3) := by decide +kernel
theorem dX12_canGo_13 : decode cX12_canGo 13 = .ok (.iconst (-1), 1) := by decide +kernel
theorem dX12_canGo_14 : decode cX12_canGo 14 = .ok (.goto 4, 3) := by decide +kernel
theorem dX12_canGo_17 : decode cX12_canGo 17 = .ok (.iconst 0, 1) := by decide +kernel
theorem dX12_canGo_18 : decode cX12_canGo 18 = .ok (.istore_n 3, 1) := by decide +kernel
theorem dX12_canGo_19 : decode cX12_canGo 19 = .ok (.iload_n 2, 1) := by decide +kernel
theorem dX12_canGo_20 : decode cX12_canGo 20 = .ok (.iconst 1, 1) := by decide +kernel
theorem dX12_canGo_21 : decode cX12_canGo 21 = .ok (.if_icmp .ne 7, 3) := by decide +kernel
theorem dX12_canGo_24 : decode cX12_canGo 24 = .ok (.iconst 1, 1) := by decide +kernel
theorem dX12_canGo_25 : decode cX12_canGo 25 = .ok (.goto 13, 3) := by decide +kernel
theorem dX12_canGo_28 : decode cX12_canGo 28 = .ok (.iload_n 2, 1) := by decide +kernel
theorem dX12_canGo_29 : decode cX12_canGo 29 = .ok (.iconst 3, 1) := by decide +kernel
theorem dX12_canGo_30 : decode cX12_canGo 30 = .ok (.if_icmp .ne 7, 3) := by decide +kernel
theorem dX12_canGo_33 : decode cX12_canGo 33 = .ok (.iconst (-1), 1) := by decide +kernel
theorem dX12_canGo_34 : decode cX12_canGo 34 = .ok (.goto 4, 3) := by decide +kernel
theorem dX12_canGo_37 : decode cX12_canGo 37 = .ok (.iconst 0, 1) := by decide +kernel
theorem dX12_canGo_38 : decode cX12_canGo 38 = .ok (.istore 4, 2) := by decide +kernel
theorem dX12_canGo_40 : decode cX12_canGo 40 = .ok (.iconst 1, 1) := by decide +kernel
theorem dX12_canGo_41 : decode cX12_canGo 41 = .ok (.istore 5, 2) := by decide +kernel
theorem dX12_canGo_43 : decode cX12_canGo 43 = .ok (.iconst 0, 1) := by decide +kernel
theorem dX12_canGo_44 : decode cX12_canGo 44 = .ok (.istore 6, 2) := by decide +kernel
theorem dX12_canGo_46 : decode cX12_canGo 46 = .ok (.iload 6, 2) := by decide +kernel
theorem dX12_canGo_48 : decode cX12_canGo 48 = .ok (.aload_n 0, 1) := by decide +kernel
theorem dX12_canGo_49 : decode cX12_canGo 49 = .ok (.getfield 13, 3) := by decide +kernel
theorem dX12_canGo_52 : decode cX12_canGo 52 = .ok (.if_icmp .ge 158, 3) := by decide +kernel
theorem dX12_canGo_55 : decode cX12_canGo 55 = .ok (.iconst 0, 1) := by decide +kernel
theorem dX12_canGo_56 : decode cX12_canGo 56 = .ok (.istore 7, 2) := by decide +kernel
theorem dX12_canGo_58 : decode cX12_canGo 58 = .ok (.iload 7, 2) := by decide +kernel
theorem dX12_canGo_60 : decode cX12_canGo 60 = .ok (.aload_n 0, 1) := by decide +kernel
theorem dX12_canGo_61 : decode cX12_canGo 61 = .ok (.getfield 7, 3) := by decide +kernel
theorem dX12_canGo_64 : decode cX12_canGo 64 = .ok (.if_icmp .ge 140, 3) := by decide +kernel
theorem dX12_canGo_67 : decode cX12_canGo 67 = .ok (.aload_n 0, 1) := by decide +kernel
theorem dX12_canGo_68 : decode cX12_canGo 68 = .ok (.getfield 16, 3) := by decide +kernel
theorem dX12_canGo_71 : decode cX12_canGo 71 = .ok (.bipush 12, 2) := by decide +kernel
theorem dX12_canGo_73 : decode cX12_canGo 73 = .ok (.iload 6, 2) := by decide +kernel
theorem dX12_canGo_75 : decode cX12_canGo 75 = .ok (.imul, 1) := by decide +kernel
theorem dX12_canGo_76 : decode cX12_canGo 76 = .ok (.iload 7, 2) := by decide +kernel
theorem dX12_canGo_78 : decode cX12_canGo 78 = .ok (.iadd, 1) := by decide +kernel
theorem dX12_canGo_79 : decode cX12_canGo 79 = .ok (.iaload, 1) := by decide +kernel
theorem dX12_canGo_80 : decode cX12_canGo 80 = .ok (.bipush 10, 2) := by decide +kernel
theorem dX12_canGo_82 : decode cX12_canGo 82 = .ok (.iload_n 1, 1) := by decide +kernel
theorem dX12_canGo_83 : decode cX12_canGo 83 = .ok (.iadd, 1) := by decide +kernel
theorem dX12_canGo_84 : decode cX12_canGo 84 = .ok (.if_icmp .eq 6, 3) := by decide +kernel
theorem dX12_canGo_87 : decode cX12_canGo 87 = .ok (.goto 111, 3) := by decide +kernel
theorem dX12_canGo_90 : decode cX12_canGo 90 = .ok (.iload 7, 2) := by decide +kernel
theorem dX12_canGo_92 : decode cX12_canGo 92 = .ok (.iload_n 3, 1) := by decide +kernel
theorem dX12_canGo_93 : decode cX12_canGo 93 = .ok (.iadd, 1) := by decide +kernel
theorem dX12_canGo_94 : decode cX12_canGo 94 = .ok (.istore 8, 2) := by decide +kernel
theorem dX12_canGo_96 : decode cX12_canGo 96 = .ok (.iload 6, 2) := by decide +kernel
theorem dX12_canGo_98 : decode cX12_canGo 98 = .ok (.iload 4, 2) := by decide +kernel
theorem dX12_canGo_100 : decode cX12_canGo 100 = .ok (.iadd, 1) := by decide +kernel
theorem dX12_canGo_101 : decode cX12_canGo 101 = .ok (.istore 9, 2) := by decide +kernel
theorem dX12_canGo_103 : decode cX12_canGo 103 = .ok (.aload_n 0, 1) := by decide +kernel
theorem dX12_canGo_104 : decode cX12_canGo 104 = .ok (.iload 8, 2) := by decide +kernel
theorem dX12_canGo_106 : decode cX12_canGo 106 = .ok (.iload 9, 2) := by decide +kernel
theorem dX12_canGo_108 : decode cX12_canGo 108 = .ok (.invokevirtual 126, 3) := by decide +kernel
theorem dX12_canGo_111 : decode cX12_canGo 111 = .ok (.ifCond .eq 87, 3) := by decide +kernel
theorem dX12_canGo_114 : decode cX12_canGo 114 = .ok (.iload 5, 2) := by decide +kernel
theorem dX12_canGo_116 : decode cX12_canGo 116 = .ok (.ifCond .eq 82, 3) := by decide +kernel
theorem dX12_canGo_119 : decode cX12_canGo 119 = .ok (.aload_n 0, 1) := by decide +kernel
theorem dX12_canGo_120 : decode cX12_canGo 120 = .ok (.getfield 16, 3) := by decide +kernel
theorem dX12_canGo_123 : decode cX12_canGo 123 = .ok (.bipush 12, 2) := by decide +kernel
theorem dX12_canGo_125 : decode cX12_canGo 125 = .ok (.iload 9, 2) := by decide +kernel
theorem dX12_canGo_127 : decode cX12_canGo 127 = .ok (.imul, 1) := by decide +kernel
theorem dX12_canGo_128 : decode cX12_canGo 128 = .ok (.iload 8, 2) := by decide +kernel
theorem dX12_canGo_130 : decode cX12_canGo 130 = .ok (.iadd, 1) := by decide +kernel
theorem dX12_canGo_131 : decode cX12_canGo 131 = .ok (.iaload, 1) := by decide +kernel
theorem dX12_canGo_132 : decode cX12_canGo 132 = .ok (.istore 10, 2) := by decide +kernel
theorem dX12_canGo_134 : decode cX12_canGo 134 = .ok (.iload 10, 2) := by decide +kernel
theorem dX12_canGo_136 : decode cX12_canGo 136 = .ok (.bipush 10, 2) := by decide +kernel
theorem dX12_canGo_138 : decode cX12_canGo 138 = .ok (.iload_n 1, 1) := by decide +kernel
theorem dX12_canGo_139 : decode cX12_canGo 139 = .ok (.iadd, 1) := by decide +kernel
theorem dX12_canGo_140 : decode cX12_canGo 140 = .ok (.if_icmp .eq 35, 3) := by decide +kernel
theorem dX12_canGo_143 : decode cX12_canGo 143 = .ok (.iload 10, 2) := by decide +kernel
theorem dX12_canGo_145 : decode cX12_canGo 145 = .ok (.iconst 3, 1) := by decide +kernel
theorem dX12_canGo_146 : decode cX12_canGo 146 = .ok (.if_icmp .eq 29, 3) := by decide +kernel
theorem dX12_canGo_149 : decode cX12_canGo 149 = .ok (.iload 10, 2) := by decide +kernel
theorem dX12_canGo_151 : decode cX12_canGo 151 = .ok (.iconst 4, 1) := by decide +kernel
theorem dX12_canGo_152 : decode cX12_canGo 152 = .ok (.if_icmp .eq 23, 3) := by decide +kernel
theorem dX12_canGo_155 : decode cX12_canGo 155 = .ok (.iload 10, 2) := by decide +kernel
theorem dX12_canGo_157 : decode cX12_canGo 157 = .ok (.bipush 10, 2) := by decide +kernel
theorem dX12_canGo_159 : decode cX12_canGo 159 = .ok (.if_icmp .lt 20, 3) := by decide +kernel
theorem dX12_canGo_162 : decode cX12_canGo 162 = .ok (.aload_n 0, 1) := by decide +kernel
theorem dX12_canGo_163 : decode cX12_canGo 163 = .ok (.getfield 33, 3) := by decide +kernel
theorem dX12_canGo_166 : decode cX12_canGo 166 = .ok (.iload 10, 2) := by decide +kernel
theorem dX12_canGo_168 : decode cX12_canGo 168 = .ok (.bipush 10, 2) := by decide +kernel
theorem dX12_canGo_170 : decode cX12_canGo 170 = .ok (.isub, 1) := by decide +kernel
theorem dX12_canGo_171 : decode cX12_canGo 171 = .ok (.baload, 1) := by decide +kernel
theorem dX12_canGo_172 : decode cX12_canGo 172 = .ok (.ifCond .eq 7, 3) := by decide +kernel
theorem dX12_canGo_175 : decode cX12_canGo 175 = .ok (.iconst 1, 1) := by decide +kernel
theorem dX12_canGo_176 : decode cX12_canGo 176 = .ok (.goto 4, 3) := by decide +kernel
theorem dX12_canGo_179 : decode cX12_canGo 179 = .ok (.iconst 0, 1) := by decide +kernel
theorem dX12_canGo_180 : decode cX12_canGo 180 = .ok (.istore 5, 2) := by decide +kernel
theorem dX12_canGo_182 : decode cX12_canGo 182 = .ok (.iload 8, 2) := by decide +kernel
theorem dX12_canGo_184 : decode cX12_canGo 184 = .ok (.iload_n 3, 1) := by decide +kernel
theorem dX12_canGo_185 : decode cX12_canGo 185 = .ok (.iadd, 1) := by decide +kernel
theorem dX12_canGo_186 : decode cX12_canGo 186 = .ok (.istore 8, 2) := by decide +kernel
theorem dX12_canGo_188 : decode cX12_canGo 188 = .ok (.iload 9, 2) := by decide +kernel
theorem dX12_canGo_190 : decode cX12_canGo 190 = .ok (.iload 4, 2) := by decide +kernel
theorem dX12_canGo_192 : decode cX12_canGo 192 = .ok (.iadd, 1) := by decide +kernel
theorem dX12_canGo_193 : decode cX12_canGo 193 = .ok (.istore 9, 2) := by decide +kernel
theorem dX12_canGo_195 : decode cX12_canGo 195 = .ok (.goto (-92), 3) := by decide +kernel
theorem dX12_canGo_198 : decode cX12_canGo 198 = .ok (.iinc 7 1, 3) := by decide +kernel
theorem dX12_canGo_201 : decode cX12_canGo 201 = .ok (.goto (-143), 3) := by decide +kernel
theorem dX12_canGo_204 : decode cX12_canGo 204 = .ok (.iinc 6 1, 3) := by decide +kernel
theorem dX12_canGo_207 : decode cX12_canGo 207 = .ok (.goto (-161), 3) := by decide +kernel
theorem dX12_canGo_210 : decode cX12_canGo 210 = .ok (.iload 5, 2) := by decide +kernel
theorem dX12_canGo_212 : decode cX12_canGo 212 = .ok (.ireturn, 1) := by decide +kernel
theorem dX12_drawOff_0 : decode cX12_drawOff 0 = .ok (.aload_n 0, 1) := by decide +kernel
theorem dX12_drawOff_1 : decode cX12_drawOff 1 = .ok (.iconst 0, 1) := by decide +kernel
theorem dX12_drawOff_2 : decode cX12_drawOff 2 = .ok (.putfield 164, 3) := by decide +kernel
theorem dX12_drawOff_5 : decode cX12_drawOff 5 = .ok (.aload_n 0, 1) := by decide +kernel
theorem dX12_drawOff_6 : decode cX12_drawOff 6 = .ok (.iconst 0, 1) := by decide +kernel
theorem dX12_drawOff_7 : decode cX12_drawOff 7 = .ok (.putfield 167, 3) := by decide +kernel
theorem dX12_drawOff_10 : decode cX12_drawOff 10 = .ok (.iconst 0, 1) := by decide +kernel
theorem dX12_drawOff_11 : decode cX12_drawOff 11 = .ok (.istore_n 1, 1) := by decide +kernel
theorem dX12_drawOff_12 : decode cX12_drawOff 12 = .ok (.iload_n 1, 1) := by decide +kernel
theorem dX12_drawOff_13 : decode cX12_drawOff 13 = .ok (.bipush 8, 2) := by decide +kernel
theorem dX12_drawOff_15 : decode cX12_drawOff 15 = .ok (.if_icmp .ge 23, 3) := by decide +kernel
theorem dX12_drawOff_18 : decode cX12_drawOff 18 = .ok (.aload_n 0, 1) := by decide +kernel
theorem dX12_drawOff_19 : decode cX12_drawOff 19 = .ok (.getfield 30, 3) := by decide +kernel
theorem dX12_drawOff_22 : decode cX12_drawOff 22 = .ok (.iload_n 1, 1) := by decide +kernel
theorem dX12_drawOff_23 : decode cX12_drawOff 23 = .ok (.iconst 0, 1) := by decide +kernel
theorem dX12_drawOff_24 : decode cX12_drawOff 24 = .ok (.bastore, 1) := by decide +kernel
theorem dX12_drawOff_25 : decode cX12_drawOff 25 = .ok (.aload_n 0, 1) := by decide +kernel
theorem dX12_drawOff_26 : decode cX12_drawOff 26 = .ok (.getfield 33, 3) := by decide +kernel
theorem dX12_drawOff_29 : decode cX12_drawOff 29 = .ok (.iload_n 1, 1) := by decide +kernel
theorem dX12_drawOff_30 : decode cX12_drawOff 30 = .ok (.iconst 0, 1) := by decide +kernel
theorem dX12_drawOff_31 : decode cX12_drawOff 31 = .ok (.bastore, 1) := by decide +kernel
theorem dX12_drawOff_32 : decode cX12_drawOff 32 = .ok (.iinc 1 1, 3) := by decide +kernel
theorem dX12_drawOff_35 : decode cX12_drawOff 35 = .ok (.goto (-23), 3) := by decide +kernel
theorem dX12_drawOff_38 : decode cX12_drawOff 38 = .ok (.iconst 0, 1) := by decide +kernel
theorem dX12_drawOff_39 : decode cX12_drawOff 39 = .ok (.istore_n 1, 1) := by decide +kernel
theorem dX12_drawOff_40 : decode cX12_drawOff 40 = .ok (.iload_n 1, 1) := by decide +kernel
theorem dX12_drawOff_41 : decode cX12_drawOff 41 = .ok (.aload_n 0, 1) := by decide +kernel
theorem dX12_drawOff_42 : decode cX12_drawOff 42 = .ok (.getfield 13, 3) := by decide +kernel
theorem dX12_drawOff_45 : decode cX12_drawOff 45 = .ok (.if_icmp .ge 75, 3) := by decide +kernel
theorem dX12_drawOff_48 : decode cX12_drawOff 48 = .ok (.iconst 0, 1) := by decide +kernel
theorem dX12_drawOff_49 : decode cX12_drawOff 49 = .ok (.istore_n 2, 1) := by decide +kernel
theorem dX12_drawOff_50 : decode cX12_drawOff 50 = .ok (.iload_n 2, 1) := by decide +kernel
theorem dX12_drawOff_51 : decode cX12_drawOff 51 = .ok (.aload_n 0, 1) := by decide +kernel
theorem dX12_drawOff_52 : decode cX12_drawOff 52 = .ok (.getfield 7, 3) := by decide +kernel
theorem dX12_drawOff_55 : decode cX12_drawOff 55 = .ok (.if_icmp .ge 59, 3) := by decide +kernel
theorem dX12_drawOff_58 : decode cX12_drawOff 58 = .ok (.aload_n 0, 1) := by decide +kernel
theorem dX12_drawOff_59 : decode cX12_drawOff 59 = .ok (.getfield 16, 3) := by decide +kernel
theorem dX12_drawOff_62 : decode cX12_drawOff 62 = .ok (.bipush 12, 2) := by decide +kernel
theorem dX12_drawOff_64 : decode cX12_drawOff 64 = .ok (.iload_n 1, 1) := by decide +kernel
theorem dX12_drawOff_65 : decode cX12_drawOff 65 = .ok (.imul, 1) := by decide +kernel
theorem dX12_drawOff_66 : decode cX12_drawOff 66 = .ok (.iload_n 2, 1) := by decide +kernel
theorem dX12_drawOff_67 : decode cX12_drawOff 67 = .ok (.iadd, 1) := by decide +kernel
theorem dX12_drawOff_68 : decode cX12_drawOff 68 = .ok (.iaload, 1) := by decide +kernel
theorem dX12_drawOff_69 : decode cX12_drawOff 69 = .ok (.istore_n 3, 1) := by decide +kernel
theorem dX12_drawOff_70 : decode cX12_drawOff 70 = .ok (.iload_n 3, 1) := by decide +kernel
theorem dX12_drawOff_71 : decode cX12_drawOff 71 = .ok (.bipush 10, 2) := by decide +kernel
theorem dX12_drawOff_73 : decode cX12_drawOff 73 = .ok (.if_icmp .lt 35, 3) := by decide +kernel
theorem dX12_drawOff_76 : decode cX12_drawOff 76 = .ok (.aload_n 0, 1) := by decide +kernel
theorem dX12_drawOff_77 : decode cX12_drawOff 77 = .ok (.getfield 30, 3) := by decide +kernel
theorem dX12_drawOff_80 : decode cX12_drawOff 80 = .ok (.iload_n 3, 1) := by decide +kernel
theorem dX12_drawOff_81 : decode cX12_drawOff 81 = .ok (.bipush 10, 2) := by decide +kernel
theorem dX12_drawOff_83 : decode cX12_drawOff 83 = .ok (.isub, 1) := by decide +kernel
theorem dX12_drawOff_84 : decode cX12_drawOff 84 = .ok (.baload, 1) := by decide +kernel
theorem dX12_drawOff_85 : decode cX12_drawOff 85 = .ok (.ifCond .ne 23, 3) := by decide +kernel
theorem dX12_drawOff_88 : decode cX12_drawOff 88 = .ok (.aload_n 0, 1) := by decide +kernel
theorem dX12_drawOff_89 : decode cX12_drawOff 89 = .ok (.getfield 30, 3) := by decide +kernel
theorem dX12_drawOff_92 : decode cX12_drawOff 92 = .ok (.iload_n 3, 1) := by decide +kernel
theorem dX12_drawOff_93 : decode cX12_drawOff 93 = .ok (.bipush 10, 2) := by decide +kernel
theorem dX12_drawOff_95 : decode cX12_drawOff 95 = .ok (.isub, 1) := by decide +kernel
theorem dX12_drawOff_96 : decode cX12_drawOff 96 = .ok (.iconst 1, 1) := by decide +kernel
theorem dX12_drawOff_97 : decode cX12_drawOff 97 = .ok (.bastore, 1) := by decide +kernel
theorem dX12_drawOff_98 : decode cX12_drawOff 98 = .ok (.aload_n 0, 1) := by decide +kernel
theorem dX12_drawOff_99 : decode cX12_drawOff 99 = .ok (.dup, 1) := by decide +kernel
theorem dX12_drawOff_100 : decode cX12_drawOff 100 = .ok (.getfield 164, 3) := by decide +kernel
theorem dX12_drawOff_103 : decode cX12_drawOff 103 = .ok (.iconst 1, 1) := by decide +kernel
theorem dX12_drawOff_104 : decode cX12_drawOff 104 = .ok (.iadd, 1) := by decide +kernel
theorem dX12_drawOff_105 : decode cX12_drawOff 105 = .ok (.putfield 164, 3) := by decide +kernel
theorem dX12_drawOff_108 : decode cX12_drawOff 108 = .ok (.iinc 2 1, 3) := by decide +kernel
theorem dX12_drawOff_111 : decode cX12_drawOff 111 = .ok (.goto (-61), 3) := by decide +kernel
theorem dX12_drawOff_114 : decode cX12_drawOff 114 = .ok (.iinc 1 1, 3) := by decide +kernel
theorem dX12_drawOff_117 : decode cX12_drawOff 117 = .ok (.goto (-77), 3) := by decide +kernel
theorem dX12_drawOff_120 : decode cX12_drawOff 120 = .ok (.iconst 1, 1) := by decide +kernel
theorem dX12_drawOff_121 : decode cX12_drawOff 121 = .ok (.istore_n 1, 1) := by decide +kernel
theorem dX12_drawOff_122 : decode cX12_drawOff 122 = .ok (.iload_n 1, 1) := by decide +kernel
theorem dX12_drawOff_123 : decode cX12_drawOff 123 = .ok (.ifCond .eq 109, 3) := by decide +kernel
theorem dX12_drawOff_126 : decode cX12_drawOff 126 = .ok (.iconst 0, 1) := by decide +kernel
theorem dX12_drawOff_127 : decode cX12_drawOff 127 = .ok (.istore_n 1, 1) := by decide +kernel
theorem dX12_drawOff_128 : decode cX12_drawOff 128 = .ok (.iconst 0, 1) := by decide +kernel
theorem dX12_drawOff_129 : decode cX12_drawOff 129 = .ok (.istore_n 2, 1) := by decide +kernel
theorem dX12_drawOff_130 : decode cX12_drawOff 130 = .ok (.iload_n 2, 1) := by decide +kernel
theorem dX12_drawOff_131 : decode cX12_drawOff 131 = .ok (.bipush 8, 2) := by decide +kernel
theorem dX12_drawOff_133 : decode cX12_drawOff 133 = .ok (.if_icmp .ge 96, 3) := by decide +kernel
theorem dX12_drawOff_136 : decode cX12_drawOff 136 = .ok (.iload_n 1, 1) := by decide +kernel
theorem dX12_drawOff_137 : decode cX12_drawOff 137 = .ok (.ifCond .ne 92, 3) := by decide +kernel
theorem dX12_drawOff_140 : decode cX12_drawOff 140 = .ok (.iconst 0, 1) := by decide +kernel
theorem dX12_drawOff_141 : decode cX12_drawOff 141 = .ok (.istore_n 3, 1) := by decide +kernel
theorem dX12_drawOff_142 : decode cX12_drawOff 142 = .ok (.iload_n 3, 1) := by decide +kernel
theorem dX12_drawOff_143 : decode cX12_drawOff 143 = .ok (.iconst 4, 1) := by decide +kernel
theorem dX12_drawOff_144 : decode cX12_drawOff 144 = .ok (.if_icmp .ge 79, 3) := by decide +kernel
theorem dX12_drawOff_147 : decode cX12_drawOff 147 = .ok (.iload_n 1, 1) := by decide +kernel
theorem dX12_drawOff_148 : decode cX12_drawOff 148 = .ok (.ifCond .ne 75, 3) := by decide +kernel
theorem dX12_drawOff_151 : decode cX12_drawOff 151 = .ok (.aload_n 0, 1) := by decide +kernel
theorem dX12_drawOff_152 : decode cX12_drawOff 152 = .ok (.getfield 30, 3) := by decide +kernel
theorem dX12_drawOff_155 : decode cX12_drawOff 155 = .ok (.iload_n 2, 1) := by decide +kernel
theorem dX12_drawOff_156 : decode cX12_drawOff 156 = .ok (.baload, 1) := by decide +kernel
theorem dX12_drawOff_157 : decode cX12_drawOff 157 = .ok (.ifCond .eq 60, 3) := by decide +kernel
theorem dX12_drawOff_160 : decode cX12_drawOff 160 = .ok (.aload_n 0, 1) := by decide +kernel
theorem dX12_drawOff_161 : decode cX12_drawOff 161 = .ok (.getfield 33, 3) := by decide +kernel
theorem dX12_drawOff_164 : decode cX12_drawOff 164 = .ok (.iload_n 2, 1) := by decide +kernel
theorem dX12_drawOff_165 : decode cX12_drawOff 165 = .ok (.baload, 1) := by decide +kernel
theorem dX12_drawOff_166 : decode cX12_drawOff 166 = .ok (.ifCond .ne 51, 3) := by decide +kernel
theorem dX12_drawOff_169 : decode cX12_drawOff 169 = .ok (.aload_n 0, 1) := by decide +kernel
theorem dX12_drawOff_170 : decode cX12_drawOff 170 = .ok (.iload_n 2, 1) := by decide +kernel
theorem dX12_drawOff_171 : decode cX12_drawOff 171 = .ok (.iload_n 3, 1) := by decide +kernel
theorem dX12_drawOff_172 : decode cX12_drawOff 172 = .ok (.invokevirtual 170, 3) := by decide +kernel
theorem dX12_drawOff_175 : decode cX12_drawOff 175 = .ok (.ifCond .eq 42, 3) := by decide +kernel
theorem dX12_drawOff_178 : decode cX12_drawOff 178 = .ok (.aload_n 0, 1) := by decide +kernel
theorem dX12_drawOff_179 : decode cX12_drawOff 179 = .ok (.getfield 33, 3) := by decide +kernel
theorem dX12_drawOff_182 : decode cX12_drawOff 182 = .ok (.iload_n 2, 1) := by decide +kernel
theorem dX12_drawOff_183 : decode cX12_drawOff 183 = .ok (.iconst 1, 1) := by decide +kernel
theorem dX12_drawOff_184 : decode cX12_drawOff 184 = .ok (.bastore, 1) := by decide +kernel
theorem dX12_drawOff_185 : decode cX12_drawOff 185 = .ok (.aload_n 0, 1) := by decide +kernel
theorem dX12_drawOff_186 : decode cX12_drawOff 186 = .ok (.getfield 36, 3) := by decide +kernel
theorem dX12_drawOff_189 : decode cX12_drawOff 189 = .ok (.aload_n 0, 1) := by decide +kernel
theorem dX12_drawOff_190 : decode cX12_drawOff 190 = .ok (.getfield 167, 3) := by decide +kernel
theorem dX12_drawOff_193 : decode cX12_drawOff 193 = .ok (.iload_n 2, 1) := by decide +kernel
theorem dX12_drawOff_194 : decode cX12_drawOff 194 = .ok (.iastore, 1) := by decide +kernel
theorem dX12_drawOff_195 : decode cX12_drawOff 195 = .ok (.aload_n 0, 1) := by decide +kernel
theorem dX12_drawOff_196 : decode cX12_drawOff 196 = .ok (.getfield 39, 3) := by decide +kernel
theorem dX12_drawOff_199 : decode cX12_drawOff 199 = .ok (.aload_n 0, 1) := by decide +kernel
theorem dX12_drawOff_200 : decode cX12_drawOff 200 = .ok (.getfield 167, 3) := by decide +kernel
theorem dX12_drawOff_203 : decode cX12_drawOff 203 = .ok (.iload_n 3, 1) := by decide +kernel
theorem dX12_drawOff_204 : decode cX12_drawOff 204 = .ok (.iastore, 1) := by decide +kernel
theorem dX12_drawOff_205 : decode cX12_drawOff 205 = .ok (.aload_n 0, 1) := by decide +kernel
theorem dX12_drawOff_206 : decode cX12_drawOff 206 = .ok (.dup, 1) := by decide +kernel
theorem dX12_drawOff_207 : decode cX12_drawOff 207 = .ok (.getfield 167, 3) := by decide +kernel
theorem dX12_drawOff_210 : decode cX12_drawOff 210 = .ok (.iconst 1, 1) := by decide +kernel
theorem dX12_drawOff_211 : decode cX12_drawOff 211 = .ok (.iadd, 1) := by decide +kernel
theorem dX12_drawOff_212 : decode cX12_drawOff 212 = .ok (.putfield 167, 3) := by decide +kernel
theorem dX12_drawOff_215 : decode cX12_drawOff 215 = .ok (.iconst 1, 1) := by decide +kernel
theorem dX12_drawOff_216 : decode cX12_drawOff 216 = .ok (.istore_n 1, 1) := by decide +kernel
theorem dX12_drawOff_217 : decode cX12_drawOff 217 = .ok (.iinc 3 1, 3) := by decide +kernel
theorem dX12_drawOff_220 : decode cX12_drawOff 220 = .ok (.goto (-78), 3) := by decide +kernel
theorem dX12_drawOff_223 : decode cX12_drawOff 223 = .ok (.iinc 2 1, 3) := by decide +kernel
theorem dX12_drawOff_226 : decode cX12_drawOff 226 = .ok (.goto (-96), 3) := by decide +kernel
theorem dX12_drawOff_229 : decode cX12_drawOff 229 = .ok (.goto (-107), 3) := by decide +kernel
theorem dX12_drawOff_232 : decode cX12_drawOff 232 = .ok (.return_, 1) := by decide +kernel
theorem dX12_off_0 : decode cX12_off 0 = .ok (.aload_n 0, 1) := by decide +kernel
theorem dX12_off_1 : decode cX12_off 1 = .ok (.iconst 0, 1) := by decide +kernel
theorem dX12_off_2 : decode cX12_off 2 = .ok (.putfield 96, 3) := by decide +kernel
theorem dX12_off_5 : decode cX12_off 5 = .ok (.aload_n 0, 1) := by decide +kernel
theorem dX12_off_6 : decode cX12_off 6 = .ok (.invokevirtual 173, 3) := by decide +kernel
theorem dX12_off_9 : decode cX12_off 9 = .ok (.iload_n 1, 1) := by decide +kernel
theorem dX12_off_10 : decode cX12_off 10 = .ok (.iconst (-1), 1) := by decide +kernel
theorem dX12_off_11 : decode cX12_off 11 = .ok (.if_icmp .ne 45, 3) := by decide +kernel
theorem dX12_off_14 : decode cX12_off 14 = .ok (.iload_n 2, 1) := by decide +kernel
theorem dX12_off_15 : decode cX12_off 15 = .ok (.ifCond .ne 10, 3) := by decide +kernel
theorem dX12_off_18 : decode cX12_off 18 = .ok (.aload_n 0, 1) := by decide +kernel
theorem dX12_off_19 : decode cX12_off 19 = .ok (.getfield 167, 3) := by decide +kernel
theorem dX12_off_22 : decode cX12_off 22 = .ok (.goto 33, 3) := by decide +kernel
theorem dX12_off_25 : decode cX12_off 25 = .ok (.iload_n 2, 1) := by decide +kernel
theorem dX12_off_26 : decode cX12_off 26 = .ok (.iconst 1, 1) := by decide +kernel
theorem dX12_off_27 : decode cX12_off 27 = .ok (.if_icmp .ne 15, 3) := by decide +kernel
theorem dX12_off_30 : decode cX12_off 30 = .ok (.aload_n 0, 1) := by decide +kernel
theorem dX12_off_31 : decode cX12_off 31 = .ok (.getfield 164, 3) := by decide +kernel
theorem dX12_off_34 : decode cX12_off 34 = .ok (.aload_n 0, 1) := by decide +kernel
theorem dX12_off_35 : decode cX12_off 35 = .ok (.getfield 167, 3) := by decide +kernel
theorem dX12_off_38 : decode cX12_off 38 = .ok (.isub, 1) := by decide +kernel
theorem dX12_off_39 : decode cX12_off 39 = .ok (.goto 16, 3) := by decide +kernel
theorem dX12_off_42 : decode cX12_off 42 = .ok (.iload_n 2, 1) := by decide +kernel
theorem dX12_off_43 : decode cX12_off 43 = .ok (.iconst 2, 1) := by decide +kernel
theorem dX12_off_44 : decode cX12_off 44 = .ok (.if_icmp .ne 10, 3) := by decide +kernel
theorem dX12_off_47 : decode cX12_off 47 = .ok (.aload_n 0, 1) := by decide +kernel
theorem dX12_off_48 : decode cX12_off 48 = .ok (.getfield 164, 3) := by decide +kernel
theorem dX12_off_51 : decode cX12_off 51 = .ok (.goto 4, 3) := by decide +kernel
theorem dX12_off_54 : decode cX12_off 54 = .ok (.iconst (-1), 1) := by decide +kernel
theorem dX12_off_55 : decode cX12_off 55 = .ok (.ireturn, 1) := by decide +kernel
theorem dX12_off_56 : decode cX12_off 56 = .ok (.iload_n 1, 1) := by decide +kernel
theorem dX12_off_57 : decode cX12_off 57 = .ok (.i2l, 1) := by decide +kernel
theorem dX12_off_58 : decode cX12_off 58 = .ok (.lconst 0, 1) := by decide +kernel
theorem dX12_off_59 : decode cX12_off 59 = .ok (.aload_n 0, 1) := by decide +kernel
theorem dX12_off_60 : decode cX12_off 60 = .ok (.getfield 167, 3) := by decide +kernel
theorem dX12_off_63 : decode cX12_off 63 = .ok (.i2l, 1) := by decide +kernel
theorem dX12_off_64 : decode cX12_off 64 = .ok (.lconst 1, 1) := by decide +kernel
theorem dX12_off_65 : decode cX12_off 65 = .ok (.lsub, 1) := by decide +kernel
theorem dX12_off_66 : decode cX12_off 66 = .ok (.invokestatic 102, 3) := by decide +kernel
theorem dX12_off_69 : decode cX12_off 69 = .ok (.ifCond .ne 7, 3) := by decide +kernel
theorem dX12_off_72 : decode cX12_off 72 = .ok (.iconst (-1), 1) := by decide +kernel
theorem dX12_off_73 : decode cX12_off 73 = .ok (.goto 31, 3) := by decide +kernel
theorem dX12_off_76 : decode cX12_off 76 = .ok (.iload_n 2, 1) := by decide +kernel
theorem dX12_off_77 : decode cX12_off 77 = .ok (.ifCond .ne 12, 3) := by decide +kernel
theorem dX12_off_80 : decode cX12_off 80 = .ok (.aload_n 0, 1) := by decide +kernel
theorem dX12_off_81 : decode cX12_off 81 = .ok (.getfield 36, 3) := by decide +kernel
theorem dX12_off_84 : decode cX12_off 84 = .ok (.iload_n 1, 1) := by decide +kernel
theorem dX12_off_85 : decode cX12_off 85 = .ok (.iaload, 1) := by decide +kernel
theorem dX12_off_86 : decode cX12_off 86 = .ok (.goto 18, 3) := by decide +kernel
theorem dX12_off_89 : decode cX12_off 89 = .ok (.iload_n 2, 1) := by decide +kernel
theorem dX12_off_90 : decode cX12_off 90 = .ok (.iconst 1, 1) := by decide +kernel
theorem dX12_off_91 : decode cX12_off 91 = .ok (.if_icmp .ne 12, 3) := by decide +kernel
theorem dX12_off_94 : decode cX12_off 94 = .ok (.aload_n 0, 1) := by decide +kernel
theorem dX12_off_95 : decode cX12_off 95 = .ok (.getfield 39, 3) := by decide +kernel
theorem dX12_off_98 : decode cX12_off 98 = .ok (.iload_n 1, 1) := by decide +kernel
theorem dX12_off_99 : decode cX12_off 99 = .ok (.iaload, 1) := by decide +kernel
theorem dX12_off_100 : decode cX12_off 100 = .ok (.goto 4, 3) := by decide +kernel
theorem dX12_off_103 : decode cX12_off 103 = .ok (.iconst (-1), 1) := by decide +kernel
theorem dX12_off_104 : decode cX12_off 104 = .ok (.ireturn, 1) := by decide +kernel
theorem dX12_lot_0 : decode cX12_lot 0 = .ok (.aload_n 0, 1) := by decide +kernel
theorem dX12_lot_1 : decode cX12_lot 1 = .ok (.iconst 0, 1) := by decide +kernel
theorem dX12_lot_2 : decode cX12_lot 2 = .ok (.putfield 96, 3) := by decide +kernel
theorem dX12_lot_5 : decode cX12_lot 5 = .ok (.iload_n 1, 1) := by decide +kernel
theorem dX12_lot_6 : decode cX12_lot 6 = .ok (.i2l, 1) := by decide +kernel
theorem dX12_lot_7 : decode cX12_lot 7 = .ok (.lconst 0, 1) := by decide +kernel
theorem dX12_lot_8 : decode cX12_lot 8 = .ok (.ldc2_w 176, 3) := by decide +kernel
theorem dX12_lot_11 : decode cX12_lot 11 = .ok (.invokestatic 102, 3) := by decide +kernel
theorem dX12_lot_14 : decode cX12_lot 14 = .ok (.ifCond .eq 43, 3) := by decide +kernel
theorem dX12_lot_17 : decode cX12_lot 17 = .ok (.iload_n 2, 1) := by decide +kernel
theorem dX12_lot_18 : decode cX12_lot 18 = .ok (.i2l, 1) := by decide +kernel
theorem dX12_lot_19 : decode cX12_lot 19 = .ok (.lconst 0, 1) := by decide +kernel
theorem dX12_lot_20 : decode cX12_lot 20 = .ok (.ldc2_w 176, 3) := by decide +kernel
theorem dX12_lot_23 : decode cX12_lot 23 = .ok (.iload_n 1, 1) := by decide +kernel
theorem dX12_lot_24 : decode cX12_lot 24 = .ok (.i2l, 1) := by decide +kernel
theorem dX12_lot_25 : decode cX12_lot 25 = .ok (.lsub, 1) := by decide +kernel
theorem dX12_lot_26 : decode cX12_lot 26 = .ok (.invokestatic 102, 3) := by decide +kernel
theorem dX12_lot_29 : decode cX12_lot 29 = .ok (.ifCond .eq 28, 3) := by decide +kernel
theorem dX12_lot_32 : decode cX12_lot 32 = .ok (.iload_n 3, 1) := by decide +kernel
theorem dX12_lot_33 : decode cX12_lot 33 = .ok (.i2l, 1) := by decide +kernel
theorem dX12_lot_34 : decode cX12_lot 34 = .ok (.lconst 0, 1) := by decide +kernel
theorem dX12_lot_35 : decode cX12_lot 35 = .ok (.ldc2_w 176, 3) := by decide +kernel
theorem dX12_lot_38 : decode cX12_lot 38 = .ok (.invokestatic 102, 3) := by decide +kernel
theorem dX12_lot_41 : decode cX12_lot 41 = .ok (.ifCond .eq 16, 3) := by decide +kernel
theorem dX12_lot_44 : decode cX12_lot 44 = .ok (.iload 4, 2) := by decide +kernel
theorem dX12_lot_46 : decode cX12_lot 46 = .ok (.i2l, 1) := by decide +kernel
theorem dX12_lot_47 : decode cX12_lot 47 = .ok (.lconst 0, 1) := by decide +kernel
theorem dX12_lot_48 : decode cX12_lot 48 = .ok (.ldc2_w 178, 3) := by decide +kernel
theorem dX12_lot_51 : decode cX12_lot 51 = .ok (.invokestatic 102, 3) := by decide +kernel
theorem dX12_lot_54 : decode cX12_lot 54 = .ok (.ifCond .ne 9, 3) := by decide +kernel
theorem dX12_lot_57 : decode cX12_lot 57 = .ok (.aload_n 0, 1) := by decide +kernel
theorem dX12_lot_58 : decode cX12_lot 58 = .ok (.iconst (-1), 1) := by decide +kernel
theorem dX12_lot_59 : decode cX12_lot 59 = .ok (.invokevirtual 113, 3) := by decide +kernel
theorem dX12_lot_62 : decode cX12_lot 62 = .ok (.ireturn, 1) := by decide +kernel
theorem dX12_lot_63 : decode cX12_lot 63 = .ok (.aload_n 0, 1) := by decide +kernel
theorem dX12_lot_64 : decode cX12_lot 64 = .ok (.getfield 180, 3) := by decide +kernel
theorem dX12_lot_67 : decode cX12_lot 67 = .ok (.bipush 6, 2) := by decide +kernel
theorem dX12_lot_69 : decode cX12_lot 69 = .ok (.if_icmp .ne 10, 3) := by decide +kernel
theorem dX12_lot_72 : decode cX12_lot 72 = .ok (.aload_n 0, 1) := by decide +kernel
theorem dX12_lot_73 : decode cX12_lot 73 = .ok (.bipush (-5), 2) := by decide +kernel
theorem dX12_lot_75 : decode cX12_lot 75 = .ok (.invokevirtual 113, 3) := by decide +kernel
theorem dX12_lot_78 : decode cX12_lot 78 = .ok (.ireturn, 1) := by decide +kernel
theorem dX12_lot_79 : decode cX12_lot 79 = .ok (.aload_n 0, 1) := by decide +kernel
theorem dX12_lot_80 : decode cX12_lot 80 = .ok (.getfield 42, 3) := by decide +kernel
theorem dX12_lot_83 : decode cX12_lot 83 = .ok (.aload_n 0, 1) := by decide +kernel
theorem dX12_lot_84 : decode cX12_lot 84 = .ok (.getfield 180, 3) := by decide +kernel
theorem dX12_lot_87 : decode cX12_lot 87 = .ok (.iload_n 1, 1) := by decide +kernel
theorem dX12_lot_88 : decode cX12_lot 88 = .ok (.iastore, 1) := by decide +kernel
theorem dX12_lot_89 : decode cX12_lot 89 = .ok (.aload_n 0, 1) := by decide +kernel
theorem dX12_lot_90 : decode cX12_lot 90 = .ok (.getfield 45, 3) := by decide +kernel
theorem dX12_lot_93 : decode cX12_lot 93 = .ok (.aload_n 0, 1) := by decide +kernel
theorem dX12_lot_94 : decode cX12_lot 94 = .ok (.getfield 180, 3) := by decide +kernel
theorem dX12_lot_97 : decode cX12_lot 97 = .ok (.iload_n 2, 1) := by decide +kernel
theorem dX12_lot_98 : decode cX12_lot 98 = .ok (.iastore, 1) := by decide +kernel
theorem dX12_lot_99 : decode cX12_lot 99 = .ok (.aload_n 0, 1) := by decide +kernel
theorem dX12_lot_100 : decode cX12_lot 100 = .ok (.getfield 48, 3) := by decide +kernel
theorem dX12_lot_103 : decode cX12_lot 103 = .ok (.aload_n 0, 1) := by decide +kernel
theorem dX12_lot_104 : decode cX12_lot 104 = .ok (.getfield 180, 3) := by decide +kernel
theorem dX12_lot_107 : decode cX12_lot 107 = .ok (.iload_n 3, 1) := by decide +kernel
theorem dX12_lot_108 : decode cX12_lot 108 = .ok (.iastore, 1) := by decide +kernel
theorem dX12_lot_109 : decode cX12_lot 109 = .ok (.aload_n 0, 1) := by decide +kernel
theorem dX12_lot_110 : decode cX12_lot 110 = .ok (.getfield 51, 3) := by decide +kernel
theorem dX12_lot_113 : decode cX12_lot 113 = .ok (.aload_n 0, 1) := by decide +kernel
theorem dX12_lot_114 : decode cX12_lot 114 = .ok (.getfield 180, 3) := by decide +kernel
theorem dX12_lot_117 : decode cX12_lot 117 = .ok (.iload 4, 2) := by decide +kernel
theorem dX12_lot_119 : decode cX12_lot 119 = .ok (.iastore, 1) := by decide +kernel
theorem dX12_lot_120 : decode cX12_lot 120 = .ok (.aload_n 0, 1) := by decide +kernel
theorem dX12_lot_121 : decode cX12_lot 121 = .ok (.dup, 1) := by decide +kernel
theorem dX12_lot_122 : decode cX12_lot 122 = .ok (.getfield 180, 3) := by decide +kernel
theorem dX12_lot_125 : decode cX12_lot 125 = .ok (.iconst 1, 1) := by decide +kernel
theorem dX12_lot_126 : decode cX12_lot 126 = .ok (.iadd, 1) := by decide +kernel
theorem dX12_lot_127 : decode cX12_lot 127 = .ok (.putfield 180, 3) := by decide +kernel
theorem dX12_lot_130 : decode cX12_lot 130 = .ok (.aload_n 0, 1) := by decide +kernel
theorem dX12_lot_131 : decode cX12_lot 131 = .ok (.aload_n 0, 1) := by decide +kernel
theorem dX12_lot_132 : decode cX12_lot 132 = .ok (.getfield 180, 3) := by decide +kernel
theorem dX12_lot_135 : decode cX12_lot 135 = .ok (.iconst 1, 1) := by decide +kernel
theorem dX12_lot_136 : decode cX12_lot 136 = .ok (.isub, 1) := by decide +kernel
theorem dX12_lot_137 : decode cX12_lot 137 = .ok (.invokevirtual 113, 3) := by decide +kernel
theorem dX12_lot_140 : decode cX12_lot 140 = .ok (.ireturn, 1) := by decide +kernel
theorem dX12_priceOf_0 : decode cX12_priceOf 0 = .ok (.iconst 0, 1) := by decide +kernel
theorem dX12_priceOf_1 : decode cX12_priceOf 1 = .ok (.istore 5, 2) := by decide +kernel
theorem dX12_priceOf_3 : decode cX12_priceOf 3 = .ok (.iconst 0, 1) := by decide +kernel
theorem dX12_priceOf_4 : decode cX12_priceOf 4 = .ok (.istore 6, 2) := by decide +kernel
theorem dX12_priceOf_6 : decode cX12_priceOf 6 = .ok (.iconst 0, 1) := by decide +kernel
theorem dX12_priceOf_7 : decode cX12_priceOf 7 = .ok (.istore 7, 2) := by decide +kernel
theorem dX12_priceOf_9 : decode cX12_priceOf 9 = .ok (.iconst 0, 1) := by decide +kernel
theorem dX12_priceOf_10 : decode cX12_priceOf 10 = .ok (.istore 8, 2) := by decide +kernel
theorem dX12_priceOf_12 : decode cX12_priceOf 12 = .ok (.iconst 0, 1) := by decide +kernel
theorem dX12_priceOf_13 : decode cX12_priceOf 13 = .ok (.istore 9, 2) := by decide +kernel
theorem dX12_priceOf_15 : decode cX12_priceOf 15 = .ok (.iload 9, 2) := by decide +kernel
theorem dX12_priceOf_17 : decode cX12_priceOf 17 = .ok (.aload_n 0, 1) := by decide +kernel
theorem dX12_priceOf_18 : decode cX12_priceOf 18 = .ok (.getfield 180, 3) := by decide +kernel
theorem dX12_priceOf_21 : decode cX12_priceOf 21 = .ok (.if_icmp .ge 81, 3) := by decide +kernel
theorem dX12_priceOf_24 : decode cX12_priceOf 24 = .ok (.iload 5, 2) := by decide +kernel
theorem dX12_priceOf_26 : decode cX12_priceOf 26 = .ok (.aload_n 0, 1) := by decide +kernel
theorem dX12_priceOf_27 : decode cX12_priceOf 27 = .ok (.getfield 60, 3) := by decide +kernel
theorem dX12_priceOf_30 : decode cX12_priceOf 30 = .ok (.iload 9, 2) := by decide +kernel
theorem dX12_priceOf_32 : decode cX12_priceOf 32 = .ok (.iaload, 1) := by decide +kernel
theorem dX12_priceOf_33 : decode cX12_priceOf 33 = .ok (.iadd, 1) := by decide +kernel
theorem dX12_priceOf_34 : decode cX12_priceOf 34 = .ok (.istore 5, 2) := by decide +kernel
theorem dX12_priceOf_36 : decode cX12_priceOf 36 = .ok (.iload 6, 2) := by decide +kernel
theorem dX12_priceOf_38 : decode cX12_priceOf 38 = .ok (.aload_n 0, 1) := by decide +kernel
theorem dX12_priceOf_39 : decode cX12_priceOf 39 = .ok (.getfield 60, 3) := by decide +kernel
theorem dX12_priceOf_42 : decode cX12_priceOf 42 = .ok (.iload 9, 2) := by decide +kernel
theorem dX12_priceOf_44 : decode cX12_priceOf 44 = .ok (.iaload, 1) := by decide +kernel
theorem dX12_priceOf_45 : decode cX12_priceOf 45 = .ok (.aload_n 0, 1) := by decide +kernel
theorem dX12_priceOf_46 : decode cX12_priceOf 46 = .ok (.getfield 42, 3) := by decide +kernel
theorem dX12_priceOf_49 : decode cX12_priceOf 49 = .ok (.iload 9, 2) := by decide +kernel
theorem dX12_priceOf_51 : decode cX12_priceOf 51 = .ok (.iaload, 1) := by decide +kernel
theorem dX12_priceOf_52 : decode cX12_priceOf 52 = .ok (.imul, 1) := by decide +kernel
theorem dX12_priceOf_53 : decode cX12_priceOf 53 = .ok (.iadd, 1) := by decide +kernel
theorem dX12_priceOf_54 : decode cX12_priceOf 54 = .ok (.istore 6, 2) := by decide +kernel
theorem dX12_priceOf_56 : decode cX12_priceOf 56 = .ok (.iload 7, 2) := by decide +kernel
theorem dX12_priceOf_58 : decode cX12_priceOf 58 = .ok (.aload_n 0, 1) := by decide +kernel
theorem dX12_priceOf_59 : decode cX12_priceOf 59 = .ok (.getfield 60, 3) := by decide +kernel
theorem dX12_priceOf_62 : decode cX12_priceOf 62 = .ok (.iload 9, 2) := by decide +kernel
theorem dX12_priceOf_64 : decode cX12_priceOf 64 = .ok (.iaload, 1) := by decide +kernel
theorem dX12_priceOf_65 : decode cX12_priceOf 65 = .ok (.aload_n 0, 1) := by decide +kernel
theorem dX12_priceOf_66 : decode cX12_priceOf 66 = .ok (.getfield 45, 3) := by decide +kernel
theorem dX12_priceOf_69 : decode cX12_priceOf 69 = .ok (.iload 9, 2) := by decide +kernel
theorem dX12_priceOf_71 : decode cX12_priceOf 71 = .ok (.iaload, 1) := by decide +kernel
theorem dX12_priceOf_72 : decode cX12_priceOf 72 = .ok (.imul, 1) := by decide +kernel
theorem dX12_priceOf_73 : decode cX12_priceOf 73 = .ok (.iadd, 1) := by decide +kernel
theorem dX12_priceOf_74 : decode cX12_priceOf 74 = .ok (.istore 7, 2) := by decide +kernel
theorem dX12_priceOf_76 : decode cX12_priceOf 76 = .ok (.iload 8, 2) := by decide +kernel
theorem dX12_priceOf_78 : decode cX12_priceOf 78 = .ok (.aload_n 0, 1) := by decide +kernel
theorem dX12_priceOf_79 : decode cX12_priceOf 79 = .ok (.getfield 60, 3) := by decide +kernel
theorem dX12_priceOf_82 : decode cX12_priceOf 82 = .ok (.iload 9, 2) := by decide +kernel
theorem dX12_priceOf_84 : decode cX12_priceOf 84 = .ok (.iaload, 1) := by decide +kernel
theorem dX12_priceOf_85 : decode cX12_priceOf 85 = .ok (.aload_n 0, 1) := by decide +kernel
theorem dX12_priceOf_86 : decode cX12_priceOf 86 = .ok (.getfield 48, 3) := by decide +kernel
theorem dX12_priceOf_89 : decode cX12_priceOf 89 = .ok (.iload 9, 2) := by decide +kernel
theorem dX12_priceOf_91 : decode cX12_priceOf 91 = .ok (.iaload, 1) := by decide +kernel
theorem dX12_priceOf_92 : decode cX12_priceOf 92 = .ok (.imul, 1) := by decide +kernel
theorem dX12_priceOf_93 : decode cX12_priceOf 93 = .ok (.iadd, 1) := by decide +kernel
theorem dX12_priceOf_94 : decode cX12_priceOf 94 = .ok (.istore 8, 2) := by decide +kernel
theorem dX12_priceOf_96 : decode cX12_priceOf 96 = .ok (.iinc 9 1, 3) := by decide +kernel
theorem dX12_priceOf_99 : decode cX12_priceOf 99 = .ok (.goto (-84), 3) := by decide +kernel
theorem dX12_priceOf_102 : decode cX12_priceOf 102 = .ok (.iload 5, 2) := by decide +kernel
theorem dX12_priceOf_104 : decode cX12_priceOf 104 = .ok (.iload_n 1, 1) := by decide +kernel
theorem dX12_priceOf_105 : decode cX12_priceOf 105 = .ok (.if_icmp .ne 33, 3) := by decide +kernel
theorem dX12_priceOf_108 : decode cX12_priceOf 108 = .ok (.iload 6, 2) := by decide +kernel
theorem dX12_priceOf_110 : decode cX12_priceOf 110 = .ok (.iload_n 2, 1) := by decide +kernel
theorem dX12_priceOf_111 : decode cX12_priceOf 111 = .ok (.iload_n 1, 1) := by decide +kernel
theorem dX12_priceOf_112 : decode cX12_priceOf 112 = .ok (.imul, 1) := by decide +kernel
theorem dX12_priceOf_113 : decode cX12_priceOf 113 = .ok (.if_icmp .lt 25, 3) := by decide +kernel
theorem dX12_priceOf_116 : decode cX12_priceOf 116 = .ok (.iload 6, 2) := by decide +kernel
theorem dX12_priceOf_118 : decode cX12_priceOf 118 = .ok (.iload_n 3, 1) := by decide +kernel
theorem dX12_priceOf_119 : decode cX12_priceOf 119 = .ok (.iload_n 1, 1) := by decide +kernel
theorem dX12_priceOf_120 : decode cX12_priceOf 120 = .ok (.imul, 1) := by decide +kernel
theorem dX12_priceOf_121 : decode cX12_priceOf 121 = .ok (.if_icmp .gt 17, 3) := by decide +kernel
theorem dX12_priceOf_124 : decode cX12_priceOf 124 = .ok (.iload 7, 2) := by decide +kernel
theorem dX12_priceOf_126 : decode cX12_priceOf 126 = .ok (.iload 4, 2) := by decide +kernel
theorem dX12_priceOf_128 : decode cX12_priceOf 128 = .ok (.iload_n 1, 1) := by decide +kernel
theorem dX12_priceOf_129 : decode cX12_priceOf 129 = .ok (.imul, 1) := by decide +kernel
theorem dX12_priceOf_130 : decode cX12_priceOf 130 = .ok (.if_icmp .gt 8, 3) := by decide +kernel
theorem dX12_priceOf_133 : decode cX12_priceOf 133 = .ok (.iload 8, 2) := by decide +kernel
theorem dX12_priceOf_135 : decode cX12_priceOf 135 = .ok (.goto 4, 3) := by decide +kernel
theorem dX12_priceOf_138 : decode cX12_priceOf 138 = .ok (.iconst (-1), 1) := by decide +kernel
theorem dX12_priceOf_139 : decode cX12_priceOf 139 = .ok (.ireturn, 1) := by decide +kernel
theorem dX12_mix_0 : decode cX12_mix 0 = .ok (.aload_n 0, 1) := by decide +kernel
theorem dX12_mix_1 : decode cX12_mix 1 = .ok (.iconst 0, 1) := by decide +kernel
theorem dX12_mix_2 : decode cX12_mix 2 = .ok (.putfield 96, 3) := by decide +kernel
theorem dX12_mix_5 : decode cX12_mix 5 = .ok (.iload_n 1, 1) := by decide +kernel
theorem dX12_mix_6 : decode cX12_mix 6 = .ok (.i2l, 1) := by decide +kernel
theorem dX12_mix_7 : decode cX12_mix 7 = .ok (.lconst 1, 1) := by decide +kernel
theorem dX12_mix_8 : decode cX12_mix 8 = .ok (.ldc2_w 178, 3) := by decide +kernel
theorem dX12_mix_11 : decode cX12_mix 11 = .ok (.invokestatic 102, 3) := by decide +kernel
theorem dX12_mix_14 : decode cX12_mix 14 = .ok (.ifCond .eq 41, 3) := by decide +kernel
theorem dX12_mix_17 : decode cX12_mix 17 = .ok (.iload_n 2, 1) := by decide +kernel
theorem dX12_mix_18 : decode cX12_mix 18 = .ok (.i2l, 1) := by decide +kernel
theorem dX12_mix_19 : decode cX12_mix 19 = .ok (.lconst 0, 1) := by decide +kernel
theorem dX12_mix_20 : decode cX12_mix 20 = .ok (.ldc2_w 176, 3) := by decide +kernel
theorem dX12_mix_23 : decode cX12_mix 23 = .ok (.invokestatic 102, 3) := by decide +kernel
theorem dX12_mix_26 : decode cX12_mix 26 = .ok (.ifCond .eq 29, 3) := by decide +kernel
theorem dX12_mix_29 : decode cX12_mix 29 = .ok (.iload_n 3, 1) := by decide +kernel
theorem dX12_mix_30 : decode cX12_mix 30 = .ok (.i2l, 1) := by decide +kernel
theorem dX12_mix_31 : decode cX12_mix 31 = .ok (.iload_n 2, 1) := by decide +kernel
theorem dX12_mix_32 : decode cX12_mix 32 = .ok (.i2l, 1) := by decide +kernel
theorem dX12_mix_33 : decode cX12_mix 33 = .ok (.ldc2_w 176, 3) := by decide +kernel
theorem dX12_mix_36 : decode cX12_mix 36 = .ok (.invokestatic 102, 3) := by decide +kernel
theorem dX12_mix_39 : decode cX12_mix 39 = .ok (.ifCond .eq 16, 3) := by decide +kernel
theorem dX12_mix_42 : decode cX12_mix 42 = .ok (.iload 4, 2) := by decide +kernel
theorem dX12_mix_44 : decode cX12_mix 44 = .ok (.i2l, 1) := by decide +kernel
theorem dX12_mix_45 : decode cX12_mix 45 = .ok (.lconst 0, 1) := by decide +kernel
theorem dX12_mix_46 : decode cX12_mix 46 = .ok (.ldc2_w 176, 3) := by decide +kernel
theorem dX12_mix_49 : decode cX12_mix 49 = .ok (.invokestatic 102, 3) := by decide +kernel
theorem dX12_mix_52 : decode cX12_mix 52 = .ok (.ifCond .ne 9, 3) := by decide +kernel
theorem dX12_mix_55 : decode cX12_mix 55 = .ok (.aload_n 0, 1) := by decide +kernel
theorem dX12_mix_56 : decode cX12_mix 56 = .ok (.iconst (-1), 1) := by decide +kernel
theorem dX12_mix_57 : decode cX12_mix 57 = .ok (.invokevirtual 113, 3) := by decide +kernel
theorem dX12_mix_60 : decode cX12_mix 60 = .ok (.ireturn, 1) := by decide +kernel
theorem dX12_mix_61 : decode cX12_mix 61 = .ok (.iconst (-1), 1) := by decide +kernel
theorem dX12_mix_62 : decode cX12_mix 62 = .ok (.istore 5, 2) := by decide +kernel
theorem dX12_mix_64 : decode cX12_mix 64 = .ok (.iconst 0, 1) := by decide +kernel
theorem dX12_mix_65 : decode cX12_mix 65 = .ok (.istore 6, 2) := by decide +kernel
theorem dX12_mix_67 : decode cX12_mix 67 = .ok (.iload 6, 2) := by decide +kernel
theorem dX12_mix_69 : decode cX12_mix 69 = .ok (.bipush 7, 2) := by decide +kernel
theorem dX12_mix_71 : decode cX12_mix 71 = .ok (.if_icmp .ge 17, 3) := by decide +kernel
theorem dX12_mix_74 : decode cX12_mix 74 = .ok (.aload_n 0, 1) := by decide +kernel
theorem dX12_mix_75 : decode cX12_mix 75 = .ok (.getfield 60, 3) := by decide +kernel
theorem dX12_mix_78 : decode cX12_mix 78 = .ok (.iload 6, 2) := by decide +kernel
theorem dX12_mix_80 : decode cX12_mix 80 = .ok (.iconst 0, 1) := by decide +kernel
theorem dX12_mix_81 : decode cX12_mix 81 = .ok (.iastore, 1) := by decide +kernel
theorem dX12_mix_82 : decode cX12_mix 82 = .ok (.iinc 6 1, 3) := by decide +kernel
theorem dX12_mix_85 : decode cX12_mix 85 = .ok (.goto (-18), 3) := by decide +kernel
theorem dX12_mix_88 : decode cX12_mix 88 = .ok (.aload_n 0, 1) := by decide +kernel
theorem dX12_mix_89 : decode cX12_mix 89 = .ok (.getfield 180, 3) := by decide +kernel
theorem dX12_mix_92 : decode cX12_mix 92 = .ok (.ifCond .le 7, 3) := by decide +kernel
theorem dX12_mix_95 : decode cX12_mix 95 = .ok (.iconst 1, 1) := by decide +kernel
theorem dX12_mix_96 : decode cX12_mix 96 = .ok (.goto 4, 3) := by decide +kernel
theorem dX12_mix_99 : decode cX12_mix 99 = .ok (.iconst 0, 1) := by decide +kernel
theorem dX12_mix_100 : decode cX12_mix 100 = .ok (.istore 6, 2) := by decide +kernel
theorem dX12_mix_102 : decode cX12_mix 102 = .ok (.iload 6, 2) := by decide +kernel
theorem dX12_mix_104 : decode cX12_mix 104 = .ok (.ifCond .eq 239, 3) := by decide +kernel
theorem dX12_mix_107 : decode cX12_mix 107 = .ok (.iload_n 1, 1) := by decide +kernel
theorem dX12_mix_108 : decode cX12_mix 108 = .ok (.istore 7, 2) := by decide +kernel
theorem dX12_mix_110 : decode cX12_mix 110 = .ok (.iconst 0, 1) := by decide +kernel
theorem dX12_mix_111 : decode cX12_mix 111 = .ok (.istore 8, 2) := by decide +kernel
theorem dX12_mix_113 : decode cX12_mix 113 = .ok (.iload 8, 2) := by decide +kernel
theorem dX12_mix_115 : decode cX12_mix 115 = .ok (.iconst 1, 1) := by decide +kernel
theorem dX12_mix_116 : decode cX12_mix 116 = .ok (.iadd, 1) := by decide +kernel
theorem dX12_mix_117 : decode cX12_mix 117 = .ok (.aload_n 0, 1) := by decide +kernel
theorem dX12_mix_118 : decode cX12_mix 118 = .ok (.getfield 180, 3) := by decide +kernel
theorem dX12_mix_121 : decode cX12_mix 121 = .ok (.if_icmp .ge 21, 3) := by decide +kernel
theorem dX12_mix_124 : decode cX12_mix 124 = .ok (.iload 7, 2) := by decide +kernel
theorem dX12_mix_126 : decode cX12_mix 126 = .ok (.aload_n 0, 1) := by decide +kernel
theorem dX12_mix_127 : decode cX12_mix 127 = .ok (.getfield 60, 3) := by decide +kernel
theorem dX12_mix_130 : decode cX12_mix 130 = .ok (.iload 8, 2) := by decide +kernel
theorem dX12_mix_132 : decode cX12_mix 132 = .ok (.iaload, 1) := by decide +kernel
theorem dX12_mix_133 : decode cX12_mix 133 = .ok (.isub, 1) := by decide +kernel
theorem dX12_mix_134 : decode cX12_mix 134 = .ok (.istore 7, 2) := by decide +kernel
theorem dX12_mix_136 : decode cX12_mix 136 = .ok (.iinc 8 1, 3) := by decide +kernel
theorem dX12_mix_139 : decode cX12_mix 139 = .ok (.goto (-26), 3) := by decide +kernel
theorem dX12_mix_142 : decode cX12_mix 142 = .ok (.aload_n 0, 1) := by decide +kernel
theorem dX12_mix_143 : decode cX12_mix 143 = .ok (.getfield 60, 3) := by decide +kernel
theorem dX12_mix_146 : decode cX12_mix 146 = .ok (.aload_n 0, 1) := by decide +kernel
theorem dX12_mix_147 : decode cX12_mix 147 = .ok (.getfield 180, 3) := by decide +kernel
theorem dX12_mix_150 : decode cX12_mix 150 = .ok (.iconst 1, 1) := by decide +kernel
theorem dX12_mix_151 : decode cX12_mix 151 = .ok (.isub, 1) := by decide +kernel
theorem dX12_mix_152 : decode cX12_mix 152 = .ok (.iload 7, 2) := by decide +kernel
theorem dX12_mix_154 : decode cX12_mix 154 = .ok (.iastore, 1) := by decide +kernel
theorem dX12_mix_155 : decode cX12_mix 155 = .ok (.iload 7, 2) := by decide +kernel
theorem dX12_mix_157 : decode cX12_mix 157 = .ok (.ifCond .lt 31, 3) := by decide +kernel
theorem dX12_mix_160 : decode cX12_mix 160 = .ok (.iload 7, 2) := by decide +kernel
theorem dX12_mix_162 : decode cX12_mix 162 = .ok (.aload_n 0, 1) := by decide +kernel
theorem dX12_mix_163 : decode cX12_mix 163 = .ok (.getfield 51, 3) := by decide +kernel
theorem dX12_mix_166 : decode cX12_mix 166 = .ok (.aload_n 0, 1) := by decide +kernel
theorem dX12_mix_167 : decode cX12_mix 167 = .ok (.getfield 180, 3) := by decide +kernel
theorem dX12_mix_170 : decode cX12_mix 170 = .ok (.iconst 1, 1) := by decide +kernel
theorem dX12_mix_171 : decode cX12_mix 171 = .ok (.isub, 1) := by decide +kernel
theorem dX12_mix_172 : decode cX12_mix 172 = .ok (.iaload, 1) := by decide +kernel
theorem dX12_mix_173 : decode cX12_mix 173 = .ok (.if_icmp .gt 15, 3) := by decide +kernel
theorem dX12_mix_176 : decode cX12_mix 176 = .ok (.aload_n 0, 1) := by decide +kernel
theorem dX12_mix_177 : decode cX12_mix 177 = .ok (.iload_n 1, 1) := by decide +kernel
theorem dX12_mix_178 : decode cX12_mix 178 = .ok (.iload_n 2, 1) := by decide +kernel
theorem dX12_mix_179 : decode cX12_mix 179 = .ok (.iload_n 3, 1) := by decide +kernel
theorem dX12_mix_180 : decode cX12_mix 180 = .ok (.iload 4, 2) := by decide +kernel
theorem dX12_mix_182 : decode cX12_mix 182 = .ok (.invokevirtual 183, 3) := by decide +kernel
theorem dX12_mix_185 : decode cX12_mix 185 = .ok (.goto 4, 3) := by decide +kernel
theorem dX12_mix_188 : decode cX12_mix 188 = .ok (.iconst (-1), 1) := by decide +kernel
theorem dX12_mix_189 : decode cX12_mix 189 = .ok (.istore 8, 2) := by decide +kernel
theorem dX12_mix_191 : decode cX12_mix 191 = .ok (.iload 8, 2) := by decide +kernel
theorem dX12_mix_193 : decode cX12_mix 193 = .ok (.ifCond .lt 51, 3) := by decide +kernel
theorem dX12_mix_196 : decode cX12_mix 196 = .ok (.iload 5, 2) := by decide +kernel
theorem dX12_mix_198 : decode cX12_mix 198 = .ok (.ifCond .lt 10, 3) := by decide +kernel
theorem dX12_mix_201 : decode cX12_mix 201 = .ok (.iload 8, 2) := by decide +kernel
theorem dX12_mix_203 : decode cX12_mix 203 = .ok (.iload 5, 2) := by decide +kernel
theorem dX12_mix_205 : decode cX12_mix 205 = .ok (.if_icmp .ge 39, 3) := by decide +kernel
theorem dX12_mix_208 : decode cX12_mix 208 = .ok (.iload 8, 2) := by decide +kernel
theorem dX12_mix_210 : decode cX12_mix 210 = .ok (.istore 5, 2) := by decide +kernel
theorem dX12_mix_212 : decode cX12_mix 212 = .ok (.iconst 0, 1) := by decide +kernel
theorem dX12_mix_213 : decode cX12_mix 213 = .ok (.istore 9, 2) := by decide +kernel
theorem dX12_mix_215 : decode cX12_mix 215 = .ok (.iload 9, 2) := by decide +kernel
theorem dX12_mix_217 : decode cX12_mix 217 = .ok (.aload_n 0, 1) := by decide +kernel
theorem dX12_mix_218 : decode cX12_mix 218 = .ok (.getfield 180, 3) := by decide +kernel
theorem dX12_mix_221 : decode cX12_mix 221 = .ok (.if_icmp .ge 23, 3) := by decide +kernel
theorem dX12_mix_224 : decode cX12_mix 224 = .ok (.aload_n 0, 1) := by decide +kernel
theorem dX12_mix_225 : decode cX12_mix 225 = .ok (.getfield 63, 3) := by decide +kernel
theorem dX12_mix_228 : decode cX12_mix 228 = .ok (.iload 9, 2) := by decide +kernel
theorem dX12_mix_230 : decode cX12_mix 230 = .ok (.aload_n 0, 1) := by decide +kernel
theorem dX12_mix_231 : decode cX12_mix 231 = .ok (.getfield 60, 3) := by decide +kernel
theorem dX12_mix_234 : decode cX12_mix 234 = .ok (.iload 9, 2) := by decide +kernel
theorem dX12_mix_236 : decode cX12_mix 236 = .ok (.iaload, 1) := by decide +kernel
theorem dX12_mix_237 : decode cX12_mix 237 = .ok (.iastore, 1) := by decide +kernel
theorem dX12_mix_238 : decode cX12_mix 238 = .ok (.iinc 9 1, 3) := by decide +kernel
theorem dX12_mix_241 : decode cX12_mix 241 = .ok (.goto (-26), 3) := by decide +kernel
theorem dX12_mix_244 : decode cX12_mix 244 = .ok (.aload_n 0, 1) := by decide +kernel
theorem dX12_mix_245 : decode cX12_mix 245 = .ok (.getfield 180, 3) := by decide +kernel
theorem dX12_mix_248 : decode cX12_mix 248 = .ok (.iconst 2, 1) := by decide +kernel
theorem dX12_mix_249 : decode cX12_mix 249 = .ok (.isub, 1) := by decide +kernel
theorem dX12_mix_250 : decode cX12_mix 250 = .ok (.istore 9, 2) := by decide +kernel
theorem dX12_mix_252 : decode cX12_mix 252 = .ok (.iload_n 1, 1) := by decide +kernel
theorem dX12_mix_253 : decode cX12_mix 253 = .ok (.iload 7, 2) := by decide +kernel
theorem dX12_mix_255 : decode cX12_mix 255 = .ok (.isub, 1) := by decide +kernel
theorem dX12_mix_256 : decode cX12_mix 256 = .ok (.istore 10, 2) := by decide +kernel
theorem dX12_mix_258 : decode cX12_mix 258 = .ok (.iload 9, 2) := by decide +kernel
theorem dX12_mix_260 : decode cX12_mix 260 = .ok (.ifCond .lt 52, 3) := by decide +kernel
theorem dX12_mix_263 : decode cX12_mix 263 = .ok (.aload_n 0, 1) := by decide +kernel
theorem dX12_mix_264 : decode cX12_mix 264 = .ok (.getfield 60, 3) := by decide +kernel
theorem dX12_mix_267 : decode cX12_mix 267 = .ok (.iload 9, 2) := by decide +kernel
theorem dX12_mix_269 : decode cX12_mix 269 = .ok (.iaload, 1) := by decide +kernel
theorem dX12_mix_270 : decode cX12_mix 270 = .ok (.aload_n 0, 1) := by decide +kernel
theorem dX12_mix_271 : decode cX12_mix 271 = .ok (.getfield 51, 3) := by decide +kernel
theorem dX12_mix_274 : decode cX12_mix 274 = .ok (.iload 9, 2) := by decide +kernel
theorem dX12_mix_276 : decode cX12_mix 276 = .ok (.iaload, 1) := by decide +kernel
theorem dX12_mix_277 : decode cX12_mix 277 = .ok (.if_icmp .eq 9, 3) := by decide +kernel
theorem dX12_mix_280 : decode cX12_mix 280 = .ok (.iload 10, 2) := by decide +kernel
theorem dX12_mix_282 : decode cX12_mix 282 = .ok (.iload_n 1, 1) := by decide +kernel
theorem dX12_mix_283 : decode cX12_mix 283 = .ok (.if_icmp .lt 29, 3) := by decide +kernel
theorem dX12_mix_286 : decode cX12_mix 286 = .ok (.iload 10, 2) := by decide +kernel
theorem dX12_mix_288 : decode cX12_mix 288 = .ok (.aload_n 0, 1) := by decide +kernel
theorem dX12_mix_289 : decode cX12_mix 289 = .ok (.getfield 60, 3) := by decide +kernel
theorem dX12_mix_292 : decode cX12_mix 292 = .ok (.iload 9, 2) := by decide +kernel
theorem dX12_mix_294 : decode cX12_mix 294 = .ok (.iaload, 1) := by decide +kernel
theorem dX12_mix_295 : decode cX12_mix 295 = .ok (.isub, 1) := by decide +kernel
theorem dX12_mix_296 : decode cX12_mix 296 = .ok (.istore 10, 2) := by decide +kernel
theorem dX12_mix_298 : decode cX12_mix 298 = .ok (.aload_n 0, 1) := by decide +kernel
theorem dX12_mix_299 : decode cX12_mix 299 = .ok (.getfield 60, 3) := by decide +kernel
theorem dX12_mix_302 : decode cX12_mix 302 = .ok (.iload 9, 2) := by decide +kernel
theorem dX12_mix_304 : decode cX12_mix 304 = .ok (.iconst 0, 1) := by decide +kernel
theorem dX12_mix_305 : decode cX12_mix 305 = .ok (.iastore, 1) := by decide +kernel
theorem dX12_mix_306 : decode cX12_mix 306 = .ok (.iinc 9 (-1), 3) := by decide +kernel
theorem dX12_mix_309 : decode cX12_mix 309 = .ok (.goto (-51), 3) := by decide +kernel
theorem dX12_mix_312 : decode cX12_mix 312 = .ok (.iload 9, 2) := by decide +kernel
theorem dX12_mix_314 : decode cX12_mix 314 = .ok (.ifCond .lt 7, 3) := by decide +kernel
theorem dX12_mix_317 : decode cX12_mix 317 = .ok (.iconst 1, 1) := by decide +kernel
theorem dX12_mix_318 : decode cX12_mix 318 = .ok (.goto 4, 3) := by decide +kernel
theorem dX12_mix_321 : decode cX12_mix 321 = .ok (.iconst 0, 1) := by decide +kernel
theorem dX12_mix_322 : decode cX12_mix 322 = .ok (.istore 6, 2) := by decide +kernel
theorem dX12_mix_324 : decode cX12_mix 324 = .ok (.iload 6, 2) := by decide +kernel
theorem dX12_mix_326 : decode cX12_mix 326 = .ok (.ifCond .eq 14, 3) := by decide +kernel
theorem dX12_mix_329 : decode cX12_mix 329 = .ok (.aload_n 0, 1) := by decide +kernel
theorem dX12_mix_330 : decode cX12_mix 330 = .ok (.getfield 60, 3) := by decide +kernel
theorem dX12_mix_333 : decode cX12_mix 333 = .ok (.iload 9, 2) := by decide +kernel
theorem dX12_mix_335 : decode cX12_mix 335 = .ok (.dup2, 1) := by decide +kernel
theorem dX12_mix_336 : decode cX12_mix 336 = .ok (.iaload, 1) := by decide +kernel
theorem dX12_mix_337 : decode cX12_mix 337 = .ok (.iconst 1, 1) := by decide +kernel
theorem dX12_mix_338 : decode cX12_mix 338 = .ok (.iadd, 1) := by decide +kernel
theorem dX12_mix_339 : decode cX12_mix 339 = .ok (.iastore, 1) := by decide +kernel
theorem dX12_mix_340 : decode cX12_mix 340 = .ok (.goto (-238), 3) := by decide +kernel
theorem dX12_mix_343 : decode cX12_mix 343 = .ok (.iload 5, 2) := by decide +kernel
theorem dX12_mix_345 : decode cX12_mix 345 = .ok (.ifCond .ge 10, 3) := by decide +kernel
theorem dX12_mix_348 : decode cX12_mix 348 = .ok (.aload_n 0, 1) := by decide +kernel
theorem dX12_mix_349 : decode cX12_mix 349 = .ok (.bipush (-6), 2) := by decide +kernel
theorem dX12_mix_351 : decode cX12_mix 351 = .ok (.invokevirtual 113, 3) := by decide +kernel
theorem dX12_mix_354 : decode cX12_mix 354 = .ok (.ireturn, 1) := by decide +kernel
theorem dX12_mix_355 : decode cX12_mix 355 = .ok (.iconst 0, 1) := by decide +kernel
theorem dX12_mix_356 : decode cX12_mix 356 = .ok (.istore 7, 2) := by decide +kernel
theorem dX12_mix_358 : decode cX12_mix 358 = .ok (.iload 7, 2) := by decide +kernel
theorem dX12_mix_360 : decode cX12_mix 360 = .ok (.bipush 6, 2) := by decide +kernel
theorem dX12_mix_362 : decode cX12_mix 362 = .ok (.if_icmp .ge 36, 3) := by decide +kernel
theorem dX12_mix_365 : decode cX12_mix 365 = .ok (.aload_n 0, 1) := by decide +kernel
theorem dX12_mix_366 : decode cX12_mix 366 = .ok (.getfield 54, 3) := by decide +kernel
theorem dX12_mix_369 : decode cX12_mix 369 = .ok (.iload 7, 2) := by decide +kernel
theorem dX12_mix_371 : decode cX12_mix 371 = .ok (.iload 7, 2) := by decide +kernel
theorem dX12_mix_373 : decode cX12_mix 373 = .ok (.aload_n 0, 1) := by decide +kernel
theorem dX12_mix_374 : decode cX12_mix 374 = .ok (.getfield 180, 3) := by decide +kernel
theorem dX12_mix_377 : decode cX12_mix 377 = .ok (.if_icmp .ge 13, 3) := by decide +kernel
theorem dX12_mix_380 : decode cX12_mix 380 = .ok (.aload_n 0, 1) := by decide +kernel
theorem dX12_mix_381 : decode cX12_mix 381 = .ok (.getfield 63, 3) := by decide +kernel
theorem dX12_mix_384 : decode cX12_mix 384 = .ok (.iload 7, 2) := by decide +kernel
theorem dX12_mix_386 : decode cX12_mix 386 = .ok (.iaload, 1) := by decide +kernel
theorem dX12_mix_387 : decode cX12_mix 387 = .ok (.goto 4, 3) := by decide +kernel
theorem dX12_mix_390 : decode cX12_mix 390 = .ok (.iconst 0, 1) := by decide +kernel
theorem dX12_mix_391 : decode cX12_mix 391 = .ok (.iastore, 1) := by decide +kernel
theorem dX12_mix_392 : decode cX12_mix 392 = .ok (.iinc 7 1, 3) := by decide +kernel
theorem dX12_mix_395 : decode cX12_mix 395 = .ok (.goto (-37), 3) := by decide +kernel
theorem dX12_mix_398 : decode cX12_mix 398 = .ok (.aload_n 0, 1) := by decide +kernel
theorem dX12_mix_399 : decode cX12_mix 399 = .ok (.iload_n 1, 1) := by decide +kernel
theorem dX12_mix_400 : decode cX12_mix 400 = .ok (.putfield 57, 3) := by decide +kernel
theorem dX12_mix_403 : decode cX12_mix 403 = .ok (.aload_n 0, 1) := by decide +kernel
theorem dX12_mix_404 : decode cX12_mix 404 = .ok (.iload 5, 2) := by decide +kernel
theorem dX12_mix_406 : decode cX12_mix 406 = .ok (.invokevirtual 113, 3) := by decide +kernel
theorem dX12_mix_409 : decode cX12_mix 409 = .ok (.ireturn, 1) := by decide +kernel
theorem dX12_mixed_0 : decode cX12_mixed 0 = .ok (.aload_n 0, 1) := by decide +kernel
theorem dX12_mixed_1 : decode cX12_mixed 1 = .ok (.iconst 0, 1) := by decide +kernel
theorem dX12_mixed_2 : decode cX12_mixed 2 = .ok (.putfield 96, 3) := by decide +kernel
theorem dX12_mixed_5 : decode cX12_mixed 5 = .ok (.aload_n 0, 1) := by decide +kernel
theorem dX12_mixed_6 : decode cX12_mixed 6 = .ok (.getfield 57, 3) := by decide +kernel
theorem dX12_mixed_9 : decode cX12_mixed 9 = .ok (.ifCond .ge 5, 3) := by decide +kernel
theorem dX12_mixed_12 : decode cX12_mixed 12 = .ok (.iconst (-1), 1) := by decide +kernel
theorem dX12_mixed_13 : decode cX12_mixed 13 = .ok (.ireturn, 1) := by decide +kernel
theorem dX12_mixed_14 : decode cX12_mixed 14 = .ok (.iload_n 1, 1) := by decide +kernel
theorem dX12_mixed_15 : decode cX12_mixed 15 = .ok (.iconst (-1), 1) := by decide +kernel
theorem dX12_mixed_16 : decode cX12_mixed 16 = .ok (.if_icmp .ne 10, 3) := by decide +kernel
theorem dX12_mixed_19 : decode cX12_mixed 19 = .ok (.aload_n 0, 1) := by decide +kernel
theorem dX12_mixed_20 : decode cX12_mixed 20 = .ok (.getfield 57, 3) := by decide +kernel
theorem dX12_mixed_23 : decode cX12_mixed 23 = .ok (.goto 29, 3) := by decide +kernel
theorem dX12_mixed_26 : decode cX12_mixed 26 = .ok (.iload_n 1, 1) := by decide +kernel
theorem dX12_mixed_27 : decode cX12_mixed 27 = .ok (.i2l, 1) := by decide +kernel
theorem dX12_mixed_28 : decode cX12_mixed 28 = .ok (.lconst 0, 1) := by decide +kernel
theorem dX12_mixed_29 : decode cX12_mixed 29 = .ok (.aload_n 0, 1) := by decide +kernel
theorem dX12_mixed_30 : decode cX12_mixed 30 = .ok (.getfield 180, 3) := by decide +kernel
theorem dX12_mixed_33 : decode cX12_mixed 33 = .ok (.i2l, 1) := by decide +kernel
theorem dX12_mixed_34 : decode cX12_mixed 34 = .ok (.lconst 1, 1) := by decide +kernel
theorem dX12_mixed_35 : decode cX12_mixed 35 = .ok (.lsub, 1) := by decide +kernel
theorem dX12_mixed_36 : decode cX12_mixed 36 = .ok (.invokestatic 102, 3) := by decide +kernel
theorem dX12_mixed_39 : decode cX12_mixed 39 = .ok (.ifCond .eq 12, 3) := by decide +kernel
theorem dX12_mixed_42 : decode cX12_mixed 42 = .ok (.aload_n 0, 1) := by decide +kernel
theorem dX12_mixed_43 : decode cX12_mixed 43 = .ok (.getfield 54, 3) := by decide +kernel
theorem dX12_mixed_46 : decode cX12_mixed 46 = .ok (.iload_n 1, 1) := by decide +kernel
theorem dX12_mixed_47 : decode cX12_mixed 47 = .ok (.iaload, 1) := by decide +kernel
theorem dX12_mixed_48 : decode cX12_mixed 48 = .ok (.goto 4, 3) := by decide +kernel
theorem dX12_mixed_51 : decode cX12_mixed 51 = .ok (.iconst (-1), 1) := by decide +kernel
theorem dX12_mixed_52 : decode cX12_mixed 52 = .ok (.ireturn, 1) := by decide +kernel
theorem dX12_pour_0 : decode cX12_pour 0 = .ok (.aload_n 0, 1) := by decide +kernel
theorem dX12_pour_1 : decode cX12_pour 1 = .ok (.iconst 0, 1) := by decide +kernel
theorem dX12_pour_2 : decode cX12_pour 2 = .ok (.putfield 96, 3) := by decide +kernel
theorem dX12_pour_5 : decode cX12_pour 5 = .ok (.aload_n 0, 1) := by decide +kernel
theorem dX12_pour_6 : decode cX12_pour 6 = .ok (.getfield 57, 3) := by decide +kernel
theorem dX12_pour_9 : decode cX12_pour 9 = .ok (.istore_n 1, 1) := by decide +kernel
theorem dX12_pour_10 : decode cX12_pour 10 = .ok (.iload_n 1, 1) := by decide +kernel
theorem dX12_pour_11 : decode cX12_pour 11 = .ok (.ifCond .lt 7, 3) := by decide +kernel
theorem dX12_pour_14 : decode cX12_pour 14 = .ok (.iconst 1, 1) := by decide +kernel
theorem dX12_pour_15 : decode cX12_pour 15 = .ok (.goto 4, 3) := by decide +kernel
theorem dX12_pour_18 : decode cX12_pour 18 = .ok (.iconst 0, 1) := by decide +kernel
theorem dX12_pour_19 : decode cX12_pour 19 = .ok (.istore_n 2, 1) := by decide +kernel
theorem dX12_pour_20 : decode cX12_pour 20 = .ok (.iconst 0, 1) := by decide +kernel
theorem dX12_pour_21 : decode cX12_pour 21 = .ok (.istore_n 3, 1) := by decide +kernel
theorem dX12_pour_22 : decode cX12_pour 22 = .ok (.iload_n 3, 1) := by decide +kernel
theorem dX12_pour_23 : decode cX12_pour 23 = .ok (.aload_n 0, 1) := by decide +kernel
theorem dX12_pour_24 : decode cX12_pour 24 = .ok (.getfield 180, 3) := by decide +kernel
theorem dX12_pour_27 : decode cX12_pour 27 = .ok (.if_icmp .ge 34, 3) := by decide +kernel
theorem dX12_pour_30 : decode cX12_pour 30 = .ok (.iload_n 2, 1) := by decide +kernel
theorem dX12_pour_31 : decode cX12_pour 31 = .ok (.ifCond .eq 22, 3) := by decide +kernel
theorem dX12_pour_34 : decode cX12_pour 34 = .ok (.aload_n 0, 1) := by decide +kernel
theorem dX12_pour_35 : decode cX12_pour 35 = .ok (.getfield 54, 3) := by decide +kernel
theorem dX12_pour_38 : decode cX12_pour 38 = .ok (.iload_n 3, 1) := by decide +kernel
theorem dX12_pour_39 : decode cX12_pour 39 = .ok (.iaload, 1) := by decide +kernel
theorem dX12_pour_40 : decode cX12_pour 40 = .ok (.aload_n 0, 1) := by decide +kernel
theorem dX12_pour_41 : decode cX12_pour 41 = .ok (.getfield 51, 3) := by decide +kernel
theorem dX12_pour_44 : decode cX12_pour 44 = .ok (.iload_n 3, 1) := by decide +kernel
theorem dX12_pour_45 : decode cX12_pour 45 = .ok (.iaload, 1) := by decide +kernel
theorem dX12_pour_46 : decode cX12_pour 46 = .ok (.if_icmp .gt 7, 3) := by decide +kernel
theorem dX12_pour_49 : decode cX12_pour 49 = .ok (.iconst 1, 1) := by decide +kernel
theorem dX12_pour_50 : decode cX12_pour 50 = .ok (.goto 4, 3) := by decide +kernel
theorem dX12_pour_53 : decode cX12_pour 53 = .ok (.iconst 0, 1) := by decide +kernel
theorem dX12_pour_54 : decode cX12_pour 54 = .ok (.istore_n 2, 1) := by decide +kernel
theorem dX12_pour_55 : decode cX12_pour 55 = .ok (.iinc 3 1, 3) := by decide +kernel
theorem dX12_pour_58 : decode cX12_pour 58 = .ok (.goto (-36), 3) := by decide +kernel
theorem dX12_pour_61 : decode cX12_pour 61 = .ok (.aload_n 0, 1) := by decide +kernel
theorem dX12_pour_62 : decode cX12_pour 62 = .ok (.iconst (-1), 1) := by decide +kernel
theorem dX12_pour_63 : decode cX12_pour 63 = .ok (.putfield 57, 3) := by decide +kernel
theorem dX12_pour_66 : decode cX12_pour 66 = .ok (.iload_n 2, 1) := by decide +kernel
theorem dX12_pour_67 : decode cX12_pour 67 = .ok (.ifCond .ne 10, 3) := by decide +kernel
theorem dX12_pour_70 : decode cX12_pour 70 = .ok (.aload_n 0, 1) := by decide +kernel
theorem dX12_pour_71 : decode cX12_pour 71 = .ok (.bipush (-6), 2) := by decide +kernel
theorem dX12_pour_73 : decode cX12_pour 73 = .ok (.invokevirtual 113, 3) := by decide +kernel
theorem dX12_pour_76 : decode cX12_pour 76 = .ok (.ireturn, 1) := by decide +kernel
theorem dX12_pour_77 : decode cX12_pour 77 = .ok (.iconst 0, 1) := by decide +kernel
theorem dX12_pour_78 : decode cX12_pour 78 = .ok (.istore_n 3, 1) := by decide +kernel
theorem dX12_pour_79 : decode cX12_pour 79 = .ok (.iload_n 3, 1) := by decide +kernel
theorem dX12_pour_80 : decode cX12_pour 80 = .ok (.aload_n 0, 1) := by decide +kernel
theorem dX12_pour_81 : decode cX12_pour 81 = .ok (.getfield 180, 3) := by decide +kernel
theorem dX12_pour_84 : decode cX12_pour 84 = .ok (.if_icmp .ge 24, 3) := by decide +kernel
theorem dX12_pour_87 : decode cX12_pour 87 = .ok (.aload_n 0, 1) := by decide +kernel
theorem dX12_pour_88 : decode cX12_pour 88 = .ok (.getfield 51, 3) := by decide +kernel
theorem dX12_pour_91 : decode cX12_pour 91 = .ok (.iload_n 3, 1) := by decide +kernel
theorem dX12_pour_92 : decode cX12_pour 92 = .ok (.dup2, 1) := by decide +kernel
theorem dX12_pour_93 : decode cX12_pour 93 = .ok (.iaload, 1) := by decide +kernel
theorem dX12_pour_94 : decode cX12_pour 94 = .ok (.aload_n 0, 1) := by decide +kernel
theorem dX12_pour_95 : decode cX12_pour 95 = .ok (.getfield 54, 3) := by decide +kernel
theorem dX12_pour_98 : decode cX12_pour 98 = .ok (.iload_n 3, 1) := by decide +kernel
theorem dX12_pour_99 : decode cX12_pour 99 = .ok (.iaload, 1) := by decide +kernel
theorem dX12_pour_100 : decode cX12_pour 100 = .ok (.isub, 1) := by decide +kernel
theorem dX12_pour_101 : decode cX12_pour 101 = .ok (.iastore, 1) := by decide +kernel
theorem dX12_pour_102 : decode cX12_pour 102 = .ok (.iinc 3 1, 3) := by decide +kernel
theorem dX12_pour_105 : decode cX12_pour 105 = .ok (.goto (-26), 3) := by decide +kernel
theorem dX12_pour_108 : decode cX12_pour 108 = .ok (.aload_n 0, 1) := by decide +kernel
theorem dX12_pour_109 : decode cX12_pour 109 = .ok (.iload_n 1, 1) := by decide +kernel
theorem dX12_pour_110 : decode cX12_pour 110 = .ok (.invokevirtual 113, 3) := by decide +kernel
theorem dX12_pour_113 : decode cX12_pour 113 = .ok (.ireturn, 1) := by decide +kernel
theorem dX12_left_0 : decode cX12_left 0 = .ok (.aload_n 0, 1) := by decide +kernel
theorem dX12_left_1 : decode cX12_left 1 = .ok (.iconst 0, 1) := by decide +kernel
theorem dX12_left_2 : decode cX12_left 2 = .ok (.putfield 96, 3) := by decide +kernel
theorem dX12_left_5 : decode cX12_left 5 = .ok (.iload_n 1, 1) := by decide +kernel
theorem dX12_left_6 : decode cX12_left 6 = .ok (.i2l, 1) := by decide +kernel
theorem dX12_left_7 : decode cX12_left 7 = .ok (.lconst 0, 1) := by decide +kernel
theorem dX12_left_8 : decode cX12_left 8 = .ok (.aload_n 0, 1) := by decide +kernel
theorem dX12_left_9 : decode cX12_left 9 = .ok (.getfield 180, 3) := by decide +kernel
theorem dX12_left_12 : decode cX12_left 12 = .ok (.i2l, 1) := by decide +kernel
theorem dX12_left_13 : decode cX12_left 13 = .ok (.lconst 1, 1) := by decide +kernel
theorem dX12_left_14 : decode cX12_left 14 = .ok (.lsub, 1) := by decide +kernel
theorem dX12_left_15 : decode cX12_left 15 = .ok (.invokestatic 102, 3) := by decide +kernel
theorem dX12_left_18 : decode cX12_left 18 = .ok (.ifCond .eq 12, 3) := by decide +kernel
theorem dX12_left_21 : decode cX12_left 21 = .ok (.aload_n 0, 1) := by decide +kernel
theorem dX12_left_22 : decode cX12_left 22 = .ok (.getfield 51, 3) := by decide +kernel
theorem dX12_left_25 : decode cX12_left 25 = .ok (.iload_n 1, 1) := by decide +kernel
theorem dX12_left_26 : decode cX12_left 26 = .ok (.iaload, 1) := by decide +kernel
theorem dX12_left_27 : decode cX12_left 27 = .ok (.goto 4, 3) := by decide +kernel
theorem dX12_left_30 : decode cX12_left 30 = .ok (.iconst (-1), 1) := by decide +kernel
theorem dX12_left_31 : decode cX12_left 31 = .ok (.ireturn, 1) := by decide +kernel
theorem dX12_four_0 : decode cX12_four 0 = .ok (.bipush 24, 2) := by decide +kernel
theorem dX12_four_2 : decode cX12_four 2 = .ok (.istore_n 2, 1) := by decide +kernel
theorem dX12_four_3 : decode cX12_four 3 = .ok (.iload_n 2, 1) := by decide +kernel
theorem dX12_four_4 : decode cX12_four 4 = .ok (.ifCond .lt 35, 3) := by decide +kernel
theorem dX12_four_7 : decode cX12_four 7 = .ok (.aload_n 0, 1) := by decide +kernel
theorem dX12_four_8 : decode cX12_four 8 = .ok (.getfield 78, 3) := by decide +kernel
theorem dX12_four_11 : decode cX12_four 11 = .ok (.aload_n 0, 1) := by decide +kernel
theorem dX12_four_12 : decode cX12_four 12 = .ok (.getfield 187, 3) := by decide +kernel
theorem dX12_four_15 : decode cX12_four 15 = .ok (.iload_n 1, 1) := by decide +kernel
theorem dX12_four_16 : decode cX12_four 16 = .ok (.iload_n 2, 1) := by decide +kernel
theorem dX12_four_17 : decode cX12_four 17 = .ok (.ishr, 1) := by decide +kernel
theorem dX12_four_18 : decode cX12_four 18 = .ok (.sipush 255, 3) := by decide +kernel
theorem dX12_four_21 : decode cX12_four 21 = .ok (.iand, 1) := by decide +kernel
theorem dX12_four_22 : decode cX12_four 22 = .ok (.iastore, 1) := by decide +kernel
theorem dX12_four_23 : decode cX12_four 23 = .ok (.aload_n 0, 1) := by decide +kernel
theorem dX12_four_24 : decode cX12_four 24 = .ok (.dup, 1) := by decide +kernel
theorem dX12_four_25 : decode cX12_four 25 = .ok (.getfield 187, 3) := by decide +kernel
theorem dX12_four_28 : decode cX12_four 28 = .ok (.iconst 1, 1) := by decide +kernel
theorem dX12_four_29 : decode cX12_four 29 = .ok (.iadd, 1) := by decide +kernel
theorem dX12_four_30 : decode cX12_four 30 = .ok (.putfield 187, 3) := by decide +kernel
theorem dX12_four_33 : decode cX12_four 33 = .ok (.iinc 2 (-8), 3) := by decide +kernel
theorem dX12_four_36 : decode cX12_four 36 = .ok (.goto (-33), 3) := by decide +kernel
theorem dX12_four_39 : decode cX12_four 39 = .ok (.return_, 1) := by decide +kernel
theorem dX12_feed_0 : decode cX12_feed 0 = .ok (.aload_n 0, 1) := by decide +kernel
theorem dX12_feed_1 : decode cX12_feed 1 = .ok (.iconst 0, 1) := by decide +kernel
theorem dX12_feed_2 : decode cX12_feed 2 = .ok (.putfield 96, 3) := by decide +kernel
theorem dX12_feed_5 : decode cX12_feed 5 = .ok (.aload_n 0, 1) := by decide +kernel
theorem dX12_feed_6 : decode cX12_feed 6 = .ok (.getfield 187, 3) := by decide +kernel
theorem dX12_feed_9 : decode cX12_feed 9 = .ok (.bipush 20, 2) := by decide +kernel
theorem dX12_feed_11 : decode cX12_feed 11 = .ok (.iadd, 1) := by decide +kernel
theorem dX12_feed_12 : decode cX12_feed 12 = .ok (.sipush 300, 3) := by decide +kernel
theorem dX12_feed_15 : decode cX12_feed 15 = .ok (.if_icmp .le 5, 3) := by decide +kernel
theorem dX12_feed_18 : decode cX12_feed 18 = .ok (.iconst (-1), 1) := by decide +kernel
theorem dX12_feed_19 : decode cX12_feed 19 = .ok (.ireturn, 1) := by decide +kernel
theorem dX12_feed_20 : decode cX12_feed 20 = .ok (.aload_n 0, 1) := by decide +kernel
theorem dX12_feed_21 : decode cX12_feed 21 = .ok (.iload_n 1, 1) := by decide +kernel
theorem dX12_feed_22 : decode cX12_feed 22 = .ok (.invokevirtual 190, 3) := by decide +kernel
theorem dX12_feed_25 : decode cX12_feed 25 = .ok (.aload_n 0, 1) := by decide +kernel
theorem dX12_feed_26 : decode cX12_feed 26 = .ok (.iload_n 2, 1) := by decide +kernel
theorem dX12_feed_27 : decode cX12_feed 27 = .ok (.invokevirtual 190, 3) := by decide +kernel
theorem dX12_feed_30 : decode cX12_feed 30 = .ok (.aload_n 0, 1) := by decide +kernel
theorem dX12_feed_31 : decode cX12_feed 31 = .ok (.iload_n 3, 1) := by decide +kernel
theorem dX12_feed_32 : decode cX12_feed 32 = .ok (.invokevirtual 190, 3) := by decide +kernel
theorem dX12_feed_35 : decode cX12_feed 35 = .ok (.aload_n 0, 1) := by decide +kernel
theorem dX12_feed_36 : decode cX12_feed 36 = .ok (.iload 4, 2) := by decide +kernel
theorem dX12_feed_38 : decode cX12_feed 38 = .ok (.invokevirtual 190, 3) := by decide +kernel
theorem dX12_feed_41 : decode cX12_feed 41 = .ok (.aload_n 0, 1) := by decide +kernel
theorem dX12_feed_42 : decode cX12_feed 42 = .ok (.iload 5, 2) := by decide +kernel
theorem dX12_feed_44 : decode cX12_feed 44 = .ok (.invokevirtual 190, 3) := by decide +kernel
theorem dX12_feed_47 : decode cX12_feed 47 = .ok (.aload_n 0, 1) := by decide +kernel
theorem dX12_feed_48 : decode cX12_feed 48 = .ok (.getfield 187, 3) := by decide +kernel
theorem dX12_feed_51 : decode cX12_feed 51 = .ok (.ireturn, 1) := by decide +kernel
theorem dX12_end_0 : decode cX12_end 0 = .ok (.aload_n 0, 1) := by decide +kernel
theorem dX12_end_1 : decode cX12_end 1 = .ok (.iconst 0, 1) := by decide +kernel
theorem dX12_end_2 : decode cX12_end 2 = .ok (.putfield 96, 3) := by decide +kernel
theorem dX12_end_5 : decode cX12_end 5 = .ok (.iload_n 1, 1) := by decide +kernel
theorem dX12_end_6 : decode cX12_end 6 = .ok (.ifCond .lt 11, 3) := by decide +kernel
theorem dX12_end_9 : decode cX12_end 9 = .ok (.iload_n 1, 1) := by decide +kernel
theorem dX12_end_10 : decode cX12_end 10 = .ok (.aload_n 0, 1) := by decide +kernel
theorem dX12_end_11 : decode cX12_end 11 = .ok (.getfield 187, 3) := by decide +kernel
theorem dX12_end_14 : decode cX12_end 14 = .ok (.if_icmp .le 5, 3) := by decide +kernel
theorem dX12_end_17 : decode cX12_end 17 = .ok (.iconst (-1), 1) := by decide +kernel
theorem dX12_end_18 : decode cX12_end 18 = .ok (.ireturn, 1) := by decide +kernel
theorem dX12_end_19 : decode cX12_end 19 = .ok (.aload_n 0, 1) := by decide +kernel
theorem dX12_end_20 : decode cX12_end 20 = .ok (.iload_n 1, 1) := by decide +kernel
theorem dX12_end_21 : decode cX12_end 21 = .ok (.putfield 187, 3) := by decide +kernel
theorem dX12_end_24 : decode cX12_end 24 = .ok (.iload_n 1, 1) := by decide +kernel
theorem dX12_end_25 : decode cX12_end 25 = .ok (.ireturn, 1) := by decide +kernel
theorem dX12_isSmall_0 : decode cX12_isSmall 0 = .ok (.iload_n 0, 1) := by decide +kernel
theorem dX12_isSmall_1 : decode cX12_isSmall 1 = .ok (.bipush 97, 2) := by decide +kernel
theorem dX12_isSmall_3 : decode cX12_isSmall 3 = .ok (.if_icmp .lt 13, 3) := by decide +kernel
theorem dX12_isSmall_6 : decode cX12_isSmall 6 = .ok (.iload_n 0, 1) := by decide +kernel
theorem dX12_isSmall_7 : decode cX12_isSmall 7 = .ok (.bipush 122, 2) := by decide +kernel
theorem dX12_isSmall_9 : decode cX12_isSmall 9 = .ok (.if_icmp .gt 7, 3) := by decide +kernel
theorem dX12_isSmall_12 : decode cX12_isSmall 12 = .ok (.iconst 1, 1) := by decide +kernel
theorem dX12_isSmall_13 : decode cX12_isSmall 13 = .ok (.goto 4, 3) := by decide +kernel
theorem dX12_isSmall_16 : decode cX12_isSmall 16 = .ok (.iconst 0, 1) := by decide +kernel
theorem dX12_isSmall_17 : decode cX12_isSmall 17 = .ok (.ireturn, 1) := by decide +kernel
theorem dX12_isDigit_0 : decode cX12_isDigit 0 = .ok (.iload_n 0, 1) := by decide +kernel
theorem dX12_isDigit_1 : decode cX12_isDigit 1 = .ok (.bipush 48, 2) := by decide +kernel
theorem dX12_isDigit_3 : decode cX12_isDigit 3 = .ok (.if_icmp .lt 13, 3) := by decide +kernel
theorem dX12_isDigit_6 : decode cX12_isDigit 6 = .ok (.iload_n 0, 1) := by decide +kernel
theorem dX12_isDigit_7 : decode cX12_isDigit 7 = .ok (.bipush 57, 2) := by decide +kernel
theorem dX12_isDigit_9 : decode cX12_isDigit 9 = .ok (.if_icmp .gt 7, 3) := by decide +kernel
theorem dX12_isDigit_12 : decode cX12_isDigit 12 = .ok (.iconst 1, 1) := by decide +kernel
theorem dX12_isDigit_13 : decode cX12_isDigit 13 = .ok (.goto 4, 3) := by decide +kernel
theorem dX12_isDigit_16 : decode cX12_isDigit 16 = .ok (.iconst 0, 1) := by decide +kernel
theorem dX12_isDigit_17 : decode cX12_isDigit 17 = .ok (.ireturn, 1) := by decide +kernel
theorem dX12_next_0 : decode cX12_next 0 = .ok (.aload_n 0, 1) := by decide +kernel
theorem dX12_next_1 : decode cX12_next 1 = .ok (.aload_n 0, 1) := by decide +kernel
theorem dX12_next_2 : decode cX12_next 2 = .ok (.getfield 193, 3) := by decide +kernel
theorem dX12_next_5 : decode cX12_next 5 = .ok (.putfield 196, 3) := by decide +kernel
theorem dX12_next_8 : decode cX12_next 8 = .ok (.aload_n 0, 1) := by decide +kernel
theorem dX12_next_9 : decode cX12_next 9 = .ok (.getfield 196, 3) := by decide +kernel
theorem dX12_next_12 : decode cX12_next 12 = .ok (.aload_n 0, 1) := by decide +kernel
theorem dX12_next_13 : decode cX12_next 13 = .ok (.getfield 187, 3) := by decide +kernel
theorem dX12_next_16 : decode cX12_next 16 = .ok (.if_icmp .ge 30, 3) := by decide +kernel
theorem dX12_next_19 : decode cX12_next 19 = .ok (.aload_n 0, 1) := by decide +kernel
theorem dX12_next_20 : decode cX12_next 20 = .ok (.getfield 78, 3) := by decide +kernel
theorem dX12_next_23 : decode cX12_next 23 = .ok (.aload_n 0, 1) := by decide +kernel
theorem dX12_next_24 : decode cX12_next 24 = .ok (.getfield 196, 3) := by decide +kernel
theorem dX12_next_27 : decode cX12_next 27 = .ok (.iaload, 1) := by decide +kernel
theorem dX12_next_28 : decode cX12_next 28 = .ok (.bipush 32, 2) := by decide +kernel
theorem dX12_next_30 : decode cX12_next 30 = .ok (.if_icmp .ne 16, 3) := by decide +kernel
theorem dX12_next_33 : decode cX12_next 33 = .ok (.aload_n 0, 1) := by decide +kernel
theorem dX12_next_34 : decode cX12_next 34 = .ok (.dup, 1) := by decide +kernel
theorem dX12_next_35 : decode cX12_next 35 = .ok (.getfield 196, 3) := by decide +kernel
theorem dX12_next_38 : decode cX12_next 38 = .ok (.iconst 1, 1) := by decide +kernel
theorem dX12_next_39 : decode cX12_next 39 = .ok (.iadd, 1) := by decide +kernel
theorem dX12_next_40 : decode cX12_next 40 = .ok (.putfield 196, 3) := by decide +kernel
theorem dX12_next_43 : decode cX12_next 43 = .ok (.goto (-35), 3) := by decide +kernel
theorem dX12_next_46 : decode cX12_next 46 = .ok (.aload_n 0, 1) := by decide +kernel
theorem dX12_next_47 : decode cX12_next 47 = .ok (.aload_n 0, 1) := by decide +kernel
theorem dX12_next_48 : decode cX12_next 48 = .ok (.getfield 196, 3) := by decide +kernel
theorem dX12_next_51 : decode cX12_next 51 = .ok (.putfield 193, 3) := by decide +kernel
theorem dX12_next_54 : decode cX12_next 54 = .ok (.aload_n 0, 1) := by decide +kernel
theorem dX12_next_55 : decode cX12_next 55 = .ok (.lconst 0, 1) := by decide +kernel
theorem dX12_next_56 : decode cX12_next 56 = .ok (.putfield 199, 3) := by decide +kernel
theorem dX12_next_59 : decode cX12_next 59 = .ok (.aload_n 0, 1) := by decide +kernel
theorem dX12_next_60 : decode cX12_next 60 = .ok (.aload_n 0, 1) := by decide +kernel
theorem dX12_next_61 : decode cX12_next 61 = .ok (.getfield 196, 3) := by decide +kernel
theorem dX12_next_64 : decode cX12_next 64 = .ok (.aload_n 0, 1) := by decide +kernel
theorem dX12_next_65 : decode cX12_next 65 = .ok (.getfield 187, 3) := by decide +kernel
theorem dX12_next_68 : decode cX12_next 68 = .ok (.if_icmp .ne 7, 3) := by decide +kernel
theorem dX12_next_71 : decode cX12_next 71 = .ok (.iconst 0, 1) := by decide +kernel
theorem dX12_next_72 : decode cX12_next 72 = .ok (.goto 42, 3) := by decide +kernel
theorem dX12_next_75 : decode cX12_next 75 = .ok (.aload_n 0, 1) := by decide +kernel
theorem dX12_next_76 : decode cX12_next 76 = .ok (.getfield 78, 3) := by decide +kernel
theorem dX12_next_79 : decode cX12_next 79 = .ok (.aload_n 0, 1) := by decide +kernel
theorem dX12_next_80 : decode cX12_next 80 = .ok (.getfield 196, 3) := by decide +kernel
theorem dX12_next_83 : decode cX12_next 83 = .ok (.iaload, 1) := by decide +kernel
theorem dX12_next_84 : decode cX12_next 84 = .ok (.invokestatic 203, 3) := by decide +kernel
theorem dX12_next_87 : decode cX12_next 87 = .ok (.ifCond .eq 7, 3) := by decide +kernel
theorem dX12_next_90 : decode cX12_next 90 = .ok (.iconst 1, 1) := by decide +kernel
theorem dX12_next_91 : decode cX12_next 91 = .ok (.goto 23, 3) := by decide +kernel
theorem dX12_next_94 : decode cX12_next 94 = .ok (.aload_n 0, 1) := by decide +kernel
theorem dX12_next_95 : decode cX12_next 95 = .ok (.getfield 78, 3) := by decide +kernel
theorem dX12_next_98 : decode cX12_next 98 = .ok (.aload_n 0, 1) := by decide +kernel
theorem dX12_next_99 : decode cX12_next 99 = .ok (.getfield 196, 3) := by decide +kernel
theorem dX12_next_102 : decode cX12_next 102 = .ok (.iaload, 1) := by decide +kernel
theorem dX12_next_103 : decode cX12_next 103 = .ok (.invokestatic 206, 3) := by decide +kernel
theorem dX12_next_106 : decode cX12_next 106 = .ok (.ifCond .eq 7, 3) := by decide +kernel
theorem dX12_next_109 : decode cX12_next 109 = .ok (.iconst 2, 1) := by decide +kernel
theorem dX12_next_110 : decode cX12_next 110 = .ok (.goto 4, 3) := by decide +kernel
theorem dX12_next_113 : decode cX12_next 113 = .ok (.iconst 3, 1) := by decide +kernel
theorem dX12_next_114 : decode cX12_next 114 = .ok (.putfield 209, 3) := by decide +kernel
theorem dX12_next_117 : decode cX12_next 117 = .ok (.aload_n 0, 1) := by decide +kernel
theorem dX12_next_118 : decode cX12_next 118 = .ok (.getfield 209, 3) := by decide +kernel
theorem dX12_next_121 : decode cX12_next 121 = .ok (.iconst 3, 1) := by decide +kernel
theorem dX12_next_122 : decode cX12_next 122 = .ok (.if_icmp .ne 27, 3) := by decide +kernel
theorem dX12_next_125 : decode cX12_next 125 = .ok (.aload_n 0, 1) := by decide +kernel
theorem dX12_next_126 : decode cX12_next 126 = .ok (.aload_n 0, 1) := by decide +kernel
theorem dX12_next_127 : decode cX12_next 127 = .ok (.getfield 78, 3) := by decide +kernel
theorem dX12_next_130 : decode cX12_next 130 = .ok (.aload_n 0, 1) := by decide +kernel
theorem dX12_next_131 : decode cX12_next 131 = .ok (.getfield 196, 3) := by decide +kernel
theorem dX12_next_134 : decode cX12_next 134 = .ok (.iaload, 1) := by decide +kernel
theorem dX12_next_135 : decode cX12_next 135 = .ok (.i2l, 1) := by decide +kernel
theorem dX12_next_136 : decode cX12_next 136 = .ok (.putfield 199, 3) := by decide +kernel
theorem dX12_next_139 : decode cX12_next 139 = .ok (.aload_n 0, 1) := by decide +kernel
theorem dX12_next_140 : decode cX12_next 140 = .ok (.dup, 1) := by decide +kernel
theorem dX12_next_141 : decode cX12_next 141 = .ok (.getfield 193, 3) := by decide +kernel
theorem dX12_next_144 : decode cX12_next 144 = .ok (.iconst 1, 1) := by decide +kernel
theorem dX12_next_145 : decode cX12_next 145 = .ok (.iadd, 1) := by decide +kernel
theorem dX12_next_146 : decode cX12_next 146 = .ok (.putfield 193, 3) := by decide +kernel
theorem dX12_next_149 : decode cX12_next 149 = .ok (.aload_n 0, 1) := by decide +kernel
theorem dX12_next_150 : decode cX12_next 150 = .ok (.getfield 209, 3) := by decide +kernel
theorem dX12_next_153 : decode cX12_next 153 = .ok (.iconst 1, 1) := by decide +kernel
theorem dX12_next_154 : decode cX12_next 154 = .ok (.if_icmp .ne 89, 3) := by decide +kernel
theorem dX12_next_157 : decode cX12_next 157 = .ok (.aload_n 0, 1) := by decide +kernel
theorem dX12_next_158 : decode cX12_next 158 = .ok (.getfield 193, 3) := by decide +kernel
theorem dX12_next_161 : decode cX12_next 161 = .ok (.aload_n 0, 1) := by decide +kernel
theorem dX12_next_162 : decode cX12_next 162 = .ok (.getfield 187, 3) := by decide +kernel
theorem dX12_next_165 : decode cX12_next 165 = .ok (.if_icmp .ge 78, 3) := by decide +kernel
theorem dX12_next_168 : decode cX12_next 168 = .ok (.aload_n 0, 1) := by decide +kernel
theorem dX12_next_169 : decode cX12_next 169 = .ok (.getfield 78, 3) := by decide +kernel
theorem dX12_next_172 : decode cX12_next 172 = .ok (.aload_n 0, 1) := by decide +kernel
theorem dX12_next_173 : decode cX12_next 173 = .ok (.getfield 193, 3) := by decide +kernel
theorem dX12_next_176 : decode cX12_next 176 = .ok (.iaload, 1) := by decide +kernel
theorem dX12_next_177 : decode cX12_next 177 = .ok (.invokestatic 203, 3) := by decide +kernel
theorem dX12_next_180 : decode cX12_next 180 = .ok (.ifCond .eq 63, 3) := by decide +kernel
theorem dX12_next_183 : decode cX12_next 183 = .ok (.aload_n 0, 1) := by decide +kernel
theorem dX12_next_184 : decode cX12_next 184 = .ok (.aload_n 0, 1) := by decide +kernel
theorem dX12_next_185 : decode cX12_next 185 = .ok (.getfield 193, 3) := by decide +kernel
theorem dX12_next_188 : decode cX12_next 188 = .ok (.aload_n 0, 1) := by decide +kernel
theorem dX12_next_189 : decode cX12_next 189 = .ok (.getfield 196, 3) := by decide +kernel
theorem dX12_next_192 : decode cX12_next 192 = .ok (.isub, 1) := by decide +kernel
theorem dX12_next_193 : decode cX12_next 193 = .ok (.bipush 8, 2) := by decide +kernel
theorem dX12_next_195 : decode cX12_next 195 = .ok (.if_icmp .ge 29, 3) := by decide +kernel
theorem dX12_next_198 : decode cX12_next 198 = .ok (.aload_n 0, 1) := by decide +kernel
theorem dX12_next_199 : decode cX12_next 199 = .ok (.getfield 199, 3) := by decide +kernel
theorem dX12_next_202 : decode cX12_next 202 = .ok (.ldc2_w 212, 3) := by decide +kernel
theorem dX12_next_205 : decode cX12_next 205 = .ok (.lmul, 1) := by decide +kernel
theorem dX12_next_206 : decode cX12_next 206 = .ok (.aload_n 0, 1) := by decide +kernel
theorem dX12_next_207 : decode cX12_next 207 = .ok (.getfield 78, 3) := by decide +kernel
theorem dX12_next_210 : decode cX12_next 210 = .ok (.aload_n 0, 1) := by decide +kernel
theorem dX12_next_211 : decode cX12_next 211 = .ok (.getfield 193, 3) := by decide +kernel
theorem dX12_next_214 : decode cX12_next 214 = .ok (.iaload, 1) := by decide +kernel
theorem dX12_next_215 : decode cX12_next 215 = .ok (.i2l, 1) := by decide +kernel
theorem dX12_next_216 : decode cX12_next 216 = .ok (.ladd, 1) := by decide +kernel
theorem dX12_next_217 : decode cX12_next 217 = .ok (.ldc2_w 214, 3) := by decide +kernel
theorem dX12_next_220 : decode cX12_next 220 = .ok (.lsub, 1) := by decide +kernel
theorem dX12_next_221 : decode cX12_next 221 = .ok (.goto 6, 3) := by decide +kernel
theorem dX12_next_224 : decode cX12_next 224 = .ok (.ldc2_w 216, 3) := by decide +kernel
theorem dX12_next_227 : decode cX12_next 227 = .ok (.putfield 199, 3) := by decide +kernel
theorem dX12_next_230 : decode cX12_next 230 = .ok (.aload_n 0, 1) := by decide +kernel
theorem dX12_next_231 : decode cX12_next 231 = .ok (.dup, 1) := by decide +kernel
theorem dX12_next_232 : decode cX12_next 232 = .ok (.getfield 193, 3) := by decide +kernel
theorem dX12_next_235 : decode cX12_next 235 = .ok (.iconst 1, 1) := by decide +kernel
theorem dX12_next_236 : decode cX12_next 236 = .ok (.iadd, 1) := by decide +kernel
theorem dX12_next_237 : decode cX12_next 237 = .ok (.putfield 193, 3) := by decide +kernel
theorem dX12_next_240 : decode cX12_next 240 = .ok (.goto (-91), 3) := by decide +kernel
theorem dX12_next_243 : decode cX12_next 243 = .ok (.aload_n 0, 1) := by decide +kernel
theorem dX12_next_244 : decode cX12_next 244 = .ok (.getfield 209, 3) := by decide +kernel
theorem dX12_next_247 : decode cX12_next 247 = .ok (.iconst 2, 1) := by decide +kernel
theorem dX12_next_248 : decode cX12_next 248 = .ok (.if_icmp .ne 87, 3) := by decide +kernel
theorem dX12_next_251 : decode cX12_next 251 = .ok (.aload_n 0, 1) := by decide +kernel
theorem dX12_next_252 : decode cX12_next 252 = .ok (.getfield 193, 3) := by decide +kernel
theorem dX12_next_255 : decode cX12_next 255 = .ok (.aload_n 0, 1) := by decide +kernel
theorem dX12_next_256 : decode cX12_next 256 = .ok (.getfield 187, 3) := by decide +kernel
theorem dX12_next_259 : decode cX12_next 259 = .ok (.if_icmp .ge 76, 3) := by decide +kernel
theorem dX12_next_262 : decode cX12_next 262 = .ok (.aload_n 0, 1) := by decide +kernel
theorem dX12_next_263 : decode cX12_next 263 = .ok (.getfield 78, 3) := by decide +kernel
theorem dX12_next_266 : decode cX12_next 266 = .ok (.aload_n 0, 1) := by decide +kernel
theorem dX12_next_267 : decode cX12_next 267 = .ok (.getfield 193, 3) := by decide +kernel
theorem dX12_next_270 : decode cX12_next 270 = .ok (.iaload, 1) := by decide +kernel
theorem dX12_next_271 : decode cX12_next 271 = .ok (.invokestatic 206, 3) := by decide +kernel
theorem dX12_next_274 : decode cX12_next 274 = .ok (.ifCond .eq 61, 3) := by decide +kernel
theorem dX12_next_277 : decode cX12_next 277 = .ok (.aload_n 0, 1) := by decide +kernel
theorem dX12_next_278 : decode cX12_next 278 = .ok (.aload_n 0, 1) := by decide +kernel
theorem dX12_next_279 : decode cX12_next 279 = .ok (.getfield 199, 3) := by decide +kernel
theorem dX12_next_282 : decode cX12_next 282 = .ok (.ldc2_w 176, 3) := by decide +kernel
theorem dX12_next_285 : decode cX12_next 285 = .ok (.lcmp, 1) := by decide +kernel
theorem dX12_next_286 : decode cX12_next 286 = .ok (.ifCond .le 10, 3) := by decide +kernel
theorem dX12_next_289 : decode cX12_next 289 = .ok (.aload_n 0, 1) := by decide +kernel
theorem dX12_next_290 : decode cX12_next 290 = .ok (.getfield 199, 3) := by decide +kernel
theorem dX12_next_293 : decode cX12_next 293 = .ok (.goto 26, 3) := by decide +kernel
theorem dX12_next_296 : decode cX12_next 296 = .ok (.aload_n 0, 1) := by decide +kernel
theorem dX12_next_297 : decode cX12_next 297 = .ok (.getfield 199, 3) := by decide +kernel
theorem dX12_next_300 : decode cX12_next 300 = .ok (.ldc2_w 122, 3) := by decide +kernel
theorem dX12_next_303 : decode cX12_next 303 = .ok (.lmul, 1) := by decide +kernel
theorem dX12_next_304 : decode cX12_next 304 = .ok (.aload_n 0, 1) := by decide +kernel
theorem dX12_next_305 : decode cX12_next 305 = .ok (.getfield 78, 3) := by decide +kernel
theorem dX12_next_308 : decode cX12_next 308 = .ok (.aload_n 0, 1) := by decide +kernel
theorem dX12_next_309 : decode cX12_next 309 = .ok (.getfield 193, 3) := by decide +kernel
theorem dX12_next_312 : decode cX12_next 312 = .ok (.iaload, 1) := by decide +kernel
theorem dX12_next_313 : decode cX12_next 313 = .ok (.i2l, 1) := by decide +kernel
theorem dX12_next_314 : decode cX12_next 314 = .ok (.ladd, 1) := by decide +kernel
theorem dX12_next_315 : decode cX12_next 315 = .ok (.ldc2_w 218, 3) := by decide +kernel
theorem dX12_next_318 : decode cX12_next 318 = .ok (.lsub, 1) := by decide +kernel
theorem dX12_next_319 : decode cX12_next 319 = .ok (.putfield 199, 3) := by decide +kernel
theorem dX12_next_322 : decode cX12_next 322 = .ok (.aload_n 0, 1) := by decide +kernel
theorem dX12_next_323 : decode cX12_next 323 = .ok (.dup, 1) := by decide +kernel
theorem dX12_next_324 : decode cX12_next 324 = .ok (.getfield 193, 3) := by decide +kernel
theorem dX12_next_327 : decode cX12_next 327 = .ok (.iconst 1, 1) := by decide +kernel
theorem dX12_next_328 : decode cX12_next 328 = .ok (.iadd, 1) := by decide +kernel
theorem dX12_next_329 : decode cX12_next 329 = .ok (.putfield 193, 3) := by decide +kernel
theorem dX12_next_332 : decode cX12_next 332 = .ok (.goto (-89), 3) := by decide +kernel
theorem dX12_next_335 : decode cX12_next 335 = .ok (.return_, 1) := by decide +kernel
