theorem dX7_init_0 : decode cX7_init 0 = .ok (.aload_n 0, 1) := by decide +kernel
theorem dX7_init_1 : decode cX7_init 1 = .ok (.invokespecial 3, 3) := by decide +kernel
theorem dX7_init_4 : decode cX7_init 4 = .ok (.aload_n 0, 1) := by decide +kernel
theorem dX7_init_5 : decode cX7_init 5 = .ok (.iconst 0, 1) := by decide +kernel
theorem dX7_init_6 : decode cX7_init 6 = .ok (.putfield 9, 3) := by decide +kernel
theorem dX7_init_9 : decode cX7_init 9 = .ok (.aload_n 0, 1) := by decide +kernel
theorem dX7_init_10 : decode cX7_init 10 = .ok (.iconst 0, 1) := by decide +kernel
theorem dX7_init_11 : decode cX7_init 11 = .ok (.putfield 15, 3) := by decide +kernel
theorem dX7_init_14 : decode cX7_init 14 = .ok (.aload_n 0, 1) := by decide +kernel
theorem dX7_init_15 : decode cX7_init 15 = .ok (.aload_n 1, 1) := by decide +kernel
theorem dX7_init_16 : decode cX7_init 16 = .ok (.putfield 18, 3) := by decide +kernel
theorem dX7_init_19 : decode cX7_init 19 = .ok (.return_, 1) := by decide +kernel
theorem dX7_read_0 : decode cX7_read 0 = .ok (.aload_n 1, 1) := by decide +kernel
theorem dX7_read_1 : decode cX7_read 1 = .ok (.invokevirtual 22, 3) := by decide +kernel
theorem dX7_read_4 : decode cX7_read 4 = .ok (.aload_n 0, 1) := by decide +kernel
theorem dX7_read_5 : decode cX7_read 5 = .ok (.iconst 0, 1) := by decide +kernel
theorem dX7_read_6 : decode cX7_read 6 = .ok (.putfield 15, 3) := by decide +kernel
theorem dX7_read_9 : decode cX7_read 9 = .ok (.aload_n 0, 1) := by decide +kernel
theorem dX7_read_10 : decode cX7_read 10 = .ok (.invokevirtual 27, 3) := by decide +kernel
theorem dX7_read_13 : decode cX7_read 13 = .ok (.aload_n 0, 1) := by decide +kernel
theorem dX7_read_14 : decode cX7_read 14 = .ok (.invokevirtual 30, 3) := by decide +kernel
theorem dX7_read_17 : decode cX7_read 17 = .ok (.ifCond .eq 5, 3) := by decide +kernel
theorem dX7_read_20 : decode cX7_read 20 = .ok (.iconst (-1), 1) := by decide +kernel
theorem dX7_read_21 : decode cX7_read 21 = .ok (.ireturn, 1) := by decide +kernel
theorem dX7_read_22 : decode cX7_read 22 = .ok (.iconst 0, 1) := by decide +kernel
theorem dX7_read_23 : decode cX7_read 23 = .ok (.istore_n 2, 1) := by decide +kernel
theorem dX7_read_24 : decode cX7_read 24 = .ok (.iload_n 2, 1) := by decide +kernel
theorem dX7_read_25 : decode cX7_read 25 = .ok (.bipush 20, 2) := by decide +kernel
theorem dX7_read_27 : decode cX7_read 27 = .ok (.if_icmp .ge 49, 3) := by decide +kernel
theorem dX7_read_30 : decode cX7_read 30 = .ok (.aload_n 0, 1) := by decide +kernel
theorem dX7_read_31 : decode cX7_read 31 = .ok (.aload_n 1, 1) := by decide +kernel
theorem dX7_read_32 : decode cX7_read 32 = .ok (.invokevirtual 34, 3) := by decide +kernel
theorem dX7_read_35 : decode cX7_read 35 = .ok (.ifCond .ne 8, 3) := by decide +kernel
theorem dX7_read_38 : decode cX7_read 38 = .ok (.aload_n 0, 1) := by decide +kernel
theorem dX7_read_39 : decode cX7_read 39 = .ok (.getfield 9, 3) := by decide +kernel
theorem dX7_read_42 : decode cX7_read 42 = .ok (.ireturn, 1) := by decide +kernel
theorem dX7_read_43 : decode cX7_read 43 = .ok (.aload_n 0, 1) := by decide +kernel
theorem dX7_read_44 : decode cX7_read 44 = .ok (.invokevirtual 30, 3) := by decide +kernel
theorem dX7_read_47 : decode cX7_read 47 = .ok (.ifCond .eq 5, 3) := by decide +kernel
theorem dX7_read_50 : decode cX7_read 50 = .ok (.iconst (-1), 1) := by decide +kernel
theorem dX7_read_51 : decode cX7_read 51 = .ok (.ireturn, 1) := by decide +kernel
theorem dX7_read_52 : decode cX7_read 52 = .ok (.aload_n 0, 1) := by decide +kernel
theorem dX7_read_53 : decode cX7_read 53 = .ok (.ldc 38, 2) := by decide +kernel
theorem dX7_read_55 : decode cX7_read 55 = .ok (.invokevirtual 40, 3) := by decide +kernel
theorem dX7_read_58 : decode cX7_read 58 = .ok (.ifCond .ne 8, 3) := by decide +kernel
theorem dX7_read_61 : decode cX7_read 61 = .ok (.aload_n 0, 1) := by decide +kernel
theorem dX7_read_62 : decode cX7_read 62 = .ok (.getfield 9, 3) := by decide +kernel
theorem dX7_read_65 : decode cX7_read 65 = .ok (.ireturn, 1) := by decide +kernel
theorem dX7_read_66 : decode cX7_read 66 = .ok (.aload_n 0, 1) := by decide +kernel
theorem dX7_read_67 : decode cX7_read 67 = .ok (.invokevirtual 27, 3) := by decide +kernel
theorem dX7_read_70 : decode cX7_read 70 = .ok (.iinc 2 1, 3) := by decide +kernel
theorem dX7_read_73 : decode cX7_read 73 = .ok (.goto (-49), 3) := by decide +kernel
theorem dX7_read_76 : decode cX7_read 76 = .ok (.aload_n 0, 1) := by decide +kernel
theorem dX7_read_77 : decode cX7_read 77 = .ok (.getfield 9, 3) := by decide +kernel
theorem dX7_read_80 : decode cX7_read 80 = .ok (.ireturn, 1) := by decide +kernel
theorem dX7_readRule_0 : decode cX7_readRule 0 = .ok (.aload_n 0, 1) := by decide +kernel
theorem dX7_readRule_1 : decode cX7_readRule 1 = .ok (.invokevirtual 44, 3) := by decide +kernel
theorem dX7_readRule_4 : decode cX7_readRule 4 = .ok (.istore_n 2, 1) := by decide +kernel
theorem dX7_readRule_5 : decode cX7_readRule 5 = .ok (.iload_n 2, 1) := by decide +kernel
theorem dX7_readRule_6 : decode cX7_readRule 6 = .ok (.iconst (-1), 1) := by decide +kernel
theorem dX7_readRule_7 : decode cX7_readRule 7 = .ok (.if_icmp .ne 5, 3) := by decide +kernel
theorem dX7_readRule_10 : decode cX7_readRule 10 = .ok (.iconst 0, 1) := by decide +kernel
theorem dX7_readRule_11 : decode cX7_readRule 11 = .ok (.ireturn, 1) := by decide +kernel
theorem dX7_readRule_12 : decode cX7_readRule 12 = .ok (.aload_n 0, 1) := by decide +kernel
theorem dX7_readRule_13 : decode cX7_readRule 13 = .ok (.invokevirtual 27, 3) := by decide +kernel
theorem dX7_readRule_16 : decode cX7_readRule 16 = .ok (.iload_n 2, 1) := by decide +kernel
theorem dX7_readRule_17 : decode cX7_readRule 17 = .ok (.invokestatic 48, 3) := by decide +kernel
theorem dX7_readRule_20 : decode cX7_readRule 20 = .ok (.astore_n 3, 1) := by decide +kernel
theorem dX7_readRule_21 : decode cX7_readRule 21 = .ok (.aload_n 3, 1) := by decide +kernel
theorem dX7_readRule_22 : decode cX7_readRule 22 = .ok (.invokevirtual 52, 3) := by decide +kernel
theorem dX7_readRule_25 : decode cX7_readRule 25 = .ok (.ifCond .ne 13, 3) := by decide +kernel
theorem dX7_readRule_28 : decode cX7_readRule 28 = .ok (.aload_n 0, 1) := by decide +kernel
theorem dX7_readRule_29 : decode cX7_readRule 29 = .ok (.aload_n 3, 1) := by decide +kernel
theorem dX7_readRule_30 : decode cX7_readRule 30 = .ok (.invokevirtual 57, 3) := by decide +kernel
theorem dX7_readRule_33 : decode cX7_readRule 33 = .ok (.ifCond .ne 5, 3) := by decide +kernel
theorem dX7_readRule_36 : decode cX7_readRule 36 = .ok (.iconst 0, 1) := by decide +kernel
theorem dX7_readRule_37 : decode cX7_readRule 37 = .ok (.ireturn, 1) := by decide +kernel
theorem dX7_readRule_38 : decode cX7_readRule 38 = .ok (.aload_n 0, 1) := by decide +kernel
theorem dX7_readRule_39 : decode cX7_readRule 39 = .ok (.iconst 0, 1) := by decide +kernel
theorem dX7_readRule_40 : decode cX7_readRule 40 = .ok (.invokevirtual 60, 3) := by decide +kernel
theorem dX7_readRule_43 : decode cX7_readRule 43 = .ok (.istore 4, 2) := by decide +kernel
theorem dX7_readRule_45 : decode cX7_readRule 45 = .ok (.iload 4, 2) := by decide +kernel
theorem dX7_readRule_47 : decode cX7_readRule 47 = .ok (.iconst (-1), 1) := by decide +kernel
theorem dX7_readRule_48 : decode cX7_readRule 48 = .ok (.if_icmp .ne 5, 3) := by decide +kernel
theorem dX7_readRule_51 : decode cX7_readRule 51 = .ok (.iconst 0, 1) := by decide +kernel
theorem dX7_readRule_52 : decode cX7_readRule 52 = .ok (.ireturn, 1) := by decide +kernel
theorem dX7_readRule_53 : decode cX7_readRule 53 = .ok (.iload_n 2, 1) := by decide +kernel
theorem dX7_readRule_54 : decode cX7_readRule 54 = .ok (.invokestatic 64, 3) := by decide +kernel
theorem dX7_readRule_57 : decode cX7_readRule 57 = .ok (.astore 5, 2) := by decide +kernel
theorem dX7_readRule_59 : decode cX7_readRule 59 = .ok (.aload 5, 2) := by decide +kernel
theorem dX7_readRule_61 : decode cX7_readRule 61 = .ok (.invokevirtual 52, 3) := by decide +kernel
theorem dX7_readRule_64 : decode cX7_readRule 64 = .ok (.ifCond .eq 13, 3) := by decide +kernel
theorem dX7_readRule_67 : decode cX7_readRule 67 = .ok (.aload_n 1, 1) := by decide +kernel
theorem dX7_readRule_68 : decode cX7_readRule 68 = .ok (.iload_n 2, 1) := by decide +kernel
theorem dX7_readRule_69 : decode cX7_readRule 69 = .ok (.iload 4, 2) := by decide +kernel
theorem dX7_readRule_71 : decode cX7_readRule 71 = .ok (.iconst 0, 1) := by decide +kernel
theorem dX7_readRule_72 : decode cX7_readRule 72 = .ok (.invokevirtual 67, 3) := by decide +kernel
theorem dX7_readRule_75 : decode cX7_readRule 75 = .ok (.iconst 1, 1) := by decide +kernel
theorem dX7_readRule_76 : decode cX7_readRule 76 = .ok (.ireturn, 1) := by decide +kernel
theorem dX7_readRule_77 : decode cX7_readRule 77 = .ok (.aload_n 0, 1) := by decide +kernel
theorem dX7_readRule_78 : decode cX7_readRule 78 = .ok (.aload 5, 2) := by decide +kernel
theorem dX7_readRule_80 : decode cX7_readRule 80 = .ok (.invokevirtual 57, 3) := by decide +kernel
theorem dX7_readRule_83 : decode cX7_readRule 83 = .ok (.ifCond .ne 5, 3) := by decide +kernel
theorem dX7_readRule_86 : decode cX7_readRule 86 = .ok (.iconst 0, 1) := by decide +kernel
theorem dX7_readRule_87 : decode cX7_readRule 87 = .ok (.ireturn, 1) := by decide +kernel
theorem dX7_readRule_88 : decode cX7_readRule 88 = .ok (.aload_n 0, 1) := by decide +kernel
theorem dX7_readRule_89 : decode cX7_readRule 89 = .ok (.iload_n 2, 1) := by decide +kernel
theorem dX7_readRule_90 : decode cX7_readRule 90 = .ok (.bipush 8, 2) := by decide +kernel
theorem dX7_readRule_92 : decode cX7_readRule 92 = .ok (.if_icmp .ne 7, 3) := by decide +kernel
theorem dX7_readRule_95 : decode cX7_readRule 95 = .ok (.iconst 1, 1) := by decide +kernel
theorem dX7_readRule_96 : decode cX7_readRule 96 = .ok (.goto 5, 3) := by decide +kernel
theorem dX7_readRule_99 : decode cX7_readRule 99 = .ok (.iload 4, 2) := by decide +kernel
theorem dX7_readRule_101 : decode cX7_readRule 101 = .ok (.invokevirtual 60, 3) := by decide +kernel
theorem dX7_readRule_104 : decode cX7_readRule 104 = .ok (.istore 6, 2) := by decide +kernel
theorem dX7_readRule_106 : decode cX7_readRule 106 = .ok (.iload 6, 2) := by decide +kernel
theorem dX7_readRule_108 : decode cX7_readRule 108 = .ok (.iconst (-1), 1) := by decide +kernel
theorem dX7_readRule_109 : decode cX7_readRule 109 = .ok (.if_icmp .ne 5, 3) := by decide +kernel
theorem dX7_readRule_112 : decode cX7_readRule 112 = .ok (.iconst 0, 1) := by decide +kernel
theorem dX7_readRule_113 : decode cX7_readRule 113 = .ok (.ireturn, 1) := by decide +kernel
theorem dX7_readRule_114 : decode cX7_readRule 114 = .ok (.aload_n 1, 1) := by decide +kernel
theorem dX7_readRule_115 : decode cX7_readRule 115 = .ok (.iload_n 2, 1) := by decide +kernel
theorem dX7_readRule_116 : decode cX7_readRule 116 = .ok (.iload 4, 2) := by decide +kernel
theorem dX7_readRule_118 : decode cX7_readRule 118 = .ok (.iload 6, 2) := by decide +kernel
theorem dX7_readRule_120 : decode cX7_readRule 120 = .ok (.invokevirtual 67, 3) := by decide +kernel
theorem dX7_readRule_123 : decode cX7_readRule 123 = .ok (.iconst 1, 1) := by decide +kernel
theorem dX7_readRule_124 : decode cX7_readRule 124 = .ok (.ireturn, 1) := by decide +kernel
theorem dX7_kindHere_0 : decode cX7_kindHere 0 = .ok (.iconst 0, 1) := by decide +kernel
theorem dX7_kindHere_1 : decode cX7_kindHere 1 = .ok (.istore_n 1, 1) := by decide +kernel
theorem dX7_kindHere_2 : decode cX7_kindHere 2 = .ok (.iload_n 1, 1) := by decide +kernel
theorem dX7_kindHere_3 : decode cX7_kindHere 3 = .ok (.bipush 9, 2) := by decide +kernel
theorem dX7_kindHere_5 : decode cX7_kindHere 5 = .ok (.if_icmp .ge 22, 3) := by decide +kernel
theorem dX7_kindHere_8 : decode cX7_kindHere 8 = .ok (.aload_n 0, 1) := by decide +kernel
theorem dX7_kindHere_9 : decode cX7_kindHere 9 = .ok (.iload_n 1, 1) := by decide +kernel
theorem dX7_kindHere_10 : decode cX7_kindHere 10 = .ok (.invokestatic 71, 3) := by decide +kernel
theorem dX7_kindHere_13 : decode cX7_kindHere 13 = .ok (.invokevirtual 40, 3) := by decide +kernel
theorem dX7_kindHere_16 : decode cX7_kindHere 16 = .ok (.ifCond .eq 5, 3) := by decide +kernel
theorem dX7_kindHere_19 : decode cX7_kindHere 19 = .ok (.iload_n 1, 1) := by decide +kernel
theorem dX7_kindHere_20 : decode cX7_kindHere 20 = .ok (.ireturn, 1) := by decide +kernel
theorem dX7_kindHere_21 : decode cX7_kindHere 21 = .ok (.iinc 1 1, 3) := by decide +kernel
theorem dX7_kindHere_24 : decode cX7_kindHere 24 = .ok (.goto (-22), 3) := by decide +kernel
theorem dX7_kindHere_27 : decode cX7_kindHere 27 = .ok (.iconst (-1), 1) := by decide +kernel
theorem dX7_kindHere_28 : decode cX7_kindHere 28 = .ok (.ireturn, 1) := by decide +kernel
theorem dX7_nameOf_0 : decode cX7_nameOf 0 = .ok (.iload_n 0, 1) := by decide +kernel
theorem dX7_nameOf_1 : decode cX7_nameOf 1 = .ok (.tableswitch 71 0 7 #[47, 50, 53, 56, 59, 62, 65, 68], 47) := by decide +kernel
theorem dX7_nameOf_48 : decode cX7_nameOf 48 = .ok (.ldc 74, 2) := by decide +kernel
theorem dX7_nameOf_50 : decode cX7_nameOf 50 = .ok (.areturn, 1) := by decide +kernel
theorem dX7_nameOf_51 : decode cX7_nameOf 51 = .ok (.ldc 76, 2) := by decide +kernel
theorem dX7_nameOf_53 : decode cX7_nameOf 53 = .ok (.areturn, 1) := by decide +kernel
theorem dX7_nameOf_54 : decode cX7_nameOf 54 = .ok (.ldc 78, 2) := by decide +kernel
theorem dX7_nameOf_56 : decode cX7_nameOf 56 = .ok (.areturn, 1) := by decide +kernel
theorem dX7_nameOf_57 : decode cX7_nameOf 57 = .ok (.ldc 80, 2) := by decide +kernel
theorem dX7_nameOf_59 : decode cX7_nameOf 59 = .ok (.areturn, 1) := by decide +kernel
theorem dX7_nameOf_60 : decode cX7_nameOf 60 = .ok (.ldc 82, 2) := by decide +kernel
theorem dX7_nameOf_62 : decode cX7_nameOf 62 = .ok (.areturn, 1) := by decide +kernel
theorem dX7_nameOf_63 : decode cX7_nameOf 63 = .ok (.ldc 84, 2) := by decide +kernel
theorem dX7_nameOf_65 : decode cX7_nameOf 65 = .ok (.areturn, 1) := by decide +kernel
theorem dX7_nameOf_66 : decode cX7_nameOf 66 = .ok (.ldc 86, 2) := by decide +kernel
theorem dX7_nameOf_68 : decode cX7_nameOf 68 = .ok (.areturn, 1) := by decide +kernel
theorem dX7_nameOf_69 : decode cX7_nameOf 69 = .ok (.ldc 88, 2) := by decide +kernel
theorem dX7_nameOf_71 : decode cX7_nameOf 71 = .ok (.areturn, 1) := by decide +kernel
theorem dX7_nameOf_72 : decode cX7_nameOf 72 = .ok (.ldc 90, 2) := by decide +kernel
theorem dX7_nameOf_74 : decode cX7_nameOf 74 = .ok (.areturn, 1) := by decide +kernel
theorem dX7_wordAhead_0 : decode cX7_wordAhead 0 = .ok (.iload_n 0, 1) := by decide +kernel
theorem dX7_wordAhead_1 : decode cX7_wordAhead 1 = .ok (.invokestatic 92, 3) := by decide +kernel
theorem dX7_wordAhead_4 : decode cX7_wordAhead 4 = .ok (.ifCond .eq 8, 3) := by decide +kernel
theorem dX7_wordAhead_7 : decode cX7_wordAhead 7 = .ok (.ldc 96, 2) := by decide +kernel
theorem dX7_wordAhead_9 : decode cX7_wordAhead 9 = .ok (.goto 5, 3) := by decide +kernel
theorem dX7_wordAhead_12 : decode cX7_wordAhead 12 = .ok (.ldc 98, 2) := by decide +kernel
theorem dX7_wordAhead_14 : decode cX7_wordAhead 14 = .ok (.areturn, 1) := by decide +kernel
theorem dX7_wordBetween_0 : decode cX7_wordBetween 0 = .ok (.iload_n 0, 1) := by decide +kernel
theorem dX7_wordBetween_1 : decode cX7_wordBetween 1 = .ok (.invokestatic 92, 3) := by decide +kernel
theorem dX7_wordBetween_4 : decode cX7_wordBetween 4 = .ok (.ifCond .eq 6, 3) := by decide +kernel
theorem dX7_wordBetween_7 : decode cX7_wordBetween 7 = .ok (.ldc 100, 2) := by decide +kernel
theorem dX7_wordBetween_9 : decode cX7_wordBetween 9 = .ok (.areturn, 1) := by decide +kernel
theorem dX7_wordBetween_10 : decode cX7_wordBetween 10 = .ok (.iload_n 0, 1) := by decide +kernel
theorem dX7_wordBetween_11 : decode cX7_wordBetween 11 = .ok (.bipush 8, 2) := by decide +kernel
theorem dX7_wordBetween_13 : decode cX7_wordBetween 13 = .ok (.if_icmp .ne 8, 3) := by decide +kernel
theorem dX7_wordBetween_16 : decode cX7_wordBetween 16 = .ok (.ldc 102, 2) := by decide +kernel
theorem dX7_wordBetween_18 : decode cX7_wordBetween 18 = .ok (.goto 5, 3) := by decide +kernel
theorem dX7_wordBetween_21 : decode cX7_wordBetween 21 = .ok (.ldc 98, 2) := by decide +kernel
theorem dX7_wordBetween_23 : decode cX7_wordBetween 23 = .ok (.areturn, 1) := by decide +kernel
theorem dX7_isOfMetal_0 : decode cX7_isOfMetal 0 = .ok (.iload_n 0, 1) := by decide +kernel
theorem dX7_isOfMetal_1 : decode cX7_isOfMetal 1 = .ok (.ifCond .eq 13, 3) := by decide +kernel
theorem dX7_isOfMetal_4 : decode cX7_isOfMetal 4 = .ok (.iload_n 0, 1) := by decide +kernel
theorem dX7_isOfMetal_5 : decode cX7_isOfMetal 5 = .ok (.iconst 1, 1) := by decide +kernel
theorem dX7_isOfMetal_6 : decode cX7_isOfMetal 6 = .ok (.if_icmp .eq 8, 3) := by decide +kernel
theorem dX7_isOfMetal_9 : decode cX7_isOfMetal 9 = .ok (.iload_n 0, 1) := by decide +kernel
theorem dX7_isOfMetal_10 : decode cX7_isOfMetal 10 = .ok (.iconst 2, 1) := by decide +kernel
theorem dX7_isOfMetal_11 : decode cX7_isOfMetal 11 = .ok (.if_icmp .ne 7, 3) := by decide +kernel
theorem dX7_isOfMetal_14 : decode cX7_isOfMetal 14 = .ok (.iconst 1, 1) := by decide +kernel
theorem dX7_isOfMetal_15 : decode cX7_isOfMetal 15 = .ok (.goto 4, 3) := by decide +kernel
theorem dX7_isOfMetal_18 : decode cX7_isOfMetal 18 = .ok (.iconst 0, 1) := by decide +kernel
theorem dX7_isOfMetal_19 : decode cX7_isOfMetal 19 = .ok (.ireturn, 1) := by decide +kernel
theorem dX7_skipWord_0 : decode cX7_skipWord 0 = .ok (.aload_n 0, 1) := by decide +kernel
theorem dX7_skipWord_1 : decode cX7_skipWord 1 = .ok (.aload_n 1, 1) := by decide +kernel
theorem dX7_skipWord_2 : decode cX7_skipWord 2 = .ok (.invokevirtual 40, 3) := by decide +kernel
theorem dX7_skipWord_5 : decode cX7_skipWord 5 = .ok (.ifCond .ne 5, 3) := by decide +kernel
theorem dX7_skipWord_8 : decode cX7_skipWord 8 = .ok (.iconst 0, 1) := by decide +kernel
theorem dX7_skipWord_9 : decode cX7_skipWord 9 = .ok (.ireturn, 1) := by decide +kernel
theorem dX7_skipWord_10 : decode cX7_skipWord 10 = .ok (.aload_n 0, 1) := by decide +kernel
theorem dX7_skipWord_11 : decode cX7_skipWord 11 = .ok (.invokevirtual 27, 3) := by decide +kernel
theorem dX7_skipWord_14 : decode cX7_skipWord 14 = .ok (.iconst 1, 1) := by decide +kernel
theorem dX7_skipWord_15 : decode cX7_skipWord 15 = .ok (.ireturn, 1) := by decide +kernel
theorem dX7_readNumber_0 : decode cX7_readNumber 0 = .ok (.aload_n 0, 1) := by decide +kernel
theorem dX7_readNumber_1 : decode cX7_readNumber 1 = .ok (.getfield 18, 3) := by decide +kernel
theorem dX7_readNumber_4 : decode cX7_readNumber 4 = .ok (.aload_n 0, 1) := by decide +kernel
theorem dX7_readNumber_5 : decode cX7_readNumber 5 = .ok (.getfield 9, 3) := by decide +kernel
theorem dX7_readNumber_8 : decode cX7_readNumber 8 = .ok (.invokevirtual 104, 3) := by decide +kernel
theorem dX7_readNumber_11 : decode cX7_readNumber 11 = .ok (.invokestatic 109, 3) := by decide +kernel
theorem dX7_readNumber_14 : decode cX7_readNumber 14 = .ok (.ifCond .ne 5, 3) := by decide +kernel
theorem dX7_readNumber_17 : decode cX7_readNumber 17 = .ok (.iconst (-1), 1) := by decide +kernel
theorem dX7_readNumber_18 : decode cX7_readNumber 18 = .ok (.ireturn, 1) := by decide +kernel
theorem dX7_readNumber_19 : decode cX7_readNumber 19 = .ok (.iconst 0, 1) := by decide +kernel
theorem dX7_readNumber_20 : decode cX7_readNumber 20 = .ok (.istore_n 2, 1) := by decide +kernel
theorem dX7_readNumber_21 : decode cX7_readNumber 21 = .ok (.aload_n 0, 1) := by decide +kernel
theorem dX7_readNumber_22 : decode cX7_readNumber 22 = .ok (.getfield 9, 3) := by decide +kernel
theorem dX7_readNumber_25 : decode cX7_readNumber 25 = .ok (.istore_n 3, 1) := by decide +kernel
theorem dX7_readNumber_26 : decode cX7_readNumber 26 = .ok (.iload_n 3, 1) := by decide +kernel
theorem dX7_readNumber_27 : decode cX7_readNumber 27 = .ok (.aload_n 0, 1) := by decide +kernel
theorem dX7_readNumber_28 : decode cX7_readNumber 28 = .ok (.getfield 15, 3) := by decide +kernel
theorem dX7_readNumber_31 : decode cX7_readNumber 31 = .ok (.if_icmp .ge 32, 3) := by decide +kernel
theorem dX7_readNumber_34 : decode cX7_readNumber 34 = .ok (.iload_n 2, 1) := by decide +kernel
theorem dX7_readNumber_35 : decode cX7_readNumber 35 = .ok (.bipush 10, 2) := by decide +kernel
theorem dX7_readNumber_37 : decode cX7_readNumber 37 = .ok (.imul, 1) := by decide +kernel
theorem dX7_readNumber_38 : decode cX7_readNumber 38 = .ok (.aload_n 0, 1) := by decide +kernel
theorem dX7_readNumber_39 : decode cX7_readNumber 39 = .ok (.getfield 18, 3) := by decide +kernel
theorem dX7_readNumber_42 : decode cX7_readNumber 42 = .ok (.iload_n 3, 1) := by decide +kernel
theorem dX7_readNumber_43 : decode cX7_readNumber 43 = .ok (.invokevirtual 104, 3) := by decide +kernel
theorem dX7_readNumber_46 : decode cX7_readNumber 46 = .ok (.iadd, 1) := by decide +kernel
theorem dX7_readNumber_47 : decode cX7_readNumber 47 = .ok (.bipush 48, 2) := by decide +kernel
theorem dX7_readNumber_49 : decode cX7_readNumber 49 = .ok (.isub, 1) := by decide +kernel
theorem dX7_readNumber_50 : decode cX7_readNumber 50 = .ok (.sipush 1001, 3) := by decide +kernel
theorem dX7_readNumber_53 : decode cX7_readNumber 53 = .ok (.invokestatic 112, 3) := by decide +kernel
theorem dX7_readNumber_56 : decode cX7_readNumber 56 = .ok (.istore_n 2, 1) := by decide +kernel
theorem dX7_readNumber_57 : decode cX7_readNumber 57 = .ok (.iinc 3 1, 3) := by decide +kernel
theorem dX7_readNumber_60 : decode cX7_readNumber 60 = .ok (.goto (-34), 3) := by decide +kernel
theorem dX7_readNumber_63 : decode cX7_readNumber 63 = .ok (.iload_n 2, 1) := by decide +kernel
theorem dX7_readNumber_64 : decode cX7_readNumber 64 = .ok (.iload_n 1, 1) := by decide +kernel
theorem dX7_readNumber_65 : decode cX7_readNumber 65 = .ok (.if_icmp .lt 10, 3) := by decide +kernel
theorem dX7_readNumber_68 : decode cX7_readNumber 68 = .ok (.iload_n 2, 1) := by decide +kernel
theorem dX7_readNumber_69 : decode cX7_readNumber 69 = .ok (.sipush 1000, 3) := by decide +kernel
theorem dX7_readNumber_72 : decode cX7_readNumber 72 = .ok (.if_icmp .le 5, 3) := by decide +kernel
theorem dX7_readNumber_75 : decode cX7_readNumber 75 = .ok (.iconst (-1), 1) := by decide +kernel
theorem dX7_readNumber_76 : decode cX7_readNumber 76 = .ok (.ireturn, 1) := by decide +kernel
theorem dX7_readNumber_77 : decode cX7_readNumber 77 = .ok (.aload_n 0, 1) := by decide +kernel
theorem dX7_readNumber_78 : decode cX7_readNumber 78 = .ok (.invokevirtual 27, 3) := by decide +kernel
theorem dX7_readNumber_81 : decode cX7_readNumber 81 = .ok (.iload_n 2, 1) := by decide +kernel
theorem dX7_readNumber_82 : decode cX7_readNumber 82 = .ok (.ireturn, 1) := by decide +kernel
theorem dX7_isWord_0 : decode cX7_isWord 0 = .ok (.aload_n 0, 1) := by decide +kernel
theorem dX7_isWord_1 : decode cX7_isWord 1 = .ok (.getfield 15, 3) := by decide +kernel
theorem dX7_isWord_4 : decode cX7_isWord 4 = .ok (.aload_n 0, 1) := by decide +kernel
theorem dX7_isWord_5 : decode cX7_isWord 5 = .ok (.getfield 9, 3) := by decide +kernel
theorem dX7_isWord_8 : decode cX7_isWord 8 = .ok (.isub, 1) := by decide +kernel
theorem dX7_isWord_9 : decode cX7_isWord 9 = .ok (.aload_n 1, 1) := by decide +kernel
theorem dX7_isWord_10 : decode cX7_isWord 10 = .ok (.invokevirtual 118, 3) := by decide +kernel
theorem dX7_isWord_13 : decode cX7_isWord 13 = .ok (.if_icmp .eq 5, 3) := by decide +kernel
theorem dX7_isWord_16 : decode cX7_isWord 16 = .ok (.iconst 0, 1) := by decide +kernel
theorem dX7_isWord_17 : decode cX7_isWord 17 = .ok (.ireturn, 1) := by decide +kernel
theorem dX7_isWord_18 : decode cX7_isWord 18 = .ok (.iconst 0, 1) := by decide +kernel
theorem dX7_isWord_19 : decode cX7_isWord 19 = .ok (.istore_n 2, 1) := by decide +kernel
theorem dX7_isWord_20 : decode cX7_isWord 20 = .ok (.iload_n 2, 1) := by decide +kernel
theorem dX7_isWord_21 : decode cX7_isWord 21 = .ok (.aload_n 1, 1) := by decide +kernel
theorem dX7_isWord_22 : decode cX7_isWord 22 = .ok (.invokevirtual 118, 3) := by decide +kernel
theorem dX7_isWord_25 : decode cX7_isWord 25 = .ok (.if_icmp .ge 32, 3) := by decide +kernel
theorem dX7_isWord_28 : decode cX7_isWord 28 = .ok (.aload_n 0, 1) := by decide +kernel
theorem dX7_isWord_29 : decode cX7_isWord 29 = .ok (.getfield 18, 3) := by decide +kernel
theorem dX7_isWord_32 : decode cX7_isWord 32 = .ok (.aload_n 0, 1) := by decide +kernel
theorem dX7_isWord_33 : decode cX7_isWord 33 = .ok (.getfield 9, 3) := by decide +kernel
theorem dX7_isWord_36 : decode cX7_isWord 36 = .ok (.iload_n 2, 1) := by decide +kernel
theorem dX7_isWord_37 : decode cX7_isWord 37 = .ok (.iadd, 1) := by decide +kernel
theorem dX7_isWord_38 : decode cX7_isWord 38 = .ok (.invokevirtual 104, 3) := by decide +kernel
theorem dX7_isWord_41 : decode cX7_isWord 41 = .ok (.aload_n 1, 1) := by decide +kernel
theorem dX7_isWord_42 : decode cX7_isWord 42 = .ok (.iload_n 2, 1) := by decide +kernel
theorem dX7_isWord_43 : decode cX7_isWord 43 = .ok (.invokevirtual 121, 3) := by decide +kernel
theorem dX7_isWord_46 : decode cX7_isWord 46 = .ok (.if_icmp .eq 5, 3) := by decide +kernel
theorem dX7_isWord_49 : decode cX7_isWord 49 = .ok (.iconst 0, 1) := by decide +kernel
theorem dX7_isWord_50 : decode cX7_isWord 50 = .ok (.ireturn, 1) := by decide +kernel
theorem dX7_isWord_51 : decode cX7_isWord 51 = .ok (.iinc 2 1, 3) := by decide +kernel
theorem dX7_isWord_54 : decode cX7_isWord 54 = .ok (.goto (-34), 3) := by decide +kernel
theorem dX7_isWord_57 : decode cX7_isWord 57 = .ok (.iconst 1, 1) := by decide +kernel
theorem dX7_isWord_58 : decode cX7_isWord 58 = .ok (.ireturn, 1) := by decide +kernel
theorem dX7_isAtEnd_0 : decode cX7_isAtEnd 0 = .ok (.aload_n 0, 1) := by decide +kernel
theorem dX7_isAtEnd_1 : decode cX7_isAtEnd 1 = .ok (.getfield 9, 3) := by decide +kernel
theorem dX7_isAtEnd_4 : decode cX7_isAtEnd 4 = .ok (.aload_n 0, 1) := by decide +kernel
theorem dX7_isAtEnd_5 : decode cX7_isAtEnd 5 = .ok (.getfield 18, 3) := by decide +kernel
theorem dX7_isAtEnd_8 : decode cX7_isAtEnd 8 = .ok (.invokevirtual 125, 3) := by decide +kernel
theorem dX7_isAtEnd_11 : decode cX7_isAtEnd 11 = .ok (.if_icmp .lt 7, 3) := by decide +kernel
theorem dX7_isAtEnd_14 : decode cX7_isAtEnd 14 = .ok (.iconst 1, 1) := by decide +kernel
theorem dX7_isAtEnd_15 : decode cX7_isAtEnd 15 = .ok (.goto 4, 3) := by decide +kernel
theorem dX7_isAtEnd_18 : decode cX7_isAtEnd 18 = .ok (.iconst 0, 1) := by decide +kernel
theorem dX7_isAtEnd_19 : decode cX7_isAtEnd 19 = .ok (.ireturn, 1) := by decide +kernel
theorem dX7_advance_0 : decode cX7_advance 0 = .ok (.aload_n 0, 1) := by decide +kernel
theorem dX7_advance_1 : decode cX7_advance 1 = .ok (.aload_n 0, 1) := by decide +kernel
theorem dX7_advance_2 : decode cX7_advance 2 = .ok (.getfield 15, 3) := by decide +kernel
theorem dX7_advance_5 : decode cX7_advance 5 = .ok (.putfield 9, 3) := by decide +kernel
theorem dX7_advance_8 : decode cX7_advance 8 = .ok (.aload_n 0, 1) := by decide +kernel
theorem dX7_advance_9 : decode cX7_advance 9 = .ok (.getfield 9, 3) := by decide +kernel
theorem dX7_advance_12 : decode cX7_advance 12 = .ok (.aload_n 0, 1) := by decide +kernel
theorem dX7_advance_13 : decode cX7_advance 13 = .ok (.getfield 18, 3) := by decide +kernel
theorem dX7_advance_16 : decode cX7_advance 16 = .ok (.invokevirtual 125, 3) := by decide +kernel
theorem dX7_advance_19 : decode cX7_advance 19 = .ok (.if_icmp .ge 32, 3) := by decide +kernel
theorem dX7_advance_22 : decode cX7_advance 22 = .ok (.aload_n 0, 1) := by decide +kernel
theorem dX7_advance_23 : decode cX7_advance 23 = .ok (.getfield 18, 3) := by decide +kernel
theorem dX7_advance_26 : decode cX7_advance 26 = .ok (.aload_n 0, 1) := by decide +kernel
theorem dX7_advance_27 : decode cX7_advance 27 = .ok (.getfield 9, 3) := by decide +kernel
theorem dX7_advance_30 : decode cX7_advance 30 = .ok (.invokevirtual 104, 3) := by decide +kernel
theorem dX7_advance_33 : decode cX7_advance 33 = .ok (.bipush 32, 2) := by decide +kernel
theorem dX7_advance_35 : decode cX7_advance 35 = .ok (.if_icmp .ne 16, 3) := by decide +kernel
theorem dX7_advance_38 : decode cX7_advance 38 = .ok (.aload_n 0, 1) := by decide +kernel
theorem dX7_advance_39 : decode cX7_advance 39 = .ok (.dup, 1) := by decide +kernel
theorem dX7_advance_40 : decode cX7_advance 40 = .ok (.getfield 9, 3) := by decide +kernel
theorem dX7_advance_43 : decode cX7_advance 43 = .ok (.iconst 1, 1) := by decide +kernel
theorem dX7_advance_44 : decode cX7_advance 44 = .ok (.iadd, 1) := by decide +kernel
theorem dX7_advance_45 : decode cX7_advance 45 = .ok (.putfield 9, 3) := by decide +kernel
theorem dX7_advance_48 : decode cX7_advance 48 = .ok (.goto (-40), 3) := by decide +kernel
theorem dX7_advance_51 : decode cX7_advance 51 = .ok (.aload_n 0, 1) := by decide +kernel
theorem dX7_advance_52 : decode cX7_advance 52 = .ok (.aload_n 0, 1) := by decide +kernel
theorem dX7_advance_53 : decode cX7_advance 53 = .ok (.getfield 9, 3) := by decide +kernel
theorem dX7_advance_56 : decode cX7_advance 56 = .ok (.iconst 1, 1) := by decide +kernel
theorem dX7_advance_57 : decode cX7_advance 57 = .ok (.iadd, 1) := by decide +kernel
theorem dX7_advance_58 : decode cX7_advance 58 = .ok (.aload_n 0, 1) := by decide +kernel
theorem dX7_advance_59 : decode cX7_advance 59 = .ok (.getfield 18, 3) := by decide +kernel
theorem dX7_advance_62 : decode cX7_advance 62 = .ok (.invokevirtual 125, 3) := by decide +kernel
theorem dX7_advance_65 : decode cX7_advance 65 = .ok (.invokestatic 112, 3) := by decide +kernel
theorem dX7_advance_68 : decode cX7_advance 68 = .ok (.putfield 15, 3) := by decide +kernel
theorem dX7_advance_71 : decode cX7_advance 71 = .ok (.aload_n 0, 1) := by decide +kernel
theorem dX7_advance_72 : decode cX7_advance 72 = .ok (.getfield 18, 3) := by decide +kernel
theorem dX7_advance_75 : decode cX7_advance 75 = .ok (.aload_n 0, 1) := by decide +kernel
theorem dX7_advance_76 : decode cX7_advance 76 = .ok (.getfield 9, 3) := by decide +kernel
theorem dX7_advance_79 : decode cX7_advance 79 = .ok (.invokevirtual 104, 3) := by decide +kernel
theorem dX7_advance_82 : decode cX7_advance 82 = .ok (.invokestatic 126, 3) := by decide +kernel
theorem dX7_advance_85 : decode cX7_advance 85 = .ok (.istore_n 1, 1) := by decide +kernel
theorem dX7_advance_86 : decode cX7_advance 86 = .ok (.aload_n 0, 1) := by decide +kernel
theorem dX7_advance_87 : decode cX7_advance 87 = .ok (.getfield 18, 3) := by decide +kernel
theorem dX7_advance_90 : decode cX7_advance 90 = .ok (.aload_n 0, 1) := by decide +kernel
theorem dX7_advance_91 : decode cX7_advance 91 = .ok (.getfield 9, 3) := by decide +kernel
theorem dX7_advance_94 : decode cX7_advance 94 = .ok (.invokevirtual 104, 3) := by decide +kernel
theorem dX7_advance_97 : decode cX7_advance 97 = .ok (.invokestatic 109, 3) := by decide +kernel
theorem dX7_advance_100 : decode cX7_advance 100 = .ok (.istore_n 2, 1) := by decide +kernel
theorem dX7_advance_101 : decode cX7_advance 101 = .ok (.aload_n 0, 1) := by decide +kernel
theorem dX7_advance_102 : decode cX7_advance 102 = .ok (.getfield 15, 3) := by decide +kernel
theorem dX7_advance_105 : decode cX7_advance 105 = .ok (.aload_n 0, 1) := by decide +kernel
theorem dX7_advance_106 : decode cX7_advance 106 = .ok (.getfield 18, 3) := by decide +kernel
theorem dX7_advance_109 : decode cX7_advance 109 = .ok (.invokevirtual 125, 3) := by decide +kernel
theorem dX7_advance_112 : decode cX7_advance 112 = .ok (.if_icmp .ge 58, 3) := by decide +kernel
theorem dX7_advance_115 : decode cX7_advance 115 = .ok (.iload_n 1, 1) := by decide +kernel
theorem dX7_advance_116 : decode cX7_advance 116 = .ok (.ifCond .eq 20, 3) := by decide +kernel
theorem dX7_advance_119 : decode cX7_advance 119 = .ok (.aload_n 0, 1) := by decide +kernel
theorem dX7_advance_120 : decode cX7_advance 120 = .ok (.getfield 18, 3) := by decide +kernel
theorem dX7_advance_123 : decode cX7_advance 123 = .ok (.aload_n 0, 1) := by decide +kernel
theorem dX7_advance_124 : decode cX7_advance 124 = .ok (.getfield 15, 3) := by decide +kernel
theorem dX7_advance_127 : decode cX7_advance 127 = .ok (.invokevirtual 104, 3) := by decide +kernel
theorem dX7_advance_130 : decode cX7_advance 130 = .ok (.invokestatic 126, 3) := by decide +kernel
theorem dX7_advance_133 : decode cX7_advance 133 = .ok (.ifCond .ne 24, 3) := by decide +kernel
theorem dX7_advance_136 : decode cX7_advance 136 = .ok (.iload_n 2, 1) := by decide +kernel
theorem dX7_advance_137 : decode cX7_advance 137 = .ok (.ifCond .eq 33, 3) := by decide +kernel
theorem dX7_advance_140 : decode cX7_advance 140 = .ok (.aload_n 0, 1) := by decide +kernel
theorem dX7_advance_141 : decode cX7_advance 141 = .ok (.getfield 18, 3) := by decide +kernel
theorem dX7_advance_144 : decode cX7_advance 144 = .ok (.aload_n 0, 1) := by decide +kernel
theorem dX7_advance_145 : decode cX7_advance 145 = .ok (.getfield 15, 3) := by decide +kernel
theorem dX7_advance_148 : decode cX7_advance 148 = .ok (.invokevirtual 104, 3) := by decide +kernel
theorem dX7_advance_151 : decode cX7_advance 151 = .ok (.invokestatic 109, 3) := by decide +kernel
theorem dX7_advance_154 : decode cX7_advance 154 = .ok (.ifCond .eq 16, 3) := by decide +kernel
theorem dX7_advance_157 : decode cX7_advance 157 = .ok (.aload_n 0, 1) := by decide +kernel
theorem dX7_advance_158 : decode cX7_advance 158 = .ok (.dup, 1) := by decide +kernel
theorem dX7_advance_159 : decode cX7_advance 159 = .ok (.getfield 15, 3) := by decide +kernel
theorem dX7_advance_162 : decode cX7_advance 162 = .ok (.iconst 1, 1) := by decide +kernel
theorem dX7_advance_163 : decode cX7_advance 163 = .ok (.iadd, 1) := by decide +kernel
theorem dX7_advance_164 : decode cX7_advance 164 = .ok (.putfield 15, 3) := by decide +kernel
theorem dX7_advance_167 : decode cX7_advance 167 = .ok (.goto (-66), 3) := by decide +kernel
theorem dX7_advance_170 : decode cX7_advance 170 = .ok (.return_, 1) := by decide +kernel
theorem dX7_isLetter_0 : decode cX7_isLetter 0 = .ok (.iload_n 0, 1) := by decide +kernel
theorem dX7_isLetter_1 : decode cX7_isLetter 1 = .ok (.bipush 97, 2) := by decide +kernel
theorem dX7_isLetter_3 : decode cX7_isLetter 3 = .ok (.if_icmp .lt 13, 3) := by decide +kernel
theorem dX7_isLetter_6 : decode cX7_isLetter 6 = .ok (.iload_n 0, 1) := by decide +kernel
theorem dX7_isLetter_7 : decode cX7_isLetter 7 = .ok (.bipush 122, 2) := by decide +kernel
theorem dX7_isLetter_9 : decode cX7_isLetter 9 = .ok (.if_icmp .gt 7, 3) := by decide +kernel
theorem dX7_isLetter_12 : decode cX7_isLetter 12 = .ok (.iconst 1, 1) := by decide +kernel
theorem dX7_isLetter_13 : decode cX7_isLetter 13 = .ok (.goto 4, 3) := by decide +kernel
theorem dX7_isLetter_16 : decode cX7_isLetter 16 = .ok (.iconst 0, 1) := by decide +kernel
theorem dX7_isLetter_17 : decode cX7_isLetter 17 = .ok (.ireturn, 1) := by decide +kernel
theorem dX7_isDigit_0 : decode cX7_isDigit 0 = .ok (.iload_n 0, 1) := by decide +kernel
theorem dX7_isDigit_1 : decode cX7_isDigit 1 = .ok (.bipush 48, 2) := by decide +kernel
theorem dX7_isDigit_3 : decode cX7_isDigit 3 = .ok (.if_icmp .lt 13, 3) := by decide +kernel
theorem dX7_isDigit_6 : decode cX7_isDigit 6 = .ok (.iload_n 0, 1) := by decide +kernel
theorem dX7_isDigit_7 : decode cX7_isDigit 7 = .ok (.bipush 57, 2) := by decide +kernel
theorem dX7_isDigit_9 : decode cX7_isDigit 9 = .ok (.if_icmp .gt 7, 3) := by decide +kernel
theorem dX7_isDigit_12 : decode cX7_isDigit 12 = .ok (.iconst 1, 1) := by decide +kernel
theorem dX7_isDigit_13 : decode cX7_isDigit 13 = .ok (.goto 4, 3) := by decide +kernel
theorem dX7_isDigit_16 : decode cX7_isDigit 16 = .ok (.iconst 0, 1) := by decide +kernel
theorem dX7_isDigit_17 : decode cX7_isDigit 17 = .ok (.ireturn, 1) := by decide +kernel
theorem dX8_init_0 : decode cX8_init 0 = .ok (.aload_n 0, 1) := by decide +kernel
theorem dX8_init_1 : decode cX8_init 1 = .ok (.invokespecial 3, 3) := by decide +kernel
theorem dX8_init_4 : decode cX8_init 4 = .ok (.aload_n 0, 1) := by decide +kernel
theorem dX8_init_5 : decode cX8_init 5 = .ok (.bipush 32, 2) := by decide +kernel
theorem dX8_init_7 : decode cX8_init 7 = .ok (.newarray .int, 2) := by decide +kernel
theorem dX8_init_9 : decode cX8_init 9 = .ok (.putfield 9, 3) := by decide +kernel
theorem dX8_init_12 : decode cX8_init 12 = .ok (.aload_n 0, 1) := by decide +kernel
theorem dX8_init_13 : decode cX8_init 13 = .ok (.bipush 8, 2) := by decide +kernel
theorem dX8_init_15 : decode cX8_init 15 = .ok (.newarray .int, 2) := by decide +kernel
theorem dX8_init_17 : decode cX8_init 17 = .ok (.putfield 15, 3) := by decide +kernel
theorem dX8_init_20 : decode cX8_init 20 = .ok (.aload_n 0, 1) := by decide +kernel
theorem dX8_init_21 : decode cX8_init 21 = .ok (.bipush 8, 2) := by decide +kernel
theorem dX8_init_23 : decode cX8_init 23 = .ok (.newarray .int, 2) := by decide +kernel
theorem dX8_init_25 : decode cX8_init 25 = .ok (.putfield 18, 3) := by decide +kernel
theorem dX8_init_28 : decode cX8_init 28 = .ok (.aload_n 0, 1) := by decide +kernel
theorem dX8_init_29 : decode cX8_init 29 = .ok (.iconst 0, 1) := by decide +kernel
theorem dX8_init_30 : decode cX8_init 30 = .ok (.putfield 21, 3) := by decide +kernel
theorem dX8_init_33 : decode cX8_init 33 = .ok (.aload_n 0, 1) := by decide +kernel
theorem dX8_init_34 : decode cX8_init 34 = .ok (.iconst 0, 1) := by decide +kernel
theorem dX8_init_35 : decode cX8_init 35 = .ok (.putfield 25, 3) := by decide +kernel
theorem dX8_init_38 : decode cX8_init 38 = .ok (.aload_n 0, 1) := by decide +kernel
theorem dX8_init_39 : decode cX8_init 39 = .ok (.iconst (-1), 1) := by decide +kernel
theorem dX8_init_40 : decode cX8_init 40 = .ok (.putfield 28, 3) := by decide +kernel
theorem dX8_init_43 : decode cX8_init 43 = .ok (.aload_n 0, 1) := by decide +kernel
theorem dX8_init_44 : decode cX8_init 44 = .ok (.aload_n 1, 1) := by decide +kernel
theorem dX8_init_45 : decode cX8_init 45 = .ok (.putfield 31, 3) := by decide +kernel
theorem dX8_init_48 : decode cX8_init 48 = .ok (.return_, 1) := by decide +kernel
theorem dX8_pieceCount_0 : decode cX8_pieceCount 0 = .ok (.aload_n 0, 1) := by decide +kernel
theorem dX8_pieceCount_1 : decode cX8_pieceCount 1 = .ok (.getfield 21, 3) := by decide +kernel
theorem dX8_pieceCount_4 : decode cX8_pieceCount 4 = .ok (.invokestatic 35, 3) := by decide +kernel
theorem dX8_pieceCount_7 : decode cX8_pieceCount 7 = .ok (.ireturn, 1) := by decide +kernel
theorem dX8_goneCount_0 : decode cX8_goneCount 0 = .ok (.aload_n 0, 1) := by decide +kernel
theorem dX8_goneCount_1 : decode cX8_goneCount 1 = .ok (.getfield 25, 3) := by decide +kernel
theorem dX8_goneCount_4 : decode cX8_goneCount 4 = .ok (.invokestatic 35, 3) := by decide +kernel
theorem dX8_goneCount_7 : decode cX8_goneCount 7 = .ok (.ireturn, 1) := by decide +kernel
theorem dX8_stuckCount_0 : decode cX8_stuckCount 0 = .ok (.aload_n 0, 1) := by decide +kernel
theorem dX8_stuckCount_1 : decode cX8_stuckCount 1 = .ok (.invokevirtual 41, 3) := by decide +kernel
theorem dX8_stuckCount_4 : decode cX8_stuckCount 4 = .ok (.aload_n 0, 1) := by decide +kernel
theorem dX8_stuckCount_5 : decode cX8_stuckCount 5 = .ok (.invokevirtual 45, 3) := by decide +kernel
theorem dX8_stuckCount_8 : decode cX8_stuckCount 8 = .ok (.isub, 1) := by decide +kernel
theorem dX8_stuckCount_9 : decode cX8_stuckCount 9 = .ok (.ireturn, 1) := by decide +kernel
theorem dX8_pieceAt_0 : decode cX8_pieceAt 0 = .ok (.iload_n 1, 1) := by decide +kernel
theorem dX8_pieceAt_1 : decode cX8_pieceAt 1 = .ok (.ifCond .lt 26, 3) := by decide +kernel
theorem dX8_pieceAt_4 : decode cX8_pieceAt 4 = .ok (.iload_n 1, 1) := by decide +kernel
theorem dX8_pieceAt_5 : decode cX8_pieceAt 5 = .ok (.aload_n 0, 1) := by decide +kernel
theorem dX8_pieceAt_6 : decode cX8_pieceAt 6 = .ok (.invokevirtual 45, 3) := by decide +kernel
theorem dX8_pieceAt_9 : decode cX8_pieceAt 9 = .ok (.if_icmp .ge 18, 3) := by decide +kernel
theorem dX8_pieceAt_12 : decode cX8_pieceAt 12 = .ok (.iload_n 1, 1) := by decide +kernel
theorem dX8_pieceAt_13 : decode cX8_pieceAt 13 = .ok (.bipush 8, 2) := by decide +kernel
theorem dX8_pieceAt_15 : decode cX8_pieceAt 15 = .ok (.if_icmp .ge 12, 3) := by decide +kernel
theorem dX8_pieceAt_18 : decode cX8_pieceAt 18 = .ok (.aload_n 0, 1) := by decide +kernel
theorem dX8_pieceAt_19 : decode cX8_pieceAt 19 = .ok (.getfield 15, 3) := by decide +kernel
theorem dX8_pieceAt_22 : decode cX8_pieceAt 22 = .ok (.iload_n 1, 1) := by decide +kernel
theorem dX8_pieceAt_23 : decode cX8_pieceAt 23 = .ok (.iaload, 1) := by decide +kernel
theorem dX8_pieceAt_24 : decode cX8_pieceAt 24 = .ok (.goto 4, 3) := by decide +kernel
theorem dX8_pieceAt_27 : decode cX8_pieceAt 27 = .ok (.iconst (-1), 1) := by decide +kernel
theorem dX8_pieceAt_28 : decode cX8_pieceAt 28 = .ok (.ireturn, 1) := by decide +kernel
theorem dX8_wayAt_0 : decode cX8_wayAt 0 = .ok (.iload_n 1, 1) := by decide +kernel
theorem dX8_wayAt_1 : decode cX8_wayAt 1 = .ok (.ifCond .lt 26, 3) := by decide +kernel
theorem dX8_wayAt_4 : decode cX8_wayAt 4 = .ok (.iload_n 1, 1) := by decide +kernel
theorem dX8_wayAt_5 : decode cX8_wayAt 5 = .ok (.aload_n 0, 1) := by decide +kernel
theorem dX8_wayAt_6 : decode cX8_wayAt 6 = .ok (.invokevirtual 45, 3) := by decide +kernel
theorem dX8_wayAt_9 : decode cX8_wayAt 9 = .ok (.if_icmp .ge 18, 3) := by decide +kernel
theorem dX8_wayAt_12 : decode cX8_wayAt 12 = .ok (.iload_n 1, 1) := by decide +kernel
theorem dX8_wayAt_13 : decode cX8_wayAt 13 = .ok (.bipush 8, 2) := by decide +kernel
theorem dX8_wayAt_15 : decode cX8_wayAt 15 = .ok (.if_icmp .ge 12, 3) := by decide +kernel
theorem dX8_wayAt_18 : decode cX8_wayAt 18 = .ok (.aload_n 0, 1) := by decide +kernel
theorem dX8_wayAt_19 : decode cX8_wayAt 19 = .ok (.getfield 18, 3) := by decide +kernel
theorem dX8_wayAt_22 : decode cX8_wayAt 22 = .ok (.iload_n 1, 1) := by decide +kernel
theorem dX8_wayAt_23 : decode cX8_wayAt 23 = .ok (.iaload, 1) := by decide +kernel
theorem dX8_wayAt_24 : decode cX8_wayAt 24 = .ok (.goto 4, 3) := by decide +kernel
theorem dX8_wayAt_27 : decode cX8_wayAt 27 = .ok (.iconst (-1), 1) := by decide +kernel
theorem dX8_wayAt_28 : decode cX8_wayAt 28 = .ok (.ireturn, 1) := by decide +kernel
theorem dX8_refresh_0 : decode cX8_refresh 0 = .ok (.aload_n 0, 1) := by decide +kernel
theorem dX8_refresh_1 : decode cX8_refresh 1 = .ok (.getfield 28, 3) := by decide +kernel
theorem dX8_refresh_4 : decode cX8_refresh 4 = .ok (.aload_n 0, 1) := by decide +kernel
theorem dX8_refresh_5 : decode cX8_refresh 5 = .ok (.getfield 31, 3) := by decide +kernel
theorem dX8_refresh_8 : decode cX8_refresh 8 = .ok (.invokevirtual 48, 3) := by decide +kernel
theorem dX8_refresh_11 : decode cX8_refresh 11 = .ok (.if_icmp .ne 4, 3) := by decide +kernel
theorem dX8_refresh_14 : decode cX8_refresh 14 = .ok (.return_, 1) := by decide +kernel
theorem dX8_refresh_15 : decode cX8_refresh 15 = .ok (.aload_n 0, 1) := by decide +kernel
theorem dX8_refresh_16 : decode cX8_refresh 16 = .ok (.aload_n 0, 1) := by decide +kernel
theorem dX8_refresh_17 : decode cX8_refresh 17 = .ok (.getfield 31, 3) := by decide +kernel
theorem dX8_refresh_20 : decode cX8_refresh 20 = .ok (.invokevirtual 48, 3) := by decide +kernel
theorem dX8_refresh_23 : decode cX8_refresh 23 = .ok (.putfield 28, 3) := by decide +kernel
theorem dX8_refresh_26 : decode cX8_refresh 26 = .ok (.aload_n 0, 1) := by decide +kernel
theorem dX8_refresh_27 : decode cX8_refresh 27 = .ok (.iconst 0, 1) := by decide +kernel
theorem dX8_refresh_28 : decode cX8_refresh 28 = .ok (.putfield 21, 3) := by decide +kernel
theorem dX8_refresh_31 : decode cX8_refresh 31 = .ok (.aload_n 0, 1) := by decide +kernel
theorem dX8_refresh_32 : decode cX8_refresh 32 = .ok (.iconst 0, 1) := by decide +kernel
theorem dX8_refresh_33 : decode cX8_refresh 33 = .ok (.putfield 25, 3) := by decide +kernel
theorem dX8_refresh_36 : decode cX8_refresh 36 = .ok (.aload_n 0, 1) := by decide +kernel
theorem dX8_refresh_37 : decode cX8_refresh 37 = .ok (.getfield 9, 3) := by decide +kernel
theorem dX8_refresh_40 : decode cX8_refresh 40 = .ok (.iconst 0, 1) := by decide +kernel
theorem dX8_refresh_41 : decode cX8_refresh 41 = .ok (.invokestatic 52, 3) := by decide +kernel
theorem dX8_refresh_44 : decode cX8_refresh 44 = .ok (.iconst 0, 1) := by decide +kernel
theorem dX8_refresh_45 : decode cX8_refresh 45 = .ok (.istore_n 1, 1) := by decide +kernel
theorem dX8_refresh_46 : decode cX8_refresh 46 = .ok (.iload_n 1, 1) := by decide +kernel
theorem dX8_refresh_47 : decode cX8_refresh 47 = .ok (.iconst 4, 1) := by decide +kernel
theorem dX8_refresh_48 : decode cX8_refresh 48 = .ok (.if_icmp .ge 14, 3) := by decide +kernel
theorem dX8_refresh_51 : decode cX8_refresh 51 = .ok (.aload_n 0, 1) := by decide +kernel
theorem dX8_refresh_52 : decode cX8_refresh 52 = .ok (.iload_n 1, 1) := by decide +kernel
theorem dX8_refresh_53 : decode cX8_refresh 53 = .ok (.invokevirtual 58, 3) := by decide +kernel
theorem dX8_refresh_56 : decode cX8_refresh 56 = .ok (.iinc 1 1, 3) := by decide +kernel
theorem dX8_refresh_59 : decode cX8_refresh 59 = .ok (.goto (-13), 3) := by decide +kernel
theorem dX8_refresh_62 : decode cX8_refresh 62 = .ok (.iconst 0, 1) := by decide +kernel
theorem dX8_refresh_63 : decode cX8_refresh 63 = .ok (.istore_n 1, 1) := by decide +kernel
theorem dX8_refresh_64 : decode cX8_refresh 64 = .ok (.iload_n 1, 1) := by decide +kernel
theorem dX8_refresh_65 : decode cX8_refresh 65 = .ok (.bipush 8, 2) := by decide +kernel
theorem dX8_refresh_67 : decode cX8_refresh 67 = .ok (.if_icmp .ge 20, 3) := by decide +kernel
theorem dX8_refresh_70 : decode cX8_refresh 70 = .ok (.aload_n 0, 1) := by decide +kernel
theorem dX8_refresh_71 : decode cX8_refresh 71 = .ok (.iload_n 1, 1) := by decide +kernel
theorem dX8_refresh_72 : decode cX8_refresh 72 = .ok (.invokevirtual 62, 3) := by decide +kernel
theorem dX8_refresh_75 : decode cX8_refresh 75 = .ok (.ifCond .ne 6, 3) := by decide +kernel
theorem dX8_refresh_78 : decode cX8_refresh 78 = .ok (.goto 9, 3) := by decide +kernel
theorem dX8_refresh_81 : decode cX8_refresh 81 = .ok (.iinc 1 1, 3) := by decide +kernel
theorem dX8_refresh_84 : decode cX8_refresh 84 = .ok (.goto (-20), 3) := by decide +kernel
theorem dX8_refresh_87 : decode cX8_refresh 87 = .ok (.return_, 1) := by decide +kernel
theorem dX8_lookFromEdge_0 : decode cX8_lookFromEdge 0 = .ok (.iconst 0, 1) := by decide +kernel
theorem dX8_lookFromEdge_1 : decode cX8_lookFromEdge 1 = .ok (.istore_n 2, 1) := by decide +kernel
theorem dX8_lookFromEdge_2 : decode cX8_lookFromEdge 2 = .ok (.iload_n 2, 1) := by decide +kernel
theorem dX8_lookFromEdge_3 : decode cX8_lookFromEdge 3 = .ok (.aload_n 0, 1) := by decide +kernel
theorem dX8_lookFromEdge_4 : decode cX8_lookFromEdge 4 = .ok (.getfield 31, 3) := by decide +kernel
theorem dX8_lookFromEdge_7 : decode cX8_lookFromEdge 7 = .ok (.invokevirtual 66, 3) := by decide +kernel
theorem dX8_lookFromEdge_10 : decode cX8_lookFromEdge 10 = .ok (.if_icmp .ge 59, 3) := by decide +kernel
theorem dX8_lookFromEdge_13 : decode cX8_lookFromEdge 13 = .ok (.iconst 0, 1) := by decide +kernel
theorem dX8_lookFromEdge_14 : decode cX8_lookFromEdge 14 = .ok (.istore_n 3, 1) := by decide +kernel
theorem dX8_lookFromEdge_15 : decode cX8_lookFromEdge 15 = .ok (.iload_n 3, 1) := by decide +kernel
theorem dX8_lookFromEdge_16 : decode cX8_lookFromEdge 16 = .ok (.aload_n 0, 1) := by decide +kernel
theorem dX8_lookFromEdge_17 : decode cX8_lookFromEdge 17 = .ok (.getfield 31, 3) := by decide +kernel
theorem dX8_lookFromEdge_20 : decode cX8_lookFromEdge 20 = .ok (.invokevirtual 69, 3) := by decide +kernel
theorem dX8_lookFromEdge_23 : decode cX8_lookFromEdge 23 = .ok (.if_icmp .ge 40, 3) := by decide +kernel
theorem dX8_lookFromEdge_26 : decode cX8_lookFromEdge 26 = .ok (.aload_n 0, 1) := by decide +kernel
theorem dX8_lookFromEdge_27 : decode cX8_lookFromEdge 27 = .ok (.getfield 31, 3) := by decide +kernel
theorem dX8_lookFromEdge_30 : decode cX8_lookFromEdge 30 = .ok (.iload_n 3, 1) := by decide +kernel
theorem dX8_lookFromEdge_31 : decode cX8_lookFromEdge 31 = .ok (.getstatic 72, 3) := by decide +kernel
theorem dX8_lookFromEdge_34 : decode cX8_lookFromEdge 34 = .ok (.iload_n 1, 1) := by decide +kernel
theorem dX8_lookFromEdge_35 : decode cX8_lookFromEdge 35 = .ok (.iaload, 1) := by decide +kernel
theorem dX8_lookFromEdge_36 : decode cX8_lookFromEdge 36 = .ok (.iadd, 1) := by decide +kernel
theorem dX8_lookFromEdge_37 : decode cX8_lookFromEdge 37 = .ok (.iload_n 2, 1) := by decide +kernel
theorem dX8_lookFromEdge_38 : decode cX8_lookFromEdge 38 = .ok (.getstatic 75, 3) := by decide +kernel
theorem dX8_lookFromEdge_41 : decode cX8_lookFromEdge 41 = .ok (.iload_n 1, 1) := by decide +kernel
theorem dX8_lookFromEdge_42 : decode cX8_lookFromEdge 42 = .ok (.iaload, 1) := by decide +kernel
theorem dX8_lookFromEdge_43 : decode cX8_lookFromEdge 43 = .ok (.iadd, 1) := by decide +kernel
theorem dX8_lookFromEdge_44 : decode cX8_lookFromEdge 44 = .ok (.invokevirtual 78, 3) := by decide +kernel
theorem dX8_lookFromEdge_47 : decode cX8_lookFromEdge 47 = .ok (.ifCond .ne 10, 3) := by decide +kernel
theorem dX8_lookFromEdge_50 : decode cX8_lookFromEdge 50 = .ok (.aload_n 0, 1) := by decide +kernel
theorem dX8_lookFromEdge_51 : decode cX8_lookFromEdge 51 = .ok (.iload_n 3, 1) := by decide +kernel
theorem dX8_lookFromEdge_52 : decode cX8_lookFromEdge 52 = .ok (.iload_n 2, 1) := by decide +kernel
theorem dX8_lookFromEdge_53 : decode cX8_lookFromEdge 53 = .ok (.iload_n 1, 1) := by decide +kernel
theorem dX8_lookFromEdge_54 : decode cX8_lookFromEdge 54 = .ok (.invokevirtual 82, 3) := by decide +kernel
theorem dX8_lookFromEdge_57 : decode cX8_lookFromEdge 57 = .ok (.iinc 3 1, 3) := by decide +kernel
theorem dX8_lookFromEdge_60 : decode cX8_lookFromEdge 60 = .ok (.goto (-45), 3) := by decide +kernel
theorem dX8_lookFromEdge_63 : decode cX8_lookFromEdge 63 = .ok (.iinc 2 1, 3) := by decide +kernel
theorem dX8_lookFromEdge_66 : decode cX8_lookFromEdge 66 = .ok (.goto (-64), 3) := by decide +kernel
theorem dX8_lookFromEdge_69 : decode cX8_lookFromEdge 69 = .ok (.return_, 1) := by decide +kernel
theorem dX8_lookBack_0 : decode cX8_lookBack 0 = .ok (.iconst 0, 1) := by decide +kernel
theorem dX8_lookBack_1 : decode cX8_lookBack 1 = .ok (.istore 4, 2) := by decide +kernel
theorem dX8_lookBack_3 : decode cX8_lookBack 3 = .ok (.iconst 0, 1) := by decide +kernel
theorem dX8_lookBack_4 : decode cX8_lookBack 4 = .ok (.istore 5, 2) := by decide +kernel
theorem dX8_lookBack_6 : decode cX8_lookBack 6 = .ok (.iload 5, 2) := by decide +kernel
theorem dX8_lookBack_8 : decode cX8_lookBack 8 = .ok (.bipush 12, 2) := by decide +kernel
theorem dX8_lookBack_10 : decode cX8_lookBack 10 = .ok (.if_icmp .ge 100, 3) := by decide +kernel
theorem dX8_lookBack_13 : decode cX8_lookBack 13 = .ok (.aload_n 0, 1) := by decide +kernel
theorem dX8_lookBack_14 : decode cX8_lookBack 14 = .ok (.getfield 31, 3) := by decide +kernel
theorem dX8_lookBack_17 : decode cX8_lookBack 17 = .ok (.iload_n 1, 1) := by decide +kernel
theorem dX8_lookBack_18 : decode cX8_lookBack 18 = .ok (.iload 5, 2) := by decide +kernel
theorem dX8_lookBack_20 : decode cX8_lookBack 20 = .ok (.getstatic 72, 3) := by decide +kernel
theorem dX8_lookBack_23 : decode cX8_lookBack 23 = .ok (.iload_n 3, 1) := by decide +kernel
theorem dX8_lookBack_24 : decode cX8_lookBack 24 = .ok (.iaload, 1) := by decide +kernel
theorem dX8_lookBack_25 : decode cX8_lookBack 25 = .ok (.imul, 1) := by decide +kernel
theorem dX8_lookBack_26 : decode cX8_lookBack 26 = .ok (.isub, 1) := by decide +kernel
theorem dX8_lookBack_27 : decode cX8_lookBack 27 = .ok (.iload_n 2, 1) := by decide +kernel
theorem dX8_lookBack_28 : decode cX8_lookBack 28 = .ok (.iload 5, 2) := by decide +kernel
theorem dX8_lookBack_30 : decode cX8_lookBack 30 = .ok (.getstatic 75, 3) := by decide +kernel
theorem dX8_lookBack_33 : decode cX8_lookBack 33 = .ok (.iload_n 3, 1) := by decide +kernel
theorem dX8_lookBack_34 : decode cX8_lookBack 34 = .ok (.iaload, 1) := by decide +kernel
theorem dX8_lookBack_35 : decode cX8_lookBack 35 = .ok (.imul, 1) := by decide +kernel
theorem dX8_lookBack_36 : decode cX8_lookBack 36 = .ok (.isub, 1) := by decide +kernel
theorem dX8_lookBack_37 : decode cX8_lookBack 37 = .ok (.invokevirtual 86, 3) := by decide +kernel
theorem dX8_lookBack_40 : decode cX8_lookBack 40 = .ok (.istore 6, 2) := by decide +kernel
theorem dX8_lookBack_42 : decode cX8_lookBack 42 = .ok (.iload 6, 2) := by decide +kernel
theorem dX8_lookBack_44 : decode cX8_lookBack 44 = .ok (.iconst (-1), 1) := by decide +kernel
theorem dX8_lookBack_45 : decode cX8_lookBack 45 = .ok (.if_icmp .ne 6, 3) := by decide +kernel
theorem dX8_lookBack_48 : decode cX8_lookBack 48 = .ok (.goto 62, 3) := by decide +kernel
theorem dX8_lookBack_51 : decode cX8_lookBack 51 = .ok (.iload 6, 2) := by decide +kernel
theorem dX8_lookBack_53 : decode cX8_lookBack 53 = .ok (.invokestatic 90, 3) := by decide +kernel
theorem dX8_lookBack_56 : decode cX8_lookBack 56 = .ok (.ifCond .eq 38, 3) := by decide +kernel
theorem dX8_lookBack_59 : decode cX8_lookBack 59 = .ok (.aload_n 0, 1) := by decide +kernel
theorem dX8_lookBack_60 : decode cX8_lookBack 60 = .ok (.getfield 9, 3) := by decide +kernel
theorem dX8_lookBack_63 : decode cX8_lookBack 63 = .ok (.iload 6, 2) := by decide +kernel
theorem dX8_lookBack_65 : decode cX8_lookBack 65 = .ok (.bipush 10, 2) := by decide +kernel
theorem dX8_lookBack_67 : decode cX8_lookBack 67 = .ok (.isub, 1) := by decide +kernel
theorem dX8_lookBack_68 : decode cX8_lookBack 68 = .ok (.iconst 4, 1) := by decide +kernel
theorem dX8_lookBack_69 : decode cX8_lookBack 69 = .ok (.imul, 1) := by decide +kernel
theorem dX8_lookBack_70 : decode cX8_lookBack 70 = .ok (.iload_n 3, 1) := by decide +kernel
theorem dX8_lookBack_71 : decode cX8_lookBack 71 = .ok (.iadd, 1) := by decide +kernel
theorem dX8_lookBack_72 : decode cX8_lookBack 72 = .ok (.dup2, 1) := by decide +kernel
theorem dX8_lookBack_73 : decode cX8_lookBack 73 = .ok (.iaload, 1) := by decide +kernel
theorem dX8_lookBack_74 : decode cX8_lookBack 74 = .ok (.iload 4, 2) := by decide +kernel
theorem dX8_lookBack_76 : decode cX8_lookBack 76 = .ok (.ior, 1) := by decide +kernel
theorem dX8_lookBack_77 : decode cX8_lookBack 77 = .ok (.iastore, 1) := by decide +kernel
theorem dX8_lookBack_78 : decode cX8_lookBack 78 = .ok (.aload_n 0, 1) := by decide +kernel
theorem dX8_lookBack_79 : decode cX8_lookBack 79 = .ok (.dup, 1) := by decide +kernel
theorem dX8_lookBack_80 : decode cX8_lookBack 80 = .ok (.getfield 21, 3) := by decide +kernel
theorem dX8_lookBack_83 : decode cX8_lookBack 83 = .ok (.iconst 1, 1) := by decide +kernel
theorem dX8_lookBack_84 : decode cX8_lookBack 84 = .ok (.iload 6, 2) := by decide +kernel
theorem dX8_lookBack_86 : decode cX8_lookBack 86 = .ok (.bipush 10, 2) := by decide +kernel
theorem dX8_lookBack_88 : decode cX8_lookBack 88 = .ok (.isub, 1) := by decide +kernel
theorem dX8_lookBack_89 : decode cX8_lookBack 89 = .ok (.ishl, 1) := by decide +kernel
theorem dX8_lookBack_90 : decode cX8_lookBack 90 = .ok (.ior, 1) := by decide +kernel
theorem dX8_lookBack_91 : decode cX8_lookBack 91 = .ok (.putfield 21, 3) := by decide +kernel
theorem dX8_lookBack_94 : decode cX8_lookBack 94 = .ok (.iload 4, 2) := by decide +kernel
theorem dX8_lookBack_96 : decode cX8_lookBack 96 = .ok (.iload 6, 2) := by decide +kernel
theorem dX8_lookBack_98 : decode cX8_lookBack 98 = .ok (.invokestatic 93, 3) := by decide +kernel
theorem dX8_lookBack_101 : decode cX8_lookBack 101 = .ok (.ior, 1) := by decide +kernel
theorem dX8_lookBack_102 : decode cX8_lookBack 102 = .ok (.istore 4, 2) := by decide +kernel
theorem dX8_lookBack_104 : decode cX8_lookBack 104 = .ok (.iinc 5 1, 3) := by decide +kernel
theorem dX8_lookBack_107 : decode cX8_lookBack 107 = .ok (.goto (-101), 3) := by decide +kernel
theorem dX8_lookBack_110 : decode cX8_lookBack 110 = .ok (.return_, 1) := by decide +kernel
theorem dX8_maskOf_0 : decode cX8_maskOf 0 = .ok (.iload_n 0, 1) := by decide +kernel
theorem dX8_maskOf_1 : decode cX8_maskOf 1 = .ok (.invokestatic 90, 3) := by decide +kernel
theorem dX8_maskOf_4 : decode cX8_maskOf 4 = .ok (.ifCond .eq 10, 3) := by decide +kernel
theorem dX8_maskOf_7 : decode cX8_maskOf 7 = .ok (.iconst 1, 1) := by decide +kernel
theorem dX8_maskOf_8 : decode cX8_maskOf 8 = .ok (.iload_n 0, 1) := by decide +kernel
theorem dX8_maskOf_9 : decode cX8_maskOf 9 = .ok (.bipush 10, 2) := by decide +kernel
theorem dX8_maskOf_11 : decode cX8_maskOf 11 = .ok (.isub, 1) := by decide +kernel
theorem dX8_maskOf_12 : decode cX8_maskOf 12 = .ok (.ishl, 1) := by decide +kernel
theorem dX8_maskOf_13 : decode cX8_maskOf 13 = .ok (.ireturn, 1) := by decide +kernel
theorem dX8_maskOf_14 : decode cX8_maskOf 14 = .ok (.iload_n 0, 1) := by decide +kernel
theorem dX8_maskOf_15 : decode cX8_maskOf 15 = .ok (.iconst 3, 1) := by decide +kernel
theorem dX8_maskOf_16 : decode cX8_maskOf 16 = .ok (.if_icmp .eq 8, 3) := by decide +kernel
theorem dX8_maskOf_19 : decode cX8_maskOf 19 = .ok (.iload_n 0, 1) := by decide +kernel
theorem dX8_maskOf_20 : decode cX8_maskOf 20 = .ok (.iconst 4, 1) := by decide +kernel
theorem dX8_maskOf_21 : decode cX8_maskOf 21 = .ok (.if_icmp .ne 7, 3) := by decide +kernel
theorem dX8_maskOf_24 : decode cX8_maskOf 24 = .ok (.iconst 0, 1) := by decide +kernel
theorem dX8_maskOf_25 : decode cX8_maskOf 25 = .ok (.goto 6, 3) := by decide +kernel
theorem dX8_maskOf_28 : decode cX8_maskOf 28 = .ok (.sipush 256, 3) := by decide +kernel
theorem dX8_maskOf_31 : decode cX8_maskOf 31 = .ok (.ireturn, 1) := by decide +kernel
theorem dX8_takeLowestOff_0 : decode cX8_takeLowestOff 0 = .ok (.iconst 0, 1) := by decide +kernel
theorem dX8_takeLowestOff_1 : decode cX8_takeLowestOff 1 = .ok (.istore_n 2, 1) := by decide +kernel
theorem dX8_takeLowestOff_2 : decode cX8_takeLowestOff 2 = .ok (.iload_n 2, 1) := by decide +kernel
theorem dX8_takeLowestOff_3 : decode cX8_takeLowestOff 3 = .ok (.bipush 8, 2) := by decide +kernel
theorem dX8_takeLowestOff_5 : decode cX8_takeLowestOff 5 = .ok (.if_icmp .ge 88, 3) := by decide +kernel
theorem dX8_takeLowestOff_8 : decode cX8_takeLowestOff 8 = .ok (.aload_n 0, 1) := by decide +kernel
theorem dX8_takeLowestOff_9 : decode cX8_takeLowestOff 9 = .ok (.getfield 21, 3) := by decide +kernel
theorem dX8_takeLowestOff_12 : decode cX8_takeLowestOff 12 = .ok (.iload_n 2, 1) := by decide +kernel
theorem dX8_takeLowestOff_13 : decode cX8_takeLowestOff 13 = .ok (.ishr, 1) := by decide +kernel
theorem dX8_takeLowestOff_14 : decode cX8_takeLowestOff 14 = .ok (.iconst 1, 1) := by decide +kernel
theorem dX8_takeLowestOff_15 : decode cX8_takeLowestOff 15 = .ok (.iand, 1) := by decide +kernel
theorem dX8_takeLowestOff_16 : decode cX8_takeLowestOff 16 = .ok (.iconst 1, 1) := by decide +kernel
theorem dX8_takeLowestOff_17 : decode cX8_takeLowestOff 17 = .ok (.if_icmp .ne 18, 3) := by decide +kernel
theorem dX8_takeLowestOff_20 : decode cX8_takeLowestOff 20 = .ok (.aload_n 0, 1) := by decide +kernel
theorem dX8_takeLowestOff_21 : decode cX8_takeLowestOff 21 = .ok (.getfield 25, 3) := by decide +kernel
theorem dX8_takeLowestOff_24 : decode cX8_takeLowestOff 24 = .ok (.iload_n 2, 1) := by decide +kernel
theorem dX8_takeLowestOff_25 : decode cX8_takeLowestOff 25 = .ok (.ishr, 1) := by decide +kernel
theorem dX8_takeLowestOff_26 : decode cX8_takeLowestOff 26 = .ok (.iconst 1, 1) := by decide +kernel
theorem dX8_takeLowestOff_27 : decode cX8_takeLowestOff 27 = .ok (.iand, 1) := by decide +kernel
theorem dX8_takeLowestOff_28 : decode cX8_takeLowestOff 28 = .ok (.ifCond .ne 7, 3) := by decide +kernel
theorem dX8_takeLowestOff_31 : decode cX8_takeLowestOff 31 = .ok (.iconst 1, 1) := by decide +kernel
theorem dX8_takeLowestOff_32 : decode cX8_takeLowestOff 32 = .ok (.goto 4, 3) := by decide +kernel
theorem dX8_takeLowestOff_35 : decode cX8_takeLowestOff 35 = .ok (.iconst 0, 1) := by decide +kernel
theorem dX8_takeLowestOff_36 : decode cX8_takeLowestOff 36 = .ok (.istore_n 3, 1) := by decide +kernel
theorem dX8_takeLowestOff_37 : decode cX8_takeLowestOff 37 = .ok (.iload_n 3, 1) := by decide +kernel
theorem dX8_takeLowestOff_38 : decode cX8_takeLowestOff 38 = .ok (.ifCond .eq 11, 3) := by decide +kernel
theorem dX8_takeLowestOff_41 : decode cX8_takeLowestOff 41 = .ok (.aload_n 0, 1) := by decide +kernel
theorem dX8_takeLowestOff_42 : decode cX8_takeLowestOff 42 = .ok (.iload_n 2, 1) := by decide +kernel
theorem dX8_takeLowestOff_43 : decode cX8_takeLowestOff 43 = .ok (.invokevirtual 96, 3) := by decide +kernel
theorem dX8_takeLowestOff_46 : decode cX8_takeLowestOff 46 = .ok (.goto 4, 3) := by decide +kernel
theorem dX8_takeLowestOff_49 : decode cX8_takeLowestOff 49 = .ok (.iconst (-1), 1) := by decide +kernel
theorem dX8_takeLowestOff_50 : decode cX8_takeLowestOff 50 = .ok (.istore 4, 2) := by decide +kernel
theorem dX8_takeLowestOff_52 : decode cX8_takeLowestOff 52 = .ok (.iload 4, 2) := by decide +kernel
theorem dX8_takeLowestOff_54 : decode cX8_takeLowestOff 54 = .ok (.iconst (-1), 1) := by decide +kernel
theorem dX8_takeLowestOff_55 : decode cX8_takeLowestOff 55 = .ok (.if_icmp .eq 32, 3) := by decide +kernel
theorem dX8_takeLowestOff_58 : decode cX8_takeLowestOff 58 = .ok (.aload_n 0, 1) := by decide +kernel
theorem dX8_takeLowestOff_59 : decode cX8_takeLowestOff 59 = .ok (.dup, 1) := by decide +kernel
theorem dX8_takeLowestOff_60 : decode cX8_takeLowestOff 60 = .ok (.getfield 25, 3) := by decide +kernel
theorem dX8_takeLowestOff_63 : decode cX8_takeLowestOff 63 = .ok (.iconst 1, 1) := by decide +kernel
theorem dX8_takeLowestOff_64 : decode cX8_takeLowestOff 64 = .ok (.iload_n 2, 1) := by decide +kernel
theorem dX8_takeLowestOff_65 : decode cX8_takeLowestOff 65 = .ok (.ishl, 1) := by decide +kernel
theorem dX8_takeLowestOff_66 : decode cX8_takeLowestOff 66 = .ok (.ior, 1) := by decide +kernel
theorem dX8_takeLowestOff_67 : decode cX8_takeLowestOff 67 = .ok (.putfield 25, 3) := by decide +kernel
theorem dX8_takeLowestOff_70 : decode cX8_takeLowestOff 70 = .ok (.aload_n 0, 1) := by decide +kernel
theorem dX8_takeLowestOff_71 : decode cX8_takeLowestOff 71 = .ok (.getfield 15, 3) := by decide +kernel
theorem dX8_takeLowestOff_74 : decode cX8_takeLowestOff 74 = .ok (.iload_n 1, 1) := by decide +kernel
theorem dX8_takeLowestOff_75 : decode cX8_takeLowestOff 75 = .ok (.iload_n 2, 1) := by decide +kernel
theorem dX8_takeLowestOff_76 : decode cX8_takeLowestOff 76 = .ok (.iastore, 1) := by decide +kernel
theorem dX8_takeLowestOff_77 : decode cX8_takeLowestOff 77 = .ok (.aload_n 0, 1) := by decide +kernel
theorem dX8_takeLowestOff_78 : decode cX8_takeLowestOff 78 = .ok (.getfield 18, 3) := by decide +kernel
theorem dX8_takeLowestOff_81 : decode cX8_takeLowestOff 81 = .ok (.iload_n 1, 1) := by decide +kernel
theorem dX8_takeLowestOff_82 : decode cX8_takeLowestOff 82 = .ok (.iload 4, 2) := by decide +kernel
theorem dX8_takeLowestOff_84 : decode cX8_takeLowestOff 84 = .ok (.iastore, 1) := by decide +kernel
theorem dX8_takeLowestOff_85 : decode cX8_takeLowestOff 85 = .ok (.iconst 1, 1) := by decide +kernel
theorem dX8_takeLowestOff_86 : decode cX8_takeLowestOff 86 = .ok (.ireturn, 1) := by decide +kernel
theorem dX8_takeLowestOff_87 : decode cX8_takeLowestOff 87 = .ok (.iinc 2 1, 3) := by decide +kernel
theorem dX8_takeLowestOff_90 : decode cX8_takeLowestOff 90 = .ok (.goto (-88), 3) := by decide +kernel
theorem dX8_takeLowestOff_93 : decode cX8_takeLowestOff 93 = .ok (.iconst 0, 1) := by decide +kernel
theorem dX8_takeLowestOff_94 : decode cX8_takeLowestOff 94 = .ok (.ireturn, 1) := by decide +kernel
theorem dX8_lowestWay_0 : decode cX8_lowestWay 0 = .ok (.aload_n 0, 1) := by decide +kernel
theorem dX8_lowestWay_1 : decode cX8_lowestWay 1 = .ok (.getfield 25, 3) := by decide +kernel
theorem dX8_lowestWay_4 : decode cX8_lowestWay 4 = .ok (.iconst 1, 1) := by decide +kernel
theorem dX8_lowestWay_5 : decode cX8_lowestWay 5 = .ok (.iload_n 1, 1) := by decide +kernel
theorem dX8_lowestWay_6 : decode cX8_lowestWay 6 = .ok (.ishl, 1) := by decide +kernel
theorem dX8_lowestWay_7 : decode cX8_lowestWay 7 = .ok (.ior, 1) := by decide +kernel
theorem dX8_lowestWay_8 : decode cX8_lowestWay 8 = .ok (.istore_n 2, 1) := by decide +kernel
theorem dX8_lowestWay_9 : decode cX8_lowestWay 9 = .ok (.iconst 0, 1) := by decide +kernel
theorem dX8_lowestWay_10 : decode cX8_lowestWay 10 = .ok (.istore_n 3, 1) := by decide +kernel
theorem dX8_lowestWay_11 : decode cX8_lowestWay 11 = .ok (.iload_n 3, 1) := by decide +kernel
theorem dX8_lowestWay_12 : decode cX8_lowestWay 12 = .ok (.iconst 4, 1) := by decide +kernel
theorem dX8_lowestWay_13 : decode cX8_lowestWay 13 = .ok (.if_icmp .ge 28, 3) := by decide +kernel
theorem dX8_lowestWay_16 : decode cX8_lowestWay 16 = .ok (.aload_n 0, 1) := by decide +kernel
theorem dX8_lowestWay_17 : decode cX8_lowestWay 17 = .ok (.getfield 9, 3) := by decide +kernel
theorem dX8_lowestWay_20 : decode cX8_lowestWay 20 = .ok (.iload_n 1, 1) := by decide +kernel
theorem dX8_lowestWay_21 : decode cX8_lowestWay 21 = .ok (.iconst 4, 1) := by decide +kernel
theorem dX8_lowestWay_22 : decode cX8_lowestWay 22 = .ok (.imul, 1) := by decide +kernel
theorem dX8_lowestWay_23 : decode cX8_lowestWay 23 = .ok (.iload_n 3, 1) := by decide +kernel
theorem dX8_lowestWay_24 : decode cX8_lowestWay 24 = .ok (.iadd, 1) := by decide +kernel
theorem dX8_lowestWay_25 : decode cX8_lowestWay 25 = .ok (.iaload, 1) := by decide +kernel
theorem dX8_lowestWay_26 : decode cX8_lowestWay 26 = .ok (.iload_n 2, 1) := by decide +kernel
theorem dX8_lowestWay_27 : decode cX8_lowestWay 27 = .ok (.iconst (-1), 1) := by decide +kernel
theorem dX8_lowestWay_28 : decode cX8_lowestWay 28 = .ok (.ixor, 1) := by decide +kernel
theorem dX8_lowestWay_29 : decode cX8_lowestWay 29 = .ok (.iand, 1) := by decide +kernel
theorem dX8_lowestWay_30 : decode cX8_lowestWay 30 = .ok (.ifCond .ne 5, 3) := by decide +kernel
theorem dX8_lowestWay_33 : decode cX8_lowestWay 33 = .ok (.iload_n 3, 1) := by decide +kernel
theorem dX8_lowestWay_34 : decode cX8_lowestWay 34 = .ok (.ireturn, 1) := by decide +kernel
theorem dX8_lowestWay_35 : decode cX8_lowestWay 35 = .ok (.iinc 3 1, 3) := by decide +kernel
theorem dX8_lowestWay_38 : decode cX8_lowestWay 38 = .ok (.goto (-27), 3) := by decide +kernel
theorem dX8_lowestWay_41 : decode cX8_lowestWay 41 = .ok (.iconst (-1), 1) := by decide +kernel
theorem dX8_lowestWay_42 : decode cX8_lowestWay 42 = .ok (.ireturn, 1) := by decide +kernel
theorem dX9_init_0 : decode cX9_init 0 = .ok (.aload_n 0, 1) := by decide +kernel
theorem dX9_init_1 : decode cX9_init 1 = .ok (.invokespecial 3, 3) := by decide +kernel
theorem dX9_init_4 : decode cX9_init 4 = .ok (.aload_n 0, 1) := by decide +kernel
theorem dX9_init_5 : decode cX9_init 5 = .ok (.sipush 300, 3) := by decide +kernel
theorem dX9_init_8 : decode cX9_init 8 = .ok (.newarray .int, 2) := by decide +kernel
theorem dX9_init_10 : decode cX9_init 10 = .ok (.putfield 9, 3) := by decide +kernel
theorem dX9_init_13 : decode cX9_init 13 = .ok (.aload_n 0, 1) := by decide +kernel
theorem dX9_init_14 : decode cX9_init 14 = .ok (.iconst 0, 1) := by decide +kernel
theorem dX9_init_15 : decode cX9_init 15 = .ok (.putfield 15, 3) := by decide +kernel
theorem dX9_init_18 : decode cX9_init 18 = .ok (.return_, 1) := by decide +kernel
theorem dX9_length_0 : decode cX9_length 0 = .ok (.aload_n 0, 1) := by decide +kernel
theorem dX9_length_1 : decode cX9_length 1 = .ok (.getfield 15, 3) := by decide +kernel
theorem dX9_length_4 : decode cX9_length 4 = .ok (.ireturn, 1) := by decide +kernel
theorem dX9_byteAt_0 : decode cX9_byteAt 0 = .ok (.iload_n 1, 1) := by decide +kernel
theorem dX9_byteAt_1 : decode cX9_byteAt 1 = .ok (.ifCond .lt 27, 3) := by decide +kernel
theorem dX9_byteAt_4 : decode cX9_byteAt 4 = .ok (.iload_n 1, 1) := by decide +kernel
theorem dX9_byteAt_5 : decode cX9_byteAt 5 = .ok (.aload_n 0, 1) := by decide +kernel
theorem dX9_byteAt_6 : decode cX9_byteAt 6 = .ok (.getfield 15, 3) := by decide +kernel
theorem dX9_byteAt_9 : decode cX9_byteAt 9 = .ok (.if_icmp .ge 19, 3) := by decide +kernel
theorem dX9_byteAt_12 : decode cX9_byteAt 12 = .ok (.iload_n 1, 1) := by decide +kernel
theorem dX9_byteAt_13 : decode cX9_byteAt 13 = .ok (.sipush 300, 3) := by decide +kernel
theorem dX9_byteAt_16 : decode cX9_byteAt 16 = .ok (.if_icmp .ge 12, 3) := by decide +kernel
theorem dX9_byteAt_19 : decode cX9_byteAt 19 = .ok (.aload_n 0, 1) := by decide +kernel
theorem dX9_byteAt_20 : decode cX9_byteAt 20 = .ok (.getfield 9, 3) := by decide +kernel
theorem dX9_byteAt_23 : decode cX9_byteAt 23 = .ok (.iload_n 1, 1) := by decide +kernel
theorem dX9_byteAt_24 : decode cX9_byteAt 24 = .ok (.iaload, 1) := by decide +kernel
theorem dX9_byteAt_25 : decode cX9_byteAt 25 = .ok (.goto 4, 3) := by decide +kernel
theorem dX9_byteAt_28 : decode cX9_byteAt 28 = .ok (.iconst (-1), 1) := by decide +kernel
theorem dX9_byteAt_29 : decode cX9_byteAt 29 = .ok (.ireturn, 1) := by decide +kernel
theorem dX9_addNumber_0 : decode cX9_addNumber 0 = .ok (.bipush 24, 2) := by decide +kernel
theorem dX9_addNumber_2 : decode cX9_addNumber 2 = .ok (.istore_n 2, 1) := by decide +kernel
theorem dX9_addNumber_3 : decode cX9_addNumber 3 = .ok (.iload_n 2, 1) := by decide +kernel
theorem dX9_addNumber_4 : decode cX9_addNumber 4 = .ok (.ifCond .lt 45, 3) := by decide +kernel
theorem dX9_addNumber_7 : decode cX9_addNumber 7 = .ok (.aload_n 0, 1) := by decide +kernel
theorem dX9_addNumber_8 : decode cX9_addNumber 8 = .ok (.getfield 15, 3) := by decide +kernel
theorem dX9_addNumber_11 : decode cX9_addNumber 11 = .ok (.sipush 300, 3) := by decide +kernel
theorem dX9_addNumber_14 : decode cX9_addNumber 14 = .ok (.if_icmp .ge 35, 3) := by decide +kernel
theorem dX9_addNumber_17 : decode cX9_addNumber 17 = .ok (.aload_n 0, 1) := by decide +kernel
theorem dX9_addNumber_18 : decode cX9_addNumber 18 = .ok (.getfield 9, 3) := by decide +kernel
theorem dX9_addNumber_21 : decode cX9_addNumber 21 = .ok (.aload_n 0, 1) := by decide +kernel
theorem dX9_addNumber_22 : decode cX9_addNumber 22 = .ok (.getfield 15, 3) := by decide +kernel
theorem dX9_addNumber_25 : decode cX9_addNumber 25 = .ok (.iload_n 1, 1) := by decide +kernel
theorem dX9_addNumber_26 : decode cX9_addNumber 26 = .ok (.iload_n 2, 1) := by decide +kernel
theorem dX9_addNumber_27 : decode cX9_addNumber 27 = .ok (.iushr, 1) := by decide +kernel
theorem dX9_addNumber_28 : decode cX9_addNumber 28 = .ok (.sipush 255, 3) := by decide +kernel
theorem dX9_addNumber_31 : decode cX9_addNumber 31 = .ok (.iand, 1) := by decide +kernel
theorem dX9_addNumber_32 : decode cX9_addNumber 32 = .ok (.iastore, 1) := by decide +kernel
theorem dX9_addNumber_33 : decode cX9_addNumber 33 = .ok (.aload_n 0, 1) := by decide +kernel
theorem dX9_addNumber_34 : decode cX9_addNumber 34 = .ok (.dup, 1) := by decide +kernel
theorem dX9_addNumber_35 : decode cX9_addNumber 35 = .ok (.getfield 15, 3) := by decide +kernel
theorem dX9_addNumber_38 : decode cX9_addNumber 38 = .ok (.iconst 1, 1) := by decide +kernel
theorem dX9_addNumber_39 : decode cX9_addNumber 39 = .ok (.iadd, 1) := by decide +kernel
theorem dX9_addNumber_40 : decode cX9_addNumber 40 = .ok (.putfield 15, 3) := by decide +kernel
theorem dX9_addNumber_43 : decode cX9_addNumber 43 = .ok (.iinc 2 (-8), 3) := by decide +kernel
theorem dX9_addNumber_46 : decode cX9_addNumber 46 = .ok (.goto (-43), 3) := by decide +kernel
theorem dX9_addNumber_49 : decode cX9_addNumber 49 = .ok (.return_, 1) := by decide +kernel
theorem dX9_cut_0 : decode cX9_cut 0 = .ok (.iload_n 1, 1) := by decide +kernel
theorem dX9_cut_1 : decode cX9_cut 1 = .ok (.ifCond .lt 16, 3) := by decide +kernel
theorem dX9_cut_4 : decode cX9_cut 4 = .ok (.iload_n 1, 1) := by decide +kernel
theorem dX9_cut_5 : decode cX9_cut 5 = .ok (.aload_n 0, 1) := by decide +kernel
theorem dX9_cut_6 : decode cX9_cut 6 = .ok (.getfield 15, 3) := by decide +kernel
theorem dX9_cut_9 : decode cX9_cut 9 = .ok (.if_icmp .gt 8, 3) := by decide +kernel
theorem dX9_cut_12 : decode cX9_cut 12 = .ok (.aload_n 0, 1) := by decide +kernel
theorem dX9_cut_13 : decode cX9_cut 13 = .ok (.iload_n 1, 1) := by decide +kernel
theorem dX9_cut_14 : decode cX9_cut 14 = .ok (.putfield 15, 3) := by decide +kernel
theorem dX9_cut_17 : decode cX9_cut 17 = .ok (.return_, 1) := by decide +kernel
theorem dX10_init_0 : decode cX10_init 0 = .ok (.aload_n 0, 1) := by decide +kernel
theorem dX10_init_1 : decode cX10_init 1 = .ok (.invokespecial 3, 3) := by decide +kernel
theorem dX10_init_4 : decode cX10_init 4 = .ok (.aload_n 0, 1) := by decide +kernel
theorem dX10_init_5 : decode cX10_init 5 = .ok (.sipush 320, 3) := by decide +kernel
theorem dX10_init_8 : decode cX10_init 8 = .ok (.newarray .int, 2) := by decide +kernel
theorem dX10_init_10 : decode cX10_init 10 = .ok (.putfield 9, 3) := by decide +kernel
theorem dX10_init_13 : decode cX10_init 13 = .ok (.aload_n 0, 1) := by decide +kernel
theorem dX10_init_14 : decode cX10_init 14 = .ok (.sipush 150, 3) := by decide +kernel
theorem dX10_init_17 : decode cX10_init 17 = .ok (.newarray .int, 2) := by decide +kernel
theorem dX10_init_19 : decode cX10_init 19 = .ok (.putfield 15, 3) := by decide +kernel
theorem dX10_init_22 : decode cX10_init 22 = .ok (.aload_n 0, 1) := by decide +kernel
theorem dX10_init_23 : decode cX10_init 23 = .ok (.sipush 150, 3) := by decide +kernel
theorem dX10_init_26 : decode cX10_init 26 = .ok (.newarray .int, 2) := by decide +kernel
theorem dX10_init_28 : decode cX10_init 28 = .ok (.putfield 18, 3) := by decide +kernel
theorem dX10_init_31 : decode cX10_init 31 = .ok (.aload_n 0, 1) := by decide +kernel
theorem dX10_init_32 : decode cX10_init 32 = .ok (.sipush 150, 3) := by decide +kernel
theorem dX10_init_35 : decode cX10_init 35 = .ok (.newarray .int, 2) := by decide +kernel
theorem dX10_init_37 : decode cX10_init 37 = .ok (.putfield 21, 3) := by decide +kernel
theorem dX10_init_40 : decode cX10_init 40 = .ok (.aload_n 0, 1) := by decide +kernel
theorem dX10_init_41 : decode cX10_init 41 = .ok (.bipush 8, 2) := by decide +kernel
theorem dX10_init_43 : decode cX10_init 43 = .ok (.newarray .int, 2) := by decide +kernel
theorem dX10_init_45 : decode cX10_init 45 = .ok (.putfield 24, 3) := by decide +kernel
theorem dX10_init_48 : decode cX10_init 48 = .ok (.aload_n 0, 1) := by decide +kernel
theorem dX10_init_49 : decode cX10_init 49 = .ok (.bipush 8, 2) := by decide +kernel
theorem dX10_init_51 : decode cX10_init 51 = .ok (.newarray .int, 2) := by decide +kernel
theorem dX10_init_53 : decode cX10_init 53 = .ok (.putfield 27, 3) := by decide +kernel
theorem dX10_init_56 : decode cX10_init 56 = .ok (.aload_n 0, 1) := by decide +kernel
theorem dX10_init_57 : decode cX10_init 57 = .ok (.iconst 0, 1) := by decide +kernel
theorem dX10_init_58 : decode cX10_init 58 = .ok (.putfield 30, 3) := by decide +kernel
theorem dX10_init_61 : decode cX10_init 61 = .ok (.aload_n 0, 1) := by decide +kernel
theorem dX10_init_62 : decode cX10_init 62 = .ok (.iconst 0, 1) := by decide +kernel
theorem dX10_init_63 : decode cX10_init 63 = .ok (.putfield 34, 3) := by decide +kernel
theorem dX10_init_66 : decode cX10_init 66 = .ok (.return_, 1) := by decide +kernel
theorem dX10_length_0 : decode cX10_length 0 = .ok (.aload_n 0, 1) := by decide +kernel
theorem dX10_length_1 : decode cX10_length 1 = .ok (.getfield 30, 3) := by decide +kernel
theorem dX10_length_4 : decode cX10_length 4 = .ok (.ireturn, 1) := by decide +kernel
theorem dX10_toldLength_0 : decode cX10_toldLength 0 = .ok (.aload_n 0, 1) := by decide +kernel
theorem dX10_toldLength_1 : decode cX10_toldLength 1 = .ok (.getfield 34, 3) := by decide +kernel
theorem dX10_toldLength_4 : decode cX10_toldLength 4 = .ok (.ireturn, 1) := by decide +kernel
theorem dX10_isFull_0 : decode cX10_isFull 0 = .ok (.aload_n 0, 1) := by decide +kernel
theorem dX10_isFull_1 : decode cX10_isFull 1 = .ok (.getfield 30, 3) := by decide +kernel
theorem dX10_isFull_4 : decode cX10_isFull 4 = .ok (.bipush 40, 2) := by decide +kernel
theorem dX10_isFull_6 : decode cX10_isFull 6 = .ok (.if_icmp .lt 7, 3) := by decide +kernel
theorem dX10_isFull_9 : decode cX10_isFull 9 = .ok (.iconst 1, 1) := by decide +kernel
theorem dX10_isFull_10 : decode cX10_isFull 10 = .ok (.goto 4, 3) := by decide +kernel
theorem dX10_isFull_13 : decode cX10_isFull 13 = .ok (.iconst 0, 1) := by decide +kernel
theorem dX10_isFull_14 : decode cX10_isFull 14 = .ok (.ireturn, 1) := by decide +kernel
theorem dX10_isToldFull_0 : decode cX10_isToldFull 0 = .ok (.aload_n 0, 1) := by decide +kernel
theorem dX10_isToldFull_1 : decode cX10_isToldFull 1 = .ok (.getfield 34, 3) := by decide +kernel
theorem dX10_isToldFull_4 : decode cX10_isToldFull 4 = .ok (.sipush 150, 3) := by decide +kernel
theorem dX10_isToldFull_7 : decode cX10_isToldFull 7 = .ok (.if_icmp .lt 7, 3) := by decide +kernel
theorem dX10_isToldFull_10 : decode cX10_isToldFull 10 = .ok (.iconst 1, 1) := by decide +kernel
theorem dX10_isToldFull_11 : decode cX10_isToldFull 11 = .ok (.goto 4, 3) := by decide +kernel
theorem dX10_isToldFull_14 : decode cX10_isToldFull 14 = .ok (.iconst 0, 1) := by decide +kernel
theorem dX10_isToldFull_15 : decode cX10_isToldFull 15 = .ok (.ireturn, 1) := by decide +kernel
theorem dX10_has_0 : decode cX10_has 0 = .ok (.iload_n 1, 1) := by decide +kernel
theorem dX10_has_1 : decode cX10_has 1 = .ok (.ifCond .lt 21, 3) := by decide +kernel
theorem dX10_has_4 : decode cX10_has 4 = .ok (.iload_n 1, 1) := by decide +kernel
theorem dX10_has_5 : decode cX10_has 5 = .ok (.aload_n 0, 1) := by decide +kernel
theorem dX10_has_6 : decode cX10_has 6 = .ok (.getfield 30, 3) := by decide +kernel
theorem dX10_has_9 : decode cX10_has 9 = .ok (.if_icmp .ge 13, 3) := by decide +kernel
theorem dX10_has_12 : decode cX10_has 12 = .ok (.iload_n 1, 1) := by decide +kernel
theorem dX10_has_13 : decode cX10_has 13 = .ok (.bipush 40, 2) := by decide +kernel
theorem dX10_has_15 : decode cX10_has 15 = .ok (.if_icmp .ge 7, 3) := by decide +kernel
theorem dX10_has_18 : decode cX10_has 18 = .ok (.iconst 1, 1) := by decide +kernel
theorem dX10_has_19 : decode cX10_has 19 = .ok (.goto 4, 3) := by decide +kernel
theorem dX10_has_22 : decode cX10_has 22 = .ok (.iconst 0, 1) := by decide +kernel
theorem dX10_has_23 : decode cX10_has 23 = .ok (.ireturn, 1) := by decide +kernel
theorem dX10_add_0 : decode cX10_add 0 = .ok (.aload_n 0, 1) := by decide +kernel
theorem dX10_add_1 : decode cX10_add 1 = .ok (.invokevirtual 37, 3) := by decide +kernel
theorem dX10_add_4 : decode cX10_add 4 = .ok (.ifCond .eq 5, 3) := by decide +kernel
theorem dX10_add_7 : decode cX10_add 7 = .ok (.iconst (-1), 1) := by decide +kernel
theorem dX10_add_8 : decode cX10_add 8 = .ok (.ireturn, 1) := by decide +kernel
theorem dX10_add_9 : decode cX10_add 9 = .ok (.iload_n 1, 1) := by decide +kernel
theorem dX10_add_10 : decode cX10_add 10 = .ok (.istore_n 2, 1) := by decide +kernel
theorem dX10_add_11 : decode cX10_add 11 = .ok (.iconst 0, 1) := by decide +kernel
theorem dX10_add_12 : decode cX10_add 12 = .ok (.istore_n 3, 1) := by decide +kernel
theorem dX10_add_13 : decode cX10_add 13 = .ok (.iload_n 3, 1) := by decide +kernel
theorem dX10_add_14 : decode cX10_add 14 = .ok (.bipush 8, 2) := by decide +kernel
theorem dX10_add_16 : decode cX10_add 16 = .ok (.if_icmp .ge 32, 3) := by decide +kernel
theorem dX10_add_19 : decode cX10_add 19 = .ok (.aload_n 0, 1) := by decide +kernel
theorem dX10_add_20 : decode cX10_add 20 = .ok (.getfield 9, 3) := by decide +kernel
theorem dX10_add_23 : decode cX10_add 23 = .ok (.aload_n 0, 1) := by decide +kernel
theorem dX10_add_24 : decode cX10_add 24 = .ok (.getfield 30, 3) := by decide +kernel
theorem dX10_add_27 : decode cX10_add 27 = .ok (.bipush 8, 2) := by decide +kernel
theorem dX10_add_29 : decode cX10_add 29 = .ok (.imul, 1) := by decide +kernel
theorem dX10_add_30 : decode cX10_add 30 = .ok (.iload_n 3, 1) := by decide +kernel
theorem dX10_add_31 : decode cX10_add 31 = .ok (.iadd, 1) := by decide +kernel
theorem dX10_add_32 : decode cX10_add 32 = .ok (.iload_n 2, 1) := by decide +kernel
theorem dX10_add_33 : decode cX10_add 33 = .ok (.bipush 10, 2) := by decide +kernel
theorem dX10_add_35 : decode cX10_add 35 = .ok (.irem, 1) := by decide +kernel
theorem dX10_add_36 : decode cX10_add 36 = .ok (.iastore, 1) := by decide +kernel
theorem dX10_add_37 : decode cX10_add 37 = .ok (.iload_n 2, 1) := by decide +kernel
theorem dX10_add_38 : decode cX10_add 38 = .ok (.bipush 10, 2) := by decide +kernel
theorem dX10_add_40 : decode cX10_add 40 = .ok (.idiv, 1) := by decide +kernel
theorem dX10_add_41 : decode cX10_add 41 = .ok (.istore_n 2, 1) := by decide +kernel
theorem dX10_add_42 : decode cX10_add 42 = .ok (.iinc 3 1, 3) := by decide +kernel
theorem dX10_add_45 : decode cX10_add 45 = .ok (.goto (-32), 3) := by decide +kernel
theorem dX10_add_48 : decode cX10_add 48 = .ok (.aload_n 0, 1) := by decide +kernel
theorem dX10_add_49 : decode cX10_add 49 = .ok (.dup, 1) := by decide +kernel
theorem dX10_add_50 : decode cX10_add 50 = .ok (.getfield 30, 3) := by decide +kernel
theorem dX10_add_53 : decode cX10_add 53 = .ok (.iconst 1, 1) := by decide +kernel
theorem dX10_add_54 : decode cX10_add 54 = .ok (.iadd, 1) := by decide +kernel
theorem dX10_add_55 : decode cX10_add 55 = .ok (.putfield 30, 3) := by decide +kernel
theorem dX10_add_58 : decode cX10_add 58 = .ok (.aload_n 0, 1) := by decide +kernel
theorem dX10_add_59 : decode cX10_add 59 = .ok (.getfield 30, 3) := by decide +kernel
theorem dX10_add_62 : decode cX10_add 62 = .ok (.iconst 1, 1) := by decide +kernel
theorem dX10_add_63 : decode cX10_add 63 = .ok (.isub, 1) := by decide +kernel
theorem dX10_add_64 : decode cX10_add 64 = .ok (.ireturn, 1) := by decide +kernel
theorem dX10_likeness_0 : decode cX10_likeness 0 = .ok (.aload_n 0, 1) := by decide +kernel
theorem dX10_likeness_1 : decode cX10_likeness 1 = .ok (.iload_n 1, 1) := by decide +kernel
theorem dX10_likeness_2 : decode cX10_likeness 2 = .ok (.invokevirtual 41, 3) := by decide +kernel
theorem dX10_likeness_5 : decode cX10_likeness 5 = .ok (.ifCond .eq 11, 3) := by decide +kernel
theorem dX10_likeness_8 : decode cX10_likeness 8 = .ok (.aload_n 0, 1) := by decide +kernel
theorem dX10_likeness_9 : decode cX10_likeness 9 = .ok (.iload_n 2, 1) := by decide +kernel
theorem dX10_likeness_10 : decode cX10_likeness 10 = .ok (.invokevirtual 41, 3) := by decide +kernel
theorem dX10_likeness_13 : decode cX10_likeness 13 = .ok (.ifCond .ne 5, 3) := by decide +kernel
theorem dX10_likeness_16 : decode cX10_likeness 16 = .ok (.iconst 0, 1) := by decide +kernel
theorem dX10_likeness_17 : decode cX10_likeness 17 = .ok (.ireturn, 1) := by decide +kernel
theorem dX10_likeness_18 : decode cX10_likeness 18 = .ok (.iconst 0, 1) := by decide +kernel
theorem dX10_likeness_19 : decode cX10_likeness 19 = .ok (.istore_n 3, 1) := by decide +kernel
theorem dX10_likeness_20 : decode cX10_likeness 20 = .ok (.iconst 0, 1) := by decide +kernel
theorem dX10_likeness_21 : decode cX10_likeness 21 = .ok (.istore 4, 2) := by decide +kernel
theorem dX10_likeness_23 : decode cX10_likeness 23 = .ok (.iload 4, 2) := by decide +kernel
theorem dX10_likeness_25 : decode cX10_likeness 25 = .ok (.bipush 8, 2) := by decide +kernel
theorem dX10_likeness_27 : decode cX10_likeness 27 = .ok (.if_icmp .ge 62, 3) := by decide +kernel
theorem dX10_likeness_30 : decode cX10_likeness 30 = .ok (.aload_n 0, 1) := by decide +kernel
theorem dX10_likeness_31 : decode cX10_likeness 31 = .ok (.getfield 9, 3) := by decide +kernel
theorem dX10_likeness_34 : decode cX10_likeness 34 = .ok (.iload_n 1, 1) := by decide +kernel
theorem dX10_likeness_35 : decode cX10_likeness 35 = .ok (.bipush 8, 2) := by decide +kernel
theorem dX10_likeness_37 : decode cX10_likeness 37 = .ok (.imul, 1) := by decide +kernel
theorem dX10_likeness_38 : decode cX10_likeness 38 = .ok (.iload 4, 2) := by decide +kernel
theorem dX10_likeness_40 : decode cX10_likeness 40 = .ok (.iadd, 1) := by decide +kernel
theorem dX10_likeness_41 : decode cX10_likeness 41 = .ok (.iaload, 1) := by decide +kernel
theorem dX10_likeness_42 : decode cX10_likeness 42 = .ok (.istore 5, 2) := by decide +kernel
theorem dX10_likeness_44 : decode cX10_likeness 44 = .ok (.aload_n 0, 1) := by decide +kernel
theorem dX10_likeness_45 : decode cX10_likeness 45 = .ok (.getfield 9, 3) := by decide +kernel
theorem dX10_likeness_48 : decode cX10_likeness 48 = .ok (.iload_n 2, 1) := by decide +kernel
theorem dX10_likeness_49 : decode cX10_likeness 49 = .ok (.bipush 8, 2) := by decide +kernel
theorem dX10_likeness_51 : decode cX10_likeness 51 = .ok (.imul, 1) := by decide +kernel
theorem dX10_likeness_52 : decode cX10_likeness 52 = .ok (.iload 4, 2) := by decide +kernel
theorem dX10_likeness_54 : decode cX10_likeness 54 = .ok (.iadd, 1) := by decide +kernel
theorem dX10_likeness_55 : decode cX10_likeness 55 = .ok (.iaload, 1) := by decide +kernel
theorem dX10_likeness_56 : decode cX10_likeness 56 = .ok (.istore 6, 2) := by decide +kernel
theorem dX10_likeness_58 : decode cX10_likeness 58 = .ok (.iload 5, 2) := by decide +kernel
theorem dX10_likeness_60 : decode cX10_likeness 60 = .ok (.ifCond .eq 23, 3) := by decide +kernel
theorem dX10_likeness_63 : decode cX10_likeness 63 = .ok (.iload 6, 2) := by decide +kernel
theorem dX10_likeness_65 : decode cX10_likeness 65 = .ok (.ifCond .eq 18, 3) := by decide +kernel
theorem dX10_likeness_68 : decode cX10_likeness 68 = .ok (.iload_n 3, 1) := by decide +kernel
theorem dX10_likeness_69 : decode cX10_likeness 69 = .ok (.iload 5, 2) := by decide +kernel
theorem dX10_likeness_71 : decode cX10_likeness 71 = .ok (.iload 6, 2) := by decide +kernel
theorem dX10_likeness_73 : decode cX10_likeness 73 = .ok (.if_icmp .ne 7, 3) := by decide +kernel
theorem dX10_likeness_76 : decode cX10_likeness 76 = .ok (.iconst 1, 1) := by decide +kernel
theorem dX10_likeness_77 : decode cX10_likeness 77 = .ok (.goto 4, 3) := by decide +kernel
theorem dX10_likeness_80 : decode cX10_likeness 80 = .ok (.iconst (-1), 1) := by decide +kernel
theorem dX10_likeness_81 : decode cX10_likeness 81 = .ok (.iadd, 1) := by decide +kernel
theorem dX10_likeness_82 : decode cX10_likeness 82 = .ok (.istore_n 3, 1) := by decide +kernel
theorem dX10_likeness_83 : decode cX10_likeness 83 = .ok (.iinc 4 1, 3) := by decide +kernel
theorem dX10_likeness_86 : decode cX10_likeness 86 = .ok (.goto (-63), 3) := by decide +kernel
theorem dX10_likeness_89 : decode cX10_likeness 89 = .ok (.iload_n 3, 1) := by decide +kernel
theorem dX10_likeness_90 : decode cX10_likeness 90 = .ok (.ireturn, 1) := by decide +kernel
theorem dX10_addTold_0 : decode cX10_addTold 0 = .ok (.aload_n 0, 1) := by decide +kernel
theorem dX10_addTold_1 : decode cX10_addTold 1 = .ok (.invokevirtual 45, 3) := by decide +kernel
theorem dX10_addTold_4 : decode cX10_addTold 4 = .ok (.ifCond .eq 5, 3) := by decide +kernel
theorem dX10_addTold_7 : decode cX10_addTold 7 = .ok (.iconst (-1), 1) := by decide +kernel
theorem dX10_addTold_8 : decode cX10_addTold 8 = .ok (.ireturn, 1) := by decide +kernel
theorem dX10_addTold_9 : decode cX10_addTold 9 = .ok (.aload_n 0, 1) := by decide +kernel
theorem dX10_addTold_10 : decode cX10_addTold 10 = .ok (.getfield 15, 3) := by decide +kernel
theorem dX10_addTold_13 : decode cX10_addTold 13 = .ok (.aload_n 0, 1) := by decide +kernel
theorem dX10_addTold_14 : decode cX10_addTold 14 = .ok (.getfield 34, 3) := by decide +kernel
theorem dX10_addTold_17 : decode cX10_addTold 17 = .ok (.iload_n 1, 1) := by decide +kernel
theorem dX10_addTold_18 : decode cX10_addTold 18 = .ok (.iastore, 1) := by decide +kernel
theorem dX10_addTold_19 : decode cX10_addTold 19 = .ok (.aload_n 0, 1) := by decide +kernel
theorem dX10_addTold_20 : decode cX10_addTold 20 = .ok (.getfield 18, 3) := by decide +kernel
theorem dX10_addTold_23 : decode cX10_addTold 23 = .ok (.aload_n 0, 1) := by decide +kernel
theorem dX10_addTold_24 : decode cX10_addTold 24 = .ok (.getfield 34, 3) := by decide +kernel
theorem dX10_addTold_27 : decode cX10_addTold 27 = .ok (.iload_n 2, 1) := by decide +kernel
theorem dX10_addTold_28 : decode cX10_addTold 28 = .ok (.iastore, 1) := by decide +kernel
theorem dX10_addTold_29 : decode cX10_addTold 29 = .ok (.aload_n 0, 1) := by decide +kernel
theorem dX10_addTold_30 : decode cX10_addTold 30 = .ok (.getfield 21, 3) := by decide +kernel
theorem dX10_addTold_33 : decode cX10_addTold 33 = .ok (.aload_n 0, 1) := by decide +kernel
theorem dX10_addTold_34 : decode cX10_addTold 34 = .ok (.getfield 34, 3) := by decide +kernel
theorem dX10_addTold_37 : decode cX10_addTold 37 = .ok (.iload_n 3, 1) := by decide +kernel
theorem dX10_addTold_38 : decode cX10_addTold 38 = .ok (.iastore, 1) := by decide +kernel
theorem dX10_addTold_39 : decode cX10_addTold 39 = .ok (.aload_n 0, 1) := by decide +kernel
theorem dX10_addTold_40 : decode cX10_addTold 40 = .ok (.dup, 1) := by decide +kernel
theorem dX10_addTold_41 : decode cX10_addTold 41 = .ok (.getfield 34, 3) := by decide +kernel
theorem dX10_addTold_44 : decode cX10_addTold 44 = .ok (.iconst 1, 1) := by decide +kernel
theorem dX10_addTold_45 : decode cX10_addTold 45 = .ok (.iadd, 1) := by decide +kernel
theorem dX10_addTold_46 : decode cX10_addTold 46 = .ok (.putfield 34, 3) := by decide +kernel
theorem dX10_addTold_49 : decode cX10_addTold 49 = .ok (.aload_n 0, 1) := by decide +kernel
theorem dX10_addTold_50 : decode cX10_addTold 50 = .ok (.getfield 34, 3) := by decide +kernel
theorem dX10_addTold_53 : decode cX10_addTold 53 = .ok (.ireturn, 1) := by decide +kernel
theorem dX10_workshopOf_0 : decode cX10_workshopOf 0 = .ok (.aload_n 0, 1) := by decide +kernel
theorem dX10_workshopOf_1 : decode cX10_workshopOf 1 = .ok (.getfield 34, 3) := by decide +kernel
theorem dX10_workshopOf_4 : decode cX10_workshopOf 4 = .ok (.iconst 1, 1) := by decide +kernel
theorem dX10_workshopOf_5 : decode cX10_workshopOf 5 = .ok (.isub, 1) := by decide +kernel
theorem dX10_workshopOf_6 : decode cX10_workshopOf 6 = .ok (.istore_n 3, 1) := by decide +kernel
theorem dX10_workshopOf_7 : decode cX10_workshopOf 7 = .ok (.iload_n 3, 1) := by decide +kernel
theorem dX10_workshopOf_8 : decode cX10_workshopOf 8 = .ok (.ifCond .lt 36, 3) := by decide +kernel
theorem dX10_workshopOf_11 : decode cX10_workshopOf 11 = .ok (.aload_n 0, 1) := by decide +kernel
theorem dX10_workshopOf_12 : decode cX10_workshopOf 12 = .ok (.getfield 15, 3) := by decide +kernel
theorem dX10_workshopOf_15 : decode cX10_workshopOf 15 = .ok (.iload_n 3, 1) := by decide +kernel
theorem dX10_workshopOf_16 : decode cX10_workshopOf 16 = .ok (.iaload, 1) := by decide +kernel
theorem dX10_workshopOf_17 : decode cX10_workshopOf 17 = .ok (.iload_n 1, 1) := by decide +kernel
theorem dX10_workshopOf_18 : decode cX10_workshopOf 18 = .ok (.if_icmp .ne 20, 3) := by decide +kernel
theorem dX10_workshopOf_21 : decode cX10_workshopOf 21 = .ok (.aload_n 0, 1) := by decide +kernel
theorem dX10_workshopOf_22 : decode cX10_workshopOf 22 = .ok (.getfield 21, 3) := by decide +kernel
theorem dX10_workshopOf_25 : decode cX10_workshopOf 25 = .ok (.iload_n 3, 1) := by decide +kernel
theorem dX10_workshopOf_26 : decode cX10_workshopOf 26 = .ok (.iaload, 1) := by decide +kernel
theorem dX10_workshopOf_27 : decode cX10_workshopOf 27 = .ok (.iload_n 2, 1) := by decide +kernel
theorem dX10_workshopOf_28 : decode cX10_workshopOf 28 = .ok (.if_icmp .gt 10, 3) := by decide +kernel
theorem dX10_workshopOf_31 : decode cX10_workshopOf 31 = .ok (.aload_n 0, 1) := by decide +kernel
theorem dX10_workshopOf_32 : decode cX10_workshopOf 32 = .ok (.getfield 18, 3) := by decide +kernel
theorem dX10_workshopOf_35 : decode cX10_workshopOf 35 = .ok (.iload_n 3, 1) := by decide +kernel
theorem dX10_workshopOf_36 : decode cX10_workshopOf 36 = .ok (.iaload, 1) := by decide +kernel
theorem dX10_workshopOf_37 : decode cX10_workshopOf 37 = .ok (.ireturn, 1) := by decide +kernel
theorem dX10_workshopOf_38 : decode cX10_workshopOf 38 = .ok (.iinc 3 (-1), 3) := by decide +kernel
theorem dX10_workshopOf_41 : decode cX10_workshopOf 41 = .ok (.goto (-34), 3) := by decide +kernel
theorem dX10_workshopOf_44 : decode cX10_workshopOf 44 = .ok (.iconst (-1), 1) := by decide +kernel
theorem dX10_workshopOf_45 : decode cX10_workshopOf 45 = .ok (.ireturn, 1) := by decide +kernel
theorem dX10_workshopByMarks_0 : decode cX10_workshopByMarks 0 = .ok (.aload_n 0, 1) := by decide +kernel
theorem dX10_workshopByMarks_1 : decode cX10_workshopByMarks 1 = .ok (.iload_n 1, 1) := by decide +kernel
theorem dX10_workshopByMarks_2 : decode cX10_workshopByMarks 2 = .ok (.iload_n 2, 1) := by decide +kernel
theorem dX10_workshopByMarks_3 : decode cX10_workshopByMarks 3 = .ok (.invokevirtual 48, 3) := by decide +kernel
theorem dX10_workshopByMarks_6 : decode cX10_workshopByMarks 6 = .ok (.iconst (-1), 1) := by decide +kernel
theorem dX10_workshopByMarks_7 : decode cX10_workshopByMarks 7 = .ok (.istore_n 3, 1) := by decide +kernel
theorem dX10_workshopByMarks_8 : decode cX10_workshopByMarks 8 = .ok (.iconst 0, 1) := by decide +kernel
theorem dX10_workshopByMarks_9 : decode cX10_workshopByMarks 9 = .ok (.istore 4, 2) := by decide +kernel
theorem dX10_workshopByMarks_11 : decode cX10_workshopByMarks 11 = .ok (.iload 4, 2) := by decide +kernel
theorem dX10_workshopByMarks_13 : decode cX10_workshopByMarks 13 = .ok (.bipush 8, 2) := by decide +kernel
theorem dX10_workshopByMarks_15 : decode cX10_workshopByMarks 15 = .ok (.if_icmp .ge 37, 3) := by decide +kernel
theorem dX10_workshopByMarks_18 : decode cX10_workshopByMarks 18 = .ok (.aload_n 0, 1) := by decide +kernel
theorem dX10_workshopByMarks_19 : decode cX10_workshopByMarks 19 = .ok (.getfield 27, 3) := by decide +kernel
theorem dX10_workshopByMarks_22 : decode cX10_workshopByMarks 22 = .ok (.iload 4, 2) := by decide +kernel
theorem dX10_workshopByMarks_24 : decode cX10_workshopByMarks 24 = .ok (.iaload, 1) := by decide +kernel
theorem dX10_workshopByMarks_25 : decode cX10_workshopByMarks 25 = .ok (.ifCond .le 21, 3) := by decide +kernel
theorem dX10_workshopByMarks_28 : decode cX10_workshopByMarks 28 = .ok (.iload_n 3, 1) := by decide +kernel
theorem dX10_workshopByMarks_29 : decode cX10_workshopByMarks 29 = .ok (.iconst (-1), 1) := by decide +kernel
theorem dX10_workshopByMarks_30 : decode cX10_workshopByMarks 30 = .ok (.if_icmp .eq 13, 3) := by decide +kernel
theorem dX10_workshopByMarks_33 : decode cX10_workshopByMarks 33 = .ok (.aload_n 0, 1) := by decide +kernel
theorem dX10_workshopByMarks_34 : decode cX10_workshopByMarks 34 = .ok (.iload 4, 2) := by decide +kernel
theorem dX10_workshopByMarks_36 : decode cX10_workshopByMarks 36 = .ok (.iload_n 3, 1) := by decide +kernel
theorem dX10_workshopByMarks_37 : decode cX10_workshopByMarks 37 = .ok (.invokevirtual 52, 3) := by decide +kernel
theorem dX10_workshopByMarks_40 : decode cX10_workshopByMarks 40 = .ok (.ifCond .eq 6, 3) := by decide +kernel
theorem dX10_workshopByMarks_43 : decode cX10_workshopByMarks 43 = .ok (.iload 4, 2) := by decide +kernel
theorem dX10_workshopByMarks_45 : decode cX10_workshopByMarks 45 = .ok (.istore_n 3, 1) := by decide +kernel
theorem dX10_workshopByMarks_46 : decode cX10_workshopByMarks 46 = .ok (.iinc 4 1, 3) := by decide +kernel
theorem dX10_workshopByMarks_49 : decode cX10_workshopByMarks 49 = .ok (.goto (-38), 3) := by decide +kernel
theorem dX10_workshopByMarks_52 : decode cX10_workshopByMarks 52 = .ok (.iload_n 3, 1) := by decide +kernel
theorem dX10_workshopByMarks_53 : decode cX10_workshopByMarks 53 = .ok (.ireturn, 1) := by decide +kernel
theorem dX10_compareWithOthers_0 : decode cX10_compareWithOthers 0 = .ok (.aload_n 0, 1) := by decide +kernel
theorem dX10_compareWithOthers_1 : decode cX10_compareWithOthers 1 = .ok (.getfield 24, 3) := by decide +kernel
theorem dX10_compareWithOthers_4 : decode cX10_compareWithOthers 4 = .ok (.iconst 0, 1) := by decide +kernel
theorem dX10_compareWithOthers_5 : decode cX10_compareWithOthers 5 = .ok (.invokestatic 56, 3) := by decide +kernel
theorem dX10_compareWithOthers_8 : decode cX10_compareWithOthers 8 = .ok (.aload_n 0, 1) := by decide +kernel
theorem dX10_compareWithOthers_9 : decode cX10_compareWithOthers 9 = .ok (.getfield 27, 3) := by decide +kernel
theorem dX10_compareWithOthers_12 : decode cX10_compareWithOthers 12 = .ok (.iconst 0, 1) := by decide +kernel
theorem dX10_compareWithOthers_13 : decode cX10_compareWithOthers 13 = .ok (.invokestatic 56, 3) := by decide +kernel
theorem dX10_compareWithOthers_16 : decode cX10_compareWithOthers 16 = .ok (.iconst 0, 1) := by decide +kernel
theorem dX10_compareWithOthers_17 : decode cX10_compareWithOthers 17 = .ok (.istore_n 3, 1) := by decide +kernel
theorem dX10_compareWithOthers_18 : decode cX10_compareWithOthers 18 = .ok (.iload_n 3, 1) := by decide +kernel
theorem dX10_compareWithOthers_19 : decode cX10_compareWithOthers 19 = .ok (.aload_n 0, 1) := by decide +kernel
theorem dX10_compareWithOthers_20 : decode cX10_compareWithOthers 20 = .ok (.getfield 30, 3) := by decide +kernel
theorem dX10_compareWithOthers_23 : decode cX10_compareWithOthers 23 = .ok (.if_icmp .ge 65, 3) := by decide +kernel
theorem dX10_compareWithOthers_26 : decode cX10_compareWithOthers 26 = .ok (.iload_n 3, 1) := by decide +kernel
theorem dX10_compareWithOthers_27 : decode cX10_compareWithOthers 27 = .ok (.iload_n 1, 1) := by decide +kernel
theorem dX10_compareWithOthers_28 : decode cX10_compareWithOthers 28 = .ok (.if_icmp .ne 7, 3) := by decide +kernel
theorem dX10_compareWithOthers_31 : decode cX10_compareWithOthers 31 = .ok (.iconst (-1), 1) := by decide +kernel
theorem dX10_compareWithOthers_32 : decode cX10_compareWithOthers 32 = .ok (.goto 9, 3) := by decide +kernel
theorem dX10_compareWithOthers_35 : decode cX10_compareWithOthers 35 = .ok (.aload_n 0, 1) := by decide +kernel
theorem dX10_compareWithOthers_36 : decode cX10_compareWithOthers 36 = .ok (.iload_n 3, 1) := by decide +kernel
theorem dX10_compareWithOthers_37 : decode cX10_compareWithOthers 37 = .ok (.iload_n 2, 1) := by decide +kernel
theorem dX10_compareWithOthers_38 : decode cX10_compareWithOthers 38 = .ok (.invokevirtual 62, 3) := by decide +kernel
theorem dX10_compareWithOthers_41 : decode cX10_compareWithOthers 41 = .ok (.istore 4, 2) := by decide +kernel
theorem dX10_compareWithOthers_43 : decode cX10_compareWithOthers 43 = .ok (.iload 4, 2) := by decide +kernel
theorem dX10_compareWithOthers_45 : decode cX10_compareWithOthers 45 = .ok (.ifCond .lt 37, 3) := by decide +kernel
theorem dX10_compareWithOthers_48 : decode cX10_compareWithOthers 48 = .ok (.iload 4, 2) := by decide +kernel
theorem dX10_compareWithOthers_50 : decode cX10_compareWithOthers 50 = .ok (.bipush 8, 2) := by decide +kernel
theorem dX10_compareWithOthers_52 : decode cX10_compareWithOthers 52 = .ok (.if_icmp .ge 30, 3) := by decide +kernel
theorem dX10_compareWithOthers_55 : decode cX10_compareWithOthers 55 = .ok (.aload_n 0, 1) := by decide +kernel
theorem dX10_compareWithOthers_56 : decode cX10_compareWithOthers 56 = .ok (.getfield 24, 3) := by decide +kernel
theorem dX10_compareWithOthers_59 : decode cX10_compareWithOthers 59 = .ok (.iload 4, 2) := by decide +kernel
theorem dX10_compareWithOthers_61 : decode cX10_compareWithOthers 61 = .ok (.dup2, 1) := by decide +kernel
theorem dX10_compareWithOthers_62 : decode cX10_compareWithOthers 62 = .ok (.iaload, 1) := by decide +kernel
theorem dX10_compareWithOthers_63 : decode cX10_compareWithOthers 63 = .ok (.aload_n 0, 1) := by decide +kernel
theorem dX10_compareWithOthers_64 : decode cX10_compareWithOthers 64 = .ok (.iload_n 1, 1) := by decide +kernel
theorem dX10_compareWithOthers_65 : decode cX10_compareWithOthers 65 = .ok (.iload_n 3, 1) := by decide +kernel
theorem dX10_compareWithOthers_66 : decode cX10_compareWithOthers 66 = .ok (.invokevirtual 66, 3) := by decide +kernel
theorem dX10_compareWithOthers_69 : decode cX10_compareWithOthers 69 = .ok (.iadd, 1) := by decide +kernel
theorem dX10_compareWithOthers_70 : decode cX10_compareWithOthers 70 = .ok (.iastore, 1) := by decide +kernel
theorem dX10_compareWithOthers_71 : decode cX10_compareWithOthers 71 = .ok (.aload_n 0, 1) := by decide +kernel
theorem dX10_compareWithOthers_72 : decode cX10_compareWithOthers 72 = .ok (.getfield 27, 3) := by decide +kernel
theorem dX10_compareWithOthers_75 : decode cX10_compareWithOthers 75 = .ok (.iload 4, 2) := by decide +kernel
theorem dX10_compareWithOthers_77 : decode cX10_compareWithOthers 77 = .ok (.dup2, 1) := by decide +kernel
theorem dX10_compareWithOthers_78 : decode cX10_compareWithOthers 78 = .ok (.iaload, 1) := by decide +kernel
theorem dX10_compareWithOthers_79 : decode cX10_compareWithOthers 79 = .ok (.iconst 1, 1) := by decide +kernel
theorem dX10_compareWithOthers_80 : decode cX10_compareWithOthers 80 = .ok (.iadd, 1) := by decide +kernel
theorem dX10_compareWithOthers_81 : decode cX10_compareWithOthers 81 = .ok (.iastore, 1) := by decide +kernel
theorem dX10_compareWithOthers_82 : decode cX10_compareWithOthers 82 = .ok (.iinc 3 1, 3) := by decide +kernel
theorem dX10_compareWithOthers_85 : decode cX10_compareWithOthers 85 = .ok (.goto (-67), 3) := by decide +kernel
theorem dX10_compareWithOthers_88 : decode cX10_compareWithOthers 88 = .ok (.return_, 1) := by decide +kernel
theorem dX10_isLiker_0 : decode cX10_isLiker 0 = .ok (.aload_n 0, 1) := by decide +kernel
theorem dX10_isLiker_1 : decode cX10_isLiker 1 = .ok (.getfield 24, 3) := by decide +kernel
theorem dX10_isLiker_4 : decode cX10_isLiker 4 = .ok (.iload_n 1, 1) := by decide +kernel
theorem dX10_isLiker_5 : decode cX10_isLiker 5 = .ok (.iaload, 1) := by decide +kernel
theorem dX10_isLiker_6 : decode cX10_isLiker 6 = .ok (.aload_n 0, 1) := by decide +kernel
theorem dX10_isLiker_7 : decode cX10_isLiker 7 = .ok (.getfield 27, 3) := by decide +kernel
theorem dX10_isLiker_10 : decode cX10_isLiker 10 = .ok (.iload_n 2, 1) := by decide +kernel
theorem dX10_isLiker_11 : decode cX10_isLiker 11 = .ok (.iaload, 1) := by decide +kernel
theorem dX10_isLiker_12 : decode cX10_isLiker 12 = .ok (.imul, 1) := by decide +kernel
theorem dX10_isLiker_13 : decode cX10_isLiker 13 = .ok (.aload_n 0, 1) := by decide +kernel
theorem dX10_isLiker_14 : decode cX10_isLiker 14 = .ok (.getfield 24, 3) := by decide +kernel
theorem dX10_isLiker_17 : decode cX10_isLiker 17 = .ok (.iload_n 2, 1) := by decide +kernel
theorem dX10_isLiker_18 : decode cX10_isLiker 18 = .ok (.iaload, 1) := by decide +kernel
theorem dX10_isLiker_19 : decode cX10_isLiker 19 = .ok (.aload_n 0, 1) := by decide +kernel
theorem dX10_isLiker_20 : decode cX10_isLiker 20 = .ok (.getfield 27, 3) := by decide +kernel
theorem dX10_isLiker_23 : decode cX10_isLiker 23 = .ok (.iload_n 1, 1) := by decide +kernel
theorem dX10_isLiker_24 : decode cX10_isLiker 24 = .ok (.iaload, 1) := by decide +kernel
theorem dX10_isLiker_25 : decode cX10_isLiker 25 = .ok (.imul, 1) := by decide +kernel
theorem dX10_isLiker_26 : decode cX10_isLiker 26 = .ok (.if_icmp .le 7, 3) := by decide +kernel
theorem dX10_isLiker_29 : decode cX10_isLiker 29 = .ok (.iconst 1, 1) := by decide +kernel
theorem dX10_isLiker_30 : decode cX10_isLiker 30 = .ok (.goto 4, 3) := by decide +kernel
theorem dX10_isLiker_33 : decode cX10_isLiker 33 = .ok (.iconst 0, 1) := by decide +kernel
theorem dX10_isLiker_34 : decode cX10_isLiker 34 = .ok (.ireturn, 1) := by decide +kernel
