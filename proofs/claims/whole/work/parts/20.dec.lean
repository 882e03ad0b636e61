theorem dX0_init_0 : decode cX0_init 0 = .ok (.aload_n 0, 1) := by decide +kernel
theorem dX0_init_1 : decode cX0_init 1 = .ok (.invokespecial 3, 3) := by decide +kernel
theorem dX0_init_4 : decode cX0_init 4 = .ok (.aload_n 0, 1) := by decide +kernel
theorem dX0_init_5 : decode cX0_init 5 = .ok (.bipush 6, 2) := by decide +kernel
theorem dX0_init_7 : decode cX0_init 7 = .ok (.newarray .int, 2) := by decide +kernel
theorem dX0_init_9 : decode cX0_init 9 = .ok (.putfield 9, 3) := by decide +kernel
theorem dX0_init_12 : decode cX0_init 12 = .ok (.aload_n 0, 1) := by decide +kernel
theorem dX0_init_13 : decode cX0_init 13 = .ok (.new 15, 3) := by decide +kernel
theorem dX0_init_16 : decode cX0_init 16 = .ok (.dup, 1) := by decide +kernel
theorem dX0_init_17 : decode cX0_init 17 = .ok (.invokespecial 17, 3) := by decide +kernel
theorem dX0_init_20 : decode cX0_init 20 = .ok (.putfield 18, 3) := by decide +kernel
theorem dX0_init_23 : decode cX0_init 23 = .ok (.aload_n 0, 1) := by decide +kernel
theorem dX0_init_24 : decode cX0_init 24 = .ok (.sipush 601, 3) := by decide +kernel
theorem dX0_init_27 : decode cX0_init 27 = .ok (.newarray .long, 2) := by decide +kernel
theorem dX0_init_29 : decode cX0_init 29 = .ok (.putfield 22, 3) := by decide +kernel
theorem dX0_init_32 : decode cX0_init 32 = .ok (.return_, 1) := by decide +kernel
theorem dX0_advance_0 : decode cX0_advance 0 = .ok (.iconst 0, 1) := by decide +kernel
theorem dX0_advance_1 : decode cX0_advance 1 = .ok (.istore_n 3, 1) := by decide +kernel
theorem dX0_advance_2 : decode cX0_advance 2 = .ok (.iload_n 3, 1) := by decide +kernel
theorem dX0_advance_3 : decode cX0_advance 3 = .ok (.aload_n 1, 1) := by decide +kernel
theorem dX0_advance_4 : decode cX0_advance 4 = .ok (.getfield 26, 3) := by decide +kernel
theorem dX0_advance_7 : decode cX0_advance 7 = .ok (.if_icmp .ge 26, 3) := by decide +kernel
theorem dX0_advance_10 : decode cX0_advance 10 = .ok (.aload_n 0, 1) := by decide +kernel
theorem dX0_advance_11 : decode cX0_advance 11 = .ok (.getfield 9, 3) := by decide +kernel
theorem dX0_advance_14 : decode cX0_advance 14 = .ok (.iload_n 3, 1) := by decide +kernel
theorem dX0_advance_15 : decode cX0_advance 15 = .ok (.aload_n 2, 1) := by decide +kernel
theorem dX0_advance_16 : decode cX0_advance 16 = .ok (.getfield 32, 3) := by decide +kernel
theorem dX0_advance_19 : decode cX0_advance 19 = .ok (.aload_n 1, 1) := by decide +kernel
theorem dX0_advance_20 : decode cX0_advance 20 = .ok (.getfield 35, 3) := by decide +kernel
theorem dX0_advance_23 : decode cX0_advance 23 = .ok (.iload_n 3, 1) := by decide +kernel
theorem dX0_advance_24 : decode cX0_advance 24 = .ok (.iaload, 1) := by decide +kernel
theorem dX0_advance_25 : decode cX0_advance 25 = .ok (.iaload, 1) := by decide +kernel
theorem dX0_advance_26 : decode cX0_advance 26 = .ok (.iastore, 1) := by decide +kernel
theorem dX0_advance_27 : decode cX0_advance 27 = .ok (.iinc 3 1, 3) := by decide +kernel
theorem dX0_advance_30 : decode cX0_advance 30 = .ok (.goto (-28), 3) := by decide +kernel
theorem dX0_advance_33 : decode cX0_advance 33 = .ok (.iconst 0, 1) := by decide +kernel
theorem dX0_advance_34 : decode cX0_advance 34 = .ok (.istore_n 3, 1) := by decide +kernel
theorem dX0_advance_35 : decode cX0_advance 35 = .ok (.iconst 0, 1) := by decide +kernel
theorem dX0_advance_36 : decode cX0_advance 36 = .ok (.istore 4, 2) := by decide +kernel
theorem dX0_advance_38 : decode cX0_advance 38 = .ok (.iload 4, 2) := by decide +kernel
theorem dX0_advance_40 : decode cX0_advance 40 = .ok (.aload_n 1, 1) := by decide +kernel
theorem dX0_advance_41 : decode cX0_advance 41 = .ok (.getfield 26, 3) := by decide +kernel
theorem dX0_advance_44 : decode cX0_advance 44 = .ok (.if_icmp .ge 83, 3) := by decide +kernel
theorem dX0_advance_47 : decode cX0_advance 47 = .ok (.aload_n 2, 1) := by decide +kernel
theorem dX0_advance_48 : decode cX0_advance 48 = .ok (.getfield 32, 3) := by decide +kernel
theorem dX0_advance_51 : decode cX0_advance 51 = .ok (.iload 4, 2) := by decide +kernel
theorem dX0_advance_53 : decode cX0_advance 53 = .ok (.aload_n 2, 1) := by decide +kernel
theorem dX0_advance_54 : decode cX0_advance 54 = .ok (.getfield 38, 3) := by decide +kernel
theorem dX0_advance_57 : decode cX0_advance 57 = .ok (.iload 4, 2) := by decide +kernel
theorem dX0_advance_59 : decode cX0_advance 59 = .ok (.iaload, 1) := by decide +kernel
theorem dX0_advance_60 : decode cX0_advance 60 = .ok (.aload_n 2, 1) := by decide +kernel
theorem dX0_advance_61 : decode cX0_advance 61 = .ok (.getfield 41, 3) := by decide +kernel
theorem dX0_advance_64 : decode cX0_advance 64 = .ok (.iload 4, 2) := by decide +kernel
theorem dX0_advance_66 : decode cX0_advance 66 = .ok (.iaload, 1) := by decide +kernel
theorem dX0_advance_67 : decode cX0_advance 67 = .ok (.aload_n 0, 1) := by decide +kernel
theorem dX0_advance_68 : decode cX0_advance 68 = .ok (.getfield 9, 3) := by decide +kernel
theorem dX0_advance_71 : decode cX0_advance 71 = .ok (.iload 4, 2) := by decide +kernel
theorem dX0_advance_73 : decode cX0_advance 73 = .ok (.iaload, 1) := by decide +kernel
theorem dX0_advance_74 : decode cX0_advance 74 = .ok (.invokestatic 44, 3) := by decide +kernel
theorem dX0_advance_77 : decode cX0_advance 77 = .ok (.iastore, 1) := by decide +kernel
theorem dX0_advance_78 : decode cX0_advance 78 = .ok (.aload_n 2, 1) := by decide +kernel
theorem dX0_advance_79 : decode cX0_advance 79 = .ok (.getfield 38, 3) := by decide +kernel
theorem dX0_advance_82 : decode cX0_advance 82 = .ok (.iload 4, 2) := by decide +kernel
theorem dX0_advance_84 : decode cX0_advance 84 = .ok (.aload_n 2, 1) := by decide +kernel
theorem dX0_advance_85 : decode cX0_advance 85 = .ok (.getfield 41, 3) := by decide +kernel
theorem dX0_advance_88 : decode cX0_advance 88 = .ok (.iload 4, 2) := by decide +kernel
theorem dX0_advance_90 : decode cX0_advance 90 = .ok (.iaload, 1) := by decide +kernel
theorem dX0_advance_91 : decode cX0_advance 91 = .ok (.iastore, 1) := by decide +kernel
theorem dX0_advance_92 : decode cX0_advance 92 = .ok (.aload_n 2, 1) := by decide +kernel
theorem dX0_advance_93 : decode cX0_advance 93 = .ok (.getfield 41, 3) := by decide +kernel
theorem dX0_advance_96 : decode cX0_advance 96 = .ok (.iload 4, 2) := by decide +kernel
theorem dX0_advance_98 : decode cX0_advance 98 = .ok (.aload_n 0, 1) := by decide +kernel
theorem dX0_advance_99 : decode cX0_advance 99 = .ok (.getfield 9, 3) := by decide +kernel
theorem dX0_advance_102 : decode cX0_advance 102 = .ok (.iload 4, 2) := by decide +kernel
theorem dX0_advance_104 : decode cX0_advance 104 = .ok (.iaload, 1) := by decide +kernel
theorem dX0_advance_105 : decode cX0_advance 105 = .ok (.iastore, 1) := by decide +kernel
theorem dX0_advance_106 : decode cX0_advance 106 = .ok (.aload_n 2, 1) := by decide +kernel
theorem dX0_advance_107 : decode cX0_advance 107 = .ok (.getfield 32, 3) := by decide +kernel
theorem dX0_advance_110 : decode cX0_advance 110 = .ok (.iload 4, 2) := by decide +kernel
theorem dX0_advance_112 : decode cX0_advance 112 = .ok (.iaload, 1) := by decide +kernel
theorem dX0_advance_113 : decode cX0_advance 113 = .ok (.bipush 6, 2) := by decide +kernel
theorem dX0_advance_115 : decode cX0_advance 115 = .ok (.if_icmp .eq 6, 3) := by decide +kernel
theorem dX0_advance_118 : decode cX0_advance 118 = .ok (.iinc 3 1, 3) := by decide +kernel
theorem dX0_advance_121 : decode cX0_advance 121 = .ok (.iinc 4 1, 3) := by decide +kernel
theorem dX0_advance_124 : decode cX0_advance 124 = .ok (.goto (-86), 3) := by decide +kernel
theorem dX0_advance_127 : decode cX0_advance 127 = .ok (.iload_n 3, 1) := by decide +kernel
theorem dX0_advance_128 : decode cX0_advance 128 = .ok (.ireturn, 1) := by decide +kernel
theorem dX0_findRing_0 : decode cX0_findRing 0 = .ok (.aload_n 0, 1) := by decide +kernel
theorem dX0_findRing_1 : decode cX0_findRing 1 = .ok (.getfield 18, 3) := by decide +kernel
theorem dX0_findRing_4 : decode cX0_findRing 4 = .ok (.aload_n 2, 1) := by decide +kernel
theorem dX0_findRing_5 : decode cX0_findRing 5 = .ok (.invokevirtual 48, 3) := by decide +kernel
theorem dX0_findRing_8 : decode cX0_findRing 8 = .ok (.aload_n 0, 1) := by decide +kernel
theorem dX0_findRing_9 : decode cX0_findRing 9 = .ok (.getfield 22, 3) := by decide +kernel
theorem dX0_findRing_12 : decode cX0_findRing 12 = .ok (.iconst 0, 1) := by decide +kernel
theorem dX0_findRing_13 : decode cX0_findRing 13 = .ok (.aload_n 0, 1) := by decide +kernel
theorem dX0_findRing_14 : decode cX0_findRing 14 = .ok (.aload_n 1, 1) := by decide +kernel
theorem dX0_findRing_15 : decode cX0_findRing 15 = .ok (.aload_n 0, 1) := by decide +kernel
theorem dX0_findRing_16 : decode cX0_findRing 16 = .ok (.getfield 18, 3) := by decide +kernel
theorem dX0_findRing_19 : decode cX0_findRing 19 = .ok (.invokevirtual 52, 3) := by decide +kernel
theorem dX0_findRing_22 : decode cX0_findRing 22 = .ok (.lastore, 1) := by decide +kernel
theorem dX0_findRing_23 : decode cX0_findRing 23 = .ok (.iconst 1, 1) := by decide +kernel
theorem dX0_findRing_24 : decode cX0_findRing 24 = .ok (.istore_n 3, 1) := by decide +kernel
theorem dX0_findRing_25 : decode cX0_findRing 25 = .ok (.iload_n 3, 1) := by decide +kernel
theorem dX0_findRing_26 : decode cX0_findRing 26 = .ok (.sipush 600, 3) := by decide +kernel
theorem dX0_findRing_29 : decode cX0_findRing 29 = .ok (.if_icmp .gt 82, 3) := by decide +kernel
theorem dX0_findRing_32 : decode cX0_findRing 32 = .ok (.aload_n 0, 1) := by decide +kernel
theorem dX0_findRing_33 : decode cX0_findRing 33 = .ok (.aload_n 1, 1) := by decide +kernel
theorem dX0_findRing_34 : decode cX0_findRing 34 = .ok (.aload_n 0, 1) := by decide +kernel
theorem dX0_findRing_35 : decode cX0_findRing 35 = .ok (.getfield 18, 3) := by decide +kernel
theorem dX0_findRing_38 : decode cX0_findRing 38 = .ok (.invokevirtual 56, 3) := by decide +kernel
theorem dX0_findRing_41 : decode cX0_findRing 41 = .ok (.pop, 1) := by decide +kernel
theorem dX0_findRing_42 : decode cX0_findRing 42 = .ok (.aload_n 0, 1) := by decide +kernel
theorem dX0_findRing_43 : decode cX0_findRing 43 = .ok (.getfield 22, 3) := by decide +kernel
theorem dX0_findRing_46 : decode cX0_findRing 46 = .ok (.iload_n 3, 1) := by decide +kernel
theorem dX0_findRing_47 : decode cX0_findRing 47 = .ok (.aload_n 0, 1) := by decide +kernel
theorem dX0_findRing_48 : decode cX0_findRing 48 = .ok (.aload_n 1, 1) := by decide +kernel
theorem dX0_findRing_49 : decode cX0_findRing 49 = .ok (.aload_n 0, 1) := by decide +kernel
theorem dX0_findRing_50 : decode cX0_findRing 50 = .ok (.getfield 18, 3) := by decide +kernel
theorem dX0_findRing_53 : decode cX0_findRing 53 = .ok (.invokevirtual 52, 3) := by decide +kernel
theorem dX0_findRing_56 : decode cX0_findRing 56 = .ok (.lastore, 1) := by decide +kernel
theorem dX0_findRing_57 : decode cX0_findRing 57 = .ok (.iconst 0, 1) := by decide +kernel
theorem dX0_findRing_58 : decode cX0_findRing 58 = .ok (.istore 4, 2) := by decide +kernel
theorem dX0_findRing_60 : decode cX0_findRing 60 = .ok (.iload 4, 2) := by decide +kernel
theorem dX0_findRing_62 : decode cX0_findRing 62 = .ok (.iload_n 3, 1) := by decide +kernel
theorem dX0_findRing_63 : decode cX0_findRing 63 = .ok (.if_icmp .ge 42, 3) := by decide +kernel
theorem dX0_findRing_66 : decode cX0_findRing 66 = .ok (.aload_n 0, 1) := by decide +kernel
theorem dX0_findRing_67 : decode cX0_findRing 67 = .ok (.getfield 22, 3) := by decide +kernel
theorem dX0_findRing_70 : decode cX0_findRing 70 = .ok (.iload 4, 2) := by decide +kernel
theorem dX0_findRing_72 : decode cX0_findRing 72 = .ok (.laload, 1) := by decide +kernel
theorem dX0_findRing_73 : decode cX0_findRing 73 = .ok (.aload_n 0, 1) := by decide +kernel
theorem dX0_findRing_74 : decode cX0_findRing 74 = .ok (.getfield 22, 3) := by decide +kernel
theorem dX0_findRing_77 : decode cX0_findRing 77 = .ok (.iload_n 3, 1) := by decide +kernel
theorem dX0_findRing_78 : decode cX0_findRing 78 = .ok (.laload, 1) := by decide +kernel
theorem dX0_findRing_79 : decode cX0_findRing 79 = .ok (.lcmp, 1) := by decide +kernel
theorem dX0_findRing_80 : decode cX0_findRing 80 = .ok (.ifCond .ne 19, 3) := by decide +kernel
theorem dX0_findRing_83 : decode cX0_findRing 83 = .ok (.aload_n 0, 1) := by decide +kernel
theorem dX0_findRing_84 : decode cX0_findRing 84 = .ok (.iload 4, 2) := by decide +kernel
theorem dX0_findRing_86 : decode cX0_findRing 86 = .ok (.putfield 60, 3) := by decide +kernel
theorem dX0_findRing_89 : decode cX0_findRing 89 = .ok (.aload_n 0, 1) := by decide +kernel
theorem dX0_findRing_90 : decode cX0_findRing 90 = .ok (.iload_n 3, 1) := by decide +kernel
theorem dX0_findRing_91 : decode cX0_findRing 91 = .ok (.iload 4, 2) := by decide +kernel
theorem dX0_findRing_93 : decode cX0_findRing 93 = .ok (.isub, 1) := by decide +kernel
theorem dX0_findRing_94 : decode cX0_findRing 94 = .ok (.putfield 63, 3) := by decide +kernel
theorem dX0_findRing_97 : decode cX0_findRing 97 = .ok (.iconst 1, 1) := by decide +kernel
theorem dX0_findRing_98 : decode cX0_findRing 98 = .ok (.ireturn, 1) := by decide +kernel
theorem dX0_findRing_99 : decode cX0_findRing 99 = .ok (.iinc 4 1, 3) := by decide +kernel
theorem dX0_findRing_102 : decode cX0_findRing 102 = .ok (.goto (-42), 3) := by decide +kernel
theorem dX0_findRing_105 : decode cX0_findRing 105 = .ok (.iinc 3 1, 3) := by decide +kernel
theorem dX0_findRing_108 : decode cX0_findRing 108 = .ok (.goto (-83), 3) := by decide +kernel
theorem dX0_findRing_111 : decode cX0_findRing 111 = .ok (.iconst 0, 1) := by decide +kernel
theorem dX0_findRing_112 : decode cX0_findRing 112 = .ok (.ireturn, 1) := by decide +kernel
theorem dX0_numberOf_0 : decode cX0_numberOf 0 = .ok (.lconst 0, 1) := by decide +kernel
theorem dX0_numberOf_1 : decode cX0_numberOf 1 = .ok (.lstore_n 3, 1) := by decide +kernel
theorem dX0_numberOf_2 : decode cX0_numberOf 2 = .ok (.iconst 0, 1) := by decide +kernel
theorem dX0_numberOf_3 : decode cX0_numberOf 3 = .ok (.istore 5, 2) := by decide +kernel
theorem dX0_numberOf_5 : decode cX0_numberOf 5 = .ok (.iload 5, 2) := by decide +kernel
theorem dX0_numberOf_7 : decode cX0_numberOf 7 = .ok (.aload_n 1, 1) := by decide +kernel
theorem dX0_numberOf_8 : decode cX0_numberOf 8 = .ok (.getfield 26, 3) := by decide +kernel
theorem dX0_numberOf_11 : decode cX0_numberOf 11 = .ok (.if_icmp .ge 54, 3) := by decide +kernel
theorem dX0_numberOf_14 : decode cX0_numberOf 14 = .ok (.lload_n 3, 1) := by decide +kernel
theorem dX0_numberOf_15 : decode cX0_numberOf 15 = .ok (.ldc2_w 66, 3) := by decide +kernel
theorem dX0_numberOf_18 : decode cX0_numberOf 18 = .ok (.lmul, 1) := by decide +kernel
theorem dX0_numberOf_19 : decode cX0_numberOf 19 = .ok (.aload_n 2, 1) := by decide +kernel
theorem dX0_numberOf_20 : decode cX0_numberOf 20 = .ok (.getfield 38, 3) := by decide +kernel
theorem dX0_numberOf_23 : decode cX0_numberOf 23 = .ok (.iload 5, 2) := by decide +kernel
theorem dX0_numberOf_25 : decode cX0_numberOf 25 = .ok (.iaload, 1) := by decide +kernel
theorem dX0_numberOf_26 : decode cX0_numberOf 26 = .ok (.i2l, 1) := by decide +kernel
theorem dX0_numberOf_27 : decode cX0_numberOf 27 = .ok (.ladd, 1) := by decide +kernel
theorem dX0_numberOf_28 : decode cX0_numberOf 28 = .ok (.lstore_n 3, 1) := by decide +kernel
theorem dX0_numberOf_29 : decode cX0_numberOf 29 = .ok (.lload_n 3, 1) := by decide +kernel
theorem dX0_numberOf_30 : decode cX0_numberOf 30 = .ok (.ldc2_w 66, 3) := by decide +kernel
theorem dX0_numberOf_33 : decode cX0_numberOf 33 = .ok (.lmul, 1) := by decide +kernel
theorem dX0_numberOf_34 : decode cX0_numberOf 34 = .ok (.aload_n 2, 1) := by decide +kernel
theorem dX0_numberOf_35 : decode cX0_numberOf 35 = .ok (.getfield 41, 3) := by decide +kernel
theorem dX0_numberOf_38 : decode cX0_numberOf 38 = .ok (.iload 5, 2) := by decide +kernel
theorem dX0_numberOf_40 : decode cX0_numberOf 40 = .ok (.iaload, 1) := by decide +kernel
theorem dX0_numberOf_41 : decode cX0_numberOf 41 = .ok (.i2l, 1) := by decide +kernel
theorem dX0_numberOf_42 : decode cX0_numberOf 42 = .ok (.ladd, 1) := by decide +kernel
theorem dX0_numberOf_43 : decode cX0_numberOf 43 = .ok (.lstore_n 3, 1) := by decide +kernel
theorem dX0_numberOf_44 : decode cX0_numberOf 44 = .ok (.lload_n 3, 1) := by decide +kernel
theorem dX0_numberOf_45 : decode cX0_numberOf 45 = .ok (.ldc2_w 66, 3) := by decide +kernel
theorem dX0_numberOf_48 : decode cX0_numberOf 48 = .ok (.lmul, 1) := by decide +kernel
theorem dX0_numberOf_49 : decode cX0_numberOf 49 = .ok (.aload_n 2, 1) := by decide +kernel
theorem dX0_numberOf_50 : decode cX0_numberOf 50 = .ok (.getfield 32, 3) := by decide +kernel
theorem dX0_numberOf_53 : decode cX0_numberOf 53 = .ok (.iload 5, 2) := by decide +kernel
theorem dX0_numberOf_55 : decode cX0_numberOf 55 = .ok (.iaload, 1) := by decide +kernel
theorem dX0_numberOf_56 : decode cX0_numberOf 56 = .ok (.i2l, 1) := by decide +kernel
theorem dX0_numberOf_57 : decode cX0_numberOf 57 = .ok (.ladd, 1) := by decide +kernel
theorem dX0_numberOf_58 : decode cX0_numberOf 58 = .ok (.lstore_n 3, 1) := by decide +kernel
theorem dX0_numberOf_59 : decode cX0_numberOf 59 = .ok (.iinc 5 1, 3) := by decide +kernel
theorem dX0_numberOf_62 : decode cX0_numberOf 62 = .ok (.goto (-57), 3) := by decide +kernel
theorem dX0_numberOf_65 : decode cX0_numberOf 65 = .ok (.lload_n 3, 1) := by decide +kernel
theorem dX0_numberOf_66 : decode cX0_numberOf 66 = .ok (.lreturn, 1) := by decide +kernel
theorem dX0_statesAhead_0 : decode cX0_statesAhead 0 = .ok (.lconst 1, 1) := by decide +kernel
theorem dX0_statesAhead_1 : decode cX0_statesAhead 1 = .ok (.lstore_n 3, 1) := by decide +kernel
theorem dX0_statesAhead_2 : decode cX0_statesAhead 2 = .ok (.iconst 0, 1) := by decide +kernel
theorem dX0_statesAhead_3 : decode cX0_statesAhead 3 = .ok (.istore 5, 2) := by decide +kernel
theorem dX0_statesAhead_5 : decode cX0_statesAhead 5 = .ok (.iload 5, 2) := by decide +kernel
theorem dX0_statesAhead_7 : decode cX0_statesAhead 7 = .ok (.aload_n 1, 1) := by decide +kernel
theorem dX0_statesAhead_8 : decode cX0_statesAhead 8 = .ok (.getfield 26, 3) := by decide +kernel
theorem dX0_statesAhead_11 : decode cX0_statesAhead 11 = .ok (.if_icmp .ge 29, 3) := by decide +kernel
theorem dX0_statesAhead_14 : decode cX0_statesAhead 14 = .ok (.lload_n 3, 1) := by decide +kernel
theorem dX0_statesAhead_15 : decode cX0_statesAhead 15 = .ok (.aload_n 0, 1) := by decide +kernel
theorem dX0_statesAhead_16 : decode cX0_statesAhead 16 = .ok (.aload_n 1, 1) := by decide +kernel
theorem dX0_statesAhead_17 : decode cX0_statesAhead 17 = .ok (.aload_n 2, 1) := by decide +kernel
theorem dX0_statesAhead_18 : decode cX0_statesAhead 18 = .ok (.iload 5, 2) := by decide +kernel
theorem dX0_statesAhead_20 : decode cX0_statesAhead 20 = .ok (.invokevirtual 68, 3) := by decide +kernel
theorem dX0_statesAhead_23 : decode cX0_statesAhead 23 = .ok (.aload_n 0, 1) := by decide +kernel
theorem dX0_statesAhead_24 : decode cX0_statesAhead 24 = .ok (.aload_n 1, 1) := by decide +kernel
theorem dX0_statesAhead_25 : decode cX0_statesAhead 25 = .ok (.aload_n 2, 1) := by decide +kernel
theorem dX0_statesAhead_26 : decode cX0_statesAhead 26 = .ok (.iload 5, 2) := by decide +kernel
theorem dX0_statesAhead_28 : decode cX0_statesAhead 28 = .ok (.invokevirtual 72, 3) := by decide +kernel
theorem dX0_statesAhead_31 : decode cX0_statesAhead 31 = .ok (.lmul, 1) := by decide +kernel
theorem dX0_statesAhead_32 : decode cX0_statesAhead 32 = .ok (.lmul, 1) := by decide +kernel
theorem dX0_statesAhead_33 : decode cX0_statesAhead 33 = .ok (.lstore_n 3, 1) := by decide +kernel
theorem dX0_statesAhead_34 : decode cX0_statesAhead 34 = .ok (.iinc 5 1, 3) := by decide +kernel
theorem dX0_statesAhead_37 : decode cX0_statesAhead 37 = .ok (.goto (-32), 3) := by decide +kernel
theorem dX0_statesAhead_40 : decode cX0_statesAhead 40 = .ok (.lload_n 3, 1) := by decide +kernel
theorem dX0_statesAhead_41 : decode cX0_statesAhead 41 = .ok (.lreturn, 1) := by decide +kernel
theorem dX0_asksAhead_0 : decode cX0_asksAhead 0 = .ok (.lconst 0, 1) := by decide +kernel
theorem dX0_asksAhead_1 : decode cX0_asksAhead 1 = .ok (.lstore 4, 2) := by decide +kernel
theorem dX0_asksAhead_3 : decode cX0_asksAhead 3 = .ok (.iconst 0, 1) := by decide +kernel
theorem dX0_asksAhead_4 : decode cX0_asksAhead 4 = .ok (.istore 6, 2) := by decide +kernel
theorem dX0_asksAhead_6 : decode cX0_asksAhead 6 = .ok (.iload 6, 2) := by decide +kernel
theorem dX0_asksAhead_8 : decode cX0_asksAhead 8 = .ok (.bipush 7, 2) := by decide +kernel
theorem dX0_asksAhead_10 : decode cX0_asksAhead 10 = .ok (.if_icmp .ge 69, 3) := by decide +kernel
theorem dX0_asksAhead_13 : decode cX0_asksAhead 13 = .ok (.iload 6, 2) := by decide +kernel
theorem dX0_asksAhead_15 : decode cX0_asksAhead 15 = .ok (.aload_n 1, 1) := by decide +kernel
theorem dX0_asksAhead_16 : decode cX0_asksAhead 16 = .ok (.getfield 75, 3) := by decide +kernel
theorem dX0_asksAhead_19 : decode cX0_asksAhead 19 = .ok (.if_icmp .lt 10, 3) := by decide +kernel
theorem dX0_asksAhead_22 : decode cX0_asksAhead 22 = .ok (.iload 6, 2) := by decide +kernel
theorem dX0_asksAhead_24 : decode cX0_asksAhead 24 = .ok (.bipush 6, 2) := by decide +kernel
theorem dX0_asksAhead_26 : decode cX0_asksAhead 26 = .ok (.if_icmp .ne 7, 3) := by decide +kernel
theorem dX0_asksAhead_29 : decode cX0_asksAhead 29 = .ok (.iconst 1, 1) := by decide +kernel
theorem dX0_asksAhead_30 : decode cX0_asksAhead 30 = .ok (.goto 4, 3) := by decide +kernel
theorem dX0_asksAhead_33 : decode cX0_asksAhead 33 = .ok (.iconst 0, 1) := by decide +kernel
theorem dX0_asksAhead_34 : decode cX0_asksAhead 34 = .ok (.istore 7, 2) := by decide +kernel
theorem dX0_asksAhead_36 : decode cX0_asksAhead 36 = .ok (.iload 7, 2) := by decide +kernel
theorem dX0_asksAhead_38 : decode cX0_asksAhead 38 = .ok (.ifCond .eq 35, 3) := by decide +kernel
theorem dX0_asksAhead_41 : decode cX0_asksAhead 41 = .ok (.iload 6, 2) := by decide +kernel
theorem dX0_asksAhead_43 : decode cX0_asksAhead 43 = .ok (.aload_n 2, 1) := by decide +kernel
theorem dX0_asksAhead_44 : decode cX0_asksAhead 44 = .ok (.getfield 38, 3) := by decide +kernel
theorem dX0_asksAhead_47 : decode cX0_asksAhead 47 = .ok (.iload_n 3, 1) := by decide +kernel
theorem dX0_asksAhead_48 : decode cX0_asksAhead 48 = .ok (.iaload, 1) := by decide +kernel
theorem dX0_asksAhead_49 : decode cX0_asksAhead 49 = .ok (.aload_n 2, 1) := by decide +kernel
theorem dX0_asksAhead_50 : decode cX0_asksAhead 50 = .ok (.getfield 41, 3) := by decide +kernel
theorem dX0_asksAhead_53 : decode cX0_asksAhead 53 = .ok (.iload_n 3, 1) := by decide +kernel
theorem dX0_asksAhead_54 : decode cX0_asksAhead 54 = .ok (.iaload, 1) := by decide +kernel
theorem dX0_asksAhead_55 : decode cX0_asksAhead 55 = .ok (.invokestatic 44, 3) := by decide +kernel
theorem dX0_asksAhead_58 : decode cX0_asksAhead 58 = .ok (.aload_n 2, 1) := by decide +kernel
theorem dX0_asksAhead_59 : decode cX0_asksAhead 59 = .ok (.getfield 32, 3) := by decide +kernel
theorem dX0_asksAhead_62 : decode cX0_asksAhead 62 = .ok (.iload_n 3, 1) := by decide +kernel
theorem dX0_asksAhead_63 : decode cX0_asksAhead 63 = .ok (.iaload, 1) := by decide +kernel
theorem dX0_asksAhead_64 : decode cX0_asksAhead 64 = .ok (.if_icmp .ne 9, 3) := by decide +kernel
theorem dX0_asksAhead_67 : decode cX0_asksAhead 67 = .ok (.lload 4, 2) := by decide +kernel
theorem dX0_asksAhead_69 : decode cX0_asksAhead 69 = .ok (.lconst 1, 1) := by decide +kernel
theorem dX0_asksAhead_70 : decode cX0_asksAhead 70 = .ok (.ladd, 1) := by decide +kernel
theorem dX0_asksAhead_71 : decode cX0_asksAhead 71 = .ok (.lstore 4, 2) := by decide +kernel
theorem dX0_asksAhead_73 : decode cX0_asksAhead 73 = .ok (.iinc 6 1, 3) := by decide +kernel
theorem dX0_asksAhead_76 : decode cX0_asksAhead 76 = .ok (.goto (-70), 3) := by decide +kernel
theorem dX0_asksAhead_79 : decode cX0_asksAhead 79 = .ok (.lload 4, 2) := by decide +kernel
theorem dX0_asksAhead_81 : decode cX0_asksAhead 81 = .ok (.lreturn, 1) := by decide +kernel
theorem dX0_giftsAhead_0 : decode cX0_giftsAhead 0 = .ok (.lconst 0, 1) := by decide +kernel
theorem dX0_giftsAhead_1 : decode cX0_giftsAhead 1 = .ok (.lstore 4, 2) := by decide +kernel
theorem dX0_giftsAhead_3 : decode cX0_giftsAhead 3 = .ok (.iconst 0, 1) := by decide +kernel
theorem dX0_giftsAhead_4 : decode cX0_giftsAhead 4 = .ok (.istore 6, 2) := by decide +kernel
theorem dX0_giftsAhead_6 : decode cX0_giftsAhead 6 = .ok (.iload 6, 2) := by decide +kernel
theorem dX0_giftsAhead_8 : decode cX0_giftsAhead 8 = .ok (.bipush 7, 2) := by decide +kernel
theorem dX0_giftsAhead_10 : decode cX0_giftsAhead 10 = .ok (.if_icmp .ge 96, 3) := by decide +kernel
theorem dX0_giftsAhead_13 : decode cX0_giftsAhead 13 = .ok (.iload 6, 2) := by decide +kernel
theorem dX0_giftsAhead_15 : decode cX0_giftsAhead 15 = .ok (.aload_n 1, 1) := by decide +kernel
theorem dX0_giftsAhead_16 : decode cX0_giftsAhead 16 = .ok (.getfield 75, 3) := by decide +kernel
theorem dX0_giftsAhead_19 : decode cX0_giftsAhead 19 = .ok (.if_icmp .lt 10, 3) := by decide +kernel
theorem dX0_giftsAhead_22 : decode cX0_giftsAhead 22 = .ok (.iload 6, 2) := by decide +kernel
theorem dX0_giftsAhead_24 : decode cX0_giftsAhead 24 = .ok (.bipush 6, 2) := by decide +kernel
theorem dX0_giftsAhead_26 : decode cX0_giftsAhead 26 = .ok (.if_icmp .ne 7, 3) := by decide +kernel
theorem dX0_giftsAhead_29 : decode cX0_giftsAhead 29 = .ok (.iconst 1, 1) := by decide +kernel
theorem dX0_giftsAhead_30 : decode cX0_giftsAhead 30 = .ok (.goto 4, 3) := by decide +kernel
theorem dX0_giftsAhead_33 : decode cX0_giftsAhead 33 = .ok (.iconst 0, 1) := by decide +kernel
theorem dX0_giftsAhead_34 : decode cX0_giftsAhead 34 = .ok (.istore 7, 2) := by decide +kernel
theorem dX0_giftsAhead_36 : decode cX0_giftsAhead 36 = .ok (.iconst 0, 1) := by decide +kernel
theorem dX0_giftsAhead_37 : decode cX0_giftsAhead 37 = .ok (.istore 8, 2) := by decide +kernel
theorem dX0_giftsAhead_39 : decode cX0_giftsAhead 39 = .ok (.iload 8, 2) := by decide +kernel
theorem dX0_giftsAhead_41 : decode cX0_giftsAhead 41 = .ok (.aload_n 1, 1) := by decide +kernel
theorem dX0_giftsAhead_42 : decode cX0_giftsAhead 42 = .ok (.getfield 26, 3) := by decide +kernel
theorem dX0_giftsAhead_45 : decode cX0_giftsAhead 45 = .ok (.if_icmp .ge 44, 3) := by decide +kernel
theorem dX0_giftsAhead_48 : decode cX0_giftsAhead 48 = .ok (.iload 7, 2) := by decide +kernel
theorem dX0_giftsAhead_50 : decode cX0_giftsAhead 50 = .ok (.ifCond .eq 30, 3) := by decide +kernel
theorem dX0_giftsAhead_53 : decode cX0_giftsAhead 53 = .ok (.aload_n 1, 1) := by decide +kernel
theorem dX0_giftsAhead_54 : decode cX0_giftsAhead 54 = .ok (.getfield 35, 3) := by decide +kernel
theorem dX0_giftsAhead_57 : decode cX0_giftsAhead 57 = .ok (.iload 8, 2) := by decide +kernel
theorem dX0_giftsAhead_59 : decode cX0_giftsAhead 59 = .ok (.iaload, 1) := by decide +kernel
theorem dX0_giftsAhead_60 : decode cX0_giftsAhead 60 = .ok (.iload_n 3, 1) := by decide +kernel
theorem dX0_giftsAhead_61 : decode cX0_giftsAhead 61 = .ok (.if_icmp .ne 15, 3) := by decide +kernel
theorem dX0_giftsAhead_64 : decode cX0_giftsAhead 64 = .ok (.aload_n 2, 1) := by decide +kernel
theorem dX0_giftsAhead_65 : decode cX0_giftsAhead 65 = .ok (.getfield 41, 3) := by decide +kernel
theorem dX0_giftsAhead_68 : decode cX0_giftsAhead 68 = .ok (.iload 8, 2) := by decide +kernel
theorem dX0_giftsAhead_70 : decode cX0_giftsAhead 70 = .ok (.iaload, 1) := by decide +kernel
theorem dX0_giftsAhead_71 : decode cX0_giftsAhead 71 = .ok (.iload 6, 2) := by decide +kernel
theorem dX0_giftsAhead_73 : decode cX0_giftsAhead 73 = .ok (.if_icmp .ne 7, 3) := by decide +kernel
theorem dX0_giftsAhead_76 : decode cX0_giftsAhead 76 = .ok (.iconst 1, 1) := by decide +kernel
theorem dX0_giftsAhead_77 : decode cX0_giftsAhead 77 = .ok (.goto 4, 3) := by decide +kernel
theorem dX0_giftsAhead_80 : decode cX0_giftsAhead 80 = .ok (.iconst 0, 1) := by decide +kernel
theorem dX0_giftsAhead_81 : decode cX0_giftsAhead 81 = .ok (.istore 7, 2) := by decide +kernel
theorem dX0_giftsAhead_83 : decode cX0_giftsAhead 83 = .ok (.iinc 8 1, 3) := by decide +kernel
theorem dX0_giftsAhead_86 : decode cX0_giftsAhead 86 = .ok (.goto (-47), 3) := by decide +kernel
theorem dX0_giftsAhead_89 : decode cX0_giftsAhead 89 = .ok (.iload 7, 2) := by decide +kernel
theorem dX0_giftsAhead_91 : decode cX0_giftsAhead 91 = .ok (.ifCond .eq 9, 3) := by decide +kernel
theorem dX0_giftsAhead_94 : decode cX0_giftsAhead 94 = .ok (.lload 4, 2) := by decide +kernel
theorem dX0_giftsAhead_96 : decode cX0_giftsAhead 96 = .ok (.lconst 1, 1) := by decide +kernel
theorem dX0_giftsAhead_97 : decode cX0_giftsAhead 97 = .ok (.ladd, 1) := by decide +kernel
theorem dX0_giftsAhead_98 : decode cX0_giftsAhead 98 = .ok (.lstore 4, 2) := by decide +kernel
theorem dX0_giftsAhead_100 : decode cX0_giftsAhead 100 = .ok (.iinc 6 1, 3) := by decide +kernel
theorem dX0_giftsAhead_103 : decode cX0_giftsAhead 103 = .ok (.goto (-97), 3) := by decide +kernel
theorem dX0_giftsAhead_106 : decode cX0_giftsAhead 106 = .ok (.lload 4, 2) := by decide +kernel
theorem dX0_giftsAhead_108 : decode cX0_giftsAhead 108 = .ok (.lreturn, 1) := by decide +kernel
theorem dX1_init_0 : decode cX1_init 0 = .ok (.aload_n 0, 1) := by decide +kernel
theorem dX1_init_1 : decode cX1_init 1 = .ok (.invokespecial 3, 3) := by decide +kernel
theorem dX1_init_4 : decode cX1_init 4 = .ok (.aload_n 0, 1) := by decide +kernel
theorem dX1_init_5 : decode cX1_init 5 = .ok (.bipush 10, 2) := by decide +kernel
theorem dX1_init_7 : decode cX1_init 7 = .ok (.newarray .int, 2) := by decide +kernel
theorem dX1_init_9 : decode cX1_init 9 = .ok (.putfield 9, 3) := by decide +kernel
theorem dX1_init_12 : decode cX1_init 12 = .ok (.aload_n 0, 1) := by decide +kernel
theorem dX1_init_13 : decode cX1_init 13 = .ok (.iconst (-1), 1) := by decide +kernel
theorem dX1_init_14 : decode cX1_init 14 = .ok (.putfield 15, 3) := by decide +kernel
theorem dX1_init_17 : decode cX1_init 17 = .ok (.aload_n 0, 1) := by decide +kernel
theorem dX1_init_18 : decode cX1_init 18 = .ok (.bipush 10, 2) := by decide +kernel
theorem dX1_init_20 : decode cX1_init 20 = .ok (.newarray .int, 2) := by decide +kernel
theorem dX1_init_22 : decode cX1_init 22 = .ok (.putfield 19, 3) := by decide +kernel
theorem dX1_init_25 : decode cX1_init 25 = .ok (.aload_n 0, 1) := by decide +kernel
theorem dX1_init_26 : decode cX1_init 26 = .ok (.sipush 7168, 3) := by decide +kernel
theorem dX1_init_29 : decode cX1_init 29 = .ok (.newarray .int, 2) := by decide +kernel
theorem dX1_init_31 : decode cX1_init 31 = .ok (.putfield 22, 3) := by decide +kernel
theorem dX1_init_34 : decode cX1_init 34 = .ok (.return_, 1) := by decide +kernel
theorem dX1_forget_0 : decode cX1_forget 0 = .ok (.aload_n 0, 1) := by decide +kernel
theorem dX1_forget_1 : decode cX1_forget 1 = .ok (.iconst (-1), 1) := by decide +kernel
theorem dX1_forget_2 : decode cX1_forget 2 = .ok (.putfield 15, 3) := by decide +kernel
theorem dX1_forget_5 : decode cX1_forget 5 = .ok (.return_, 1) := by decide +kernel
theorem dX1_find_0 : decode cX1_find 0 = .ok (.aload_n 0, 1) := by decide +kernel
theorem dX1_find_1 : decode cX1_find 1 = .ok (.getfield 15, 3) := by decide +kernel
theorem dX1_find_4 : decode cX1_find 4 = .ok (.iload_n 2, 1) := by decide +kernel
theorem dX1_find_5 : decode cX1_find 5 = .ok (.if_icmp .ne 4, 3) := by decide +kernel
theorem dX1_find_8 : decode cX1_find 8 = .ok (.return_, 1) := by decide +kernel
theorem dX1_find_9 : decode cX1_find 9 = .ok (.aload_n 0, 1) := by decide +kernel
theorem dX1_find_10 : decode cX1_find 10 = .ok (.iload_n 2, 1) := by decide +kernel
theorem dX1_find_11 : decode cX1_find 11 = .ok (.putfield 15, 3) := by decide +kernel
theorem dX1_find_14 : decode cX1_find 14 = .ok (.aload_n 0, 1) := by decide +kernel
theorem dX1_find_15 : decode cX1_find 15 = .ok (.getfield 22, 3) := by decide +kernel
theorem dX1_find_18 : decode cX1_find 18 = .ok (.iconst 0, 1) := by decide +kernel
theorem dX1_find_19 : decode cX1_find 19 = .ok (.invokestatic 25, 3) := by decide +kernel
theorem dX1_find_22 : decode cX1_find 22 = .ok (.aload_n 0, 1) := by decide +kernel
theorem dX1_find_23 : decode cX1_find 23 = .ok (.aload_n 1, 1) := by decide +kernel
theorem dX1_find_24 : decode cX1_find 24 = .ok (.invokevirtual 31, 3) := by decide +kernel
theorem dX1_find_27 : decode cX1_find 27 = .ok (.aload_n 0, 1) := by decide +kernel
theorem dX1_find_28 : decode cX1_find 28 = .ok (.aload_n 0, 1) := by decide +kernel
theorem dX1_find_29 : decode cX1_find 29 = .ok (.aload_n 1, 1) := by decide +kernel
theorem dX1_find_30 : decode cX1_find 30 = .ok (.iconst 0, 1) := by decide +kernel
theorem dX1_find_31 : decode cX1_find 31 = .ok (.aload_n 1, 1) := by decide +kernel
theorem dX1_find_32 : decode cX1_find 32 = .ok (.invokevirtual 35, 3) := by decide +kernel
theorem dX1_find_35 : decode cX1_find 35 = .ok (.iconst 0, 1) := by decide +kernel
theorem dX1_find_36 : decode cX1_find 36 = .ok (.invokevirtual 41, 3) := by decide +kernel
theorem dX1_find_39 : decode cX1_find 39 = .ok (.putfield 45, 3) := by decide +kernel
theorem dX1_find_42 : decode cX1_find 42 = .ok (.aload_n 0, 1) := by decide +kernel
theorem dX1_find_43 : decode cX1_find 43 = .ok (.getfield 45, 3) := by decide +kernel
theorem dX1_find_46 : decode cX1_find 46 = .ok (.ifCond .lt 8, 3) := by decide +kernel
theorem dX1_find_49 : decode cX1_find 49 = .ok (.aload_n 0, 1) := by decide +kernel
theorem dX1_find_50 : decode cX1_find 50 = .ok (.aload_n 1, 1) := by decide +kernel
theorem dX1_find_51 : decode cX1_find 51 = .ok (.invokevirtual 48, 3) := by decide +kernel
theorem dX1_find_54 : decode cX1_find 54 = .ok (.return_, 1) := by decide +kernel
theorem dX1_findAlike_0 : decode cX1_findAlike 0 = .ok (.iconst 0, 1) := by decide +kernel
theorem dX1_findAlike_1 : decode cX1_findAlike 1 = .ok (.istore_n 2, 1) := by decide +kernel
theorem dX1_findAlike_2 : decode cX1_findAlike 2 = .ok (.iload_n 2, 1) := by decide +kernel
theorem dX1_findAlike_3 : decode cX1_findAlike 3 = .ok (.aload_n 1, 1) := by decide +kernel
theorem dX1_findAlike_4 : decode cX1_findAlike 4 = .ok (.getfield 51, 3) := by decide +kernel
theorem dX1_findAlike_7 : decode cX1_findAlike 7 = .ok (.if_icmp .ge 77, 3) := by decide +kernel
theorem dX1_findAlike_10 : decode cX1_findAlike 10 = .ok (.aload_n 0, 1) := by decide +kernel
theorem dX1_findAlike_11 : decode cX1_findAlike 11 = .ok (.getfield 19, 3) := by decide +kernel
theorem dX1_findAlike_14 : decode cX1_findAlike 14 = .ok (.iload_n 2, 1) := by decide +kernel
theorem dX1_findAlike_15 : decode cX1_findAlike 15 = .ok (.iconst 0, 1) := by decide +kernel
theorem dX1_findAlike_16 : decode cX1_findAlike 16 = .ok (.iastore, 1) := by decide +kernel
theorem dX1_findAlike_17 : decode cX1_findAlike 17 = .ok (.iconst 0, 1) := by decide +kernel
theorem dX1_findAlike_18 : decode cX1_findAlike 18 = .ok (.istore_n 3, 1) := by decide +kernel
theorem dX1_findAlike_19 : decode cX1_findAlike 19 = .ok (.iload_n 3, 1) := by decide +kernel
theorem dX1_findAlike_20 : decode cX1_findAlike 20 = .ok (.iload_n 2, 1) := by decide +kernel
theorem dX1_findAlike_21 : decode cX1_findAlike 21 = .ok (.if_icmp .ge 57, 3) := by decide +kernel
theorem dX1_findAlike_24 : decode cX1_findAlike 24 = .ok (.aload_n 1, 1) := by decide +kernel
theorem dX1_findAlike_25 : decode cX1_findAlike 25 = .ok (.getfield 54, 3) := by decide +kernel
theorem dX1_findAlike_28 : decode cX1_findAlike 28 = .ok (.iload_n 3, 1) := by decide +kernel
theorem dX1_findAlike_29 : decode cX1_findAlike 29 = .ok (.iaload, 1) := by decide +kernel
theorem dX1_findAlike_30 : decode cX1_findAlike 30 = .ok (.aload_n 1, 1) := by decide +kernel
theorem dX1_findAlike_31 : decode cX1_findAlike 31 = .ok (.getfield 54, 3) := by decide +kernel
theorem dX1_findAlike_34 : decode cX1_findAlike 34 = .ok (.iload_n 2, 1) := by decide +kernel
theorem dX1_findAlike_35 : decode cX1_findAlike 35 = .ok (.iaload, 1) := by decide +kernel
theorem dX1_findAlike_36 : decode cX1_findAlike 36 = .ok (.if_icmp .ne 36, 3) := by decide +kernel
theorem dX1_findAlike_39 : decode cX1_findAlike 39 = .ok (.aload_n 1, 1) := by decide +kernel
theorem dX1_findAlike_40 : decode cX1_findAlike 40 = .ok (.aload_n 0, 1) := by decide +kernel
theorem dX1_findAlike_41 : decode cX1_findAlike 41 = .ok (.getfield 15, 3) := by decide +kernel
theorem dX1_findAlike_44 : decode cX1_findAlike 44 = .ok (.iload_n 3, 1) := by decide +kernel
theorem dX1_findAlike_45 : decode cX1_findAlike 45 = .ok (.invokevirtual 57, 3) := by decide +kernel
theorem dX1_findAlike_48 : decode cX1_findAlike 48 = .ok (.aload_n 1, 1) := by decide +kernel
theorem dX1_findAlike_49 : decode cX1_findAlike 49 = .ok (.aload_n 0, 1) := by decide +kernel
theorem dX1_findAlike_50 : decode cX1_findAlike 50 = .ok (.getfield 15, 3) := by decide +kernel
theorem dX1_findAlike_53 : decode cX1_findAlike 53 = .ok (.iload_n 2, 1) := by decide +kernel
theorem dX1_findAlike_54 : decode cX1_findAlike 54 = .ok (.invokevirtual 57, 3) := by decide +kernel
theorem dX1_findAlike_57 : decode cX1_findAlike 57 = .ok (.if_icmp .ne 15, 3) := by decide +kernel
theorem dX1_findAlike_60 : decode cX1_findAlike 60 = .ok (.aload_n 0, 1) := by decide +kernel
theorem dX1_findAlike_61 : decode cX1_findAlike 61 = .ok (.getfield 19, 3) := by decide +kernel
theorem dX1_findAlike_64 : decode cX1_findAlike 64 = .ok (.iload_n 2, 1) := by decide +kernel
theorem dX1_findAlike_65 : decode cX1_findAlike 65 = .ok (.dup2, 1) := by decide +kernel
theorem dX1_findAlike_66 : decode cX1_findAlike 66 = .ok (.iaload, 1) := by decide +kernel
theorem dX1_findAlike_67 : decode cX1_findAlike 67 = .ok (.iconst 1, 1) := by decide +kernel
theorem dX1_findAlike_68 : decode cX1_findAlike 68 = .ok (.iload_n 3, 1) := by decide +kernel
theorem dX1_findAlike_69 : decode cX1_findAlike 69 = .ok (.ishl, 1) := by decide +kernel
theorem dX1_findAlike_70 : decode cX1_findAlike 70 = .ok (.ior, 1) := by decide +kernel
theorem dX1_findAlike_71 : decode cX1_findAlike 71 = .ok (.iastore, 1) := by decide +kernel
theorem dX1_findAlike_72 : decode cX1_findAlike 72 = .ok (.iinc 3 1, 3) := by decide +kernel
theorem dX1_findAlike_75 : decode cX1_findAlike 75 = .ok (.goto (-56), 3) := by decide +kernel
theorem dX1_findAlike_78 : decode cX1_findAlike 78 = .ok (.iinc 2 1, 3) := by decide +kernel
theorem dX1_findAlike_81 : decode cX1_findAlike 81 = .ok (.goto (-79), 3) := by decide +kernel
theorem dX1_findAlike_84 : decode cX1_findAlike 84 = .ok (.return_, 1) := by decide +kernel
theorem dX1_mayCome_0 : decode cX1_mayCome 0 = .ok (.aload_n 1, 1) := by decide +kernel
theorem dX1_mayCome_1 : decode cX1_mayCome 1 = .ok (.iload_n 3, 1) := by decide +kernel
theorem dX1_mayCome_2 : decode cX1_mayCome 2 = .ok (.iload_n 2, 1) := by decide +kernel
theorem dX1_mayCome_3 : decode cX1_mayCome 3 = .ok (.invokevirtual 57, 3) := by decide +kernel
theorem dX1_mayCome_6 : decode cX1_mayCome 6 = .ok (.ifCond .ne 20, 3) := by decide +kernel
theorem dX1_mayCome_9 : decode cX1_mayCome 9 = .ok (.aload_n 0, 1) := by decide +kernel
theorem dX1_mayCome_10 : decode cX1_mayCome 10 = .ok (.getfield 19, 3) := by decide +kernel
theorem dX1_mayCome_13 : decode cX1_mayCome 13 = .ok (.iload_n 2, 1) := by decide +kernel
theorem dX1_mayCome_14 : decode cX1_mayCome 14 = .ok (.iaload, 1) := by decide +kernel
theorem dX1_mayCome_15 : decode cX1_mayCome 15 = .ok (.iload_n 3, 1) := by decide +kernel
theorem dX1_mayCome_16 : decode cX1_mayCome 16 = .ok (.iconst (-1), 1) := by decide +kernel
theorem dX1_mayCome_17 : decode cX1_mayCome 17 = .ok (.ixor, 1) := by decide +kernel
theorem dX1_mayCome_18 : decode cX1_mayCome 18 = .ok (.iand, 1) := by decide +kernel
theorem dX1_mayCome_19 : decode cX1_mayCome 19 = .ok (.ifCond .ne 7, 3) := by decide +kernel
theorem dX1_mayCome_22 : decode cX1_mayCome 22 = .ok (.iconst 1, 1) := by decide +kernel
theorem dX1_mayCome_23 : decode cX1_mayCome 23 = .ok (.goto 4, 3) := by decide +kernel
theorem dX1_mayCome_26 : decode cX1_mayCome 26 = .ok (.iconst 0, 1) := by decide +kernel
theorem dX1_mayCome_27 : decode cX1_mayCome 27 = .ok (.ireturn, 1) := by decide +kernel
theorem dX1_mostLeft_0 : decode cX1_mostLeft 0 = .ok (.iload 4, 2) := by decide +kernel
theorem dX1_mostLeft_2 : decode cX1_mostLeft 2 = .ok (.aload_n 1, 1) := by decide +kernel
theorem dX1_mostLeft_3 : decode cX1_mostLeft 3 = .ok (.getfield 51, 3) := by decide +kernel
theorem dX1_mostLeft_6 : decode cX1_mostLeft 6 = .ok (.if_icmp .lt 5, 3) := by decide +kernel
theorem dX1_mostLeft_9 : decode cX1_mostLeft 9 = .ok (.iconst 0, 1) := by decide +kernel
theorem dX1_mostLeft_10 : decode cX1_mostLeft 10 = .ok (.ireturn, 1) := by decide +kernel
theorem dX1_mostLeft_11 : decode cX1_mostLeft 11 = .ok (.iload_n 2, 1) := by decide +kernel
theorem dX1_mostLeft_12 : decode cX1_mostLeft 12 = .ok (.bipush 7, 2) := by decide +kernel
theorem dX1_mostLeft_14 : decode cX1_mostLeft 14 = .ok (.imul, 1) := by decide +kernel
theorem dX1_mostLeft_15 : decode cX1_mostLeft 15 = .ok (.iload_n 3, 1) := by decide +kernel
theorem dX1_mostLeft_16 : decode cX1_mostLeft 16 = .ok (.bipush 7, 2) := by decide +kernel
theorem dX1_mostLeft_18 : decode cX1_mostLeft 18 = .ok (.idiv, 1) := by decide +kernel
theorem dX1_mostLeft_19 : decode cX1_mostLeft 19 = .ok (.iadd, 1) := by decide +kernel
theorem dX1_mostLeft_20 : decode cX1_mostLeft 20 = .ok (.istore 5, 2) := by decide +kernel
theorem dX1_mostLeft_22 : decode cX1_mostLeft 22 = .ok (.iconst 4, 1) := by decide +kernel
theorem dX1_mostLeft_23 : decode cX1_mostLeft 23 = .ok (.iload_n 3, 1) := by decide +kernel
theorem dX1_mostLeft_24 : decode cX1_mostLeft 24 = .ok (.bipush 7, 2) := by decide +kernel
theorem dX1_mostLeft_26 : decode cX1_mostLeft 26 = .ok (.irem, 1) := by decide +kernel
theorem dX1_mostLeft_27 : decode cX1_mostLeft 27 = .ok (.imul, 1) := by decide +kernel
theorem dX1_mostLeft_28 : decode cX1_mostLeft 28 = .ok (.istore 6, 2) := by decide +kernel
theorem dX1_mostLeft_30 : decode cX1_mostLeft 30 = .ok (.aload_n 0, 1) := by decide +kernel
theorem dX1_mostLeft_31 : decode cX1_mostLeft 31 = .ok (.getfield 22, 3) := by decide +kernel
theorem dX1_mostLeft_34 : decode cX1_mostLeft 34 = .ok (.iload 5, 2) := by decide +kernel
theorem dX1_mostLeft_36 : decode cX1_mostLeft 36 = .ok (.iaload, 1) := by decide +kernel
theorem dX1_mostLeft_37 : decode cX1_mostLeft 37 = .ok (.iload 6, 2) := by decide +kernel
theorem dX1_mostLeft_39 : decode cX1_mostLeft 39 = .ok (.ishr, 1) := by decide +kernel
theorem dX1_mostLeft_40 : decode cX1_mostLeft 40 = .ok (.bipush 15, 2) := by decide +kernel
theorem dX1_mostLeft_42 : decode cX1_mostLeft 42 = .ok (.iand, 1) := by decide +kernel
theorem dX1_mostLeft_43 : decode cX1_mostLeft 43 = .ok (.istore 7, 2) := by decide +kernel
theorem dX1_mostLeft_45 : decode cX1_mostLeft 45 = .ok (.iload 7, 2) := by decide +kernel
theorem dX1_mostLeft_47 : decode cX1_mostLeft 47 = .ok (.ifCond .eq 8, 3) := by decide +kernel
theorem dX1_mostLeft_50 : decode cX1_mostLeft 50 = .ok (.iload 7, 2) := by decide +kernel
theorem dX1_mostLeft_52 : decode cX1_mostLeft 52 = .ok (.iconst 2, 1) := by decide +kernel
theorem dX1_mostLeft_53 : decode cX1_mostLeft 53 = .ok (.isub, 1) := by decide +kernel
theorem dX1_mostLeft_54 : decode cX1_mostLeft 54 = .ok (.ireturn, 1) := by decide +kernel
theorem dX1_mostLeft_55 : decode cX1_mostLeft 55 = .ok (.iconst (-1), 1) := by decide +kernel
theorem dX1_mostLeft_56 : decode cX1_mostLeft 56 = .ok (.istore 8, 2) := by decide +kernel
theorem dX1_mostLeft_58 : decode cX1_mostLeft 58 = .ok (.iconst 0, 1) := by decide +kernel
theorem dX1_mostLeft_59 : decode cX1_mostLeft 59 = .ok (.istore 9, 2) := by decide +kernel
theorem dX1_mostLeft_61 : decode cX1_mostLeft 61 = .ok (.iload 9, 2) := by decide +kernel
theorem dX1_mostLeft_63 : decode cX1_mostLeft 63 = .ok (.aload_n 1, 1) := by decide +kernel
theorem dX1_mostLeft_64 : decode cX1_mostLeft 64 = .ok (.getfield 51, 3) := by decide +kernel
theorem dX1_mostLeft_67 : decode cX1_mostLeft 67 = .ok (.if_icmp .ge 38, 3) := by decide +kernel
theorem dX1_mostLeft_70 : decode cX1_mostLeft 70 = .ok (.aload_n 0, 1) := by decide +kernel
theorem dX1_mostLeft_71 : decode cX1_mostLeft 71 = .ok (.aload_n 1, 1) := by decide +kernel
theorem dX1_mostLeft_72 : decode cX1_mostLeft 72 = .ok (.iload 9, 2) := by decide +kernel
theorem dX1_mostLeft_74 : decode cX1_mostLeft 74 = .ok (.iload_n 2, 1) := by decide +kernel
theorem dX1_mostLeft_75 : decode cX1_mostLeft 75 = .ok (.invokevirtual 61, 3) := by decide +kernel
theorem dX1_mostLeft_78 : decode cX1_mostLeft 78 = .ok (.ifCond .eq 21, 3) := by decide +kernel
theorem dX1_mostLeft_81 : decode cX1_mostLeft 81 = .ok (.iload 8, 2) := by decide +kernel
theorem dX1_mostLeft_83 : decode cX1_mostLeft 83 = .ok (.aload_n 0, 1) := by decide +kernel
theorem dX1_mostLeft_84 : decode cX1_mostLeft 84 = .ok (.aload_n 1, 1) := by decide +kernel
theorem dX1_mostLeft_85 : decode cX1_mostLeft 85 = .ok (.iload 9, 2) := by decide +kernel
theorem dX1_mostLeft_87 : decode cX1_mostLeft 87 = .ok (.iload_n 2, 1) := by decide +kernel
theorem dX1_mostLeft_88 : decode cX1_mostLeft 88 = .ok (.iload_n 3, 1) := by decide +kernel
theorem dX1_mostLeft_89 : decode cX1_mostLeft 89 = .ok (.iload 4, 2) := by decide +kernel
theorem dX1_mostLeft_91 : decode cX1_mostLeft 91 = .ok (.invokevirtual 65, 3) := by decide +kernel
theorem dX1_mostLeft_94 : decode cX1_mostLeft 94 = .ok (.invokestatic 69, 3) := by decide +kernel
theorem dX1_mostLeft_97 : decode cX1_mostLeft 97 = .ok (.istore 8, 2) := by decide +kernel
theorem dX1_mostLeft_99 : decode cX1_mostLeft 99 = .ok (.iinc 9 1, 3) := by decide +kernel
theorem dX1_mostLeft_102 : decode cX1_mostLeft 102 = .ok (.goto (-41), 3) := by decide +kernel
theorem dX1_mostLeft_105 : decode cX1_mostLeft 105 = .ok (.aload_n 0, 1) := by decide +kernel
theorem dX1_mostLeft_106 : decode cX1_mostLeft 106 = .ok (.getfield 22, 3) := by decide +kernel
theorem dX1_mostLeft_109 : decode cX1_mostLeft 109 = .ok (.iload 5, 2) := by decide +kernel
theorem dX1_mostLeft_111 : decode cX1_mostLeft 111 = .ok (.dup2, 1) := by decide +kernel
theorem dX1_mostLeft_112 : decode cX1_mostLeft 112 = .ok (.iaload, 1) := by decide +kernel
theorem dX1_mostLeft_113 : decode cX1_mostLeft 113 = .ok (.iload 8, 2) := by decide +kernel
theorem dX1_mostLeft_115 : decode cX1_mostLeft 115 = .ok (.iconst 2, 1) := by decide +kernel
theorem dX1_mostLeft_116 : decode cX1_mostLeft 116 = .ok (.iadd, 1) := by decide +kernel
theorem dX1_mostLeft_117 : decode cX1_mostLeft 117 = .ok (.iload 6, 2) := by decide +kernel
theorem dX1_mostLeft_119 : decode cX1_mostLeft 119 = .ok (.ishl, 1) := by decide +kernel
theorem dX1_mostLeft_120 : decode cX1_mostLeft 120 = .ok (.ior, 1) := by decide +kernel
theorem dX1_mostLeft_121 : decode cX1_mostLeft 121 = .ok (.iastore, 1) := by decide +kernel
theorem dX1_mostLeft_122 : decode cX1_mostLeft 122 = .ok (.iload 8, 2) := by decide +kernel
theorem dX1_mostLeft_124 : decode cX1_mostLeft 124 = .ok (.ireturn, 1) := by decide +kernel
theorem dX1_mostIfComes_0 : decode cX1_mostIfComes 0 = .ok (.aload_n 1, 1) := by decide +kernel
theorem dX1_mostIfComes_1 : decode cX1_mostIfComes 1 = .ok (.iload 4, 2) := by decide +kernel
theorem dX1_mostIfComes_3 : decode cX1_mostIfComes 3 = .ok (.iload_n 2, 1) := by decide +kernel
theorem dX1_mostIfComes_4 : decode cX1_mostIfComes 4 = .ok (.invokevirtual 75, 3) := by decide +kernel
theorem dX1_mostIfComes_7 : decode cX1_mostIfComes 7 = .ok (.istore 6, 2) := by decide +kernel
theorem dX1_mostIfComes_9 : decode cX1_mostIfComes 9 = .ok (.iload 6, 2) := by decide +kernel
theorem dX1_mostIfComes_11 : decode cX1_mostIfComes 11 = .ok (.ifCond .ne 17, 3) := by decide +kernel
theorem dX1_mostIfComes_14 : decode cX1_mostIfComes 14 = .ok (.aload_n 1, 1) := by decide +kernel
theorem dX1_mostIfComes_15 : decode cX1_mostIfComes 15 = .ok (.aload_n 0, 1) := by decide +kernel
theorem dX1_mostIfComes_16 : decode cX1_mostIfComes 16 = .ok (.getfield 15, 3) := by decide +kernel
theorem dX1_mostIfComes_19 : decode cX1_mostIfComes 19 = .ok (.iload_n 2, 1) := by decide +kernel
theorem dX1_mostIfComes_20 : decode cX1_mostIfComes 20 = .ok (.invokevirtual 57, 3) := by decide +kernel
theorem dX1_mostIfComes_23 : decode cX1_mostIfComes 23 = .ok (.ifCond .eq 5, 3) := by decide +kernel
theorem dX1_mostIfComes_26 : decode cX1_mostIfComes 26 = .ok (.iconst (-1), 1) := by decide +kernel
theorem dX1_mostIfComes_27 : decode cX1_mostIfComes 27 = .ok (.ireturn, 1) := by decide +kernel
theorem dX1_mostIfComes_28 : decode cX1_mostIfComes 28 = .ok (.aload_n 0, 1) := by decide +kernel
theorem dX1_mostIfComes_29 : decode cX1_mostIfComes 29 = .ok (.aload_n 1, 1) := by decide +kernel
theorem dX1_mostIfComes_30 : decode cX1_mostIfComes 30 = .ok (.iload_n 3, 1) := by decide +kernel
theorem dX1_mostIfComes_31 : decode cX1_mostIfComes 31 = .ok (.iconst 1, 1) := by decide +kernel
theorem dX1_mostIfComes_32 : decode cX1_mostIfComes 32 = .ok (.iload_n 2, 1) := by decide +kernel
theorem dX1_mostIfComes_33 : decode cX1_mostIfComes 33 = .ok (.ishl, 1) := by decide +kernel
theorem dX1_mostIfComes_34 : decode cX1_mostIfComes 34 = .ok (.ior, 1) := by decide +kernel
theorem dX1_mostIfComes_35 : decode cX1_mostIfComes 35 = .ok (.aload_n 0, 1) := by decide +kernel
theorem dX1_mostIfComes_36 : decode cX1_mostIfComes 36 = .ok (.aload_n 1, 1) := by decide +kernel
theorem dX1_mostIfComes_37 : decode cX1_mostIfComes 37 = .ok (.iload 4, 2) := by decide +kernel
theorem dX1_mostIfComes_39 : decode cX1_mostIfComes 39 = .ok (.iload_n 2, 1) := by decide +kernel
theorem dX1_mostIfComes_40 : decode cX1_mostIfComes 40 = .ok (.invokevirtual 78, 3) := by decide +kernel
theorem dX1_mostIfComes_43 : decode cX1_mostIfComes 43 = .ok (.iload 5, 2) := by decide +kernel
theorem dX1_mostIfComes_45 : decode cX1_mostIfComes 45 = .ok (.iconst 1, 1) := by decide +kernel
theorem dX1_mostIfComes_46 : decode cX1_mostIfComes 46 = .ok (.iadd, 1) := by decide +kernel
theorem dX1_mostIfComes_47 : decode cX1_mostIfComes 47 = .ok (.invokevirtual 41, 3) := by decide +kernel
theorem dX1_mostIfComes_50 : decode cX1_mostIfComes 50 = .ok (.istore 7, 2) := by decide +kernel
theorem dX1_mostIfComes_52 : decode cX1_mostIfComes 52 = .ok (.iload 6, 2) := by decide +kernel
theorem dX1_mostIfComes_54 : decode cX1_mostIfComes 54 = .ok (.ifCond .eq 15, 3) := by decide +kernel
theorem dX1_mostIfComes_57 : decode cX1_mostIfComes 57 = .ok (.iload 7, 2) := by decide +kernel
theorem dX1_mostIfComes_59 : decode cX1_mostIfComes 59 = .ok (.ifCond .lt 10, 3) := by decide +kernel
theorem dX1_mostIfComes_62 : decode cX1_mostIfComes 62 = .ok (.iload 7, 2) := by decide +kernel
theorem dX1_mostIfComes_64 : decode cX1_mostIfComes 64 = .ok (.iconst 1, 1) := by decide +kernel
theorem dX1_mostIfComes_65 : decode cX1_mostIfComes 65 = .ok (.iadd, 1) := by decide +kernel
theorem dX1_mostIfComes_66 : decode cX1_mostIfComes 66 = .ok (.goto 5, 3) := by decide +kernel
theorem dX1_mostIfComes_69 : decode cX1_mostIfComes 69 = .ok (.iload 7, 2) := by decide +kernel
theorem dX1_mostIfComes_71 : decode cX1_mostIfComes 71 = .ok (.ireturn, 1) := by decide +kernel
theorem dX1_pairBehind_0 : decode cX1_pairBehind 0 = .ok (.iload_n 2, 1) := by decide +kernel
theorem dX1_pairBehind_1 : decode cX1_pairBehind 1 = .ok (.bipush 7, 2) := by decide +kernel
theorem dX1_pairBehind_3 : decode cX1_pairBehind 3 = .ok (.irem, 1) := by decide +kernel
theorem dX1_pairBehind_4 : decode cX1_pairBehind 4 = .ok (.bipush 7, 2) := by decide +kernel
theorem dX1_pairBehind_6 : decode cX1_pairBehind 6 = .ok (.imul, 1) := by decide +kernel
theorem dX1_pairBehind_7 : decode cX1_pairBehind 7 = .ok (.aload_n 1, 1) := by decide +kernel
theorem dX1_pairBehind_8 : decode cX1_pairBehind 8 = .ok (.getfield 54, 3) := by decide +kernel
theorem dX1_pairBehind_11 : decode cX1_pairBehind 11 = .ok (.iload_n 3, 1) := by decide +kernel
theorem dX1_pairBehind_12 : decode cX1_pairBehind 12 = .ok (.iaload, 1) := by decide +kernel
theorem dX1_pairBehind_13 : decode cX1_pairBehind 13 = .ok (.iadd, 1) := by decide +kernel
theorem dX1_pairBehind_14 : decode cX1_pairBehind 14 = .ok (.ireturn, 1) := by decide +kernel
theorem dX1_followMost_0 : decode cX1_followMost 0 = .ok (.iconst 0, 1) := by decide +kernel
theorem dX1_followMost_1 : decode cX1_followMost 1 = .ok (.istore_n 2, 1) := by decide +kernel
theorem dX1_followMost_2 : decode cX1_followMost 2 = .ok (.aload_n 1, 1) := by decide +kernel
theorem dX1_followMost_3 : decode cX1_followMost 3 = .ok (.invokevirtual 35, 3) := by decide +kernel
theorem dX1_followMost_6 : decode cX1_followMost 6 = .ok (.istore_n 3, 1) := by decide +kernel
theorem dX1_followMost_7 : decode cX1_followMost 7 = .ok (.iconst 0, 1) := by decide +kernel
theorem dX1_followMost_8 : decode cX1_followMost 8 = .ok (.istore 4, 2) := by decide +kernel
theorem dX1_followMost_10 : decode cX1_followMost 10 = .ok (.iload 4, 2) := by decide +kernel
theorem dX1_followMost_12 : decode cX1_followMost 12 = .ok (.aload_n 1, 1) := by decide +kernel
theorem dX1_followMost_13 : decode cX1_followMost 13 = .ok (.getfield 51, 3) := by decide +kernel
theorem dX1_followMost_16 : decode cX1_followMost 16 = .ok (.if_icmp .ge 45, 3) := by decide +kernel
theorem dX1_followMost_19 : decode cX1_followMost 19 = .ok (.aload_n 0, 1) := by decide +kernel
theorem dX1_followMost_20 : decode cX1_followMost 20 = .ok (.aload_n 1, 1) := by decide +kernel
theorem dX1_followMost_21 : decode cX1_followMost 21 = .ok (.iload_n 2, 1) := by decide +kernel
theorem dX1_followMost_22 : decode cX1_followMost 22 = .ok (.iload_n 3, 1) := by decide +kernel
theorem dX1_followMost_23 : decode cX1_followMost 23 = .ok (.iload 4, 2) := by decide +kernel
theorem dX1_followMost_25 : decode cX1_followMost 25 = .ok (.invokevirtual 82, 3) := by decide +kernel
theorem dX1_followMost_28 : decode cX1_followMost 28 = .ok (.istore 5, 2) := by decide +kernel
theorem dX1_followMost_30 : decode cX1_followMost 30 = .ok (.aload_n 0, 1) := by decide +kernel
theorem dX1_followMost_31 : decode cX1_followMost 31 = .ok (.getfield 9, 3) := by decide +kernel
theorem dX1_followMost_34 : decode cX1_followMost 34 = .ok (.iload 4, 2) := by decide +kernel
theorem dX1_followMost_36 : decode cX1_followMost 36 = .ok (.iload 5, 2) := by decide +kernel
theorem dX1_followMost_38 : decode cX1_followMost 38 = .ok (.iastore, 1) := by decide +kernel
theorem dX1_followMost_39 : decode cX1_followMost 39 = .ok (.iload_n 2, 1) := by decide +kernel
theorem dX1_followMost_40 : decode cX1_followMost 40 = .ok (.iconst 1, 1) := by decide +kernel
theorem dX1_followMost_41 : decode cX1_followMost 41 = .ok (.iload 5, 2) := by decide +kernel
theorem dX1_followMost_43 : decode cX1_followMost 43 = .ok (.ishl, 1) := by decide +kernel
theorem dX1_followMost_44 : decode cX1_followMost 44 = .ok (.ior, 1) := by decide +kernel
theorem dX1_followMost_45 : decode cX1_followMost 45 = .ok (.istore_n 2, 1) := by decide +kernel
theorem dX1_followMost_46 : decode cX1_followMost 46 = .ok (.aload_n 0, 1) := by decide +kernel
theorem dX1_followMost_47 : decode cX1_followMost 47 = .ok (.aload_n 1, 1) := by decide +kernel
theorem dX1_followMost_48 : decode cX1_followMost 48 = .ok (.iload_n 3, 1) := by decide +kernel
theorem dX1_followMost_49 : decode cX1_followMost 49 = .ok (.iload 5, 2) := by decide +kernel
theorem dX1_followMost_51 : decode cX1_followMost 51 = .ok (.invokevirtual 78, 3) := by decide +kernel
theorem dX1_followMost_54 : decode cX1_followMost 54 = .ok (.istore_n 3, 1) := by decide +kernel
theorem dX1_followMost_55 : decode cX1_followMost 55 = .ok (.iinc 4 1, 3) := by decide +kernel
theorem dX1_followMost_58 : decode cX1_followMost 58 = .ok (.goto (-48), 3) := by decide +kernel
theorem dX1_followMost_61 : decode cX1_followMost 61 = .ok (.return_, 1) := by decide +kernel
theorem dX1_firstOfMost_0 : decode cX1_firstOfMost 0 = .ok (.aload_n 0, 1) := by decide +kernel
theorem dX1_firstOfMost_1 : decode cX1_firstOfMost 1 = .ok (.aload_n 1, 1) := by decide +kernel
theorem dX1_firstOfMost_2 : decode cX1_firstOfMost 2 = .ok (.iload_n 2, 1) := by decide +kernel
theorem dX1_firstOfMost_3 : decode cX1_firstOfMost 3 = .ok (.iload_n 3, 1) := by decide +kernel
theorem dX1_firstOfMost_4 : decode cX1_firstOfMost 4 = .ok (.iload 4, 2) := by decide +kernel
theorem dX1_firstOfMost_6 : decode cX1_firstOfMost 6 = .ok (.invokevirtual 41, 3) := by decide +kernel
theorem dX1_firstOfMost_9 : decode cX1_firstOfMost 9 = .ok (.istore 5, 2) := by decide +kernel
theorem dX1_firstOfMost_11 : decode cX1_firstOfMost 11 = .ok (.iconst 0, 1) := by decide +kernel
theorem dX1_firstOfMost_12 : decode cX1_firstOfMost 12 = .ok (.istore 6, 2) := by decide +kernel
theorem dX1_firstOfMost_14 : decode cX1_firstOfMost 14 = .ok (.iload 6, 2) := by decide +kernel
theorem dX1_firstOfMost_16 : decode cX1_firstOfMost 16 = .ok (.aload_n 1, 1) := by decide +kernel
theorem dX1_firstOfMost_17 : decode cX1_firstOfMost 17 = .ok (.getfield 51, 3) := by decide +kernel
theorem dX1_firstOfMost_20 : decode cX1_firstOfMost 20 = .ok (.if_icmp .ge 39, 3) := by decide +kernel
theorem dX1_firstOfMost_23 : decode cX1_firstOfMost 23 = .ok (.aload_n 0, 1) := by decide +kernel
theorem dX1_firstOfMost_24 : decode cX1_firstOfMost 24 = .ok (.aload_n 1, 1) := by decide +kernel
theorem dX1_firstOfMost_25 : decode cX1_firstOfMost 25 = .ok (.iload 6, 2) := by decide +kernel
theorem dX1_firstOfMost_27 : decode cX1_firstOfMost 27 = .ok (.iload_n 2, 1) := by decide +kernel
theorem dX1_firstOfMost_28 : decode cX1_firstOfMost 28 = .ok (.invokevirtual 61, 3) := by decide +kernel
theorem dX1_firstOfMost_31 : decode cX1_firstOfMost 31 = .ok (.ifCond .eq 22, 3) := by decide +kernel
theorem dX1_firstOfMost_34 : decode cX1_firstOfMost 34 = .ok (.aload_n 0, 1) := by decide +kernel
theorem dX1_firstOfMost_35 : decode cX1_firstOfMost 35 = .ok (.aload_n 1, 1) := by decide +kernel
theorem dX1_firstOfMost_36 : decode cX1_firstOfMost 36 = .ok (.iload 6, 2) := by decide +kernel
theorem dX1_firstOfMost_38 : decode cX1_firstOfMost 38 = .ok (.iload_n 2, 1) := by decide +kernel
theorem dX1_firstOfMost_39 : decode cX1_firstOfMost 39 = .ok (.iload_n 3, 1) := by decide +kernel
theorem dX1_firstOfMost_40 : decode cX1_firstOfMost 40 = .ok (.iload 4, 2) := by decide +kernel
theorem dX1_firstOfMost_42 : decode cX1_firstOfMost 42 = .ok (.invokevirtual 65, 3) := by decide +kernel
theorem dX1_firstOfMost_45 : decode cX1_firstOfMost 45 = .ok (.iload 5, 2) := by decide +kernel
theorem dX1_firstOfMost_47 : decode cX1_firstOfMost 47 = .ok (.if_icmp .ne 6, 3) := by decide +kernel
theorem dX1_firstOfMost_50 : decode cX1_firstOfMost 50 = .ok (.iload 6, 2) := by decide +kernel
theorem dX1_firstOfMost_52 : decode cX1_firstOfMost 52 = .ok (.ireturn, 1) := by decide +kernel
theorem dX1_firstOfMost_53 : decode cX1_firstOfMost 53 = .ok (.iinc 6 1, 3) := by decide +kernel
theorem dX1_firstOfMost_56 : decode cX1_firstOfMost 56 = .ok (.goto (-42), 3) := by decide +kernel
theorem dX1_firstOfMost_59 : decode cX1_firstOfMost 59 = .ok (.iconst 0, 1) := by decide +kernel
theorem dX1_firstOfMost_60 : decode cX1_firstOfMost 60 = .ok (.ireturn, 1) := by decide +kernel
theorem dX2_init_0 : decode cX2_init 0 = .ok (.aload_n 0, 1) := by decide +kernel
theorem dX2_init_1 : decode cX2_init 1 = .ok (.invokespecial 3, 3) := by decide +kernel
theorem dX2_init_4 : decode cX2_init 4 = .ok (.aload_n 0, 1) := by decide +kernel
theorem dX2_init_5 : decode cX2_init 5 = .ok (.bipush 6, 2) := by decide +kernel
theorem dX2_init_7 : decode cX2_init 7 = .ok (.newarray .int, 2) := by decide +kernel
theorem dX2_init_9 : decode cX2_init 9 = .ok (.putfield 9, 3) := by decide +kernel
theorem dX2_init_12 : decode cX2_init 12 = .ok (.aload_n 0, 1) := by decide +kernel
theorem dX2_init_13 : decode cX2_init 13 = .ok (.bipush 10, 2) := by decide +kernel
theorem dX2_init_15 : decode cX2_init 15 = .ok (.newarray .int, 2) := by decide +kernel
theorem dX2_init_17 : decode cX2_init 17 = .ok (.putfield 15, 3) := by decide +kernel
theorem dX2_init_20 : decode cX2_init 20 = .ok (.aload_n 0, 1) := by decide +kernel
theorem dX2_init_21 : decode cX2_init 21 = .ok (.bipush 42, 2) := by decide +kernel
theorem dX2_init_23 : decode cX2_init 23 = .ok (.newarray .int, 2) := by decide +kernel
theorem dX2_init_25 : decode cX2_init 25 = .ok (.putfield 18, 3) := by decide +kernel
theorem dX2_init_28 : decode cX2_init 28 = .ok (.aload_n 0, 1) := by decide +kernel
theorem dX2_init_29 : decode cX2_init 29 = .ok (.bipush 6, 2) := by decide +kernel
theorem dX2_init_31 : decode cX2_init 31 = .ok (.newarray .int, 2) := by decide +kernel
theorem dX2_init_33 : decode cX2_init 33 = .ok (.putfield 21, 3) := by decide +kernel
theorem dX2_init_36 : decode cX2_init 36 = .ok (.aload_n 0, 1) := by decide +kernel
theorem dX2_init_37 : decode cX2_init 37 = .ok (.bipush 6, 2) := by decide +kernel
theorem dX2_init_39 : decode cX2_init 39 = .ok (.newarray .int, 2) := by decide +kernel
theorem dX2_init_41 : decode cX2_init 41 = .ok (.putfield 24, 3) := by decide +kernel
theorem dX2_init_44 : decode cX2_init 44 = .ok (.aload_n 0, 1) := by decide +kernel
theorem dX2_init_45 : decode cX2_init 45 = .ok (.bipush 6, 2) := by decide +kernel
theorem dX2_init_47 : decode cX2_init 47 = .ok (.newarray .int, 2) := by decide +kernel
theorem dX2_init_49 : decode cX2_init 49 = .ok (.putfield 27, 3) := by decide +kernel
theorem dX2_init_52 : decode cX2_init 52 = .ok (.aload_n 0, 1) := by decide +kernel
theorem dX2_init_53 : decode cX2_init 53 = .ok (.bipush 6, 2) := by decide +kernel
theorem dX2_init_55 : decode cX2_init 55 = .ok (.newarray .int, 2) := by decide +kernel
theorem dX2_init_57 : decode cX2_init 57 = .ok (.putfield 30, 3) := by decide +kernel
theorem dX2_init_60 : decode cX2_init 60 = .ok (.aload_n 0, 1) := by decide +kernel
theorem dX2_init_61 : decode cX2_init 61 = .ok (.bipush 6, 2) := by decide +kernel
theorem dX2_init_63 : decode cX2_init 63 = .ok (.newarray .int, 2) := by decide +kernel
theorem dX2_init_65 : decode cX2_init 65 = .ok (.putfield 33, 3) := by decide +kernel
theorem dX2_init_68 : decode cX2_init 68 = .ok (.return_, 1) := by decide +kernel
theorem dX2_clear_0 : decode cX2_clear 0 = .ok (.aload_n 0, 1) := by decide +kernel
theorem dX2_clear_1 : decode cX2_clear 1 = .ok (.iconst 4, 1) := by decide +kernel
theorem dX2_clear_2 : decode cX2_clear 2 = .ok (.putfield 36, 3) := by decide +kernel
theorem dX2_clear_5 : decode cX2_clear 5 = .ok (.aload_n 0, 1) := by decide +kernel
theorem dX2_clear_6 : decode cX2_clear 6 = .ok (.iconst 0, 1) := by decide +kernel
theorem dX2_clear_7 : decode cX2_clear 7 = .ok (.putfield 40, 3) := by decide +kernel
theorem dX2_clear_10 : decode cX2_clear 10 = .ok (.aload_n 0, 1) := by decide +kernel
theorem dX2_clear_11 : decode cX2_clear 11 = .ok (.iconst 0, 1) := by decide +kernel
theorem dX2_clear_12 : decode cX2_clear 12 = .ok (.putfield 43, 3) := by decide +kernel
theorem dX2_clear_15 : decode cX2_clear 15 = .ok (.aload_n 0, 1) := by decide +kernel
theorem dX2_clear_16 : decode cX2_clear 16 = .ok (.iconst 0, 1) := by decide +kernel
theorem dX2_clear_17 : decode cX2_clear 17 = .ok (.putfield 46, 3) := by decide +kernel
theorem dX2_clear_20 : decode cX2_clear 20 = .ok (.aload_n 0, 1) := by decide +kernel
theorem dX2_clear_21 : decode cX2_clear 21 = .ok (.iconst 0, 1) := by decide +kernel
theorem dX2_clear_22 : decode cX2_clear 22 = .ok (.putfield 49, 3) := by decide +kernel
theorem dX2_clear_25 : decode cX2_clear 25 = .ok (.aload_n 0, 1) := by decide +kernel
theorem dX2_clear_26 : decode cX2_clear 26 = .ok (.iconst (-1), 1) := by decide +kernel
theorem dX2_clear_27 : decode cX2_clear 27 = .ok (.putfield 52, 3) := by decide +kernel
theorem dX2_clear_30 : decode cX2_clear 30 = .ok (.aload_n 0, 1) := by decide +kernel
theorem dX2_clear_31 : decode cX2_clear 31 = .ok (.iconst (-1), 1) := by decide +kernel
theorem dX2_clear_32 : decode cX2_clear 32 = .ok (.putfield 55, 3) := by decide +kernel
theorem dX2_clear_35 : decode cX2_clear 35 = .ok (.aload_n 0, 1) := by decide +kernel
theorem dX2_clear_36 : decode cX2_clear 36 = .ok (.getfield 21, 3) := by decide +kernel
theorem dX2_clear_39 : decode cX2_clear 39 = .ok (.iconst 1, 1) := by decide +kernel
theorem dX2_clear_40 : decode cX2_clear 40 = .ok (.invokestatic 58, 3) := by decide +kernel
theorem dX2_clear_43 : decode cX2_clear 43 = .ok (.aload_n 0, 1) := by decide +kernel
theorem dX2_clear_44 : decode cX2_clear 44 = .ok (.getfield 18, 3) := by decide +kernel
theorem dX2_clear_47 : decode cX2_clear 47 = .ok (.iconst 0, 1) := by decide +kernel
theorem dX2_clear_48 : decode cX2_clear 48 = .ok (.invokestatic 58, 3) := by decide +kernel
theorem dX2_clear_51 : decode cX2_clear 51 = .ok (.iconst 0, 1) := by decide +kernel
theorem dX2_clear_52 : decode cX2_clear 52 = .ok (.istore_n 1, 1) := by decide +kernel
theorem dX2_clear_53 : decode cX2_clear 53 = .ok (.iload_n 1, 1) := by decide +kernel
theorem dX2_clear_54 : decode cX2_clear 54 = .ok (.bipush 6, 2) := by decide +kernel
theorem dX2_clear_56 : decode cX2_clear 56 = .ok (.if_icmp .ge 22, 3) := by decide +kernel
theorem dX2_clear_59 : decode cX2_clear 59 = .ok (.aload_n 0, 1) := by decide +kernel
theorem dX2_clear_60 : decode cX2_clear 60 = .ok (.getfield 18, 3) := by decide +kernel
theorem dX2_clear_63 : decode cX2_clear 63 = .ok (.iload_n 1, 1) := by decide +kernel
theorem dX2_clear_64 : decode cX2_clear 64 = .ok (.bipush 7, 2) := by decide +kernel
theorem dX2_clear_66 : decode cX2_clear 66 = .ok (.imul, 1) := by decide +kernel
theorem dX2_clear_67 : decode cX2_clear 67 = .ok (.iload_n 1, 1) := by decide +kernel
theorem dX2_clear_68 : decode cX2_clear 68 = .ok (.iadd, 1) := by decide +kernel
theorem dX2_clear_69 : decode cX2_clear 69 = .ok (.bipush 9, 2) := by decide +kernel
theorem dX2_clear_71 : decode cX2_clear 71 = .ok (.iastore, 1) := by decide +kernel
theorem dX2_clear_72 : decode cX2_clear 72 = .ok (.iinc 1 1, 3) := by decide +kernel
theorem dX2_clear_75 : decode cX2_clear 75 = .ok (.goto (-22), 3) := by decide +kernel
theorem dX2_clear_78 : decode cX2_clear 78 = .ok (.return_, 1) := by decide +kernel
theorem dX2_holdsTogether_0 : decode cX2_holdsTogether 0 = .ok (.aload_n 0, 1) := by decide +kernel
theorem dX2_holdsTogether_1 : decode cX2_holdsTogether 1 = .ok (.getfield 46, 3) := by decide +kernel
theorem dX2_holdsTogether_4 : decode cX2_holdsTogether 4 = .ok (.ifCond .le 29, 3) := by decide +kernel
theorem dX2_holdsTogether_7 : decode cX2_holdsTogether 7 = .ok (.aload_n 0, 1) := by decide +kernel
theorem dX2_holdsTogether_8 : decode cX2_holdsTogether 8 = .ok (.getfield 52, 3) := by decide +kernel
theorem dX2_holdsTogether_11 : decode cX2_holdsTogether 11 = .ok (.aload_n 0, 1) := by decide +kernel
theorem dX2_holdsTogether_12 : decode cX2_holdsTogether 12 = .ok (.getfield 36, 3) := by decide +kernel
theorem dX2_holdsTogether_15 : decode cX2_holdsTogether 15 = .ok (.if_icmp .ge 18, 3) := by decide +kernel
theorem dX2_holdsTogether_18 : decode cX2_holdsTogether 18 = .ok (.aload_n 0, 1) := by decide +kernel
theorem dX2_holdsTogether_19 : decode cX2_holdsTogether 19 = .ok (.getfield 55, 3) := by decide +kernel
theorem dX2_holdsTogether_22 : decode cX2_holdsTogether 22 = .ok (.aload_n 0, 1) := by decide +kernel
theorem dX2_holdsTogether_23 : decode cX2_holdsTogether 23 = .ok (.getfield 49, 3) := by decide +kernel
theorem dX2_holdsTogether_26 : decode cX2_holdsTogether 26 = .ok (.if_icmp .ge 7, 3) := by decide +kernel
theorem dX2_holdsTogether_29 : decode cX2_holdsTogether 29 = .ok (.iconst 1, 1) := by decide +kernel
theorem dX2_holdsTogether_30 : decode cX2_holdsTogether 30 = .ok (.goto 4, 3) := by decide +kernel
theorem dX2_holdsTogether_33 : decode cX2_holdsTogether 33 = .ok (.iconst 0, 1) := by decide +kernel
theorem dX2_holdsTogether_34 : decode cX2_holdsTogether 34 = .ok (.ireturn, 1) := by decide +kernel
theorem dX2_remembersTwo_0 : decode cX2_remembersTwo 0 = .ok (.aload_n 0, 1) := by decide +kernel
theorem dX2_remembersTwo_1 : decode cX2_remembersTwo 1 = .ok (.getfield 40, 3) := by decide +kernel
theorem dX2_remembersTwo_4 : decode cX2_remembersTwo 4 = .ok (.ifCond .eq 11, 3) := by decide +kernel
theorem dX2_remembersTwo_7 : decode cX2_remembersTwo 7 = .ok (.aload_n 0, 1) := by decide +kernel
theorem dX2_remembersTwo_8 : decode cX2_remembersTwo 8 = .ok (.getfield 40, 3) := by decide +kernel
theorem dX2_remembersTwo_11 : decode cX2_remembersTwo 11 = .ok (.iconst 3, 1) := by decide +kernel
theorem dX2_remembersTwo_12 : decode cX2_remembersTwo 12 = .ok (.if_icmp .ne 7, 3) := by decide +kernel
theorem dX2_remembersTwo_15 : decode cX2_remembersTwo 15 = .ok (.iconst 1, 1) := by decide +kernel
theorem dX2_remembersTwo_16 : decode cX2_remembersTwo 16 = .ok (.goto 4, 3) := by decide +kernel
theorem dX2_remembersTwo_19 : decode cX2_remembersTwo 19 = .ok (.iconst 0, 1) := by decide +kernel
theorem dX2_remembersTwo_20 : decode cX2_remembersTwo 20 = .ok (.ireturn, 1) := by decide +kernel
theorem dX2_worthOf_0 : decode cX2_worthOf 0 = .ok (.aload_n 0, 1) := by decide +kernel
theorem dX2_worthOf_1 : decode cX2_worthOf 1 = .ok (.getfield 18, 3) := by decide +kernel
theorem dX2_worthOf_4 : decode cX2_worthOf 4 = .ok (.iload_n 1, 1) := by decide +kernel
theorem dX2_worthOf_5 : decode cX2_worthOf 5 = .ok (.bipush 7, 2) := by decide +kernel
theorem dX2_worthOf_7 : decode cX2_worthOf 7 = .ok (.imul, 1) := by decide +kernel
theorem dX2_worthOf_8 : decode cX2_worthOf 8 = .ok (.iload_n 2, 1) := by decide +kernel
theorem dX2_worthOf_9 : decode cX2_worthOf 9 = .ok (.iadd, 1) := by decide +kernel
theorem dX2_worthOf_10 : decode cX2_worthOf 10 = .ok (.iaload, 1) := by decide +kernel
theorem dX2_worthOf_11 : decode cX2_worthOf 11 = .ok (.ireturn, 1) := by decide +kernel
theorem dX2_askedBack_0 : decode cX2_askedBack 0 = .ok (.aload_n 0, 1) := by decide +kernel
theorem dX2_askedBack_1 : decode cX2_askedBack 1 = .ok (.getfield 43, 3) := by decide +kernel
theorem dX2_askedBack_4 : decode cX2_askedBack 4 = .ok (.iload_n 1, 1) := by decide +kernel
theorem dX2_askedBack_5 : decode cX2_askedBack 5 = .ok (.isub, 1) := by decide +kernel
theorem dX2_askedBack_6 : decode cX2_askedBack 6 = .ok (.istore_n 2, 1) := by decide +kernel
theorem dX2_askedBack_7 : decode cX2_askedBack 7 = .ok (.iload_n 2, 1) := by decide +kernel
theorem dX2_askedBack_8 : decode cX2_askedBack 8 = .ok (.ifCond .lt 20, 3) := by decide +kernel
theorem dX2_askedBack_11 : decode cX2_askedBack 11 = .ok (.iload_n 2, 1) := by decide +kernel
theorem dX2_askedBack_12 : decode cX2_askedBack 12 = .ok (.aload_n 0, 1) := by decide +kernel
theorem dX2_askedBack_13 : decode cX2_askedBack 13 = .ok (.getfield 43, 3) := by decide +kernel
theorem dX2_askedBack_16 : decode cX2_askedBack 16 = .ok (.if_icmp .ge 12, 3) := by decide +kernel
theorem dX2_askedBack_19 : decode cX2_askedBack 19 = .ok (.aload_n 0, 1) := by decide +kernel
theorem dX2_askedBack_20 : decode cX2_askedBack 20 = .ok (.getfield 9, 3) := by decide +kernel
theorem dX2_askedBack_23 : decode cX2_askedBack 23 = .ok (.iload_n 2, 1) := by decide +kernel
theorem dX2_askedBack_24 : decode cX2_askedBack 24 = .ok (.iaload, 1) := by decide +kernel
theorem dX2_askedBack_25 : decode cX2_askedBack 25 = .ok (.goto 5, 3) := by decide +kernel
theorem dX2_askedBack_28 : decode cX2_askedBack 28 = .ok (.bipush 6, 2) := by decide +kernel
theorem dX2_askedBack_30 : decode cX2_askedBack 30 = .ok (.ireturn, 1) := by decide +kernel
theorem dX2_pairAhead_0 : decode cX2_pairAhead 0 = .ok (.aload_n 0, 1) := by decide +kernel
theorem dX2_pairAhead_1 : decode cX2_pairAhead 1 = .ok (.iconst 2, 1) := by decide +kernel
theorem dX2_pairAhead_2 : decode cX2_pairAhead 2 = .ok (.invokevirtual 64, 3) := by decide +kernel
theorem dX2_pairAhead_5 : decode cX2_pairAhead 5 = .ok (.bipush 7, 2) := by decide +kernel
theorem dX2_pairAhead_7 : decode cX2_pairAhead 7 = .ok (.imul, 1) := by decide +kernel
theorem dX2_pairAhead_8 : decode cX2_pairAhead 8 = .ok (.aload_n 0, 1) := by decide +kernel
theorem dX2_pairAhead_9 : decode cX2_pairAhead 9 = .ok (.iconst 1, 1) := by decide +kernel
theorem dX2_pairAhead_10 : decode cX2_pairAhead 10 = .ok (.invokevirtual 64, 3) := by decide +kernel
theorem dX2_pairAhead_13 : decode cX2_pairAhead 13 = .ok (.iadd, 1) := by decide +kernel
theorem dX2_pairAhead_14 : decode cX2_pairAhead 14 = .ok (.ireturn, 1) := by decide +kernel
theorem dX2_isIn_0 : decode cX2_isIn 0 = .ok (.iload_n 1, 1) := by decide +kernel
theorem dX2_isIn_1 : decode cX2_isIn 1 = .ok (.iload_n 2, 1) := by decide +kernel
theorem dX2_isIn_2 : decode cX2_isIn 2 = .ok (.ishr, 1) := by decide +kernel
theorem dX2_isIn_3 : decode cX2_isIn 3 = .ok (.iconst 1, 1) := by decide +kernel
theorem dX2_isIn_4 : decode cX2_isIn 4 = .ok (.iand, 1) := by decide +kernel
theorem dX2_isIn_5 : decode cX2_isIn 5 = .ok (.ifCond .eq 7, 3) := by decide +kernel
theorem dX2_isIn_8 : decode cX2_isIn 8 = .ok (.iconst 1, 1) := by decide +kernel
theorem dX2_isIn_9 : decode cX2_isIn 9 = .ok (.goto 4, 3) := by decide +kernel
theorem dX2_isIn_12 : decode cX2_isIn 12 = .ok (.iconst 0, 1) := by decide +kernel
theorem dX2_isIn_13 : decode cX2_isIn 13 = .ok (.ireturn, 1) := by decide +kernel
theorem dX2_hasBehind_0 : decode cX2_hasBehind 0 = .ok (.aload_n 0, 1) := by decide +kernel
theorem dX2_hasBehind_1 : decode cX2_hasBehind 1 = .ok (.getfield 15, 3) := by decide +kernel
theorem dX2_hasBehind_4 : decode cX2_hasBehind 4 = .ok (.iload_n 2, 1) := by decide +kernel
theorem dX2_hasBehind_5 : decode cX2_hasBehind 5 = .ok (.iaload, 1) := by decide +kernel
theorem dX2_hasBehind_6 : decode cX2_hasBehind 6 = .ok (.istore_n 3, 1) := by decide +kernel
theorem dX2_hasBehind_7 : decode cX2_hasBehind 7 = .ok (.iload_n 1, 1) := by decide +kernel
theorem dX2_hasBehind_8 : decode cX2_hasBehind 8 = .ok (.bipush 7, 2) := by decide +kernel
theorem dX2_hasBehind_10 : decode cX2_hasBehind 10 = .ok (.irem, 1) := by decide +kernel
theorem dX2_hasBehind_11 : decode cX2_hasBehind 11 = .ok (.iload_n 3, 1) := by decide +kernel
theorem dX2_hasBehind_12 : decode cX2_hasBehind 12 = .ok (.if_icmp .eq 18, 3) := by decide +kernel
theorem dX2_hasBehind_15 : decode cX2_hasBehind 15 = .ok (.aload_n 0, 1) := by decide +kernel
theorem dX2_hasBehind_16 : decode cX2_hasBehind 16 = .ok (.getfield 40, 3) := by decide +kernel
theorem dX2_hasBehind_19 : decode cX2_hasBehind 19 = .ok (.ifCond .ne 15, 3) := by decide +kernel
theorem dX2_hasBehind_22 : decode cX2_hasBehind 22 = .ok (.iload_n 1, 1) := by decide +kernel
theorem dX2_hasBehind_23 : decode cX2_hasBehind 23 = .ok (.bipush 7, 2) := by decide +kernel
theorem dX2_hasBehind_25 : decode cX2_hasBehind 25 = .ok (.idiv, 1) := by decide +kernel
theorem dX2_hasBehind_26 : decode cX2_hasBehind 26 = .ok (.iload_n 3, 1) := by decide +kernel
theorem dX2_hasBehind_27 : decode cX2_hasBehind 27 = .ok (.if_icmp .ne 7, 3) := by decide +kernel
theorem dX2_hasBehind_30 : decode cX2_hasBehind 30 = .ok (.iconst 1, 1) := by decide +kernel
theorem dX2_hasBehind_31 : decode cX2_hasBehind 31 = .ok (.goto 4, 3) := by decide +kernel
theorem dX2_hasBehind_34 : decode cX2_hasBehind 34 = .ok (.iconst 0, 1) := by decide +kernel
theorem dX2_hasBehind_35 : decode cX2_hasBehind 35 = .ok (.ireturn, 1) := by decide +kernel
theorem dX2_setThings_0 : decode cX2_setThings 0 = .ok (.aload_n 0, 1) := by decide +kernel
theorem dX2_setThings_1 : decode cX2_setThings 1 = .ok (.iload_n 1, 1) := by decide +kernel
theorem dX2_setThings_2 : decode cX2_setThings 2 = .ok (.putfield 36, 3) := by decide +kernel
theorem dX2_setThings_5 : decode cX2_setThings 5 = .ok (.iload_n 1, 1) := by decide +kernel
theorem dX2_setThings_6 : decode cX2_setThings 6 = .ok (.iconst 2, 1) := by decide +kernel
theorem dX2_setThings_7 : decode cX2_setThings 7 = .ok (.bipush 6, 2) := by decide +kernel
theorem dX2_setThings_9 : decode cX2_setThings 9 = .ok (.invokestatic 68, 3) := by decide +kernel
theorem dX2_setThings_12 : decode cX2_setThings 12 = .ok (.ireturn, 1) := by decide +kernel
theorem dX2_setKind_0 : decode cX2_setKind 0 = .ok (.aload_n 0, 1) := by decide +kernel
theorem dX2_setKind_1 : decode cX2_setKind 1 = .ok (.iload_n 1, 1) := by decide +kernel
theorem dX2_setKind_2 : decode cX2_setKind 2 = .ok (.putfield 40, 3) := by decide +kernel
theorem dX2_setKind_5 : decode cX2_setKind 5 = .ok (.iload_n 1, 1) := by decide +kernel
theorem dX2_setKind_6 : decode cX2_setKind 6 = .ok (.iconst 0, 1) := by decide +kernel
theorem dX2_setKind_7 : decode cX2_setKind 7 = .ok (.iconst 3, 1) := by decide +kernel
theorem dX2_setKind_8 : decode cX2_setKind 8 = .ok (.invokestatic 68, 3) := by decide +kernel
theorem dX2_setKind_11 : decode cX2_setKind 11 = .ok (.ireturn, 1) := by decide +kernel
theorem dX2_addAsked_0 : decode cX2_addAsked 0 = .ok (.aload_n 0, 1) := by decide +kernel
theorem dX2_addAsked_1 : decode cX2_addAsked 1 = .ok (.iload_n 1, 1) := by decide +kernel
theorem dX2_addAsked_2 : decode cX2_addAsked 2 = .ok (.invokevirtual 72, 3) := by decide +kernel
theorem dX2_addAsked_5 : decode cX2_addAsked 5 = .ok (.ifCond .eq 12, 3) := by decide +kernel
theorem dX2_addAsked_8 : decode cX2_addAsked 8 = .ok (.aload_n 0, 1) := by decide +kernel
theorem dX2_addAsked_9 : decode cX2_addAsked 9 = .ok (.getfield 43, 3) := by decide +kernel
theorem dX2_addAsked_12 : decode cX2_addAsked 12 = .ok (.bipush 6, 2) := by decide +kernel
theorem dX2_addAsked_14 : decode cX2_addAsked 14 = .ok (.if_icmp .lt 5, 3) := by decide +kernel
theorem dX2_addAsked_17 : decode cX2_addAsked 17 = .ok (.iconst 0, 1) := by decide +kernel
theorem dX2_addAsked_18 : decode cX2_addAsked 18 = .ok (.ireturn, 1) := by decide +kernel
theorem dX2_addAsked_19 : decode cX2_addAsked 19 = .ok (.aload_n 0, 1) := by decide +kernel
theorem dX2_addAsked_20 : decode cX2_addAsked 20 = .ok (.getfield 9, 3) := by decide +kernel
theorem dX2_addAsked_23 : decode cX2_addAsked 23 = .ok (.aload_n 0, 1) := by decide +kernel
theorem dX2_addAsked_24 : decode cX2_addAsked 24 = .ok (.getfield 43, 3) := by decide +kernel
theorem dX2_addAsked_27 : decode cX2_addAsked 27 = .ok (.iload_n 1, 1) := by decide +kernel
theorem dX2_addAsked_28 : decode cX2_addAsked 28 = .ok (.iastore, 1) := by decide +kernel
theorem dX2_addAsked_29 : decode cX2_addAsked 29 = .ok (.aload_n 0, 1) := by decide +kernel
theorem dX2_addAsked_30 : decode cX2_addAsked 30 = .ok (.dup, 1) := by decide +kernel
theorem dX2_addAsked_31 : decode cX2_addAsked 31 = .ok (.getfield 43, 3) := by decide +kernel
theorem dX2_addAsked_34 : decode cX2_addAsked 34 = .ok (.iconst 1, 1) := by decide +kernel
theorem dX2_addAsked_35 : decode cX2_addAsked 35 = .ok (.iadd, 1) := by decide +kernel
theorem dX2_addAsked_36 : decode cX2_addAsked 36 = .ok (.putfield 43, 3) := by decide +kernel
theorem dX2_addAsked_39 : decode cX2_addAsked 39 = .ok (.iconst 1, 1) := by decide +kernel
theorem dX2_addAsked_40 : decode cX2_addAsked 40 = .ok (.ireturn, 1) := by decide +kernel
theorem dX2_addWish_0 : decode cX2_addWish 0 = .ok (.aload_n 0, 1) := by decide +kernel
theorem dX2_addWish_1 : decode cX2_addWish 1 = .ok (.iload_n 1, 1) := by decide +kernel
theorem dX2_addWish_2 : decode cX2_addWish 2 = .ok (.invokevirtual 72, 3) := by decide +kernel
theorem dX2_addWish_5 : decode cX2_addWish 5 = .ok (.ifCond .eq 12, 3) := by decide +kernel
theorem dX2_addWish_8 : decode cX2_addWish 8 = .ok (.aload_n 0, 1) := by decide +kernel
theorem dX2_addWish_9 : decode cX2_addWish 9 = .ok (.getfield 46, 3) := by decide +kernel
theorem dX2_addWish_12 : decode cX2_addWish 12 = .ok (.bipush 10, 2) := by decide +kernel
theorem dX2_addWish_14 : decode cX2_addWish 14 = .ok (.if_icmp .lt 5, 3) := by decide +kernel
theorem dX2_addWish_17 : decode cX2_addWish 17 = .ok (.iconst 0, 1) := by decide +kernel
theorem dX2_addWish_18 : decode cX2_addWish 18 = .ok (.ireturn, 1) := by decide +kernel
theorem dX2_addWish_19 : decode cX2_addWish 19 = .ok (.aload_n 0, 1) := by decide +kernel
theorem dX2_addWish_20 : decode cX2_addWish 20 = .ok (.getfield 15, 3) := by decide +kernel
theorem dX2_addWish_23 : decode cX2_addWish 23 = .ok (.aload_n 0, 1) := by decide +kernel
theorem dX2_addWish_24 : decode cX2_addWish 24 = .ok (.getfield 46, 3) := by decide +kernel
theorem dX2_addWish_27 : decode cX2_addWish 27 = .ok (.iload_n 1, 1) := by decide +kernel
theorem dX2_addWish_28 : decode cX2_addWish 28 = .ok (.iastore, 1) := by decide +kernel
theorem dX2_addWish_29 : decode cX2_addWish 29 = .ok (.aload_n 0, 1) := by decide +kernel
theorem dX2_addWish_30 : decode cX2_addWish 30 = .ok (.dup, 1) := by decide +kernel
theorem dX2_addWish_31 : decode cX2_addWish 31 = .ok (.getfield 46, 3) := by decide +kernel
theorem dX2_addWish_34 : decode cX2_addWish 34 = .ok (.iconst 1, 1) := by decide +kernel
theorem dX2_addWish_35 : decode cX2_addWish 35 = .ok (.iadd, 1) := by decide +kernel
theorem dX2_addWish_36 : decode cX2_addWish 36 = .ok (.putfield 46, 3) := by decide +kernel
theorem dX2_addWish_39 : decode cX2_addWish 39 = .ok (.iconst 1, 1) := by decide +kernel
theorem dX2_addWish_40 : decode cX2_addWish 40 = .ok (.ireturn, 1) := by decide +kernel
theorem dX2_setWorth_0 : decode cX2_setWorth 0 = .ok (.aload_n 0, 1) := by decide +kernel
theorem dX2_setWorth_1 : decode cX2_setWorth 1 = .ok (.iload_n 1, 1) := by decide +kernel
theorem dX2_setWorth_2 : decode cX2_setWorth 2 = .ok (.invokevirtual 72, 3) := by decide +kernel
theorem dX2_setWorth_5 : decode cX2_setWorth 5 = .ok (.ifCond .eq 21, 3) := by decide +kernel
theorem dX2_setWorth_8 : decode cX2_setWorth 8 = .ok (.aload_n 0, 1) := by decide +kernel
theorem dX2_setWorth_9 : decode cX2_setWorth 9 = .ok (.iload_n 2, 1) := by decide +kernel
theorem dX2_setWorth_10 : decode cX2_setWorth 10 = .ok (.invokevirtual 76, 3) := by decide +kernel
theorem dX2_setWorth_13 : decode cX2_setWorth 13 = .ok (.ifCond .eq 13, 3) := by decide +kernel
theorem dX2_setWorth_16 : decode cX2_setWorth 16 = .ok (.iload_n 3, 1) := by decide +kernel
theorem dX2_setWorth_17 : decode cX2_setWorth 17 = .ok (.iconst 0, 1) := by decide +kernel
theorem dX2_setWorth_18 : decode cX2_setWorth 18 = .ok (.bipush 9, 2) := by decide +kernel
theorem dX2_setWorth_20 : decode cX2_setWorth 20 = .ok (.invokestatic 68, 3) := by decide +kernel
theorem dX2_setWorth_23 : decode cX2_setWorth 23 = .ok (.ifCond .ne 5, 3) := by decide +kernel
theorem dX2_setWorth_26 : decode cX2_setWorth 26 = .ok (.iconst 0, 1) := by decide +kernel
theorem dX2_setWorth_27 : decode cX2_setWorth 27 = .ok (.ireturn, 1) := by decide +kernel
theorem dX2_setWorth_28 : decode cX2_setWorth 28 = .ok (.aload_n 0, 1) := by decide +kernel
theorem dX2_setWorth_29 : decode cX2_setWorth 29 = .ok (.getfield 18, 3) := by decide +kernel
theorem dX2_setWorth_32 : decode cX2_setWorth 32 = .ok (.iload_n 1, 1) := by decide +kernel
theorem dX2_setWorth_33 : decode cX2_setWorth 33 = .ok (.bipush 7, 2) := by decide +kernel
theorem dX2_setWorth_35 : decode cX2_setWorth 35 = .ok (.imul, 1) := by decide +kernel
theorem dX2_setWorth_36 : decode cX2_setWorth 36 = .ok (.iload_n 2, 1) := by decide +kernel
theorem dX2_setWorth_37 : decode cX2_setWorth 37 = .ok (.iadd, 1) := by decide +kernel
theorem dX2_setWorth_38 : decode cX2_setWorth 38 = .ok (.iload_n 3, 1) := by decide +kernel
theorem dX2_setWorth_39 : decode cX2_setWorth 39 = .ok (.iastore, 1) := by decide +kernel
theorem dX2_setWorth_40 : decode cX2_setWorth 40 = .ok (.iconst 1, 1) := by decide +kernel
theorem dX2_setWorth_41 : decode cX2_setWorth 41 = .ok (.ireturn, 1) := by decide +kernel
theorem dX2_setParts_0 : decode cX2_setParts 0 = .ok (.aload_n 0, 1) := by decide +kernel
theorem dX2_setParts_1 : decode cX2_setParts 1 = .ok (.iload_n 1, 1) := by decide +kernel
theorem dX2_setParts_2 : decode cX2_setParts 2 = .ok (.invokevirtual 72, 3) := by decide +kernel
theorem dX2_setParts_5 : decode cX2_setParts 5 = .ok (.ifCond .eq 13, 3) := by decide +kernel
theorem dX2_setParts_8 : decode cX2_setParts 8 = .ok (.iload_n 2, 1) := by decide +kernel
theorem dX2_setParts_9 : decode cX2_setParts 9 = .ok (.iconst 0, 1) := by decide +kernel
theorem dX2_setParts_10 : decode cX2_setParts 10 = .ok (.bipush 9, 2) := by decide +kernel
theorem dX2_setParts_12 : decode cX2_setParts 12 = .ok (.invokestatic 68, 3) := by decide +kernel
theorem dX2_setParts_15 : decode cX2_setParts 15 = .ok (.ifCond .ne 5, 3) := by decide +kernel
theorem dX2_setParts_18 : decode cX2_setParts 18 = .ok (.iconst 0, 1) := by decide +kernel
theorem dX2_setParts_19 : decode cX2_setParts 19 = .ok (.ireturn, 1) := by decide +kernel
theorem dX2_setParts_20 : decode cX2_setParts 20 = .ok (.aload_n 0, 1) := by decide +kernel
theorem dX2_setParts_21 : decode cX2_setParts 21 = .ok (.getfield 21, 3) := by decide +kernel
theorem dX2_setParts_24 : decode cX2_setParts 24 = .ok (.iload_n 1, 1) := by decide +kernel
theorem dX2_setParts_25 : decode cX2_setParts 25 = .ok (.iload_n 2, 1) := by decide +kernel
theorem dX2_setParts_26 : decode cX2_setParts 26 = .ok (.iastore, 1) := by decide +kernel
theorem dX2_setParts_27 : decode cX2_setParts 27 = .ok (.iconst 1, 1) := by decide +kernel
theorem dX2_setParts_28 : decode cX2_setParts 28 = .ok (.ireturn, 1) := by decide +kernel
theorem dX2_addPost_0 : decode cX2_addPost 0 = .ok (.iload_n 1, 1) := by decide +kernel
theorem dX2_addPost_1 : decode cX2_addPost 1 = .ok (.iconst 0, 1) := by decide +kernel
theorem dX2_addPost_2 : decode cX2_addPost 2 = .ok (.iconst 5, 1) := by decide +kernel
theorem dX2_addPost_3 : decode cX2_addPost 3 = .ok (.invokestatic 68, 3) := by decide +kernel
theorem dX2_addPost_6 : decode cX2_addPost 6 = .ok (.ifCond .eq 12, 3) := by decide +kernel
theorem dX2_addPost_9 : decode cX2_addPost 9 = .ok (.aload_n 0, 1) := by decide +kernel
theorem dX2_addPost_10 : decode cX2_addPost 10 = .ok (.getfield 49, 3) := by decide +kernel
theorem dX2_addPost_13 : decode cX2_addPost 13 = .ok (.bipush 6, 2) := by decide +kernel
theorem dX2_addPost_15 : decode cX2_addPost 15 = .ok (.if_icmp .lt 5, 3) := by decide +kernel
theorem dX2_addPost_18 : decode cX2_addPost 18 = .ok (.iconst 0, 1) := by decide +kernel
theorem dX2_addPost_19 : decode cX2_addPost 19 = .ok (.ireturn, 1) := by decide +kernel
theorem dX2_addPost_20 : decode cX2_addPost 20 = .ok (.aload_n 0, 1) := by decide +kernel
theorem dX2_addPost_21 : decode cX2_addPost 21 = .ok (.iload_n 2, 1) := by decide +kernel
theorem dX2_addPost_22 : decode cX2_addPost 22 = .ok (.invokevirtual 76, 3) := by decide +kernel
theorem dX2_addPost_25 : decode cX2_addPost 25 = .ok (.ifCond .eq 20, 3) := by decide +kernel
theorem dX2_addPost_28 : decode cX2_addPost 28 = .ok (.aload_n 0, 1) := by decide +kernel
theorem dX2_addPost_29 : decode cX2_addPost 29 = .ok (.iload_n 3, 1) := by decide +kernel
theorem dX2_addPost_30 : decode cX2_addPost 30 = .ok (.invokevirtual 76, 3) := by decide +kernel
theorem dX2_addPost_33 : decode cX2_addPost 33 = .ok (.ifCond .eq 12, 3) := by decide +kernel
theorem dX2_addPost_36 : decode cX2_addPost 36 = .ok (.aload_n 0, 1) := by decide +kernel
theorem dX2_addPost_37 : decode cX2_addPost 37 = .ok (.iload 4, 2) := by decide +kernel
theorem dX2_addPost_39 : decode cX2_addPost 39 = .ok (.invokevirtual 76, 3) := by decide +kernel
theorem dX2_addPost_42 : decode cX2_addPost 42 = .ok (.ifCond .ne 5, 3) := by decide +kernel
theorem dX2_addPost_45 : decode cX2_addPost 45 = .ok (.iconst 0, 1) := by decide +kernel
theorem dX2_addPost_46 : decode cX2_addPost 46 = .ok (.ireturn, 1) := by decide +kernel
theorem dX2_addPost_47 : decode cX2_addPost 47 = .ok (.aload_n 0, 1) := by decide +kernel
theorem dX2_addPost_48 : decode cX2_addPost 48 = .ok (.getfield 24, 3) := by decide +kernel
theorem dX2_addPost_51 : decode cX2_addPost 51 = .ok (.aload_n 0, 1) := by decide +kernel
theorem dX2_addPost_52 : decode cX2_addPost 52 = .ok (.getfield 49, 3) := by decide +kernel
theorem dX2_addPost_55 : decode cX2_addPost 55 = .ok (.iload_n 1, 1) := by decide +kernel
theorem dX2_addPost_56 : decode cX2_addPost 56 = .ok (.iastore, 1) := by decide +kernel
theorem dX2_addPost_57 : decode cX2_addPost 57 = .ok (.aload_n 0, 1) := by decide +kernel
theorem dX2_addPost_58 : decode cX2_addPost 58 = .ok (.getfield 27, 3) := by decide +kernel
theorem dX2_addPost_61 : decode cX2_addPost 61 = .ok (.aload_n 0, 1) := by decide +kernel
theorem dX2_addPost_62 : decode cX2_addPost 62 = .ok (.getfield 49, 3) := by decide +kernel
theorem dX2_addPost_65 : decode cX2_addPost 65 = .ok (.iload_n 2, 1) := by decide +kernel
theorem dX2_addPost_66 : decode cX2_addPost 66 = .ok (.iastore, 1) := by decide +kernel
theorem dX2_addPost_67 : decode cX2_addPost 67 = .ok (.aload_n 0, 1) := by decide +kernel
theorem dX2_addPost_68 : decode cX2_addPost 68 = .ok (.getfield 30, 3) := by decide +kernel
theorem dX2_addPost_71 : decode cX2_addPost 71 = .ok (.aload_n 0, 1) := by decide +kernel
theorem dX2_addPost_72 : decode cX2_addPost 72 = .ok (.getfield 49, 3) := by decide +kernel
theorem dX2_addPost_75 : decode cX2_addPost 75 = .ok (.iload_n 3, 1) := by decide +kernel
theorem dX2_addPost_76 : decode cX2_addPost 76 = .ok (.iastore, 1) := by decide +kernel
theorem dX2_addPost_77 : decode cX2_addPost 77 = .ok (.aload_n 0, 1) := by decide +kernel
theorem dX2_addPost_78 : decode cX2_addPost 78 = .ok (.getfield 33, 3) := by decide +kernel
theorem dX2_addPost_81 : decode cX2_addPost 81 = .ok (.aload_n 0, 1) := by decide +kernel
theorem dX2_addPost_82 : decode cX2_addPost 82 = .ok (.getfield 49, 3) := by decide +kernel
theorem dX2_addPost_85 : decode cX2_addPost 85 = .ok (.iload 4, 2) := by decide +kernel
theorem dX2_addPost_87 : decode cX2_addPost 87 = .ok (.iastore, 1) := by decide +kernel
theorem dX2_addPost_88 : decode cX2_addPost 88 = .ok (.aload_n 0, 1) := by decide +kernel
theorem dX2_addPost_89 : decode cX2_addPost 89 = .ok (.dup, 1) := by decide +kernel
theorem dX2_addPost_90 : decode cX2_addPost 90 = .ok (.getfield 49, 3) := by decide +kernel
theorem dX2_addPost_93 : decode cX2_addPost 93 = .ok (.iconst 1, 1) := by decide +kernel
theorem dX2_addPost_94 : decode cX2_addPost 94 = .ok (.iadd, 1) := by decide +kernel
theorem dX2_addPost_95 : decode cX2_addPost 95 = .ok (.putfield 49, 3) := by decide +kernel
theorem dX2_addPost_98 : decode cX2_addPost 98 = .ok (.aload_n 0, 1) := by decide +kernel
theorem dX2_addPost_99 : decode cX2_addPost 99 = .ok (.aload_n 0, 1) := by decide +kernel
theorem dX2_addPost_100 : decode cX2_addPost 100 = .ok (.getfield 55, 3) := by decide +kernel
theorem dX2_addPost_103 : decode cX2_addPost 103 = .ok (.iload_n 1, 1) := by decide +kernel
theorem dX2_addPost_104 : decode cX2_addPost 104 = .ok (.invokestatic 79, 3) := by decide +kernel
theorem dX2_addPost_107 : decode cX2_addPost 107 = .ok (.putfield 55, 3) := by decide +kernel
theorem dX2_addPost_110 : decode cX2_addPost 110 = .ok (.iconst 1, 1) := by decide +kernel
theorem dX2_addPost_111 : decode cX2_addPost 111 = .ok (.ireturn, 1) := by decide +kernel
theorem dX2_noteThing_0 : decode cX2_noteThing 0 = .ok (.iload_n 1, 1) := by decide +kernel
theorem dX2_noteThing_1 : decode cX2_noteThing 1 = .ok (.iconst 0, 1) := by decide +kernel
theorem dX2_noteThing_2 : decode cX2_noteThing 2 = .ok (.iconst 5, 1) := by decide +kernel
theorem dX2_noteThing_3 : decode cX2_noteThing 3 = .ok (.invokestatic 68, 3) := by decide +kernel
theorem dX2_noteThing_6 : decode cX2_noteThing 6 = .ok (.ifCond .ne 5, 3) := by decide +kernel
theorem dX2_noteThing_9 : decode cX2_noteThing 9 = .ok (.iconst 0, 1) := by decide +kernel
theorem dX2_noteThing_10 : decode cX2_noteThing 10 = .ok (.ireturn, 1) := by decide +kernel
theorem dX2_noteThing_11 : decode cX2_noteThing 11 = .ok (.aload_n 0, 1) := by decide +kernel
theorem dX2_noteThing_12 : decode cX2_noteThing 12 = .ok (.aload_n 0, 1) := by decide +kernel
theorem dX2_noteThing_13 : decode cX2_noteThing 13 = .ok (.getfield 52, 3) := by decide +kernel
theorem dX2_noteThing_16 : decode cX2_noteThing 16 = .ok (.iload_n 1, 1) := by decide +kernel
theorem dX2_noteThing_17 : decode cX2_noteThing 17 = .ok (.invokestatic 79, 3) := by decide +kernel
theorem dX2_noteThing_20 : decode cX2_noteThing 20 = .ok (.putfield 52, 3) := by decide +kernel
theorem dX2_noteThing_23 : decode cX2_noteThing 23 = .ok (.iconst 1, 1) := by decide +kernel
theorem dX2_noteThing_24 : decode cX2_noteThing 24 = .ok (.ireturn, 1) := by decide +kernel
theorem dX2_noteSign_0 : decode cX2_noteSign 0 = .ok (.iload_n 1, 1) := by decide +kernel
theorem dX2_noteSign_1 : decode cX2_noteSign 1 = .ok (.bipush 6, 2) := by decide +kernel
theorem dX2_noteSign_3 : decode cX2_noteSign 3 = .ok (.if_icmp .eq 11, 3) := by decide +kernel
theorem dX2_noteSign_6 : decode cX2_noteSign 6 = .ok (.aload_n 0, 1) := by decide +kernel
theorem dX2_noteSign_7 : decode cX2_noteSign 7 = .ok (.iload_n 1, 1) := by decide +kernel
theorem dX2_noteSign_8 : decode cX2_noteSign 8 = .ok (.invokevirtual 72, 3) := by decide +kernel
theorem dX2_noteSign_11 : decode cX2_noteSign 11 = .ok (.ifCond .eq 7, 3) := by decide +kernel
theorem dX2_noteSign_14 : decode cX2_noteSign 14 = .ok (.iconst 1, 1) := by decide +kernel
theorem dX2_noteSign_15 : decode cX2_noteSign 15 = .ok (.goto 4, 3) := by decide +kernel
theorem dX2_noteSign_18 : decode cX2_noteSign 18 = .ok (.iconst 0, 1) := by decide +kernel
theorem dX2_noteSign_19 : decode cX2_noteSign 19 = .ok (.ireturn, 1) := by decide +kernel
theorem dX3_init_0 : decode cX3_init 0 = .ok (.aload_n 0, 1) := by decide +kernel
theorem dX3_init_1 : decode cX3_init 1 = .ok (.invokespecial 3, 3) := by decide +kernel
theorem dX3_init_4 : decode cX3_init 4 = .ok (.aload_n 0, 1) := by decide +kernel
theorem dX3_init_5 : decode cX3_init 5 = .ok (.bipush 10, 2) := by decide +kernel
theorem dX3_init_7 : decode cX3_init 7 = .ok (.newarray .int, 2) := by decide +kernel
theorem dX3_init_9 : decode cX3_init 9 = .ok (.putfield 9, 3) := by decide +kernel
theorem dX3_init_12 : decode cX3_init 12 = .ok (.aload_n 0, 1) := by decide +kernel
theorem dX3_init_13 : decode cX3_init 13 = .ok (.bipush 10, 2) := by decide +kernel
theorem dX3_init_15 : decode cX3_init 15 = .ok (.newarray .int, 2) := by decide +kernel
theorem dX3_init_17 : decode cX3_init 17 = .ok (.putfield 15, 3) := by decide +kernel
theorem dX3_init_20 : decode cX3_init 20 = .ok (.aload_n 0, 1) := by decide +kernel
theorem dX3_init_21 : decode cX3_init 21 = .ok (.bipush 16, 2) := by decide +kernel
theorem dX3_init_23 : decode cX3_init 23 = .ok (.newarray .int, 2) := by decide +kernel
theorem dX3_init_25 : decode cX3_init 25 = .ok (.putfield 18, 3) := by decide +kernel
theorem dX3_init_28 : decode cX3_init 28 = .ok (.return_, 1) := by decide +kernel
theorem dX3_comeAsWished_0 : decode cX3_comeAsWished 0 = .ok (.aload_n 0, 1) := by decide +kernel
theorem dX3_comeAsWished_1 : decode cX3_comeAsWished 1 = .ok (.aload_n 1, 1) := by decide +kernel
theorem dX3_comeAsWished_2 : decode cX3_comeAsWished 2 = .ok (.invokevirtual 21, 3) := by decide +kernel
theorem dX3_comeAsWished_5 : decode cX3_comeAsWished 5 = .ok (.iconst 0, 1) := by decide +kernel
theorem dX3_comeAsWished_6 : decode cX3_comeAsWished 6 = .ok (.istore_n 3, 1) := by decide +kernel
theorem dX3_comeAsWished_7 : decode cX3_comeAsWished 7 = .ok (.iload_n 3, 1) := by decide +kernel
theorem dX3_comeAsWished_8 : decode cX3_comeAsWished 8 = .ok (.aload_n 1, 1) := by decide +kernel
theorem dX3_comeAsWished_9 : decode cX3_comeAsWished 9 = .ok (.getfield 25, 3) := by decide +kernel
theorem dX3_comeAsWished_12 : decode cX3_comeAsWished 12 = .ok (.if_icmp .ge 60, 3) := by decide +kernel
theorem dX3_comeAsWished_15 : decode cX3_comeAsWished 15 = .ok (.aload_n 1, 1) := by decide +kernel
theorem dX3_comeAsWished_16 : decode cX3_comeAsWished 16 = .ok (.getfield 31, 3) := by decide +kernel
theorem dX3_comeAsWished_19 : decode cX3_comeAsWished 19 = .ok (.iload_n 3, 1) := by decide +kernel
theorem dX3_comeAsWished_20 : decode cX3_comeAsWished 20 = .ok (.iadd, 1) := by decide +kernel
theorem dX3_comeAsWished_21 : decode cX3_comeAsWished 21 = .ok (.istore 4, 2) := by decide +kernel
theorem dX3_comeAsWished_23 : decode cX3_comeAsWished 23 = .ok (.aload_n 0, 1) := by decide +kernel
theorem dX3_comeAsWished_24 : decode cX3_comeAsWished 24 = .ok (.getfield 9, 3) := by decide +kernel
theorem dX3_comeAsWished_27 : decode cX3_comeAsWished 27 = .ok (.iload_n 3, 1) := by decide +kernel
theorem dX3_comeAsWished_28 : decode cX3_comeAsWished 28 = .ok (.aload_n 1, 1) := by decide +kernel
theorem dX3_comeAsWished_29 : decode cX3_comeAsWished 29 = .ok (.getfield 34, 3) := by decide +kernel
theorem dX3_comeAsWished_32 : decode cX3_comeAsWished 32 = .ok (.iload_n 3, 1) := by decide +kernel
theorem dX3_comeAsWished_33 : decode cX3_comeAsWished 33 = .ok (.iaload, 1) := by decide +kernel
theorem dX3_comeAsWished_34 : decode cX3_comeAsWished 34 = .ok (.iastore, 1) := by decide +kernel
theorem dX3_comeAsWished_35 : decode cX3_comeAsWished 35 = .ok (.aload_n 0, 1) := by decide +kernel
theorem dX3_comeAsWished_36 : decode cX3_comeAsWished 36 = .ok (.getfield 18, 3) := by decide +kernel
theorem dX3_comeAsWished_39 : decode cX3_comeAsWished 39 = .ok (.iload 4, 2) := by decide +kernel
theorem dX3_comeAsWished_41 : decode cX3_comeAsWished 41 = .ok (.aload_n 0, 1) := by decide +kernel
theorem dX3_comeAsWished_42 : decode cX3_comeAsWished 42 = .ok (.getfield 9, 3) := by decide +kernel
theorem dX3_comeAsWished_45 : decode cX3_comeAsWished 45 = .ok (.iload_n 3, 1) := by decide +kernel
theorem dX3_comeAsWished_46 : decode cX3_comeAsWished 46 = .ok (.iaload, 1) := by decide +kernel
theorem dX3_comeAsWished_47 : decode cX3_comeAsWished 47 = .ok (.iastore, 1) := by decide +kernel
theorem dX3_comeAsWished_48 : decode cX3_comeAsWished 48 = .ok (.aload_n 0, 1) := by decide +kernel
theorem dX3_comeAsWished_49 : decode cX3_comeAsWished 49 = .ok (.getfield 15, 3) := by decide +kernel
theorem dX3_comeAsWished_52 : decode cX3_comeAsWished 52 = .ok (.iload_n 3, 1) := by decide +kernel
theorem dX3_comeAsWished_53 : decode cX3_comeAsWished 53 = .ok (.iload_n 2, 1) := by decide +kernel
theorem dX3_comeAsWished_54 : decode cX3_comeAsWished 54 = .ok (.aload_n 0, 1) := by decide +kernel
theorem dX3_comeAsWished_55 : decode cX3_comeAsWished 55 = .ok (.getfield 18, 3) := by decide +kernel
theorem dX3_comeAsWished_58 : decode cX3_comeAsWished 58 = .ok (.iload 4, 2) := by decide +kernel
theorem dX3_comeAsWished_60 : decode cX3_comeAsWished 60 = .ok (.iconst 1, 1) := by decide +kernel
theorem dX3_comeAsWished_61 : decode cX3_comeAsWished 61 = .ok (.iadd, 1) := by decide +kernel
theorem dX3_comeAsWished_62 : decode cX3_comeAsWished 62 = .ok (.invokestatic 37, 3) := by decide +kernel
theorem dX3_comeAsWished_65 : decode cX3_comeAsWished 65 = .ok (.iastore, 1) := by decide +kernel
theorem dX3_comeAsWished_66 : decode cX3_comeAsWished 66 = .ok (.iinc 3 1, 3) := by decide +kernel
theorem dX3_comeAsWished_69 : decode cX3_comeAsWished 69 = .ok (.goto (-62), 3) := by decide +kernel
theorem dX3_comeAsWished_72 : decode cX3_comeAsWished 72 = .ok (.return_, 1) := by decide +kernel
theorem dX3_comeForThemselves_0 : decode cX3_comeForThemselves 0 = .ok (.aload_n 0, 1) := by decide +kernel
theorem dX3_comeForThemselves_1 : decode cX3_comeForThemselves 1 = .ok (.aload_n 1, 1) := by decide +kernel
theorem dX3_comeForThemselves_2 : decode cX3_comeForThemselves 2 = .ok (.invokevirtual 21, 3) := by decide +kernel
theorem dX3_comeForThemselves_5 : decode cX3_comeForThemselves 5 = .ok (.iconst 0, 1) := by decide +kernel
theorem dX3_comeForThemselves_6 : decode cX3_comeForThemselves 6 = .ok (.istore_n 2, 1) := by decide +kernel
theorem dX3_comeForThemselves_7 : decode cX3_comeForThemselves 7 = .ok (.iload_n 2, 1) := by decide +kernel
theorem dX3_comeForThemselves_8 : decode cX3_comeForThemselves 8 = .ok (.aload_n 1, 1) := by decide +kernel
theorem dX3_comeForThemselves_9 : decode cX3_comeForThemselves 9 = .ok (.getfield 25, 3) := by decide +kernel
theorem dX3_comeForThemselves_12 : decode cX3_comeForThemselves 12 = .ok (.if_icmp .ge 66, 3) := by decide +kernel
theorem dX3_comeForThemselves_15 : decode cX3_comeForThemselves 15 = .ok (.aload_n 1, 1) := by decide +kernel
theorem dX3_comeForThemselves_16 : decode cX3_comeForThemselves 16 = .ok (.getfield 31, 3) := by decide +kernel
theorem dX3_comeForThemselves_19 : decode cX3_comeForThemselves 19 = .ok (.iload_n 2, 1) := by decide +kernel
theorem dX3_comeForThemselves_20 : decode cX3_comeForThemselves 20 = .ok (.iadd, 1) := by decide +kernel
theorem dX3_comeForThemselves_21 : decode cX3_comeForThemselves 21 = .ok (.istore_n 3, 1) := by decide +kernel
theorem dX3_comeForThemselves_22 : decode cX3_comeForThemselves 22 = .ok (.aload_n 0, 1) := by decide +kernel
theorem dX3_comeForThemselves_23 : decode cX3_comeForThemselves 23 = .ok (.getfield 9, 3) := by decide +kernel
theorem dX3_comeForThemselves_26 : decode cX3_comeForThemselves 26 = .ok (.iload_n 2, 1) := by decide +kernel
theorem dX3_comeForThemselves_27 : decode cX3_comeForThemselves 27 = .ok (.aload_n 0, 1) := by decide +kernel
theorem dX3_comeForThemselves_28 : decode cX3_comeForThemselves 28 = .ok (.aload_n 1, 1) := by decide +kernel
theorem dX3_comeForThemselves_29 : decode cX3_comeForThemselves 29 = .ok (.iload_n 3, 1) := by decide +kernel
theorem dX3_comeForThemselves_30 : decode cX3_comeForThemselves 30 = .ok (.aload_n 1, 1) := by decide +kernel
theorem dX3_comeForThemselves_31 : decode cX3_comeForThemselves 31 = .ok (.getfield 34, 3) := by decide +kernel
theorem dX3_comeForThemselves_34 : decode cX3_comeForThemselves 34 = .ok (.iload_n 2, 1) := by decide +kernel
theorem dX3_comeForThemselves_35 : decode cX3_comeForThemselves 35 = .ok (.iaload, 1) := by decide +kernel
theorem dX3_comeForThemselves_36 : decode cX3_comeForThemselves 36 = .ok (.invokevirtual 41, 3) := by decide +kernel
theorem dX3_comeForThemselves_39 : decode cX3_comeForThemselves 39 = .ok (.iastore, 1) := by decide +kernel
theorem dX3_comeForThemselves_40 : decode cX3_comeForThemselves 40 = .ok (.aload_n 0, 1) := by decide +kernel
theorem dX3_comeForThemselves_41 : decode cX3_comeForThemselves 41 = .ok (.getfield 18, 3) := by decide +kernel
theorem dX3_comeForThemselves_44 : decode cX3_comeForThemselves 44 = .ok (.iload_n 3, 1) := by decide +kernel
theorem dX3_comeForThemselves_45 : decode cX3_comeForThemselves 45 = .ok (.aload_n 0, 1) := by decide +kernel
theorem dX3_comeForThemselves_46 : decode cX3_comeForThemselves 46 = .ok (.getfield 9, 3) := by decide +kernel
theorem dX3_comeForThemselves_49 : decode cX3_comeForThemselves 49 = .ok (.iload_n 2, 1) := by decide +kernel
theorem dX3_comeForThemselves_50 : decode cX3_comeForThemselves 50 = .ok (.iaload, 1) := by decide +kernel
theorem dX3_comeForThemselves_51 : decode cX3_comeForThemselves 51 = .ok (.iastore, 1) := by decide +kernel
theorem dX3_comeForThemselves_52 : decode cX3_comeForThemselves 52 = .ok (.aload_n 0, 1) := by decide +kernel
theorem dX3_comeForThemselves_53 : decode cX3_comeForThemselves 53 = .ok (.getfield 15, 3) := by decide +kernel
theorem dX3_comeForThemselves_56 : decode cX3_comeForThemselves 56 = .ok (.iload_n 2, 1) := by decide +kernel
theorem dX3_comeForThemselves_57 : decode cX3_comeForThemselves 57 = .ok (.aload_n 1, 1) := by decide +kernel
theorem dX3_comeForThemselves_58 : decode cX3_comeForThemselves 58 = .ok (.getfield 45, 3) := by decide +kernel
theorem dX3_comeForThemselves_61 : decode cX3_comeForThemselves 61 = .ok (.aload_n 0, 1) := by decide +kernel
theorem dX3_comeForThemselves_62 : decode cX3_comeForThemselves 62 = .ok (.getfield 18, 3) := by decide +kernel
theorem dX3_comeForThemselves_65 : decode cX3_comeForThemselves 65 = .ok (.iload_n 3, 1) := by decide +kernel
theorem dX3_comeForThemselves_66 : decode cX3_comeForThemselves 66 = .ok (.iconst 1, 1) := by decide +kernel
theorem dX3_comeForThemselves_67 : decode cX3_comeForThemselves 67 = .ok (.iadd, 1) := by decide +kernel
theorem dX3_comeForThemselves_68 : decode cX3_comeForThemselves 68 = .ok (.invokestatic 37, 3) := by decide +kernel
theorem dX3_comeForThemselves_71 : decode cX3_comeForThemselves 71 = .ok (.iastore, 1) := by decide +kernel
theorem dX3_comeForThemselves_72 : decode cX3_comeForThemselves 72 = .ok (.iinc 2 1, 3) := by decide +kernel
theorem dX3_comeForThemselves_75 : decode cX3_comeForThemselves 75 = .ok (.goto (-68), 3) := by decide +kernel
theorem dX3_comeForThemselves_78 : decode cX3_comeForThemselves 78 = .ok (.return_, 1) := by decide +kernel
theorem dX3_differing_0 : decode cX3_differing 0 = .ok (.aload_n 0, 1) := by decide +kernel
theorem dX3_differing_1 : decode cX3_differing 1 = .ok (.aload_n 1, 1) := by decide +kernel
theorem dX3_differing_2 : decode cX3_differing 2 = .ok (.aload_n 1, 1) := by decide +kernel
theorem dX3_differing_3 : decode cX3_differing 3 = .ok (.getfield 45, 3) := by decide +kernel
theorem dX3_differing_6 : decode cX3_differing 6 = .ok (.invokevirtual 48, 3) := by decide +kernel
theorem dX3_differing_9 : decode cX3_differing 9 = .ok (.iconst 0, 1) := by decide +kernel
theorem dX3_differing_10 : decode cX3_differing 10 = .ok (.istore_n 3, 1) := by decide +kernel
theorem dX3_differing_11 : decode cX3_differing 11 = .ok (.iconst 0, 1) := by decide +kernel
theorem dX3_differing_12 : decode cX3_differing 12 = .ok (.istore 4, 2) := by decide +kernel
theorem dX3_differing_14 : decode cX3_differing 14 = .ok (.iload 4, 2) := by decide +kernel
theorem dX3_differing_16 : decode cX3_differing 16 = .ok (.aload_n 1, 1) := by decide +kernel
theorem dX3_differing_17 : decode cX3_differing 17 = .ok (.getfield 25, 3) := by decide +kernel
theorem dX3_differing_20 : decode cX3_differing 20 = .ok (.if_icmp .ge 39, 3) := by decide +kernel
theorem dX3_differing_23 : decode cX3_differing 23 = .ok (.iload_n 2, 1) := by decide +kernel
theorem dX3_differing_24 : decode cX3_differing 24 = .ok (.aload_n 0, 1) := by decide +kernel
theorem dX3_differing_25 : decode cX3_differing 25 = .ok (.getfield 18, 3) := by decide +kernel
theorem dX3_differing_28 : decode cX3_differing 28 = .ok (.aload_n 1, 1) := by decide +kernel
theorem dX3_differing_29 : decode cX3_differing 29 = .ok (.getfield 31, 3) := by decide +kernel
theorem dX3_differing_32 : decode cX3_differing 32 = .ok (.iload 4, 2) := by decide +kernel
theorem dX3_differing_34 : decode cX3_differing 34 = .ok (.iadd, 1) := by decide +kernel
theorem dX3_differing_35 : decode cX3_differing 35 = .ok (.iconst 1, 1) := by decide +kernel
theorem dX3_differing_36 : decode cX3_differing 36 = .ok (.iadd, 1) := by decide +kernel
theorem dX3_differing_37 : decode cX3_differing 37 = .ok (.invokestatic 37, 3) := by decide +kernel
theorem dX3_differing_40 : decode cX3_differing 40 = .ok (.aload_n 0, 1) := by decide +kernel
theorem dX3_differing_41 : decode cX3_differing 41 = .ok (.getfield 15, 3) := by decide +kernel
theorem dX3_differing_44 : decode cX3_differing 44 = .ok (.iload 4, 2) := by decide +kernel
theorem dX3_differing_46 : decode cX3_differing 46 = .ok (.iaload, 1) := by decide +kernel
theorem dX3_differing_47 : decode cX3_differing 47 = .ok (.if_icmp .eq 6, 3) := by decide +kernel
theorem dX3_differing_50 : decode cX3_differing 50 = .ok (.iinc 3 1, 3) := by decide +kernel
theorem dX3_differing_53 : decode cX3_differing 53 = .ok (.iinc 4 1, 3) := by decide +kernel
theorem dX3_differing_56 : decode cX3_differing 56 = .ok (.goto (-42), 3) := by decide +kernel
theorem dX3_differing_59 : decode cX3_differing 59 = .ok (.iload_n 3, 1) := by decide +kernel
theorem dX3_differing_60 : decode cX3_differing 60 = .ok (.ireturn, 1) := by decide +kernel
theorem dX3_swapTillNobodyGains_0 : decode cX3_swapTillNobodyGains 0 = .ok (.iconst 0, 1) := by decide +kernel
theorem dX3_swapTillNobodyGains_1 : decode cX3_swapTillNobodyGains 1 = .ok (.istore_n 2, 1) := by decide +kernel
theorem dX3_swapTillNobodyGains_2 : decode cX3_swapTillNobodyGains 2 = .ok (.iload_n 2, 1) := by decide +kernel
theorem dX3_swapTillNobodyGains_3 : decode cX3_swapTillNobodyGains 3 = .ok (.sipush 1000, 3) := by decide +kernel
theorem dX3_swapTillNobodyGains_6 : decode cX3_swapTillNobodyGains 6 = .ok (.if_icmp .ge 17, 3) := by decide +kernel
theorem dX3_swapTillNobodyGains_9 : decode cX3_swapTillNobodyGains 9 = .ok (.aload_n 0, 1) := by decide +kernel
theorem dX3_swapTillNobodyGains_10 : decode cX3_swapTillNobodyGains 10 = .ok (.aload_n 1, 1) := by decide +kernel
theorem dX3_swapTillNobodyGains_11 : decode cX3_swapTillNobodyGains 11 = .ok (.invokevirtual 52, 3) := by decide +kernel
theorem dX3_swapTillNobodyGains_14 : decode cX3_swapTillNobodyGains 14 = .ok (.ifCond .eq 9, 3) := by decide +kernel
theorem dX3_swapTillNobodyGains_17 : decode cX3_swapTillNobodyGains 17 = .ok (.iinc 2 1, 3) := by decide +kernel
theorem dX3_swapTillNobodyGains_20 : decode cX3_swapTillNobodyGains 20 = .ok (.goto (-18), 3) := by decide +kernel
theorem dX3_swapTillNobodyGains_23 : decode cX3_swapTillNobodyGains 23 = .ok (.iload_n 2, 1) := by decide +kernel
theorem dX3_swapTillNobodyGains_24 : decode cX3_swapTillNobodyGains 24 = .ok (.ireturn, 1) := by decide +kernel
theorem dX3_startRow_0 : decode cX3_startRow 0 = .ok (.aload_n 1, 1) := by decide +kernel
theorem dX3_startRow_1 : decode cX3_startRow 1 = .ok (.getfield 56, 3) := by decide +kernel
theorem dX3_startRow_4 : decode cX3_startRow 4 = .ok (.iconst 0, 1) := by decide +kernel
theorem dX3_startRow_5 : decode cX3_startRow 5 = .ok (.aload_n 0, 1) := by decide +kernel
theorem dX3_startRow_6 : decode cX3_startRow 6 = .ok (.getfield 18, 3) := by decide +kernel
theorem dX3_startRow_9 : decode cX3_startRow 9 = .ok (.iconst 0, 1) := by decide +kernel
theorem dX3_startRow_10 : decode cX3_startRow 10 = .ok (.bipush 6, 2) := by decide +kernel
theorem dX3_startRow_12 : decode cX3_startRow 12 = .ok (.invokestatic 57, 3) := by decide +kernel
theorem dX3_startRow_15 : decode cX3_startRow 15 = .ok (.return_, 1) := by decide +kernel
theorem dX3_bestAsk_0 : decode cX3_bestAsk 0 = .ok (.iload_n 3, 1) := by decide +kernel
theorem dX3_bestAsk_1 : decode cX3_bestAsk 1 = .ok (.istore 4, 2) := by decide +kernel
theorem dX3_bestAsk_3 : decode cX3_bestAsk 3 = .ok (.aload_n 0, 1) := by decide +kernel
theorem dX3_bestAsk_4 : decode cX3_bestAsk 4 = .ok (.aload_n 1, 1) := by decide +kernel
theorem dX3_bestAsk_5 : decode cX3_bestAsk 5 = .ok (.iload_n 2, 1) := by decide +kernel
theorem dX3_bestAsk_6 : decode cX3_bestAsk 6 = .ok (.iload_n 3, 1) := by decide +kernel
theorem dX3_bestAsk_7 : decode cX3_bestAsk 7 = .ok (.iload_n 3, 1) := by decide +kernel
theorem dX3_bestAsk_8 : decode cX3_bestAsk 8 = .ok (.invokevirtual 63, 3) := by decide +kernel
theorem dX3_bestAsk_11 : decode cX3_bestAsk 11 = .ok (.istore 5, 2) := by decide +kernel
theorem dX3_bestAsk_13 : decode cX3_bestAsk 13 = .ok (.iconst 0, 1) := by decide +kernel
theorem dX3_bestAsk_14 : decode cX3_bestAsk 14 = .ok (.istore 6, 2) := by decide +kernel
theorem dX3_bestAsk_16 : decode cX3_bestAsk 16 = .ok (.iload 6, 2) := by decide +kernel
theorem dX3_bestAsk_18 : decode cX3_bestAsk 18 = .ok (.aload_n 1, 1) := by decide +kernel
theorem dX3_bestAsk_19 : decode cX3_bestAsk 19 = .ok (.getfield 67, 3) := by decide +kernel
theorem dX3_bestAsk_22 : decode cX3_bestAsk 22 = .ok (.if_icmp .ge 35, 3) := by decide +kernel
theorem dX3_bestAsk_25 : decode cX3_bestAsk 25 = .ok (.aload_n 0, 1) := by decide +kernel
theorem dX3_bestAsk_26 : decode cX3_bestAsk 26 = .ok (.aload_n 1, 1) := by decide +kernel
theorem dX3_bestAsk_27 : decode cX3_bestAsk 27 = .ok (.iload_n 2, 1) := by decide +kernel
theorem dX3_bestAsk_28 : decode cX3_bestAsk 28 = .ok (.iload_n 3, 1) := by decide +kernel
theorem dX3_bestAsk_29 : decode cX3_bestAsk 29 = .ok (.iload 6, 2) := by decide +kernel
theorem dX3_bestAsk_31 : decode cX3_bestAsk 31 = .ok (.invokevirtual 63, 3) := by decide +kernel
theorem dX3_bestAsk_34 : decode cX3_bestAsk 34 = .ok (.istore 7, 2) := by decide +kernel
theorem dX3_bestAsk_36 : decode cX3_bestAsk 36 = .ok (.iload 7, 2) := by decide +kernel
theorem dX3_bestAsk_38 : decode cX3_bestAsk 38 = .ok (.iload 5, 2) := by decide +kernel
theorem dX3_bestAsk_40 : decode cX3_bestAsk 40 = .ok (.if_icmp .le 11, 3) := by decide +kernel
theorem dX3_bestAsk_43 : decode cX3_bestAsk 43 = .ok (.iload 6, 2) := by decide +kernel
theorem dX3_bestAsk_45 : decode cX3_bestAsk 45 = .ok (.istore 4, 2) := by decide +kernel
theorem dX3_bestAsk_47 : decode cX3_bestAsk 47 = .ok (.iload 7, 2) := by decide +kernel
theorem dX3_bestAsk_49 : decode cX3_bestAsk 49 = .ok (.istore 5, 2) := by decide +kernel
theorem dX3_bestAsk_51 : decode cX3_bestAsk 51 = .ok (.iinc 6 1, 3) := by decide +kernel
theorem dX3_bestAsk_54 : decode cX3_bestAsk 54 = .ok (.goto (-38), 3) := by decide +kernel
theorem dX3_bestAsk_57 : decode cX3_bestAsk 57 = .ok (.iload 4, 2) := by decide +kernel
theorem dX3_bestAsk_59 : decode cX3_bestAsk 59 = .ok (.ireturn, 1) := by decide +kernel
theorem dX3_worthOfAsk_0 : decode cX3_worthOfAsk 0 = .ok (.aload_n 0, 1) := by decide +kernel
theorem dX3_worthOfAsk_1 : decode cX3_worthOfAsk 1 = .ok (.getfield 18, 3) := by decide +kernel
theorem dX3_worthOfAsk_4 : decode cX3_worthOfAsk 4 = .ok (.iload_n 2, 1) := by decide +kernel
theorem dX3_worthOfAsk_5 : decode cX3_worthOfAsk 5 = .ok (.iload 4, 2) := by decide +kernel
theorem dX3_worthOfAsk_7 : decode cX3_worthOfAsk 7 = .ok (.iastore, 1) := by decide +kernel
theorem dX3_worthOfAsk_8 : decode cX3_worthOfAsk 8 = .ok (.aload_n 1, 1) := by decide +kernel
theorem dX3_worthOfAsk_9 : decode cX3_worthOfAsk 9 = .ok (.iload_n 3, 1) := by decide +kernel
theorem dX3_worthOfAsk_10 : decode cX3_worthOfAsk 10 = .ok (.aload_n 1, 1) := by decide +kernel
theorem dX3_worthOfAsk_11 : decode cX3_worthOfAsk 11 = .ok (.getfield 45, 3) := by decide +kernel
theorem dX3_worthOfAsk_14 : decode cX3_worthOfAsk 14 = .ok (.aload_n 0, 1) := by decide +kernel
theorem dX3_worthOfAsk_15 : decode cX3_worthOfAsk 15 = .ok (.getfield 18, 3) := by decide +kernel
theorem dX3_worthOfAsk_18 : decode cX3_worthOfAsk 18 = .ok (.iload_n 2, 1) := by decide +kernel
theorem dX3_worthOfAsk_19 : decode cX3_worthOfAsk 19 = .ok (.iconst 1, 1) := by decide +kernel
theorem dX3_worthOfAsk_20 : decode cX3_worthOfAsk 20 = .ok (.iadd, 1) := by decide +kernel
theorem dX3_worthOfAsk_21 : decode cX3_worthOfAsk 21 = .ok (.invokestatic 37, 3) := by decide +kernel
theorem dX3_worthOfAsk_24 : decode cX3_worthOfAsk 24 = .ok (.invokevirtual 70, 3) := by decide +kernel
theorem dX3_worthOfAsk_27 : decode cX3_worthOfAsk 27 = .ok (.ireturn, 1) := by decide +kernel
theorem dX3_swapFirstTwo_0 : decode cX3_swapFirstTwo 0 = .ok (.iconst 0, 1) := by decide +kernel
theorem dX3_swapFirstTwo_1 : decode cX3_swapFirstTwo 1 = .ok (.istore_n 2, 1) := by decide +kernel
theorem dX3_swapFirstTwo_2 : decode cX3_swapFirstTwo 2 = .ok (.iload_n 2, 1) := by decide +kernel
theorem dX3_swapFirstTwo_3 : decode cX3_swapFirstTwo 3 = .ok (.aload_n 1, 1) := by decide +kernel
theorem dX3_swapFirstTwo_4 : decode cX3_swapFirstTwo 4 = .ok (.getfield 25, 3) := by decide +kernel
theorem dX3_swapFirstTwo_7 : decode cX3_swapFirstTwo 7 = .ok (.if_icmp .ge 77, 3) := by decide +kernel
theorem dX3_swapFirstTwo_10 : decode cX3_swapFirstTwo 10 = .ok (.iload_n 2, 1) := by decide +kernel
theorem dX3_swapFirstTwo_11 : decode cX3_swapFirstTwo 11 = .ok (.iconst 1, 1) := by decide +kernel
theorem dX3_swapFirstTwo_12 : decode cX3_swapFirstTwo 12 = .ok (.iadd, 1) := by decide +kernel
theorem dX3_swapFirstTwo_13 : decode cX3_swapFirstTwo 13 = .ok (.istore_n 3, 1) := by decide +kernel
theorem dX3_swapFirstTwo_14 : decode cX3_swapFirstTwo 14 = .ok (.iload_n 3, 1) := by decide +kernel
theorem dX3_swapFirstTwo_15 : decode cX3_swapFirstTwo 15 = .ok (.aload_n 1, 1) := by decide +kernel
theorem dX3_swapFirstTwo_16 : decode cX3_swapFirstTwo 16 = .ok (.getfield 25, 3) := by decide +kernel
theorem dX3_swapFirstTwo_19 : decode cX3_swapFirstTwo 19 = .ok (.if_icmp .ge 59, 3) := by decide +kernel
theorem dX3_swapFirstTwo_22 : decode cX3_swapFirstTwo 22 = .ok (.aload_n 0, 1) := by decide +kernel
theorem dX3_swapFirstTwo_23 : decode cX3_swapFirstTwo 23 = .ok (.aload_n 1, 1) := by decide +kernel
theorem dX3_swapFirstTwo_24 : decode cX3_swapFirstTwo 24 = .ok (.iload_n 2, 1) := by decide +kernel
theorem dX3_swapFirstTwo_25 : decode cX3_swapFirstTwo 25 = .ok (.iload_n 3, 1) := by decide +kernel
theorem dX3_swapFirstTwo_26 : decode cX3_swapFirstTwo 26 = .ok (.invokevirtual 74, 3) := by decide +kernel
theorem dX3_swapFirstTwo_29 : decode cX3_swapFirstTwo 29 = .ok (.ifCond .eq 43, 3) := by decide +kernel
theorem dX3_swapFirstTwo_32 : decode cX3_swapFirstTwo 32 = .ok (.aload_n 0, 1) := by decide +kernel
theorem dX3_swapFirstTwo_33 : decode cX3_swapFirstTwo 33 = .ok (.aload_n 1, 1) := by decide +kernel
theorem dX3_swapFirstTwo_34 : decode cX3_swapFirstTwo 34 = .ok (.iload_n 3, 1) := by decide +kernel
theorem dX3_swapFirstTwo_35 : decode cX3_swapFirstTwo 35 = .ok (.iload_n 2, 1) := by decide +kernel
theorem dX3_swapFirstTwo_36 : decode cX3_swapFirstTwo 36 = .ok (.invokevirtual 74, 3) := by decide +kernel
theorem dX3_swapFirstTwo_39 : decode cX3_swapFirstTwo 39 = .ok (.ifCond .eq 33, 3) := by decide +kernel
theorem dX3_swapFirstTwo_42 : decode cX3_swapFirstTwo 42 = .ok (.aload_n 0, 1) := by decide +kernel
theorem dX3_swapFirstTwo_43 : decode cX3_swapFirstTwo 43 = .ok (.getfield 15, 3) := by decide +kernel
theorem dX3_swapFirstTwo_46 : decode cX3_swapFirstTwo 46 = .ok (.iload_n 2, 1) := by decide +kernel
theorem dX3_swapFirstTwo_47 : decode cX3_swapFirstTwo 47 = .ok (.iaload, 1) := by decide +kernel
theorem dX3_swapFirstTwo_48 : decode cX3_swapFirstTwo 48 = .ok (.istore 4, 2) := by decide +kernel
theorem dX3_swapFirstTwo_50 : decode cX3_swapFirstTwo 50 = .ok (.aload_n 0, 1) := by decide +kernel
theorem dX3_swapFirstTwo_51 : decode cX3_swapFirstTwo 51 = .ok (.getfield 15, 3) := by decide +kernel
theorem dX3_swapFirstTwo_54 : decode cX3_swapFirstTwo 54 = .ok (.iload_n 2, 1) := by decide +kernel
theorem dX3_swapFirstTwo_55 : decode cX3_swapFirstTwo 55 = .ok (.aload_n 0, 1) := by decide +kernel
theorem dX3_swapFirstTwo_56 : decode cX3_swapFirstTwo 56 = .ok (.getfield 15, 3) := by decide +kernel
theorem dX3_swapFirstTwo_59 : decode cX3_swapFirstTwo 59 = .ok (.iload_n 3, 1) := by decide +kernel
theorem dX3_swapFirstTwo_60 : decode cX3_swapFirstTwo 60 = .ok (.iaload, 1) := by decide +kernel
theorem dX3_swapFirstTwo_61 : decode cX3_swapFirstTwo 61 = .ok (.iastore, 1) := by decide +kernel
theorem dX3_swapFirstTwo_62 : decode cX3_swapFirstTwo 62 = .ok (.aload_n 0, 1) := by decide +kernel
theorem dX3_swapFirstTwo_63 : decode cX3_swapFirstTwo 63 = .ok (.getfield 15, 3) := by decide +kernel
theorem dX3_swapFirstTwo_66 : decode cX3_swapFirstTwo 66 = .ok (.iload_n 3, 1) := by decide +kernel
theorem dX3_swapFirstTwo_67 : decode cX3_swapFirstTwo 67 = .ok (.iload 4, 2) := by decide +kernel
theorem dX3_swapFirstTwo_69 : decode cX3_swapFirstTwo 69 = .ok (.iastore, 1) := by decide +kernel
theorem dX3_swapFirstTwo_70 : decode cX3_swapFirstTwo 70 = .ok (.iconst 1, 1) := by decide +kernel
theorem dX3_swapFirstTwo_71 : decode cX3_swapFirstTwo 71 = .ok (.ireturn, 1) := by decide +kernel
theorem dX3_swapFirstTwo_72 : decode cX3_swapFirstTwo 72 = .ok (.iinc 3 1, 3) := by decide +kernel
theorem dX3_swapFirstTwo_75 : decode cX3_swapFirstTwo 75 = .ok (.goto (-61), 3) := by decide +kernel
theorem dX3_swapFirstTwo_78 : decode cX3_swapFirstTwo 78 = .ok (.iinc 2 1, 3) := by decide +kernel
theorem dX3_swapFirstTwo_81 : decode cX3_swapFirstTwo 81 = .ok (.goto (-79), 3) := by decide +kernel
theorem dX3_swapFirstTwo_84 : decode cX3_swapFirstTwo 84 = .ok (.iconst 0, 1) := by decide +kernel
theorem dX3_swapFirstTwo_85 : decode cX3_swapFirstTwo 85 = .ok (.ireturn, 1) := by decide +kernel
theorem dX3_gains_0 : decode cX3_gains 0 = .ok (.aload_n 1, 1) := by decide +kernel
theorem dX3_gains_1 : decode cX3_gains 1 = .ok (.getfield 34, 3) := by decide +kernel
theorem dX3_gains_4 : decode cX3_gains 4 = .ok (.iload_n 2, 1) := by decide +kernel
theorem dX3_gains_5 : decode cX3_gains 5 = .ok (.iaload, 1) := by decide +kernel
theorem dX3_gains_6 : decode cX3_gains 6 = .ok (.istore 4, 2) := by decide +kernel
theorem dX3_gains_8 : decode cX3_gains 8 = .ok (.aload_n 1, 1) := by decide +kernel
theorem dX3_gains_9 : decode cX3_gains 9 = .ok (.iload 4, 2) := by decide +kernel
theorem dX3_gains_11 : decode cX3_gains 11 = .ok (.aload_n 0, 1) := by decide +kernel
theorem dX3_gains_12 : decode cX3_gains 12 = .ok (.getfield 15, 3) := by decide +kernel
theorem dX3_gains_15 : decode cX3_gains 15 = .ok (.iload_n 3, 1) := by decide +kernel
theorem dX3_gains_16 : decode cX3_gains 16 = .ok (.iaload, 1) := by decide +kernel
theorem dX3_gains_17 : decode cX3_gains 17 = .ok (.invokevirtual 70, 3) := by decide +kernel
theorem dX3_gains_20 : decode cX3_gains 20 = .ok (.aload_n 1, 1) := by decide +kernel
theorem dX3_gains_21 : decode cX3_gains 21 = .ok (.iload 4, 2) := by decide +kernel
theorem dX3_gains_23 : decode cX3_gains 23 = .ok (.aload_n 0, 1) := by decide +kernel
theorem dX3_gains_24 : decode cX3_gains 24 = .ok (.getfield 15, 3) := by decide +kernel
theorem dX3_gains_27 : decode cX3_gains 27 = .ok (.iload_n 2, 1) := by decide +kernel
theorem dX3_gains_28 : decode cX3_gains 28 = .ok (.iaload, 1) := by decide +kernel
theorem dX3_gains_29 : decode cX3_gains 29 = .ok (.invokevirtual 70, 3) := by decide +kernel
theorem dX3_gains_32 : decode cX3_gains 32 = .ok (.if_icmp .le 7, 3) := by decide +kernel
theorem dX3_gains_35 : decode cX3_gains 35 = .ok (.iconst 1, 1) := by decide +kernel
theorem dX3_gains_36 : decode cX3_gains 36 = .ok (.goto 4, 3) := by decide +kernel
theorem dX3_gains_39 : decode cX3_gains 39 = .ok (.iconst 0, 1) := by decide +kernel
theorem dX3_gains_40 : decode cX3_gains 40 = .ok (.ireturn, 1) := by decide +kernel
theorem dX4_init_0 : decode cX4_init 0 = .ok (.aload_n 0, 1) := by decide +kernel
theorem dX4_init_1 : decode cX4_init 1 = .ok (.invokespecial 3, 3) := by decide +kernel
theorem dX4_init_4 : decode cX4_init 4 = .ok (.aload_n 0, 1) := by decide +kernel
theorem dX4_init_5 : decode cX4_init 5 = .ok (.iconst 4, 1) := by decide +kernel
theorem dX4_init_6 : decode cX4_init 6 = .ok (.newarray .int, 2) := by decide +kernel
theorem dX4_init_8 : decode cX4_init 8 = .ok (.putfield 11, 3) := by decide +kernel
theorem dX4_init_11 : decode cX4_init 11 = .ok (.return_, 1) := by decide +kernel
theorem dX4_readInto_0 : decode cX4_readInto 0 = .ok (.iload_n 3, 1) := by decide +kernel
theorem dX4_readInto_1 : decode cX4_readInto 1 = .ok (.aload_n 2, 1) := by decide +kernel
theorem dX4_readInto_2 : decode cX4_readInto 2 = .ok (.arraylength, 1) := by decide +kernel
theorem dX4_readInto_3 : decode cX4_readInto 3 = .ok (.invokestatic 15, 3) := by decide +kernel
theorem dX4_readInto_6 : decode cX4_readInto 6 = .ok (.istore 4, 2) := by decide +kernel
theorem dX4_readInto_8 : decode cX4_readInto 8 = .ok (.aload_n 1, 1) := by decide +kernel
theorem dX4_readInto_9 : decode cX4_readInto 9 = .ok (.invokevirtual 21, 3) := by decide +kernel
theorem dX4_readInto_12 : decode cX4_readInto 12 = .ok (.iconst 0, 1) := by decide +kernel
theorem dX4_readInto_13 : decode cX4_readInto 13 = .ok (.istore 5, 2) := by decide +kernel
theorem dX4_readInto_15 : decode cX4_readInto 15 = .ok (.iconst 0, 1) := by decide +kernel
theorem dX4_readInto_16 : decode cX4_readInto 16 = .ok (.istore 6, 2) := by decide +kernel
theorem dX4_readInto_18 : decode cX4_readInto 18 = .ok (.iload 6, 2) := by decide +kernel
theorem dX4_readInto_20 : decode cX4_readInto 20 = .ok (.sipush 300, 3) := by decide +kernel
theorem dX4_readInto_23 : decode cX4_readInto 23 = .ok (.if_icmp .ge 55, 3) := by decide +kernel
theorem dX4_readInto_26 : decode cX4_readInto 26 = .ok (.iload 5, 2) := by decide +kernel
theorem dX4_readInto_28 : decode cX4_readInto 28 = .ok (.iload 4, 2) := by decide +kernel
theorem dX4_readInto_30 : decode cX4_readInto 30 = .ok (.if_icmp .ge 48, 3) := by decide +kernel
theorem dX4_readInto_33 : decode cX4_readInto 33 = .ok (.aload_n 0, 1) := by decide +kernel
theorem dX4_readInto_34 : decode cX4_readInto 34 = .ok (.aload_n 2, 1) := by decide +kernel
theorem dX4_readInto_35 : decode cX4_readInto 35 = .ok (.iload 5, 2) := by decide +kernel
theorem dX4_readInto_37 : decode cX4_readInto 37 = .ok (.iconst 1, 1) := by decide +kernel
theorem dX4_readInto_38 : decode cX4_readInto 38 = .ok (.iadd, 1) := by decide +kernel
theorem dX4_readInto_39 : decode cX4_readInto 39 = .ok (.iload 4, 2) := by decide +kernel
theorem dX4_readInto_41 : decode cX4_readInto 41 = .ok (.invokevirtual 26, 3) := by decide +kernel
theorem dX4_readInto_44 : decode cX4_readInto 44 = .ok (.istore 7, 2) := by decide +kernel
theorem dX4_readInto_46 : decode cX4_readInto 46 = .ok (.iload 7, 2) := by decide +kernel
theorem dX4_readInto_48 : decode cX4_readInto 48 = .ok (.bipush (-4), 2) := by decide +kernel
theorem dX4_readInto_50 : decode cX4_readInto 50 = .ok (.if_icmp .eq 15, 3) := by decide +kernel
theorem dX4_readInto_53 : decode cX4_readInto 53 = .ok (.aload_n 0, 1) := by decide +kernel
theorem dX4_readInto_54 : decode cX4_readInto 54 = .ok (.aload_n 1, 1) := by decide +kernel
theorem dX4_readInto_55 : decode cX4_readInto 55 = .ok (.aload_n 2, 1) := by decide +kernel
theorem dX4_readInto_56 : decode cX4_readInto 56 = .ok (.iload 5, 2) := by decide +kernel
theorem dX4_readInto_58 : decode cX4_readInto 58 = .ok (.baload, 1) := by decide +kernel
theorem dX4_readInto_59 : decode cX4_readInto 59 = .ok (.invokevirtual 30, 3) := by decide +kernel
theorem dX4_readInto_62 : decode cX4_readInto 62 = .ok (.ifCond .ne 6, 3) := by decide +kernel
theorem dX4_readInto_65 : decode cX4_readInto 65 = .ok (.iload 5, 2) := by decide +kernel
theorem dX4_readInto_67 : decode cX4_readInto 67 = .ok (.ireturn, 1) := by decide +kernel
theorem dX4_readInto_68 : decode cX4_readInto 68 = .ok (.iload 7, 2) := by decide +kernel
theorem dX4_readInto_70 : decode cX4_readInto 70 = .ok (.istore 5, 2) := by decide +kernel
theorem dX4_readInto_72 : decode cX4_readInto 72 = .ok (.iinc 6 1, 3) := by decide +kernel
theorem dX4_readInto_75 : decode cX4_readInto 75 = .ok (.goto (-57), 3) := by decide +kernel
theorem dX4_readInto_78 : decode cX4_readInto 78 = .ok (.bipush (-4), 2) := by decide +kernel
theorem dX4_readInto_80 : decode cX4_readInto 80 = .ok (.ireturn, 1) := by decide +kernel
theorem dX4_readNumbers_0 : decode cX4_readNumbers 0 = .ok (.aload_n 0, 1) := by decide +kernel
theorem dX4_readNumbers_1 : decode cX4_readNumbers 1 = .ok (.iconst 0, 1) := by decide +kernel
theorem dX4_readNumbers_2 : decode cX4_readNumbers 2 = .ok (.putfield 34, 3) := by decide +kernel
theorem dX4_readNumbers_5 : decode cX4_readNumbers 5 = .ok (.iconst 0, 1) := by decide +kernel
theorem dX4_readNumbers_6 : decode cX4_readNumbers 6 = .ok (.istore 4, 2) := by decide +kernel
theorem dX4_readNumbers_8 : decode cX4_readNumbers 8 = .ok (.iconst 0, 1) := by decide +kernel
theorem dX4_readNumbers_9 : decode cX4_readNumbers 9 = .ok (.istore 5, 2) := by decide +kernel
theorem dX4_readNumbers_11 : decode cX4_readNumbers 11 = .ok (.iload_n 2, 1) := by decide +kernel
theorem dX4_readNumbers_12 : decode cX4_readNumbers 12 = .ok (.istore 6, 2) := by decide +kernel
theorem dX4_readNumbers_14 : decode cX4_readNumbers 14 = .ok (.iload 6, 2) := by decide +kernel
theorem dX4_readNumbers_16 : decode cX4_readNumbers 16 = .ok (.iload_n 3, 1) := by decide +kernel
theorem dX4_readNumbers_17 : decode cX4_readNumbers 17 = .ok (.if_icmp .ge 123, 3) := by decide +kernel
theorem dX4_readNumbers_20 : decode cX4_readNumbers 20 = .ok (.aload_n 1, 1) := by decide +kernel
theorem dX4_readNumbers_21 : decode cX4_readNumbers 21 = .ok (.iload 6, 2) := by decide +kernel
theorem dX4_readNumbers_23 : decode cX4_readNumbers 23 = .ok (.baload, 1) := by decide +kernel
theorem dX4_readNumbers_24 : decode cX4_readNumbers 24 = .ok (.istore 7, 2) := by decide +kernel
theorem dX4_readNumbers_26 : decode cX4_readNumbers 26 = .ok (.iload 7, 2) := by decide +kernel
theorem dX4_readNumbers_28 : decode cX4_readNumbers 28 = .ok (.bipush 48, 2) := by decide +kernel
theorem dX4_readNumbers_30 : decode cX4_readNumbers 30 = .ok (.if_icmp .lt 35, 3) := by decide +kernel
theorem dX4_readNumbers_33 : decode cX4_readNumbers 33 = .ok (.iload 7, 2) := by decide +kernel
theorem dX4_readNumbers_35 : decode cX4_readNumbers 35 = .ok (.bipush 57, 2) := by decide +kernel
theorem dX4_readNumbers_37 : decode cX4_readNumbers 37 = .ok (.if_icmp .gt 28, 3) := by decide +kernel
theorem dX4_readNumbers_40 : decode cX4_readNumbers 40 = .ok (.iload 4, 2) := by decide +kernel
theorem dX4_readNumbers_42 : decode cX4_readNumbers 42 = .ok (.iconst 3, 1) := by decide +kernel
theorem dX4_readNumbers_43 : decode cX4_readNumbers 43 = .ok (.if_icmp .ge 22, 3) := by decide +kernel
theorem dX4_readNumbers_46 : decode cX4_readNumbers 46 = .ok (.iload 5, 2) := by decide +kernel
theorem dX4_readNumbers_48 : decode cX4_readNumbers 48 = .ok (.bipush 10, 2) := by decide +kernel
theorem dX4_readNumbers_50 : decode cX4_readNumbers 50 = .ok (.imul, 1) := by decide +kernel
theorem dX4_readNumbers_51 : decode cX4_readNumbers 51 = .ok (.iload 7, 2) := by decide +kernel
theorem dX4_readNumbers_53 : decode cX4_readNumbers 53 = .ok (.bipush 48, 2) := by decide +kernel
theorem dX4_readNumbers_55 : decode cX4_readNumbers 55 = .ok (.isub, 1) := by decide +kernel
theorem dX4_readNumbers_56 : decode cX4_readNumbers 56 = .ok (.iadd, 1) := by decide +kernel
theorem dX4_readNumbers_57 : decode cX4_readNumbers 57 = .ok (.istore 5, 2) := by decide +kernel
theorem dX4_readNumbers_59 : decode cX4_readNumbers 59 = .ok (.iinc 4 1, 3) := by decide +kernel
theorem dX4_readNumbers_62 : decode cX4_readNumbers 62 = .ok (.goto 72, 3) := by decide +kernel
theorem dX4_readNumbers_65 : decode cX4_readNumbers 65 = .ok (.iload 7, 2) := by decide +kernel
theorem dX4_readNumbers_67 : decode cX4_readNumbers 67 = .ok (.bipush 44, 2) := by decide +kernel
theorem dX4_readNumbers_69 : decode cX4_readNumbers 69 = .ok (.if_icmp .eq 10, 3) := by decide +kernel
theorem dX4_readNumbers_72 : decode cX4_readNumbers 72 = .ok (.iload 7, 2) := by decide +kernel
theorem dX4_readNumbers_74 : decode cX4_readNumbers 74 = .ok (.bipush 59, 2) := by decide +kernel
theorem dX4_readNumbers_76 : decode cX4_readNumbers 76 = .ok (.if_icmp .ne 16, 3) := by decide +kernel
theorem dX4_readNumbers_79 : decode cX4_readNumbers 79 = .ok (.iload 4, 2) := by decide +kernel
theorem dX4_readNumbers_81 : decode cX4_readNumbers 81 = .ok (.ifCond .eq 11, 3) := by decide +kernel
theorem dX4_readNumbers_84 : decode cX4_readNumbers 84 = .ok (.aload_n 0, 1) := by decide +kernel
theorem dX4_readNumbers_85 : decode cX4_readNumbers 85 = .ok (.getfield 34, 3) := by decide +kernel
theorem dX4_readNumbers_88 : decode cX4_readNumbers 88 = .ok (.iconst 4, 1) := by decide +kernel
theorem dX4_readNumbers_89 : decode cX4_readNumbers 89 = .ok (.if_icmp .lt 6, 3) := by decide +kernel
theorem dX4_readNumbers_92 : decode cX4_readNumbers 92 = .ok (.bipush (-4), 2) := by decide +kernel
theorem dX4_readNumbers_94 : decode cX4_readNumbers 94 = .ok (.ireturn, 1) := by decide +kernel
theorem dX4_readNumbers_95 : decode cX4_readNumbers 95 = .ok (.aload_n 0, 1) := by decide +kernel
theorem dX4_readNumbers_96 : decode cX4_readNumbers 96 = .ok (.getfield 11, 3) := by decide +kernel
theorem dX4_readNumbers_99 : decode cX4_readNumbers 99 = .ok (.aload_n 0, 1) := by decide +kernel
theorem dX4_readNumbers_100 : decode cX4_readNumbers 100 = .ok (.getfield 34, 3) := by decide +kernel
theorem dX4_readNumbers_103 : decode cX4_readNumbers 103 = .ok (.iload 5, 2) := by decide +kernel
theorem dX4_readNumbers_105 : decode cX4_readNumbers 105 = .ok (.iastore, 1) := by decide +kernel
theorem dX4_readNumbers_106 : decode cX4_readNumbers 106 = .ok (.aload_n 0, 1) := by decide +kernel
theorem dX4_readNumbers_107 : decode cX4_readNumbers 107 = .ok (.dup, 1) := by decide +kernel
theorem dX4_readNumbers_108 : decode cX4_readNumbers 108 = .ok (.getfield 34, 3) := by decide +kernel
theorem dX4_readNumbers_111 : decode cX4_readNumbers 111 = .ok (.iconst 1, 1) := by decide +kernel
theorem dX4_readNumbers_112 : decode cX4_readNumbers 112 = .ok (.iadd, 1) := by decide +kernel
theorem dX4_readNumbers_113 : decode cX4_readNumbers 113 = .ok (.putfield 34, 3) := by decide +kernel
theorem dX4_readNumbers_116 : decode cX4_readNumbers 116 = .ok (.iconst 0, 1) := by decide +kernel
theorem dX4_readNumbers_117 : decode cX4_readNumbers 117 = .ok (.istore 4, 2) := by decide +kernel
theorem dX4_readNumbers_119 : decode cX4_readNumbers 119 = .ok (.iconst 0, 1) := by decide +kernel
theorem dX4_readNumbers_120 : decode cX4_readNumbers 120 = .ok (.istore 5, 2) := by decide +kernel
theorem dX4_readNumbers_122 : decode cX4_readNumbers 122 = .ok (.iload 7, 2) := by decide +kernel
theorem dX4_readNumbers_124 : decode cX4_readNumbers 124 = .ok (.bipush 59, 2) := by decide +kernel
theorem dX4_readNumbers_126 : decode cX4_readNumbers 126 = .ok (.if_icmp .ne 8, 3) := by decide +kernel
theorem dX4_readNumbers_129 : decode cX4_readNumbers 129 = .ok (.iload 6, 2) := by decide +kernel
theorem dX4_readNumbers_131 : decode cX4_readNumbers 131 = .ok (.iconst 1, 1) := by decide +kernel
theorem dX4_readNumbers_132 : decode cX4_readNumbers 132 = .ok (.iadd, 1) := by decide +kernel
theorem dX4_readNumbers_133 : decode cX4_readNumbers 133 = .ok (.ireturn, 1) := by decide +kernel
theorem dX4_readNumbers_134 : decode cX4_readNumbers 134 = .ok (.iinc 6 1, 3) := by decide +kernel
theorem dX4_readNumbers_137 : decode cX4_readNumbers 137 = .ok (.goto (-123), 3) := by decide +kernel
theorem dX4_readNumbers_140 : decode cX4_readNumbers 140 = .ok (.bipush (-4), 2) := by decide +kernel
theorem dX4_readNumbers_142 : decode cX4_readNumbers 142 = .ok (.ireturn, 1) := by decide +kernel
theorem dX4_tell_0 : decode cX4_tell 0 = .ok (.aload_n 0, 1) := by decide +kernel
theorem dX4_tell_1 : decode cX4_tell 1 = .ok (.getfield 11, 3) := by decide +kernel
theorem dX4_tell_4 : decode cX4_tell 4 = .ok (.iconst 0, 1) := by decide +kernel
theorem dX4_tell_5 : decode cX4_tell 5 = .ok (.iaload, 1) := by decide +kernel
theorem dX4_tell_6 : decode cX4_tell 6 = .ok (.istore_n 3, 1) := by decide +kernel
theorem dX4_tell_7 : decode cX4_tell 7 = .ok (.aload_n 0, 1) := by decide +kernel
theorem dX4_tell_8 : decode cX4_tell 8 = .ok (.getfield 11, 3) := by decide +kernel
theorem dX4_tell_11 : decode cX4_tell 11 = .ok (.iconst 1, 1) := by decide +kernel
theorem dX4_tell_12 : decode cX4_tell 12 = .ok (.iaload, 1) := by decide +kernel
theorem dX4_tell_13 : decode cX4_tell 13 = .ok (.istore 4, 2) := by decide +kernel
theorem dX4_tell_15 : decode cX4_tell 15 = .ok (.aload_n 0, 1) := by decide +kernel
theorem dX4_tell_16 : decode cX4_tell 16 = .ok (.getfield 11, 3) := by decide +kernel
theorem dX4_tell_19 : decode cX4_tell 19 = .ok (.iconst 2, 1) := by decide +kernel
theorem dX4_tell_20 : decode cX4_tell 20 = .ok (.iaload, 1) := by decide +kernel
theorem dX4_tell_21 : decode cX4_tell 21 = .ok (.istore 5, 2) := by decide +kernel
theorem dX4_tell_23 : decode cX4_tell 23 = .ok (.iload_n 2, 1) := by decide +kernel
theorem dX4_tell_24 : decode cX4_tell 24 = .ok (.tableswitch 270 98 118 #[144, 214, 270, 270, 270, 270, 270, 270, 270, 270, 270, 122, 270, 270, 238, 166, 270, 270, 100, 270, 188], 100) := by decide +kernel
theorem dX4_tell_124 : decode cX4_tell 124 = .ok (.aload_n 0, 1) := by decide +kernel
theorem dX4_tell_125 : decode cX4_tell 125 = .ok (.getfield 34, 3) := by decide +kernel
theorem dX4_tell_128 : decode cX4_tell 128 = .ok (.iconst 1, 1) := by decide +kernel
theorem dX4_tell_129 : decode cX4_tell 129 = .ok (.if_icmp .ne 15, 3) := by decide +kernel
theorem dX4_tell_132 : decode cX4_tell 132 = .ok (.aload_n 1, 1) := by decide +kernel
theorem dX4_tell_133 : decode cX4_tell 133 = .ok (.iload_n 3, 1) := by decide +kernel
theorem dX4_tell_134 : decode cX4_tell 134 = .ok (.invokevirtual 38, 3) := by decide +kernel
theorem dX4_tell_137 : decode cX4_tell 137 = .ok (.ifCond .eq 7, 3) := by decide +kernel
theorem dX4_tell_140 : decode cX4_tell 140 = .ok (.iconst 1, 1) := by decide +kernel
theorem dX4_tell_141 : decode cX4_tell 141 = .ok (.goto 4, 3) := by decide +kernel
theorem dX4_tell_144 : decode cX4_tell 144 = .ok (.iconst 0, 1) := by decide +kernel
theorem dX4_tell_145 : decode cX4_tell 145 = .ok (.ireturn, 1) := by decide +kernel
theorem dX4_tell_146 : decode cX4_tell 146 = .ok (.aload_n 0, 1) := by decide +kernel
theorem dX4_tell_147 : decode cX4_tell 147 = .ok (.getfield 34, 3) := by decide +kernel
theorem dX4_tell_150 : decode cX4_tell 150 = .ok (.iconst 1, 1) := by decide +kernel
theorem dX4_tell_151 : decode cX4_tell 151 = .ok (.if_icmp .ne 15, 3) := by decide +kernel
theorem dX4_tell_154 : decode cX4_tell 154 = .ok (.aload_n 1, 1) := by decide +kernel
theorem dX4_tell_155 : decode cX4_tell 155 = .ok (.iload_n 3, 1) := by decide +kernel
theorem dX4_tell_156 : decode cX4_tell 156 = .ok (.invokevirtual 42, 3) := by decide +kernel
theorem dX4_tell_159 : decode cX4_tell 159 = .ok (.ifCond .eq 7, 3) := by decide +kernel
theorem dX4_tell_162 : decode cX4_tell 162 = .ok (.iconst 1, 1) := by decide +kernel
theorem dX4_tell_163 : decode cX4_tell 163 = .ok (.goto 4, 3) := by decide +kernel
theorem dX4_tell_166 : decode cX4_tell 166 = .ok (.iconst 0, 1) := by decide +kernel
theorem dX4_tell_167 : decode cX4_tell 167 = .ok (.ireturn, 1) := by decide +kernel
theorem dX4_tell_168 : decode cX4_tell 168 = .ok (.aload_n 0, 1) := by decide +kernel
theorem dX4_tell_169 : decode cX4_tell 169 = .ok (.getfield 34, 3) := by decide +kernel
theorem dX4_tell_172 : decode cX4_tell 172 = .ok (.iconst 1, 1) := by decide +kernel
theorem dX4_tell_173 : decode cX4_tell 173 = .ok (.if_icmp .ne 15, 3) := by decide +kernel
theorem dX4_tell_176 : decode cX4_tell 176 = .ok (.aload_n 1, 1) := by decide +kernel
theorem dX4_tell_177 : decode cX4_tell 177 = .ok (.iload_n 3, 1) := by decide +kernel
theorem dX4_tell_178 : decode cX4_tell 178 = .ok (.invokevirtual 45, 3) := by decide +kernel
theorem dX4_tell_181 : decode cX4_tell 181 = .ok (.ifCond .eq 7, 3) := by decide +kernel
theorem dX4_tell_184 : decode cX4_tell 184 = .ok (.iconst 1, 1) := by decide +kernel
theorem dX4_tell_185 : decode cX4_tell 185 = .ok (.goto 4, 3) := by decide +kernel
theorem dX4_tell_188 : decode cX4_tell 188 = .ok (.iconst 0, 1) := by decide +kernel
theorem dX4_tell_189 : decode cX4_tell 189 = .ok (.ireturn, 1) := by decide +kernel
theorem dX4_tell_190 : decode cX4_tell 190 = .ok (.aload_n 0, 1) := by decide +kernel
theorem dX4_tell_191 : decode cX4_tell 191 = .ok (.getfield 34, 3) := by decide +kernel
theorem dX4_tell_194 : decode cX4_tell 194 = .ok (.iconst 1, 1) := by decide +kernel
theorem dX4_tell_195 : decode cX4_tell 195 = .ok (.if_icmp .ne 15, 3) := by decide +kernel
theorem dX4_tell_198 : decode cX4_tell 198 = .ok (.aload_n 1, 1) := by decide +kernel
theorem dX4_tell_199 : decode cX4_tell 199 = .ok (.iload_n 3, 1) := by decide +kernel
theorem dX4_tell_200 : decode cX4_tell 200 = .ok (.invokevirtual 48, 3) := by decide +kernel
theorem dX4_tell_203 : decode cX4_tell 203 = .ok (.ifCond .eq 7, 3) := by decide +kernel
theorem dX4_tell_206 : decode cX4_tell 206 = .ok (.iconst 1, 1) := by decide +kernel
theorem dX4_tell_207 : decode cX4_tell 207 = .ok (.goto 4, 3) := by decide +kernel
theorem dX4_tell_210 : decode cX4_tell 210 = .ok (.iconst 0, 1) := by decide +kernel
theorem dX4_tell_211 : decode cX4_tell 211 = .ok (.ireturn, 1) := by decide +kernel
theorem dX4_tell_212 : decode cX4_tell 212 = .ok (.aload_n 0, 1) := by decide +kernel
theorem dX4_tell_213 : decode cX4_tell 213 = .ok (.getfield 34, 3) := by decide +kernel
theorem dX4_tell_216 : decode cX4_tell 216 = .ok (.iconst 3, 1) := by decide +kernel
theorem dX4_tell_217 : decode cX4_tell 217 = .ok (.if_icmp .ne 19, 3) := by decide +kernel
theorem dX4_tell_220 : decode cX4_tell 220 = .ok (.aload_n 1, 1) := by decide +kernel
theorem dX4_tell_221 : decode cX4_tell 221 = .ok (.iload_n 3, 1) := by decide +kernel
theorem dX4_tell_222 : decode cX4_tell 222 = .ok (.iload 4, 2) := by decide +kernel
theorem dX4_tell_224 : decode cX4_tell 224 = .ok (.iload 5, 2) := by decide +kernel
theorem dX4_tell_226 : decode cX4_tell 226 = .ok (.invokevirtual 51, 3) := by decide +kernel
theorem dX4_tell_229 : decode cX4_tell 229 = .ok (.ifCond .eq 7, 3) := by decide +kernel
theorem dX4_tell_232 : decode cX4_tell 232 = .ok (.iconst 1, 1) := by decide +kernel
theorem dX4_tell_233 : decode cX4_tell 233 = .ok (.goto 4, 3) := by decide +kernel
theorem dX4_tell_236 : decode cX4_tell 236 = .ok (.iconst 0, 1) := by decide +kernel
theorem dX4_tell_237 : decode cX4_tell 237 = .ok (.ireturn, 1) := by decide +kernel
theorem dX4_tell_238 : decode cX4_tell 238 = .ok (.aload_n 0, 1) := by decide +kernel
theorem dX4_tell_239 : decode cX4_tell 239 = .ok (.getfield 34, 3) := by decide +kernel
theorem dX4_tell_242 : decode cX4_tell 242 = .ok (.iconst 2, 1) := by decide +kernel
theorem dX4_tell_243 : decode cX4_tell 243 = .ok (.if_icmp .ne 17, 3) := by decide +kernel
theorem dX4_tell_246 : decode cX4_tell 246 = .ok (.aload_n 1, 1) := by decide +kernel
theorem dX4_tell_247 : decode cX4_tell 247 = .ok (.iload_n 3, 1) := by decide +kernel
theorem dX4_tell_248 : decode cX4_tell 248 = .ok (.iload 4, 2) := by decide +kernel
theorem dX4_tell_250 : decode cX4_tell 250 = .ok (.invokevirtual 55, 3) := by decide +kernel
theorem dX4_tell_253 : decode cX4_tell 253 = .ok (.ifCond .eq 7, 3) := by decide +kernel
theorem dX4_tell_256 : decode cX4_tell 256 = .ok (.iconst 1, 1) := by decide +kernel
theorem dX4_tell_257 : decode cX4_tell 257 = .ok (.goto 4, 3) := by decide +kernel
theorem dX4_tell_260 : decode cX4_tell 260 = .ok (.iconst 0, 1) := by decide +kernel
theorem dX4_tell_261 : decode cX4_tell 261 = .ok (.ireturn, 1) := by decide +kernel
theorem dX4_tell_262 : decode cX4_tell 262 = .ok (.aload_n 0, 1) := by decide +kernel
theorem dX4_tell_263 : decode cX4_tell 263 = .ok (.getfield 34, 3) := by decide +kernel
theorem dX4_tell_266 : decode cX4_tell 266 = .ok (.iconst 4, 1) := by decide +kernel
theorem dX4_tell_267 : decode cX4_tell 267 = .ok (.if_icmp .ne 25, 3) := by decide +kernel
theorem dX4_tell_270 : decode cX4_tell 270 = .ok (.aload_n 1, 1) := by decide +kernel
theorem dX4_tell_271 : decode cX4_tell 271 = .ok (.iload_n 3, 1) := by decide +kernel
theorem dX4_tell_272 : decode cX4_tell 272 = .ok (.iload 4, 2) := by decide +kernel
theorem dX4_tell_274 : decode cX4_tell 274 = .ok (.iload 5, 2) := by decide +kernel
theorem dX4_tell_276 : decode cX4_tell 276 = .ok (.aload_n 0, 1) := by decide +kernel
theorem dX4_tell_277 : decode cX4_tell 277 = .ok (.getfield 11, 3) := by decide +kernel
theorem dX4_tell_280 : decode cX4_tell 280 = .ok (.iconst 3, 1) := by decide +kernel
theorem dX4_tell_281 : decode cX4_tell 281 = .ok (.iaload, 1) := by decide +kernel
theorem dX4_tell_282 : decode cX4_tell 282 = .ok (.invokevirtual 59, 3) := by decide +kernel
theorem dX4_tell_285 : decode cX4_tell 285 = .ok (.ifCond .eq 7, 3) := by decide +kernel
theorem dX4_tell_288 : decode cX4_tell 288 = .ok (.iconst 1, 1) := by decide +kernel
theorem dX4_tell_289 : decode cX4_tell 289 = .ok (.goto 4, 3) := by decide +kernel
theorem dX4_tell_292 : decode cX4_tell 292 = .ok (.iconst 0, 1) := by decide +kernel
theorem dX4_tell_293 : decode cX4_tell 293 = .ok (.ireturn, 1) := by decide +kernel
theorem dX4_tell_294 : decode cX4_tell 294 = .ok (.iconst 0, 1) := by decide +kernel
theorem dX4_tell_295 : decode cX4_tell 295 = .ok (.ireturn, 1) := by decide +kernel
theorem dX5_init_0 : decode cX5_init 0 = .ok (.aload_n 0, 1) := by decide +kernel
theorem dX5_init_1 : decode cX5_init 1 = .ok (.invokespecial 3, 3) := by decide +kernel
theorem dX5_init_4 : decode cX5_init 4 = .ok (.aload_n 0, 1) := by decide +kernel
theorem dX5_init_5 : decode cX5_init 5 = .ok (.bipush 10, 2) := by decide +kernel
theorem dX5_init_7 : decode cX5_init 7 = .ok (.newarray .int, 2) := by decide +kernel
theorem dX5_init_9 : decode cX5_init 9 = .ok (.putfield 9, 3) := by decide +kernel
theorem dX5_init_12 : decode cX5_init 12 = .ok (.aload_n 0, 1) := by decide +kernel
theorem dX5_init_13 : decode cX5_init 13 = .ok (.sipush 539, 3) := by decide +kernel
theorem dX5_init_16 : decode cX5_init 16 = .ok (.newarray .long, 2) := by decide +kernel
theorem dX5_init_18 : decode cX5_init 18 = .ok (.putfield 15, 3) := by decide +kernel
theorem dX5_init_21 : decode cX5_init 21 = .ok (.aload_n 0, 1) := by decide +kernel
theorem dX5_init_22 : decode cX5_init 22 = .ok (.sipush 539, 3) := by decide +kernel
theorem dX5_init_25 : decode cX5_init 25 = .ok (.newarray .long, 2) := by decide +kernel
theorem dX5_init_27 : decode cX5_init 27 = .ok (.putfield 19, 3) := by decide +kernel
theorem dX5_init_30 : decode cX5_init 30 = .ok (.aload_n 0, 1) := by decide +kernel
theorem dX5_init_31 : decode cX5_init 31 = .ok (.bipush 6, 2) := by decide +kernel
theorem dX5_init_33 : decode cX5_init 33 = .ok (.newarray .long, 2) := by decide +kernel
theorem dX5_init_35 : decode cX5_init 35 = .ok (.putfield 22, 3) := by decide +kernel
theorem dX5_init_38 : decode cX5_init 38 = .ok (.return_, 1) := by decide +kernel
theorem dX5_number_0 : decode cX5_number 0 = .ok (.iconst 0, 1) := by decide +kernel
theorem dX5_number_1 : decode cX5_number 1 = .ok (.istore_n 3, 1) := by decide +kernel
theorem dX5_number_2 : decode cX5_number 2 = .ok (.iload_n 3, 1) := by decide +kernel
theorem dX5_number_3 : decode cX5_number 3 = .ok (.bipush 6, 2) := by decide +kernel
theorem dX5_number_5 : decode cX5_number 5 = .ok (.if_icmp .ge 29, 3) := by decide +kernel
theorem dX5_number_8 : decode cX5_number 8 = .ok (.aload_n 0, 1) := by decide +kernel
theorem dX5_number_9 : decode cX5_number 9 = .ok (.getfield 22, 3) := by decide +kernel
theorem dX5_number_12 : decode cX5_number 12 = .ok (.iload_n 3, 1) := by decide +kernel
theorem dX5_number_13 : decode cX5_number 13 = .ok (.aload_n 1, 1) := by decide +kernel
theorem dX5_number_14 : decode cX5_number 14 = .ok (.getfield 25, 3) := by decide +kernel
theorem dX5_number_17 : decode cX5_number 17 = .ok (.iload_n 3, 1) := by decide +kernel
theorem dX5_number_18 : decode cX5_number 18 = .ok (.iaload, 1) := by decide +kernel
theorem dX5_number_19 : decode cX5_number 19 = .ok (.ifCond .le 7, 3) := by decide +kernel
theorem dX5_number_22 : decode cX5_number 22 = .ok (.lconst 1, 1) := by decide +kernel
theorem dX5_number_23 : decode cX5_number 23 = .ok (.goto 4, 3) := by decide +kernel
theorem dX5_number_26 : decode cX5_number 26 = .ok (.lconst 0, 1) := by decide +kernel
theorem dX5_number_27 : decode cX5_number 27 = .ok (.lastore, 1) := by decide +kernel
theorem dX5_number_28 : decode cX5_number 28 = .ok (.iinc 3 1, 3) := by decide +kernel
theorem dX5_number_31 : decode cX5_number 31 = .ok (.goto (-29), 3) := by decide +kernel
theorem dX5_number_34 : decode cX5_number 34 = .ok (.aload_n 0, 1) := by decide +kernel
theorem dX5_number_35 : decode cX5_number 35 = .ok (.aload_n 1, 1) := by decide +kernel
theorem dX5_number_36 : decode cX5_number 36 = .ok (.aload_n 2, 1) := by decide +kernel
theorem dX5_number_37 : decode cX5_number 37 = .ok (.iconst (-1), 1) := by decide +kernel
theorem dX5_number_38 : decode cX5_number 38 = .ok (.iconst (-1), 1) := by decide +kernel
theorem dX5_number_39 : decode cX5_number 39 = .ok (.invokevirtual 30, 3) := by decide +kernel
theorem dX5_number_42 : decode cX5_number 42 = .ok (.lreturn, 1) := by decide +kernel
theorem dX5_weight_0 : decode cX5_weight 0 = .ok (.aload_n 0, 1) := by decide +kernel
theorem dX5_weight_1 : decode cX5_weight 1 = .ok (.aload_n 1, 1) := by decide +kernel
theorem dX5_weight_2 : decode cX5_weight 2 = .ok (.aload_n 2, 1) := by decide +kernel
theorem dX5_weight_3 : decode cX5_weight 3 = .ok (.iconst (-1), 1) := by decide +kernel
theorem dX5_weight_4 : decode cX5_weight 4 = .ok (.iconst (-1), 1) := by decide +kernel
theorem dX5_weight_5 : decode cX5_weight 5 = .ok (.invokevirtual 34, 3) := by decide +kernel
theorem dX5_weight_8 : decode cX5_weight 8 = .ok (.lreturn, 1) := by decide +kernel
theorem dX5_weightWith_0 : decode cX5_weightWith 0 = .ok (.iconst 0, 1) := by decide +kernel
theorem dX5_weightWith_1 : decode cX5_weightWith 1 = .ok (.istore 5, 2) := by decide +kernel
theorem dX5_weightWith_3 : decode cX5_weightWith 3 = .ok (.iload 5, 2) := by decide +kernel
theorem dX5_weightWith_5 : decode cX5_weightWith 5 = .ok (.bipush 6, 2) := by decide +kernel
theorem dX5_weightWith_7 : decode cX5_weightWith 7 = .ok (.if_icmp .ge 24, 3) := by decide +kernel
theorem dX5_weightWith_10 : decode cX5_weightWith 10 = .ok (.aload_n 0, 1) := by decide +kernel
theorem dX5_weightWith_11 : decode cX5_weightWith 11 = .ok (.getfield 22, 3) := by decide +kernel
theorem dX5_weightWith_14 : decode cX5_weightWith 14 = .ok (.iload 5, 2) := by decide +kernel
theorem dX5_weightWith_16 : decode cX5_weightWith 16 = .ok (.aload_n 1, 1) := by decide +kernel
theorem dX5_weightWith_17 : decode cX5_weightWith 17 = .ok (.getfield 25, 3) := by decide +kernel
theorem dX5_weightWith_20 : decode cX5_weightWith 20 = .ok (.iload 5, 2) := by decide +kernel
theorem dX5_weightWith_22 : decode cX5_weightWith 22 = .ok (.iaload, 1) := by decide +kernel
theorem dX5_weightWith_23 : decode cX5_weightWith 23 = .ok (.i2l, 1) := by decide +kernel
theorem dX5_weightWith_24 : decode cX5_weightWith 24 = .ok (.lastore, 1) := by decide +kernel
theorem dX5_weightWith_25 : decode cX5_weightWith 25 = .ok (.iinc 5 1, 3) := by decide +kernel
theorem dX5_weightWith_28 : decode cX5_weightWith 28 = .ok (.goto (-25), 3) := by decide +kernel
theorem dX5_weightWith_31 : decode cX5_weightWith 31 = .ok (.aload_n 0, 1) := by decide +kernel
theorem dX5_weightWith_32 : decode cX5_weightWith 32 = .ok (.aload_n 1, 1) := by decide +kernel
theorem dX5_weightWith_33 : decode cX5_weightWith 33 = .ok (.aload_n 2, 1) := by decide +kernel
theorem dX5_weightWith_34 : decode cX5_weightWith 34 = .ok (.iload_n 3, 1) := by decide +kernel
theorem dX5_weightWith_35 : decode cX5_weightWith 35 = .ok (.iload 4, 2) := by decide +kernel
theorem dX5_weightWith_37 : decode cX5_weightWith 37 = .ok (.invokevirtual 30, 3) := by decide +kernel
theorem dX5_weightWith_40 : decode cX5_weightWith 40 = .ok (.lreturn, 1) := by decide +kernel
theorem dX5_sumUp_0 : decode cX5_sumUp 0 = .ok (.aload_n 0, 1) := by decide +kernel
theorem dX5_sumUp_1 : decode cX5_sumUp 1 = .ok (.getfield 19, 3) := by decide +kernel
theorem dX5_sumUp_4 : decode cX5_sumUp 4 = .ok (.lconst 0, 1) := by decide +kernel
theorem dX5_sumUp_5 : decode cX5_sumUp 5 = .ok (.invokestatic 37, 3) := by decide +kernel
theorem dX5_sumUp_8 : decode cX5_sumUp 8 = .ok (.aload_n 0, 1) := by decide +kernel
theorem dX5_sumUp_9 : decode cX5_sumUp 9 = .ok (.getfield 19, 3) := by decide +kernel
theorem dX5_sumUp_12 : decode cX5_sumUp 12 = .ok (.aload_n 1, 1) := by decide +kernel
theorem dX5_sumUp_13 : decode cX5_sumUp 13 = .ok (.invokevirtual 43, 3) := by decide +kernel
theorem dX5_sumUp_16 : decode cX5_sumUp 16 = .ok (.lconst 1, 1) := by decide +kernel
theorem dX5_sumUp_17 : decode cX5_sumUp 17 = .ok (.lastore, 1) := by decide +kernel
theorem dX5_sumUp_18 : decode cX5_sumUp 18 = .ok (.iconst 0, 1) := by decide +kernel
theorem dX5_sumUp_19 : decode cX5_sumUp 19 = .ok (.istore 5, 2) := by decide +kernel
theorem dX5_sumUp_21 : decode cX5_sumUp 21 = .ok (.iload 5, 2) := by decide +kernel
theorem dX5_sumUp_23 : decode cX5_sumUp 23 = .ok (.aload_n 2, 1) := by decide +kernel
theorem dX5_sumUp_24 : decode cX5_sumUp 24 = .ok (.getfield 47, 3) := by decide +kernel
theorem dX5_sumUp_27 : decode cX5_sumUp 27 = .ok (.if_icmp .ge 56, 3) := by decide +kernel
theorem dX5_sumUp_30 : decode cX5_sumUp 30 = .ok (.iconst 0, 1) := by decide +kernel
theorem dX5_sumUp_31 : decode cX5_sumUp 31 = .ok (.istore 6, 2) := by decide +kernel
theorem dX5_sumUp_33 : decode cX5_sumUp 33 = .ok (.iload 6, 2) := by decide +kernel
theorem dX5_sumUp_35 : decode cX5_sumUp 35 = .ok (.aload_n 1, 1) := by decide +kernel
theorem dX5_sumUp_36 : decode cX5_sumUp 36 = .ok (.getfield 53, 3) := by decide +kernel
theorem dX5_sumUp_39 : decode cX5_sumUp 39 = .ok (.if_icmp .ge 38, 3) := by decide +kernel
theorem dX5_sumUp_42 : decode cX5_sumUp 42 = .ok (.iload 5, 2) := by decide +kernel
theorem dX5_sumUp_44 : decode cX5_sumUp 44 = .ok (.iload_n 3, 1) := by decide +kernel
theorem dX5_sumUp_45 : decode cX5_sumUp 45 = .ok (.if_icmp .ne 10, 3) := by decide +kernel
theorem dX5_sumUp_48 : decode cX5_sumUp 48 = .ok (.iload 6, 2) := by decide +kernel
theorem dX5_sumUp_50 : decode cX5_sumUp 50 = .ok (.iload 4, 2) := by decide +kernel
theorem dX5_sumUp_52 : decode cX5_sumUp 52 = .ok (.if_icmp .ne 19, 3) := by decide +kernel
theorem dX5_sumUp_55 : decode cX5_sumUp 55 = .ok (.aload_n 0, 1) := by decide +kernel
theorem dX5_sumUp_56 : decode cX5_sumUp 56 = .ok (.aload_n 1, 1) := by decide +kernel
theorem dX5_sumUp_57 : decode cX5_sumUp 57 = .ok (.iload 5, 2) := by decide +kernel
theorem dX5_sumUp_59 : decode cX5_sumUp 59 = .ok (.aload_n 2, 1) := by decide +kernel
theorem dX5_sumUp_60 : decode cX5_sumUp 60 = .ok (.getfield 56, 3) := by decide +kernel
theorem dX5_sumUp_63 : decode cX5_sumUp 63 = .ok (.iload 5, 2) := by decide +kernel
theorem dX5_sumUp_65 : decode cX5_sumUp 65 = .ok (.iaload, 1) := by decide +kernel
theorem dX5_sumUp_66 : decode cX5_sumUp 66 = .ok (.iload 6, 2) := by decide +kernel
theorem dX5_sumUp_68 : decode cX5_sumUp 68 = .ok (.invokevirtual 59, 3) := by decide +kernel
theorem dX5_sumUp_71 : decode cX5_sumUp 71 = .ok (.iinc 6 1, 3) := by decide +kernel
theorem dX5_sumUp_74 : decode cX5_sumUp 74 = .ok (.goto (-41), 3) := by decide +kernel
theorem dX5_sumUp_77 : decode cX5_sumUp 77 = .ok (.iinc 5 1, 3) := by decide +kernel
theorem dX5_sumUp_80 : decode cX5_sumUp 80 = .ok (.goto (-59), 3) := by decide +kernel
theorem dX5_sumUp_83 : decode cX5_sumUp 83 = .ok (.lconst 0, 1) := by decide +kernel
theorem dX5_sumUp_84 : decode cX5_sumUp 84 = .ok (.lstore 5, 2) := by decide +kernel
theorem dX5_sumUp_86 : decode cX5_sumUp 86 = .ok (.iconst 0, 1) := by decide +kernel
theorem dX5_sumUp_87 : decode cX5_sumUp 87 = .ok (.istore 7, 2) := by decide +kernel
theorem dX5_sumUp_89 : decode cX5_sumUp 89 = .ok (.iload 7, 2) := by decide +kernel
theorem dX5_sumUp_91 : decode cX5_sumUp 91 = .ok (.bipush 49, 2) := by decide +kernel
theorem dX5_sumUp_93 : decode cX5_sumUp 93 = .ok (.if_icmp .ge 29, 3) := by decide +kernel
theorem dX5_sumUp_96 : decode cX5_sumUp 96 = .ok (.lload 5, 2) := by decide +kernel
theorem dX5_sumUp_98 : decode cX5_sumUp 98 = .ok (.aload_n 0, 1) := by decide +kernel
theorem dX5_sumUp_99 : decode cX5_sumUp 99 = .ok (.getfield 19, 3) := by decide +kernel
theorem dX5_sumUp_102 : decode cX5_sumUp 102 = .ok (.aload_n 2, 1) := by decide +kernel
theorem dX5_sumUp_103 : decode cX5_sumUp 103 = .ok (.getfield 47, 3) := by decide +kernel
theorem dX5_sumUp_106 : decode cX5_sumUp 106 = .ok (.bipush 49, 2) := by decide +kernel
theorem dX5_sumUp_108 : decode cX5_sumUp 108 = .ok (.imul, 1) := by decide +kernel
theorem dX5_sumUp_109 : decode cX5_sumUp 109 = .ok (.iload 7, 2) := by decide +kernel
theorem dX5_sumUp_111 : decode cX5_sumUp 111 = .ok (.iadd, 1) := by decide +kernel
theorem dX5_sumUp_112 : decode cX5_sumUp 112 = .ok (.laload, 1) := by decide +kernel
theorem dX5_sumUp_113 : decode cX5_sumUp 113 = .ok (.ladd, 1) := by decide +kernel
theorem dX5_sumUp_114 : decode cX5_sumUp 114 = .ok (.lstore 5, 2) := by decide +kernel
theorem dX5_sumUp_116 : decode cX5_sumUp 116 = .ok (.iinc 7 1, 3) := by decide +kernel
theorem dX5_sumUp_119 : decode cX5_sumUp 119 = .ok (.goto (-30), 3) := by decide +kernel
theorem dX5_sumUp_122 : decode cX5_sumUp 122 = .ok (.lload 5, 2) := by decide +kernel
theorem dX5_sumUp_124 : decode cX5_sumUp 124 = .ok (.lreturn, 1) := by decide +kernel
theorem dX5_sumOver_0 : decode cX5_sumOver 0 = .ok (.iconst 0, 1) := by decide +kernel
theorem dX5_sumOver_1 : decode cX5_sumOver 1 = .ok (.istore 5, 2) := by decide +kernel
theorem dX5_sumOver_3 : decode cX5_sumOver 3 = .ok (.iload 5, 2) := by decide +kernel
theorem dX5_sumOver_5 : decode cX5_sumOver 5 = .ok (.bipush 49, 2) := by decide +kernel
theorem dX5_sumOver_7 : decode cX5_sumOver 7 = .ok (.if_icmp .ge 79, 3) := by decide +kernel
theorem dX5_sumOver_10 : decode cX5_sumOver 10 = .ok (.iload 5, 2) := by decide +kernel
theorem dX5_sumOver_12 : decode cX5_sumOver 12 = .ok (.bipush 7, 2) := by decide +kernel
theorem dX5_sumOver_14 : decode cX5_sumOver 14 = .ok (.irem, 1) := by decide +kernel
theorem dX5_sumOver_15 : decode cX5_sumOver 15 = .ok (.istore 6, 2) := by decide +kernel
theorem dX5_sumOver_17 : decode cX5_sumOver 17 = .ok (.aload_n 1, 1) := by decide +kernel
theorem dX5_sumOver_18 : decode cX5_sumOver 18 = .ok (.getfield 63, 3) := by decide +kernel
theorem dX5_sumOver_21 : decode cX5_sumOver 21 = .ok (.iload 5, 2) := by decide +kernel
theorem dX5_sumOver_23 : decode cX5_sumOver 23 = .ok (.bipush 7, 2) := by decide +kernel
theorem dX5_sumOver_25 : decode cX5_sumOver 25 = .ok (.idiv, 1) := by decide +kernel
theorem dX5_sumOver_26 : decode cX5_sumOver 26 = .ok (.iload 6, 2) := by decide +kernel
theorem dX5_sumOver_28 : decode cX5_sumOver 28 = .ok (.iload 4, 2) := by decide +kernel
theorem dX5_sumOver_30 : decode cX5_sumOver 30 = .ok (.invokestatic 66, 3) := by decide +kernel
theorem dX5_sumOver_33 : decode cX5_sumOver 33 = .ok (.iload_n 3, 1) := by decide +kernel
theorem dX5_sumOver_34 : decode cX5_sumOver 34 = .ok (.if_icmp .ne 46, 3) := by decide +kernel
theorem dX5_sumOver_37 : decode cX5_sumOver 37 = .ok (.aload_n 0, 1) := by decide +kernel
theorem dX5_sumOver_38 : decode cX5_sumOver 38 = .ok (.getfield 19, 3) := by decide +kernel
theorem dX5_sumOver_41 : decode cX5_sumOver 41 = .ok (.iload_n 2, 1) := by decide +kernel
theorem dX5_sumOver_42 : decode cX5_sumOver 42 = .ok (.iconst 1, 1) := by decide +kernel
theorem dX5_sumOver_43 : decode cX5_sumOver 43 = .ok (.iadd, 1) := by decide +kernel
theorem dX5_sumOver_44 : decode cX5_sumOver 44 = .ok (.bipush 49, 2) := by decide +kernel
theorem dX5_sumOver_46 : decode cX5_sumOver 46 = .ok (.imul, 1) := by decide +kernel
theorem dX5_sumOver_47 : decode cX5_sumOver 47 = .ok (.iload 6, 2) := by decide +kernel
theorem dX5_sumOver_49 : decode cX5_sumOver 49 = .ok (.bipush 7, 2) := by decide +kernel
theorem dX5_sumOver_51 : decode cX5_sumOver 51 = .ok (.imul, 1) := by decide +kernel
theorem dX5_sumOver_52 : decode cX5_sumOver 52 = .ok (.iadd, 1) := by decide +kernel
theorem dX5_sumOver_53 : decode cX5_sumOver 53 = .ok (.iload 4, 2) := by decide +kernel
theorem dX5_sumOver_55 : decode cX5_sumOver 55 = .ok (.iadd, 1) := by decide +kernel
theorem dX5_sumOver_56 : decode cX5_sumOver 56 = .ok (.dup2, 1) := by decide +kernel
theorem dX5_sumOver_57 : decode cX5_sumOver 57 = .ok (.laload, 1) := by decide +kernel
theorem dX5_sumOver_58 : decode cX5_sumOver 58 = .ok (.aload_n 0, 1) := by decide +kernel
theorem dX5_sumOver_59 : decode cX5_sumOver 59 = .ok (.getfield 19, 3) := by decide +kernel
theorem dX5_sumOver_62 : decode cX5_sumOver 62 = .ok (.iload_n 2, 1) := by decide +kernel
theorem dX5_sumOver_63 : decode cX5_sumOver 63 = .ok (.bipush 49, 2) := by decide +kernel
theorem dX5_sumOver_65 : decode cX5_sumOver 65 = .ok (.imul, 1) := by decide +kernel
theorem dX5_sumOver_66 : decode cX5_sumOver 66 = .ok (.iload 5, 2) := by decide +kernel
theorem dX5_sumOver_68 : decode cX5_sumOver 68 = .ok (.iadd, 1) := by decide +kernel
theorem dX5_sumOver_69 : decode cX5_sumOver 69 = .ok (.laload, 1) := by decide +kernel
theorem dX5_sumOver_70 : decode cX5_sumOver 70 = .ok (.aload_n 0, 1) := by decide +kernel
theorem dX5_sumOver_71 : decode cX5_sumOver 71 = .ok (.getfield 22, 3) := by decide +kernel
theorem dX5_sumOver_74 : decode cX5_sumOver 74 = .ok (.iload 4, 2) := by decide +kernel
theorem dX5_sumOver_76 : decode cX5_sumOver 76 = .ok (.laload, 1) := by decide +kernel
theorem dX5_sumOver_77 : decode cX5_sumOver 77 = .ok (.lmul, 1) := by decide +kernel
theorem dX5_sumOver_78 : decode cX5_sumOver 78 = .ok (.ladd, 1) := by decide +kernel
theorem dX5_sumOver_79 : decode cX5_sumOver 79 = .ok (.lastore, 1) := by decide +kernel
theorem dX5_sumOver_80 : decode cX5_sumOver 80 = .ok (.iinc 5 1, 3) := by decide +kernel
theorem dX5_sumOver_83 : decode cX5_sumOver 83 = .ok (.goto (-80), 3) := by decide +kernel
theorem dX5_sumOver_86 : decode cX5_sumOver 86 = .ok (.return_, 1) := by decide +kernel
theorem dX5_findLikeliest_0 : decode cX5_findLikeliest 0 = .ok (.aload_n 0, 1) := by decide +kernel
theorem dX5_findLikeliest_1 : decode cX5_findLikeliest 1 = .ok (.getfield 15, 3) := by decide +kernel
theorem dX5_findLikeliest_4 : decode cX5_findLikeliest 4 = .ok (.lconst 1, 1) := by decide +kernel
theorem dX5_findLikeliest_5 : decode cX5_findLikeliest 5 = .ok (.invokestatic 37, 3) := by decide +kernel
theorem dX5_findLikeliest_8 : decode cX5_findLikeliest 8 = .ok (.aload_n 2, 1) := by decide +kernel
theorem dX5_findLikeliest_9 : decode cX5_findLikeliest 9 = .ok (.getfield 47, 3) := by decide +kernel
theorem dX5_findLikeliest_12 : decode cX5_findLikeliest 12 = .ok (.iconst 1, 1) := by decide +kernel
theorem dX5_findLikeliest_13 : decode cX5_findLikeliest 13 = .ok (.isub, 1) := by decide +kernel
theorem dX5_findLikeliest_14 : decode cX5_findLikeliest 14 = .ok (.istore_n 3, 1) := by decide +kernel
theorem dX5_findLikeliest_15 : decode cX5_findLikeliest 15 = .ok (.iload_n 3, 1) := by decide +kernel
theorem dX5_findLikeliest_16 : decode cX5_findLikeliest 16 = .ok (.ifCond .lt 51, 3) := by decide +kernel
theorem dX5_findLikeliest_19 : decode cX5_findLikeliest 19 = .ok (.iconst 0, 1) := by decide +kernel
theorem dX5_findLikeliest_20 : decode cX5_findLikeliest 20 = .ok (.istore 4, 2) := by decide +kernel
theorem dX5_findLikeliest_22 : decode cX5_findLikeliest 22 = .ok (.iload 4, 2) := by decide +kernel
theorem dX5_findLikeliest_24 : decode cX5_findLikeliest 24 = .ok (.bipush 49, 2) := by decide +kernel
theorem dX5_findLikeliest_26 : decode cX5_findLikeliest 26 = .ok (.if_icmp .ge 35, 3) := by decide +kernel
theorem dX5_findLikeliest_29 : decode cX5_findLikeliest 29 = .ok (.aload_n 0, 1) := by decide +kernel
theorem dX5_findLikeliest_30 : decode cX5_findLikeliest 30 = .ok (.getfield 15, 3) := by decide +kernel
theorem dX5_findLikeliest_33 : decode cX5_findLikeliest 33 = .ok (.iload_n 3, 1) := by decide +kernel
theorem dX5_findLikeliest_34 : decode cX5_findLikeliest 34 = .ok (.bipush 49, 2) := by decide +kernel
theorem dX5_findLikeliest_36 : decode cX5_findLikeliest 36 = .ok (.imul, 1) := by decide +kernel
theorem dX5_findLikeliest_37 : decode cX5_findLikeliest 37 = .ok (.iload 4, 2) := by decide +kernel
theorem dX5_findLikeliest_39 : decode cX5_findLikeliest 39 = .ok (.iadd, 1) := by decide +kernel
theorem dX5_findLikeliest_40 : decode cX5_findLikeliest 40 = .ok (.aload_n 0, 1) := by decide +kernel
theorem dX5_findLikeliest_41 : decode cX5_findLikeliest 41 = .ok (.aload_n 1, 1) := by decide +kernel
theorem dX5_findLikeliest_42 : decode cX5_findLikeliest 42 = .ok (.iload_n 3, 1) := by decide +kernel
theorem dX5_findLikeliest_43 : decode cX5_findLikeliest 43 = .ok (.iload 4, 2) := by decide +kernel
theorem dX5_findLikeliest_45 : decode cX5_findLikeliest 45 = .ok (.aload_n 2, 1) := by decide +kernel
theorem dX5_findLikeliest_46 : decode cX5_findLikeliest 46 = .ok (.getfield 56, 3) := by decide +kernel
theorem dX5_findLikeliest_49 : decode cX5_findLikeliest 49 = .ok (.iload_n 3, 1) := by decide +kernel
theorem dX5_findLikeliest_50 : decode cX5_findLikeliest 50 = .ok (.iaload, 1) := by decide +kernel
theorem dX5_findLikeliest_51 : decode cX5_findLikeliest 51 = .ok (.invokevirtual 70, 3) := by decide +kernel
theorem dX5_findLikeliest_54 : decode cX5_findLikeliest 54 = .ok (.lastore, 1) := by decide +kernel
theorem dX5_findLikeliest_55 : decode cX5_findLikeliest 55 = .ok (.iinc 4 1, 3) := by decide +kernel
theorem dX5_findLikeliest_58 : decode cX5_findLikeliest 58 = .ok (.goto (-36), 3) := by decide +kernel
theorem dX5_findLikeliest_61 : decode cX5_findLikeliest 61 = .ok (.iinc 3 (-1), 3) := by decide +kernel
theorem dX5_findLikeliest_64 : decode cX5_findLikeliest 64 = .ok (.goto (-49), 3) := by decide +kernel
theorem dX5_findLikeliest_67 : decode cX5_findLikeliest 67 = .ok (.aload_n 1, 1) := by decide +kernel
theorem dX5_findLikeliest_68 : decode cX5_findLikeliest 68 = .ok (.invokevirtual 43, 3) := by decide +kernel
theorem dX5_findLikeliest_71 : decode cX5_findLikeliest 71 = .ok (.istore_n 3, 1) := by decide +kernel
theorem dX5_findLikeliest_72 : decode cX5_findLikeliest 72 = .ok (.aload_n 0, 1) := by decide +kernel
theorem dX5_findLikeliest_73 : decode cX5_findLikeliest 73 = .ok (.getfield 15, 3) := by decide +kernel
theorem dX5_findLikeliest_76 : decode cX5_findLikeliest 76 = .ok (.iload_n 3, 1) := by decide +kernel
theorem dX5_findLikeliest_77 : decode cX5_findLikeliest 77 = .ok (.laload, 1) := by decide +kernel
theorem dX5_findLikeliest_78 : decode cX5_findLikeliest 78 = .ok (.lconst 0, 1) := by decide +kernel
theorem dX5_findLikeliest_79 : decode cX5_findLikeliest 79 = .ok (.lcmp, 1) := by decide +kernel
theorem dX5_findLikeliest_80 : decode cX5_findLikeliest 80 = .ok (.ifCond .ne 5, 3) := by decide +kernel
theorem dX5_findLikeliest_83 : decode cX5_findLikeliest 83 = .ok (.iconst 0, 1) := by decide +kernel
theorem dX5_findLikeliest_84 : decode cX5_findLikeliest 84 = .ok (.ireturn, 1) := by decide +kernel
theorem dX5_findLikeliest_85 : decode cX5_findLikeliest 85 = .ok (.iconst 0, 1) := by decide +kernel
theorem dX5_findLikeliest_86 : decode cX5_findLikeliest 86 = .ok (.istore 4, 2) := by decide +kernel
theorem dX5_findLikeliest_88 : decode cX5_findLikeliest 88 = .ok (.iload 4, 2) := by decide +kernel
theorem dX5_findLikeliest_90 : decode cX5_findLikeliest 90 = .ok (.aload_n 2, 1) := by decide +kernel
theorem dX5_findLikeliest_91 : decode cX5_findLikeliest 91 = .ok (.getfield 47, 3) := by decide +kernel
theorem dX5_findLikeliest_94 : decode cX5_findLikeliest 94 = .ok (.if_icmp .ge 47, 3) := by decide +kernel
theorem dX5_findLikeliest_97 : decode cX5_findLikeliest 97 = .ok (.aload_n 0, 1) := by decide +kernel
theorem dX5_findLikeliest_98 : decode cX5_findLikeliest 98 = .ok (.getfield 9, 3) := by decide +kernel
theorem dX5_findLikeliest_101 : decode cX5_findLikeliest 101 = .ok (.iload 4, 2) := by decide +kernel
theorem dX5_findLikeliest_103 : decode cX5_findLikeliest 103 = .ok (.aload_n 0, 1) := by decide +kernel
theorem dX5_findLikeliest_104 : decode cX5_findLikeliest 104 = .ok (.aload_n 1, 1) := by decide +kernel
theorem dX5_findLikeliest_105 : decode cX5_findLikeliest 105 = .ok (.iload 4, 2) := by decide +kernel
theorem dX5_findLikeliest_107 : decode cX5_findLikeliest 107 = .ok (.iload_n 3, 1) := by decide +kernel
theorem dX5_findLikeliest_108 : decode cX5_findLikeliest 108 = .ok (.aload_n 2, 1) := by decide +kernel
theorem dX5_findLikeliest_109 : decode cX5_findLikeliest 109 = .ok (.getfield 56, 3) := by decide +kernel
theorem dX5_findLikeliest_112 : decode cX5_findLikeliest 112 = .ok (.iload 4, 2) := by decide +kernel
theorem dX5_findLikeliest_114 : decode cX5_findLikeliest 114 = .ok (.iaload, 1) := by decide +kernel
theorem dX5_findLikeliest_115 : decode cX5_findLikeliest 115 = .ok (.invokevirtual 74, 3) := by decide +kernel
theorem dX5_findLikeliest_118 : decode cX5_findLikeliest 118 = .ok (.iastore, 1) := by decide +kernel
theorem dX5_findLikeliest_119 : decode cX5_findLikeliest 119 = .ok (.iload_n 3, 1) := by decide +kernel
theorem dX5_findLikeliest_120 : decode cX5_findLikeliest 120 = .ok (.bipush 7, 2) := by decide +kernel
theorem dX5_findLikeliest_122 : decode cX5_findLikeliest 122 = .ok (.irem, 1) := by decide +kernel
theorem dX5_findLikeliest_123 : decode cX5_findLikeliest 123 = .ok (.bipush 7, 2) := by decide +kernel
theorem dX5_findLikeliest_125 : decode cX5_findLikeliest 125 = .ok (.imul, 1) := by decide +kernel
theorem dX5_findLikeliest_126 : decode cX5_findLikeliest 126 = .ok (.aload_n 0, 1) := by decide +kernel
theorem dX5_findLikeliest_127 : decode cX5_findLikeliest 127 = .ok (.getfield 9, 3) := by decide +kernel
theorem dX5_findLikeliest_130 : decode cX5_findLikeliest 130 = .ok (.iload 4, 2) := by decide +kernel
theorem dX5_findLikeliest_132 : decode cX5_findLikeliest 132 = .ok (.iaload, 1) := by decide +kernel
theorem dX5_findLikeliest_133 : decode cX5_findLikeliest 133 = .ok (.iadd, 1) := by decide +kernel
theorem dX5_findLikeliest_134 : decode cX5_findLikeliest 134 = .ok (.istore_n 3, 1) := by decide +kernel
theorem dX5_findLikeliest_135 : decode cX5_findLikeliest 135 = .ok (.iinc 4 1, 3) := by decide +kernel
theorem dX5_findLikeliest_138 : decode cX5_findLikeliest 138 = .ok (.goto (-50), 3) := by decide +kernel
theorem dX5_findLikeliest_141 : decode cX5_findLikeliest 141 = .ok (.iconst 1, 1) := by decide +kernel
theorem dX5_findLikeliest_142 : decode cX5_findLikeliest 142 = .ok (.ireturn, 1) := by decide +kernel
theorem dX5_greatestFrom_0 : decode cX5_greatestFrom 0 = .ok (.lconst 0, 1) := by decide +kernel
theorem dX5_greatestFrom_1 : decode cX5_greatestFrom 1 = .ok (.lstore 5, 2) := by decide +kernel
theorem dX5_greatestFrom_3 : decode cX5_greatestFrom 3 = .ok (.iconst 0, 1) := by decide +kernel
theorem dX5_greatestFrom_4 : decode cX5_greatestFrom 4 = .ok (.istore 7, 2) := by decide +kernel
theorem dX5_greatestFrom_6 : decode cX5_greatestFrom 6 = .ok (.iload 7, 2) := by decide +kernel
theorem dX5_greatestFrom_8 : decode cX5_greatestFrom 8 = .ok (.aload_n 1, 1) := by decide +kernel
theorem dX5_greatestFrom_9 : decode cX5_greatestFrom 9 = .ok (.getfield 53, 3) := by decide +kernel
theorem dX5_greatestFrom_12 : decode cX5_greatestFrom 12 = .ok (.if_icmp .ge 27, 3) := by decide +kernel
theorem dX5_greatestFrom_15 : decode cX5_greatestFrom 15 = .ok (.lload 5, 2) := by decide +kernel
theorem dX5_greatestFrom_17 : decode cX5_greatestFrom 17 = .ok (.aload_n 0, 1) := by decide +kernel
theorem dX5_greatestFrom_18 : decode cX5_greatestFrom 18 = .ok (.aload_n 1, 1) := by decide +kernel
theorem dX5_greatestFrom_19 : decode cX5_greatestFrom 19 = .ok (.iload_n 2, 1) := by decide +kernel
theorem dX5_greatestFrom_20 : decode cX5_greatestFrom 20 = .ok (.iload_n 3, 1) := by decide +kernel
theorem dX5_greatestFrom_21 : decode cX5_greatestFrom 21 = .ok (.iload 4, 2) := by decide +kernel
theorem dX5_greatestFrom_23 : decode cX5_greatestFrom 23 = .ok (.iload 7, 2) := by decide +kernel
theorem dX5_greatestFrom_25 : decode cX5_greatestFrom 25 = .ok (.invokevirtual 78, 3) := by decide +kernel
theorem dX5_greatestFrom_28 : decode cX5_greatestFrom 28 = .ok (.invokestatic 82, 3) := by decide +kernel
theorem dX5_greatestFrom_31 : decode cX5_greatestFrom 31 = .ok (.lstore 5, 2) := by decide +kernel
theorem dX5_greatestFrom_33 : decode cX5_greatestFrom 33 = .ok (.iinc 7 1, 3) := by decide +kernel
theorem dX5_greatestFrom_36 : decode cX5_greatestFrom 36 = .ok (.goto (-30), 3) := by decide +kernel
theorem dX5_greatestFrom_39 : decode cX5_greatestFrom 39 = .ok (.lload 5, 2) := by decide +kernel
theorem dX5_greatestFrom_41 : decode cX5_greatestFrom 41 = .ok (.lreturn, 1) := by decide +kernel
theorem dX5_weightFrom_0 : decode cX5_weightFrom 0 = .ok (.iload_n 3, 1) := by decide +kernel
theorem dX5_weightFrom_1 : decode cX5_weightFrom 1 = .ok (.bipush 7, 2) := by decide +kernel
theorem dX5_weightFrom_3 : decode cX5_weightFrom 3 = .ok (.irem, 1) := by decide +kernel
theorem dX5_weightFrom_4 : decode cX5_weightFrom 4 = .ok (.istore 6, 2) := by decide +kernel
theorem dX5_weightFrom_6 : decode cX5_weightFrom 6 = .ok (.aload_n 1, 1) := by decide +kernel
theorem dX5_weightFrom_7 : decode cX5_weightFrom 7 = .ok (.getfield 63, 3) := by decide +kernel
theorem dX5_weightFrom_10 : decode cX5_weightFrom 10 = .ok (.iload_n 3, 1) := by decide +kernel
theorem dX5_weightFrom_11 : decode cX5_weightFrom 11 = .ok (.bipush 7, 2) := by decide +kernel
theorem dX5_weightFrom_13 : decode cX5_weightFrom 13 = .ok (.idiv, 1) := by decide +kernel
theorem dX5_weightFrom_14 : decode cX5_weightFrom 14 = .ok (.iload 6, 2) := by decide +kernel
theorem dX5_weightFrom_16 : decode cX5_weightFrom 16 = .ok (.iload 5, 2) := by decide +kernel
theorem dX5_weightFrom_18 : decode cX5_weightFrom 18 = .ok (.invokestatic 66, 3) := by decide +kernel
theorem dX5_weightFrom_21 : decode cX5_weightFrom 21 = .ok (.iload 4, 2) := by decide +kernel
theorem dX5_weightFrom_23 : decode cX5_weightFrom 23 = .ok (.if_icmp .eq 5, 3) := by decide +kernel
theorem dX5_weightFrom_26 : decode cX5_weightFrom 26 = .ok (.lconst 0, 1) := by decide +kernel
theorem dX5_weightFrom_27 : decode cX5_weightFrom 27 = .ok (.lreturn, 1) := by decide +kernel
theorem dX5_weightFrom_28 : decode cX5_weightFrom 28 = .ok (.aload_n 1, 1) := by decide +kernel
theorem dX5_weightFrom_29 : decode cX5_weightFrom 29 = .ok (.getfield 25, 3) := by decide +kernel
theorem dX5_weightFrom_32 : decode cX5_weightFrom 32 = .ok (.iload 5, 2) := by decide +kernel
theorem dX5_weightFrom_34 : decode cX5_weightFrom 34 = .ok (.iaload, 1) := by decide +kernel
theorem dX5_weightFrom_35 : decode cX5_weightFrom 35 = .ok (.i2l, 1) := by decide +kernel
theorem dX5_weightFrom_36 : decode cX5_weightFrom 36 = .ok (.aload_n 0, 1) := by decide +kernel
theorem dX5_weightFrom_37 : decode cX5_weightFrom 37 = .ok (.getfield 15, 3) := by decide +kernel
theorem dX5_weightFrom_40 : decode cX5_weightFrom 40 = .ok (.iload_n 2, 1) := by decide +kernel
theorem dX5_weightFrom_41 : decode cX5_weightFrom 41 = .ok (.iconst 1, 1) := by decide +kernel
theorem dX5_weightFrom_42 : decode cX5_weightFrom 42 = .ok (.iadd, 1) := by decide +kernel
theorem dX5_weightFrom_43 : decode cX5_weightFrom 43 = .ok (.bipush 49, 2) := by decide +kernel
theorem dX5_weightFrom_45 : decode cX5_weightFrom 45 = .ok (.imul, 1) := by decide +kernel
theorem dX5_weightFrom_46 : decode cX5_weightFrom 46 = .ok (.iload 6, 2) := by decide +kernel
theorem dX5_weightFrom_48 : decode cX5_weightFrom 48 = .ok (.bipush 7, 2) := by decide +kernel
theorem dX5_weightFrom_50 : decode cX5_weightFrom 50 = .ok (.imul, 1) := by decide +kernel
theorem dX5_weightFrom_51 : decode cX5_weightFrom 51 = .ok (.iadd, 1) := by decide +kernel
theorem dX5_weightFrom_52 : decode cX5_weightFrom 52 = .ok (.iload 5, 2) := by decide +kernel
theorem dX5_weightFrom_54 : decode cX5_weightFrom 54 = .ok (.iadd, 1) := by decide +kernel
theorem dX5_weightFrom_55 : decode cX5_weightFrom 55 = .ok (.laload, 1) := by decide +kernel
theorem dX5_weightFrom_56 : decode cX5_weightFrom 56 = .ok (.lmul, 1) := by decide +kernel
theorem dX5_weightFrom_57 : decode cX5_weightFrom 57 = .ok (.lreturn, 1) := by decide +kernel
theorem dX5_firstOfGreatest_0 : decode cX5_firstOfGreatest 0 = .ok (.iconst 0, 1) := by decide +kernel
theorem dX5_firstOfGreatest_1 : decode cX5_firstOfGreatest 1 = .ok (.istore 5, 2) := by decide +kernel
theorem dX5_firstOfGreatest_3 : decode cX5_firstOfGreatest 3 = .ok (.iload 5, 2) := by decide +kernel
theorem dX5_firstOfGreatest_5 : decode cX5_firstOfGreatest 5 = .ok (.aload_n 1, 1) := by decide +kernel
theorem dX5_firstOfGreatest_6 : decode cX5_firstOfGreatest 6 = .ok (.getfield 53, 3) := by decide +kernel
theorem dX5_firstOfGreatest_9 : decode cX5_firstOfGreatest 9 = .ok (.if_icmp .ge 38, 3) := by decide +kernel
theorem dX5_firstOfGreatest_12 : decode cX5_firstOfGreatest 12 = .ok (.aload_n 0, 1) := by decide +kernel
theorem dX5_firstOfGreatest_13 : decode cX5_firstOfGreatest 13 = .ok (.aload_n 1, 1) := by decide +kernel
theorem dX5_firstOfGreatest_14 : decode cX5_firstOfGreatest 14 = .ok (.iload_n 2, 1) := by decide +kernel
theorem dX5_firstOfGreatest_15 : decode cX5_firstOfGreatest 15 = .ok (.iload_n 3, 1) := by decide +kernel
theorem dX5_firstOfGreatest_16 : decode cX5_firstOfGreatest 16 = .ok (.iload 4, 2) := by decide +kernel
theorem dX5_firstOfGreatest_18 : decode cX5_firstOfGreatest 18 = .ok (.iload 5, 2) := by decide +kernel
theorem dX5_firstOfGreatest_20 : decode cX5_firstOfGreatest 20 = .ok (.invokevirtual 78, 3) := by decide +kernel
theorem dX5_firstOfGreatest_23 : decode cX5_firstOfGreatest 23 = .ok (.aload_n 0, 1) := by decide +kernel
theorem dX5_firstOfGreatest_24 : decode cX5_firstOfGreatest 24 = .ok (.getfield 15, 3) := by decide +kernel
theorem dX5_firstOfGreatest_27 : decode cX5_firstOfGreatest 27 = .ok (.iload_n 2, 1) := by decide +kernel
theorem dX5_firstOfGreatest_28 : decode cX5_firstOfGreatest 28 = .ok (.bipush 49, 2) := by decide +kernel
theorem dX5_firstOfGreatest_30 : decode cX5_firstOfGreatest 30 = .ok (.imul, 1) := by decide +kernel
theorem dX5_firstOfGreatest_31 : decode cX5_firstOfGreatest 31 = .ok (.iload_n 3, 1) := by decide +kernel
theorem dX5_firstOfGreatest_32 : decode cX5_firstOfGreatest 32 = .ok (.iadd, 1) := by decide +kernel
theorem dX5_firstOfGreatest_33 : decode cX5_firstOfGreatest 33 = .ok (.laload, 1) := by decide +kernel
theorem dX5_firstOfGreatest_34 : decode cX5_firstOfGreatest 34 = .ok (.lcmp, 1) := by decide +kernel
theorem dX5_firstOfGreatest_35 : decode cX5_firstOfGreatest 35 = .ok (.ifCond .ne 6, 3) := by decide +kernel
theorem dX5_firstOfGreatest_38 : decode cX5_firstOfGreatest 38 = .ok (.iload 5, 2) := by decide +kernel
theorem dX5_firstOfGreatest_40 : decode cX5_firstOfGreatest 40 = .ok (.ireturn, 1) := by decide +kernel
theorem dX5_firstOfGreatest_41 : decode cX5_firstOfGreatest 41 = .ok (.iinc 5 1, 3) := by decide +kernel
theorem dX5_firstOfGreatest_44 : decode cX5_firstOfGreatest 44 = .ok (.goto (-41), 3) := by decide +kernel
theorem dX5_firstOfGreatest_47 : decode cX5_firstOfGreatest 47 = .ok (.iconst 0, 1) := by decide +kernel
theorem dX5_firstOfGreatest_48 : decode cX5_firstOfGreatest 48 = .ok (.ireturn, 1) := by decide +kernel
theorem dX6_init_0 : decode cX6_init 0 = .ok (.aload_n 0, 1) := by decide +kernel
theorem dX6_init_1 : decode cX6_init 1 = .ok (.invokespecial 3, 3) := by decide +kernel
theorem dX6_init_4 : decode cX6_init 4 = .ok (.aload_n 0, 1) := by decide +kernel
theorem dX6_init_5 : decode cX6_init 5 = .ok (.bipush 6, 2) := by decide +kernel
theorem dX6_init_7 : decode cX6_init 7 = .ok (.newarray .int, 2) := by decide +kernel
theorem dX6_init_9 : decode cX6_init 9 = .ok (.putfield 9, 3) := by decide +kernel
theorem dX6_init_12 : decode cX6_init 12 = .ok (.aload_n 0, 1) := by decide +kernel
theorem dX6_init_13 : decode cX6_init 13 = .ok (.bipush 6, 2) := by decide +kernel
theorem dX6_init_15 : decode cX6_init 15 = .ok (.newarray .int, 2) := by decide +kernel
theorem dX6_init_17 : decode cX6_init 17 = .ok (.putfield 15, 3) := by decide +kernel
theorem dX6_init_20 : decode cX6_init 20 = .ok (.aload_n 0, 1) := by decide +kernel
theorem dX6_init_21 : decode cX6_init 21 = .ok (.bipush 6, 2) := by decide +kernel
theorem dX6_init_23 : decode cX6_init 23 = .ok (.newarray .int, 2) := by decide +kernel
theorem dX6_init_25 : decode cX6_init 25 = .ok (.putfield 18, 3) := by decide +kernel
theorem dX6_init_28 : decode cX6_init 28 = .ok (.aload_n 0, 1) := by decide +kernel
theorem dX6_init_29 : decode cX6_init 29 = .ok (.bipush 10, 2) := by decide +kernel
theorem dX6_init_31 : decode cX6_init 31 = .ok (.newarray .int, 2) := by decide +kernel
theorem dX6_init_33 : decode cX6_init 33 = .ok (.putfield 21, 3) := by decide +kernel
theorem dX6_init_36 : decode cX6_init 36 = .ok (.return_, 1) := by decide +kernel
theorem dX6_begin_0 : decode cX6_begin 0 = .ok (.aload_n 1, 1) := by decide +kernel
theorem dX6_begin_1 : decode cX6_begin 1 = .ok (.getfield 24, 3) := by decide +kernel
theorem dX6_begin_4 : decode cX6_begin 4 = .ok (.iconst 0, 1) := by decide +kernel
theorem dX6_begin_5 : decode cX6_begin 5 = .ok (.aload_n 0, 1) := by decide +kernel
theorem dX6_begin_6 : decode cX6_begin 6 = .ok (.getfield 9, 3) := by decide +kernel
theorem dX6_begin_9 : decode cX6_begin 9 = .ok (.iconst 0, 1) := by decide +kernel
theorem dX6_begin_10 : decode cX6_begin 10 = .ok (.bipush 6, 2) := by decide +kernel
theorem dX6_begin_12 : decode cX6_begin 12 = .ok (.invokestatic 27, 3) := by decide +kernel
theorem dX6_begin_15 : decode cX6_begin 15 = .ok (.aload_n 1, 1) := by decide +kernel
theorem dX6_begin_16 : decode cX6_begin 16 = .ok (.getfield 33, 3) := by decide +kernel
theorem dX6_begin_19 : decode cX6_begin 19 = .ok (.iconst 0, 1) := by decide +kernel
theorem dX6_begin_20 : decode cX6_begin 20 = .ok (.aload_n 0, 1) := by decide +kernel
theorem dX6_begin_21 : decode cX6_begin 21 = .ok (.getfield 15, 3) := by decide +kernel
theorem dX6_begin_24 : decode cX6_begin 24 = .ok (.iconst 0, 1) := by decide +kernel
theorem dX6_begin_25 : decode cX6_begin 25 = .ok (.bipush 6, 2) := by decide +kernel
theorem dX6_begin_27 : decode cX6_begin 27 = .ok (.invokestatic 27, 3) := by decide +kernel
theorem dX6_begin_30 : decode cX6_begin 30 = .ok (.aload_n 1, 1) := by decide +kernel
theorem dX6_begin_31 : decode cX6_begin 31 = .ok (.getfield 34, 3) := by decide +kernel
theorem dX6_begin_34 : decode cX6_begin 34 = .ok (.iconst 0, 1) := by decide +kernel
theorem dX6_begin_35 : decode cX6_begin 35 = .ok (.aload_n 0, 1) := by decide +kernel
theorem dX6_begin_36 : decode cX6_begin 36 = .ok (.getfield 18, 3) := by decide +kernel
theorem dX6_begin_39 : decode cX6_begin 39 = .ok (.iconst 0, 1) := by decide +kernel
theorem dX6_begin_40 : decode cX6_begin 40 = .ok (.bipush 6, 2) := by decide +kernel
theorem dX6_begin_42 : decode cX6_begin 42 = .ok (.invokestatic 27, 3) := by decide +kernel
theorem dX6_begin_45 : decode cX6_begin 45 = .ok (.aload_n 0, 1) := by decide +kernel
theorem dX6_begin_46 : decode cX6_begin 46 = .ok (.iconst 0, 1) := by decide +kernel
theorem dX6_begin_47 : decode cX6_begin 47 = .ok (.putfield 35, 3) := by decide +kernel
theorem dX6_begin_50 : decode cX6_begin 50 = .ok (.return_, 1) := by decide +kernel
theorem dX6_copyFrom_0 : decode cX6_copyFrom 0 = .ok (.aload_n 1, 1) := by decide +kernel
theorem dX6_copyFrom_1 : decode cX6_copyFrom 1 = .ok (.getfield 9, 3) := by decide +kernel
theorem dX6_copyFrom_4 : decode cX6_copyFrom 4 = .ok (.iconst 0, 1) := by decide +kernel
theorem dX6_copyFrom_5 : decode cX6_copyFrom 5 = .ok (.aload_n 0, 1) := by decide +kernel
theorem dX6_copyFrom_6 : decode cX6_copyFrom 6 = .ok (.getfield 9, 3) := by decide +kernel
theorem dX6_copyFrom_9 : decode cX6_copyFrom 9 = .ok (.iconst 0, 1) := by decide +kernel
theorem dX6_copyFrom_10 : decode cX6_copyFrom 10 = .ok (.bipush 6, 2) := by decide +kernel
theorem dX6_copyFrom_12 : decode cX6_copyFrom 12 = .ok (.invokestatic 27, 3) := by decide +kernel
theorem dX6_copyFrom_15 : decode cX6_copyFrom 15 = .ok (.aload_n 1, 1) := by decide +kernel
theorem dX6_copyFrom_16 : decode cX6_copyFrom 16 = .ok (.getfield 15, 3) := by decide +kernel
theorem dX6_copyFrom_19 : decode cX6_copyFrom 19 = .ok (.iconst 0, 1) := by decide +kernel
theorem dX6_copyFrom_20 : decode cX6_copyFrom 20 = .ok (.aload_n 0, 1) := by decide +kernel
theorem dX6_copyFrom_21 : decode cX6_copyFrom 21 = .ok (.getfield 15, 3) := by decide +kernel
theorem dX6_copyFrom_24 : decode cX6_copyFrom 24 = .ok (.iconst 0, 1) := by decide +kernel
theorem dX6_copyFrom_25 : decode cX6_copyFrom 25 = .ok (.bipush 6, 2) := by decide +kernel
theorem dX6_copyFrom_27 : decode cX6_copyFrom 27 = .ok (.invokestatic 27, 3) := by decide +kernel
theorem dX6_copyFrom_30 : decode cX6_copyFrom 30 = .ok (.aload_n 1, 1) := by decide +kernel
theorem dX6_copyFrom_31 : decode cX6_copyFrom 31 = .ok (.getfield 18, 3) := by decide +kernel
theorem dX6_copyFrom_34 : decode cX6_copyFrom 34 = .ok (.iconst 0, 1) := by decide +kernel
theorem dX6_copyFrom_35 : decode cX6_copyFrom 35 = .ok (.aload_n 0, 1) := by decide +kernel
theorem dX6_copyFrom_36 : decode cX6_copyFrom 36 = .ok (.getfield 18, 3) := by decide +kernel
theorem dX6_copyFrom_39 : decode cX6_copyFrom 39 = .ok (.iconst 0, 1) := by decide +kernel
theorem dX6_copyFrom_40 : decode cX6_copyFrom 40 = .ok (.bipush 6, 2) := by decide +kernel
theorem dX6_copyFrom_42 : decode cX6_copyFrom 42 = .ok (.invokestatic 27, 3) := by decide +kernel
theorem dX6_copyFrom_45 : decode cX6_copyFrom 45 = .ok (.aload_n 1, 1) := by decide +kernel
theorem dX6_copyFrom_46 : decode cX6_copyFrom 46 = .ok (.getfield 21, 3) := by decide +kernel
theorem dX6_copyFrom_49 : decode cX6_copyFrom 49 = .ok (.iconst 0, 1) := by decide +kernel
theorem dX6_copyFrom_50 : decode cX6_copyFrom 50 = .ok (.aload_n 0, 1) := by decide +kernel
theorem dX6_copyFrom_51 : decode cX6_copyFrom 51 = .ok (.getfield 21, 3) := by decide +kernel
theorem dX6_copyFrom_54 : decode cX6_copyFrom 54 = .ok (.iconst 0, 1) := by decide +kernel
theorem dX6_copyFrom_55 : decode cX6_copyFrom 55 = .ok (.bipush 10, 2) := by decide +kernel
theorem dX6_copyFrom_57 : decode cX6_copyFrom 57 = .ok (.invokestatic 27, 3) := by decide +kernel
theorem dX6_copyFrom_60 : decode cX6_copyFrom 60 = .ok (.aload_n 0, 1) := by decide +kernel
theorem dX6_copyFrom_61 : decode cX6_copyFrom 61 = .ok (.aload_n 1, 1) := by decide +kernel
theorem dX6_copyFrom_62 : decode cX6_copyFrom 62 = .ok (.getfield 35, 3) := by decide +kernel
theorem dX6_copyFrom_65 : decode cX6_copyFrom 65 = .ok (.putfield 35, 3) := by decide +kernel
theorem dX6_copyFrom_68 : decode cX6_copyFrom 68 = .ok (.return_, 1) := by decide +kernel
theorem dX7_init_0 : decode cX7_init 0 = .ok (.aload_n 0, 1) := by decide +kernel
theorem dX7_init_1 : decode cX7_init 1 = .ok (.invokespecial 3, 3) := by decide +kernel
theorem dX7_init_4 : decode cX7_init 4 = .ok (.aload_n 0, 1) := by decide +kernel
theorem dX7_init_5 : decode cX7_init 5 = .ok (.bipush 12, 2) := by decide +kernel
theorem dX7_init_7 : decode cX7_init 7 = .ok (.newarray .int, 2) := by decide +kernel
theorem dX7_init_9 : decode cX7_init 9 = .ok (.putfield 9, 3) := by decide +kernel
theorem dX7_init_12 : decode cX7_init 12 = .ok (.aload_n 0, 1) := by decide +kernel
theorem dX7_init_13 : decode cX7_init 13 = .ok (.bipush 12, 2) := by decide +kernel
theorem dX7_init_15 : decode cX7_init 15 = .ok (.newarray .int, 2) := by decide +kernel
theorem dX7_init_17 : decode cX7_init 17 = .ok (.putfield 15, 3) := by decide +kernel
theorem dX7_init_20 : decode cX7_init 20 = .ok (.aload_n 0, 1) := by decide +kernel
theorem dX7_init_21 : decode cX7_init 21 = .ok (.iconst (-1), 1) := by decide +kernel
theorem dX7_init_22 : decode cX7_init 22 = .ok (.putfield 18, 3) := by decide +kernel
theorem dX7_init_25 : decode cX7_init 25 = .ok (.aload_n 0, 1) := by decide +kernel
theorem dX7_init_26 : decode cX7_init 26 = .ok (.sipush 539, 3) := by decide +kernel
theorem dX7_init_29 : decode cX7_init 29 = .ok (.newarray .int, 2) := by decide +kernel
theorem dX7_init_31 : decode cX7_init 31 = .ok (.putfield 22, 3) := by decide +kernel
theorem dX7_init_34 : decode cX7_init 34 = .ok (.aload_n 0, 1) := by decide +kernel
theorem dX7_init_35 : decode cX7_init 35 = .ok (.bipush 7, 2) := by decide +kernel
theorem dX7_init_37 : decode cX7_init 37 = .ok (.newarray .int, 2) := by decide +kernel
theorem dX7_init_39 : decode cX7_init 39 = .ok (.putfield 25, 3) := by decide +kernel
theorem dX7_init_42 : decode cX7_init 42 = .ok (.return_, 1) := by decide +kernel
theorem dX7_forget_0 : decode cX7_forget 0 = .ok (.aload_n 0, 1) := by decide +kernel
theorem dX7_forget_1 : decode cX7_forget 1 = .ok (.iconst (-1), 1) := by decide +kernel
theorem dX7_forget_2 : decode cX7_forget 2 = .ok (.putfield 18, 3) := by decide +kernel
theorem dX7_forget_5 : decode cX7_forget 5 = .ok (.return_, 1) := by decide +kernel
theorem dX7_isOne_0 : decode cX7_isOne 0 = .ok (.aload_n 0, 1) := by decide +kernel
theorem dX7_isOne_1 : decode cX7_isOne 1 = .ok (.getfield 28, 3) := by decide +kernel
theorem dX7_isOne_4 : decode cX7_isOne 4 = .ok (.bipush 12, 2) := by decide +kernel
theorem dX7_isOne_6 : decode cX7_isOne 6 = .ok (.if_icmp .gt 19, 3) := by decide +kernel
theorem dX7_isOne_9 : decode cX7_isOne 9 = .ok (.iload_n 1, 1) := by decide +kernel
theorem dX7_isOne_10 : decode cX7_isOne 10 = .ok (.ifCond .lt 15, 3) := by decide +kernel
theorem dX7_isOne_13 : decode cX7_isOne 13 = .ok (.iload_n 1, 1) := by decide +kernel
theorem dX7_isOne_14 : decode cX7_isOne 14 = .ok (.aload_n 0, 1) := by decide +kernel
theorem dX7_isOne_15 : decode cX7_isOne 15 = .ok (.getfield 28, 3) := by decide +kernel
theorem dX7_isOne_18 : decode cX7_isOne 18 = .ok (.if_icmp .ge 7, 3) := by decide +kernel
theorem dX7_isOne_21 : decode cX7_isOne 21 = .ok (.iconst 1, 1) := by decide +kernel
theorem dX7_isOne_22 : decode cX7_isOne 22 = .ok (.goto 4, 3) := by decide +kernel
theorem dX7_isOne_25 : decode cX7_isOne 25 = .ok (.iconst 0, 1) := by decide +kernel
theorem dX7_isOne_26 : decode cX7_isOne 26 = .ok (.ireturn, 1) := by decide +kernel
theorem dX7_find_0 : decode cX7_find 0 = .ok (.aload_n 0, 1) := by decide +kernel
theorem dX7_find_1 : decode cX7_find 1 = .ok (.getfield 18, 3) := by decide +kernel
theorem dX7_find_4 : decode cX7_find 4 = .ok (.iload_n 2, 1) := by decide +kernel
theorem dX7_find_5 : decode cX7_find 5 = .ok (.if_icmp .ne 4, 3) := by decide +kernel
theorem dX7_find_8 : decode cX7_find 8 = .ok (.return_, 1) := by decide +kernel
theorem dX7_find_9 : decode cX7_find 9 = .ok (.aload_n 0, 1) := by decide +kernel
theorem dX7_find_10 : decode cX7_find 10 = .ok (.iload_n 2, 1) := by decide +kernel
theorem dX7_find_11 : decode cX7_find 11 = .ok (.putfield 18, 3) := by decide +kernel
theorem dX7_find_14 : decode cX7_find 14 = .ok (.aload_n 0, 1) := by decide +kernel
theorem dX7_find_15 : decode cX7_find 15 = .ok (.getfield 22, 3) := by decide +kernel
theorem dX7_find_18 : decode cX7_find 18 = .ok (.iconst 0, 1) := by decide +kernel
theorem dX7_find_19 : decode cX7_find 19 = .ok (.invokestatic 31, 3) := by decide +kernel
theorem dX7_find_22 : decode cX7_find 22 = .ok (.aload_n 1, 1) := by decide +kernel
theorem dX7_find_23 : decode cX7_find 23 = .ok (.getfield 37, 3) := by decide +kernel
theorem dX7_find_26 : decode cX7_find 26 = .ok (.iconst 1, 1) := by decide +kernel
theorem dX7_find_27 : decode cX7_find 27 = .ok (.isub, 1) := by decide +kernel
theorem dX7_find_28 : decode cX7_find 28 = .ok (.istore_n 3, 1) := by decide +kernel
theorem dX7_find_29 : decode cX7_find 29 = .ok (.iload_n 3, 1) := by decide +kernel
theorem dX7_find_30 : decode cX7_find 30 = .ok (.ifCond .lt 15, 3) := by decide +kernel
theorem dX7_find_33 : decode cX7_find 33 = .ok (.aload_n 0, 1) := by decide +kernel
theorem dX7_find_34 : decode cX7_find 34 = .ok (.aload_n 1, 1) := by decide +kernel
theorem dX7_find_35 : decode cX7_find 35 = .ok (.iload_n 3, 1) := by decide +kernel
theorem dX7_find_36 : decode cX7_find 36 = .ok (.invokevirtual 42, 3) := by decide +kernel
theorem dX7_find_39 : decode cX7_find 39 = .ok (.iinc 3 (-1), 3) := by decide +kernel
theorem dX7_find_42 : decode cX7_find 42 = .ok (.goto (-13), 3) := by decide +kernel
theorem dX7_find_45 : decode cX7_find 45 = .ok (.aload_n 0, 1) := by decide +kernel
theorem dX7_find_46 : decode cX7_find 46 = .ok (.aload_n 0, 1) := by decide +kernel
theorem dX7_find_47 : decode cX7_find 47 = .ok (.getfield 22, 3) := by decide +kernel
theorem dX7_find_50 : decode cX7_find 50 = .ok (.aload_n 1, 1) := by decide +kernel
theorem dX7_find_51 : decode cX7_find 51 = .ok (.invokevirtual 46, 3) := by decide +kernel
theorem dX7_find_54 : decode cX7_find 54 = .ok (.iaload, 1) := by decide +kernel
theorem dX7_find_55 : decode cX7_find 55 = .ok (.putfield 28, 3) := by decide +kernel
theorem dX7_find_58 : decode cX7_find 58 = .ok (.aload_n 0, 1) := by decide +kernel
theorem dX7_find_59 : decode cX7_find 59 = .ok (.getfield 28, 3) := by decide +kernel
theorem dX7_find_62 : decode cX7_find 62 = .ok (.bipush 12, 2) := by decide +kernel
theorem dX7_find_64 : decode cX7_find 64 = .ok (.if_icmp .gt 8, 3) := by decide +kernel
theorem dX7_find_67 : decode cX7_find 67 = .ok (.aload_n 0, 1) := by decide +kernel
theorem dX7_find_68 : decode cX7_find 68 = .ok (.aload_n 1, 1) := by decide +kernel
theorem dX7_find_69 : decode cX7_find 69 = .ok (.invokevirtual 50, 3) := by decide +kernel
theorem dX7_find_72 : decode cX7_find 72 = .ok (.return_, 1) := by decide +kernel
theorem dX7_findFewest_0 : decode cX7_findFewest 0 = .ok (.bipush 100, 2) := by decide +kernel
theorem dX7_findFewest_2 : decode cX7_findFewest 2 = .ok (.istore_n 3, 1) := by decide +kernel
theorem dX7_findFewest_3 : decode cX7_findFewest 3 = .ok (.iconst 0, 1) := by decide +kernel
theorem dX7_findFewest_4 : decode cX7_findFewest 4 = .ok (.istore 4, 2) := by decide +kernel
theorem dX7_findFewest_6 : decode cX7_findFewest 6 = .ok (.iload 4, 2) := by decide +kernel
theorem dX7_findFewest_8 : decode cX7_findFewest 8 = .ok (.bipush 7, 2) := by decide +kernel
theorem dX7_findFewest_10 : decode cX7_findFewest 10 = .ok (.if_icmp .ge 92, 3) := by decide +kernel
theorem dX7_findFewest_13 : decode cX7_findFewest 13 = .ok (.aload_n 0, 1) := by decide +kernel
theorem dX7_findFewest_14 : decode cX7_findFewest 14 = .ok (.getfield 25, 3) := by decide +kernel
theorem dX7_findFewest_17 : decode cX7_findFewest 17 = .ok (.iload 4, 2) := by decide +kernel
theorem dX7_findFewest_19 : decode cX7_findFewest 19 = .ok (.bipush 100, 2) := by decide +kernel
theorem dX7_findFewest_21 : decode cX7_findFewest 21 = .ok (.iastore, 1) := by decide +kernel
theorem dX7_findFewest_22 : decode cX7_findFewest 22 = .ok (.iconst 0, 1) := by decide +kernel
theorem dX7_findFewest_23 : decode cX7_findFewest 23 = .ok (.istore 5, 2) := by decide +kernel
theorem dX7_findFewest_25 : decode cX7_findFewest 25 = .ok (.iload 5, 2) := by decide +kernel
theorem dX7_findFewest_27 : decode cX7_findFewest 27 = .ok (.aload_n 1, 1) := by decide +kernel
theorem dX7_findFewest_28 : decode cX7_findFewest 28 = .ok (.getfield 54, 3) := by decide +kernel
theorem dX7_findFewest_31 : decode cX7_findFewest 31 = .ok (.if_icmp .ge 44, 3) := by decide +kernel
theorem dX7_findFewest_34 : decode cX7_findFewest 34 = .ok (.aload_n 0, 1) := by decide +kernel
theorem dX7_findFewest_35 : decode cX7_findFewest 35 = .ok (.aload_n 1, 1) := by decide +kernel
theorem dX7_findFewest_36 : decode cX7_findFewest 36 = .ok (.iload_n 2, 1) := by decide +kernel
theorem dX7_findFewest_37 : decode cX7_findFewest 37 = .ok (.iload 4, 2) := by decide +kernel
theorem dX7_findFewest_39 : decode cX7_findFewest 39 = .ok (.bipush 7, 2) := by decide +kernel
theorem dX7_findFewest_41 : decode cX7_findFewest 41 = .ok (.imul, 1) := by decide +kernel
theorem dX7_findFewest_42 : decode cX7_findFewest 42 = .ok (.iload 5, 2) := by decide +kernel
theorem dX7_findFewest_44 : decode cX7_findFewest 44 = .ok (.iadd, 1) := by decide +kernel
theorem dX7_findFewest_45 : decode cX7_findFewest 45 = .ok (.invokevirtual 57, 3) := by decide +kernel
theorem dX7_findFewest_48 : decode cX7_findFewest 48 = .ok (.istore 6, 2) := by decide +kernel
theorem dX7_findFewest_50 : decode cX7_findFewest 50 = .ok (.aload_n 0, 1) := by decide +kernel
theorem dX7_findFewest_51 : decode cX7_findFewest 51 = .ok (.getfield 25, 3) := by decide +kernel
theorem dX7_findFewest_54 : decode cX7_findFewest 54 = .ok (.iload 4, 2) := by decide +kernel
theorem dX7_findFewest_56 : decode cX7_findFewest 56 = .ok (.aload_n 0, 1) := by decide +kernel
theorem dX7_findFewest_57 : decode cX7_findFewest 57 = .ok (.getfield 25, 3) := by decide +kernel
theorem dX7_findFewest_60 : decode cX7_findFewest 60 = .ok (.iload 4, 2) := by decide +kernel
theorem dX7_findFewest_62 : decode cX7_findFewest 62 = .ok (.iaload, 1) := by decide +kernel
theorem dX7_findFewest_63 : decode cX7_findFewest 63 = .ok (.iload 6, 2) := by decide +kernel
theorem dX7_findFewest_65 : decode cX7_findFewest 65 = .ok (.invokestatic 61, 3) := by decide +kernel
theorem dX7_findFewest_68 : decode cX7_findFewest 68 = .ok (.iastore, 1) := by decide +kernel
theorem dX7_findFewest_69 : decode cX7_findFewest 69 = .ok (.iinc 5 1, 3) := by decide +kernel
theorem dX7_findFewest_72 : decode cX7_findFewest 72 = .ok (.goto (-47), 3) := by decide +kernel
theorem dX7_findFewest_75 : decode cX7_findFewest 75 = .ok (.iload 4, 2) := by decide +kernel
theorem dX7_findFewest_77 : decode cX7_findFewest 77 = .ok (.aload_n 1, 1) := by decide +kernel
theorem dX7_findFewest_78 : decode cX7_findFewest 78 = .ok (.getfield 54, 3) := by decide +kernel
theorem dX7_findFewest_81 : decode cX7_findFewest 81 = .ok (.if_icmp .ge 15, 3) := by decide +kernel
theorem dX7_findFewest_84 : decode cX7_findFewest 84 = .ok (.iload_n 3, 1) := by decide +kernel
theorem dX7_findFewest_85 : decode cX7_findFewest 85 = .ok (.aload_n 0, 1) := by decide +kernel
theorem dX7_findFewest_86 : decode cX7_findFewest 86 = .ok (.getfield 25, 3) := by decide +kernel
theorem dX7_findFewest_89 : decode cX7_findFewest 89 = .ok (.iload 4, 2) := by decide +kernel
theorem dX7_findFewest_91 : decode cX7_findFewest 91 = .ok (.iaload, 1) := by decide +kernel
theorem dX7_findFewest_92 : decode cX7_findFewest 92 = .ok (.invokestatic 61, 3) := by decide +kernel
theorem dX7_findFewest_95 : decode cX7_findFewest 95 = .ok (.istore_n 3, 1) := by decide +kernel
theorem dX7_findFewest_96 : decode cX7_findFewest 96 = .ok (.iinc 4 1, 3) := by decide +kernel
theorem dX7_findFewest_99 : decode cX7_findFewest 99 = .ok (.goto (-93), 3) := by decide +kernel
theorem dX7_findFewest_102 : decode cX7_findFewest 102 = .ok (.iconst 0, 1) := by decide +kernel
theorem dX7_findFewest_103 : decode cX7_findFewest 103 = .ok (.istore 4, 2) := by decide +kernel
theorem dX7_findFewest_105 : decode cX7_findFewest 105 = .ok (.iload 4, 2) := by decide +kernel
theorem dX7_findFewest_107 : decode cX7_findFewest 107 = .ok (.bipush 49, 2) := by decide +kernel
theorem dX7_findFewest_109 : decode cX7_findFewest 109 = .ok (.if_icmp .ge 54, 3) := by decide +kernel
theorem dX7_findFewest_112 : decode cX7_findFewest 112 = .ok (.aload_n 0, 1) := by decide +kernel
theorem dX7_findFewest_113 : decode cX7_findFewest 113 = .ok (.aload_n 1, 1) := by decide +kernel
theorem dX7_findFewest_114 : decode cX7_findFewest 114 = .ok (.iload_n 2, 1) := by decide +kernel
theorem dX7_findFewest_115 : decode cX7_findFewest 115 = .ok (.iload 4, 2) := by decide +kernel
theorem dX7_findFewest_117 : decode cX7_findFewest 117 = .ok (.invokevirtual 57, 3) := by decide +kernel
theorem dX7_findFewest_120 : decode cX7_findFewest 120 = .ok (.iload_n 3, 1) := by decide +kernel
theorem dX7_findFewest_121 : decode cX7_findFewest 121 = .ok (.iconst 2, 1) := by decide +kernel
theorem dX7_findFewest_122 : decode cX7_findFewest 122 = .ok (.iadd, 1) := by decide +kernel
theorem dX7_findFewest_123 : decode cX7_findFewest 123 = .ok (.invokestatic 61, 3) := by decide +kernel
theorem dX7_findFewest_126 : decode cX7_findFewest 126 = .ok (.istore 5, 2) := by decide +kernel
theorem dX7_findFewest_128 : decode cX7_findFewest 128 = .ok (.aload_n 0, 1) := by decide +kernel
theorem dX7_findFewest_129 : decode cX7_findFewest 129 = .ok (.getfield 22, 3) := by decide +kernel
theorem dX7_findFewest_132 : decode cX7_findFewest 132 = .ok (.iload_n 2, 1) := by decide +kernel
theorem dX7_findFewest_133 : decode cX7_findFewest 133 = .ok (.bipush 49, 2) := by decide +kernel
theorem dX7_findFewest_135 : decode cX7_findFewest 135 = .ok (.imul, 1) := by decide +kernel
theorem dX7_findFewest_136 : decode cX7_findFewest 136 = .ok (.iload 4, 2) := by decide +kernel
theorem dX7_findFewest_138 : decode cX7_findFewest 138 = .ok (.iadd, 1) := by decide +kernel
theorem dX7_findFewest_139 : decode cX7_findFewest 139 = .ok (.iload 5, 2) := by decide +kernel
theorem dX7_findFewest_141 : decode cX7_findFewest 141 = .ok (.aload_n 0, 1) := by decide +kernel
theorem dX7_findFewest_142 : decode cX7_findFewest 142 = .ok (.getfield 25, 3) := by decide +kernel
theorem dX7_findFewest_145 : decode cX7_findFewest 145 = .ok (.iload 4, 2) := by decide +kernel
theorem dX7_findFewest_147 : decode cX7_findFewest 147 = .ok (.bipush 7, 2) := by decide +kernel
theorem dX7_findFewest_149 : decode cX7_findFewest 149 = .ok (.irem, 1) := by decide +kernel
theorem dX7_findFewest_150 : decode cX7_findFewest 150 = .ok (.iaload, 1) := by decide +kernel
theorem dX7_findFewest_151 : decode cX7_findFewest 151 = .ok (.iconst 1, 1) := by decide +kernel
theorem dX7_findFewest_152 : decode cX7_findFewest 152 = .ok (.iadd, 1) := by decide +kernel
theorem dX7_findFewest_153 : decode cX7_findFewest 153 = .ok (.invokestatic 61, 3) := by decide +kernel
theorem dX7_findFewest_156 : decode cX7_findFewest 156 = .ok (.iastore, 1) := by decide +kernel
theorem dX7_findFewest_157 : decode cX7_findFewest 157 = .ok (.iinc 4 1, 3) := by decide +kernel
theorem dX7_findFewest_160 : decode cX7_findFewest 160 = .ok (.goto (-55), 3) := by decide +kernel
theorem dX7_findFewest_163 : decode cX7_findFewest 163 = .ok (.return_, 1) := by decide +kernel
theorem dX7_costAtOnce_0 : decode cX7_costAtOnce 0 = .ok (.aload_n 1, 1) := by decide +kernel
theorem dX7_costAtOnce_1 : decode cX7_costAtOnce 1 = .ok (.aload_n 0, 1) := by decide +kernel
theorem dX7_costAtOnce_2 : decode cX7_costAtOnce 2 = .ok (.getfield 18, 3) := by decide +kernel
theorem dX7_costAtOnce_5 : decode cX7_costAtOnce 5 = .ok (.iload_n 2, 1) := by decide +kernel
theorem dX7_costAtOnce_6 : decode cX7_costAtOnce 6 = .ok (.invokevirtual 67, 3) := by decide +kernel
theorem dX7_costAtOnce_9 : decode cX7_costAtOnce 9 = .ok (.ifCond .eq 15, 3) := by decide +kernel
theorem dX7_costAtOnce_12 : decode cX7_costAtOnce 12 = .ok (.aload_n 1, 1) := by decide +kernel
theorem dX7_costAtOnce_13 : decode cX7_costAtOnce 13 = .ok (.iload_n 3, 1) := by decide +kernel
theorem dX7_costAtOnce_14 : decode cX7_costAtOnce 14 = .ok (.iload_n 2, 1) := by decide +kernel
theorem dX7_costAtOnce_15 : decode cX7_costAtOnce 15 = .ok (.invokevirtual 71, 3) := by decide +kernel
theorem dX7_costAtOnce_18 : decode cX7_costAtOnce 18 = .ok (.ifCond .ne 6, 3) := by decide +kernel
theorem dX7_costAtOnce_21 : decode cX7_costAtOnce 21 = .ok (.bipush 100, 2) := by decide +kernel
theorem dX7_costAtOnce_23 : decode cX7_costAtOnce 23 = .ok (.ireturn, 1) := by decide +kernel
theorem dX7_costAtOnce_24 : decode cX7_costAtOnce 24 = .ok (.aload_n 0, 1) := by decide +kernel
theorem dX7_costAtOnce_25 : decode cX7_costAtOnce 25 = .ok (.getfield 22, 3) := by decide +kernel
theorem dX7_costAtOnce_28 : decode cX7_costAtOnce 28 = .ok (.iload_n 2, 1) := by decide +kernel
theorem dX7_costAtOnce_29 : decode cX7_costAtOnce 29 = .ok (.iconst 1, 1) := by decide +kernel
theorem dX7_costAtOnce_30 : decode cX7_costAtOnce 30 = .ok (.iadd, 1) := by decide +kernel
theorem dX7_costAtOnce_31 : decode cX7_costAtOnce 31 = .ok (.bipush 49, 2) := by decide +kernel
theorem dX7_costAtOnce_33 : decode cX7_costAtOnce 33 = .ok (.imul, 1) := by decide +kernel
theorem dX7_costAtOnce_34 : decode cX7_costAtOnce 34 = .ok (.iload_n 3, 1) := by decide +kernel
theorem dX7_costAtOnce_35 : decode cX7_costAtOnce 35 = .ok (.bipush 7, 2) := by decide +kernel
theorem dX7_costAtOnce_37 : decode cX7_costAtOnce 37 = .ok (.irem, 1) := by decide +kernel
theorem dX7_costAtOnce_38 : decode cX7_costAtOnce 38 = .ok (.bipush 7, 2) := by decide +kernel
theorem dX7_costAtOnce_40 : decode cX7_costAtOnce 40 = .ok (.imul, 1) := by decide +kernel
theorem dX7_costAtOnce_41 : decode cX7_costAtOnce 41 = .ok (.iadd, 1) := by decide +kernel
theorem dX7_costAtOnce_42 : decode cX7_costAtOnce 42 = .ok (.aload_n 1, 1) := by decide +kernel
theorem dX7_costAtOnce_43 : decode cX7_costAtOnce 43 = .ok (.getfield 74, 3) := by decide +kernel
theorem dX7_costAtOnce_46 : decode cX7_costAtOnce 46 = .ok (.iload_n 2, 1) := by decide +kernel
theorem dX7_costAtOnce_47 : decode cX7_costAtOnce 47 = .ok (.iaload, 1) := by decide +kernel
theorem dX7_costAtOnce_48 : decode cX7_costAtOnce 48 = .ok (.iadd, 1) := by decide +kernel
theorem dX7_costAtOnce_49 : decode cX7_costAtOnce 49 = .ok (.iaload, 1) := by decide +kernel
theorem dX7_costAtOnce_50 : decode cX7_costAtOnce 50 = .ok (.ireturn, 1) := by decide +kernel
theorem dX7_follow_0 : decode cX7_follow 0 = .ok (.iconst 0, 1) := by decide +kernel
theorem dX7_follow_1 : decode cX7_follow 1 = .ok (.istore_n 2, 1) := by decide +kernel
theorem dX7_follow_2 : decode cX7_follow 2 = .ok (.aload_n 1, 1) := by decide +kernel
theorem dX7_follow_3 : decode cX7_follow 3 = .ok (.invokevirtual 46, 3) := by decide +kernel
theorem dX7_follow_6 : decode cX7_follow 6 = .ok (.istore_n 3, 1) := by decide +kernel
theorem dX7_follow_7 : decode cX7_follow 7 = .ok (.iconst 0, 1) := by decide +kernel
theorem dX7_follow_8 : decode cX7_follow 8 = .ok (.istore 4, 2) := by decide +kernel
theorem dX7_follow_10 : decode cX7_follow 10 = .ok (.iconst 0, 1) := by decide +kernel
theorem dX7_follow_11 : decode cX7_follow 11 = .ok (.istore 5, 2) := by decide +kernel
theorem dX7_follow_13 : decode cX7_follow 13 = .ok (.iload 5, 2) := by decide +kernel
theorem dX7_follow_15 : decode cX7_follow 15 = .ok (.bipush 22, 2) := by decide +kernel
theorem dX7_follow_17 : decode cX7_follow 17 = .ok (.if_icmp .ge 85, 3) := by decide +kernel
theorem dX7_follow_20 : decode cX7_follow 20 = .ok (.iload_n 2, 1) := by decide +kernel
theorem dX7_follow_21 : decode cX7_follow 21 = .ok (.aload_n 1, 1) := by decide +kernel
theorem dX7_follow_22 : decode cX7_follow 22 = .ok (.getfield 37, 3) := by decide +kernel
theorem dX7_follow_25 : decode cX7_follow 25 = .ok (.if_icmp .ge 77, 3) := by decide +kernel
theorem dX7_follow_28 : decode cX7_follow 28 = .ok (.aload_n 0, 1) := by decide +kernel
theorem dX7_follow_29 : decode cX7_follow 29 = .ok (.aload_n 1, 1) := by decide +kernel
theorem dX7_follow_30 : decode cX7_follow 30 = .ok (.iload_n 2, 1) := by decide +kernel
theorem dX7_follow_31 : decode cX7_follow 31 = .ok (.iload_n 3, 1) := by decide +kernel
theorem dX7_follow_32 : decode cX7_follow 32 = .ok (.invokevirtual 75, 3) := by decide +kernel
theorem dX7_follow_35 : decode cX7_follow 35 = .ok (.istore 6, 2) := by decide +kernel
theorem dX7_follow_37 : decode cX7_follow 37 = .ok (.iload 6, 2) := by decide +kernel
theorem dX7_follow_39 : decode cX7_follow 39 = .ok (.bipush (-4), 2) := by decide +kernel
theorem dX7_follow_41 : decode cX7_follow 41 = .ok (.if_icmp .ne 17, 3) := by decide +kernel
theorem dX7_follow_44 : decode cX7_follow 44 = .ok (.aload_n 1, 1) := by decide +kernel
theorem dX7_follow_45 : decode cX7_follow 45 = .ok (.getfield 74, 3) := by decide +kernel
theorem dX7_follow_48 : decode cX7_follow 48 = .ok (.iload_n 2, 1) := by decide +kernel
theorem dX7_follow_49 : decode cX7_follow 49 = .ok (.iaload, 1) := by decide +kernel
theorem dX7_follow_50 : decode cX7_follow 50 = .ok (.istore 6, 2) := by decide +kernel
theorem dX7_follow_52 : decode cX7_follow 52 = .ok (.iinc 2 1, 3) := by decide +kernel
theorem dX7_follow_55 : decode cX7_follow 55 = .ok (.goto 30, 3) := by decide +kernel
theorem dX7_follow_58 : decode cX7_follow 58 = .ok (.iload 4, 2) := by decide +kernel
theorem dX7_follow_60 : decode cX7_follow 60 = .ok (.bipush 12, 2) := by decide +kernel
theorem dX7_follow_62 : decode cX7_follow 62 = .ok (.if_icmp .ge 23, 3) := by decide +kernel
theorem dX7_follow_65 : decode cX7_follow 65 = .ok (.aload_n 0, 1) := by decide +kernel
theorem dX7_follow_66 : decode cX7_follow 66 = .ok (.getfield 9, 3) := by decide +kernel
theorem dX7_follow_69 : decode cX7_follow 69 = .ok (.iload 4, 2) := by decide +kernel
theorem dX7_follow_71 : decode cX7_follow 71 = .ok (.iload 6, 2) := by decide +kernel
theorem dX7_follow_73 : decode cX7_follow 73 = .ok (.iastore, 1) := by decide +kernel
theorem dX7_follow_74 : decode cX7_follow 74 = .ok (.aload_n 0, 1) := by decide +kernel
theorem dX7_follow_75 : decode cX7_follow 75 = .ok (.getfield 15, 3) := by decide +kernel
theorem dX7_follow_78 : decode cX7_follow 78 = .ok (.iload 4, 2) := by decide +kernel
theorem dX7_follow_80 : decode cX7_follow 80 = .ok (.iload_n 2, 1) := by decide +kernel
theorem dX7_follow_81 : decode cX7_follow 81 = .ok (.iastore, 1) := by decide +kernel
theorem dX7_follow_82 : decode cX7_follow 82 = .ok (.iinc 4 1, 3) := by decide +kernel
theorem dX7_follow_85 : decode cX7_follow 85 = .ok (.iload_n 3, 1) := by decide +kernel
theorem dX7_follow_86 : decode cX7_follow 86 = .ok (.bipush 7, 2) := by decide +kernel
theorem dX7_follow_88 : decode cX7_follow 88 = .ok (.irem, 1) := by decide +kernel
theorem dX7_follow_89 : decode cX7_follow 89 = .ok (.bipush 7, 2) := by decide +kernel
theorem dX7_follow_91 : decode cX7_follow 91 = .ok (.imul, 1) := by decide +kernel
theorem dX7_follow_92 : decode cX7_follow 92 = .ok (.iload 6, 2) := by decide +kernel
theorem dX7_follow_94 : decode cX7_follow 94 = .ok (.iadd, 1) := by decide +kernel
theorem dX7_follow_95 : decode cX7_follow 95 = .ok (.istore_n 3, 1) := by decide +kernel
theorem dX7_follow_96 : decode cX7_follow 96 = .ok (.iinc 5 1, 3) := by decide +kernel
theorem dX7_follow_99 : decode cX7_follow 99 = .ok (.goto (-86), 3) := by decide +kernel
theorem dX7_follow_102 : decode cX7_follow 102 = .ok (.return_, 1) := by decide +kernel
theorem dX7_firstStranger_0 : decode cX7_firstStranger 0 = .ok (.aload_n 0, 1) := by decide +kernel
theorem dX7_firstStranger_1 : decode cX7_firstStranger 1 = .ok (.getfield 22, 3) := by decide +kernel
theorem dX7_firstStranger_4 : decode cX7_firstStranger 4 = .ok (.iload_n 2, 1) := by decide +kernel
theorem dX7_firstStranger_5 : decode cX7_firstStranger 5 = .ok (.bipush 49, 2) := by decide +kernel
theorem dX7_firstStranger_7 : decode cX7_firstStranger 7 = .ok (.imul, 1) := by decide +kernel
theorem dX7_firstStranger_8 : decode cX7_firstStranger 8 = .ok (.iload_n 3, 1) := by decide +kernel
theorem dX7_firstStranger_9 : decode cX7_firstStranger 9 = .ok (.iadd, 1) := by decide +kernel
theorem dX7_firstStranger_10 : decode cX7_firstStranger 10 = .ok (.iaload, 1) := by decide +kernel
theorem dX7_firstStranger_11 : decode cX7_firstStranger 11 = .ok (.istore 4, 2) := by decide +kernel
theorem dX7_firstStranger_13 : decode cX7_firstStranger 13 = .ok (.aload_n 0, 1) := by decide +kernel
theorem dX7_firstStranger_14 : decode cX7_firstStranger 14 = .ok (.aload_n 1, 1) := by decide +kernel
theorem dX7_firstStranger_15 : decode cX7_firstStranger 15 = .ok (.iload_n 2, 1) := by decide +kernel
theorem dX7_firstStranger_16 : decode cX7_firstStranger 16 = .ok (.iload_n 3, 1) := by decide +kernel
theorem dX7_firstStranger_17 : decode cX7_firstStranger 17 = .ok (.invokevirtual 57, 3) := by decide +kernel
theorem dX7_firstStranger_20 : decode cX7_firstStranger 20 = .ok (.iload 4, 2) := by decide +kernel
theorem dX7_firstStranger_22 : decode cX7_firstStranger 22 = .ok (.if_icmp .ne 7, 3) := by decide +kernel
theorem dX7_firstStranger_25 : decode cX7_firstStranger 25 = .ok (.iconst 1, 1) := by decide +kernel
theorem dX7_firstStranger_26 : decode cX7_firstStranger 26 = .ok (.goto 4, 3) := by decide +kernel
theorem dX7_firstStranger_29 : decode cX7_firstStranger 29 = .ok (.iconst 0, 1) := by decide +kernel
theorem dX7_firstStranger_30 : decode cX7_firstStranger 30 = .ok (.istore 5, 2) := by decide +kernel
theorem dX7_firstStranger_32 : decode cX7_firstStranger 32 = .ok (.iload 5, 2) := by decide +kernel
theorem dX7_firstStranger_34 : decode cX7_firstStranger 34 = .ok (.ifCond .eq 12, 3) := by decide +kernel
theorem dX7_firstStranger_37 : decode cX7_firstStranger 37 = .ok (.aload_n 1, 1) := by decide +kernel
theorem dX7_firstStranger_38 : decode cX7_firstStranger 38 = .ok (.getfield 74, 3) := by decide +kernel
theorem dX7_firstStranger_41 : decode cX7_firstStranger 41 = .ok (.iload_n 2, 1) := by decide +kernel
theorem dX7_firstStranger_42 : decode cX7_firstStranger 42 = .ok (.iaload, 1) := by decide +kernel
theorem dX7_firstStranger_43 : decode cX7_firstStranger 43 = .ok (.goto 7, 3) := by decide +kernel
theorem dX7_firstStranger_46 : decode cX7_firstStranger 46 = .ok (.aload_n 1, 1) := by decide +kernel
theorem dX7_firstStranger_47 : decode cX7_firstStranger 47 = .ok (.getfield 54, 3) := by decide +kernel
theorem dX7_firstStranger_50 : decode cX7_firstStranger 50 = .ok (.istore 6, 2) := by decide +kernel
theorem dX7_firstStranger_52 : decode cX7_firstStranger 52 = .ok (.iconst 0, 1) := by decide +kernel
theorem dX7_firstStranger_53 : decode cX7_firstStranger 53 = .ok (.istore 7, 2) := by decide +kernel
theorem dX7_firstStranger_55 : decode cX7_firstStranger 55 = .ok (.iload 7, 2) := by decide +kernel
theorem dX7_firstStranger_57 : decode cX7_firstStranger 57 = .ok (.iload 6, 2) := by decide +kernel
theorem dX7_firstStranger_59 : decode cX7_firstStranger 59 = .ok (.if_icmp .ge 39, 3) := by decide +kernel
theorem dX7_firstStranger_62 : decode cX7_firstStranger 62 = .ok (.aload_n 0, 1) := by decide +kernel
theorem dX7_firstStranger_63 : decode cX7_firstStranger 63 = .ok (.getfield 22, 3) := by decide +kernel
theorem dX7_firstStranger_66 : decode cX7_firstStranger 66 = .ok (.iload_n 2, 1) := by decide +kernel
theorem dX7_firstStranger_67 : decode cX7_firstStranger 67 = .ok (.bipush 49, 2) := by decide +kernel
theorem dX7_firstStranger_69 : decode cX7_firstStranger 69 = .ok (.imul, 1) := by decide +kernel
theorem dX7_firstStranger_70 : decode cX7_firstStranger 70 = .ok (.iload_n 3, 1) := by decide +kernel
theorem dX7_firstStranger_71 : decode cX7_firstStranger 71 = .ok (.bipush 7, 2) := by decide +kernel
theorem dX7_firstStranger_73 : decode cX7_firstStranger 73 = .ok (.irem, 1) := by decide +kernel
theorem dX7_firstStranger_74 : decode cX7_firstStranger 74 = .ok (.bipush 7, 2) := by decide +kernel
theorem dX7_firstStranger_76 : decode cX7_firstStranger 76 = .ok (.imul, 1) := by decide +kernel
theorem dX7_firstStranger_77 : decode cX7_firstStranger 77 = .ok (.iadd, 1) := by decide +kernel
theorem dX7_firstStranger_78 : decode cX7_firstStranger 78 = .ok (.iload 7, 2) := by decide +kernel
theorem dX7_firstStranger_80 : decode cX7_firstStranger 80 = .ok (.iadd, 1) := by decide +kernel
theorem dX7_firstStranger_81 : decode cX7_firstStranger 81 = .ok (.iaload, 1) := by decide +kernel
theorem dX7_firstStranger_82 : decode cX7_firstStranger 82 = .ok (.iconst 1, 1) := by decide +kernel
theorem dX7_firstStranger_83 : decode cX7_firstStranger 83 = .ok (.iadd, 1) := by decide +kernel
theorem dX7_firstStranger_84 : decode cX7_firstStranger 84 = .ok (.iload 4, 2) := by decide +kernel
theorem dX7_firstStranger_86 : decode cX7_firstStranger 86 = .ok (.if_icmp .ne 6, 3) := by decide +kernel
theorem dX7_firstStranger_89 : decode cX7_firstStranger 89 = .ok (.iload 7, 2) := by decide +kernel
theorem dX7_firstStranger_91 : decode cX7_firstStranger 91 = .ok (.ireturn, 1) := by decide +kernel
theorem dX7_firstStranger_92 : decode cX7_firstStranger 92 = .ok (.iinc 7 1, 3) := by decide +kernel
theorem dX7_firstStranger_95 : decode cX7_firstStranger 95 = .ok (.goto (-40), 3) := by decide +kernel
theorem dX7_firstStranger_98 : decode cX7_firstStranger 98 = .ok (.bipush (-4), 2) := by decide +kernel
theorem dX7_firstStranger_100 : decode cX7_firstStranger 100 = .ok (.ireturn, 1) := by decide +kernel
theorem dX8_init_0 : decode cX8_init 0 = .ok (.aload_n 0, 1) := by decide +kernel
theorem dX8_init_1 : decode cX8_init 1 = .ok (.invokespecial 3, 3) := by decide +kernel
theorem dX8_init_4 : decode cX8_init 4 = .ok (.aload_n 0, 1) := by decide +kernel
theorem dX8_init_5 : decode cX8_init 5 = .ok (.sipush 300, 3) := by decide +kernel
theorem dX8_init_8 : decode cX8_init 8 = .ok (.newarray .byte, 2) := by decide +kernel
theorem dX8_init_10 : decode cX8_init 10 = .ok (.putfield 9, 3) := by decide +kernel
theorem dX8_init_13 : decode cX8_init 13 = .ok (.aload_n 0, 1) := by decide +kernel
theorem dX8_init_14 : decode cX8_init 14 = .ok (.new 13, 3) := by decide +kernel
theorem dX8_init_17 : decode cX8_init 17 = .ok (.dup, 1) := by decide +kernel
theorem dX8_init_18 : decode cX8_init 18 = .ok (.invokespecial 15, 3) := by decide +kernel
theorem dX8_init_21 : decode cX8_init 21 = .ok (.putfield 16, 3) := by decide +kernel
theorem dX8_init_24 : decode cX8_init 24 = .ok (.aload_n 0, 1) := by decide +kernel
theorem dX8_init_25 : decode cX8_init 25 = .ok (.new 20, 3) := by decide +kernel
theorem dX8_init_28 : decode cX8_init 28 = .ok (.dup, 1) := by decide +kernel
theorem dX8_init_29 : decode cX8_init 29 = .ok (.invokespecial 22, 3) := by decide +kernel
theorem dX8_init_32 : decode cX8_init 32 = .ok (.putfield 23, 3) := by decide +kernel
theorem dX8_init_35 : decode cX8_init 35 = .ok (.aload_n 0, 1) := by decide +kernel
theorem dX8_init_36 : decode cX8_init 36 = .ok (.new 20, 3) := by decide +kernel
theorem dX8_init_39 : decode cX8_init 39 = .ok (.dup, 1) := by decide +kernel
theorem dX8_init_40 : decode cX8_init 40 = .ok (.invokespecial 22, 3) := by decide +kernel
theorem dX8_init_43 : decode cX8_init 43 = .ok (.putfield 27, 3) := by decide +kernel
theorem dX8_init_46 : decode cX8_init 46 = .ok (.aload_n 0, 1) := by decide +kernel
theorem dX8_init_47 : decode cX8_init 47 = .ok (.new 30, 3) := by decide +kernel
theorem dX8_init_50 : decode cX8_init 50 = .ok (.dup, 1) := by decide +kernel
theorem dX8_init_51 : decode cX8_init 51 = .ok (.invokespecial 32, 3) := by decide +kernel
theorem dX8_init_54 : decode cX8_init 54 = .ok (.putfield 33, 3) := by decide +kernel
theorem dX8_init_57 : decode cX8_init 57 = .ok (.aload_n 0, 1) := by decide +kernel
theorem dX8_init_58 : decode cX8_init 58 = .ok (.iconst 2, 1) := by decide +kernel
theorem dX8_init_59 : decode cX8_init 59 = .ok (.anewarray 30, 3) := by decide +kernel
theorem dX8_init_62 : decode cX8_init 62 = .ok (.dup, 1) := by decide +kernel
theorem dX8_init_63 : decode cX8_init 63 = .ok (.iconst 0, 1) := by decide +kernel
theorem dX8_init_64 : decode cX8_init 64 = .ok (.new 30, 3) := by decide +kernel
theorem dX8_init_67 : decode cX8_init 67 = .ok (.dup, 1) := by decide +kernel
theorem dX8_init_68 : decode cX8_init 68 = .ok (.invokespecial 32, 3) := by decide +kernel
theorem dX8_init_71 : decode cX8_init 71 = .ok (.aastore, 1) := by decide +kernel
theorem dX8_init_72 : decode cX8_init 72 = .ok (.dup, 1) := by decide +kernel
theorem dX8_init_73 : decode cX8_init 73 = .ok (.iconst 1, 1) := by decide +kernel
theorem dX8_init_74 : decode cX8_init 74 = .ok (.new 30, 3) := by decide +kernel
theorem dX8_init_77 : decode cX8_init 77 = .ok (.dup, 1) := by decide +kernel
theorem dX8_init_78 : decode cX8_init 78 = .ok (.invokespecial 32, 3) := by decide +kernel
theorem dX8_init_81 : decode cX8_init 81 = .ok (.aastore, 1) := by decide +kernel
theorem dX8_init_82 : decode cX8_init 82 = .ok (.putfield 37, 3) := by decide +kernel
theorem dX8_init_85 : decode cX8_init 85 = .ok (.aload_n 0, 1) := by decide +kernel
theorem dX8_init_86 : decode cX8_init 86 = .ok (.new 41, 3) := by decide +kernel
theorem dX8_init_89 : decode cX8_init 89 = .ok (.dup, 1) := by decide +kernel
theorem dX8_init_90 : decode cX8_init 90 = .ok (.invokespecial 43, 3) := by decide +kernel
theorem dX8_init_93 : decode cX8_init 93 = .ok (.putfield 44, 3) := by decide +kernel
theorem dX8_init_96 : decode cX8_init 96 = .ok (.aload_n 0, 1) := by decide +kernel
theorem dX8_init_97 : decode cX8_init 97 = .ok (.new 48, 3) := by decide +kernel
theorem dX8_init_100 : decode cX8_init 100 = .ok (.dup, 1) := by decide +kernel
theorem dX8_init_101 : decode cX8_init 101 = .ok (.invokespecial 50, 3) := by decide +kernel
theorem dX8_init_104 : decode cX8_init 104 = .ok (.putfield 51, 3) := by decide +kernel
theorem dX8_init_107 : decode cX8_init 107 = .ok (.aload_n 0, 1) := by decide +kernel
theorem dX8_init_108 : decode cX8_init 108 = .ok (.new 55, 3) := by decide +kernel
theorem dX8_init_111 : decode cX8_init 111 = .ok (.dup, 1) := by decide +kernel
theorem dX8_init_112 : decode cX8_init 112 = .ok (.invokespecial 57, 3) := by decide +kernel
theorem dX8_init_115 : decode cX8_init 115 = .ok (.putfield 58, 3) := by decide +kernel
theorem dX8_init_118 : decode cX8_init 118 = .ok (.aload_n 0, 1) := by decide +kernel
theorem dX8_init_119 : decode cX8_init 119 = .ok (.new 62, 3) := by decide +kernel
theorem dX8_init_122 : decode cX8_init 122 = .ok (.dup, 1) := by decide +kernel
theorem dX8_init_123 : decode cX8_init 123 = .ok (.invokespecial 64, 3) := by decide +kernel
theorem dX8_init_126 : decode cX8_init 126 = .ok (.putfield 65, 3) := by decide +kernel
theorem dX8_init_129 : decode cX8_init 129 = .ok (.aload_n 0, 1) := by decide +kernel
theorem dX8_init_130 : decode cX8_init 130 = .ok (.new 69, 3) := by decide +kernel
theorem dX8_init_133 : decode cX8_init 133 = .ok (.dup, 1) := by decide +kernel
theorem dX8_init_134 : decode cX8_init 134 = .ok (.invokespecial 71, 3) := by decide +kernel
theorem dX8_init_137 : decode cX8_init 137 = .ok (.putfield 72, 3) := by decide +kernel
theorem dX8_init_140 : decode cX8_init 140 = .ok (.aload_n 0, 1) := by decide +kernel
theorem dX8_init_141 : decode cX8_init 141 = .ok (.getfield 23, 3) := by decide +kernel
theorem dX8_init_144 : decode cX8_init 144 = .ok (.invokevirtual 76, 3) := by decide +kernel
theorem dX8_init_147 : decode cX8_init 147 = .ok (.aload_n 0, 1) := by decide +kernel
theorem dX8_init_148 : decode cX8_init 148 = .ok (.getfield 23, 3) := by decide +kernel
theorem dX8_init_151 : decode cX8_init 151 = .ok (.iconst 0, 1) := by decide +kernel
theorem dX8_init_152 : decode cX8_init 152 = .ok (.invokevirtual 79, 3) := by decide +kernel
theorem dX8_init_155 : decode cX8_init 155 = .ok (.pop, 1) := by decide +kernel
theorem dX8_init_156 : decode cX8_init 156 = .ok (.aload_n 0, 1) := by decide +kernel
theorem dX8_init_157 : decode cX8_init 157 = .ok (.getfield 33, 3) := by decide +kernel
theorem dX8_init_160 : decode cX8_init 160 = .ok (.aload_n 0, 1) := by decide +kernel
theorem dX8_init_161 : decode cX8_init 161 = .ok (.getfield 23, 3) := by decide +kernel
theorem dX8_init_164 : decode cX8_init 164 = .ok (.invokevirtual 83, 3) := by decide +kernel
theorem dX8_init_167 : decode cX8_init 167 = .ok (.return_, 1) := by decide +kernel
theorem dX8_write_0 : decode cX8_write 0 = .ok (.iload_n 1, 1) := by decide +kernel
theorem dX8_write_1 : decode cX8_write 1 = .ok (.iconst 1, 1) := by decide +kernel
theorem dX8_write_2 : decode cX8_write 2 = .ok (.bipush 8, 2) := by decide +kernel
theorem dX8_write_4 : decode cX8_write 4 = .ok (.invokestatic 87, 3) := by decide +kernel
theorem dX8_write_7 : decode cX8_write 7 = .ok (.ifCond .ne 5, 3) := by decide +kernel
theorem dX8_write_10 : decode cX8_write 10 = .ok (.iconst (-1), 1) := by decide +kernel
theorem dX8_write_11 : decode cX8_write 11 = .ok (.ireturn, 1) := by decide +kernel
theorem dX8_write_12 : decode cX8_write 12 = .ok (.aload_n 0, 1) := by decide +kernel
theorem dX8_write_13 : decode cX8_write 13 = .ok (.getfield 91, 3) := by decide +kernel
theorem dX8_write_16 : decode cX8_write 16 = .ok (.iload_n 1, 1) := by decide +kernel
theorem dX8_write_17 : decode cX8_write 17 = .ok (.iadd, 1) := by decide +kernel
theorem dX8_write_18 : decode cX8_write 18 = .ok (.sipush 300, 3) := by decide +kernel
theorem dX8_write_21 : decode cX8_write 21 = .ok (.if_icmp .le 6, 3) := by decide +kernel
theorem dX8_write_24 : decode cX8_write 24 = .ok (.bipush (-3), 2) := by decide +kernel
theorem dX8_write_26 : decode cX8_write 26 = .ok (.ireturn, 1) := by decide +kernel
