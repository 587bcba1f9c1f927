theorem dX12_thrown_0 : decode cX12_thrown 0 = .ok (.aload_n 0, 1) := by decide +kernel
theorem dX12_thrown_1 : decode cX12_thrown 1 = .ok (.getfield 1, 3) := by decide +kernel
theorem dX12_thrown_4 : decode cX12_thrown 4 = .ok (.ireturn, 1) := by decide +kernel
theorem dX12_isIn_0 : decode cX12_isIn 0 = .ok (.iload_n 0, 1) := by decide +kernel
theorem dX12_isIn_1 : decode cX12_isIn 1 = .ok (.iload_n 1, 1) := by decide +kernel
theorem dX12_isIn_2 : decode cX12_isIn 2 = .ok (.if_icmp .lt 12, 3) := by decide +kernel
theorem dX12_isIn_5 : decode cX12_isIn 5 = .ok (.iload_n 0, 1) := by decide +kernel
theorem dX12_isIn_6 : decode cX12_isIn 6 = .ok (.iload_n 2, 1) := by decide +kernel
theorem dX12_isIn_7 : decode cX12_isIn 7 = .ok (.if_icmp .gt 7, 3) := by decide +kernel
theorem dX12_isIn_10 : decode cX12_isIn 10 = .ok (.iconst 1, 1) := by decide +kernel
theorem dX12_isIn_11 : decode cX12_isIn 11 = .ok (.goto 4, 3) := by decide +kernel
theorem dX12_isIn_14 : decode cX12_isIn 14 = .ok (.iconst 0, 1) := by decide +kernel
theorem dX12_isIn_15 : decode cX12_isIn 15 = .ok (.ireturn, 1) := by decide +kernel
theorem dX12_copies_0 : decode cX12_copies 0 = .ok (.iconst 0, 1) := by decide +kernel
theorem dX12_copies_1 : decode cX12_copies 1 = .ok (.istore 5, 2) := by decide +kernel
theorem dX12_copies_3 : decode cX12_copies 3 = .ok (.iload 5, 2) := by decide +kernel
theorem dX12_copies_5 : decode cX12_copies 5 = .ok (.iload 4, 2) := by decide +kernel
theorem dX12_copies_7 : decode cX12_copies 7 = .ok (.if_icmp .ge 21, 3) := by decide +kernel
theorem dX12_copies_10 : decode cX12_copies 10 = .ok (.aload_n 2, 1) := by decide +kernel
theorem dX12_copies_11 : decode cX12_copies 11 = .ok (.iload_n 3, 1) := by decide +kernel
theorem dX12_copies_12 : decode cX12_copies 12 = .ok (.iload 5, 2) := by decide +kernel
theorem dX12_copies_14 : decode cX12_copies 14 = .ok (.iadd, 1) := by decide +kernel
theorem dX12_copies_15 : decode cX12_copies 15 = .ok (.aload_n 0, 1) := by decide +kernel
theorem dX12_copies_16 : decode cX12_copies 16 = .ok (.iload_n 1, 1) := by decide +kernel
theorem dX12_copies_17 : decode cX12_copies 17 = .ok (.iload 5, 2) := by decide +kernel
theorem dX12_copies_19 : decode cX12_copies 19 = .ok (.iadd, 1) := by decide +kernel
theorem dX12_copies_20 : decode cX12_copies 20 = .ok (.iaload, 1) := by decide +kernel
theorem dX12_copies_21 : decode cX12_copies 21 = .ok (.iastore, 1) := by decide +kernel
theorem dX12_copies_22 : decode cX12_copies 22 = .ok (.iinc 5 1, 3) := by decide +kernel
theorem dX12_copies_25 : decode cX12_copies 25 = .ok (.goto (-22), 3) := by decide +kernel
theorem dX12_copies_28 : decode cX12_copies 28 = .ok (.return_, 1) := by decide +kernel
theorem dX12_init_0 : decode cX12_init 0 = .ok (.aload_n 0, 1) := by decide +kernel
theorem dX12_init_1 : decode cX12_init 1 = .ok (.invokespecial 7, 3) := by decide +kernel
theorem dX12_init_4 : decode cX12_init 4 = .ok (.aload_n 0, 1) := by decide +kernel
theorem dX12_init_5 : decode cX12_init 5 = .ok (.sipush 800, 3) := by decide +kernel
theorem dX12_init_8 : decode cX12_init 8 = .ok (.newarray .int, 2) := by decide +kernel
theorem dX12_init_10 : decode cX12_init 10 = .ok (.putfield 13, 3) := by decide +kernel
theorem dX12_init_13 : decode cX12_init 13 = .ok (.aload_n 0, 1) := by decide +kernel
theorem dX12_init_14 : decode cX12_init 14 = .ok (.sipush 800, 3) := by decide +kernel
theorem dX12_init_17 : decode cX12_init 17 = .ok (.newarray .int, 2) := by decide +kernel
theorem dX12_init_19 : decode cX12_init 19 = .ok (.putfield 17, 3) := by decide +kernel
theorem dX12_init_22 : decode cX12_init 22 = .ok (.aload_n 0, 1) := by decide +kernel
theorem dX12_init_23 : decode cX12_init 23 = .ok (.sipush 800, 3) := by decide +kernel
theorem dX12_init_26 : decode cX12_init 26 = .ok (.newarray .int, 2) := by decide +kernel
theorem dX12_init_28 : decode cX12_init 28 = .ok (.putfield 20, 3) := by decide +kernel
theorem dX12_init_31 : decode cX12_init 31 = .ok (.aload_n 0, 1) := by decide +kernel
theorem dX12_init_32 : decode cX12_init 32 = .ok (.sipush 6400, 3) := by decide +kernel
theorem dX12_init_35 : decode cX12_init 35 = .ok (.newarray .int, 2) := by decide +kernel
theorem dX12_init_37 : decode cX12_init 37 = .ok (.putfield 23, 3) := by decide +kernel
theorem dX12_init_40 : decode cX12_init 40 = .ok (.aload_n 0, 1) := by decide +kernel
theorem dX12_init_41 : decode cX12_init 41 = .ok (.sipush 600, 3) := by decide +kernel
theorem dX12_init_44 : decode cX12_init 44 = .ok (.newarray .byte, 2) := by decide +kernel
theorem dX12_init_46 : decode cX12_init 46 = .ok (.putfield 26, 3) := by decide +kernel
theorem dX12_init_49 : decode cX12_init 49 = .ok (.aload_n 0, 1) := by decide +kernel
theorem dX12_init_50 : decode cX12_init 50 = .ok (.iconst (-1), 1) := by decide +kernel
theorem dX12_init_51 : decode cX12_init 51 = .ok (.putfield 30, 3) := by decide +kernel
theorem dX12_init_54 : decode cX12_init 54 = .ok (.aload_n 0, 1) := by decide +kernel
theorem dX12_init_55 : decode cX12_init 55 = .ok (.bipush 120, 2) := by decide +kernel
theorem dX12_init_57 : decode cX12_init 57 = .ok (.newarray .int, 2) := by decide +kernel
theorem dX12_init_59 : decode cX12_init 59 = .ok (.putfield 33, 3) := by decide +kernel
theorem dX12_init_62 : decode cX12_init 62 = .ok (.aload_n 0, 1) := by decide +kernel
theorem dX12_init_63 : decode cX12_init 63 = .ok (.sipush 800, 3) := by decide +kernel
theorem dX12_init_66 : decode cX12_init 66 = .ok (.newarray .int, 2) := by decide +kernel
theorem dX12_init_68 : decode cX12_init 68 = .ok (.putfield 36, 3) := by decide +kernel
theorem dX12_init_71 : decode cX12_init 71 = .ok (.aload_n 0, 1) := by decide +kernel
theorem dX12_init_72 : decode cX12_init 72 = .ok (.sipush 250, 3) := by decide +kernel
theorem dX12_init_75 : decode cX12_init 75 = .ok (.newarray .byte, 2) := by decide +kernel
theorem dX12_init_77 : decode cX12_init 77 = .ok (.putfield 39, 3) := by decide +kernel
theorem dX12_init_80 : decode cX12_init 80 = .ok (.aload_n 0, 1) := by decide +kernel
theorem dX12_init_81 : decode cX12_init 81 = .ok (.invokevirtual 42, 3) := by decide +kernel
theorem dX12_init_84 : decode cX12_init 84 = .ok (.aload_n 0, 1) := by decide +kernel
theorem dX12_init_85 : decode cX12_init 85 = .ok (.iconst 1, 1) := by decide +kernel
theorem dX12_init_86 : decode cX12_init 86 = .ok (.iconst 2, 1) := by decide +kernel
theorem dX12_init_87 : decode cX12_init 87 = .ok (.iconst 2, 1) := by decide +kernel
theorem dX12_init_88 : decode cX12_init 88 = .ok (.iconst 5, 1) := by decide +kernel
theorem dX12_init_89 : decode cX12_init 89 = .ok (.invokevirtual 45, 3) := by decide +kernel
theorem dX12_init_92 : decode cX12_init 92 = .ok (.aload_n 0, 1) := by decide +kernel
theorem dX12_init_93 : decode cX12_init 93 = .ok (.iconst 2, 1) := by decide +kernel
theorem dX12_init_94 : decode cX12_init 94 = .ok (.iconst 2, 1) := by decide +kernel
theorem dX12_init_95 : decode cX12_init 95 = .ok (.iconst 2, 1) := by decide +kernel
theorem dX12_init_96 : decode cX12_init 96 = .ok (.iconst 5, 1) := by decide +kernel
theorem dX12_init_97 : decode cX12_init 97 = .ok (.invokevirtual 45, 3) := by decide +kernel
theorem dX12_init_100 : decode cX12_init 100 = .ok (.aload_n 0, 1) := by decide +kernel
theorem dX12_init_101 : decode cX12_init 101 = .ok (.getfield 13, 3) := by decide +kernel
theorem dX12_init_104 : decode cX12_init 104 = .ok (.iconst 1, 1) := by decide +kernel
theorem dX12_init_105 : decode cX12_init 105 = .ok (.iconst 2, 1) := by decide +kernel
theorem dX12_init_106 : decode cX12_init 106 = .ok (.iastore, 1) := by decide +kernel
theorem dX12_init_107 : decode cX12_init 107 = .ok (.aload_n 0, 1) := by decide +kernel
theorem dX12_init_108 : decode cX12_init 108 = .ok (.getfield 13, 3) := by decide +kernel
theorem dX12_init_111 : decode cX12_init 111 = .ok (.bipush 31, 2) := by decide +kernel
theorem dX12_init_113 : decode cX12_init 113 = .ok (.iconst 1, 1) := by decide +kernel
theorem dX12_init_114 : decode cX12_init 114 = .ok (.iastore, 1) := by decide +kernel
theorem dX12_init_115 : decode cX12_init 115 = .ok (.return_, 1) := by decide +kernel
theorem dX12_begins_0 : decode cX12_begins 0 = .ok (.iconst 0, 1) := by decide +kernel
theorem dX12_begins_1 : decode cX12_begins 1 = .ok (.istore_n 1, 1) := by decide +kernel
theorem dX12_begins_2 : decode cX12_begins 2 = .ok (.iload_n 1, 1) := by decide +kernel
theorem dX12_begins_3 : decode cX12_begins 3 = .ok (.sipush 800, 3) := by decide +kernel
theorem dX12_begins_6 : decode cX12_begins 6 = .ok (.if_icmp .ge 16, 3) := by decide +kernel
theorem dX12_begins_9 : decode cX12_begins 9 = .ok (.aload_n 0, 1) := by decide +kernel
theorem dX12_begins_10 : decode cX12_begins 10 = .ok (.getfield 13, 3) := by decide +kernel
theorem dX12_begins_13 : decode cX12_begins 13 = .ok (.iload_n 1, 1) := by decide +kernel
theorem dX12_begins_14 : decode cX12_begins 14 = .ok (.iconst 0, 1) := by decide +kernel
theorem dX12_begins_15 : decode cX12_begins 15 = .ok (.iastore, 1) := by decide +kernel
theorem dX12_begins_16 : decode cX12_begins 16 = .ok (.iinc 1 1, 3) := by decide +kernel
theorem dX12_begins_19 : decode cX12_begins 19 = .ok (.goto (-17), 3) := by decide +kernel
theorem dX12_begins_22 : decode cX12_begins 22 = .ok (.aload_n 0, 1) := by decide +kernel
theorem dX12_begins_23 : decode cX12_begins 23 = .ok (.getfield 13, 3) := by decide +kernel
theorem dX12_begins_26 : decode cX12_begins 26 = .ok (.iconst 5, 1) := by decide +kernel
theorem dX12_begins_27 : decode cX12_begins 27 = .ok (.iconst 1, 1) := by decide +kernel
theorem dX12_begins_28 : decode cX12_begins 28 = .ok (.iastore, 1) := by decide +kernel
theorem dX12_begins_29 : decode cX12_begins 29 = .ok (.aload_n 0, 1) := by decide +kernel
theorem dX12_begins_30 : decode cX12_begins 30 = .ok (.getfield 13, 3) := by decide +kernel
theorem dX12_begins_33 : decode cX12_begins 33 = .ok (.bipush 6, 2) := by decide +kernel
theorem dX12_begins_35 : decode cX12_begins 35 = .ok (.iconst 5, 1) := by decide +kernel
theorem dX12_begins_36 : decode cX12_begins 36 = .ok (.iastore, 1) := by decide +kernel
theorem dX12_begins_37 : decode cX12_begins 37 = .ok (.aload_n 0, 1) := by decide +kernel
theorem dX12_begins_38 : decode cX12_begins 38 = .ok (.getfield 13, 3) := by decide +kernel
theorem dX12_begins_41 : decode cX12_begins 41 = .ok (.bipush 7, 2) := by decide +kernel
theorem dX12_begins_43 : decode cX12_begins 43 = .ok (.iconst 3, 1) := by decide +kernel
theorem dX12_begins_44 : decode cX12_begins 44 = .ok (.iastore, 1) := by decide +kernel
theorem dX12_begins_45 : decode cX12_begins 45 = .ok (.aload_n 0, 1) := by decide +kernel
theorem dX12_begins_46 : decode cX12_begins 46 = .ok (.getfield 13, 3) := by decide +kernel
theorem dX12_begins_49 : decode cX12_begins 49 = .ok (.bipush 8, 2) := by decide +kernel
theorem dX12_begins_51 : decode cX12_begins 51 = .ok (.iconst 2, 1) := by decide +kernel
theorem dX12_begins_52 : decode cX12_begins 52 = .ok (.iastore, 1) := by decide +kernel
theorem dX12_begins_53 : decode cX12_begins 53 = .ok (.aload_n 0, 1) := by decide +kernel
theorem dX12_begins_54 : decode cX12_begins 54 = .ok (.getfield 13, 3) := by decide +kernel
theorem dX12_begins_57 : decode cX12_begins 57 = .ok (.bipush 9, 2) := by decide +kernel
theorem dX12_begins_59 : decode cX12_begins 59 = .ok (.bipush 8, 2) := by decide +kernel
theorem dX12_begins_61 : decode cX12_begins 61 = .ok (.iastore, 1) := by decide +kernel
theorem dX12_begins_62 : decode cX12_begins 62 = .ok (.aload_n 0, 1) := by decide +kernel
theorem dX12_begins_63 : decode cX12_begins 63 = .ok (.getfield 13, 3) := by decide +kernel
theorem dX12_begins_66 : decode cX12_begins 66 = .ok (.bipush 10, 2) := by decide +kernel
theorem dX12_begins_68 : decode cX12_begins 68 = .ok (.iconst 1, 1) := by decide +kernel
theorem dX12_begins_69 : decode cX12_begins 69 = .ok (.iastore, 1) := by decide +kernel
theorem dX12_begins_70 : decode cX12_begins 70 = .ok (.aload_n 0, 1) := by decide +kernel
theorem dX12_begins_71 : decode cX12_begins 71 = .ok (.getfield 13, 3) := by decide +kernel
theorem dX12_begins_74 : decode cX12_begins 74 = .ok (.bipush 26, 2) := by decide +kernel
theorem dX12_begins_76 : decode cX12_begins 76 = .ok (.iconst (-1), 1) := by decide +kernel
theorem dX12_begins_77 : decode cX12_begins 77 = .ok (.iastore, 1) := by decide +kernel
theorem dX12_begins_78 : decode cX12_begins 78 = .ok (.aload_n 0, 1) := by decide +kernel
theorem dX12_begins_79 : decode cX12_begins 79 = .ok (.getfield 13, 3) := by decide +kernel
theorem dX12_begins_82 : decode cX12_begins 82 = .ok (.bipush 27, 2) := by decide +kernel
theorem dX12_begins_84 : decode cX12_begins 84 = .ok (.iconst (-1), 1) := by decide +kernel
theorem dX12_begins_85 : decode cX12_begins 85 = .ok (.iastore, 1) := by decide +kernel
theorem dX12_begins_86 : decode cX12_begins 86 = .ok (.aload_n 0, 1) := by decide +kernel
theorem dX12_begins_87 : decode cX12_begins 87 = .ok (.getfield 13, 3) := by decide +kernel
theorem dX12_begins_90 : decode cX12_begins 90 = .ok (.bipush 28, 2) := by decide +kernel
theorem dX12_begins_92 : decode cX12_begins 92 = .ok (.iconst (-1), 1) := by decide +kernel
theorem dX12_begins_93 : decode cX12_begins 93 = .ok (.iastore, 1) := by decide +kernel
theorem dX12_begins_94 : decode cX12_begins 94 = .ok (.return_, 1) := by decide +kernel
theorem dX12_least_0 : decode cX12_least 0 = .ok (.iload_n 0, 1) := by decide +kernel
theorem dX12_least_1 : decode cX12_least 1 = .ok (.iconst 3, 1) := by decide +kernel
theorem dX12_least_2 : decode cX12_least 2 = .ok (.if_icmp .ge 7, 3) := by decide +kernel
theorem dX12_least_5 : decode cX12_least 5 = .ok (.iconst 1, 1) := by decide +kernel
theorem dX12_least_6 : decode cX12_least 6 = .ok (.goto 4, 3) := by decide +kernel
theorem dX12_least_9 : decode cX12_least 9 = .ok (.iconst 0, 1) := by decide +kernel
theorem dX12_least_10 : decode cX12_least 10 = .ok (.ireturn, 1) := by decide +kernel
theorem dX12_greatest_0 : decode cX12_greatest 0 = .ok (.iload_n 0, 1) := by decide +kernel
theorem dX12_greatest_1 : decode cX12_greatest 1 = .ok (.ifCond .eq 8, 3) := by decide +kernel
theorem dX12_greatest_4 : decode cX12_greatest 4 = .ok (.iload_n 0, 1) := by decide +kernel
theorem dX12_greatest_5 : decode cX12_greatest 5 = .ok (.iconst 3, 1) := by decide +kernel
theorem dX12_greatest_6 : decode cX12_greatest 6 = .ok (.if_icmp .ne 8, 3) := by decide +kernel
theorem dX12_greatest_9 : decode cX12_greatest 9 = .ok (.bipush 20, 2) := by decide +kernel
theorem dX12_greatest_11 : decode cX12_greatest 11 = .ok (.goto 14, 3) := by decide +kernel
theorem dX12_greatest_14 : decode cX12_greatest 14 = .ok (.iload_n 0, 1) := by decide +kernel
theorem dX12_greatest_15 : decode cX12_greatest 15 = .ok (.iconst 5, 1) := by decide +kernel
theorem dX12_greatest_16 : decode cX12_greatest 16 = .ok (.if_icmp .ne 8, 3) := by decide +kernel
theorem dX12_greatest_19 : decode cX12_greatest 19 = .ok (.bipush 99, 2) := by decide +kernel
theorem dX12_greatest_21 : decode cX12_greatest 21 = .ok (.goto 4, 3) := by decide +kernel
theorem dX12_greatest_24 : decode cX12_greatest 24 = .ok (.iconst 5, 1) := by decide +kernel
theorem dX12_greatest_25 : decode cX12_greatest 25 = .ok (.ireturn, 1) := by decide +kernel
theorem dX12_many_0 : decode cX12_many 0 = .ok (.aload_n 0, 1) := by decide +kernel
theorem dX12_many_1 : decode cX12_many 1 = .ok (.getfield 13, 3) := by decide +kernel
theorem dX12_many_4 : decode cX12_many 4 = .ok (.iconst 0, 1) := by decide +kernel
theorem dX12_many_5 : decode cX12_many 5 = .ok (.iaload, 1) := by decide +kernel
theorem dX12_many_6 : decode cX12_many 6 = .ok (.ireturn, 1) := by decide +kernel
theorem dX12_isTerminal_0 : decode cX12_isTerminal 0 = .ok (.iload_n 1, 1) := by decide +kernel
theorem dX12_isTerminal_1 : decode cX12_isTerminal 1 = .ok (.iconst 0, 1) := by decide +kernel
theorem dX12_isTerminal_2 : decode cX12_isTerminal 2 = .ok (.aload_n 0, 1) := by decide +kernel
theorem dX12_isTerminal_3 : decode cX12_isTerminal 3 = .ok (.invokevirtual 49, 3) := by decide +kernel
theorem dX12_isTerminal_6 : decode cX12_isTerminal 6 = .ok (.iconst 1, 1) := by decide +kernel
theorem dX12_isTerminal_7 : decode cX12_isTerminal 7 = .ok (.isub, 1) := by decide +kernel
theorem dX12_isTerminal_8 : decode cX12_isTerminal 8 = .ok (.invokestatic 53, 3) := by decide +kernel
theorem dX12_isTerminal_11 : decode cX12_isTerminal 11 = .ok (.ireturn, 1) := by decide +kernel
theorem dX12_of_0 : decode cX12_of 0 = .ok (.aload_n 0, 1) := by decide +kernel
theorem dX12_of_1 : decode cX12_of 1 = .ok (.getfield 13, 3) := by decide +kernel
theorem dX12_of_4 : decode cX12_of 4 = .ok (.bipush 50, 2) := by decide +kernel
theorem dX12_of_6 : decode cX12_of 6 = .ok (.bipush 16, 2) := by decide +kernel
theorem dX12_of_8 : decode cX12_of 8 = .ok (.iload_n 1, 1) := by decide +kernel
theorem dX12_of_9 : decode cX12_of 9 = .ok (.imul, 1) := by decide +kernel
theorem dX12_of_10 : decode cX12_of 10 = .ok (.iadd, 1) := by decide +kernel
theorem dX12_of_11 : decode cX12_of 11 = .ok (.iload_n 2, 1) := by decide +kernel
theorem dX12_of_12 : decode cX12_of 12 = .ok (.iadd, 1) := by decide +kernel
theorem dX12_of_13 : decode cX12_of 13 = .ok (.iaload, 1) := by decide +kernel
theorem dX12_of_14 : decode cX12_of 14 = .ok (.ireturn, 1) := by decide +kernel
theorem dX12_puts_0 : decode cX12_puts 0 = .ok (.aload_n 0, 1) := by decide +kernel
theorem dX12_puts_1 : decode cX12_puts 1 = .ok (.getfield 13, 3) := by decide +kernel
theorem dX12_puts_4 : decode cX12_puts 4 = .ok (.bipush 50, 2) := by decide +kernel
theorem dX12_puts_6 : decode cX12_puts 6 = .ok (.bipush 16, 2) := by decide +kernel
theorem dX12_puts_8 : decode cX12_puts 8 = .ok (.iload_n 1, 1) := by decide +kernel
theorem dX12_puts_9 : decode cX12_puts 9 = .ok (.imul, 1) := by decide +kernel
theorem dX12_puts_10 : decode cX12_puts 10 = .ok (.iadd, 1) := by decide +kernel
theorem dX12_puts_11 : decode cX12_puts 11 = .ok (.iload_n 2, 1) := by decide +kernel
theorem dX12_puts_12 : decode cX12_puts 12 = .ok (.iadd, 1) := by decide +kernel
theorem dX12_puts_13 : decode cX12_puts 13 = .ok (.iload_n 3, 1) := by decide +kernel
theorem dX12_puts_14 : decode cX12_puts 14 = .ok (.iastore, 1) := by decide +kernel
theorem dX12_puts_15 : decode cX12_puts 15 = .ok (.return_, 1) := by decide +kernel
theorem dX12_turnsBit_0 : decode cX12_turnsBit 0 = .ok (.aload_n 0, 1) := by decide +kernel
theorem dX12_turnsBit_1 : decode cX12_turnsBit 1 = .ok (.iload_n 1, 1) := by decide +kernel
theorem dX12_turnsBit_2 : decode cX12_turnsBit 2 = .ok (.iload_n 2, 1) := by decide +kernel
theorem dX12_turnsBit_3 : decode cX12_turnsBit 3 = .ok (.iconst 1, 1) := by decide +kernel
theorem dX12_turnsBit_4 : decode cX12_turnsBit 4 = .ok (.aload_n 0, 1) := by decide +kernel
theorem dX12_turnsBit_5 : decode cX12_turnsBit 5 = .ok (.iload_n 1, 1) := by decide +kernel
theorem dX12_turnsBit_6 : decode cX12_turnsBit 6 = .ok (.iload_n 2, 1) := by decide +kernel
theorem dX12_turnsBit_7 : decode cX12_turnsBit 7 = .ok (.invokevirtual 57, 3) := by decide +kernel
theorem dX12_turnsBit_10 : decode cX12_turnsBit 10 = .ok (.isub, 1) := by decide +kernel
theorem dX12_turnsBit_11 : decode cX12_turnsBit 11 = .ok (.invokevirtual 61, 3) := by decide +kernel
theorem dX12_turnsBit_14 : decode cX12_turnsBit 14 = .ok (.return_, 1) := by decide +kernel
theorem dX12_grows_0 : decode cX12_grows 0 = .ok (.aload_n 0, 1) := by decide +kernel
theorem dX12_grows_1 : decode cX12_grows 1 = .ok (.iload_n 1, 1) := by decide +kernel
theorem dX12_grows_2 : decode cX12_grows 2 = .ok (.iload_n 2, 1) := by decide +kernel
theorem dX12_grows_3 : decode cX12_grows 3 = .ok (.aload_n 0, 1) := by decide +kernel
theorem dX12_grows_4 : decode cX12_grows 4 = .ok (.iload_n 1, 1) := by decide +kernel
theorem dX12_grows_5 : decode cX12_grows 5 = .ok (.iload_n 2, 1) := by decide +kernel
theorem dX12_grows_6 : decode cX12_grows 6 = .ok (.invokevirtual 57, 3) := by decide +kernel
theorem dX12_grows_9 : decode cX12_grows 9 = .ok (.iconst 1, 1) := by decide +kernel
theorem dX12_grows_10 : decode cX12_grows 10 = .ok (.iadd, 1) := by decide +kernel
theorem dX12_grows_11 : decode cX12_grows 11 = .ok (.invokevirtual 61, 3) := by decide +kernel
theorem dX12_grows_14 : decode cX12_grows 14 = .ok (.return_, 1) := by decide +kernel
theorem dX12_message0_0 : decode cX12_message0 0 = .ok (.aload_n 0, 1) := by decide +kernel
theorem dX12_message0_1 : decode cX12_message0 1 = .ok (.getfield 13, 3) := by decide +kernel
theorem dX12_message0_4 : decode cX12_message0 4 = .ok (.sipush 200, 3) := by decide +kernel
theorem dX12_message0_7 : decode cX12_message0 7 = .ok (.bipush 12, 2) := by decide +kernel
theorem dX12_message0_9 : decode cX12_message0 9 = .ok (.iload_n 1, 1) := by decide +kernel
theorem dX12_message0_10 : decode cX12_message0 10 = .ok (.imul, 1) := by decide +kernel
theorem dX12_message0_11 : decode cX12_message0 11 = .ok (.iadd, 1) := by decide +kernel
theorem dX12_message0_12 : decode cX12_message0 12 = .ok (.iload_n 2, 1) := by decide +kernel
theorem dX12_message0_13 : decode cX12_message0 13 = .ok (.iadd, 1) := by decide +kernel
theorem dX12_message0_14 : decode cX12_message0 14 = .ok (.iaload, 1) := by decide +kernel
theorem dX12_message0_15 : decode cX12_message0 15 = .ok (.ireturn, 1) := by decide +kernel
theorem dX12_tells_0 : decode cX12_tells 0 = .ok (.aload_n 0, 1) := by decide +kernel
theorem dX12_tells_1 : decode cX12_tells 1 = .ok (.getfield 13, 3) := by decide +kernel
theorem dX12_tells_4 : decode cX12_tells 4 = .ok (.sipush 200, 3) := by decide +kernel
theorem dX12_tells_7 : decode cX12_tells 7 = .ok (.bipush 12, 2) := by decide +kernel
theorem dX12_tells_9 : decode cX12_tells 9 = .ok (.iload_n 1, 1) := by decide +kernel
theorem dX12_tells_10 : decode cX12_tells 10 = .ok (.imul, 1) := by decide +kernel
theorem dX12_tells_11 : decode cX12_tells 11 = .ok (.iadd, 1) := by decide +kernel
theorem dX12_tells_12 : decode cX12_tells 12 = .ok (.iload_n 2, 1) := by decide +kernel
theorem dX12_tells_13 : decode cX12_tells 13 = .ok (.iadd, 1) := by decide +kernel
theorem dX12_tells_14 : decode cX12_tells 14 = .ok (.iload_n 3, 1) := by decide +kernel
theorem dX12_tells_15 : decode cX12_tells 15 = .ok (.iastore, 1) := by decide +kernel
theorem dX12_tells_16 : decode cX12_tells 16 = .ok (.return_, 1) := by decide +kernel
theorem dX12_counts_0 : decode cX12_counts 0 = .ok (.aload_n 0, 1) := by decide +kernel
theorem dX12_counts_1 : decode cX12_counts 1 = .ok (.getfield 13, 3) := by decide +kernel
theorem dX12_counts_4 : decode cX12_counts 4 = .ok (.bipush 12, 2) := by decide +kernel
theorem dX12_counts_6 : decode cX12_counts 6 = .ok (.iload_n 1, 1) := by decide +kernel
theorem dX12_counts_7 : decode cX12_counts 7 = .ok (.iadd, 1) := by decide +kernel
theorem dX12_counts_8 : decode cX12_counts 8 = .ok (.aload_n 0, 1) := by decide +kernel
theorem dX12_counts_9 : decode cX12_counts 9 = .ok (.getfield 13, 3) := by decide +kernel
theorem dX12_counts_12 : decode cX12_counts 12 = .ok (.bipush 12, 2) := by decide +kernel
theorem dX12_counts_14 : decode cX12_counts 14 = .ok (.iload_n 1, 1) := by decide +kernel
theorem dX12_counts_15 : decode cX12_counts 15 = .ok (.iadd, 1) := by decide +kernel
theorem dX12_counts_16 : decode cX12_counts 16 = .ok (.iaload, 1) := by decide +kernel
theorem dX12_counts_17 : decode cX12_counts 17 = .ok (.iconst 1, 1) := by decide +kernel
theorem dX12_counts_18 : decode cX12_counts 18 = .ok (.iadd, 1) := by decide +kernel
theorem dX12_counts_19 : decode cX12_counts 19 = .ok (.iastore, 1) := by decide +kernel
theorem dX12_counts_20 : decode cX12_counts 20 = .ok (.return_, 1) := by decide +kernel
theorem dX12_nextNumber_0 : decode cX12_nextNumber 0 = .ok (.aload_n 0, 1) := by decide +kernel
theorem dX12_nextNumber_1 : decode cX12_nextNumber 1 = .ok (.getfield 13, 3) := by decide +kernel
theorem dX12_nextNumber_4 : decode cX12_nextNumber 4 = .ok (.bipush 46, 2) := by decide +kernel
theorem dX12_nextNumber_6 : decode cX12_nextNumber 6 = .ok (.aload_n 0, 1) := by decide +kernel
theorem dX12_nextNumber_7 : decode cX12_nextNumber 7 = .ok (.getfield 13, 3) := by decide +kernel
theorem dX12_nextNumber_10 : decode cX12_nextNumber 10 = .ok (.bipush 46, 2) := by decide +kernel
theorem dX12_nextNumber_12 : decode cX12_nextNumber 12 = .ok (.iaload, 1) := by decide +kernel
theorem dX12_nextNumber_13 : decode cX12_nextNumber 13 = .ok (.iconst 1, 1) := by decide +kernel
theorem dX12_nextNumber_14 : decode cX12_nextNumber 14 = .ok (.iadd, 1) := by decide +kernel
theorem dX12_nextNumber_15 : decode cX12_nextNumber 15 = .ok (.iastore, 1) := by decide +kernel
theorem dX12_nextNumber_16 : decode cX12_nextNumber 16 = .ok (.aload_n 0, 1) := by decide +kernel
theorem dX12_nextNumber_17 : decode cX12_nextNumber 17 = .ok (.getfield 13, 3) := by decide +kernel
theorem dX12_nextNumber_20 : decode cX12_nextNumber 20 = .ok (.bipush 46, 2) := by decide +kernel
theorem dX12_nextNumber_22 : decode cX12_nextNumber 22 = .ok (.iaload, 1) := by decide +kernel
theorem dX12_nextNumber_23 : decode cX12_nextNumber 23 = .ok (.ireturn, 1) := by decide +kernel
theorem dX12_lays_0 : decode cX12_lays 0 = .ok (.aload_n 0, 1) := by decide +kernel
theorem dX12_lays_1 : decode cX12_lays 1 = .ok (.invokevirtual 49, 3) := by decide +kernel
theorem dX12_lays_4 : decode cX12_lays 4 = .ok (.istore 5, 2) := by decide +kernel
theorem dX12_lays_6 : decode cX12_lays 6 = .ok (.aload_n 0, 1) := by decide +kernel
theorem dX12_lays_7 : decode cX12_lays 7 = .ok (.iload 5, 2) := by decide +kernel
theorem dX12_lays_9 : decode cX12_lays 9 = .ok (.iconst 0, 1) := by decide +kernel
theorem dX12_lays_10 : decode cX12_lays 10 = .ok (.iload_n 2, 1) := by decide +kernel
theorem dX12_lays_11 : decode cX12_lays 11 = .ok (.invokevirtual 61, 3) := by decide +kernel
theorem dX12_lays_14 : decode cX12_lays 14 = .ok (.aload_n 0, 1) := by decide +kernel
theorem dX12_lays_15 : decode cX12_lays 15 = .ok (.iload 5, 2) := by decide +kernel
theorem dX12_lays_17 : decode cX12_lays 17 = .ok (.iconst 1, 1) := by decide +kernel
theorem dX12_lays_18 : decode cX12_lays 18 = .ok (.iload_n 3, 1) := by decide +kernel
theorem dX12_lays_19 : decode cX12_lays 19 = .ok (.invokevirtual 61, 3) := by decide +kernel
theorem dX12_lays_22 : decode cX12_lays 22 = .ok (.aload_n 0, 1) := by decide +kernel
theorem dX12_lays_23 : decode cX12_lays 23 = .ok (.iload 5, 2) := by decide +kernel
theorem dX12_lays_25 : decode cX12_lays 25 = .ok (.iconst 2, 1) := by decide +kernel
theorem dX12_lays_26 : decode cX12_lays 26 = .ok (.iload 4, 2) := by decide +kernel
theorem dX12_lays_28 : decode cX12_lays 28 = .ok (.invokevirtual 61, 3) := by decide +kernel
theorem dX12_lays_31 : decode cX12_lays 31 = .ok (.aload_n 0, 1) := by decide +kernel
theorem dX12_lays_32 : decode cX12_lays 32 = .ok (.iload 5, 2) := by decide +kernel
theorem dX12_lays_34 : decode cX12_lays 34 = .ok (.iconst 3, 1) := by decide +kernel
theorem dX12_lays_35 : decode cX12_lays 35 = .ok (.iconst 1, 1) := by decide +kernel
theorem dX12_lays_36 : decode cX12_lays 36 = .ok (.invokevirtual 61, 3) := by decide +kernel
theorem dX12_lays_39 : decode cX12_lays 39 = .ok (.aload_n 0, 1) := by decide +kernel
theorem dX12_lays_40 : decode cX12_lays 40 = .ok (.iload 5, 2) := by decide +kernel
theorem dX12_lays_42 : decode cX12_lays 42 = .ok (.iconst 4, 1) := by decide +kernel
theorem dX12_lays_43 : decode cX12_lays 43 = .ok (.iconst 1, 1) := by decide +kernel
theorem dX12_lays_44 : decode cX12_lays 44 = .ok (.invokevirtual 61, 3) := by decide +kernel
theorem dX12_lays_47 : decode cX12_lays 47 = .ok (.aload_n 0, 1) := by decide +kernel
theorem dX12_lays_48 : decode cX12_lays 48 = .ok (.iload 5, 2) := by decide +kernel
theorem dX12_lays_50 : decode cX12_lays 50 = .ok (.bipush 15, 2) := by decide +kernel
theorem dX12_lays_52 : decode cX12_lays 52 = .ok (.iload_n 1, 1) := by decide +kernel
theorem dX12_lays_53 : decode cX12_lays 53 = .ok (.invokevirtual 61, 3) := by decide +kernel
theorem dX12_lays_56 : decode cX12_lays 56 = .ok (.aload_n 0, 1) := by decide +kernel
theorem dX12_lays_57 : decode cX12_lays 57 = .ok (.getfield 13, 3) := by decide +kernel
theorem dX12_lays_60 : decode cX12_lays 60 = .ok (.iconst 0, 1) := by decide +kernel
theorem dX12_lays_61 : decode cX12_lays 61 = .ok (.iload 5, 2) := by decide +kernel
theorem dX12_lays_63 : decode cX12_lays 63 = .ok (.iconst 1, 1) := by decide +kernel
theorem dX12_lays_64 : decode cX12_lays 64 = .ok (.iadd, 1) := by decide +kernel
theorem dX12_lays_65 : decode cX12_lays 65 = .ok (.iastore, 1) := by decide +kernel
theorem dX12_lays_66 : decode cX12_lays 66 = .ok (.return_, 1) := by decide +kernel
theorem dX12_orderIn_0 : decode cX12_orderIn 0 = .ok (.iload_n 3, 1) := by decide +kernel
theorem dX12_orderIn_1 : decode cX12_orderIn 1 = .ok (.ifCond .ne 32, 3) := by decide +kernel
theorem dX12_orderIn_4 : decode cX12_orderIn 4 = .ok (.aload_n 0, 1) := by decide +kernel
theorem dX12_orderIn_5 : decode cX12_orderIn 5 = .ok (.iload_n 1, 1) := by decide +kernel
theorem dX12_orderIn_6 : decode cX12_orderIn 6 = .ok (.iconst 0, 1) := by decide +kernel
theorem dX12_orderIn_7 : decode cX12_orderIn 7 = .ok (.invokevirtual 65, 3) := by decide +kernel
theorem dX12_orderIn_10 : decode cX12_orderIn 10 = .ok (.iload_n 2, 1) := by decide +kernel
theorem dX12_orderIn_11 : decode cX12_orderIn 11 = .ok (.if_icmp .ne 20, 3) := by decide +kernel
theorem dX12_orderIn_14 : decode cX12_orderIn 14 = .ok (.aload_n 0, 1) := by decide +kernel
theorem dX12_orderIn_15 : decode cX12_orderIn 15 = .ok (.iload_n 1, 1) := by decide +kernel
theorem dX12_orderIn_16 : decode cX12_orderIn 16 = .ok (.bipush 8, 2) := by decide +kernel
theorem dX12_orderIn_18 : decode cX12_orderIn 18 = .ok (.invokevirtual 65, 3) := by decide +kernel
theorem dX12_orderIn_21 : decode cX12_orderIn 21 = .ok (.iconst 1, 1) := by decide +kernel
theorem dX12_orderIn_22 : decode cX12_orderIn 22 = .ok (.if_icmp .ne 9, 3) := by decide +kernel
theorem dX12_orderIn_25 : decode cX12_orderIn 25 = .ok (.iload_n 1, 1) := by decide +kernel
theorem dX12_orderIn_26 : decode cX12_orderIn 26 = .ok (.iconst 1, 1) := by decide +kernel
theorem dX12_orderIn_27 : decode cX12_orderIn 27 = .ok (.iadd, 1) := by decide +kernel
theorem dX12_orderIn_28 : decode cX12_orderIn 28 = .ok (.goto 4, 3) := by decide +kernel
theorem dX12_orderIn_31 : decode cX12_orderIn 31 = .ok (.iconst 0, 1) := by decide +kernel
theorem dX12_orderIn_32 : decode cX12_orderIn 32 = .ok (.ireturn, 1) := by decide +kernel
theorem dX12_orderIn_33 : decode cX12_orderIn 33 = .ok (.aload_n 0, 1) := by decide +kernel
theorem dX12_orderIn_34 : decode cX12_orderIn 34 = .ok (.iload_n 1, 1) := by decide +kernel
theorem dX12_orderIn_35 : decode cX12_orderIn 35 = .ok (.iconst 1, 1) := by decide +kernel
theorem dX12_orderIn_36 : decode cX12_orderIn 36 = .ok (.invokevirtual 65, 3) := by decide +kernel
theorem dX12_orderIn_39 : decode cX12_orderIn 39 = .ok (.iload_n 2, 1) := by decide +kernel
theorem dX12_orderIn_40 : decode cX12_orderIn 40 = .ok (.if_icmp .eq 5, 3) := by decide +kernel
theorem dX12_orderIn_43 : decode cX12_orderIn 43 = .ok (.iconst 0, 1) := by decide +kernel
theorem dX12_orderIn_44 : decode cX12_orderIn 44 = .ok (.ireturn, 1) := by decide +kernel
theorem dX12_orderIn_45 : decode cX12_orderIn 45 = .ok (.aload_n 0, 1) := by decide +kernel
theorem dX12_orderIn_46 : decode cX12_orderIn 46 = .ok (.iload_n 1, 1) := by decide +kernel
theorem dX12_orderIn_47 : decode cX12_orderIn 47 = .ok (.iload_n 3, 1) := by decide +kernel
theorem dX12_orderIn_48 : decode cX12_orderIn 48 = .ok (.iconst 1, 1) := by decide +kernel
theorem dX12_orderIn_49 : decode cX12_orderIn 49 = .ok (.if_icmp .ne 8, 3) := by decide +kernel
theorem dX12_orderIn_52 : decode cX12_orderIn 52 = .ok (.bipush 9, 2) := by decide +kernel
theorem dX12_orderIn_54 : decode cX12_orderIn 54 = .ok (.goto 5, 3) := by decide +kernel
theorem dX12_orderIn_57 : decode cX12_orderIn 57 = .ok (.bipush 10, 2) := by decide +kernel
theorem dX12_orderIn_59 : decode cX12_orderIn 59 = .ok (.invokevirtual 65, 3) := by decide +kernel
theorem dX12_orderIn_62 : decode cX12_orderIn 62 = .ok (.ireturn, 1) := by decide +kernel
theorem dX12_inRowMany_0 : decode cX12_inRowMany 0 = .ok (.iconst 0, 1) := by decide +kernel
theorem dX12_inRowMany_1 : decode cX12_inRowMany 1 = .ok (.istore_n 3, 1) := by decide +kernel
theorem dX12_inRowMany_2 : decode cX12_inRowMany 2 = .ok (.iconst 0, 1) := by decide +kernel
theorem dX12_inRowMany_3 : decode cX12_inRowMany 3 = .ok (.istore 4, 2) := by decide +kernel
theorem dX12_inRowMany_5 : decode cX12_inRowMany 5 = .ok (.iload 4, 2) := by decide +kernel
theorem dX12_inRowMany_7 : decode cX12_inRowMany 7 = .ok (.aload_n 0, 1) := by decide +kernel
theorem dX12_inRowMany_8 : decode cX12_inRowMany 8 = .ok (.getfield 13, 3) := by decide +kernel
theorem dX12_inRowMany_11 : decode cX12_inRowMany 11 = .ok (.iconst 2, 1) := by decide +kernel
theorem dX12_inRowMany_12 : decode cX12_inRowMany 12 = .ok (.iaload, 1) := by decide +kernel
theorem dX12_inRowMany_13 : decode cX12_inRowMany 13 = .ok (.if_icmp .ge 24, 3) := by decide +kernel
theorem dX12_inRowMany_16 : decode cX12_inRowMany 16 = .ok (.aload_n 0, 1) := by decide +kernel
theorem dX12_inRowMany_17 : decode cX12_inRowMany 17 = .ok (.iload 4, 2) := by decide +kernel
theorem dX12_inRowMany_19 : decode cX12_inRowMany 19 = .ok (.iload_n 1, 1) := by decide +kernel
theorem dX12_inRowMany_20 : decode cX12_inRowMany 20 = .ok (.iload_n 2, 1) := by decide +kernel
theorem dX12_inRowMany_21 : decode cX12_inRowMany 21 = .ok (.invokevirtual 68, 3) := by decide +kernel
theorem dX12_inRowMany_24 : decode cX12_inRowMany 24 = .ok (.ifCond .le 7, 3) := by decide +kernel
theorem dX12_inRowMany_27 : decode cX12_inRowMany 27 = .ok (.iload_n 3, 1) := by decide +kernel
theorem dX12_inRowMany_28 : decode cX12_inRowMany 28 = .ok (.iconst 1, 1) := by decide +kernel
theorem dX12_inRowMany_29 : decode cX12_inRowMany 29 = .ok (.iadd, 1) := by decide +kernel
theorem dX12_inRowMany_30 : decode cX12_inRowMany 30 = .ok (.istore_n 3, 1) := by decide +kernel
theorem dX12_inRowMany_31 : decode cX12_inRowMany 31 = .ok (.iinc 4 1, 3) := by decide +kernel
theorem dX12_inRowMany_34 : decode cX12_inRowMany 34 = .ok (.goto (-29), 3) := by decide +kernel
theorem dX12_inRowMany_37 : decode cX12_inRowMany 37 = .ok (.iload_n 3, 1) := by decide +kernel
theorem dX12_inRowMany_38 : decode cX12_inRowMany 38 = .ok (.ireturn, 1) := by decide +kernel
theorem dX12_aheadOf_0 : decode cX12_aheadOf 0 = .ok (.iconst 0, 1) := by decide +kernel
theorem dX12_aheadOf_1 : decode cX12_aheadOf 1 = .ok (.istore 4, 2) := by decide +kernel
theorem dX12_aheadOf_3 : decode cX12_aheadOf 3 = .ok (.iconst 0, 1) := by decide +kernel
theorem dX12_aheadOf_4 : decode cX12_aheadOf 4 = .ok (.istore 5, 2) := by decide +kernel
theorem dX12_aheadOf_6 : decode cX12_aheadOf 6 = .ok (.iload 5, 2) := by decide +kernel
theorem dX12_aheadOf_8 : decode cX12_aheadOf 8 = .ok (.aload_n 0, 1) := by decide +kernel
theorem dX12_aheadOf_9 : decode cX12_aheadOf 9 = .ok (.getfield 13, 3) := by decide +kernel
theorem dX12_aheadOf_12 : decode cX12_aheadOf 12 = .ok (.iconst 2, 1) := by decide +kernel
theorem dX12_aheadOf_13 : decode cX12_aheadOf 13 = .ok (.iaload, 1) := by decide +kernel
theorem dX12_aheadOf_14 : decode cX12_aheadOf 14 = .ok (.if_icmp .ge 44, 3) := by decide +kernel
theorem dX12_aheadOf_17 : decode cX12_aheadOf 17 = .ok (.aload_n 0, 1) := by decide +kernel
theorem dX12_aheadOf_18 : decode cX12_aheadOf 18 = .ok (.iload 5, 2) := by decide +kernel
theorem dX12_aheadOf_20 : decode cX12_aheadOf 20 = .ok (.iload_n 2, 1) := by decide +kernel
theorem dX12_aheadOf_21 : decode cX12_aheadOf 21 = .ok (.iload_n 3, 1) := by decide +kernel
theorem dX12_aheadOf_22 : decode cX12_aheadOf 22 = .ok (.invokevirtual 68, 3) := by decide +kernel
theorem dX12_aheadOf_25 : decode cX12_aheadOf 25 = .ok (.ifCond .le 27, 3) := by decide +kernel
theorem dX12_aheadOf_28 : decode cX12_aheadOf 28 = .ok (.aload_n 0, 1) := by decide +kernel
theorem dX12_aheadOf_29 : decode cX12_aheadOf 29 = .ok (.iload 5, 2) := by decide +kernel
theorem dX12_aheadOf_31 : decode cX12_aheadOf 31 = .ok (.iload_n 2, 1) := by decide +kernel
theorem dX12_aheadOf_32 : decode cX12_aheadOf 32 = .ok (.iload_n 3, 1) := by decide +kernel
theorem dX12_aheadOf_33 : decode cX12_aheadOf 33 = .ok (.invokevirtual 68, 3) := by decide +kernel
theorem dX12_aheadOf_36 : decode cX12_aheadOf 36 = .ok (.aload_n 0, 1) := by decide +kernel
theorem dX12_aheadOf_37 : decode cX12_aheadOf 37 = .ok (.iload_n 1, 1) := by decide +kernel
theorem dX12_aheadOf_38 : decode cX12_aheadOf 38 = .ok (.iload_n 2, 1) := by decide +kernel
theorem dX12_aheadOf_39 : decode cX12_aheadOf 39 = .ok (.iload_n 3, 1) := by decide +kernel
theorem dX12_aheadOf_40 : decode cX12_aheadOf 40 = .ok (.invokevirtual 68, 3) := by decide +kernel
theorem dX12_aheadOf_43 : decode cX12_aheadOf 43 = .ok (.if_icmp .ge 9, 3) := by decide +kernel
theorem dX12_aheadOf_46 : decode cX12_aheadOf 46 = .ok (.iload 4, 2) := by decide +kernel
theorem dX12_aheadOf_48 : decode cX12_aheadOf 48 = .ok (.iconst 1, 1) := by decide +kernel
theorem dX12_aheadOf_49 : decode cX12_aheadOf 49 = .ok (.iadd, 1) := by decide +kernel
theorem dX12_aheadOf_50 : decode cX12_aheadOf 50 = .ok (.istore 4, 2) := by decide +kernel
theorem dX12_aheadOf_52 : decode cX12_aheadOf 52 = .ok (.iinc 5 1, 3) := by decide +kernel
theorem dX12_aheadOf_55 : decode cX12_aheadOf 55 = .ok (.goto (-49), 3) := by decide +kernel
theorem dX12_aheadOf_58 : decode cX12_aheadOf 58 = .ok (.iload 4, 2) := by decide +kernel
theorem dX12_aheadOf_60 : decode cX12_aheadOf 60 = .ok (.ireturn, 1) := by decide +kernel
theorem dX12_rowAt_0 : decode cX12_rowAt 0 = .ok (.iconst 0, 1) := by decide +kernel
theorem dX12_rowAt_1 : decode cX12_rowAt 1 = .ok (.istore 4, 2) := by decide +kernel
theorem dX12_rowAt_3 : decode cX12_rowAt 3 = .ok (.iload 4, 2) := by decide +kernel
theorem dX12_rowAt_5 : decode cX12_rowAt 5 = .ok (.aload_n 0, 1) := by decide +kernel
theorem dX12_rowAt_6 : decode cX12_rowAt 6 = .ok (.getfield 13, 3) := by decide +kernel
theorem dX12_rowAt_9 : decode cX12_rowAt 9 = .ok (.iconst 2, 1) := by decide +kernel
theorem dX12_rowAt_10 : decode cX12_rowAt 10 = .ok (.iaload, 1) := by decide +kernel
theorem dX12_rowAt_11 : decode cX12_rowAt 11 = .ok (.if_icmp .ge 35, 3) := by decide +kernel
theorem dX12_rowAt_14 : decode cX12_rowAt 14 = .ok (.aload_n 0, 1) := by decide +kernel
theorem dX12_rowAt_15 : decode cX12_rowAt 15 = .ok (.iload 4, 2) := by decide +kernel
theorem dX12_rowAt_17 : decode cX12_rowAt 17 = .ok (.iload_n 1, 1) := by decide +kernel
theorem dX12_rowAt_18 : decode cX12_rowAt 18 = .ok (.iload_n 2, 1) := by decide +kernel
theorem dX12_rowAt_19 : decode cX12_rowAt 19 = .ok (.invokevirtual 68, 3) := by decide +kernel
theorem dX12_rowAt_22 : decode cX12_rowAt 22 = .ok (.ifCond .le 18, 3) := by decide +kernel
theorem dX12_rowAt_25 : decode cX12_rowAt 25 = .ok (.aload_n 0, 1) := by decide +kernel
theorem dX12_rowAt_26 : decode cX12_rowAt 26 = .ok (.iload 4, 2) := by decide +kernel
theorem dX12_rowAt_28 : decode cX12_rowAt 28 = .ok (.iload_n 1, 1) := by decide +kernel
theorem dX12_rowAt_29 : decode cX12_rowAt 29 = .ok (.iload_n 2, 1) := by decide +kernel
theorem dX12_rowAt_30 : decode cX12_rowAt 30 = .ok (.invokevirtual 72, 3) := by decide +kernel
theorem dX12_rowAt_33 : decode cX12_rowAt 33 = .ok (.iload_n 3, 1) := by decide +kernel
theorem dX12_rowAt_34 : decode cX12_rowAt 34 = .ok (.if_icmp .ne 6, 3) := by decide +kernel
theorem dX12_rowAt_37 : decode cX12_rowAt 37 = .ok (.iload 4, 2) := by decide +kernel
theorem dX12_rowAt_39 : decode cX12_rowAt 39 = .ok (.ireturn, 1) := by decide +kernel
theorem dX12_rowAt_40 : decode cX12_rowAt 40 = .ok (.iinc 4 1, 3) := by decide +kernel
theorem dX12_rowAt_43 : decode cX12_rowAt 43 = .ok (.goto (-40), 3) := by decide +kernel
theorem dX12_rowAt_46 : decode cX12_rowAt 46 = .ok (.iconst (-1), 1) := by decide +kernel
theorem dX12_rowAt_47 : decode cX12_rowAt 47 = .ok (.ireturn, 1) := by decide +kernel
theorem dX12_delivers_0 : decode cX12_delivers 0 = .ok (.aload_n 0, 1) := by decide +kernel
theorem dX12_delivers_1 : decode cX12_delivers 1 = .ok (.iload_n 1, 1) := by decide +kernel
theorem dX12_delivers_2 : decode cX12_delivers 2 = .ok (.iconst 3, 1) := by decide +kernel
theorem dX12_delivers_3 : decode cX12_delivers 3 = .ok (.iconst 3, 1) := by decide +kernel
theorem dX12_delivers_4 : decode cX12_delivers 4 = .ok (.invokevirtual 75, 3) := by decide +kernel
theorem dX12_delivers_7 : decode cX12_delivers 7 = .ok (.aload_n 0, 1) := by decide +kernel
theorem dX12_delivers_8 : decode cX12_delivers 8 = .ok (.iload_n 1, 1) := by decide +kernel
theorem dX12_delivers_9 : decode cX12_delivers 9 = .ok (.bipush 7, 2) := by decide +kernel
theorem dX12_delivers_11 : decode cX12_delivers 11 = .ok (.iload_n 2, 1) := by decide +kernel
theorem dX12_delivers_12 : decode cX12_delivers 12 = .ok (.invokevirtual 75, 3) := by decide +kernel
theorem dX12_delivers_15 : decode cX12_delivers 15 = .ok (.return_, 1) := by decide +kernel
theorem dX12_settles_0 : decode cX12_settles 0 = .ok (.aload_n 0, 1) := by decide +kernel
theorem dX12_settles_1 : decode cX12_settles 1 = .ok (.iload_n 1, 1) := by decide +kernel
theorem dX12_settles_2 : decode cX12_settles 2 = .ok (.iconst 2, 1) := by decide +kernel
theorem dX12_settles_3 : decode cX12_settles 3 = .ok (.iconst 0, 1) := by decide +kernel
theorem dX12_settles_4 : decode cX12_settles 4 = .ok (.invokevirtual 78, 3) := by decide +kernel
theorem dX12_settles_7 : decode cX12_settles 7 = .ok (.istore_n 2, 1) := by decide +kernel
theorem dX12_settles_8 : decode cX12_settles 8 = .ok (.iload_n 2, 1) := by decide +kernel
theorem dX12_settles_9 : decode cX12_settles 9 = .ok (.iconst (-1), 1) := by decide +kernel
theorem dX12_settles_10 : decode cX12_settles 10 = .ok (.if_icmp .eq 78, 3) := by decide +kernel
theorem dX12_settles_13 : decode cX12_settles 13 = .ok (.aload_n 0, 1) := by decide +kernel
theorem dX12_settles_14 : decode cX12_settles 14 = .ok (.iload_n 1, 1) := by decide +kernel
theorem dX12_settles_15 : decode cX12_settles 15 = .ok (.bipush 10, 2) := by decide +kernel
theorem dX12_settles_17 : decode cX12_settles 17 = .ok (.invokevirtual 57, 3) := by decide +kernel
theorem dX12_settles_20 : decode cX12_settles 20 = .ok (.aload_n 0, 1) := by decide +kernel
theorem dX12_settles_21 : decode cX12_settles 21 = .ok (.iload_n 1, 1) := by decide +kernel
theorem dX12_settles_22 : decode cX12_settles 22 = .ok (.iconst 2, 1) := by decide +kernel
theorem dX12_settles_23 : decode cX12_settles 23 = .ok (.invokevirtual 57, 3) := by decide +kernel
theorem dX12_settles_26 : decode cX12_settles 26 = .ok (.iadd, 1) := by decide +kernel
theorem dX12_settles_27 : decode cX12_settles 27 = .ok (.aload_n 0, 1) := by decide +kernel
theorem dX12_settles_28 : decode cX12_settles 28 = .ok (.getfield 13, 3) := by decide +kernel
theorem dX12_settles_31 : decode cX12_settles 31 = .ok (.iconst 3, 1) := by decide +kernel
theorem dX12_settles_32 : decode cX12_settles 32 = .ok (.iaload, 1) := by decide +kernel
theorem dX12_settles_33 : decode cX12_settles 33 = .ok (.if_icmp .gt 55, 3) := by decide +kernel
theorem dX12_settles_36 : decode cX12_settles 36 = .ok (.aload_n 0, 1) := by decide +kernel
theorem dX12_settles_37 : decode cX12_settles 37 = .ok (.iload_n 1, 1) := by decide +kernel
theorem dX12_settles_38 : decode cX12_settles 38 = .ok (.bipush 10, 2) := by decide +kernel
theorem dX12_settles_40 : decode cX12_settles 40 = .ok (.aload_n 0, 1) := by decide +kernel
theorem dX12_settles_41 : decode cX12_settles 41 = .ok (.iload_n 1, 1) := by decide +kernel
theorem dX12_settles_42 : decode cX12_settles 42 = .ok (.bipush 10, 2) := by decide +kernel
theorem dX12_settles_44 : decode cX12_settles 44 = .ok (.invokevirtual 57, 3) := by decide +kernel
theorem dX12_settles_47 : decode cX12_settles 47 = .ok (.aload_n 0, 1) := by decide +kernel
theorem dX12_settles_48 : decode cX12_settles 48 = .ok (.iload_n 1, 1) := by decide +kernel
theorem dX12_settles_49 : decode cX12_settles 49 = .ok (.iconst 2, 1) := by decide +kernel
theorem dX12_settles_50 : decode cX12_settles 50 = .ok (.invokevirtual 57, 3) := by decide +kernel
theorem dX12_settles_53 : decode cX12_settles 53 = .ok (.iadd, 1) := by decide +kernel
theorem dX12_settles_54 : decode cX12_settles 54 = .ok (.invokevirtual 61, 3) := by decide +kernel
theorem dX12_settles_57 : decode cX12_settles 57 = .ok (.aload_n 0, 1) := by decide +kernel
theorem dX12_settles_58 : decode cX12_settles 58 = .ok (.iload_n 2, 1) := by decide +kernel
theorem dX12_settles_59 : decode cX12_settles 59 = .ok (.aload_n 0, 1) := by decide +kernel
theorem dX12_settles_60 : decode cX12_settles 60 = .ok (.iload_n 1, 1) := by decide +kernel
theorem dX12_settles_61 : decode cX12_settles 61 = .ok (.bipush 10, 2) := by decide +kernel
theorem dX12_settles_63 : decode cX12_settles 63 = .ok (.invokevirtual 57, 3) := by decide +kernel
theorem dX12_settles_66 : decode cX12_settles 66 = .ok (.invokevirtual 81, 3) := by decide +kernel
theorem dX12_settles_69 : decode cX12_settles 69 = .ok (.aload_n 0, 1) := by decide +kernel
theorem dX12_settles_70 : decode cX12_settles 70 = .ok (.iload_n 2, 1) := by decide +kernel
theorem dX12_settles_71 : decode cX12_settles 71 = .ok (.bipush 10, 2) := by decide +kernel
theorem dX12_settles_73 : decode cX12_settles 73 = .ok (.iconst 0, 1) := by decide +kernel
theorem dX12_settles_74 : decode cX12_settles 74 = .ok (.invokevirtual 75, 3) := by decide +kernel
theorem dX12_settles_77 : decode cX12_settles 77 = .ok (.aload_n 0, 1) := by decide +kernel
theorem dX12_settles_78 : decode cX12_settles 78 = .ok (.iload_n 1, 1) := by decide +kernel
theorem dX12_settles_79 : decode cX12_settles 79 = .ok (.iconst 2, 1) := by decide +kernel
theorem dX12_settles_80 : decode cX12_settles 80 = .ok (.iconst 0, 1) := by decide +kernel
theorem dX12_settles_81 : decode cX12_settles 81 = .ok (.invokevirtual 78, 3) := by decide +kernel
theorem dX12_settles_84 : decode cX12_settles 84 = .ok (.istore_n 2, 1) := by decide +kernel
theorem dX12_settles_85 : decode cX12_settles 85 = .ok (.goto (-77), 3) := by decide +kernel
theorem dX12_settles_88 : decode cX12_settles 88 = .ok (.return_, 1) := by decide +kernel
theorem dX12_passes_0 : decode cX12_passes 0 = .ok (.aload_n 0, 1) := by decide +kernel
theorem dX12_passes_1 : decode cX12_passes 1 = .ok (.getfield 13, 3) := by decide +kernel
theorem dX12_passes_4 : decode cX12_passes 4 = .ok (.iconst 3, 1) := by decide +kernel
theorem dX12_passes_5 : decode cX12_passes 5 = .ok (.aload_n 0, 1) := by decide +kernel
theorem dX12_passes_6 : decode cX12_passes 6 = .ok (.getfield 13, 3) := by decide +kernel
theorem dX12_passes_9 : decode cX12_passes 9 = .ok (.iconst 3, 1) := by decide +kernel
theorem dX12_passes_10 : decode cX12_passes 10 = .ok (.iaload, 1) := by decide +kernel
theorem dX12_passes_11 : decode cX12_passes 11 = .ok (.iload_n 1, 1) := by decide +kernel
theorem dX12_passes_12 : decode cX12_passes 12 = .ok (.iadd, 1) := by decide +kernel
theorem dX12_passes_13 : decode cX12_passes 13 = .ok (.iastore, 1) := by decide +kernel
theorem dX12_passes_14 : decode cX12_passes 14 = .ok (.iconst 0, 1) := by decide +kernel
theorem dX12_passes_15 : decode cX12_passes 15 = .ok (.istore_n 2, 1) := by decide +kernel
theorem dX12_passes_16 : decode cX12_passes 16 = .ok (.iload_n 2, 1) := by decide +kernel
theorem dX12_passes_17 : decode cX12_passes 17 = .ok (.aload_n 0, 1) := by decide +kernel
theorem dX12_passes_18 : decode cX12_passes 18 = .ok (.invokevirtual 49, 3) := by decide +kernel
theorem dX12_passes_21 : decode cX12_passes 21 = .ok (.if_icmp .ge 14, 3) := by decide +kernel
theorem dX12_passes_24 : decode cX12_passes 24 = .ok (.aload_n 0, 1) := by decide +kernel
theorem dX12_passes_25 : decode cX12_passes 25 = .ok (.iload_n 2, 1) := by decide +kernel
theorem dX12_passes_26 : decode cX12_passes 26 = .ok (.invokevirtual 85, 3) := by decide +kernel
theorem dX12_passes_29 : decode cX12_passes 29 = .ok (.iinc 2 1, 3) := by decide +kernel
theorem dX12_passes_32 : decode cX12_passes 32 = .ok (.goto (-16), 3) := by decide +kernel
theorem dX12_passes_35 : decode cX12_passes 35 = .ok (.return_, 1) := by decide +kernel
theorem dX12_sends_0 : decode cX12_sends 0 = .ok (.aload_n 0, 1) := by decide +kernel
theorem dX12_sends_1 : decode cX12_sends 1 = .ok (.iconst 0, 1) := by decide +kernel
theorem dX12_sends_2 : decode cX12_sends 2 = .ok (.invokevirtual 89, 3) := by decide +kernel
theorem dX12_sends_5 : decode cX12_sends 5 = .ok (.aload_n 0, 1) := by decide +kernel
theorem dX12_sends_6 : decode cX12_sends 6 = .ok (.iload_n 1, 1) := by decide +kernel
theorem dX12_sends_7 : decode cX12_sends 7 = .ok (.invokevirtual 92, 3) := by decide +kernel
theorem dX12_sends_10 : decode cX12_sends 10 = .ok (.aload_n 0, 1) := by decide +kernel
theorem dX12_sends_11 : decode cX12_sends 11 = .ok (.getfield 13, 3) := by decide +kernel
theorem dX12_sends_14 : decode cX12_sends 14 = .ok (.iconst 5, 1) := by decide +kernel
theorem dX12_sends_15 : decode cX12_sends 15 = .ok (.bipush 75, 2) := by decide +kernel
theorem dX12_sends_17 : decode cX12_sends 17 = .ok (.aload_n 0, 1) := by decide +kernel
theorem dX12_sends_18 : decode cX12_sends 18 = .ok (.getfield 13, 3) := by decide +kernel
theorem dX12_sends_21 : decode cX12_sends 21 = .ok (.iconst 5, 1) := by decide +kernel
theorem dX12_sends_22 : decode cX12_sends 22 = .ok (.iaload, 1) := by decide +kernel
theorem dX12_sends_23 : decode cX12_sends 23 = .ok (.imul, 1) := by decide +kernel
theorem dX12_sends_24 : decode cX12_sends 24 = .ok (.bipush 74, 2) := by decide +kernel
theorem dX12_sends_26 : decode cX12_sends 26 = .ok (.iadd, 1) := by decide +kernel
theorem dX12_sends_27 : decode cX12_sends 27 = .ok (.ldc 95, 2) := by decide +kernel
theorem dX12_sends_29 : decode cX12_sends 29 = .ok (.irem, 1) := by decide +kernel
theorem dX12_sends_30 : decode cX12_sends 30 = .ok (.iastore, 1) := by decide +kernel
theorem dX12_sends_31 : decode cX12_sends 31 = .ok (.aload_n 0, 1) := by decide +kernel
theorem dX12_sends_32 : decode cX12_sends 32 = .ok (.getfield 13, 3) := by decide +kernel
theorem dX12_sends_35 : decode cX12_sends 35 = .ok (.iconst 5, 1) := by decide +kernel
theorem dX12_sends_36 : decode cX12_sends 36 = .ok (.iaload, 1) := by decide +kernel
theorem dX12_sends_37 : decode cX12_sends 37 = .ok (.bipush 100, 2) := by decide +kernel
theorem dX12_sends_39 : decode cX12_sends 39 = .ok (.irem, 1) := by decide +kernel
theorem dX12_sends_40 : decode cX12_sends 40 = .ok (.aload_n 0, 1) := by decide +kernel
theorem dX12_sends_41 : decode cX12_sends 41 = .ok (.getfield 13, 3) := by decide +kernel
theorem dX12_sends_44 : decode cX12_sends 44 = .ok (.bipush 11, 2) := by decide +kernel
theorem dX12_sends_46 : decode cX12_sends 46 = .ok (.iaload, 1) := by decide +kernel
theorem dX12_sends_47 : decode cX12_sends 47 = .ok (.if_icmp .ge 7, 3) := by decide +kernel
theorem dX12_sends_50 : decode cX12_sends 50 = .ok (.iconst 1, 1) := by decide +kernel
theorem dX12_sends_51 : decode cX12_sends 51 = .ok (.goto 4, 3) := by decide +kernel
theorem dX12_sends_54 : decode cX12_sends 54 = .ok (.iconst 0, 1) := by decide +kernel
theorem dX12_sends_55 : decode cX12_sends 55 = .ok (.istore_n 2, 1) := by decide +kernel
theorem dX12_sends_56 : decode cX12_sends 56 = .ok (.iload_n 2, 1) := by decide +kernel
theorem dX12_sends_57 : decode cX12_sends 57 = .ok (.ifCond .eq 8, 3) := by decide +kernel
theorem dX12_sends_60 : decode cX12_sends 60 = .ok (.aload_n 0, 1) := by decide +kernel
theorem dX12_sends_61 : decode cX12_sends 61 = .ok (.iconst 1, 1) := by decide +kernel
theorem dX12_sends_62 : decode cX12_sends 62 = .ok (.invokevirtual 89, 3) := by decide +kernel
theorem dX12_sends_65 : decode cX12_sends 65 = .ok (.iload_n 2, 1) := by decide +kernel
theorem dX12_sends_66 : decode cX12_sends 66 = .ok (.ireturn, 1) := by decide +kernel
theorem dX12_refuses_0 : decode cX12_refuses 0 = .ok (.aload_n 0, 1) := by decide +kernel
theorem dX12_refuses_1 : decode cX12_refuses 1 = .ok (.iconst 1, 1) := by decide +kernel
theorem dX12_refuses_2 : decode cX12_refuses 2 = .ok (.invokevirtual 96, 3) := by decide +kernel
theorem dX12_refuses_5 : decode cX12_refuses 5 = .ok (.istore_n 1, 1) := by decide +kernel
theorem dX12_refuses_6 : decode cX12_refuses 6 = .ok (.aload_n 0, 1) := by decide +kernel
theorem dX12_refuses_7 : decode cX12_refuses 7 = .ok (.bipush 10, 2) := by decide +kernel
theorem dX12_refuses_9 : decode cX12_refuses 9 = .ok (.invokevirtual 89, 3) := by decide +kernel
theorem dX12_refuses_12 : decode cX12_refuses 12 = .ok (.return_, 1) := by decide +kernel
theorem dX12_hostTakes_0 : decode cX12_hostTakes 0 = .ok (.aload_n 0, 1) := by decide +kernel
theorem dX12_hostTakes_1 : decode cX12_hostTakes 1 = .ok (.iconst 3, 1) := by decide +kernel
theorem dX12_hostTakes_2 : decode cX12_hostTakes 2 = .ok (.invokevirtual 89, 3) := by decide +kernel
theorem dX12_hostTakes_5 : decode cX12_hostTakes 5 = .ok (.aload_n 0, 1) := by decide +kernel
theorem dX12_hostTakes_6 : decode cX12_hostTakes 6 = .ok (.iload_n 1, 1) := by decide +kernel
theorem dX12_hostTakes_7 : decode cX12_hostTakes 7 = .ok (.iconst 5, 1) := by decide +kernel
theorem dX12_hostTakes_8 : decode cX12_hostTakes 8 = .ok (.aload_n 0, 1) := by decide +kernel
theorem dX12_hostTakes_9 : decode cX12_hostTakes 9 = .ok (.getfield 13, 3) := by decide +kernel
theorem dX12_hostTakes_12 : decode cX12_hostTakes 12 = .ok (.iconst 3, 1) := by decide +kernel
theorem dX12_hostTakes_13 : decode cX12_hostTakes 13 = .ok (.iaload, 1) := by decide +kernel
theorem dX12_hostTakes_14 : decode cX12_hostTakes 14 = .ok (.invokevirtual 75, 3) := by decide +kernel
theorem dX12_hostTakes_17 : decode cX12_hostTakes 17 = .ok (.aload_n 0, 1) := by decide +kernel
theorem dX12_hostTakes_18 : decode cX12_hostTakes 18 = .ok (.iload_n 1, 1) := by decide +kernel
theorem dX12_hostTakes_19 : decode cX12_hostTakes 19 = .ok (.iconst 1, 1) := by decide +kernel
theorem dX12_hostTakes_20 : decode cX12_hostTakes 20 = .ok (.invokevirtual 65, 3) := by decide +kernel
theorem dX12_hostTakes_23 : decode cX12_hostTakes 23 = .ok (.iconst (-1), 1) := by decide +kernel
theorem dX12_hostTakes_24 : decode cX12_hostTakes 24 = .ok (.if_icmp .ne 15, 3) := by decide +kernel
theorem dX12_hostTakes_27 : decode cX12_hostTakes 27 = .ok (.aload_n 0, 1) := by decide +kernel
theorem dX12_hostTakes_28 : decode cX12_hostTakes 28 = .ok (.iload_n 1, 1) := by decide +kernel
theorem dX12_hostTakes_29 : decode cX12_hostTakes 29 = .ok (.aload_n 0, 1) := by decide +kernel
theorem dX12_hostTakes_30 : decode cX12_hostTakes 30 = .ok (.getfield 13, 3) := by decide +kernel
theorem dX12_hostTakes_33 : decode cX12_hostTakes 33 = .ok (.iconst 3, 1) := by decide +kernel
theorem dX12_hostTakes_34 : decode cX12_hostTakes 34 = .ok (.iaload, 1) := by decide +kernel
theorem dX12_hostTakes_35 : decode cX12_hostTakes 35 = .ok (.invokevirtual 81, 3) := by decide +kernel
theorem dX12_hostTakes_38 : decode cX12_hostTakes 38 = .ok (.return_, 1) := by decide +kernel
theorem dX12_hostTakes_39 : decode cX12_hostTakes 39 = .ok (.aload_n 0, 1) := by decide +kernel
theorem dX12_hostTakes_40 : decode cX12_hostTakes 40 = .ok (.iload_n 1, 1) := by decide +kernel
theorem dX12_hostTakes_41 : decode cX12_hostTakes 41 = .ok (.iconst 3, 1) := by decide +kernel
theorem dX12_hostTakes_42 : decode cX12_hostTakes 42 = .ok (.iconst 1, 1) := by decide +kernel
theorem dX12_hostTakes_43 : decode cX12_hostTakes 43 = .ok (.invokevirtual 75, 3) := by decide +kernel
theorem dX12_hostTakes_46 : decode cX12_hostTakes 46 = .ok (.aload_n 0, 1) := by decide +kernel
theorem dX12_hostTakes_47 : decode cX12_hostTakes 47 = .ok (.iload_n 1, 1) := by decide +kernel
theorem dX12_hostTakes_48 : decode cX12_hostTakes 48 = .ok (.bipush 9, 2) := by decide +kernel
theorem dX12_hostTakes_50 : decode cX12_hostTakes 50 = .ok (.aload_n 0, 1) := by decide +kernel
theorem dX12_hostTakes_51 : decode cX12_hostTakes 51 = .ok (.invokevirtual 100, 3) := by decide +kernel
theorem dX12_hostTakes_54 : decode cX12_hostTakes 54 = .ok (.invokevirtual 75, 3) := by decide +kernel
theorem dX12_hostTakes_57 : decode cX12_hostTakes 57 = .ok (.return_, 1) := by decide +kernel
theorem dX12_calls_0 : decode cX12_calls 0 = .ok (.aload_n 0, 1) := by decide +kernel
theorem dX12_calls_1 : decode cX12_calls 1 = .ok (.iconst 1, 1) := by decide +kernel
theorem dX12_calls_2 : decode cX12_calls 2 = .ok (.invokevirtual 96, 3) := by decide +kernel
theorem dX12_calls_5 : decode cX12_calls 5 = .ok (.istore_n 2, 1) := by decide +kernel
theorem dX12_calls_6 : decode cX12_calls 6 = .ok (.iload_n 2, 1) := by decide +kernel
theorem dX12_calls_7 : decode cX12_calls 7 = .ok (.ifCond .ne 17, 3) := by decide +kernel
theorem dX12_calls_10 : decode cX12_calls 10 = .ok (.aload_n 0, 1) := by decide +kernel
theorem dX12_calls_11 : decode cX12_calls 11 = .ok (.iload_n 1, 1) := by decide +kernel
theorem dX12_calls_12 : decode cX12_calls 12 = .ok (.iconst 3, 1) := by decide +kernel
theorem dX12_calls_13 : decode cX12_calls 13 = .ok (.invokevirtual 57, 3) := by decide +kernel
theorem dX12_calls_16 : decode cX12_calls 16 = .ok (.iconst 1, 1) := by decide +kernel
theorem dX12_calls_17 : decode cX12_calls 17 = .ok (.if_icmp .ne 7, 3) := by decide +kernel
theorem dX12_calls_20 : decode cX12_calls 20 = .ok (.iconst 1, 1) := by decide +kernel
theorem dX12_calls_21 : decode cX12_calls 21 = .ok (.goto 4, 3) := by decide +kernel
theorem dX12_calls_24 : decode cX12_calls 24 = .ok (.iconst 0, 1) := by decide +kernel
theorem dX12_calls_25 : decode cX12_calls 25 = .ok (.istore_n 3, 1) := by decide +kernel
theorem dX12_calls_26 : decode cX12_calls 26 = .ok (.aload_n 0, 1) := by decide +kernel
theorem dX12_calls_27 : decode cX12_calls 27 = .ok (.iload_n 3, 1) := by decide +kernel
theorem dX12_calls_28 : decode cX12_calls 28 = .ok (.ifCond .eq 12, 3) := by decide +kernel
theorem dX12_calls_31 : decode cX12_calls 31 = .ok (.aload_n 0, 1) := by decide +kernel
theorem dX12_calls_32 : decode cX12_calls 32 = .ok (.iload_n 1, 1) := by decide +kernel
theorem dX12_calls_33 : decode cX12_calls 33 = .ok (.iconst 0, 1) := by decide +kernel
theorem dX12_calls_34 : decode cX12_calls 34 = .ok (.invokevirtual 57, 3) := by decide +kernel
theorem dX12_calls_37 : decode cX12_calls 37 = .ok (.goto 10, 3) := by decide +kernel
theorem dX12_calls_40 : decode cX12_calls 40 = .ok (.aload_n 0, 1) := by decide +kernel
theorem dX12_calls_41 : decode cX12_calls 41 = .ok (.getfield 13, 3) := by decide +kernel
theorem dX12_calls_44 : decode cX12_calls 44 = .ok (.bipush 6, 2) := by decide +kernel
theorem dX12_calls_46 : decode cX12_calls 46 = .ok (.iaload, 1) := by decide +kernel
theorem dX12_calls_47 : decode cX12_calls 47 = .ok (.invokevirtual 92, 3) := by decide +kernel
theorem dX12_calls_50 : decode cX12_calls 50 = .ok (.iload_n 3, 1) := by decide +kernel
theorem dX12_calls_51 : decode cX12_calls 51 = .ok (.ireturn, 1) := by decide +kernel
theorem dX12_pollTry_0 : decode cX12_pollTry 0 = .ok (.aload_n 0, 1) := by decide +kernel
theorem dX12_pollTry_1 : decode cX12_pollTry 1 = .ok (.iload_n 1, 1) := by decide +kernel
theorem dX12_pollTry_2 : decode cX12_pollTry 2 = .ok (.invokevirtual 103, 3) := by decide +kernel
theorem dX12_pollTry_5 : decode cX12_pollTry 5 = .ok (.ifCond .ne 5, 3) := by decide +kernel
theorem dX12_pollTry_8 : decode cX12_pollTry 8 = .ok (.iconst 0, 1) := by decide +kernel
theorem dX12_pollTry_9 : decode cX12_pollTry 9 = .ok (.ireturn, 1) := by decide +kernel
theorem dX12_pollTry_10 : decode cX12_pollTry 10 = .ok (.aload_n 0, 1) := by decide +kernel
theorem dX12_pollTry_11 : decode cX12_pollTry 11 = .ok (.iload_n 1, 1) := by decide +kernel
theorem dX12_pollTry_12 : decode cX12_pollTry 12 = .ok (.iconst 0, 1) := by decide +kernel
theorem dX12_pollTry_13 : decode cX12_pollTry 13 = .ok (.iconst 0, 1) := by decide +kernel
theorem dX12_pollTry_14 : decode cX12_pollTry 14 = .ok (.invokevirtual 78, 3) := by decide +kernel
theorem dX12_pollTry_17 : decode cX12_pollTry 17 = .ok (.istore_n 2, 1) := by decide +kernel
theorem dX12_pollTry_18 : decode cX12_pollTry 18 = .ok (.iload_n 2, 1) := by decide +kernel
theorem dX12_pollTry_19 : decode cX12_pollTry 19 = .ok (.iconst (-1), 1) := by decide +kernel
theorem dX12_pollTry_20 : decode cX12_pollTry 20 = .ok (.if_icmp .ne 20, 3) := by decide +kernel
theorem dX12_pollTry_23 : decode cX12_pollTry 23 = .ok (.aload_n 0, 1) := by decide +kernel
theorem dX12_pollTry_24 : decode cX12_pollTry 24 = .ok (.iconst 1, 1) := by decide +kernel
theorem dX12_pollTry_25 : decode cX12_pollTry 25 = .ok (.invokevirtual 96, 3) := by decide +kernel
theorem dX12_pollTry_28 : decode cX12_pollTry 28 = .ok (.ifCond .eq 5, 3) := by decide +kernel
theorem dX12_pollTry_31 : decode cX12_pollTry 31 = .ok (.iconst 0, 1) := by decide +kernel
theorem dX12_pollTry_32 : decode cX12_pollTry 32 = .ok (.ireturn, 1) := by decide +kernel
theorem dX12_pollTry_33 : decode cX12_pollTry 33 = .ok (.aload_n 0, 1) := by decide +kernel
theorem dX12_pollTry_34 : decode cX12_pollTry 34 = .ok (.iconst 2, 1) := by decide +kernel
theorem dX12_pollTry_35 : decode cX12_pollTry 35 = .ok (.invokevirtual 89, 3) := by decide +kernel
theorem dX12_pollTry_38 : decode cX12_pollTry 38 = .ok (.iconst 1, 1) := by decide +kernel
theorem dX12_pollTry_39 : decode cX12_pollTry 39 = .ok (.ireturn, 1) := by decide +kernel
theorem dX12_pollTry_40 : decode cX12_pollTry 40 = .ok (.aload_n 0, 1) := by decide +kernel
theorem dX12_pollTry_41 : decode cX12_pollTry 41 = .ok (.aload_n 0, 1) := by decide +kernel
theorem dX12_pollTry_42 : decode cX12_pollTry 42 = .ok (.iload_n 2, 1) := by decide +kernel
theorem dX12_pollTry_43 : decode cX12_pollTry 43 = .ok (.iconst 2, 1) := by decide +kernel
theorem dX12_pollTry_44 : decode cX12_pollTry 44 = .ok (.invokevirtual 65, 3) := by decide +kernel
theorem dX12_pollTry_47 : decode cX12_pollTry 47 = .ok (.invokevirtual 96, 3) := by decide +kernel
theorem dX12_pollTry_50 : decode cX12_pollTry 50 = .ok (.ifCond .eq 9, 3) := by decide +kernel
theorem dX12_pollTry_53 : decode cX12_pollTry 53 = .ok (.aload_n 0, 1) := by decide +kernel
theorem dX12_pollTry_54 : decode cX12_pollTry 54 = .ok (.invokevirtual 106, 3) := by decide +kernel
theorem dX12_pollTry_57 : decode cX12_pollTry 57 = .ok (.iconst 0, 1) := by decide +kernel
theorem dX12_pollTry_58 : decode cX12_pollTry 58 = .ok (.ireturn, 1) := by decide +kernel
theorem dX12_pollTry_59 : decode cX12_pollTry 59 = .ok (.aload_n 0, 1) := by decide +kernel
theorem dX12_pollTry_60 : decode cX12_pollTry 60 = .ok (.iload_n 1, 1) := by decide +kernel
theorem dX12_pollTry_61 : decode cX12_pollTry 61 = .ok (.bipush 6, 2) := by decide +kernel
theorem dX12_pollTry_63 : decode cX12_pollTry 63 = .ok (.invokevirtual 57, 3) := by decide +kernel
theorem dX12_pollTry_66 : decode cX12_pollTry 66 = .ok (.aload_n 0, 1) := by decide +kernel
theorem dX12_pollTry_67 : decode cX12_pollTry 67 = .ok (.iload_n 1, 1) := by decide +kernel
theorem dX12_pollTry_68 : decode cX12_pollTry 68 = .ok (.bipush 9, 2) := by decide +kernel
theorem dX12_pollTry_70 : decode cX12_pollTry 70 = .ok (.invokevirtual 57, 3) := by decide +kernel
theorem dX12_pollTry_73 : decode cX12_pollTry 73 = .ok (.if_icmp .ne 7, 3) := by decide +kernel
theorem dX12_pollTry_76 : decode cX12_pollTry 76 = .ok (.iconst 1, 1) := by decide +kernel
theorem dX12_pollTry_77 : decode cX12_pollTry 77 = .ok (.goto 4, 3) := by decide +kernel
theorem dX12_pollTry_80 : decode cX12_pollTry 80 = .ok (.iconst 0, 1) := by decide +kernel
theorem dX12_pollTry_81 : decode cX12_pollTry 81 = .ok (.istore_n 3, 1) := by decide +kernel
theorem dX12_pollTry_82 : decode cX12_pollTry 82 = .ok (.iload_n 3, 1) := by decide +kernel
theorem dX12_pollTry_83 : decode cX12_pollTry 83 = .ok (.ifCond .eq 18, 3) := by decide +kernel
theorem dX12_pollTry_86 : decode cX12_pollTry 86 = .ok (.aload_n 0, 1) := by decide +kernel
theorem dX12_pollTry_87 : decode cX12_pollTry 87 = .ok (.iload_n 2, 1) := by decide +kernel
theorem dX12_pollTry_88 : decode cX12_pollTry 88 = .ok (.invokevirtual 109, 3) := by decide +kernel
theorem dX12_pollTry_91 : decode cX12_pollTry 91 = .ok (.aload_n 0, 1) := by decide +kernel
theorem dX12_pollTry_92 : decode cX12_pollTry 92 = .ok (.iload_n 1, 1) := by decide +kernel
theorem dX12_pollTry_93 : decode cX12_pollTry 93 = .ok (.bipush 9, 2) := by decide +kernel
theorem dX12_pollTry_95 : decode cX12_pollTry 95 = .ok (.invokevirtual 112, 3) := by decide +kernel
theorem dX12_pollTry_98 : decode cX12_pollTry 98 = .ok (.goto 8, 3) := by decide +kernel
theorem dX12_pollTry_101 : decode cX12_pollTry 101 = .ok (.aload_n 0, 1) := by decide +kernel
theorem dX12_pollTry_102 : decode cX12_pollTry 102 = .ok (.iconst 4, 1) := by decide +kernel
theorem dX12_pollTry_103 : decode cX12_pollTry 103 = .ok (.invokevirtual 89, 3) := by decide +kernel
theorem dX12_pollTry_106 : decode cX12_pollTry 106 = .ok (.aload_n 0, 1) := by decide +kernel
theorem dX12_pollTry_107 : decode cX12_pollTry 107 = .ok (.iconst 1, 1) := by decide +kernel
theorem dX12_pollTry_108 : decode cX12_pollTry 108 = .ok (.invokevirtual 96, 3) := by decide +kernel
theorem dX12_pollTry_111 : decode cX12_pollTry 111 = .ok (.ifCond .ne 18, 3) := by decide +kernel
theorem dX12_pollTry_114 : decode cX12_pollTry 114 = .ok (.aload_n 0, 1) := by decide +kernel
theorem dX12_pollTry_115 : decode cX12_pollTry 115 = .ok (.iload_n 2, 1) := by decide +kernel
theorem dX12_pollTry_116 : decode cX12_pollTry 116 = .ok (.bipush 8, 2) := by decide +kernel
theorem dX12_pollTry_118 : decode cX12_pollTry 118 = .ok (.iconst 0, 1) := by decide +kernel
theorem dX12_pollTry_119 : decode cX12_pollTry 119 = .ok (.invokevirtual 75, 3) := by decide +kernel
theorem dX12_pollTry_122 : decode cX12_pollTry 122 = .ok (.aload_n 0, 1) := by decide +kernel
theorem dX12_pollTry_123 : decode cX12_pollTry 123 = .ok (.iload_n 1, 1) := by decide +kernel
theorem dX12_pollTry_124 : decode cX12_pollTry 124 = .ok (.bipush 6, 2) := by decide +kernel
theorem dX12_pollTry_126 : decode cX12_pollTry 126 = .ok (.invokevirtual 112, 3) := by decide +kernel
theorem dX12_pollTry_129 : decode cX12_pollTry 129 = .ok (.iload_n 3, 1) := by decide +kernel
theorem dX12_pollTry_130 : decode cX12_pollTry 130 = .ok (.ifCond .eq 7, 3) := by decide +kernel
theorem dX12_pollTry_133 : decode cX12_pollTry 133 = .ok (.iconst 2, 1) := by decide +kernel
theorem dX12_pollTry_134 : decode cX12_pollTry 134 = .ok (.goto 4, 3) := by decide +kernel
theorem dX12_pollTry_137 : decode cX12_pollTry 137 = .ok (.iconst 3, 1) := by decide +kernel
theorem dX12_pollTry_138 : decode cX12_pollTry 138 = .ok (.ireturn, 1) := by decide +kernel
theorem dX12_comesIntoBuffer_0 : decode cX12_comesIntoBuffer 0 = .ok (.aload_n 0, 1) := by decide +kernel
theorem dX12_comesIntoBuffer_1 : decode cX12_comesIntoBuffer 1 = .ok (.iload_n 2, 1) := by decide +kernel
theorem dX12_comesIntoBuffer_2 : decode cX12_comesIntoBuffer 2 = .ok (.iconst 2, 1) := by decide +kernel
theorem dX12_comesIntoBuffer_3 : decode cX12_comesIntoBuffer 3 = .ok (.invokevirtual 115, 3) := by decide +kernel
theorem dX12_comesIntoBuffer_6 : decode cX12_comesIntoBuffer 6 = .ok (.ifCond .ne 16, 3) := by decide +kernel
theorem dX12_comesIntoBuffer_9 : decode cX12_comesIntoBuffer 9 = .ok (.aload_n 0, 1) := by decide +kernel
theorem dX12_comesIntoBuffer_10 : decode cX12_comesIntoBuffer 10 = .ok (.iload_n 2, 1) := by decide +kernel
theorem dX12_comesIntoBuffer_11 : decode cX12_comesIntoBuffer 11 = .ok (.bipush 10, 2) := by decide +kernel
theorem dX12_comesIntoBuffer_13 : decode cX12_comesIntoBuffer 13 = .ok (.aload_n 0, 1) := by decide +kernel
theorem dX12_comesIntoBuffer_14 : decode cX12_comesIntoBuffer 14 = .ok (.getfield 13, 3) := by decide +kernel
theorem dX12_comesIntoBuffer_17 : decode cX12_comesIntoBuffer 17 = .ok (.iconst 3, 1) := by decide +kernel
theorem dX12_comesIntoBuffer_18 : decode cX12_comesIntoBuffer 18 = .ok (.iaload, 1) := by decide +kernel
theorem dX12_comesIntoBuffer_19 : decode cX12_comesIntoBuffer 19 = .ok (.invokevirtual 61, 3) := by decide +kernel
theorem dX12_comesIntoBuffer_22 : decode cX12_comesIntoBuffer 22 = .ok (.aload_n 0, 1) := by decide +kernel
theorem dX12_comesIntoBuffer_23 : decode cX12_comesIntoBuffer 23 = .ok (.iload_n 1, 1) := by decide +kernel
theorem dX12_comesIntoBuffer_24 : decode cX12_comesIntoBuffer 24 = .ok (.bipush 6, 2) := by decide +kernel
theorem dX12_comesIntoBuffer_26 : decode cX12_comesIntoBuffer 26 = .ok (.aload_n 0, 1) := by decide +kernel
theorem dX12_comesIntoBuffer_27 : decode cX12_comesIntoBuffer 27 = .ok (.getfield 13, 3) := by decide +kernel
theorem dX12_comesIntoBuffer_30 : decode cX12_comesIntoBuffer 30 = .ok (.iconst 3, 1) := by decide +kernel
theorem dX12_comesIntoBuffer_31 : decode cX12_comesIntoBuffer 31 = .ok (.iaload, 1) := by decide +kernel
theorem dX12_comesIntoBuffer_32 : decode cX12_comesIntoBuffer 32 = .ok (.invokevirtual 75, 3) := by decide +kernel
theorem dX12_comesIntoBuffer_35 : decode cX12_comesIntoBuffer 35 = .ok (.aload_n 0, 1) := by decide +kernel
theorem dX12_comesIntoBuffer_36 : decode cX12_comesIntoBuffer 36 = .ok (.iload_n 1, 1) := by decide +kernel
theorem dX12_comesIntoBuffer_37 : decode cX12_comesIntoBuffer 37 = .ok (.iconst 3, 1) := by decide +kernel
theorem dX12_comesIntoBuffer_38 : decode cX12_comesIntoBuffer 38 = .ok (.iconst 2, 1) := by decide +kernel
theorem dX12_comesIntoBuffer_39 : decode cX12_comesIntoBuffer 39 = .ok (.invokevirtual 75, 3) := by decide +kernel
theorem dX12_comesIntoBuffer_42 : decode cX12_comesIntoBuffer 42 = .ok (.aload_n 0, 1) := by decide +kernel
theorem dX12_comesIntoBuffer_43 : decode cX12_comesIntoBuffer 43 = .ok (.iload_n 1, 1) := by decide +kernel
theorem dX12_comesIntoBuffer_44 : decode cX12_comesIntoBuffer 44 = .ok (.bipush 10, 2) := by decide +kernel
theorem dX12_comesIntoBuffer_46 : decode cX12_comesIntoBuffer 46 = .ok (.aload_n 0, 1) := by decide +kernel
theorem dX12_comesIntoBuffer_47 : decode cX12_comesIntoBuffer 47 = .ok (.invokevirtual 100, 3) := by decide +kernel
theorem dX12_comesIntoBuffer_50 : decode cX12_comesIntoBuffer 50 = .ok (.invokevirtual 75, 3) := by decide +kernel
theorem dX12_comesIntoBuffer_53 : decode cX12_comesIntoBuffer 53 = .ok (.aload_n 0, 1) := by decide +kernel
theorem dX12_comesIntoBuffer_54 : decode cX12_comesIntoBuffer 54 = .ok (.iload_n 2, 1) := by decide +kernel
theorem dX12_comesIntoBuffer_55 : decode cX12_comesIntoBuffer 55 = .ok (.bipush 7, 2) := by decide +kernel
theorem dX12_comesIntoBuffer_57 : decode cX12_comesIntoBuffer 57 = .ok (.invokevirtual 112, 3) := by decide +kernel
theorem dX12_comesIntoBuffer_60 : decode cX12_comesIntoBuffer 60 = .ok (.aload_n 0, 1) := by decide +kernel
theorem dX12_comesIntoBuffer_61 : decode cX12_comesIntoBuffer 61 = .ok (.iload_n 2, 1) := by decide +kernel
theorem dX12_comesIntoBuffer_62 : decode cX12_comesIntoBuffer 62 = .ok (.invokevirtual 85, 3) := by decide +kernel
theorem dX12_comesIntoBuffer_65 : decode cX12_comesIntoBuffer 65 = .ok (.return_, 1) := by decide +kernel
theorem dX12_selectTry_0 : decode cX12_selectTry 0 = .ok (.aload_n 0, 1) := by decide +kernel
theorem dX12_selectTry_1 : decode cX12_selectTry 1 = .ok (.iload_n 1, 1) := by decide +kernel
theorem dX12_selectTry_2 : decode cX12_selectTry 2 = .ok (.iconst 1, 1) := by decide +kernel
theorem dX12_selectTry_3 : decode cX12_selectTry 3 = .ok (.iconst 0, 1) := by decide +kernel
theorem dX12_selectTry_4 : decode cX12_selectTry 4 = .ok (.invokevirtual 78, 3) := by decide +kernel
theorem dX12_selectTry_7 : decode cX12_selectTry 7 = .ok (.istore_n 2, 1) := by decide +kernel
theorem dX12_selectTry_8 : decode cX12_selectTry 8 = .ok (.aload_n 0, 1) := by decide +kernel
theorem dX12_selectTry_9 : decode cX12_selectTry 9 = .ok (.iload_n 1, 1) := by decide +kernel
theorem dX12_selectTry_10 : decode cX12_selectTry 10 = .ok (.invokevirtual 103, 3) := by decide +kernel
theorem dX12_selectTry_13 : decode cX12_selectTry 13 = .ok (.ifCond .ne 5, 3) := by decide +kernel
theorem dX12_selectTry_16 : decode cX12_selectTry 16 = .ok (.iconst 0, 1) := by decide +kernel
theorem dX12_selectTry_17 : decode cX12_selectTry 17 = .ok (.ireturn, 1) := by decide +kernel
theorem dX12_selectTry_18 : decode cX12_selectTry 18 = .ok (.aload_n 0, 1) := by decide +kernel
theorem dX12_selectTry_19 : decode cX12_selectTry 19 = .ok (.iload_n 1, 1) := by decide +kernel
theorem dX12_selectTry_20 : decode cX12_selectTry 20 = .ok (.iconst 2, 1) := by decide +kernel
theorem dX12_selectTry_21 : decode cX12_selectTry 21 = .ok (.invokevirtual 115, 3) := by decide +kernel
theorem dX12_selectTry_24 : decode cX12_selectTry 24 = .ok (.aload_n 0, 1) := by decide +kernel
theorem dX12_selectTry_25 : decode cX12_selectTry 25 = .ok (.iload_n 1, 1) := by decide +kernel
theorem dX12_selectTry_26 : decode cX12_selectTry 26 = .ok (.iconst 1, 1) := by decide +kernel
theorem dX12_selectTry_27 : decode cX12_selectTry 27 = .ok (.invokevirtual 57, 3) := by decide +kernel
theorem dX12_selectTry_30 : decode cX12_selectTry 30 = .ok (.if_icmp .ge 7, 3) := by decide +kernel
theorem dX12_selectTry_33 : decode cX12_selectTry 33 = .ok (.iconst 1, 1) := by decide +kernel
theorem dX12_selectTry_34 : decode cX12_selectTry 34 = .ok (.goto 4, 3) := by decide +kernel
theorem dX12_selectTry_37 : decode cX12_selectTry 37 = .ok (.iconst 0, 1) := by decide +kernel
theorem dX12_selectTry_38 : decode cX12_selectTry 38 = .ok (.istore_n 3, 1) := by decide +kernel
theorem dX12_selectTry_39 : decode cX12_selectTry 39 = .ok (.aload_n 0, 1) := by decide +kernel
theorem dX12_selectTry_40 : decode cX12_selectTry 40 = .ok (.iconst 1, 1) := by decide +kernel
theorem dX12_selectTry_41 : decode cX12_selectTry 41 = .ok (.invokevirtual 96, 3) := by decide +kernel
theorem dX12_selectTry_44 : decode cX12_selectTry 44 = .ok (.ifCond .eq 5, 3) := by decide +kernel
theorem dX12_selectTry_47 : decode cX12_selectTry 47 = .ok (.iconst 0, 1) := by decide +kernel
theorem dX12_selectTry_48 : decode cX12_selectTry 48 = .ok (.ireturn, 1) := by decide +kernel
theorem dX12_selectTry_49 : decode cX12_selectTry 49 = .ok (.iload_n 3, 1) := by decide +kernel
theorem dX12_selectTry_50 : decode cX12_selectTry 50 = .ok (.ifCond .ne 11, 3) := by decide +kernel
theorem dX12_selectTry_53 : decode cX12_selectTry 53 = .ok (.aload_n 0, 1) := by decide +kernel
theorem dX12_selectTry_54 : decode cX12_selectTry 54 = .ok (.bipush 6, 2) := by decide +kernel
theorem dX12_selectTry_56 : decode cX12_selectTry 56 = .ok (.invokevirtual 89, 3) := by decide +kernel
theorem dX12_selectTry_59 : decode cX12_selectTry 59 = .ok (.iconst 4, 1) := by decide +kernel
theorem dX12_selectTry_60 : decode cX12_selectTry 60 = .ok (.ireturn, 1) := by decide +kernel
theorem dX12_selectTry_61 : decode cX12_selectTry 61 = .ok (.aload_n 0, 1) := by decide +kernel
theorem dX12_selectTry_62 : decode cX12_selectTry 62 = .ok (.aload_n 0, 1) := by decide +kernel
theorem dX12_selectTry_63 : decode cX12_selectTry 63 = .ok (.iload_n 2, 1) := by decide +kernel
theorem dX12_selectTry_64 : decode cX12_selectTry 64 = .ok (.iconst 2, 1) := by decide +kernel
theorem dX12_selectTry_65 : decode cX12_selectTry 65 = .ok (.invokevirtual 65, 3) := by decide +kernel
theorem dX12_selectTry_68 : decode cX12_selectTry 68 = .ok (.invokevirtual 96, 3) := by decide +kernel
theorem dX12_selectTry_71 : decode cX12_selectTry 71 = .ok (.ifCond .eq 9, 3) := by decide +kernel
theorem dX12_selectTry_74 : decode cX12_selectTry 74 = .ok (.aload_n 0, 1) := by decide +kernel
theorem dX12_selectTry_75 : decode cX12_selectTry 75 = .ok (.invokevirtual 106, 3) := by decide +kernel
theorem dX12_selectTry_78 : decode cX12_selectTry 78 = .ok (.iconst 0, 1) := by decide +kernel
theorem dX12_selectTry_79 : decode cX12_selectTry 79 = .ok (.ireturn, 1) := by decide +kernel
theorem dX12_selectTry_80 : decode cX12_selectTry 80 = .ok (.aload_n 0, 1) := by decide +kernel
theorem dX12_selectTry_81 : decode cX12_selectTry 81 = .ok (.iload_n 1, 1) := by decide +kernel
theorem dX12_selectTry_82 : decode cX12_selectTry 82 = .ok (.bipush 8, 2) := by decide +kernel
theorem dX12_selectTry_84 : decode cX12_selectTry 84 = .ok (.invokevirtual 57, 3) := by decide +kernel
theorem dX12_selectTry_87 : decode cX12_selectTry 87 = .ok (.aload_n 0, 1) := by decide +kernel
theorem dX12_selectTry_88 : decode cX12_selectTry 88 = .ok (.iload_n 1, 1) := by decide +kernel
theorem dX12_selectTry_89 : decode cX12_selectTry 89 = .ok (.bipush 7, 2) := by decide +kernel
theorem dX12_selectTry_91 : decode cX12_selectTry 91 = .ok (.invokevirtual 57, 3) := by decide +kernel
theorem dX12_selectTry_94 : decode cX12_selectTry 94 = .ok (.if_icmp .ne 12, 3) := by decide +kernel
theorem dX12_selectTry_97 : decode cX12_selectTry 97 = .ok (.aload_n 0, 1) := by decide +kernel
theorem dX12_selectTry_98 : decode cX12_selectTry 98 = .ok (.iload_n 2, 1) := by decide +kernel
theorem dX12_selectTry_99 : decode cX12_selectTry 99 = .ok (.iload_n 1, 1) := by decide +kernel
theorem dX12_selectTry_100 : decode cX12_selectTry 100 = .ok (.invokevirtual 118, 3) := by decide +kernel
theorem dX12_selectTry_103 : decode cX12_selectTry 103 = .ok (.goto 8, 3) := by decide +kernel
theorem dX12_selectTry_106 : decode cX12_selectTry 106 = .ok (.aload_n 0, 1) := by decide +kernel
theorem dX12_selectTry_107 : decode cX12_selectTry 107 = .ok (.iconst 4, 1) := by decide +kernel
theorem dX12_selectTry_108 : decode cX12_selectTry 108 = .ok (.invokevirtual 89, 3) := by decide +kernel
theorem dX12_selectTry_111 : decode cX12_selectTry 111 = .ok (.aload_n 0, 1) := by decide +kernel
theorem dX12_selectTry_112 : decode cX12_selectTry 112 = .ok (.iconst 1, 1) := by decide +kernel
theorem dX12_selectTry_113 : decode cX12_selectTry 113 = .ok (.invokevirtual 96, 3) := by decide +kernel
theorem dX12_selectTry_116 : decode cX12_selectTry 116 = .ok (.ifCond .eq 5, 3) := by decide +kernel
theorem dX12_selectTry_119 : decode cX12_selectTry 119 = .ok (.iconst 0, 1) := by decide +kernel
theorem dX12_selectTry_120 : decode cX12_selectTry 120 = .ok (.ireturn, 1) := by decide +kernel
theorem dX12_selectTry_121 : decode cX12_selectTry 121 = .ok (.aload_n 0, 1) := by decide +kernel
theorem dX12_selectTry_122 : decode cX12_selectTry 122 = .ok (.iload_n 2, 1) := by decide +kernel
theorem dX12_selectTry_123 : decode cX12_selectTry 123 = .ok (.bipush 9, 2) := by decide +kernel
theorem dX12_selectTry_125 : decode cX12_selectTry 125 = .ok (.iconst 0, 1) := by decide +kernel
theorem dX12_selectTry_126 : decode cX12_selectTry 126 = .ok (.invokevirtual 75, 3) := by decide +kernel
theorem dX12_selectTry_129 : decode cX12_selectTry 129 = .ok (.aload_n 0, 1) := by decide +kernel
theorem dX12_selectTry_130 : decode cX12_selectTry 130 = .ok (.iload_n 1, 1) := by decide +kernel
theorem dX12_selectTry_131 : decode cX12_selectTry 131 = .ok (.bipush 8, 2) := by decide +kernel
theorem dX12_selectTry_133 : decode cX12_selectTry 133 = .ok (.invokevirtual 112, 3) := by decide +kernel
theorem dX12_selectTry_136 : decode cX12_selectTry 136 = .ok (.aload_n 0, 1) := by decide +kernel
theorem dX12_selectTry_137 : decode cX12_selectTry 137 = .ok (.iconst 5, 1) := by decide +kernel
theorem dX12_selectTry_138 : decode cX12_selectTry 138 = .ok (.invokevirtual 89, 3) := by decide +kernel
theorem dX12_selectTry_141 : decode cX12_selectTry 141 = .ok (.iconst 2, 1) := by decide +kernel
theorem dX12_selectTry_142 : decode cX12_selectTry 142 = .ok (.ireturn, 1) := by decide +kernel
theorem dX12_tries_0 : decode cX12_tries 0 = .ok (.iload_n 2, 1) := by decide +kernel
theorem dX12_tries_1 : decode cX12_tries 1 = .ok (.iconst 2, 1) := by decide +kernel
theorem dX12_tries_2 : decode cX12_tries 2 = .ok (.if_icmp .ne 7, 3) := by decide +kernel
theorem dX12_tries_5 : decode cX12_tries 5 = .ok (.iconst 1, 1) := by decide +kernel
theorem dX12_tries_6 : decode cX12_tries 6 = .ok (.goto 10, 3) := by decide +kernel
theorem dX12_tries_9 : decode cX12_tries 9 = .ok (.aload_n 0, 1) := by decide +kernel
theorem dX12_tries_10 : decode cX12_tries 10 = .ok (.getfield 13, 3) := by decide +kernel
theorem dX12_tries_13 : decode cX12_tries 13 = .ok (.bipush 7, 2) := by decide +kernel
theorem dX12_tries_15 : decode cX12_tries 15 = .ok (.iaload, 1) := by decide +kernel
theorem dX12_tries_16 : decode cX12_tries 16 = .ok (.istore_n 3, 1) := by decide +kernel
theorem dX12_tries_17 : decode cX12_tries 17 = .ok (.iconst 0, 1) := by decide +kernel
theorem dX12_tries_18 : decode cX12_tries 18 = .ok (.istore 4, 2) := by decide +kernel
theorem dX12_tries_20 : decode cX12_tries 20 = .ok (.aload_n 0, 1) := by decide +kernel
theorem dX12_tries_21 : decode cX12_tries 21 = .ok (.iconst 0, 1) := by decide +kernel
theorem dX12_tries_22 : decode cX12_tries 22 = .ok (.putfield 121, 3) := by decide +kernel
theorem dX12_tries_25 : decode cX12_tries 25 = .ok (.iload 4, 2) := by decide +kernel
theorem dX12_tries_27 : decode cX12_tries 27 = .ok (.ifCond .ne 55, 3) := by decide +kernel
theorem dX12_tries_30 : decode cX12_tries 30 = .ok (.aload_n 0, 1) := by decide +kernel
theorem dX12_tries_31 : decode cX12_tries 31 = .ok (.getfield 121, 3) := by decide +kernel
theorem dX12_tries_34 : decode cX12_tries 34 = .ok (.iload_n 3, 1) := by decide +kernel
theorem dX12_tries_35 : decode cX12_tries 35 = .ok (.if_icmp .ge 47, 3) := by decide +kernel
theorem dX12_tries_38 : decode cX12_tries 38 = .ok (.aload_n 0, 1) := by decide +kernel
theorem dX12_tries_39 : decode cX12_tries 39 = .ok (.aload_n 0, 1) := by decide +kernel
theorem dX12_tries_40 : decode cX12_tries 40 = .ok (.getfield 121, 3) := by decide +kernel
theorem dX12_tries_43 : decode cX12_tries 43 = .ok (.iconst 1, 1) := by decide +kernel
theorem dX12_tries_44 : decode cX12_tries 44 = .ok (.iadd, 1) := by decide +kernel
theorem dX12_tries_45 : decode cX12_tries 45 = .ok (.putfield 121, 3) := by decide +kernel
theorem dX12_tries_48 : decode cX12_tries 48 = .ok (.iload_n 2, 1) := by decide +kernel
theorem dX12_tries_49 : decode cX12_tries 49 = .ok (.iconst 1, 1) := by decide +kernel
theorem dX12_tries_50 : decode cX12_tries 50 = .ok (.if_icmp .ne 11, 3) := by decide +kernel
theorem dX12_tries_53 : decode cX12_tries 53 = .ok (.aload_n 0, 1) := by decide +kernel
theorem dX12_tries_54 : decode cX12_tries 54 = .ok (.iload_n 1, 1) := by decide +kernel
theorem dX12_tries_55 : decode cX12_tries 55 = .ok (.invokevirtual 124, 3) := by decide +kernel
theorem dX12_tries_58 : decode cX12_tries 58 = .ok (.goto 8, 3) := by decide +kernel
theorem dX12_tries_61 : decode cX12_tries 61 = .ok (.aload_n 0, 1) := by decide +kernel
theorem dX12_tries_62 : decode cX12_tries 62 = .ok (.iload_n 1, 1) := by decide +kernel
theorem dX12_tries_63 : decode cX12_tries 63 = .ok (.invokevirtual 128, 3) := by decide +kernel
theorem dX12_tries_66 : decode cX12_tries 66 = .ok (.istore 4, 2) := by decide +kernel
theorem dX12_tries_68 : decode cX12_tries 68 = .ok (.iload 4, 2) := by decide +kernel
theorem dX12_tries_70 : decode cX12_tries 70 = .ok (.ifCond .ne (-45), 3) := by decide +kernel
theorem dX12_tries_73 : decode cX12_tries 73 = .ok (.aload_n 0, 1) := by decide +kernel
theorem dX12_tries_74 : decode cX12_tries 74 = .ok (.bipush 7, 2) := by decide +kernel
theorem dX12_tries_76 : decode cX12_tries 76 = .ok (.invokevirtual 89, 3) := by decide +kernel
theorem dX12_tries_79 : decode cX12_tries 79 = .ok (.goto (-54), 3) := by decide +kernel
theorem dX12_tries_82 : decode cX12_tries 82 = .ok (.iload 4, 2) := by decide +kernel
theorem dX12_tries_84 : decode cX12_tries 84 = .ok (.ireturn, 1) := by decide +kernel
theorem dX12_isMissed_0 : decode cX12_isMissed 0 = .ok (.aload_n 0, 1) := by decide +kernel
theorem dX12_isMissed_1 : decode cX12_isMissed 1 = .ok (.bipush 8, 2) := by decide +kernel
theorem dX12_isMissed_3 : decode cX12_isMissed 3 = .ok (.invokevirtual 89, 3) := by decide +kernel
theorem dX12_isMissed_6 : decode cX12_isMissed 6 = .ok (.aload_n 0, 1) := by decide +kernel
theorem dX12_isMissed_7 : decode cX12_isMissed 7 = .ok (.iload_n 1, 1) := by decide +kernel
theorem dX12_isMissed_8 : decode cX12_isMissed 8 = .ok (.bipush 14, 2) := by decide +kernel
theorem dX12_isMissed_10 : decode cX12_isMissed 10 = .ok (.invokevirtual 131, 3) := by decide +kernel
theorem dX12_isMissed_13 : decode cX12_isMissed 13 = .ok (.aload_n 0, 1) := by decide +kernel
theorem dX12_isMissed_14 : decode cX12_isMissed 14 = .ok (.iload_n 1, 1) := by decide +kernel
theorem dX12_isMissed_15 : decode cX12_isMissed 15 = .ok (.iconst 5, 1) := by decide +kernel
theorem dX12_isMissed_16 : decode cX12_isMissed 16 = .ok (.invokevirtual 131, 3) := by decide +kernel
theorem dX12_isMissed_19 : decode cX12_isMissed 19 = .ok (.aload_n 0, 1) := by decide +kernel
theorem dX12_isMissed_20 : decode cX12_isMissed 20 = .ok (.iload_n 1, 1) := by decide +kernel
theorem dX12_isMissed_21 : decode cX12_isMissed 21 = .ok (.iconst 5, 1) := by decide +kernel
theorem dX12_isMissed_22 : decode cX12_isMissed 22 = .ok (.invokevirtual 57, 3) := by decide +kernel
theorem dX12_isMissed_25 : decode cX12_isMissed 25 = .ok (.aload_n 0, 1) := by decide +kernel
theorem dX12_isMissed_26 : decode cX12_isMissed 26 = .ok (.getfield 13, 3) := by decide +kernel
theorem dX12_isMissed_29 : decode cX12_isMissed 29 = .ok (.bipush 8, 2) := by decide +kernel
theorem dX12_isMissed_31 : decode cX12_isMissed 31 = .ok (.iaload, 1) := by decide +kernel
theorem dX12_isMissed_32 : decode cX12_isMissed 32 = .ok (.if_icmp .lt 12, 3) := by decide +kernel
theorem dX12_isMissed_35 : decode cX12_isMissed 35 = .ok (.aload_n 0, 1) := by decide +kernel
theorem dX12_isMissed_36 : decode cX12_isMissed 36 = .ok (.iload_n 1, 1) := by decide +kernel
theorem dX12_isMissed_37 : decode cX12_isMissed 37 = .ok (.iconst 4, 1) := by decide +kernel
theorem dX12_isMissed_38 : decode cX12_isMissed 38 = .ok (.invokevirtual 57, 3) := by decide +kernel
theorem dX12_isMissed_41 : decode cX12_isMissed 41 = .ok (.ifCond .ne 4, 3) := by decide +kernel
theorem dX12_isMissed_44 : decode cX12_isMissed 44 = .ok (.return_, 1) := by decide +kernel
theorem dX12_isMissed_45 : decode cX12_isMissed 45 = .ok (.aload_n 0, 1) := by decide +kernel
theorem dX12_isMissed_46 : decode cX12_isMissed 46 = .ok (.iload_n 1, 1) := by decide +kernel
theorem dX12_isMissed_47 : decode cX12_isMissed 47 = .ok (.iconst 4, 1) := by decide +kernel
theorem dX12_isMissed_48 : decode cX12_isMissed 48 = .ok (.iconst 0, 1) := by decide +kernel
theorem dX12_isMissed_49 : decode cX12_isMissed 49 = .ok (.invokevirtual 61, 3) := by decide +kernel
theorem dX12_isMissed_52 : decode cX12_isMissed 52 = .ok (.aload_n 0, 1) := by decide +kernel
theorem dX12_isMissed_53 : decode cX12_isMissed 53 = .ok (.bipush 9, 2) := by decide +kernel
theorem dX12_isMissed_55 : decode cX12_isMissed 55 = .ok (.invokevirtual 89, 3) := by decide +kernel
theorem dX12_isMissed_58 : decode cX12_isMissed 58 = .ok (.return_, 1) := by decide +kernel
theorem dX12_nextOff_0 : decode cX12_nextOff 0 = .ok (.iconst 1, 1) := by decide +kernel
theorem dX12_nextOff_1 : decode cX12_nextOff 1 = .ok (.istore_n 1, 1) := by decide +kernel
theorem dX12_nextOff_2 : decode cX12_nextOff 2 = .ok (.iload_n 1, 1) := by decide +kernel
theorem dX12_nextOff_3 : decode cX12_nextOff 3 = .ok (.aload_n 0, 1) := by decide +kernel
theorem dX12_nextOff_4 : decode cX12_nextOff 4 = .ok (.invokevirtual 49, 3) := by decide +kernel
theorem dX12_nextOff_7 : decode cX12_nextOff 7 = .ok (.if_icmp .gt 35, 3) := by decide +kernel
theorem dX12_nextOff_10 : decode cX12_nextOff 10 = .ok (.aload_n 0, 1) := by decide +kernel
theorem dX12_nextOff_11 : decode cX12_nextOff 11 = .ok (.getfield 13, 3) := by decide +kernel
theorem dX12_nextOff_14 : decode cX12_nextOff 14 = .ok (.bipush 28, 2) := by decide +kernel
theorem dX12_nextOff_16 : decode cX12_nextOff 16 = .ok (.iaload, 1) := by decide +kernel
theorem dX12_nextOff_17 : decode cX12_nextOff 17 = .ok (.iload_n 1, 1) := by decide +kernel
theorem dX12_nextOff_18 : decode cX12_nextOff 18 = .ok (.iadd, 1) := by decide +kernel
theorem dX12_nextOff_19 : decode cX12_nextOff 19 = .ok (.aload_n 0, 1) := by decide +kernel
theorem dX12_nextOff_20 : decode cX12_nextOff 20 = .ok (.invokevirtual 49, 3) := by decide +kernel
theorem dX12_nextOff_23 : decode cX12_nextOff 23 = .ok (.irem, 1) := by decide +kernel
theorem dX12_nextOff_24 : decode cX12_nextOff 24 = .ok (.istore_n 2, 1) := by decide +kernel
theorem dX12_nextOff_25 : decode cX12_nextOff 25 = .ok (.aload_n 0, 1) := by decide +kernel
theorem dX12_nextOff_26 : decode cX12_nextOff 26 = .ok (.iload_n 2, 1) := by decide +kernel
theorem dX12_nextOff_27 : decode cX12_nextOff 27 = .ok (.iconst 4, 1) := by decide +kernel
theorem dX12_nextOff_28 : decode cX12_nextOff 28 = .ok (.invokevirtual 57, 3) := by decide +kernel
theorem dX12_nextOff_31 : decode cX12_nextOff 31 = .ok (.ifCond .ne 5, 3) := by decide +kernel
theorem dX12_nextOff_34 : decode cX12_nextOff 34 = .ok (.iload_n 2, 1) := by decide +kernel
theorem dX12_nextOff_35 : decode cX12_nextOff 35 = .ok (.ireturn, 1) := by decide +kernel
theorem dX12_nextOff_36 : decode cX12_nextOff 36 = .ok (.iinc 1 1, 3) := by decide +kernel
theorem dX12_nextOff_39 : decode cX12_nextOff 39 = .ok (.goto (-37), 3) := by decide +kernel
theorem dX12_nextOff_42 : decode cX12_nextOff 42 = .ok (.iconst (-1), 1) := by decide +kernel
theorem dX12_nextOff_43 : decode cX12_nextOff 43 = .ok (.ireturn, 1) := by decide +kernel
theorem dX12_nextSelected_0 : decode cX12_nextSelected 0 = .ok (.iconst 1, 1) := by decide +kernel
theorem dX12_nextSelected_1 : decode cX12_nextSelected 1 = .ok (.istore_n 1, 1) := by decide +kernel
theorem dX12_nextSelected_2 : decode cX12_nextSelected 2 = .ok (.iload_n 1, 1) := by decide +kernel
theorem dX12_nextSelected_3 : decode cX12_nextSelected 3 = .ok (.aload_n 0, 1) := by decide +kernel
theorem dX12_nextSelected_4 : decode cX12_nextSelected 4 = .ok (.invokevirtual 49, 3) := by decide +kernel
theorem dX12_nextSelected_7 : decode cX12_nextSelected 7 = .ok (.if_icmp .gt 45, 3) := by decide +kernel
theorem dX12_nextSelected_10 : decode cX12_nextSelected 10 = .ok (.aload_n 0, 1) := by decide +kernel
theorem dX12_nextSelected_11 : decode cX12_nextSelected 11 = .ok (.getfield 13, 3) := by decide +kernel
theorem dX12_nextSelected_14 : decode cX12_nextSelected 14 = .ok (.bipush 27, 2) := by decide +kernel
theorem dX12_nextSelected_16 : decode cX12_nextSelected 16 = .ok (.iaload, 1) := by decide +kernel
theorem dX12_nextSelected_17 : decode cX12_nextSelected 17 = .ok (.iload_n 1, 1) := by decide +kernel
theorem dX12_nextSelected_18 : decode cX12_nextSelected 18 = .ok (.iadd, 1) := by decide +kernel
theorem dX12_nextSelected_19 : decode cX12_nextSelected 19 = .ok (.aload_n 0, 1) := by decide +kernel
theorem dX12_nextSelected_20 : decode cX12_nextSelected 20 = .ok (.invokevirtual 49, 3) := by decide +kernel
theorem dX12_nextSelected_23 : decode cX12_nextSelected 23 = .ok (.irem, 1) := by decide +kernel
theorem dX12_nextSelected_24 : decode cX12_nextSelected 24 = .ok (.istore_n 2, 1) := by decide +kernel
theorem dX12_nextSelected_25 : decode cX12_nextSelected 25 = .ok (.aload_n 0, 1) := by decide +kernel
theorem dX12_nextSelected_26 : decode cX12_nextSelected 26 = .ok (.iload_n 2, 1) := by decide +kernel
theorem dX12_nextSelected_27 : decode cX12_nextSelected 27 = .ok (.iconst 4, 1) := by decide +kernel
theorem dX12_nextSelected_28 : decode cX12_nextSelected 28 = .ok (.invokevirtual 57, 3) := by decide +kernel
theorem dX12_nextSelected_31 : decode cX12_nextSelected 31 = .ok (.iconst 1, 1) := by decide +kernel
theorem dX12_nextSelected_32 : decode cX12_nextSelected 32 = .ok (.if_icmp .ne 14, 3) := by decide +kernel
theorem dX12_nextSelected_35 : decode cX12_nextSelected 35 = .ok (.aload_n 0, 1) := by decide +kernel
theorem dX12_nextSelected_36 : decode cX12_nextSelected 36 = .ok (.iload_n 2, 1) := by decide +kernel
theorem dX12_nextSelected_37 : decode cX12_nextSelected 37 = .ok (.iconst 1, 1) := by decide +kernel
theorem dX12_nextSelected_38 : decode cX12_nextSelected 38 = .ok (.invokevirtual 115, 3) := by decide +kernel
theorem dX12_nextSelected_41 : decode cX12_nextSelected 41 = .ok (.ifCond .le 5, 3) := by decide +kernel
theorem dX12_nextSelected_44 : decode cX12_nextSelected 44 = .ok (.iload_n 2, 1) := by decide +kernel
theorem dX12_nextSelected_45 : decode cX12_nextSelected 45 = .ok (.ireturn, 1) := by decide +kernel
theorem dX12_nextSelected_46 : decode cX12_nextSelected 46 = .ok (.iinc 1 1, 3) := by decide +kernel
theorem dX12_nextSelected_49 : decode cX12_nextSelected 49 = .ok (.goto (-47), 3) := by decide +kernel
theorem dX12_nextSelected_52 : decode cX12_nextSelected 52 = .ok (.iconst (-1), 1) := by decide +kernel
theorem dX12_nextSelected_53 : decode cX12_nextSelected 53 = .ok (.ireturn, 1) := by decide +kernel
theorem dX12_nextPlace_0 : decode cX12_nextPlace 0 = .ok (.aload_n 0, 1) := by decide +kernel
theorem dX12_nextPlace_1 : decode cX12_nextPlace 1 = .ok (.getfield 13, 3) := by decide +kernel
theorem dX12_nextPlace_4 : decode cX12_nextPlace 4 = .ok (.iconst 1, 1) := by decide +kernel
theorem dX12_nextPlace_5 : decode cX12_nextPlace 5 = .ok (.iaload, 1) := by decide +kernel
theorem dX12_nextPlace_6 : decode cX12_nextPlace 6 = .ok (.istore_n 1, 1) := by decide +kernel
theorem dX12_nextPlace_7 : decode cX12_nextPlace 7 = .ok (.aload_n 0, 1) := by decide +kernel
theorem dX12_nextPlace_8 : decode cX12_nextPlace 8 = .ok (.getfield 13, 3) := by decide +kernel
theorem dX12_nextPlace_11 : decode cX12_nextPlace 11 = .ok (.bipush 26, 2) := by decide +kernel
theorem dX12_nextPlace_13 : decode cX12_nextPlace 13 = .ok (.iaload, 1) := by decide +kernel
theorem dX12_nextPlace_14 : decode cX12_nextPlace 14 = .ok (.iload_n 1, 1) := by decide +kernel
theorem dX12_nextPlace_15 : decode cX12_nextPlace 15 = .ok (.if_icmp .ge 13, 3) := by decide +kernel
theorem dX12_nextPlace_18 : decode cX12_nextPlace 18 = .ok (.aload_n 0, 1) := by decide +kernel
theorem dX12_nextPlace_19 : decode cX12_nextPlace 19 = .ok (.getfield 13, 3) := by decide +kernel
theorem dX12_nextPlace_22 : decode cX12_nextPlace 22 = .ok (.bipush 26, 2) := by decide +kernel
theorem dX12_nextPlace_24 : decode cX12_nextPlace 24 = .ok (.iaload, 1) := by decide +kernel
theorem dX12_nextPlace_25 : decode cX12_nextPlace 25 = .ok (.goto 6, 3) := by decide +kernel
theorem dX12_nextPlace_28 : decode cX12_nextPlace 28 = .ok (.iload_n 1, 1) := by decide +kernel
theorem dX12_nextPlace_29 : decode cX12_nextPlace 29 = .ok (.iconst 1, 1) := by decide +kernel
theorem dX12_nextPlace_30 : decode cX12_nextPlace 30 = .ok (.isub, 1) := by decide +kernel
theorem dX12_nextPlace_31 : decode cX12_nextPlace 31 = .ok (.istore_n 2, 1) := by decide +kernel
theorem dX12_nextPlace_32 : decode cX12_nextPlace 32 = .ok (.iconst 1, 1) := by decide +kernel
theorem dX12_nextPlace_33 : decode cX12_nextPlace 33 = .ok (.istore_n 3, 1) := by decide +kernel
theorem dX12_nextPlace_34 : decode cX12_nextPlace 34 = .ok (.iload_n 3, 1) := by decide +kernel
theorem dX12_nextPlace_35 : decode cX12_nextPlace 35 = .ok (.iload_n 1, 1) := by decide +kernel
theorem dX12_nextPlace_36 : decode cX12_nextPlace 36 = .ok (.if_icmp .gt 38, 3) := by decide +kernel
theorem dX12_nextPlace_39 : decode cX12_nextPlace 39 = .ok (.iload_n 2, 1) := by decide +kernel
theorem dX12_nextPlace_40 : decode cX12_nextPlace 40 = .ok (.iload_n 3, 1) := by decide +kernel
theorem dX12_nextPlace_41 : decode cX12_nextPlace 41 = .ok (.iadd, 1) := by decide +kernel
theorem dX12_nextPlace_42 : decode cX12_nextPlace 42 = .ok (.iload_n 1, 1) := by decide +kernel
theorem dX12_nextPlace_43 : decode cX12_nextPlace 43 = .ok (.irem, 1) := by decide +kernel
theorem dX12_nextPlace_44 : decode cX12_nextPlace 44 = .ok (.istore 4, 2) := by decide +kernel
theorem dX12_nextPlace_46 : decode cX12_nextPlace 46 = .ok (.aload_n 0, 1) := by decide +kernel
theorem dX12_nextPlace_47 : decode cX12_nextPlace 47 = .ok (.aload_n 0, 1) := by decide +kernel
theorem dX12_nextPlace_48 : decode cX12_nextPlace 48 = .ok (.getfield 13, 3) := by decide +kernel
theorem dX12_nextPlace_51 : decode cX12_nextPlace 51 = .ok (.bipush 30, 2) := by decide +kernel
theorem dX12_nextPlace_53 : decode cX12_nextPlace 53 = .ok (.iload 4, 2) := by decide +kernel
theorem dX12_nextPlace_55 : decode cX12_nextPlace 55 = .ok (.iadd, 1) := by decide +kernel
theorem dX12_nextPlace_56 : decode cX12_nextPlace 56 = .ok (.iaload, 1) := by decide +kernel
theorem dX12_nextPlace_57 : decode cX12_nextPlace 57 = .ok (.iconst 4, 1) := by decide +kernel
theorem dX12_nextPlace_58 : decode cX12_nextPlace 58 = .ok (.invokevirtual 57, 3) := by decide +kernel
theorem dX12_nextPlace_61 : decode cX12_nextPlace 61 = .ok (.iconst 1, 1) := by decide +kernel
theorem dX12_nextPlace_62 : decode cX12_nextPlace 62 = .ok (.if_icmp .ne 6, 3) := by decide +kernel
theorem dX12_nextPlace_65 : decode cX12_nextPlace 65 = .ok (.iload 4, 2) := by decide +kernel
theorem dX12_nextPlace_67 : decode cX12_nextPlace 67 = .ok (.ireturn, 1) := by decide +kernel
theorem dX12_nextPlace_68 : decode cX12_nextPlace 68 = .ok (.iinc 3 1, 3) := by decide +kernel
theorem dX12_nextPlace_71 : decode cX12_nextPlace 71 = .ok (.goto (-37), 3) := by decide +kernel
theorem dX12_nextPlace_74 : decode cX12_nextPlace 74 = .ok (.iconst (-1), 1) := by decide +kernel
theorem dX12_nextPlace_75 : decode cX12_nextPlace 75 = .ok (.ireturn, 1) := by decide +kernel
theorem dX12_next_0 : decode cX12_next 0 = .ok (.aload_n 0, 1) := by decide +kernel
theorem dX12_next_1 : decode cX12_next 1 = .ok (.getfield 13, 3) := by decide +kernel
theorem dX12_next_4 : decode cX12_next 4 = .ok (.iconst 4, 1) := by decide +kernel
theorem dX12_next_5 : decode cX12_next 5 = .ok (.iaload, 1) := by decide +kernel
theorem dX12_next_6 : decode cX12_next 6 = .ok (.iconst 1, 1) := by decide +kernel
theorem dX12_next_7 : decode cX12_next 7 = .ok (.iadd, 1) := by decide +kernel
theorem dX12_next_8 : decode cX12_next 8 = .ok (.istore_n 1, 1) := by decide +kernel
theorem dX12_next_9 : decode cX12_next 9 = .ok (.aload_n 0, 1) := by decide +kernel
theorem dX12_next_10 : decode cX12_next 10 = .ok (.getfield 13, 3) := by decide +kernel
theorem dX12_next_13 : decode cX12_next 13 = .ok (.bipush 9, 2) := by decide +kernel
theorem dX12_next_15 : decode cX12_next 15 = .ok (.iaload, 1) := by decide +kernel
theorem dX12_next_16 : decode cX12_next 16 = .ok (.istore_n 2, 1) := by decide +kernel
theorem dX12_next_17 : decode cX12_next 17 = .ok (.aload_n 0, 1) := by decide +kernel
theorem dX12_next_18 : decode cX12_next 18 = .ok (.iconst (-1), 1) := by decide +kernel
theorem dX12_next_19 : decode cX12_next 19 = .ok (.putfield 134, 3) := by decide +kernel
theorem dX12_next_22 : decode cX12_next 22 = .ok (.aload_n 0, 1) := by decide +kernel
theorem dX12_next_23 : decode cX12_next 23 = .ok (.iload_n 2, 1) := by decide +kernel
theorem dX12_next_24 : decode cX12_next 24 = .ok (.ifCond .le 16, 3) := by decide +kernel
theorem dX12_next_27 : decode cX12_next 27 = .ok (.iload_n 1, 1) := by decide +kernel
theorem dX12_next_28 : decode cX12_next 28 = .ok (.iload_n 2, 1) := by decide +kernel
theorem dX12_next_29 : decode cX12_next 29 = .ok (.irem, 1) := by decide +kernel
theorem dX12_next_30 : decode cX12_next 30 = .ok (.ifCond .ne 10, 3) := by decide +kernel
theorem dX12_next_33 : decode cX12_next 33 = .ok (.aload_n 0, 1) := by decide +kernel
theorem dX12_next_34 : decode cX12_next 34 = .ok (.invokevirtual 137, 3) := by decide +kernel
theorem dX12_next_37 : decode cX12_next 37 = .ok (.goto 4, 3) := by decide +kernel
theorem dX12_next_40 : decode cX12_next 40 = .ok (.iconst (-1), 1) := by decide +kernel
theorem dX12_next_41 : decode cX12_next 41 = .ok (.putfield 140, 3) := by decide +kernel
theorem dX12_next_44 : decode cX12_next 44 = .ok (.aload_n 0, 1) := by decide +kernel
theorem dX12_next_45 : decode cX12_next 45 = .ok (.getfield 140, 3) := by decide +kernel
theorem dX12_next_48 : decode cX12_next 48 = .ok (.iconst (-1), 1) := by decide +kernel
theorem dX12_next_49 : decode cX12_next 49 = .ok (.if_icmp .eq 5, 3) := by decide +kernel
theorem dX12_next_52 : decode cX12_next 52 = .ok (.iconst 2, 1) := by decide +kernel
theorem dX12_next_53 : decode cX12_next 53 = .ok (.ireturn, 1) := by decide +kernel
theorem dX12_next_54 : decode cX12_next 54 = .ok (.aload_n 0, 1) := by decide +kernel
theorem dX12_next_55 : decode cX12_next 55 = .ok (.invokevirtual 143, 3) := by decide +kernel
theorem dX12_next_58 : decode cX12_next 58 = .ok (.istore_n 3, 1) := by decide +kernel
theorem dX12_next_59 : decode cX12_next 59 = .ok (.aload_n 0, 1) := by decide +kernel
theorem dX12_next_60 : decode cX12_next 60 = .ok (.iload_n 3, 1) := by decide +kernel
theorem dX12_next_61 : decode cX12_next 61 = .ok (.putfield 140, 3) := by decide +kernel
theorem dX12_next_64 : decode cX12_next 64 = .ok (.iload_n 3, 1) := by decide +kernel
theorem dX12_next_65 : decode cX12_next 65 = .ok (.iconst (-1), 1) := by decide +kernel
theorem dX12_next_66 : decode cX12_next 66 = .ok (.if_icmp .eq 22, 3) := by decide +kernel
theorem dX12_next_69 : decode cX12_next 69 = .ok (.aload_n 0, 1) := by decide +kernel
theorem dX12_next_70 : decode cX12_next 70 = .ok (.getfield 13, 3) := by decide +kernel
theorem dX12_next_73 : decode cX12_next 73 = .ok (.bipush 25, 2) := by decide +kernel
theorem dX12_next_75 : decode cX12_next 75 = .ok (.iaload, 1) := by decide +kernel
theorem dX12_next_76 : decode cX12_next 76 = .ok (.aload_n 0, 1) := by decide +kernel
theorem dX12_next_77 : decode cX12_next 77 = .ok (.getfield 13, 3) := by decide +kernel
theorem dX12_next_80 : decode cX12_next 80 = .ok (.bipush 10, 2) := by decide +kernel
theorem dX12_next_82 : decode cX12_next 82 = .ok (.iaload, 1) := by decide +kernel
theorem dX12_next_83 : decode cX12_next 83 = .ok (.if_icmp .ge 5, 3) := by decide +kernel
theorem dX12_next_86 : decode cX12_next 86 = .ok (.iconst 1, 1) := by decide +kernel
theorem dX12_next_87 : decode cX12_next 87 = .ok (.ireturn, 1) := by decide +kernel
theorem dX12_next_88 : decode cX12_next 88 = .ok (.aload_n 0, 1) := by decide +kernel
theorem dX12_next_89 : decode cX12_next 89 = .ok (.aload_n 0, 1) := by decide +kernel
theorem dX12_next_90 : decode cX12_next 90 = .ok (.invokevirtual 146, 3) := by decide +kernel
theorem dX12_next_93 : decode cX12_next 93 = .ok (.putfield 134, 3) := by decide +kernel
theorem dX12_next_96 : decode cX12_next 96 = .ok (.aload_n 0, 1) := by decide +kernel
theorem dX12_next_97 : decode cX12_next 97 = .ok (.getfield 134, 3) := by decide +kernel
theorem dX12_next_100 : decode cX12_next 100 = .ok (.iconst (-1), 1) := by decide +kernel
theorem dX12_next_101 : decode cX12_next 101 = .ok (.if_icmp .eq 21, 3) := by decide +kernel
theorem dX12_next_104 : decode cX12_next 104 = .ok (.aload_n 0, 1) := by decide +kernel
theorem dX12_next_105 : decode cX12_next 105 = .ok (.aload_n 0, 1) := by decide +kernel
theorem dX12_next_106 : decode cX12_next 106 = .ok (.getfield 13, 3) := by decide +kernel
theorem dX12_next_109 : decode cX12_next 109 = .ok (.bipush 30, 2) := by decide +kernel
theorem dX12_next_111 : decode cX12_next 111 = .ok (.aload_n 0, 1) := by decide +kernel
theorem dX12_next_112 : decode cX12_next 112 = .ok (.getfield 134, 3) := by decide +kernel
theorem dX12_next_115 : decode cX12_next 115 = .ok (.iadd, 1) := by decide +kernel
theorem dX12_next_116 : decode cX12_next 116 = .ok (.iaload, 1) := by decide +kernel
theorem dX12_next_117 : decode cX12_next 117 = .ok (.putfield 140, 3) := by decide +kernel
theorem dX12_next_120 : decode cX12_next 120 = .ok (.iconst 0, 1) := by decide +kernel
theorem dX12_next_121 : decode cX12_next 121 = .ok (.ireturn, 1) := by decide +kernel
theorem dX12_next_122 : decode cX12_next 122 = .ok (.iload_n 3, 1) := by decide +kernel
theorem dX12_next_123 : decode cX12_next 123 = .ok (.iconst (-1), 1) := by decide +kernel
theorem dX12_next_124 : decode cX12_next 124 = .ok (.if_icmp .eq 7, 3) := by decide +kernel
theorem dX12_next_127 : decode cX12_next 127 = .ok (.iconst 1, 1) := by decide +kernel
theorem dX12_next_128 : decode cX12_next 128 = .ok (.goto 4, 3) := by decide +kernel
theorem dX12_next_131 : decode cX12_next 131 = .ok (.iconst 3, 1) := by decide +kernel
theorem dX12_next_132 : decode cX12_next 132 = .ok (.ireturn, 1) := by decide +kernel
theorem dX12_remembers_0 : decode cX12_remembers 0 = .ok (.aload_n 0, 1) := by decide +kernel
theorem dX12_remembers_1 : decode cX12_remembers 1 = .ok (.iload_n 2, 1) := by decide +kernel
theorem dX12_remembers_2 : decode cX12_remembers 2 = .ok (.bipush 11, 2) := by decide +kernel
theorem dX12_remembers_4 : decode cX12_remembers 4 = .ok (.iload_n 1, 1) := by decide +kernel
theorem dX12_remembers_5 : decode cX12_remembers 5 = .ok (.iadd, 1) := by decide +kernel
theorem dX12_remembers_6 : decode cX12_remembers 6 = .ok (.invokevirtual 131, 3) := by decide +kernel
theorem dX12_remembers_9 : decode cX12_remembers 9 = .ok (.iload_n 1, 1) := by decide +kernel
theorem dX12_remembers_10 : decode cX12_remembers 10 = .ok (.iconst 2, 1) := by decide +kernel
theorem dX12_remembers_11 : decode cX12_remembers 11 = .ok (.if_icmp .ne 20, 3) := by decide +kernel
theorem dX12_remembers_14 : decode cX12_remembers 14 = .ok (.aload_n 0, 1) := by decide +kernel
theorem dX12_remembers_15 : decode cX12_remembers 15 = .ok (.bipush 11, 2) := by decide +kernel
theorem dX12_remembers_17 : decode cX12_remembers 17 = .ok (.invokevirtual 89, 3) := by decide +kernel
theorem dX12_remembers_20 : decode cX12_remembers 20 = .ok (.aload_n 0, 1) := by decide +kernel
theorem dX12_remembers_21 : decode cX12_remembers 21 = .ok (.getfield 13, 3) := by decide +kernel
theorem dX12_remembers_24 : decode cX12_remembers 24 = .ok (.bipush 28, 2) := by decide +kernel
theorem dX12_remembers_26 : decode cX12_remembers 26 = .ok (.iload_n 2, 1) := by decide +kernel
theorem dX12_remembers_27 : decode cX12_remembers 27 = .ok (.iastore, 1) := by decide +kernel
theorem dX12_remembers_28 : decode cX12_remembers 28 = .ok (.goto 54, 3) := by decide +kernel
theorem dX12_remembers_31 : decode cX12_remembers 31 = .ok (.iload_n 1, 1) := by decide +kernel
theorem dX12_remembers_32 : decode cX12_remembers 32 = .ok (.iconst 1, 1) := by decide +kernel
theorem dX12_remembers_33 : decode cX12_remembers 33 = .ok (.if_icmp .ne 30, 3) := by decide +kernel
theorem dX12_remembers_36 : decode cX12_remembers 36 = .ok (.aload_n 0, 1) := by decide +kernel
theorem dX12_remembers_37 : decode cX12_remembers 37 = .ok (.getfield 13, 3) := by decide +kernel
theorem dX12_remembers_40 : decode cX12_remembers 40 = .ok (.bipush 25, 2) := by decide +kernel
theorem dX12_remembers_42 : decode cX12_remembers 42 = .ok (.aload_n 0, 1) := by decide +kernel
theorem dX12_remembers_43 : decode cX12_remembers 43 = .ok (.getfield 13, 3) := by decide +kernel
theorem dX12_remembers_46 : decode cX12_remembers 46 = .ok (.bipush 25, 2) := by decide +kernel
theorem dX12_remembers_48 : decode cX12_remembers 48 = .ok (.iaload, 1) := by decide +kernel
theorem dX12_remembers_49 : decode cX12_remembers 49 = .ok (.iconst 1, 1) := by decide +kernel
theorem dX12_remembers_50 : decode cX12_remembers 50 = .ok (.iadd, 1) := by decide +kernel
theorem dX12_remembers_51 : decode cX12_remembers 51 = .ok (.iastore, 1) := by decide +kernel
theorem dX12_remembers_52 : decode cX12_remembers 52 = .ok (.aload_n 0, 1) := by decide +kernel
theorem dX12_remembers_53 : decode cX12_remembers 53 = .ok (.getfield 13, 3) := by decide +kernel
theorem dX12_remembers_56 : decode cX12_remembers 56 = .ok (.bipush 27, 2) := by decide +kernel
theorem dX12_remembers_58 : decode cX12_remembers 58 = .ok (.iload_n 2, 1) := by decide +kernel
theorem dX12_remembers_59 : decode cX12_remembers 59 = .ok (.iastore, 1) := by decide +kernel
theorem dX12_remembers_60 : decode cX12_remembers 60 = .ok (.goto 22, 3) := by decide +kernel
theorem dX12_remembers_63 : decode cX12_remembers 63 = .ok (.aload_n 0, 1) := by decide +kernel
theorem dX12_remembers_64 : decode cX12_remembers 64 = .ok (.getfield 13, 3) := by decide +kernel
theorem dX12_remembers_67 : decode cX12_remembers 67 = .ok (.bipush 25, 2) := by decide +kernel
theorem dX12_remembers_69 : decode cX12_remembers 69 = .ok (.iconst 0, 1) := by decide +kernel
theorem dX12_remembers_70 : decode cX12_remembers 70 = .ok (.iastore, 1) := by decide +kernel
theorem dX12_remembers_71 : decode cX12_remembers 71 = .ok (.aload_n 0, 1) := by decide +kernel
theorem dX12_remembers_72 : decode cX12_remembers 72 = .ok (.getfield 13, 3) := by decide +kernel
theorem dX12_remembers_75 : decode cX12_remembers 75 = .ok (.bipush 26, 2) := by decide +kernel
theorem dX12_remembers_77 : decode cX12_remembers 77 = .ok (.aload_n 0, 1) := by decide +kernel
theorem dX12_remembers_78 : decode cX12_remembers 78 = .ok (.getfield 134, 3) := by decide +kernel
theorem dX12_remembers_81 : decode cX12_remembers 81 = .ok (.iastore, 1) := by decide +kernel
theorem dX12_remembers_82 : decode cX12_remembers 82 = .ok (.return_, 1) := by decide +kernel
theorem dX12_keepsTurn_0 : decode cX12_keepsTurn 0 = .ok (.aload_n 0, 1) := by decide +kernel
theorem dX12_keepsTurn_1 : decode cX12_keepsTurn 1 = .ok (.getfield 13, 3) := by decide +kernel
theorem dX12_keepsTurn_4 : decode cX12_keepsTurn 4 = .ok (.bipush 29, 2) := by decide +kernel
theorem dX12_keepsTurn_6 : decode cX12_keepsTurn 6 = .ok (.iaload, 1) := by decide +kernel
theorem dX12_keepsTurn_7 : decode cX12_keepsTurn 7 = .ok (.bipush 20, 2) := by decide +kernel
theorem dX12_keepsTurn_9 : decode cX12_keepsTurn 9 = .ok (.if_icmp .ne 38, 3) := by decide +kernel
theorem dX12_keepsTurn_12 : decode cX12_keepsTurn 12 = .ok (.aload_n 0, 1) := by decide +kernel
theorem dX12_keepsTurn_13 : decode cX12_keepsTurn 13 = .ok (.getfield 13, 3) := by decide +kernel
theorem dX12_keepsTurn_16 : decode cX12_keepsTurn 16 = .ok (.sipush 705, 3) := by decide +kernel
theorem dX12_keepsTurn_19 : decode cX12_keepsTurn 19 = .ok (.aload_n 0, 1) := by decide +kernel
theorem dX12_keepsTurn_20 : decode cX12_keepsTurn 20 = .ok (.getfield 13, 3) := by decide +kernel
theorem dX12_keepsTurn_23 : decode cX12_keepsTurn 23 = .ok (.sipush 700, 3) := by decide +kernel
theorem dX12_keepsTurn_26 : decode cX12_keepsTurn 26 = .ok (.bipush 95, 2) := by decide +kernel
theorem dX12_keepsTurn_28 : decode cX12_keepsTurn 28 = .ok (.invokestatic 149, 3) := by decide +kernel
theorem dX12_keepsTurn_31 : decode cX12_keepsTurn 31 = .ok (.aload_n 0, 1) := by decide +kernel
theorem dX12_keepsTurn_32 : decode cX12_keepsTurn 32 = .ok (.getfield 13, 3) := by decide +kernel
theorem dX12_keepsTurn_35 : decode cX12_keepsTurn 35 = .ok (.bipush 29, 2) := by decide +kernel
theorem dX12_keepsTurn_37 : decode cX12_keepsTurn 37 = .ok (.aload_n 0, 1) := by decide +kernel
theorem dX12_keepsTurn_38 : decode cX12_keepsTurn 38 = .ok (.getfield 13, 3) := by decide +kernel
theorem dX12_keepsTurn_41 : decode cX12_keepsTurn 41 = .ok (.bipush 29, 2) := by decide +kernel
theorem dX12_keepsTurn_43 : decode cX12_keepsTurn 43 = .ok (.iaload, 1) := by decide +kernel
theorem dX12_keepsTurn_44 : decode cX12_keepsTurn 44 = .ok (.iconst 1, 1) := by decide +kernel
theorem dX12_keepsTurn_45 : decode cX12_keepsTurn 45 = .ok (.isub, 1) := by decide +kernel
theorem dX12_keepsTurn_46 : decode cX12_keepsTurn 46 = .ok (.iastore, 1) := by decide +kernel
theorem dX12_keepsTurn_47 : decode cX12_keepsTurn 47 = .ok (.sipush 700, 3) := by decide +kernel
theorem dX12_keepsTurn_50 : decode cX12_keepsTurn 50 = .ok (.iconst 5, 1) := by decide +kernel
theorem dX12_keepsTurn_51 : decode cX12_keepsTurn 51 = .ok (.aload_n 0, 1) := by decide +kernel
theorem dX12_keepsTurn_52 : decode cX12_keepsTurn 52 = .ok (.getfield 13, 3) := by decide +kernel
theorem dX12_keepsTurn_55 : decode cX12_keepsTurn 55 = .ok (.bipush 29, 2) := by decide +kernel
theorem dX12_keepsTurn_57 : decode cX12_keepsTurn 57 = .ok (.iaload, 1) := by decide +kernel
theorem dX12_keepsTurn_58 : decode cX12_keepsTurn 58 = .ok (.imul, 1) := by decide +kernel
theorem dX12_keepsTurn_59 : decode cX12_keepsTurn 59 = .ok (.iadd, 1) := by decide +kernel
theorem dX12_keepsTurn_60 : decode cX12_keepsTurn 60 = .ok (.istore 5, 2) := by decide +kernel
theorem dX12_keepsTurn_62 : decode cX12_keepsTurn 62 = .ok (.aload_n 0, 1) := by decide +kernel
theorem dX12_keepsTurn_63 : decode cX12_keepsTurn 63 = .ok (.getfield 13, 3) := by decide +kernel
theorem dX12_keepsTurn_66 : decode cX12_keepsTurn 66 = .ok (.iload 5, 2) := by decide +kernel
theorem dX12_keepsTurn_68 : decode cX12_keepsTurn 68 = .ok (.iload_n 1, 1) := by decide +kernel
theorem dX12_keepsTurn_69 : decode cX12_keepsTurn 69 = .ok (.iastore, 1) := by decide +kernel
theorem dX12_keepsTurn_70 : decode cX12_keepsTurn 70 = .ok (.aload_n 0, 1) := by decide +kernel
theorem dX12_keepsTurn_71 : decode cX12_keepsTurn 71 = .ok (.getfield 13, 3) := by decide +kernel
theorem dX12_keepsTurn_74 : decode cX12_keepsTurn 74 = .ok (.iload 5, 2) := by decide +kernel
theorem dX12_keepsTurn_76 : decode cX12_keepsTurn 76 = .ok (.iconst 1, 1) := by decide +kernel
theorem dX12_keepsTurn_77 : decode cX12_keepsTurn 77 = .ok (.iadd, 1) := by decide +kernel
theorem dX12_keepsTurn_78 : decode cX12_keepsTurn 78 = .ok (.iload_n 2, 1) := by decide +kernel
theorem dX12_keepsTurn_79 : decode cX12_keepsTurn 79 = .ok (.iastore, 1) := by decide +kernel
theorem dX12_keepsTurn_80 : decode cX12_keepsTurn 80 = .ok (.aload_n 0, 1) := by decide +kernel
theorem dX12_keepsTurn_81 : decode cX12_keepsTurn 81 = .ok (.getfield 13, 3) := by decide +kernel
theorem dX12_keepsTurn_84 : decode cX12_keepsTurn 84 = .ok (.iload 5, 2) := by decide +kernel
theorem dX12_keepsTurn_86 : decode cX12_keepsTurn 86 = .ok (.iconst 2, 1) := by decide +kernel
theorem dX12_keepsTurn_87 : decode cX12_keepsTurn 87 = .ok (.iadd, 1) := by decide +kernel
theorem dX12_keepsTurn_88 : decode cX12_keepsTurn 88 = .ok (.iload_n 3, 1) := by decide +kernel
theorem dX12_keepsTurn_89 : decode cX12_keepsTurn 89 = .ok (.iastore, 1) := by decide +kernel
theorem dX12_keepsTurn_90 : decode cX12_keepsTurn 90 = .ok (.aload_n 0, 1) := by decide +kernel
theorem dX12_keepsTurn_91 : decode cX12_keepsTurn 91 = .ok (.getfield 13, 3) := by decide +kernel
theorem dX12_keepsTurn_94 : decode cX12_keepsTurn 94 = .ok (.iload 5, 2) := by decide +kernel
theorem dX12_keepsTurn_96 : decode cX12_keepsTurn 96 = .ok (.iconst 3, 1) := by decide +kernel
theorem dX12_keepsTurn_97 : decode cX12_keepsTurn 97 = .ok (.iadd, 1) := by decide +kernel
theorem dX12_keepsTurn_98 : decode cX12_keepsTurn 98 = .ok (.iload 4, 2) := by decide +kernel
theorem dX12_keepsTurn_100 : decode cX12_keepsTurn 100 = .ok (.iastore, 1) := by decide +kernel
theorem dX12_keepsTurn_101 : decode cX12_keepsTurn 101 = .ok (.aload_n 0, 1) := by decide +kernel
theorem dX12_keepsTurn_102 : decode cX12_keepsTurn 102 = .ok (.getfield 13, 3) := by decide +kernel
theorem dX12_keepsTurn_105 : decode cX12_keepsTurn 105 = .ok (.iload 5, 2) := by decide +kernel
theorem dX12_keepsTurn_107 : decode cX12_keepsTurn 107 = .ok (.iconst 4, 1) := by decide +kernel
theorem dX12_keepsTurn_108 : decode cX12_keepsTurn 108 = .ok (.iadd, 1) := by decide +kernel
theorem dX12_keepsTurn_109 : decode cX12_keepsTurn 109 = .ok (.aload_n 0, 1) := by decide +kernel
theorem dX12_keepsTurn_110 : decode cX12_keepsTurn 110 = .ok (.getfield 13, 3) := by decide +kernel
theorem dX12_keepsTurn_113 : decode cX12_keepsTurn 113 = .ok (.iconst 3, 1) := by decide +kernel
theorem dX12_keepsTurn_114 : decode cX12_keepsTurn 114 = .ok (.iaload, 1) := by decide +kernel
theorem dX12_keepsTurn_115 : decode cX12_keepsTurn 115 = .ok (.iastore, 1) := by decide +kernel
theorem dX12_keepsTurn_116 : decode cX12_keepsTurn 116 = .ok (.aload_n 0, 1) := by decide +kernel
theorem dX12_keepsTurn_117 : decode cX12_keepsTurn 117 = .ok (.getfield 13, 3) := by decide +kernel
theorem dX12_keepsTurn_120 : decode cX12_keepsTurn 120 = .ok (.bipush 29, 2) := by decide +kernel
theorem dX12_keepsTurn_122 : decode cX12_keepsTurn 122 = .ok (.aload_n 0, 1) := by decide +kernel
theorem dX12_keepsTurn_123 : decode cX12_keepsTurn 123 = .ok (.getfield 13, 3) := by decide +kernel
theorem dX12_keepsTurn_126 : decode cX12_keepsTurn 126 = .ok (.bipush 29, 2) := by decide +kernel
theorem dX12_keepsTurn_128 : decode cX12_keepsTurn 128 = .ok (.iaload, 1) := by decide +kernel
theorem dX12_keepsTurn_129 : decode cX12_keepsTurn 129 = .ok (.iconst 1, 1) := by decide +kernel
theorem dX12_keepsTurn_130 : decode cX12_keepsTurn 130 = .ok (.iadd, 1) := by decide +kernel
theorem dX12_keepsTurn_131 : decode cX12_keepsTurn 131 = .ok (.iastore, 1) := by decide +kernel
theorem dX12_keepsTurn_132 : decode cX12_keepsTurn 132 = .ok (.return_, 1) := by decide +kernel
theorem dX12_turns_0 : decode cX12_turns 0 = .ok (.aload_n 0, 1) := by decide +kernel
theorem dX12_turns_1 : decode cX12_turns 1 = .ok (.invokevirtual 153, 3) := by decide +kernel
theorem dX12_turns_4 : decode cX12_turns 4 = .ok (.istore_n 1, 1) := by decide +kernel
theorem dX12_turns_5 : decode cX12_turns 5 = .ok (.aload_n 0, 1) := by decide +kernel
theorem dX12_turns_6 : decode cX12_turns 6 = .ok (.getfield 140, 3) := by decide +kernel
theorem dX12_turns_9 : decode cX12_turns 9 = .ok (.istore_n 2, 1) := by decide +kernel
theorem dX12_turns_10 : decode cX12_turns 10 = .ok (.aload_n 0, 1) := by decide +kernel
theorem dX12_turns_11 : decode cX12_turns 11 = .ok (.getfield 13, 3) := by decide +kernel
theorem dX12_turns_14 : decode cX12_turns 14 = .ok (.iconst 4, 1) := by decide +kernel
theorem dX12_turns_15 : decode cX12_turns 15 = .ok (.aload_n 0, 1) := by decide +kernel
theorem dX12_turns_16 : decode cX12_turns 16 = .ok (.getfield 13, 3) := by decide +kernel
theorem dX12_turns_19 : decode cX12_turns 19 = .ok (.iconst 4, 1) := by decide +kernel
theorem dX12_turns_20 : decode cX12_turns 20 = .ok (.iaload, 1) := by decide +kernel
theorem dX12_turns_21 : decode cX12_turns 21 = .ok (.iconst 1, 1) := by decide +kernel
theorem dX12_turns_22 : decode cX12_turns 22 = .ok (.iadd, 1) := by decide +kernel
theorem dX12_turns_23 : decode cX12_turns 23 = .ok (.iastore, 1) := by decide +kernel
theorem dX12_turns_24 : decode cX12_turns 24 = .ok (.iload_n 1, 1) := by decide +kernel
theorem dX12_turns_25 : decode cX12_turns 25 = .ok (.iconst 3, 1) := by decide +kernel
theorem dX12_turns_26 : decode cX12_turns 26 = .ok (.if_icmp .ne 23, 3) := by decide +kernel
theorem dX12_turns_29 : decode cX12_turns 29 = .ok (.aload_n 0, 1) := by decide +kernel
theorem dX12_turns_30 : decode cX12_turns 30 = .ok (.bipush 12, 2) := by decide +kernel
theorem dX12_turns_32 : decode cX12_turns 32 = .ok (.invokevirtual 89, 3) := by decide +kernel
theorem dX12_turns_35 : decode cX12_turns 35 = .ok (.aload_n 0, 1) := by decide +kernel
theorem dX12_turns_36 : decode cX12_turns 36 = .ok (.iconst 1, 1) := by decide +kernel
theorem dX12_turns_37 : decode cX12_turns 37 = .ok (.invokevirtual 92, 3) := by decide +kernel
theorem dX12_turns_40 : decode cX12_turns 40 = .ok (.aload_n 0, 1) := by decide +kernel
theorem dX12_turns_41 : decode cX12_turns 41 = .ok (.iconst 3, 1) := by decide +kernel
theorem dX12_turns_42 : decode cX12_turns 42 = .ok (.iconst (-1), 1) := by decide +kernel
theorem dX12_turns_43 : decode cX12_turns 43 = .ok (.iconst 0, 1) := by decide +kernel
theorem dX12_turns_44 : decode cX12_turns 44 = .ok (.iconst 0, 1) := by decide +kernel
theorem dX12_turns_45 : decode cX12_turns 45 = .ok (.invokevirtual 156, 3) := by decide +kernel
theorem dX12_turns_48 : decode cX12_turns 48 = .ok (.return_, 1) := by decide +kernel
theorem dX12_turns_49 : decode cX12_turns 49 = .ok (.aload_n 0, 1) := by decide +kernel
theorem dX12_turns_50 : decode cX12_turns 50 = .ok (.iload_n 1, 1) := by decide +kernel
theorem dX12_turns_51 : decode cX12_turns 51 = .ok (.iload_n 2, 1) := by decide +kernel
theorem dX12_turns_52 : decode cX12_turns 52 = .ok (.invokevirtual 159, 3) := by decide +kernel
theorem dX12_turns_55 : decode cX12_turns 55 = .ok (.aload_n 0, 1) := by decide +kernel
theorem dX12_turns_56 : decode cX12_turns 56 = .ok (.iload_n 2, 1) := by decide +kernel
theorem dX12_turns_57 : decode cX12_turns 57 = .ok (.iload_n 1, 1) := by decide +kernel
theorem dX12_turns_58 : decode cX12_turns 58 = .ok (.invokevirtual 162, 3) := by decide +kernel
theorem dX12_turns_61 : decode cX12_turns 61 = .ok (.istore_n 3, 1) := by decide +kernel
theorem dX12_turns_62 : decode cX12_turns 62 = .ok (.iload_n 3, 1) := by decide +kernel
theorem dX12_turns_63 : decode cX12_turns 63 = .ok (.ifCond .eq 20, 3) := by decide +kernel
theorem dX12_turns_66 : decode cX12_turns 66 = .ok (.aload_n 0, 1) := by decide +kernel
theorem dX12_turns_67 : decode cX12_turns 67 = .ok (.iload_n 2, 1) := by decide +kernel
theorem dX12_turns_68 : decode cX12_turns 68 = .ok (.iconst 5, 1) := by decide +kernel
theorem dX12_turns_69 : decode cX12_turns 69 = .ok (.iconst 0, 1) := by decide +kernel
theorem dX12_turns_70 : decode cX12_turns 70 = .ok (.invokevirtual 61, 3) := by decide +kernel
theorem dX12_turns_73 : decode cX12_turns 73 = .ok (.aload_n 0, 1) := by decide +kernel
theorem dX12_turns_74 : decode cX12_turns 74 = .ok (.iload_n 2, 1) := by decide +kernel
theorem dX12_turns_75 : decode cX12_turns 75 = .ok (.iconst 4, 1) := by decide +kernel
theorem dX12_turns_76 : decode cX12_turns 76 = .ok (.iconst 1, 1) := by decide +kernel
theorem dX12_turns_77 : decode cX12_turns 77 = .ok (.invokevirtual 61, 3) := by decide +kernel
theorem dX12_turns_80 : decode cX12_turns 80 = .ok (.goto 13, 3) := by decide +kernel
theorem dX12_turns_83 : decode cX12_turns 83 = .ok (.iload_n 1, 1) := by decide +kernel
theorem dX12_turns_84 : decode cX12_turns 84 = .ok (.iconst 2, 1) := by decide +kernel
theorem dX12_turns_85 : decode cX12_turns 85 = .ok (.if_icmp .eq 8, 3) := by decide +kernel
theorem dX12_turns_88 : decode cX12_turns 88 = .ok (.aload_n 0, 1) := by decide +kernel
theorem dX12_turns_89 : decode cX12_turns 89 = .ok (.iload_n 2, 1) := by decide +kernel
theorem dX12_turns_90 : decode cX12_turns 90 = .ok (.invokevirtual 165, 3) := by decide +kernel
theorem dX12_turns_93 : decode cX12_turns 93 = .ok (.aload_n 0, 1) := by decide +kernel
theorem dX12_turns_94 : decode cX12_turns 94 = .ok (.iload_n 1, 1) := by decide +kernel
theorem dX12_turns_95 : decode cX12_turns 95 = .ok (.iload_n 2, 1) := by decide +kernel
theorem dX12_turns_96 : decode cX12_turns 96 = .ok (.iload_n 3, 1) := by decide +kernel
theorem dX12_turns_97 : decode cX12_turns 97 = .ok (.aload_n 0, 1) := by decide +kernel
theorem dX12_turns_98 : decode cX12_turns 98 = .ok (.getfield 121, 3) := by decide +kernel
theorem dX12_turns_101 : decode cX12_turns 101 = .ok (.invokevirtual 156, 3) := by decide +kernel
theorem dX12_turns_104 : decode cX12_turns 104 = .ok (.return_, 1) := by decide +kernel
theorem dX12_inState_0 : decode cX12_inState 0 = .ok (.iconst 0, 1) := by decide +kernel
theorem dX12_inState_1 : decode cX12_inState 1 = .ok (.istore_n 2, 1) := by decide +kernel
theorem dX12_inState_2 : decode cX12_inState 2 = .ok (.iconst 0, 1) := by decide +kernel
theorem dX12_inState_3 : decode cX12_inState 3 = .ok (.istore_n 3, 1) := by decide +kernel
theorem dX12_inState_4 : decode cX12_inState 4 = .ok (.iload_n 3, 1) := by decide +kernel
theorem dX12_inState_5 : decode cX12_inState 5 = .ok (.aload_n 0, 1) := by decide +kernel
theorem dX12_inState_6 : decode cX12_inState 6 = .ok (.getfield 13, 3) := by decide +kernel
theorem dX12_inState_9 : decode cX12_inState 9 = .ok (.iconst 2, 1) := by decide +kernel
theorem dX12_inState_10 : decode cX12_inState 10 = .ok (.iaload, 1) := by decide +kernel
theorem dX12_inState_11 : decode cX12_inState 11 = .ok (.if_icmp .ge 23, 3) := by decide +kernel
theorem dX12_inState_14 : decode cX12_inState 14 = .ok (.aload_n 0, 1) := by decide +kernel
theorem dX12_inState_15 : decode cX12_inState 15 = .ok (.iload_n 3, 1) := by decide +kernel
theorem dX12_inState_16 : decode cX12_inState 16 = .ok (.iconst 3, 1) := by decide +kernel
theorem dX12_inState_17 : decode cX12_inState 17 = .ok (.invokevirtual 65, 3) := by decide +kernel
theorem dX12_inState_20 : decode cX12_inState 20 = .ok (.iload_n 1, 1) := by decide +kernel
theorem dX12_inState_21 : decode cX12_inState 21 = .ok (.if_icmp .ne 7, 3) := by decide +kernel
theorem dX12_inState_24 : decode cX12_inState 24 = .ok (.iload_n 2, 1) := by decide +kernel
theorem dX12_inState_25 : decode cX12_inState 25 = .ok (.iconst 1, 1) := by decide +kernel
theorem dX12_inState_26 : decode cX12_inState 26 = .ok (.iadd, 1) := by decide +kernel
theorem dX12_inState_27 : decode cX12_inState 27 = .ok (.istore_n 2, 1) := by decide +kernel
theorem dX12_inState_28 : decode cX12_inState 28 = .ok (.iinc 3 1, 3) := by decide +kernel
theorem dX12_inState_31 : decode cX12_inState 31 = .ok (.goto (-27), 3) := by decide +kernel
theorem dX12_inState_34 : decode cX12_inState 34 = .ok (.iload_n 2, 1) := by decide +kernel
theorem dX12_inState_35 : decode cX12_inState 35 = .ok (.ireturn, 1) := by decide +kernel
theorem dX12_runsNow_0 : decode cX12_runsNow 0 = .ok (.aload_n 0, 1) := by decide +kernel
theorem dX12_runsNow_1 : decode cX12_runsNow 1 = .ok (.iconst 3, 1) := by decide +kernel
theorem dX12_runsNow_2 : decode cX12_runsNow 2 = .ok (.invokevirtual 168, 3) := by decide +kernel
theorem dX12_runsNow_5 : decode cX12_runsNow 5 = .ok (.istore_n 2, 1) := by decide +kernel
theorem dX12_runsNow_6 : decode cX12_runsNow 6 = .ok (.iconst 0, 1) := by decide +kernel
theorem dX12_runsNow_7 : decode cX12_runsNow 7 = .ok (.istore_n 3, 1) := by decide +kernel
theorem dX12_runsNow_8 : decode cX12_runsNow 8 = .ok (.iload_n 3, 1) := by decide +kernel
theorem dX12_runsNow_9 : decode cX12_runsNow 9 = .ok (.iload_n 1, 1) := by decide +kernel
theorem dX12_runsNow_10 : decode cX12_runsNow 10 = .ok (.if_icmp .ge 13, 3) := by decide +kernel
theorem dX12_runsNow_13 : decode cX12_runsNow 13 = .ok (.aload_n 0, 1) := by decide +kernel
theorem dX12_runsNow_14 : decode cX12_runsNow 14 = .ok (.invokevirtual 171, 3) := by decide +kernel
theorem dX12_runsNow_17 : decode cX12_runsNow 17 = .ok (.iinc 3 1, 3) := by decide +kernel
theorem dX12_runsNow_20 : decode cX12_runsNow 20 = .ok (.goto (-12), 3) := by decide +kernel
theorem dX12_runsNow_23 : decode cX12_runsNow 23 = .ok (.aload_n 0, 1) := by decide +kernel
theorem dX12_runsNow_24 : decode cX12_runsNow 24 = .ok (.iconst 3, 1) := by decide +kernel
theorem dX12_runsNow_25 : decode cX12_runsNow 25 = .ok (.invokevirtual 168, 3) := by decide +kernel
theorem dX12_runsNow_28 : decode cX12_runsNow 28 = .ok (.iload_n 2, 1) := by decide +kernel
theorem dX12_runsNow_29 : decode cX12_runsNow 29 = .ok (.isub, 1) := by decide +kernel
theorem dX12_runsNow_30 : decode cX12_runsNow 30 = .ok (.ireturn, 1) := by decide +kernel
theorem dX12_puts4_0 : decode cX12_puts4 0 = .ok (.bipush 24, 2) := by decide +kernel
theorem dX12_puts4_2 : decode cX12_puts4 2 = .ok (.istore_n 2, 1) := by decide +kernel
theorem dX12_puts4_3 : decode cX12_puts4 3 = .ok (.iload_n 2, 1) := by decide +kernel
theorem dX12_puts4_4 : decode cX12_puts4 4 = .ok (.ifCond .lt 32, 3) := by decide +kernel
theorem dX12_puts4_7 : decode cX12_puts4 7 = .ok (.aload_n 0, 1) := by decide +kernel
theorem dX12_puts4_8 : decode cX12_puts4 8 = .ok (.getfield 26, 3) := by decide +kernel
theorem dX12_puts4_11 : decode cX12_puts4 11 = .ok (.aload_n 0, 1) := by decide +kernel
theorem dX12_puts4_12 : decode cX12_puts4 12 = .ok (.getfield 174, 3) := by decide +kernel
theorem dX12_puts4_15 : decode cX12_puts4 15 = .ok (.iload_n 1, 1) := by decide +kernel
theorem dX12_puts4_16 : decode cX12_puts4 16 = .ok (.iload_n 2, 1) := by decide +kernel
theorem dX12_puts4_17 : decode cX12_puts4 17 = .ok (.ishr, 1) := by decide +kernel
theorem dX12_puts4_18 : decode cX12_puts4 18 = .ok (.i2b, 1) := by decide +kernel
theorem dX12_puts4_19 : decode cX12_puts4 19 = .ok (.bastore, 1) := by decide +kernel
theorem dX12_puts4_20 : decode cX12_puts4 20 = .ok (.aload_n 0, 1) := by decide +kernel
theorem dX12_puts4_21 : decode cX12_puts4 21 = .ok (.aload_n 0, 1) := by decide +kernel
theorem dX12_puts4_22 : decode cX12_puts4 22 = .ok (.getfield 174, 3) := by decide +kernel
theorem dX12_puts4_25 : decode cX12_puts4 25 = .ok (.iconst 1, 1) := by decide +kernel
theorem dX12_puts4_26 : decode cX12_puts4 26 = .ok (.iadd, 1) := by decide +kernel
theorem dX12_puts4_27 : decode cX12_puts4 27 = .ok (.putfield 174, 3) := by decide +kernel
theorem dX12_puts4_30 : decode cX12_puts4 30 = .ok (.iinc 2 (-8), 3) := by decide +kernel
theorem dX12_puts4_33 : decode cX12_puts4 33 = .ok (.goto (-30), 3) := by decide +kernel
theorem dX12_puts4_36 : decode cX12_puts4 36 = .ok (.return_, 1) := by decide +kernel
theorem dX12_appendInput_0 : decode cX12_appendInput 0 = .ok (.aload_n 0, 1) := by decide +kernel
theorem dX12_appendInput_1 : decode cX12_appendInput 1 = .ok (.iconst 0, 1) := by decide +kernel
theorem dX12_appendInput_2 : decode cX12_appendInput 2 = .ok (.putfield 1, 3) := by decide +kernel
theorem dX12_appendInput_5 : decode cX12_appendInput 5 = .ok (.aload_n 0, 1) := by decide +kernel
theorem dX12_appendInput_6 : decode cX12_appendInput 6 = .ok (.getfield 174, 3) := by decide +kernel
theorem dX12_appendInput_9 : decode cX12_appendInput 9 = .ok (.sipush 580, 3) := by decide +kernel
theorem dX12_appendInput_12 : decode cX12_appendInput 12 = .ok (.if_icmp .le 5, 3) := by decide +kernel
theorem dX12_appendInput_15 : decode cX12_appendInput 15 = .ok (.iconst (-1), 1) := by decide +kernel
theorem dX12_appendInput_16 : decode cX12_appendInput 16 = .ok (.ireturn, 1) := by decide +kernel
theorem dX12_appendInput_17 : decode cX12_appendInput 17 = .ok (.aload_n 0, 1) := by decide +kernel
theorem dX12_appendInput_18 : decode cX12_appendInput 18 = .ok (.iload_n 1, 1) := by decide +kernel
theorem dX12_appendInput_19 : decode cX12_appendInput 19 = .ok (.invokevirtual 177, 3) := by decide +kernel
theorem dX12_appendInput_22 : decode cX12_appendInput 22 = .ok (.aload_n 0, 1) := by decide +kernel
theorem dX12_appendInput_23 : decode cX12_appendInput 23 = .ok (.iload_n 2, 1) := by decide +kernel
theorem dX12_appendInput_24 : decode cX12_appendInput 24 = .ok (.invokevirtual 177, 3) := by decide +kernel
theorem dX12_appendInput_27 : decode cX12_appendInput 27 = .ok (.aload_n 0, 1) := by decide +kernel
theorem dX12_appendInput_28 : decode cX12_appendInput 28 = .ok (.iload_n 3, 1) := by decide +kernel
theorem dX12_appendInput_29 : decode cX12_appendInput 29 = .ok (.invokevirtual 177, 3) := by decide +kernel
theorem dX12_appendInput_32 : decode cX12_appendInput 32 = .ok (.aload_n 0, 1) := by decide +kernel
theorem dX12_appendInput_33 : decode cX12_appendInput 33 = .ok (.iload 4, 2) := by decide +kernel
theorem dX12_appendInput_35 : decode cX12_appendInput 35 = .ok (.invokevirtual 177, 3) := by decide +kernel
theorem dX12_appendInput_38 : decode cX12_appendInput 38 = .ok (.aload_n 0, 1) := by decide +kernel
theorem dX12_appendInput_39 : decode cX12_appendInput 39 = .ok (.iload 5, 2) := by decide +kernel
theorem dX12_appendInput_41 : decode cX12_appendInput 41 = .ok (.invokevirtual 177, 3) := by decide +kernel
theorem dX12_appendInput_44 : decode cX12_appendInput 44 = .ok (.aload_n 0, 1) := by decide +kernel
theorem dX12_appendInput_45 : decode cX12_appendInput 45 = .ok (.getfield 174, 3) := by decide +kernel
theorem dX12_appendInput_48 : decode cX12_appendInput 48 = .ok (.ireturn, 1) := by decide +kernel
theorem dX12_truncateInput_0 : decode cX12_truncateInput 0 = .ok (.aload_n 0, 1) := by decide +kernel
theorem dX12_truncateInput_1 : decode cX12_truncateInput 1 = .ok (.iconst 0, 1) := by decide +kernel
theorem dX12_truncateInput_2 : decode cX12_truncateInput 2 = .ok (.putfield 1, 3) := by decide +kernel
theorem dX12_truncateInput_5 : decode cX12_truncateInput 5 = .ok (.iload_n 1, 1) := by decide +kernel
theorem dX12_truncateInput_6 : decode cX12_truncateInput 6 = .ok (.iconst 0, 1) := by decide +kernel
theorem dX12_truncateInput_7 : decode cX12_truncateInput 7 = .ok (.aload_n 0, 1) := by decide +kernel
theorem dX12_truncateInput_8 : decode cX12_truncateInput 8 = .ok (.getfield 174, 3) := by decide +kernel
theorem dX12_truncateInput_11 : decode cX12_truncateInput 11 = .ok (.invokestatic 53, 3) := by decide +kernel
theorem dX12_truncateInput_14 : decode cX12_truncateInput 14 = .ok (.ifCond .ne 5, 3) := by decide +kernel
theorem dX12_truncateInput_17 : decode cX12_truncateInput 17 = .ok (.iconst 0, 1) := by decide +kernel
theorem dX12_truncateInput_18 : decode cX12_truncateInput 18 = .ok (.ireturn, 1) := by decide +kernel
theorem dX12_truncateInput_19 : decode cX12_truncateInput 19 = .ok (.aload_n 0, 1) := by decide +kernel
theorem dX12_truncateInput_20 : decode cX12_truncateInput 20 = .ok (.iload_n 1, 1) := by decide +kernel
theorem dX12_truncateInput_21 : decode cX12_truncateInput 21 = .ok (.putfield 174, 3) := by decide +kernel
theorem dX12_truncateInput_24 : decode cX12_truncateInput 24 = .ok (.iconst 1, 1) := by decide +kernel
theorem dX12_truncateInput_25 : decode cX12_truncateInput 25 = .ok (.ireturn, 1) := by decide +kernel
theorem dX12_errorCode_0 : decode cX12_errorCode 0 = .ok (.aload_n 0, 1) := by decide +kernel
theorem dX12_errorCode_1 : decode cX12_errorCode 1 = .ok (.iconst 0, 1) := by decide +kernel
theorem dX12_errorCode_2 : decode cX12_errorCode 2 = .ok (.putfield 1, 3) := by decide +kernel
theorem dX12_errorCode_5 : decode cX12_errorCode 5 = .ok (.aload_n 0, 1) := by decide +kernel
theorem dX12_errorCode_6 : decode cX12_errorCode 6 = .ok (.getfield 180, 3) := by decide +kernel
theorem dX12_errorCode_9 : decode cX12_errorCode 9 = .ok (.ireturn, 1) := by decide +kernel
theorem dX12_errorOffset_0 : decode cX12_errorOffset 0 = .ok (.aload_n 0, 1) := by decide +kernel
theorem dX12_errorOffset_1 : decode cX12_errorOffset 1 = .ok (.iconst 0, 1) := by decide +kernel
theorem dX12_errorOffset_2 : decode cX12_errorOffset 2 = .ok (.putfield 1, 3) := by decide +kernel
theorem dX12_errorOffset_5 : decode cX12_errorOffset 5 = .ok (.aload_n 0, 1) := by decide +kernel
theorem dX12_errorOffset_6 : decode cX12_errorOffset 6 = .ok (.getfield 30, 3) := by decide +kernel
theorem dX12_errorOffset_9 : decode cX12_errorOffset 9 = .ok (.ireturn, 1) := by decide +kernel
theorem dX12_byteAt_0 : decode cX12_byteAt 0 = .ok (.iload_n 1, 1) := by decide +kernel
theorem dX12_byteAt_1 : decode cX12_byteAt 1 = .ok (.aload_n 0, 1) := by decide +kernel
theorem dX12_byteAt_2 : decode cX12_byteAt 2 = .ok (.getfield 174, 3) := by decide +kernel
theorem dX12_byteAt_5 : decode cX12_byteAt 5 = .ok (.if_icmp .ge 16, 3) := by decide +kernel
theorem dX12_byteAt_8 : decode cX12_byteAt 8 = .ok (.aload_n 0, 1) := by decide +kernel
theorem dX12_byteAt_9 : decode cX12_byteAt 9 = .ok (.getfield 26, 3) := by decide +kernel
theorem dX12_byteAt_12 : decode cX12_byteAt 12 = .ok (.iload_n 1, 1) := by decide +kernel
theorem dX12_byteAt_13 : decode cX12_byteAt 13 = .ok (.baload, 1) := by decide +kernel
theorem dX12_byteAt_14 : decode cX12_byteAt 14 = .ok (.sipush 255, 3) := by decide +kernel
theorem dX12_byteAt_17 : decode cX12_byteAt 17 = .ok (.iand, 1) := by decide +kernel
theorem dX12_byteAt_18 : decode cX12_byteAt 18 = .ok (.goto 4, 3) := by decide +kernel
theorem dX12_byteAt_21 : decode cX12_byteAt 21 = .ok (.iconst (-1), 1) := by decide +kernel
theorem dX12_byteAt_22 : decode cX12_byteAt 22 = .ok (.ireturn, 1) := by decide +kernel
theorem dX12_scans_0 : decode cX12_scans 0 = .ok (.aload_n 0, 1) := by decide +kernel
theorem dX12_scans_1 : decode cX12_scans 1 = .ok (.aload_n 0, 1) := by decide +kernel
theorem dX12_scans_2 : decode cX12_scans 2 = .ok (.getfield 183, 3) := by decide +kernel
theorem dX12_scans_5 : decode cX12_scans 5 = .ok (.invokevirtual 186, 3) := by decide +kernel
theorem dX12_scans_8 : decode cX12_scans 8 = .ok (.bipush 32, 2) := by decide +kernel
theorem dX12_scans_10 : decode cX12_scans 10 = .ok (.if_icmp .eq 16, 3) := by decide +kernel
theorem dX12_scans_13 : decode cX12_scans 13 = .ok (.aload_n 0, 1) := by decide +kernel
theorem dX12_scans_14 : decode cX12_scans 14 = .ok (.aload_n 0, 1) := by decide +kernel
theorem dX12_scans_15 : decode cX12_scans 15 = .ok (.getfield 183, 3) := by decide +kernel
theorem dX12_scans_18 : decode cX12_scans 18 = .ok (.invokevirtual 186, 3) := by decide +kernel
theorem dX12_scans_21 : decode cX12_scans 21 = .ok (.bipush 10, 2) := by decide +kernel
theorem dX12_scans_23 : decode cX12_scans 23 = .ok (.if_icmp .ne 16, 3) := by decide +kernel
theorem dX12_scans_26 : decode cX12_scans 26 = .ok (.aload_n 0, 1) := by decide +kernel
theorem dX12_scans_27 : decode cX12_scans 27 = .ok (.aload_n 0, 1) := by decide +kernel
theorem dX12_scans_28 : decode cX12_scans 28 = .ok (.getfield 183, 3) := by decide +kernel
theorem dX12_scans_31 : decode cX12_scans 31 = .ok (.iconst 1, 1) := by decide +kernel
theorem dX12_scans_32 : decode cX12_scans 32 = .ok (.iadd, 1) := by decide +kernel
theorem dX12_scans_33 : decode cX12_scans 33 = .ok (.putfield 183, 3) := by decide +kernel
theorem dX12_scans_36 : decode cX12_scans 36 = .ok (.goto (-36), 3) := by decide +kernel
theorem dX12_scans_39 : decode cX12_scans 39 = .ok (.aload_n 0, 1) := by decide +kernel
theorem dX12_scans_40 : decode cX12_scans 40 = .ok (.aload_n 0, 1) := by decide +kernel
theorem dX12_scans_41 : decode cX12_scans 41 = .ok (.getfield 183, 3) := by decide +kernel
theorem dX12_scans_44 : decode cX12_scans 44 = .ok (.putfield 189, 3) := by decide +kernel
theorem dX12_scans_47 : decode cX12_scans 47 = .ok (.aload_n 0, 1) := by decide +kernel
theorem dX12_scans_48 : decode cX12_scans 48 = .ok (.iconst 0, 1) := by decide +kernel
theorem dX12_scans_49 : decode cX12_scans 49 = .ok (.putfield 192, 3) := by decide +kernel
theorem dX12_scans_52 : decode cX12_scans 52 = .ok (.aload_n 0, 1) := by decide +kernel
theorem dX12_scans_53 : decode cX12_scans 53 = .ok (.iconst 0, 1) := by decide +kernel
theorem dX12_scans_54 : decode cX12_scans 54 = .ok (.putfield 195, 3) := by decide +kernel
theorem dX12_scans_57 : decode cX12_scans 57 = .ok (.aload_n 0, 1) := by decide +kernel
theorem dX12_scans_58 : decode cX12_scans 58 = .ok (.aload_n 0, 1) := by decide +kernel
theorem dX12_scans_59 : decode cX12_scans 59 = .ok (.getfield 189, 3) := by decide +kernel
theorem dX12_scans_62 : decode cX12_scans 62 = .ok (.invokevirtual 186, 3) := by decide +kernel
theorem dX12_scans_65 : decode cX12_scans 65 = .ok (.istore_n 1, 1) := by decide +kernel
theorem dX12_scans_66 : decode cX12_scans 66 = .ok (.iload_n 1, 1) := by decide +kernel
theorem dX12_scans_67 : decode cX12_scans 67 = .ok (.iconst (-1), 1) := by decide +kernel
theorem dX12_scans_68 : decode cX12_scans 68 = .ok (.if_icmp .ne 11, 3) := by decide +kernel
theorem dX12_scans_71 : decode cX12_scans 71 = .ok (.aload_n 0, 1) := by decide +kernel
theorem dX12_scans_72 : decode cX12_scans 72 = .ok (.iconst 0, 1) := by decide +kernel
theorem dX12_scans_73 : decode cX12_scans 73 = .ok (.putfield 198, 3) := by decide +kernel
theorem dX12_scans_76 : decode cX12_scans 76 = .ok (.goto 220, 3) := by decide +kernel
theorem dX12_scans_79 : decode cX12_scans 79 = .ok (.iload_n 1, 1) := by decide +kernel
theorem dX12_scans_80 : decode cX12_scans 80 = .ok (.bipush 97, 2) := by decide +kernel
theorem dX12_scans_82 : decode cX12_scans 82 = .ok (.bipush 122, 2) := by decide +kernel
theorem dX12_scans_84 : decode cX12_scans 84 = .ok (.invokestatic 53, 3) := by decide +kernel
theorem dX12_scans_87 : decode cX12_scans 87 = .ok (.ifCond .eq 81, 3) := by decide +kernel
theorem dX12_scans_90 : decode cX12_scans 90 = .ok (.aload_n 0, 1) := by decide +kernel
theorem dX12_scans_91 : decode cX12_scans 91 = .ok (.aload_n 0, 1) := by decide +kernel
theorem dX12_scans_92 : decode cX12_scans 92 = .ok (.getfield 183, 3) := by decide +kernel
theorem dX12_scans_95 : decode cX12_scans 95 = .ok (.invokevirtual 186, 3) := by decide +kernel
theorem dX12_scans_98 : decode cX12_scans 98 = .ok (.bipush 97, 2) := by decide +kernel
theorem dX12_scans_100 : decode cX12_scans 100 = .ok (.bipush 122, 2) := by decide +kernel
theorem dX12_scans_102 : decode cX12_scans 102 = .ok (.invokestatic 53, 3) := by decide +kernel
theorem dX12_scans_105 : decode cX12_scans 105 = .ok (.ifCond .eq 55, 3) := by decide +kernel
theorem dX12_scans_108 : decode cX12_scans 108 = .ok (.aload_n 0, 1) := by decide +kernel
theorem dX12_scans_109 : decode cX12_scans 109 = .ok (.getfield 183, 3) := by decide +kernel
theorem dX12_scans_112 : decode cX12_scans 112 = .ok (.aload_n 0, 1) := by decide +kernel
theorem dX12_scans_113 : decode cX12_scans 113 = .ok (.getfield 189, 3) := by decide +kernel
theorem dX12_scans_116 : decode cX12_scans 116 = .ok (.isub, 1) := by decide +kernel
theorem dX12_scans_117 : decode cX12_scans 117 = .ok (.bipush 6, 2) := by decide +kernel
theorem dX12_scans_119 : decode cX12_scans 119 = .ok (.if_icmp .ge 28, 3) := by decide +kernel
theorem dX12_scans_122 : decode cX12_scans 122 = .ok (.aload_n 0, 1) := by decide +kernel
theorem dX12_scans_123 : decode cX12_scans 123 = .ok (.bipush 32, 2) := by decide +kernel
theorem dX12_scans_125 : decode cX12_scans 125 = .ok (.aload_n 0, 1) := by decide +kernel
theorem dX12_scans_126 : decode cX12_scans 126 = .ok (.getfield 195, 3) := by decide +kernel
theorem dX12_scans_129 : decode cX12_scans 129 = .ok (.imul, 1) := by decide +kernel
theorem dX12_scans_130 : decode cX12_scans 130 = .ok (.aload_n 0, 1) := by decide +kernel
theorem dX12_scans_131 : decode cX12_scans 131 = .ok (.aload_n 0, 1) := by decide +kernel
theorem dX12_scans_132 : decode cX12_scans 132 = .ok (.getfield 183, 3) := by decide +kernel
theorem dX12_scans_135 : decode cX12_scans 135 = .ok (.invokevirtual 186, 3) := by decide +kernel
theorem dX12_scans_138 : decode cX12_scans 138 = .ok (.iadd, 1) := by decide +kernel
theorem dX12_scans_139 : decode cX12_scans 139 = .ok (.bipush 97, 2) := by decide +kernel
theorem dX12_scans_141 : decode cX12_scans 141 = .ok (.isub, 1) := by decide +kernel
theorem dX12_scans_142 : decode cX12_scans 142 = .ok (.iconst 1, 1) := by decide +kernel
theorem dX12_scans_143 : decode cX12_scans 143 = .ok (.iadd, 1) := by decide +kernel
theorem dX12_scans_144 : decode cX12_scans 144 = .ok (.putfield 195, 3) := by decide +kernel
theorem dX12_scans_147 : decode cX12_scans 147 = .ok (.aload_n 0, 1) := by decide +kernel
theorem dX12_scans_148 : decode cX12_scans 148 = .ok (.aload_n 0, 1) := by decide +kernel
theorem dX12_scans_149 : decode cX12_scans 149 = .ok (.getfield 183, 3) := by decide +kernel
theorem dX12_scans_152 : decode cX12_scans 152 = .ok (.iconst 1, 1) := by decide +kernel
theorem dX12_scans_153 : decode cX12_scans 153 = .ok (.iadd, 1) := by decide +kernel
theorem dX12_scans_154 : decode cX12_scans 154 = .ok (.putfield 183, 3) := by decide +kernel
theorem dX12_scans_157 : decode cX12_scans 157 = .ok (.goto (-67), 3) := by decide +kernel
theorem dX12_scans_160 : decode cX12_scans 160 = .ok (.aload_n 0, 1) := by decide +kernel
theorem dX12_scans_161 : decode cX12_scans 161 = .ok (.iconst 1, 1) := by decide +kernel
theorem dX12_scans_162 : decode cX12_scans 162 = .ok (.putfield 198, 3) := by decide +kernel
theorem dX12_scans_165 : decode cX12_scans 165 = .ok (.goto 131, 3) := by decide +kernel
theorem dX12_scans_168 : decode cX12_scans 168 = .ok (.iload_n 1, 1) := by decide +kernel
theorem dX12_scans_169 : decode cX12_scans 169 = .ok (.bipush 48, 2) := by decide +kernel
theorem dX12_scans_171 : decode cX12_scans 171 = .ok (.bipush 57, 2) := by decide +kernel
theorem dX12_scans_173 : decode cX12_scans 173 = .ok (.invokestatic 53, 3) := by decide +kernel
theorem dX12_scans_176 : decode cX12_scans 176 = .ok (.ifCond .eq 95, 3) := by decide +kernel
theorem dX12_scans_179 : decode cX12_scans 179 = .ok (.aload_n 0, 1) := by decide +kernel
theorem dX12_scans_180 : decode cX12_scans 180 = .ok (.aload_n 0, 1) := by decide +kernel
theorem dX12_scans_181 : decode cX12_scans 181 = .ok (.getfield 183, 3) := by decide +kernel
theorem dX12_scans_184 : decode cX12_scans 184 = .ok (.invokevirtual 186, 3) := by decide +kernel
theorem dX12_scans_187 : decode cX12_scans 187 = .ok (.bipush 48, 2) := by decide +kernel
theorem dX12_scans_189 : decode cX12_scans 189 = .ok (.bipush 57, 2) := by decide +kernel
theorem dX12_scans_191 : decode cX12_scans 191 = .ok (.invokestatic 53, 3) := by decide +kernel
theorem dX12_scans_194 : decode cX12_scans 194 = .ok (.ifCond .eq 52, 3) := by decide +kernel
theorem dX12_scans_197 : decode cX12_scans 197 = .ok (.aload_n 0, 1) := by decide +kernel
theorem dX12_scans_198 : decode cX12_scans 198 = .ok (.getfield 183, 3) := by decide +kernel
theorem dX12_scans_201 : decode cX12_scans 201 = .ok (.aload_n 0, 1) := by decide +kernel
theorem dX12_scans_202 : decode cX12_scans 202 = .ok (.getfield 189, 3) := by decide +kernel
theorem dX12_scans_205 : decode cX12_scans 205 = .ok (.isub, 1) := by decide +kernel
theorem dX12_scans_206 : decode cX12_scans 206 = .ok (.iconst 4, 1) := by decide +kernel
theorem dX12_scans_207 : decode cX12_scans 207 = .ok (.if_icmp .ge 26, 3) := by decide +kernel
theorem dX12_scans_210 : decode cX12_scans 210 = .ok (.aload_n 0, 1) := by decide +kernel
theorem dX12_scans_211 : decode cX12_scans 211 = .ok (.bipush 10, 2) := by decide +kernel
theorem dX12_scans_213 : decode cX12_scans 213 = .ok (.aload_n 0, 1) := by decide +kernel
theorem dX12_scans_214 : decode cX12_scans 214 = .ok (.getfield 192, 3) := by decide +kernel
theorem dX12_scans_217 : decode cX12_scans 217 = .ok (.imul, 1) := by decide +kernel
theorem dX12_scans_218 : decode cX12_scans 218 = .ok (.aload_n 0, 1) := by decide +kernel
theorem dX12_scans_219 : decode cX12_scans 219 = .ok (.aload_n 0, 1) := by decide +kernel
theorem dX12_scans_220 : decode cX12_scans 220 = .ok (.getfield 183, 3) := by decide +kernel
theorem dX12_scans_223 : decode cX12_scans 223 = .ok (.invokevirtual 186, 3) := by decide +kernel
theorem dX12_scans_226 : decode cX12_scans 226 = .ok (.iadd, 1) := by decide +kernel
theorem dX12_scans_227 : decode cX12_scans 227 = .ok (.bipush 48, 2) := by decide +kernel
theorem dX12_scans_229 : decode cX12_scans 229 = .ok (.isub, 1) := by decide +kernel
theorem dX12_scans_230 : decode cX12_scans 230 = .ok (.putfield 192, 3) := by decide +kernel
theorem dX12_scans_233 : decode cX12_scans 233 = .ok (.aload_n 0, 1) := by decide +kernel
theorem dX12_scans_234 : decode cX12_scans 234 = .ok (.aload_n 0, 1) := by decide +kernel
theorem dX12_scans_235 : decode cX12_scans 235 = .ok (.getfield 183, 3) := by decide +kernel
theorem dX12_scans_238 : decode cX12_scans 238 = .ok (.iconst 1, 1) := by decide +kernel
theorem dX12_scans_239 : decode cX12_scans 239 = .ok (.iadd, 1) := by decide +kernel
theorem dX12_scans_240 : decode cX12_scans 240 = .ok (.putfield 183, 3) := by decide +kernel
theorem dX12_scans_243 : decode cX12_scans 243 = .ok (.goto (-64), 3) := by decide +kernel
theorem dX12_scans_246 : decode cX12_scans 246 = .ok (.aload_n 0, 1) := by decide +kernel
theorem dX12_scans_247 : decode cX12_scans 247 = .ok (.aload_n 0, 1) := by decide +kernel
theorem dX12_scans_248 : decode cX12_scans 248 = .ok (.getfield 183, 3) := by decide +kernel
theorem dX12_scans_251 : decode cX12_scans 251 = .ok (.aload_n 0, 1) := by decide +kernel
theorem dX12_scans_252 : decode cX12_scans 252 = .ok (.getfield 189, 3) := by decide +kernel
theorem dX12_scans_255 : decode cX12_scans 255 = .ok (.isub, 1) := by decide +kernel
theorem dX12_scans_256 : decode cX12_scans 256 = .ok (.iconst 4, 1) := by decide +kernel
theorem dX12_scans_257 : decode cX12_scans 257 = .ok (.if_icmp .le 7, 3) := by decide +kernel
theorem dX12_scans_260 : decode cX12_scans 260 = .ok (.iconst 4, 1) := by decide +kernel
theorem dX12_scans_261 : decode cX12_scans 261 = .ok (.goto 4, 3) := by decide +kernel
theorem dX12_scans_264 : decode cX12_scans 264 = .ok (.iconst 2, 1) := by decide +kernel
theorem dX12_scans_265 : decode cX12_scans 265 = .ok (.putfield 198, 3) := by decide +kernel
theorem dX12_scans_268 : decode cX12_scans 268 = .ok (.goto 28, 3) := by decide +kernel
theorem dX12_scans_271 : decode cX12_scans 271 = .ok (.aload_n 0, 1) := by decide +kernel
theorem dX12_scans_272 : decode cX12_scans 272 = .ok (.iload_n 1, 1) := by decide +kernel
theorem dX12_scans_273 : decode cX12_scans 273 = .ok (.bipush 59, 2) := by decide +kernel
theorem dX12_scans_275 : decode cX12_scans 275 = .ok (.if_icmp .ne 7, 3) := by decide +kernel
theorem dX12_scans_278 : decode cX12_scans 278 = .ok (.iconst 3, 1) := by decide +kernel
theorem dX12_scans_279 : decode cX12_scans 279 = .ok (.goto 4, 3) := by decide +kernel
theorem dX12_scans_282 : decode cX12_scans 282 = .ok (.iconst 4, 1) := by decide +kernel
theorem dX12_scans_283 : decode cX12_scans 283 = .ok (.putfield 198, 3) := by decide +kernel
theorem dX12_scans_286 : decode cX12_scans 286 = .ok (.aload_n 0, 1) := by decide +kernel
theorem dX12_scans_287 : decode cX12_scans 287 = .ok (.aload_n 0, 1) := by decide +kernel
theorem dX12_scans_288 : decode cX12_scans 288 = .ok (.getfield 183, 3) := by decide +kernel
theorem dX12_scans_291 : decode cX12_scans 291 = .ok (.iconst 1, 1) := by decide +kernel
theorem dX12_scans_292 : decode cX12_scans 292 = .ok (.iadd, 1) := by decide +kernel
theorem dX12_scans_293 : decode cX12_scans 293 = .ok (.putfield 183, 3) := by decide +kernel
theorem dX12_scans_296 : decode cX12_scans 296 = .ok (.return_, 1) := by decide +kernel
theorem dX12_startsText_0 : decode cX12_startsText 0 = .ok (.aload_n 0, 1) := by decide +kernel
theorem dX12_startsText_1 : decode cX12_startsText 1 = .ok (.iconst 0, 1) := by decide +kernel
theorem dX12_startsText_2 : decode cX12_startsText 2 = .ok (.putfield 1, 3) := by decide +kernel
theorem dX12_startsText_5 : decode cX12_startsText 5 = .ok (.aload_n 0, 1) := by decide +kernel
theorem dX12_startsText_6 : decode cX12_startsText 6 = .ok (.iconst 0, 1) := by decide +kernel
theorem dX12_startsText_7 : decode cX12_startsText 7 = .ok (.putfield 180, 3) := by decide +kernel
theorem dX12_startsText_10 : decode cX12_startsText 10 = .ok (.aload_n 0, 1) := by decide +kernel
theorem dX12_startsText_11 : decode cX12_startsText 11 = .ok (.iconst (-1), 1) := by decide +kernel
theorem dX12_startsText_12 : decode cX12_startsText 12 = .ok (.putfield 30, 3) := by decide +kernel
theorem dX12_startsText_15 : decode cX12_startsText 15 = .ok (.aload_n 0, 1) := by decide +kernel
theorem dX12_startsText_16 : decode cX12_startsText 16 = .ok (.iconst 0, 1) := by decide +kernel
theorem dX12_startsText_17 : decode cX12_startsText 17 = .ok (.putfield 183, 3) := by decide +kernel
theorem dX12_startsText_20 : decode cX12_startsText 20 = .ok (.aload_n 0, 1) := by decide +kernel
theorem dX12_startsText_21 : decode cX12_startsText 21 = .ok (.invokevirtual 201, 3) := by decide +kernel
theorem dX12_startsText_24 : decode cX12_startsText 24 = .ok (.return_, 1) := by decide +kernel
theorem dX12_isGood_0 : decode cX12_isGood 0 = .ok (.aload_n 0, 1) := by decide +kernel
theorem dX12_isGood_1 : decode cX12_isGood 1 = .ok (.getfield 180, 3) := by decide +kernel
theorem dX12_isGood_4 : decode cX12_isGood 4 = .ok (.ifCond .ne 7, 3) := by decide +kernel
theorem dX12_isGood_7 : decode cX12_isGood 7 = .ok (.iconst 1, 1) := by decide +kernel
theorem dX12_isGood_8 : decode cX12_isGood 8 = .ok (.goto 4, 3) := by decide +kernel
theorem dX12_isGood_11 : decode cX12_isGood 11 = .ok (.iconst 0, 1) := by decide +kernel
theorem dX12_isGood_12 : decode cX12_isGood 12 = .ok (.ireturn, 1) := by decide +kernel
theorem dX12_errs_0 : decode cX12_errs 0 = .ok (.aload_n 0, 1) := by decide +kernel
theorem dX12_errs_1 : decode cX12_errs 1 = .ok (.invokevirtual 204, 3) := by decide +kernel
theorem dX12_errs_4 : decode cX12_errs 4 = .ok (.ifCond .ne 4, 3) := by decide +kernel
theorem dX12_errs_7 : decode cX12_errs 7 = .ok (.return_, 1) := by decide +kernel
theorem dX12_errs_8 : decode cX12_errs 8 = .ok (.aload_n 0, 1) := by decide +kernel
theorem dX12_errs_9 : decode cX12_errs 9 = .ok (.iload_n 1, 1) := by decide +kernel
theorem dX12_errs_10 : decode cX12_errs 10 = .ok (.putfield 180, 3) := by decide +kernel
theorem dX12_errs_13 : decode cX12_errs 13 = .ok (.aload_n 0, 1) := by decide +kernel
theorem dX12_errs_14 : decode cX12_errs 14 = .ok (.aload_n 0, 1) := by decide +kernel
theorem dX12_errs_15 : decode cX12_errs 15 = .ok (.getfield 189, 3) := by decide +kernel
theorem dX12_errs_18 : decode cX12_errs 18 = .ok (.putfield 30, 3) := by decide +kernel
theorem dX12_errs_21 : decode cX12_errs 21 = .ok (.return_, 1) := by decide +kernel
theorem dX12_goesOn_0 : decode cX12_goesOn 0 = .ok (.aload_n 0, 1) := by decide +kernel
theorem dX12_goesOn_1 : decode cX12_goesOn 1 = .ok (.invokevirtual 204, 3) := by decide +kernel
theorem dX12_goesOn_4 : decode cX12_goesOn 4 = .ok (.ifCond .eq 7, 3) := by decide +kernel
theorem dX12_goesOn_7 : decode cX12_goesOn 7 = .ok (.aload_n 0, 1) := by decide +kernel
theorem dX12_goesOn_8 : decode cX12_goesOn 8 = .ok (.invokevirtual 201, 3) := by decide +kernel
theorem dX12_goesOn_11 : decode cX12_goesOn 11 = .ok (.return_, 1) := by decide +kernel
theorem dX12_isWord_0 : decode cX12_isWord 0 = .ok (.aload_n 0, 1) := by decide +kernel
theorem dX12_isWord_1 : decode cX12_isWord 1 = .ok (.invokevirtual 204, 3) := by decide +kernel
theorem dX12_isWord_4 : decode cX12_isWord 4 = .ok (.ifCond .eq 27, 3) := by decide +kernel
theorem dX12_isWord_7 : decode cX12_isWord 7 = .ok (.aload_n 0, 1) := by decide +kernel
theorem dX12_isWord_8 : decode cX12_isWord 8 = .ok (.getfield 198, 3) := by decide +kernel
theorem dX12_isWord_11 : decode cX12_isWord 11 = .ok (.iconst 1, 1) := by decide +kernel
theorem dX12_isWord_12 : decode cX12_isWord 12 = .ok (.if_icmp .ne 19, 3) := by decide +kernel
theorem dX12_isWord_15 : decode cX12_isWord 15 = .ok (.aload_n 0, 1) := by decide +kernel
theorem dX12_isWord_16 : decode cX12_isWord 16 = .ok (.getfield 183, 3) := by decide +kernel
theorem dX12_isWord_19 : decode cX12_isWord 19 = .ok (.aload_n 0, 1) := by decide +kernel
theorem dX12_isWord_20 : decode cX12_isWord 20 = .ok (.getfield 189, 3) := by decide +kernel
theorem dX12_isWord_23 : decode cX12_isWord 23 = .ok (.isub, 1) := by decide +kernel
theorem dX12_isWord_24 : decode cX12_isWord 24 = .ok (.aload_n 1, 1) := by decide +kernel
theorem dX12_isWord_25 : decode cX12_isWord 25 = .ok (.invokevirtual 208, 3) := by decide +kernel
theorem dX12_isWord_28 : decode cX12_isWord 28 = .ok (.if_icmp .eq 5, 3) := by decide +kernel
theorem dX12_isWord_31 : decode cX12_isWord 31 = .ok (.iconst 0, 1) := by decide +kernel
theorem dX12_isWord_32 : decode cX12_isWord 32 = .ok (.ireturn, 1) := by decide +kernel
theorem dX12_isWord_33 : decode cX12_isWord 33 = .ok (.iconst 0, 1) := by decide +kernel
theorem dX12_isWord_34 : decode cX12_isWord 34 = .ok (.istore_n 2, 1) := by decide +kernel
theorem dX12_isWord_35 : decode cX12_isWord 35 = .ok (.iload_n 2, 1) := by decide +kernel
theorem dX12_isWord_36 : decode cX12_isWord 36 = .ok (.aload_n 1, 1) := by decide +kernel
theorem dX12_isWord_37 : decode cX12_isWord 37 = .ok (.invokevirtual 208, 3) := by decide +kernel
theorem dX12_isWord_40 : decode cX12_isWord 40 = .ok (.if_icmp .ge 29, 3) := by decide +kernel
theorem dX12_isWord_43 : decode cX12_isWord 43 = .ok (.aload_n 0, 1) := by decide +kernel
theorem dX12_isWord_44 : decode cX12_isWord 44 = .ok (.aload_n 0, 1) := by decide +kernel
theorem dX12_isWord_45 : decode cX12_isWord 45 = .ok (.getfield 189, 3) := by decide +kernel
theorem dX12_isWord_48 : decode cX12_isWord 48 = .ok (.iload_n 2, 1) := by decide +kernel
theorem dX12_isWord_49 : decode cX12_isWord 49 = .ok (.iadd, 1) := by decide +kernel
theorem dX12_isWord_50 : decode cX12_isWord 50 = .ok (.invokevirtual 186, 3) := by decide +kernel
theorem dX12_isWord_53 : decode cX12_isWord 53 = .ok (.aload_n 1, 1) := by decide +kernel
theorem dX12_isWord_54 : decode cX12_isWord 54 = .ok (.iload_n 2, 1) := by decide +kernel
theorem dX12_isWord_55 : decode cX12_isWord 55 = .ok (.invokevirtual 213, 3) := by decide +kernel
theorem dX12_isWord_58 : decode cX12_isWord 58 = .ok (.if_icmp .eq 5, 3) := by decide +kernel
theorem dX12_isWord_61 : decode cX12_isWord 61 = .ok (.iconst 0, 1) := by decide +kernel
theorem dX12_isWord_62 : decode cX12_isWord 62 = .ok (.ireturn, 1) := by decide +kernel
theorem dX12_isWord_63 : decode cX12_isWord 63 = .ok (.iinc 2 1, 3) := by decide +kernel
theorem dX12_isWord_66 : decode cX12_isWord 66 = .ok (.goto (-31), 3) := by decide +kernel
theorem dX12_isWord_69 : decode cX12_isWord 69 = .ok (.iconst 1, 1) := by decide +kernel
theorem dX12_isWord_70 : decode cX12_isWord 70 = .ok (.ireturn, 1) := by decide +kernel
theorem dX12_takes_0 : decode cX12_takes 0 = .ok (.aload_n 0, 1) := by decide +kernel
theorem dX12_takes_1 : decode cX12_takes 1 = .ok (.aload_n 1, 1) := by decide +kernel
theorem dX12_takes_2 : decode cX12_takes 2 = .ok (.invokevirtual 217, 3) := by decide +kernel
theorem dX12_takes_5 : decode cX12_takes 5 = .ok (.istore_n 2, 1) := by decide +kernel
theorem dX12_takes_6 : decode cX12_takes 6 = .ok (.iload_n 2, 1) := by decide +kernel
theorem dX12_takes_7 : decode cX12_takes 7 = .ok (.ifCond .eq 7, 3) := by decide +kernel
theorem dX12_takes_10 : decode cX12_takes 10 = .ok (.aload_n 0, 1) := by decide +kernel
theorem dX12_takes_11 : decode cX12_takes 11 = .ok (.invokevirtual 201, 3) := by decide +kernel
theorem dX12_takes_14 : decode cX12_takes 14 = .ok (.iload_n 2, 1) := by decide +kernel
theorem dX12_takes_15 : decode cX12_takes 15 = .ok (.ireturn, 1) := by decide +kernel
theorem dX12_semicolon_0 : decode cX12_semicolon 0 = .ok (.aload_n 0, 1) := by decide +kernel
theorem dX12_semicolon_1 : decode cX12_semicolon 1 = .ok (.getfield 198, 3) := by decide +kernel
theorem dX12_semicolon_4 : decode cX12_semicolon 4 = .ok (.iconst 3, 1) := by decide +kernel
theorem dX12_semicolon_5 : decode cX12_semicolon 5 = .ok (.if_icmp .eq 8, 3) := by decide +kernel
theorem dX12_semicolon_8 : decode cX12_semicolon 8 = .ok (.aload_n 0, 1) := by decide +kernel
theorem dX12_semicolon_9 : decode cX12_semicolon 9 = .ok (.iconst 1, 1) := by decide +kernel
theorem dX12_semicolon_10 : decode cX12_semicolon 10 = .ok (.invokevirtual 221, 3) := by decide +kernel
theorem dX12_semicolon_13 : decode cX12_semicolon 13 = .ok (.aload_n 0, 1) := by decide +kernel
theorem dX12_semicolon_14 : decode cX12_semicolon 14 = .ok (.invokevirtual 224, 3) := by decide +kernel
theorem dX12_semicolon_17 : decode cX12_semicolon 17 = .ok (.return_, 1) := by decide +kernel
theorem dX12_number_0 : decode cX12_number 0 = .ok (.aload_n 0, 1) := by decide +kernel
theorem dX12_number_1 : decode cX12_number 1 = .ok (.getfield 198, 3) := by decide +kernel
theorem dX12_number_4 : decode cX12_number 4 = .ok (.iconst 2, 1) := by decide +kernel
theorem dX12_number_5 : decode cX12_number 5 = .ok (.if_icmp .eq 11, 3) := by decide +kernel
theorem dX12_number_8 : decode cX12_number 8 = .ok (.aload_n 0, 1) := by decide +kernel
theorem dX12_number_9 : decode cX12_number 9 = .ok (.iconst 1, 1) := by decide +kernel
theorem dX12_number_10 : decode cX12_number 10 = .ok (.invokevirtual 221, 3) := by decide +kernel
theorem dX12_number_13 : decode cX12_number 13 = .ok (.goto 20, 3) := by decide +kernel
theorem dX12_number_16 : decode cX12_number 16 = .ok (.aload_n 0, 1) := by decide +kernel
theorem dX12_number_17 : decode cX12_number 17 = .ok (.getfield 192, 3) := by decide +kernel
theorem dX12_number_20 : decode cX12_number 20 = .ok (.iload_n 1, 1) := by decide +kernel
theorem dX12_number_21 : decode cX12_number 21 = .ok (.iload_n 2, 1) := by decide +kernel
theorem dX12_number_22 : decode cX12_number 22 = .ok (.invokestatic 53, 3) := by decide +kernel
theorem dX12_number_25 : decode cX12_number 25 = .ok (.ifCond .ne 8, 3) := by decide +kernel
theorem dX12_number_28 : decode cX12_number 28 = .ok (.aload_n 0, 1) := by decide +kernel
theorem dX12_number_29 : decode cX12_number 29 = .ok (.iconst 2, 1) := by decide +kernel
theorem dX12_number_30 : decode cX12_number 30 = .ok (.invokevirtual 221, 3) := by decide +kernel
theorem dX12_number_33 : decode cX12_number 33 = .ok (.aload_n 0, 1) := by decide +kernel
theorem dX12_number_34 : decode cX12_number 34 = .ok (.invokevirtual 204, 3) := by decide +kernel
theorem dX12_number_37 : decode cX12_number 37 = .ok (.ifCond .eq 10, 3) := by decide +kernel
theorem dX12_number_40 : decode cX12_number 40 = .ok (.aload_n 0, 1) := by decide +kernel
theorem dX12_number_41 : decode cX12_number 41 = .ok (.getfield 192, 3) := by decide +kernel
theorem dX12_number_44 : decode cX12_number 44 = .ok (.goto 4, 3) := by decide +kernel
theorem dX12_number_47 : decode cX12_number 47 = .ok (.iload_n 1, 1) := by decide +kernel
theorem dX12_number_48 : decode cX12_number 48 = .ok (.istore_n 3, 1) := by decide +kernel
theorem dX12_number_49 : decode cX12_number 49 = .ok (.aload_n 0, 1) := by decide +kernel
theorem dX12_number_50 : decode cX12_number 50 = .ok (.invokevirtual 224, 3) := by decide +kernel
theorem dX12_number_53 : decode cX12_number 53 = .ok (.iload_n 3, 1) := by decide +kernel
theorem dX12_number_54 : decode cX12_number 54 = .ok (.ireturn, 1) := by decide +kernel
theorem dX12_optional_0 : decode cX12_optional 0 = .ok (.aload_n 0, 1) := by decide +kernel
theorem dX12_optional_1 : decode cX12_optional 1 = .ok (.aload_n 1, 1) := by decide +kernel
theorem dX12_optional_2 : decode cX12_optional 2 = .ok (.invokevirtual 227, 3) := by decide +kernel
theorem dX12_optional_5 : decode cX12_optional 5 = .ok (.ifCond .eq 12, 3) := by decide +kernel
theorem dX12_optional_8 : decode cX12_optional 8 = .ok (.aload_n 0, 1) := by decide +kernel
theorem dX12_optional_9 : decode cX12_optional 9 = .ok (.iload_n 2, 1) := by decide +kernel
theorem dX12_optional_10 : decode cX12_optional 10 = .ok (.iload_n 3, 1) := by decide +kernel
theorem dX12_optional_11 : decode cX12_optional 11 = .ok (.invokevirtual 230, 3) := by decide +kernel
theorem dX12_optional_14 : decode cX12_optional 14 = .ok (.goto 5, 3) := by decide +kernel
theorem dX12_optional_17 : decode cX12_optional 17 = .ok (.iload 4, 2) := by decide +kernel
theorem dX12_optional_19 : decode cX12_optional 19 = .ok (.ireturn, 1) := by decide +kernel
theorem dX12_named_0 : decode cX12_named 0 = .ok (.iconst 0, 1) := by decide +kernel
theorem dX12_named_1 : decode cX12_named 1 = .ok (.istore_n 1, 1) := by decide +kernel
theorem dX12_named_2 : decode cX12_named 2 = .ok (.iload_n 1, 1) := by decide +kernel
theorem dX12_named_3 : decode cX12_named 3 = .ok (.aload_n 0, 1) := by decide +kernel
theorem dX12_named_4 : decode cX12_named 4 = .ok (.invokevirtual 49, 3) := by decide +kernel
theorem dX12_named_7 : decode cX12_named 7 = .ok (.if_icmp .ge 25, 3) := by decide +kernel
theorem dX12_named_10 : decode cX12_named 10 = .ok (.aload_n 0, 1) := by decide +kernel
theorem dX12_named_11 : decode cX12_named 11 = .ok (.iload_n 1, 1) := by decide +kernel
theorem dX12_named_12 : decode cX12_named 12 = .ok (.bipush 15, 2) := by decide +kernel
theorem dX12_named_14 : decode cX12_named 14 = .ok (.invokevirtual 57, 3) := by decide +kernel
theorem dX12_named_17 : decode cX12_named 17 = .ok (.aload_n 0, 1) := by decide +kernel
theorem dX12_named_18 : decode cX12_named 18 = .ok (.getfield 195, 3) := by decide +kernel
theorem dX12_named_21 : decode cX12_named 21 = .ok (.if_icmp .ne 5, 3) := by decide +kernel
theorem dX12_named_24 : decode cX12_named 24 = .ok (.iload_n 1, 1) := by decide +kernel
theorem dX12_named_25 : decode cX12_named 25 = .ok (.ireturn, 1) := by decide +kernel
theorem dX12_named_26 : decode cX12_named 26 = .ok (.iinc 1 1, 3) := by decide +kernel
theorem dX12_named_29 : decode cX12_named 29 = .ok (.goto (-27), 3) := by decide +kernel
theorem dX12_named_32 : decode cX12_named 32 = .ok (.iconst (-1), 1) := by decide +kernel
theorem dX12_named_33 : decode cX12_named 33 = .ok (.ireturn, 1) := by decide +kernel
theorem dX12_isName_0 : decode cX12_isName 0 = .ok (.aload_n 0, 1) := by decide +kernel
theorem dX12_isName_1 : decode cX12_isName 1 = .ok (.getfield 198, 3) := by decide +kernel
theorem dX12_isName_4 : decode cX12_isName 4 = .ok (.iconst 1, 1) := by decide +kernel
theorem dX12_isName_5 : decode cX12_isName 5 = .ok (.if_icmp .ne 30, 3) := by decide +kernel
theorem dX12_isName_8 : decode cX12_isName 8 = .ok (.aload_n 0, 1) := by decide +kernel
theorem dX12_isName_9 : decode cX12_isName 9 = .ok (.getfield 183, 3) := by decide +kernel
theorem dX12_isName_12 : decode cX12_isName 12 = .ok (.aload_n 0, 1) := by decide +kernel
theorem dX12_isName_13 : decode cX12_isName 13 = .ok (.getfield 189, 3) := by decide +kernel
theorem dX12_isName_16 : decode cX12_isName 16 = .ok (.isub, 1) := by decide +kernel
theorem dX12_isName_17 : decode cX12_isName 17 = .ok (.bipush 6, 2) := by decide +kernel
theorem dX12_isName_19 : decode cX12_isName 19 = .ok (.if_icmp .gt 16, 3) := by decide +kernel
theorem dX12_isName_22 : decode cX12_isName 22 = .ok (.aload_n 0, 1) := by decide +kernel
theorem dX12_isName_23 : decode cX12_isName 23 = .ok (.ldc 233, 2) := by decide +kernel
theorem dX12_isName_25 : decode cX12_isName 25 = .ok (.invokevirtual 217, 3) := by decide +kernel
theorem dX12_isName_28 : decode cX12_isName 28 = .ok (.ifCond .ne 7, 3) := by decide +kernel
theorem dX12_isName_31 : decode cX12_isName 31 = .ok (.iconst 1, 1) := by decide +kernel
theorem dX12_isName_32 : decode cX12_isName 32 = .ok (.goto 4, 3) := by decide +kernel
theorem dX12_isName_35 : decode cX12_isName 35 = .ok (.iconst 0, 1) := by decide +kernel
theorem dX12_isName_36 : decode cX12_isName 36 = .ok (.ireturn, 1) := by decide +kernel
theorem dX12_terminalHere_0 : decode cX12_terminalHere 0 = .ok (.aload_n 0, 1) := by decide +kernel
theorem dX12_terminalHere_1 : decode cX12_terminalHere 1 = .ok (.invokevirtual 235, 3) := by decide +kernel
theorem dX12_terminalHere_4 : decode cX12_terminalHere 4 = .ok (.ifCond .ne 8, 3) := by decide +kernel
theorem dX12_terminalHere_7 : decode cX12_terminalHere 7 = .ok (.aload_n 0, 1) := by decide +kernel
theorem dX12_terminalHere_8 : decode cX12_terminalHere 8 = .ok (.iconst 1, 1) := by decide +kernel
theorem dX12_terminalHere_9 : decode cX12_terminalHere 9 = .ok (.invokevirtual 221, 3) := by decide +kernel
theorem dX12_terminalHere_12 : decode cX12_terminalHere 12 = .ok (.aload_n 0, 1) := by decide +kernel
theorem dX12_terminalHere_13 : decode cX12_terminalHere 13 = .ok (.invokevirtual 204, 3) := by decide +kernel
theorem dX12_terminalHere_16 : decode cX12_terminalHere 16 = .ok (.ifCond .eq 10, 3) := by decide +kernel
theorem dX12_terminalHere_19 : decode cX12_terminalHere 19 = .ok (.aload_n 0, 1) := by decide +kernel
theorem dX12_terminalHere_20 : decode cX12_terminalHere 20 = .ok (.invokevirtual 238, 3) := by decide +kernel
theorem dX12_terminalHere_23 : decode cX12_terminalHere 23 = .ok (.goto 4, 3) := by decide +kernel
theorem dX12_terminalHere_26 : decode cX12_terminalHere 26 = .ok (.iconst 0, 1) := by decide +kernel
theorem dX12_terminalHere_27 : decode cX12_terminalHere 27 = .ok (.istore_n 1, 1) := by decide +kernel
theorem dX12_terminalHere_28 : decode cX12_terminalHere 28 = .ok (.iload_n 1, 1) := by decide +kernel
theorem dX12_terminalHere_29 : decode cX12_terminalHere 29 = .ok (.iconst (-1), 1) := by decide +kernel
theorem dX12_terminalHere_30 : decode cX12_terminalHere 30 = .ok (.if_icmp .ne 8, 3) := by decide +kernel
theorem dX12_terminalHere_33 : decode cX12_terminalHere 33 = .ok (.aload_n 0, 1) := by decide +kernel
theorem dX12_terminalHere_34 : decode cX12_terminalHere 34 = .ok (.iconst 3, 1) := by decide +kernel
theorem dX12_terminalHere_35 : decode cX12_terminalHere 35 = .ok (.invokevirtual 221, 3) := by decide +kernel
theorem dX12_terminalHere_38 : decode cX12_terminalHere 38 = .ok (.aload_n 0, 1) := by decide +kernel
theorem dX12_terminalHere_39 : decode cX12_terminalHere 39 = .ok (.invokevirtual 204, 3) := by decide +kernel
theorem dX12_terminalHere_42 : decode cX12_terminalHere 42 = .ok (.ifCond .eq 7, 3) := by decide +kernel
theorem dX12_terminalHere_45 : decode cX12_terminalHere 45 = .ok (.iload_n 1, 1) := by decide +kernel
theorem dX12_terminalHere_46 : decode cX12_terminalHere 46 = .ok (.goto 4, 3) := by decide +kernel
theorem dX12_terminalHere_49 : decode cX12_terminalHere 49 = .ok (.iconst 0, 1) := by decide +kernel
theorem dX12_terminalHere_50 : decode cX12_terminalHere 50 = .ok (.ireturn, 1) := by decide +kernel
theorem dX12_terminal0_0 : decode cX12_terminal0 0 = .ok (.aload_n 0, 1) := by decide +kernel
theorem dX12_terminal0_1 : decode cX12_terminal0 1 = .ok (.invokevirtual 241, 3) := by decide +kernel
theorem dX12_terminal0_4 : decode cX12_terminal0 4 = .ok (.istore_n 1, 1) := by decide +kernel
theorem dX12_terminal0_5 : decode cX12_terminal0 5 = .ok (.aload_n 0, 1) := by decide +kernel
theorem dX12_terminal0_6 : decode cX12_terminal0 6 = .ok (.invokevirtual 224, 3) := by decide +kernel
theorem dX12_terminal0_9 : decode cX12_terminal0 9 = .ok (.iload_n 1, 1) := by decide +kernel
theorem dX12_terminal0_10 : decode cX12_terminal0 10 = .ok (.ireturn, 1) := by decide +kernel
theorem dX12_whoHere_0 : decode cX12_whoHere 0 = .ok (.aload_n 0, 1) := by decide +kernel
theorem dX12_whoHere_1 : decode cX12_whoHere 1 = .ok (.ldc 233, 2) := by decide +kernel
theorem dX12_whoHere_3 : decode cX12_whoHere 3 = .ok (.invokevirtual 217, 3) := by decide +kernel
theorem dX12_whoHere_6 : decode cX12_whoHere 6 = .ok (.ifCond .eq 7, 3) := by decide +kernel
theorem dX12_whoHere_9 : decode cX12_whoHere 9 = .ok (.iconst (-1), 1) := by decide +kernel
theorem dX12_whoHere_10 : decode cX12_whoHere 10 = .ok (.goto 7, 3) := by decide +kernel
theorem dX12_whoHere_13 : decode cX12_whoHere 13 = .ok (.aload_n 0, 1) := by decide +kernel
theorem dX12_whoHere_14 : decode cX12_whoHere 14 = .ok (.invokevirtual 241, 3) := by decide +kernel
theorem dX12_whoHere_17 : decode cX12_whoHere 17 = .ok (.ireturn, 1) := by decide +kernel
theorem dX12_once_0 : decode cX12_once 0 = .ok (.aload_n 0, 1) := by decide +kernel
theorem dX12_once_1 : decode cX12_once 1 = .ok (.getfield 244, 3) := by decide +kernel
theorem dX12_once_4 : decode cX12_once 4 = .ok (.iload_n 1, 1) := by decide +kernel
theorem dX12_once_5 : decode cX12_once 5 = .ok (.ishr, 1) := by decide +kernel
theorem dX12_once_6 : decode cX12_once 6 = .ok (.iconst 1, 1) := by decide +kernel
theorem dX12_once_7 : decode cX12_once 7 = .ok (.iand, 1) := by decide +kernel
theorem dX12_once_8 : decode cX12_once 8 = .ok (.iconst 1, 1) := by decide +kernel
theorem dX12_once_9 : decode cX12_once 9 = .ok (.if_icmp .ne 8, 3) := by decide +kernel
theorem dX12_once_12 : decode cX12_once 12 = .ok (.aload_n 0, 1) := by decide +kernel
theorem dX12_once_13 : decode cX12_once 13 = .ok (.iconst 4, 1) := by decide +kernel
theorem dX12_once_14 : decode cX12_once 14 = .ok (.invokevirtual 221, 3) := by decide +kernel
theorem dX12_once_17 : decode cX12_once 17 = .ok (.aload_n 0, 1) := by decide +kernel
theorem dX12_once_18 : decode cX12_once 18 = .ok (.aload_n 0, 1) := by decide +kernel
theorem dX12_once_19 : decode cX12_once 19 = .ok (.getfield 244, 3) := by decide +kernel
theorem dX12_once_22 : decode cX12_once 22 = .ok (.iconst 1, 1) := by decide +kernel
theorem dX12_once_23 : decode cX12_once 23 = .ok (.iload_n 1, 1) := by decide +kernel
theorem dX12_once_24 : decode cX12_once 24 = .ok (.ishl, 1) := by decide +kernel
theorem dX12_once_25 : decode cX12_once 25 = .ok (.ior, 1) := by decide +kernel
theorem dX12_once_26 : decode cX12_once 26 = .ok (.putfield 244, 3) := by decide +kernel
theorem dX12_once_29 : decode cX12_once 29 = .ok (.aload_n 0, 1) := by decide +kernel
theorem dX12_once_30 : decode cX12_once 30 = .ok (.invokevirtual 224, 3) := by decide +kernel
theorem dX12_once_33 : decode cX12_once 33 = .ok (.return_, 1) := by decide +kernel
theorem dX12_readsTerminal_0 : decode cX12_readsTerminal 0 = .ok (.aload_n 0, 1) := by decide +kernel
theorem dX12_readsTerminal_1 : decode cX12_readsTerminal 1 = .ok (.invokevirtual 49, 3) := by decide +kernel
theorem dX12_readsTerminal_4 : decode cX12_readsTerminal 4 = .ok (.bipush 8, 2) := by decide +kernel
theorem dX12_readsTerminal_6 : decode cX12_readsTerminal 6 = .ok (.if_icmp .ne 8, 3) := by decide +kernel
theorem dX12_readsTerminal_9 : decode cX12_readsTerminal 9 = .ok (.aload_n 0, 1) := by decide +kernel
theorem dX12_readsTerminal_10 : decode cX12_readsTerminal 10 = .ok (.iconst 5, 1) := by decide +kernel
theorem dX12_readsTerminal_11 : decode cX12_readsTerminal 11 = .ok (.invokevirtual 221, 3) := by decide +kernel
theorem dX12_readsTerminal_14 : decode cX12_readsTerminal 14 = .ok (.aload_n 0, 1) := by decide +kernel
theorem dX12_readsTerminal_15 : decode cX12_readsTerminal 15 = .ok (.invokevirtual 224, 3) := by decide +kernel
theorem dX12_readsTerminal_18 : decode cX12_readsTerminal 18 = .ok (.aload_n 0, 1) := by decide +kernel
theorem dX12_readsTerminal_19 : decode cX12_readsTerminal 19 = .ok (.invokevirtual 235, 3) := by decide +kernel
theorem dX12_readsTerminal_22 : decode cX12_readsTerminal 22 = .ok (.ifCond .ne 8, 3) := by decide +kernel
theorem dX12_readsTerminal_25 : decode cX12_readsTerminal 25 = .ok (.aload_n 0, 1) := by decide +kernel
theorem dX12_readsTerminal_26 : decode cX12_readsTerminal 26 = .ok (.iconst 1, 1) := by decide +kernel
theorem dX12_readsTerminal_27 : decode cX12_readsTerminal 27 = .ok (.invokevirtual 221, 3) := by decide +kernel
theorem dX12_readsTerminal_30 : decode cX12_readsTerminal 30 = .ok (.aload_n 0, 1) := by decide +kernel
theorem dX12_readsTerminal_31 : decode cX12_readsTerminal 31 = .ok (.invokevirtual 204, 3) := by decide +kernel
theorem dX12_readsTerminal_34 : decode cX12_readsTerminal 34 = .ok (.ifCond .eq 16, 3) := by decide +kernel
theorem dX12_readsTerminal_37 : decode cX12_readsTerminal 37 = .ok (.aload_n 0, 1) := by decide +kernel
theorem dX12_readsTerminal_38 : decode cX12_readsTerminal 38 = .ok (.invokevirtual 238, 3) := by decide +kernel
theorem dX12_readsTerminal_41 : decode cX12_readsTerminal 41 = .ok (.iconst (-1), 1) := by decide +kernel
theorem dX12_readsTerminal_42 : decode cX12_readsTerminal 42 = .ok (.if_icmp .eq 8, 3) := by decide +kernel
theorem dX12_readsTerminal_45 : decode cX12_readsTerminal 45 = .ok (.aload_n 0, 1) := by decide +kernel
theorem dX12_readsTerminal_46 : decode cX12_readsTerminal 46 = .ok (.iconst 4, 1) := by decide +kernel
theorem dX12_readsTerminal_47 : decode cX12_readsTerminal 47 = .ok (.invokevirtual 221, 3) := by decide +kernel
theorem dX12_readsTerminal_50 : decode cX12_readsTerminal 50 = .ok (.aload_n 0, 1) := by decide +kernel
theorem dX12_readsTerminal_51 : decode cX12_readsTerminal 51 = .ok (.getfield 195, 3) := by decide +kernel
theorem dX12_readsTerminal_54 : decode cX12_readsTerminal 54 = .ok (.istore_n 1, 1) := by decide +kernel
theorem dX12_readsTerminal_55 : decode cX12_readsTerminal 55 = .ok (.aload_n 0, 1) := by decide +kernel
theorem dX12_readsTerminal_56 : decode cX12_readsTerminal 56 = .ok (.invokevirtual 224, 3) := by decide +kernel
theorem dX12_readsTerminal_59 : decode cX12_readsTerminal 59 = .ok (.aload_n 0, 1) := by decide +kernel
theorem dX12_readsTerminal_60 : decode cX12_readsTerminal 60 = .ok (.ldc 247, 2) := by decide +kernel
theorem dX12_readsTerminal_62 : decode cX12_readsTerminal 62 = .ok (.iconst 1, 1) := by decide +kernel
theorem dX12_readsTerminal_63 : decode cX12_readsTerminal 63 = .ok (.bipush 9, 2) := by decide +kernel
theorem dX12_readsTerminal_65 : decode cX12_readsTerminal 65 = .ok (.iconst 2, 1) := by decide +kernel
theorem dX12_readsTerminal_66 : decode cX12_readsTerminal 66 = .ok (.invokevirtual 249, 3) := by decide +kernel
theorem dX12_readsTerminal_69 : decode cX12_readsTerminal 69 = .ok (.istore_n 2, 1) := by decide +kernel
theorem dX12_readsTerminal_70 : decode cX12_readsTerminal 70 = .ok (.aload_n 0, 1) := by decide +kernel
theorem dX12_readsTerminal_71 : decode cX12_readsTerminal 71 = .ok (.ldc 253, 2) := by decide +kernel
theorem dX12_readsTerminal_73 : decode cX12_readsTerminal 73 = .ok (.iconst 1, 1) := by decide +kernel
theorem dX12_readsTerminal_74 : decode cX12_readsTerminal 74 = .ok (.iconst 4, 1) := by decide +kernel
theorem dX12_readsTerminal_75 : decode cX12_readsTerminal 75 = .ok (.iconst 2, 1) := by decide +kernel
theorem dX12_readsTerminal_76 : decode cX12_readsTerminal 76 = .ok (.invokevirtual 249, 3) := by decide +kernel
theorem dX12_readsTerminal_79 : decode cX12_readsTerminal 79 = .ok (.istore_n 3, 1) := by decide +kernel
theorem dX12_readsTerminal_80 : decode cX12_readsTerminal 80 = .ok (.aload_n 0, 1) := by decide +kernel
theorem dX12_readsTerminal_81 : decode cX12_readsTerminal 81 = .ok (.ldc 255, 2) := by decide +kernel
theorem dX12_readsTerminal_83 : decode cX12_readsTerminal 83 = .ok (.iconst 0, 1) := by decide +kernel
theorem dX12_readsTerminal_84 : decode cX12_readsTerminal 84 = .ok (.bipush 30, 2) := by decide +kernel
theorem dX12_readsTerminal_86 : decode cX12_readsTerminal 86 = .ok (.iconst 5, 1) := by decide +kernel
theorem dX12_readsTerminal_87 : decode cX12_readsTerminal 87 = .ok (.invokevirtual 249, 3) := by decide +kernel
theorem dX12_readsTerminal_90 : decode cX12_readsTerminal 90 = .ok (.istore 4, 2) := by decide +kernel
theorem dX12_readsTerminal_92 : decode cX12_readsTerminal 92 = .ok (.aload_n 0, 1) := by decide +kernel
theorem dX12_readsTerminal_93 : decode cX12_readsTerminal 93 = .ok (.invokevirtual 204, 3) := by decide +kernel
theorem dX12_readsTerminal_96 : decode cX12_readsTerminal 96 = .ok (.ifCond .eq 12, 3) := by decide +kernel
theorem dX12_readsTerminal_99 : decode cX12_readsTerminal 99 = .ok (.aload_n 0, 1) := by decide +kernel
theorem dX12_readsTerminal_100 : decode cX12_readsTerminal 100 = .ok (.iload_n 1, 1) := by decide +kernel
theorem dX12_readsTerminal_101 : decode cX12_readsTerminal 101 = .ok (.iload_n 2, 1) := by decide +kernel
theorem dX12_readsTerminal_102 : decode cX12_readsTerminal 102 = .ok (.iload_n 3, 1) := by decide +kernel
theorem dX12_readsTerminal_103 : decode cX12_readsTerminal 103 = .ok (.iload 4, 2) := by decide +kernel
theorem dX12_readsTerminal_105 : decode cX12_readsTerminal 105 = .ok (.invokevirtual 45, 3) := by decide +kernel
theorem dX12_readsTerminal_108 : decode cX12_readsTerminal 108 = .ok (.return_, 1) := by decide +kernel
theorem dX12_readsList_0 : decode cX12_readsList 0 = .ok (.aload_n 0, 1) := by decide +kernel
theorem dX12_readsList_1 : decode cX12_readsList 1 = .ok (.iconst 0, 1) := by decide +kernel
theorem dX12_readsList_2 : decode cX12_readsList 2 = .ok (.invokevirtual 257, 3) := by decide +kernel
theorem dX12_readsList_5 : decode cX12_readsList 5 = .ok (.aload_n 0, 1) := by decide +kernel
theorem dX12_readsList_6 : decode cX12_readsList 6 = .ok (.invokevirtual 204, 3) := by decide +kernel
theorem dX12_readsList_9 : decode cX12_readsList 9 = .ok (.istore_n 1, 1) := by decide +kernel
theorem dX12_readsList_10 : decode cX12_readsList 10 = .ok (.iload_n 1, 1) := by decide +kernel
theorem dX12_readsList_11 : decode cX12_readsList 11 = .ok (.ifCond .eq 88, 3) := by decide +kernel
theorem dX12_readsList_14 : decode cX12_readsList 14 = .ok (.aload_n 0, 1) := by decide +kernel
theorem dX12_readsList_15 : decode cX12_readsList 15 = .ok (.invokevirtual 241, 3) := by decide +kernel
theorem dX12_readsList_18 : decode cX12_readsList 18 = .ok (.istore_n 2, 1) := by decide +kernel
theorem dX12_readsList_19 : decode cX12_readsList 19 = .ok (.aload_n 0, 1) := by decide +kernel
theorem dX12_readsList_20 : decode cX12_readsList 20 = .ok (.getfield 13, 3) := by decide +kernel
theorem dX12_readsList_23 : decode cX12_readsList 23 = .ok (.iconst 1, 1) := by decide +kernel
theorem dX12_readsList_24 : decode cX12_readsList 24 = .ok (.iaload, 1) := by decide +kernel
theorem dX12_readsList_25 : decode cX12_readsList 25 = .ok (.bipush 16, 2) := by decide +kernel
theorem dX12_readsList_27 : decode cX12_readsList 27 = .ok (.if_icmp .ne 8, 3) := by decide +kernel
theorem dX12_readsList_30 : decode cX12_readsList 30 = .ok (.aload_n 0, 1) := by decide +kernel
theorem dX12_readsList_31 : decode cX12_readsList 31 = .ok (.iconst 5, 1) := by decide +kernel
theorem dX12_readsList_32 : decode cX12_readsList 32 = .ok (.invokevirtual 221, 3) := by decide +kernel
theorem dX12_readsList_35 : decode cX12_readsList 35 = .ok (.aload_n 0, 1) := by decide +kernel
theorem dX12_readsList_36 : decode cX12_readsList 36 = .ok (.invokevirtual 204, 3) := by decide +kernel
theorem dX12_readsList_39 : decode cX12_readsList 39 = .ok (.ifCond .eq 32, 3) := by decide +kernel
theorem dX12_readsList_42 : decode cX12_readsList 42 = .ok (.aload_n 0, 1) := by decide +kernel
theorem dX12_readsList_43 : decode cX12_readsList 43 = .ok (.getfield 13, 3) := by decide +kernel
theorem dX12_readsList_46 : decode cX12_readsList 46 = .ok (.bipush 30, 2) := by decide +kernel
theorem dX12_readsList_48 : decode cX12_readsList 48 = .ok (.aload_n 0, 1) := by decide +kernel
theorem dX12_readsList_49 : decode cX12_readsList 49 = .ok (.getfield 13, 3) := by decide +kernel
theorem dX12_readsList_52 : decode cX12_readsList 52 = .ok (.iconst 1, 1) := by decide +kernel
theorem dX12_readsList_53 : decode cX12_readsList 53 = .ok (.iaload, 1) := by decide +kernel
theorem dX12_readsList_54 : decode cX12_readsList 54 = .ok (.iadd, 1) := by decide +kernel
theorem dX12_readsList_55 : decode cX12_readsList 55 = .ok (.iload_n 2, 1) := by decide +kernel
theorem dX12_readsList_56 : decode cX12_readsList 56 = .ok (.iastore, 1) := by decide +kernel
theorem dX12_readsList_57 : decode cX12_readsList 57 = .ok (.aload_n 0, 1) := by decide +kernel
theorem dX12_readsList_58 : decode cX12_readsList 58 = .ok (.getfield 13, 3) := by decide +kernel
theorem dX12_readsList_61 : decode cX12_readsList 61 = .ok (.iconst 1, 1) := by decide +kernel
theorem dX12_readsList_62 : decode cX12_readsList 62 = .ok (.aload_n 0, 1) := by decide +kernel
theorem dX12_readsList_63 : decode cX12_readsList 63 = .ok (.getfield 13, 3) := by decide +kernel
theorem dX12_readsList_66 : decode cX12_readsList 66 = .ok (.iconst 1, 1) := by decide +kernel
theorem dX12_readsList_67 : decode cX12_readsList 67 = .ok (.iaload, 1) := by decide +kernel
theorem dX12_readsList_68 : decode cX12_readsList 68 = .ok (.iconst 1, 1) := by decide +kernel
theorem dX12_readsList_69 : decode cX12_readsList 69 = .ok (.iadd, 1) := by decide +kernel
theorem dX12_readsList_70 : decode cX12_readsList 70 = .ok (.iastore, 1) := by decide +kernel
theorem dX12_readsList_71 : decode cX12_readsList 71 = .ok (.aload_n 0, 1) := by decide +kernel
theorem dX12_readsList_72 : decode cX12_readsList 72 = .ok (.invokevirtual 224, 3) := by decide +kernel
theorem dX12_readsList_75 : decode cX12_readsList 75 = .ok (.aload_n 0, 1) := by decide +kernel
theorem dX12_readsList_76 : decode cX12_readsList 76 = .ok (.invokevirtual 204, 3) := by decide +kernel
theorem dX12_readsList_79 : decode cX12_readsList 79 = .ok (.ifCond .eq 15, 3) := by decide +kernel
theorem dX12_readsList_82 : decode cX12_readsList 82 = .ok (.aload_n 0, 1) := by decide +kernel
theorem dX12_readsList_83 : decode cX12_readsList 83 = .ok (.getfield 198, 3) := by decide +kernel
theorem dX12_readsList_86 : decode cX12_readsList 86 = .ok (.iconst 1, 1) := by decide +kernel
theorem dX12_readsList_87 : decode cX12_readsList 87 = .ok (.if_icmp .ne 7, 3) := by decide +kernel
theorem dX12_readsList_90 : decode cX12_readsList 90 = .ok (.iconst 1, 1) := by decide +kernel
theorem dX12_readsList_91 : decode cX12_readsList 91 = .ok (.goto 4, 3) := by decide +kernel
theorem dX12_readsList_94 : decode cX12_readsList 94 = .ok (.iconst 0, 1) := by decide +kernel
theorem dX12_readsList_95 : decode cX12_readsList 95 = .ok (.istore_n 1, 1) := by decide +kernel
theorem dX12_readsList_96 : decode cX12_readsList 96 = .ok (.goto (-86), 3) := by decide +kernel
theorem dX12_readsList_99 : decode cX12_readsList 99 = .ok (.return_, 1) := by decide +kernel
theorem dX12_readsSettings_0 : decode cX12_readsSettings 0 = .ok (.iload_n 1, 1) := by decide +kernel
theorem dX12_readsSettings_1 : decode cX12_readsSettings 1 = .ok (.istore_n 3, 1) := by decide +kernel
theorem dX12_readsSettings_2 : decode cX12_readsSettings 2 = .ok (.iload_n 3, 1) := by decide +kernel
theorem dX12_readsSettings_3 : decode cX12_readsSettings 3 = .ok (.iload_n 2, 1) := by decide +kernel
theorem dX12_readsSettings_4 : decode cX12_readsSettings 4 = .ok (.if_icmp .ge 30, 3) := by decide +kernel
theorem dX12_readsSettings_7 : decode cX12_readsSettings 7 = .ok (.aload_n 0, 1) := by decide +kernel
theorem dX12_readsSettings_8 : decode cX12_readsSettings 8 = .ok (.getfield 13, 3) := by decide +kernel
theorem dX12_readsSettings_11 : decode cX12_readsSettings 11 = .ok (.bipush 6, 2) := by decide +kernel
theorem dX12_readsSettings_13 : decode cX12_readsSettings 13 = .ok (.iload_n 3, 1) := by decide +kernel
theorem dX12_readsSettings_14 : decode cX12_readsSettings 14 = .ok (.iadd, 1) := by decide +kernel
theorem dX12_readsSettings_15 : decode cX12_readsSettings 15 = .ok (.aload_n 0, 1) := by decide +kernel
theorem dX12_readsSettings_16 : decode cX12_readsSettings 16 = .ok (.iload_n 3, 1) := by decide +kernel
theorem dX12_readsSettings_17 : decode cX12_readsSettings 17 = .ok (.invokestatic 260, 3) := by decide +kernel
theorem dX12_readsSettings_20 : decode cX12_readsSettings 20 = .ok (.iload_n 3, 1) := by decide +kernel
theorem dX12_readsSettings_21 : decode cX12_readsSettings 21 = .ok (.invokestatic 263, 3) := by decide +kernel
theorem dX12_readsSettings_24 : decode cX12_readsSettings 24 = .ok (.invokevirtual 230, 3) := by decide +kernel
theorem dX12_readsSettings_27 : decode cX12_readsSettings 27 = .ok (.iastore, 1) := by decide +kernel
theorem dX12_readsSettings_28 : decode cX12_readsSettings 28 = .ok (.iinc 3 1, 3) := by decide +kernel
theorem dX12_readsSettings_31 : decode cX12_readsSettings 31 = .ok (.goto (-29), 3) := by decide +kernel
theorem dX12_readsSettings_34 : decode cX12_readsSettings 34 = .ok (.return_, 1) := by decide +kernel
theorem dX12_readsSetupStatement_0 : decode cX12_readsSetupStatement 0 = .ok (.aload_n 0, 1) := by decide +kernel
theorem dX12_readsSetupStatement_1 : decode cX12_readsSetupStatement 1 = .ok (.ldc_w 266, 3) := by decide +kernel
theorem dX12_readsSetupStatement_4 : decode cX12_readsSetupStatement 4 = .ok (.invokevirtual 217, 3) := by decide +kernel
theorem dX12_readsSetupStatement_7 : decode cX12_readsSetupStatement 7 = .ok (.ifCond .eq 10, 3) := by decide +kernel
theorem dX12_readsSetupStatement_10 : decode cX12_readsSetupStatement 10 = .ok (.aload_n 0, 1) := by decide +kernel
theorem dX12_readsSetupStatement_11 : decode cX12_readsSetupStatement 11 = .ok (.invokevirtual 268, 3) := by decide +kernel
theorem dX12_readsSetupStatement_14 : decode cX12_readsSetupStatement 14 = .ok (.goto 112, 3) := by decide +kernel
theorem dX12_readsSetupStatement_17 : decode cX12_readsSetupStatement 17 = .ok (.aload_n 0, 1) := by decide +kernel
theorem dX12_readsSetupStatement_18 : decode cX12_readsSetupStatement 18 = .ok (.ldc_w 271, 3) := by decide +kernel
theorem dX12_readsSetupStatement_21 : decode cX12_readsSetupStatement 21 = .ok (.invokevirtual 217, 3) := by decide +kernel
theorem dX12_readsSetupStatement_24 : decode cX12_readsSetupStatement 24 = .ok (.ifCond .eq 10, 3) := by decide +kernel
theorem dX12_readsSetupStatement_27 : decode cX12_readsSetupStatement 27 = .ok (.aload_n 0, 1) := by decide +kernel
theorem dX12_readsSetupStatement_28 : decode cX12_readsSetupStatement 28 = .ok (.invokevirtual 273, 3) := by decide +kernel
theorem dX12_readsSetupStatement_31 : decode cX12_readsSetupStatement 31 = .ok (.goto 95, 3) := by decide +kernel
theorem dX12_readsSetupStatement_34 : decode cX12_readsSetupStatement 34 = .ok (.aload_n 0, 1) := by decide +kernel
theorem dX12_readsSetupStatement_35 : decode cX12_readsSetupStatement 35 = .ok (.ldc_w 276, 3) := by decide +kernel
theorem dX12_readsSetupStatement_38 : decode cX12_readsSetupStatement 38 = .ok (.invokevirtual 217, 3) := by decide +kernel
theorem dX12_readsSetupStatement_41 : decode cX12_readsSetupStatement 41 = .ok (.ifCond .eq 17, 3) := by decide +kernel
theorem dX12_readsSetupStatement_44 : decode cX12_readsSetupStatement 44 = .ok (.aload_n 0, 1) := by decide +kernel
theorem dX12_readsSetupStatement_45 : decode cX12_readsSetupStatement 45 = .ok (.iconst 1, 1) := by decide +kernel
theorem dX12_readsSetupStatement_46 : decode cX12_readsSetupStatement 46 = .ok (.invokevirtual 257, 3) := by decide +kernel
theorem dX12_readsSetupStatement_49 : decode cX12_readsSetupStatement 49 = .ok (.aload_n 0, 1) := by decide +kernel
theorem dX12_readsSetupStatement_50 : decode cX12_readsSetupStatement 50 = .ok (.iconst 0, 1) := by decide +kernel
theorem dX12_readsSetupStatement_51 : decode cX12_readsSetupStatement 51 = .ok (.iconst 4, 1) := by decide +kernel
theorem dX12_readsSetupStatement_52 : decode cX12_readsSetupStatement 52 = .ok (.invokevirtual 278, 3) := by decide +kernel
theorem dX12_readsSetupStatement_55 : decode cX12_readsSetupStatement 55 = .ok (.goto 71, 3) := by decide +kernel
theorem dX12_readsSetupStatement_58 : decode cX12_readsSetupStatement 58 = .ok (.aload_n 0, 1) := by decide +kernel
theorem dX12_readsSetupStatement_59 : decode cX12_readsSetupStatement 59 = .ok (.ldc_w 281, 3) := by decide +kernel
theorem dX12_readsSetupStatement_62 : decode cX12_readsSetupStatement 62 = .ok (.invokevirtual 217, 3) := by decide +kernel
theorem dX12_readsSetupStatement_65 : decode cX12_readsSetupStatement 65 = .ok (.ifCond .eq 17, 3) := by decide +kernel
theorem dX12_readsSetupStatement_68 : decode cX12_readsSetupStatement 68 = .ok (.aload_n 0, 1) := by decide +kernel
theorem dX12_readsSetupStatement_69 : decode cX12_readsSetupStatement 69 = .ok (.iconst 2, 1) := by decide +kernel
theorem dX12_readsSetupStatement_70 : decode cX12_readsSetupStatement 70 = .ok (.invokevirtual 257, 3) := by decide +kernel
theorem dX12_readsSetupStatement_73 : decode cX12_readsSetupStatement 73 = .ok (.aload_n 0, 1) := by decide +kernel
theorem dX12_readsSetupStatement_74 : decode cX12_readsSetupStatement 74 = .ok (.iconst 4, 1) := by decide +kernel
theorem dX12_readsSetupStatement_75 : decode cX12_readsSetupStatement 75 = .ok (.iconst 5, 1) := by decide +kernel
theorem dX12_readsSetupStatement_76 : decode cX12_readsSetupStatement 76 = .ok (.invokevirtual 278, 3) := by decide +kernel
theorem dX12_readsSetupStatement_79 : decode cX12_readsSetupStatement 79 = .ok (.goto 47, 3) := by decide +kernel
theorem dX12_readsSetupStatement_82 : decode cX12_readsSetupStatement 82 = .ok (.aload_n 0, 1) := by decide +kernel
theorem dX12_readsSetupStatement_83 : decode cX12_readsSetupStatement 83 = .ok (.ldc_w 283, 3) := by decide +kernel
theorem dX12_readsSetupStatement_86 : decode cX12_readsSetupStatement 86 = .ok (.invokevirtual 217, 3) := by decide +kernel
theorem dX12_readsSetupStatement_89 : decode cX12_readsSetupStatement 89 = .ok (.ifCond .eq 32, 3) := by decide +kernel
theorem dX12_readsSetupStatement_92 : decode cX12_readsSetupStatement 92 = .ok (.aload_n 0, 1) := by decide +kernel
theorem dX12_readsSetupStatement_93 : decode cX12_readsSetupStatement 93 = .ok (.iconst 3, 1) := by decide +kernel
theorem dX12_readsSetupStatement_94 : decode cX12_readsSetupStatement 94 = .ok (.invokevirtual 257, 3) := by decide +kernel
theorem dX12_readsSetupStatement_97 : decode cX12_readsSetupStatement 97 = .ok (.aload_n 0, 1) := by decide +kernel
theorem dX12_readsSetupStatement_98 : decode cX12_readsSetupStatement 98 = .ok (.iconst 5, 1) := by decide +kernel
theorem dX12_readsSetupStatement_99 : decode cX12_readsSetupStatement 99 = .ok (.bipush 6, 2) := by decide +kernel
theorem dX12_readsSetupStatement_101 : decode cX12_readsSetupStatement 101 = .ok (.invokevirtual 278, 3) := by decide +kernel
theorem dX12_readsSetupStatement_104 : decode cX12_readsSetupStatement 104 = .ok (.aload_n 0, 1) := by decide +kernel
theorem dX12_readsSetupStatement_105 : decode cX12_readsSetupStatement 105 = .ok (.getfield 13, 3) := by decide +kernel
theorem dX12_readsSetupStatement_108 : decode cX12_readsSetupStatement 108 = .ok (.iconst 5, 1) := by decide +kernel
theorem dX12_readsSetupStatement_109 : decode cX12_readsSetupStatement 109 = .ok (.aload_n 0, 1) := by decide +kernel
theorem dX12_readsSetupStatement_110 : decode cX12_readsSetupStatement 110 = .ok (.iconst 0, 1) := by decide +kernel
theorem dX12_readsSetupStatement_111 : decode cX12_readsSetupStatement 111 = .ok (.sipush 9999, 3) := by decide +kernel
theorem dX12_readsSetupStatement_114 : decode cX12_readsSetupStatement 114 = .ok (.invokevirtual 230, 3) := by decide +kernel
theorem dX12_readsSetupStatement_117 : decode cX12_readsSetupStatement 117 = .ok (.iastore, 1) := by decide +kernel
theorem dX12_readsSetupStatement_118 : decode cX12_readsSetupStatement 118 = .ok (.goto 8, 3) := by decide +kernel
theorem dX12_readsSetupStatement_121 : decode cX12_readsSetupStatement 121 = .ok (.aload_n 0, 1) := by decide +kernel
theorem dX12_readsSetupStatement_122 : decode cX12_readsSetupStatement 122 = .ok (.iconst 1, 1) := by decide +kernel
theorem dX12_readsSetupStatement_123 : decode cX12_readsSetupStatement 123 = .ok (.invokevirtual 221, 3) := by decide +kernel
theorem dX12_readsSetupStatement_126 : decode cX12_readsSetupStatement 126 = .ok (.aload_n 0, 1) := by decide +kernel
theorem dX12_readsSetupStatement_127 : decode cX12_readsSetupStatement 127 = .ok (.invokevirtual 285, 3) := by decide +kernel
theorem dX12_readsSetupStatement_130 : decode cX12_readsSetupStatement 130 = .ok (.return_, 1) := by decide +kernel
theorem dX12_loadLine_0 : decode cX12_loadLine 0 = .ok (.aload_n 0, 1) := by decide +kernel
theorem dX12_loadLine_1 : decode cX12_loadLine 1 = .ok (.getfield 13, 3) := by decide +kernel
theorem dX12_loadLine_4 : decode cX12_loadLine 4 = .ok (.iconst 0, 1) := by decide +kernel
theorem dX12_loadLine_5 : decode cX12_loadLine 5 = .ok (.aload_n 0, 1) := by decide +kernel
theorem dX12_loadLine_6 : decode cX12_loadLine 6 = .ok (.getfield 17, 3) := by decide +kernel
theorem dX12_loadLine_9 : decode cX12_loadLine 9 = .ok (.iconst 0, 1) := by decide +kernel
theorem dX12_loadLine_10 : decode cX12_loadLine 10 = .ok (.sipush 800, 3) := by decide +kernel
theorem dX12_loadLine_13 : decode cX12_loadLine 13 = .ok (.invokestatic 149, 3) := by decide +kernel
theorem dX12_loadLine_16 : decode cX12_loadLine 16 = .ok (.aload_n 0, 1) := by decide +kernel
theorem dX12_loadLine_17 : decode cX12_loadLine 17 = .ok (.invokevirtual 42, 3) := by decide +kernel
theorem dX12_loadLine_20 : decode cX12_loadLine 20 = .ok (.aload_n 0, 1) := by decide +kernel
theorem dX12_loadLine_21 : decode cX12_loadLine 21 = .ok (.iconst 0, 1) := by decide +kernel
theorem dX12_loadLine_22 : decode cX12_loadLine 22 = .ok (.putfield 244, 3) := by decide +kernel
theorem dX12_loadLine_25 : decode cX12_loadLine 25 = .ok (.aload_n 0, 1) := by decide +kernel
theorem dX12_loadLine_26 : decode cX12_loadLine 26 = .ok (.invokevirtual 288, 3) := by decide +kernel
theorem dX12_loadLine_29 : decode cX12_loadLine 29 = .ok (.aload_n 0, 1) := by decide +kernel
theorem dX12_loadLine_30 : decode cX12_loadLine 30 = .ok (.invokevirtual 204, 3) := by decide +kernel
theorem dX12_loadLine_33 : decode cX12_loadLine 33 = .ok (.ifCond .eq 17, 3) := by decide +kernel
theorem dX12_loadLine_36 : decode cX12_loadLine 36 = .ok (.aload_n 0, 1) := by decide +kernel
theorem dX12_loadLine_37 : decode cX12_loadLine 37 = .ok (.getfield 198, 3) := by decide +kernel
theorem dX12_loadLine_40 : decode cX12_loadLine 40 = .ok (.ifCond .eq 10, 3) := by decide +kernel
theorem dX12_loadLine_43 : decode cX12_loadLine 43 = .ok (.aload_n 0, 1) := by decide +kernel
theorem dX12_loadLine_44 : decode cX12_loadLine 44 = .ok (.invokevirtual 291, 3) := by decide +kernel
theorem dX12_loadLine_47 : decode cX12_loadLine 47 = .ok (.goto (-18), 3) := by decide +kernel
theorem dX12_loadLine_50 : decode cX12_loadLine 50 = .ok (.aload_n 0, 1) := by decide +kernel
theorem dX12_loadLine_51 : decode cX12_loadLine 51 = .ok (.invokevirtual 49, 3) := by decide +kernel
theorem dX12_loadLine_54 : decode cX12_loadLine 54 = .ok (.ifCond .ne 8, 3) := by decide +kernel
theorem dX12_loadLine_57 : decode cX12_loadLine 57 = .ok (.aload_n 0, 1) := by decide +kernel
theorem dX12_loadLine_58 : decode cX12_loadLine 58 = .ok (.iconst 1, 1) := by decide +kernel
theorem dX12_loadLine_59 : decode cX12_loadLine 59 = .ok (.invokevirtual 221, 3) := by decide +kernel
theorem dX12_loadLine_62 : decode cX12_loadLine 62 = .ok (.aload_n 0, 1) := by decide +kernel
theorem dX12_loadLine_63 : decode cX12_loadLine 63 = .ok (.iconst 0, 1) := by decide +kernel
theorem dX12_loadLine_64 : decode cX12_loadLine 64 = .ok (.putfield 174, 3) := by decide +kernel
theorem dX12_loadLine_67 : decode cX12_loadLine 67 = .ok (.aload_n 0, 1) := by decide +kernel
theorem dX12_loadLine_68 : decode cX12_loadLine 68 = .ok (.invokevirtual 204, 3) := by decide +kernel
theorem dX12_loadLine_71 : decode cX12_loadLine 71 = .ok (.ifCond .ne 21, 3) := by decide +kernel
theorem dX12_loadLine_74 : decode cX12_loadLine 74 = .ok (.aload_n 0, 1) := by decide +kernel
theorem dX12_loadLine_75 : decode cX12_loadLine 75 = .ok (.getfield 17, 3) := by decide +kernel
theorem dX12_loadLine_78 : decode cX12_loadLine 78 = .ok (.iconst 0, 1) := by decide +kernel
theorem dX12_loadLine_79 : decode cX12_loadLine 79 = .ok (.aload_n 0, 1) := by decide +kernel
theorem dX12_loadLine_80 : decode cX12_loadLine 80 = .ok (.getfield 13, 3) := by decide +kernel
theorem dX12_loadLine_83 : decode cX12_loadLine 83 = .ok (.iconst 0, 1) := by decide +kernel
theorem dX12_loadLine_84 : decode cX12_loadLine 84 = .ok (.sipush 800, 3) := by decide +kernel
theorem dX12_loadLine_87 : decode cX12_loadLine 87 = .ok (.invokestatic 149, 3) := by decide +kernel
theorem dX12_loadLine_90 : decode cX12_loadLine 90 = .ok (.iconst (-1), 1) := by decide +kernel
theorem dX12_loadLine_91 : decode cX12_loadLine 91 = .ok (.ireturn, 1) := by decide +kernel
theorem dX12_loadLine_92 : decode cX12_loadLine 92 = .ok (.aload_n 0, 1) := by decide +kernel
theorem dX12_loadLine_93 : decode cX12_loadLine 93 = .ok (.iconst 0, 1) := by decide +kernel
theorem dX12_loadLine_94 : decode cX12_loadLine 94 = .ok (.putfield 294, 3) := by decide +kernel
theorem dX12_loadLine_97 : decode cX12_loadLine 97 = .ok (.aload_n 0, 1) := by decide +kernel
theorem dX12_loadLine_98 : decode cX12_loadLine 98 = .ok (.iconst 0, 1) := by decide +kernel
theorem dX12_loadLine_99 : decode cX12_loadLine 99 = .ok (.putfield 297, 3) := by decide +kernel
theorem dX12_loadLine_102 : decode cX12_loadLine 102 = .ok (.aload_n 0, 1) := by decide +kernel
theorem dX12_loadLine_103 : decode cX12_loadLine 103 = .ok (.invokevirtual 49, 3) := by decide +kernel
theorem dX12_loadLine_106 : decode cX12_loadLine 106 = .ok (.ireturn, 1) := by decide +kernel
theorem dX12_adds_0 : decode cX12_adds 0 = .ok (.aload_n 0, 1) := by decide +kernel
theorem dX12_adds_1 : decode cX12_adds 1 = .ok (.invokevirtual 204, 3) := by decide +kernel
theorem dX12_adds_4 : decode cX12_adds 4 = .ok (.ifCond .ne 4, 3) := by decide +kernel
theorem dX12_adds_7 : decode cX12_adds 7 = .ok (.return_, 1) := by decide +kernel
theorem dX12_adds_8 : decode cX12_adds 8 = .ok (.iconst 4, 1) := by decide +kernel
theorem dX12_adds_9 : decode cX12_adds 9 = .ok (.aload_n 0, 1) := by decide +kernel
theorem dX12_adds_10 : decode cX12_adds 10 = .ok (.getfield 301, 3) := by decide +kernel
theorem dX12_adds_13 : decode cX12_adds 13 = .ok (.imul, 1) := by decide +kernel
theorem dX12_adds_14 : decode cX12_adds 14 = .ok (.istore 5, 2) := by decide +kernel
theorem dX12_adds_16 : decode cX12_adds 16 = .ok (.aload_n 0, 1) := by decide +kernel
theorem dX12_adds_17 : decode cX12_adds 17 = .ok (.getfield 33, 3) := by decide +kernel
theorem dX12_adds_20 : decode cX12_adds 20 = .ok (.iload 5, 2) := by decide +kernel
theorem dX12_adds_22 : decode cX12_adds 22 = .ok (.iload_n 1, 1) := by decide +kernel
theorem dX12_adds_23 : decode cX12_adds 23 = .ok (.iastore, 1) := by decide +kernel
theorem dX12_adds_24 : decode cX12_adds 24 = .ok (.aload_n 0, 1) := by decide +kernel
theorem dX12_adds_25 : decode cX12_adds 25 = .ok (.getfield 33, 3) := by decide +kernel
theorem dX12_adds_28 : decode cX12_adds 28 = .ok (.iload 5, 2) := by decide +kernel
theorem dX12_adds_30 : decode cX12_adds 30 = .ok (.iconst 1, 1) := by decide +kernel
theorem dX12_adds_31 : decode cX12_adds 31 = .ok (.iadd, 1) := by decide +kernel
theorem dX12_adds_32 : decode cX12_adds 32 = .ok (.iload_n 2, 1) := by decide +kernel
theorem dX12_adds_33 : decode cX12_adds 33 = .ok (.iastore, 1) := by decide +kernel
theorem dX12_adds_34 : decode cX12_adds 34 = .ok (.aload_n 0, 1) := by decide +kernel
theorem dX12_adds_35 : decode cX12_adds 35 = .ok (.getfield 33, 3) := by decide +kernel
theorem dX12_adds_38 : decode cX12_adds 38 = .ok (.iload 5, 2) := by decide +kernel
theorem dX12_adds_40 : decode cX12_adds 40 = .ok (.iconst 2, 1) := by decide +kernel
theorem dX12_adds_41 : decode cX12_adds 41 = .ok (.iadd, 1) := by decide +kernel
theorem dX12_adds_42 : decode cX12_adds 42 = .ok (.iload_n 3, 1) := by decide +kernel
theorem dX12_adds_43 : decode cX12_adds 43 = .ok (.iastore, 1) := by decide +kernel
theorem dX12_adds_44 : decode cX12_adds 44 = .ok (.aload_n 0, 1) := by decide +kernel
theorem dX12_adds_45 : decode cX12_adds 45 = .ok (.getfield 33, 3) := by decide +kernel
theorem dX12_adds_48 : decode cX12_adds 48 = .ok (.iload 5, 2) := by decide +kernel
theorem dX12_adds_50 : decode cX12_adds 50 = .ok (.iconst 3, 1) := by decide +kernel
theorem dX12_adds_51 : decode cX12_adds 51 = .ok (.iadd, 1) := by decide +kernel
theorem dX12_adds_52 : decode cX12_adds 52 = .ok (.iload 4, 2) := by decide +kernel
theorem dX12_adds_54 : decode cX12_adds 54 = .ok (.iastore, 1) := by decide +kernel
theorem dX12_adds_55 : decode cX12_adds 55 = .ok (.aload_n 0, 1) := by decide +kernel
theorem dX12_adds_56 : decode cX12_adds 56 = .ok (.aload_n 0, 1) := by decide +kernel
theorem dX12_adds_57 : decode cX12_adds 57 = .ok (.getfield 301, 3) := by decide +kernel
theorem dX12_adds_60 : decode cX12_adds 60 = .ok (.iconst 1, 1) := by decide +kernel
theorem dX12_adds_61 : decode cX12_adds 61 = .ok (.iadd, 1) := by decide +kernel
theorem dX12_adds_62 : decode cX12_adds 62 = .ok (.putfield 301, 3) := by decide +kernel
theorem dX12_adds_65 : decode cX12_adds 65 = .ok (.return_, 1) := by decide +kernel
theorem dX12_kindHere_0 : decode cX12_kindHere 0 = .ok (.aload_n 0, 1) := by decide +kernel
theorem dX12_kindHere_1 : decode cX12_kindHere 1 = .ok (.ldc_w 304, 3) := by decide +kernel
theorem dX12_kindHere_4 : decode cX12_kindHere 4 = .ok (.invokevirtual 217, 3) := by decide +kernel
theorem dX12_kindHere_7 : decode cX12_kindHere 7 = .ok (.ifCond .eq 7, 3) := by decide +kernel
theorem dX12_kindHere_10 : decode cX12_kindHere 10 = .ok (.iconst 0, 1) := by decide +kernel
theorem dX12_kindHere_11 : decode cX12_kindHere 11 = .ok (.goto 74, 3) := by decide +kernel
theorem dX12_kindHere_14 : decode cX12_kindHere 14 = .ok (.aload_n 0, 1) := by decide +kernel
theorem dX12_kindHere_15 : decode cX12_kindHere 15 = .ok (.ldc_w 306, 3) := by decide +kernel
theorem dX12_kindHere_18 : decode cX12_kindHere 18 = .ok (.invokevirtual 217, 3) := by decide +kernel
theorem dX12_kindHere_21 : decode cX12_kindHere 21 = .ok (.ifCond .eq 7, 3) := by decide +kernel
theorem dX12_kindHere_24 : decode cX12_kindHere 24 = .ok (.iconst 1, 1) := by decide +kernel
theorem dX12_kindHere_25 : decode cX12_kindHere 25 = .ok (.goto 60, 3) := by decide +kernel
theorem dX12_kindHere_28 : decode cX12_kindHere 28 = .ok (.aload_n 0, 1) := by decide +kernel
theorem dX12_kindHere_29 : decode cX12_kindHere 29 = .ok (.ldc_w 308, 3) := by decide +kernel
theorem dX12_kindHere_32 : decode cX12_kindHere 32 = .ok (.invokevirtual 217, 3) := by decide +kernel
theorem dX12_kindHere_35 : decode cX12_kindHere 35 = .ok (.ifCond .eq 7, 3) := by decide +kernel
theorem dX12_kindHere_38 : decode cX12_kindHere 38 = .ok (.iconst 2, 1) := by decide +kernel
theorem dX12_kindHere_39 : decode cX12_kindHere 39 = .ok (.goto 46, 3) := by decide +kernel
theorem dX12_kindHere_42 : decode cX12_kindHere 42 = .ok (.aload_n 0, 1) := by decide +kernel
theorem dX12_kindHere_43 : decode cX12_kindHere 43 = .ok (.ldc_w 310, 3) := by decide +kernel
theorem dX12_kindHere_46 : decode cX12_kindHere 46 = .ok (.invokevirtual 217, 3) := by decide +kernel
theorem dX12_kindHere_49 : decode cX12_kindHere 49 = .ok (.ifCond .eq 7, 3) := by decide +kernel
theorem dX12_kindHere_52 : decode cX12_kindHere 52 = .ok (.iconst 3, 1) := by decide +kernel
theorem dX12_kindHere_53 : decode cX12_kindHere 53 = .ok (.goto 32, 3) := by decide +kernel
theorem dX12_kindHere_56 : decode cX12_kindHere 56 = .ok (.aload_n 0, 1) := by decide +kernel
theorem dX12_kindHere_57 : decode cX12_kindHere 57 = .ok (.ldc_w 311, 3) := by decide +kernel
theorem dX12_kindHere_60 : decode cX12_kindHere 60 = .ok (.invokevirtual 217, 3) := by decide +kernel
theorem dX12_kindHere_63 : decode cX12_kindHere 63 = .ok (.ifCond .eq 7, 3) := by decide +kernel
theorem dX12_kindHere_66 : decode cX12_kindHere 66 = .ok (.iconst 4, 1) := by decide +kernel
theorem dX12_kindHere_67 : decode cX12_kindHere 67 = .ok (.goto 18, 3) := by decide +kernel
theorem dX12_kindHere_70 : decode cX12_kindHere 70 = .ok (.aload_n 0, 1) := by decide +kernel
theorem dX12_kindHere_71 : decode cX12_kindHere 71 = .ok (.ldc_w 313, 3) := by decide +kernel
theorem dX12_kindHere_74 : decode cX12_kindHere 74 = .ok (.invokevirtual 217, 3) := by decide +kernel
theorem dX12_kindHere_77 : decode cX12_kindHere 77 = .ok (.ifCond .eq 7, 3) := by decide +kernel
theorem dX12_kindHere_80 : decode cX12_kindHere 80 = .ok (.iconst 5, 1) := by decide +kernel
theorem dX12_kindHere_81 : decode cX12_kindHere 81 = .ok (.goto 4, 3) := by decide +kernel
theorem dX12_kindHere_84 : decode cX12_kindHere 84 = .ok (.iconst (-1), 1) := by decide +kernel
theorem dX12_kindHere_85 : decode cX12_kindHere 85 = .ok (.ireturn, 1) := by decide +kernel
theorem dX12_readsPost_0 : decode cX12_readsPost 0 = .ok (.aload_n 0, 1) := by decide +kernel
theorem dX12_readsPost_1 : decode cX12_readsPost 1 = .ok (.invokevirtual 315, 3) := by decide +kernel
theorem dX12_readsPost_4 : decode cX12_readsPost 4 = .ok (.istore_n 1, 1) := by decide +kernel
theorem dX12_readsPost_5 : decode cX12_readsPost 5 = .ok (.aload_n 0, 1) := by decide +kernel
theorem dX12_readsPost_6 : decode cX12_readsPost 6 = .ok (.invokevirtual 224, 3) := by decide +kernel
theorem dX12_readsPost_9 : decode cX12_readsPost 9 = .ok (.aload_n 0, 1) := by decide +kernel
theorem dX12_readsPost_10 : decode cX12_readsPost 10 = .ok (.invokevirtual 204, 3) := by decide +kernel
theorem dX12_readsPost_13 : decode cX12_readsPost 13 = .ok (.ifCond .eq 10, 3) := by decide +kernel
theorem dX12_readsPost_16 : decode cX12_readsPost 16 = .ok (.aload_n 0, 1) := by decide +kernel
theorem dX12_readsPost_17 : decode cX12_readsPost 17 = .ok (.invokevirtual 315, 3) := by decide +kernel
theorem dX12_readsPost_20 : decode cX12_readsPost 20 = .ok (.goto 4, 3) := by decide +kernel
theorem dX12_readsPost_23 : decode cX12_readsPost 23 = .ok (.iconst 0, 1) := by decide +kernel
theorem dX12_readsPost_24 : decode cX12_readsPost 24 = .ok (.istore_n 2, 1) := by decide +kernel
theorem dX12_readsPost_25 : decode cX12_readsPost 25 = .ok (.aload_n 0, 1) := by decide +kernel
theorem dX12_readsPost_26 : decode cX12_readsPost 26 = .ok (.invokevirtual 204, 3) := by decide +kernel
theorem dX12_readsPost_29 : decode cX12_readsPost 29 = .ok (.ifCond .eq 13, 3) := by decide +kernel
theorem dX12_readsPost_32 : decode cX12_readsPost 32 = .ok (.iload_n 2, 1) := by decide +kernel
theorem dX12_readsPost_33 : decode cX12_readsPost 33 = .ok (.iload_n 1, 1) := by decide +kernel
theorem dX12_readsPost_34 : decode cX12_readsPost 34 = .ok (.if_icmp .ne 8, 3) := by decide +kernel
theorem dX12_readsPost_37 : decode cX12_readsPost 37 = .ok (.aload_n 0, 1) := by decide +kernel
theorem dX12_readsPost_38 : decode cX12_readsPost 38 = .ok (.iconst 4, 1) := by decide +kernel
theorem dX12_readsPost_39 : decode cX12_readsPost 39 = .ok (.invokevirtual 221, 3) := by decide +kernel
theorem dX12_readsPost_42 : decode cX12_readsPost 42 = .ok (.aload_n 0, 1) := by decide +kernel
theorem dX12_readsPost_43 : decode cX12_readsPost 43 = .ok (.invokevirtual 224, 3) := by decide +kernel
theorem dX12_readsPost_46 : decode cX12_readsPost 46 = .ok (.aload_n 0, 1) := by decide +kernel
theorem dX12_readsPost_47 : decode cX12_readsPost 47 = .ok (.iconst 1, 1) := by decide +kernel
theorem dX12_readsPost_48 : decode cX12_readsPost 48 = .ok (.bipush 20, 2) := by decide +kernel
theorem dX12_readsPost_50 : decode cX12_readsPost 50 = .ok (.invokevirtual 230, 3) := by decide +kernel
theorem dX12_readsPost_53 : decode cX12_readsPost 53 = .ok (.istore_n 3, 1) := by decide +kernel
theorem dX12_readsPost_54 : decode cX12_readsPost 54 = .ok (.aload_n 0, 1) := by decide +kernel
theorem dX12_readsPost_55 : decode cX12_readsPost 55 = .ok (.iconst 0, 1) := by decide +kernel
theorem dX12_readsPost_56 : decode cX12_readsPost 56 = .ok (.iload_n 1, 1) := by decide +kernel
theorem dX12_readsPost_57 : decode cX12_readsPost 57 = .ok (.iload_n 2, 1) := by decide +kernel
theorem dX12_readsPost_58 : decode cX12_readsPost 58 = .ok (.iload_n 3, 1) := by decide +kernel
theorem dX12_readsPost_59 : decode cX12_readsPost 59 = .ok (.invokevirtual 318, 3) := by decide +kernel
theorem dX12_readsPost_62 : decode cX12_readsPost 62 = .ok (.return_, 1) := by decide +kernel
theorem dX12_readsStatement_0 : decode cX12_readsStatement 0 = .ok (.aload_n 0, 1) := by decide +kernel
theorem dX12_readsStatement_1 : decode cX12_readsStatement 1 = .ok (.invokevirtual 321, 3) := by decide +kernel
theorem dX12_readsStatement_4 : decode cX12_readsStatement 4 = .ok (.istore_n 1, 1) := by decide +kernel
theorem dX12_readsStatement_5 : decode cX12_readsStatement 5 = .ok (.iload_n 1, 1) := by decide +kernel
theorem dX12_readsStatement_6 : decode cX12_readsStatement 6 = .ok (.iconst (-1), 1) := by decide +kernel
theorem dX12_readsStatement_7 : decode cX12_readsStatement 7 = .ok (.if_icmp .ne 8, 3) := by decide +kernel
theorem dX12_readsStatement_10 : decode cX12_readsStatement 10 = .ok (.aload_n 0, 1) := by decide +kernel
theorem dX12_readsStatement_11 : decode cX12_readsStatement 11 = .ok (.iconst 1, 1) := by decide +kernel
theorem dX12_readsStatement_12 : decode cX12_readsStatement 12 = .ok (.invokevirtual 221, 3) := by decide +kernel
theorem dX12_readsStatement_15 : decode cX12_readsStatement 15 = .ok (.aload_n 0, 1) := by decide +kernel
theorem dX12_readsStatement_16 : decode cX12_readsStatement 16 = .ok (.getfield 301, 3) := by decide +kernel
theorem dX12_readsStatement_19 : decode cX12_readsStatement 19 = .ok (.bipush 30, 2) := by decide +kernel
theorem dX12_readsStatement_21 : decode cX12_readsStatement 21 = .ok (.if_icmp .ne 8, 3) := by decide +kernel
theorem dX12_readsStatement_24 : decode cX12_readsStatement 24 = .ok (.aload_n 0, 1) := by decide +kernel
theorem dX12_readsStatement_25 : decode cX12_readsStatement 25 = .ok (.iconst 5, 1) := by decide +kernel
theorem dX12_readsStatement_26 : decode cX12_readsStatement 26 = .ok (.invokevirtual 221, 3) := by decide +kernel
theorem dX12_readsStatement_29 : decode cX12_readsStatement 29 = .ok (.aload_n 0, 1) := by decide +kernel
theorem dX12_readsStatement_30 : decode cX12_readsStatement 30 = .ok (.invokevirtual 224, 3) := by decide +kernel
theorem dX12_readsStatement_33 : decode cX12_readsStatement 33 = .ok (.iload_n 1, 1) := by decide +kernel
theorem dX12_readsStatement_34 : decode cX12_readsStatement 34 = .ok (.ifCond .ne 10, 3) := by decide +kernel
theorem dX12_readsStatement_37 : decode cX12_readsStatement 37 = .ok (.aload_n 0, 1) := by decide +kernel
theorem dX12_readsStatement_38 : decode cX12_readsStatement 38 = .ok (.invokevirtual 324, 3) := by decide +kernel
theorem dX12_readsStatement_41 : decode cX12_readsStatement 41 = .ok (.goto 58, 3) := by decide +kernel
theorem dX12_readsStatement_44 : decode cX12_readsStatement 44 = .ok (.iload_n 1, 1) := by decide +kernel
theorem dX12_readsStatement_45 : decode cX12_readsStatement 45 = .ok (.iconst 3, 1) := by decide +kernel
theorem dX12_readsStatement_46 : decode cX12_readsStatement 46 = .ok (.if_icmp .ne 20, 3) := by decide +kernel
theorem dX12_readsStatement_49 : decode cX12_readsStatement 49 = .ok (.aload_n 0, 1) := by decide +kernel
theorem dX12_readsStatement_50 : decode cX12_readsStatement 50 = .ok (.iconst 3, 1) := by decide +kernel
theorem dX12_readsStatement_51 : decode cX12_readsStatement 51 = .ok (.aload_n 0, 1) := by decide +kernel
theorem dX12_readsStatement_52 : decode cX12_readsStatement 52 = .ok (.iconst 1, 1) := by decide +kernel
theorem dX12_readsStatement_53 : decode cX12_readsStatement 53 = .ok (.bipush 50, 2) := by decide +kernel
theorem dX12_readsStatement_55 : decode cX12_readsStatement 55 = .ok (.invokevirtual 230, 3) := by decide +kernel
theorem dX12_readsStatement_58 : decode cX12_readsStatement 58 = .ok (.iconst 0, 1) := by decide +kernel
theorem dX12_readsStatement_59 : decode cX12_readsStatement 59 = .ok (.iconst 0, 1) := by decide +kernel
theorem dX12_readsStatement_60 : decode cX12_readsStatement 60 = .ok (.invokevirtual 318, 3) := by decide +kernel
theorem dX12_readsStatement_63 : decode cX12_readsStatement 63 = .ok (.goto 36, 3) := by decide +kernel
theorem dX12_readsStatement_66 : decode cX12_readsStatement 66 = .ok (.iload_n 1, 1) := by decide +kernel
theorem dX12_readsStatement_67 : decode cX12_readsStatement 67 = .ok (.iconst 5, 1) := by decide +kernel
theorem dX12_readsStatement_68 : decode cX12_readsStatement 68 = .ok (.if_icmp .ne 20, 3) := by decide +kernel
theorem dX12_readsStatement_71 : decode cX12_readsStatement 71 = .ok (.aload_n 0, 1) := by decide +kernel
theorem dX12_readsStatement_72 : decode cX12_readsStatement 72 = .ok (.iconst 5, 1) := by decide +kernel
theorem dX12_readsStatement_73 : decode cX12_readsStatement 73 = .ok (.aload_n 0, 1) := by decide +kernel
theorem dX12_readsStatement_74 : decode cX12_readsStatement 74 = .ok (.iconst 0, 1) := by decide +kernel
theorem dX12_readsStatement_75 : decode cX12_readsStatement 75 = .ok (.bipush 15, 2) := by decide +kernel
theorem dX12_readsStatement_77 : decode cX12_readsStatement 77 = .ok (.invokevirtual 230, 3) := by decide +kernel
theorem dX12_readsStatement_80 : decode cX12_readsStatement 80 = .ok (.iconst 0, 1) := by decide +kernel
theorem dX12_readsStatement_81 : decode cX12_readsStatement 81 = .ok (.iconst 0, 1) := by decide +kernel
theorem dX12_readsStatement_82 : decode cX12_readsStatement 82 = .ok (.invokevirtual 318, 3) := by decide +kernel
theorem dX12_readsStatement_85 : decode cX12_readsStatement 85 = .ok (.goto 14, 3) := by decide +kernel
theorem dX12_readsStatement_88 : decode cX12_readsStatement 88 = .ok (.aload_n 0, 1) := by decide +kernel
theorem dX12_readsStatement_89 : decode cX12_readsStatement 89 = .ok (.iload_n 1, 1) := by decide +kernel
theorem dX12_readsStatement_90 : decode cX12_readsStatement 90 = .ok (.aload_n 0, 1) := by decide +kernel
theorem dX12_readsStatement_91 : decode cX12_readsStatement 91 = .ok (.invokevirtual 327, 3) := by decide +kernel
theorem dX12_readsStatement_94 : decode cX12_readsStatement 94 = .ok (.iconst 0, 1) := by decide +kernel
theorem dX12_readsStatement_95 : decode cX12_readsStatement 95 = .ok (.iconst 0, 1) := by decide +kernel
theorem dX12_readsStatement_96 : decode cX12_readsStatement 96 = .ok (.invokevirtual 318, 3) := by decide +kernel
theorem dX12_readsStatement_99 : decode cX12_readsStatement 99 = .ok (.aload_n 0, 1) := by decide +kernel
theorem dX12_readsStatement_100 : decode cX12_readsStatement 100 = .ok (.invokevirtual 285, 3) := by decide +kernel
theorem dX12_readsStatement_103 : decode cX12_readsStatement 103 = .ok (.return_, 1) := by decide +kernel
theorem dX12_postsNow_0 : decode cX12_postsNow 0 = .ok (.aload_n 0, 1) := by decide +kernel
theorem dX12_postsNow_1 : decode cX12_postsNow 1 = .ok (.getfield 13, 3) := by decide +kernel
theorem dX12_postsNow_4 : decode cX12_postsNow 4 = .ok (.iconst 2, 1) := by decide +kernel
theorem dX12_postsNow_5 : decode cX12_postsNow 5 = .ok (.iaload, 1) := by decide +kernel
theorem dX12_postsNow_6 : decode cX12_postsNow 6 = .ok (.istore 4, 2) := by decide +kernel
theorem dX12_postsNow_8 : decode cX12_postsNow 8 = .ok (.aload_n 0, 1) := by decide +kernel
theorem dX12_postsNow_9 : decode cX12_postsNow 9 = .ok (.getfield 13, 3) := by decide +kernel
theorem dX12_postsNow_12 : decode cX12_postsNow 12 = .ok (.iconst 2, 1) := by decide +kernel
theorem dX12_postsNow_13 : decode cX12_postsNow 13 = .ok (.iload 4, 2) := by decide +kernel
theorem dX12_postsNow_15 : decode cX12_postsNow 15 = .ok (.iconst 1, 1) := by decide +kernel
theorem dX12_postsNow_16 : decode cX12_postsNow 16 = .ok (.iadd, 1) := by decide +kernel
theorem dX12_postsNow_17 : decode cX12_postsNow 17 = .ok (.iastore, 1) := by decide +kernel
theorem dX12_postsNow_18 : decode cX12_postsNow 18 = .ok (.iconst 0, 1) := by decide +kernel
theorem dX12_postsNow_19 : decode cX12_postsNow 19 = .ok (.istore 5, 2) := by decide +kernel
theorem dX12_postsNow_21 : decode cX12_postsNow 21 = .ok (.iload 5, 2) := by decide +kernel
theorem dX12_postsNow_23 : decode cX12_postsNow 23 = .ok (.bipush 12, 2) := by decide +kernel
theorem dX12_postsNow_25 : decode cX12_postsNow 25 = .ok (.if_icmp .ge 18, 3) := by decide +kernel
theorem dX12_postsNow_28 : decode cX12_postsNow 28 = .ok (.aload_n 0, 1) := by decide +kernel
theorem dX12_postsNow_29 : decode cX12_postsNow 29 = .ok (.iload 4, 2) := by decide +kernel
theorem dX12_postsNow_31 : decode cX12_postsNow 31 = .ok (.iload 5, 2) := by decide +kernel
theorem dX12_postsNow_33 : decode cX12_postsNow 33 = .ok (.iconst 0, 1) := by decide +kernel
theorem dX12_postsNow_34 : decode cX12_postsNow 34 = .ok (.invokevirtual 75, 3) := by decide +kernel
theorem dX12_postsNow_37 : decode cX12_postsNow 37 = .ok (.iinc 5 1, 3) := by decide +kernel
theorem dX12_postsNow_40 : decode cX12_postsNow 40 = .ok (.goto (-19), 3) := by decide +kernel
theorem dX12_postsNow_43 : decode cX12_postsNow 43 = .ok (.aload_n 0, 1) := by decide +kernel
theorem dX12_postsNow_44 : decode cX12_postsNow 44 = .ok (.iload 4, 2) := by decide +kernel
theorem dX12_postsNow_46 : decode cX12_postsNow 46 = .ok (.iconst 0, 1) := by decide +kernel
theorem dX12_postsNow_47 : decode cX12_postsNow 47 = .ok (.iload_n 1, 1) := by decide +kernel
theorem dX12_postsNow_48 : decode cX12_postsNow 48 = .ok (.invokevirtual 75, 3) := by decide +kernel
theorem dX12_postsNow_51 : decode cX12_postsNow 51 = .ok (.aload_n 0, 1) := by decide +kernel
theorem dX12_postsNow_52 : decode cX12_postsNow 52 = .ok (.iload 4, 2) := by decide +kernel
theorem dX12_postsNow_54 : decode cX12_postsNow 54 = .ok (.iconst 1, 1) := by decide +kernel
theorem dX12_postsNow_55 : decode cX12_postsNow 55 = .ok (.iload_n 2, 1) := by decide +kernel
theorem dX12_postsNow_56 : decode cX12_postsNow 56 = .ok (.invokevirtual 75, 3) := by decide +kernel
theorem dX12_postsNow_59 : decode cX12_postsNow 59 = .ok (.aload_n 0, 1) := by decide +kernel
theorem dX12_postsNow_60 : decode cX12_postsNow 60 = .ok (.iload 4, 2) := by decide +kernel
theorem dX12_postsNow_62 : decode cX12_postsNow 62 = .ok (.iconst 2, 1) := by decide +kernel
theorem dX12_postsNow_63 : decode cX12_postsNow 63 = .ok (.iload_n 3, 1) := by decide +kernel
theorem dX12_postsNow_64 : decode cX12_postsNow 64 = .ok (.invokevirtual 75, 3) := by decide +kernel
theorem dX12_postsNow_67 : decode cX12_postsNow 67 = .ok (.aload_n 0, 1) := by decide +kernel
theorem dX12_postsNow_68 : decode cX12_postsNow 68 = .ok (.iload 4, 2) := by decide +kernel
theorem dX12_postsNow_70 : decode cX12_postsNow 70 = .ok (.iconst 4, 1) := by decide +kernel
theorem dX12_postsNow_71 : decode cX12_postsNow 71 = .ok (.aload_n 0, 1) := by decide +kernel
theorem dX12_postsNow_72 : decode cX12_postsNow 72 = .ok (.getfield 13, 3) := by decide +kernel
theorem dX12_postsNow_75 : decode cX12_postsNow 75 = .ok (.iconst 3, 1) := by decide +kernel
theorem dX12_postsNow_76 : decode cX12_postsNow 76 = .ok (.iaload, 1) := by decide +kernel
theorem dX12_postsNow_77 : decode cX12_postsNow 77 = .ok (.invokevirtual 75, 3) := by decide +kernel
theorem dX12_postsNow_80 : decode cX12_postsNow 80 = .ok (.aload_n 0, 1) := by decide +kernel
theorem dX12_postsNow_81 : decode cX12_postsNow 81 = .ok (.iload 4, 2) := by decide +kernel
theorem dX12_postsNow_83 : decode cX12_postsNow 83 = .ok (.iconst 5, 1) := by decide +kernel
theorem dX12_postsNow_84 : decode cX12_postsNow 84 = .ok (.iconst (-1), 1) := by decide +kernel
theorem dX12_postsNow_85 : decode cX12_postsNow 85 = .ok (.invokevirtual 75, 3) := by decide +kernel
theorem dX12_postsNow_88 : decode cX12_postsNow 88 = .ok (.aload_n 0, 1) := by decide +kernel
theorem dX12_postsNow_89 : decode cX12_postsNow 89 = .ok (.iload 4, 2) := by decide +kernel
theorem dX12_postsNow_91 : decode cX12_postsNow 91 = .ok (.bipush 6, 2) := by decide +kernel
theorem dX12_postsNow_93 : decode cX12_postsNow 93 = .ok (.iconst (-1), 1) := by decide +kernel
theorem dX12_postsNow_94 : decode cX12_postsNow 94 = .ok (.invokevirtual 75, 3) := by decide +kernel
theorem dX12_postsNow_97 : decode cX12_postsNow 97 = .ok (.aload_n 0, 1) := by decide +kernel
theorem dX12_postsNow_98 : decode cX12_postsNow 98 = .ok (.iload 4, 2) := by decide +kernel
theorem dX12_postsNow_100 : decode cX12_postsNow 100 = .ok (.bipush 7, 2) := by decide +kernel
theorem dX12_postsNow_102 : decode cX12_postsNow 102 = .ok (.iconst (-1), 1) := by decide +kernel
theorem dX12_postsNow_103 : decode cX12_postsNow 103 = .ok (.invokevirtual 75, 3) := by decide +kernel
theorem dX12_postsNow_106 : decode cX12_postsNow 106 = .ok (.iload_n 1, 1) := by decide +kernel
theorem dX12_postsNow_107 : decode cX12_postsNow 107 = .ok (.iconst (-1), 1) := by decide +kernel
theorem dX12_postsNow_108 : decode cX12_postsNow 108 = .ok (.if_icmp .eq 15, 3) := by decide +kernel
theorem dX12_postsNow_111 : decode cX12_postsNow 111 = .ok (.aload_n 0, 1) := by decide +kernel
theorem dX12_postsNow_112 : decode cX12_postsNow 112 = .ok (.iload 4, 2) := by decide +kernel
theorem dX12_postsNow_114 : decode cX12_postsNow 114 = .ok (.bipush 8, 2) := by decide +kernel
theorem dX12_postsNow_116 : decode cX12_postsNow 116 = .ok (.iconst 1, 1) := by decide +kernel
theorem dX12_postsNow_117 : decode cX12_postsNow 117 = .ok (.invokevirtual 75, 3) := by decide +kernel
theorem dX12_postsNow_120 : decode cX12_postsNow 120 = .ok (.iload 4, 2) := by decide +kernel
theorem dX12_postsNow_122 : decode cX12_postsNow 122 = .ok (.ireturn, 1) := by decide +kernel
theorem dX12_postsNow_123 : decode cX12_postsNow 123 = .ok (.aload_n 0, 1) := by decide +kernel
theorem dX12_postsNow_124 : decode cX12_postsNow 124 = .ok (.iload 4, 2) := by decide +kernel
theorem dX12_postsNow_126 : decode cX12_postsNow 126 = .ok (.iconst 3, 1) := by decide +kernel
theorem dX12_postsNow_127 : decode cX12_postsNow 127 = .ok (.iconst 1, 1) := by decide +kernel
theorem dX12_postsNow_128 : decode cX12_postsNow 128 = .ok (.invokevirtual 75, 3) := by decide +kernel
theorem dX12_postsNow_131 : decode cX12_postsNow 131 = .ok (.aload_n 0, 1) := by decide +kernel
theorem dX12_postsNow_132 : decode cX12_postsNow 132 = .ok (.iload 4, 2) := by decide +kernel
theorem dX12_postsNow_134 : decode cX12_postsNow 134 = .ok (.iconst 5, 1) := by decide +kernel
theorem dX12_postsNow_135 : decode cX12_postsNow 135 = .ok (.aload_n 0, 1) := by decide +kernel
theorem dX12_postsNow_136 : decode cX12_postsNow 136 = .ok (.getfield 13, 3) := by decide +kernel
theorem dX12_postsNow_139 : decode cX12_postsNow 139 = .ok (.iconst 3, 1) := by decide +kernel
theorem dX12_postsNow_140 : decode cX12_postsNow 140 = .ok (.iaload, 1) := by decide +kernel
theorem dX12_postsNow_141 : decode cX12_postsNow 141 = .ok (.invokevirtual 75, 3) := by decide +kernel
theorem dX12_postsNow_144 : decode cX12_postsNow 144 = .ok (.aload_n 0, 1) := by decide +kernel
theorem dX12_postsNow_145 : decode cX12_postsNow 145 = .ok (.iload 4, 2) := by decide +kernel
theorem dX12_postsNow_147 : decode cX12_postsNow 147 = .ok (.bipush 9, 2) := by decide +kernel
theorem dX12_postsNow_149 : decode cX12_postsNow 149 = .ok (.aload_n 0, 1) := by decide +kernel
theorem dX12_postsNow_150 : decode cX12_postsNow 150 = .ok (.invokevirtual 100, 3) := by decide +kernel
theorem dX12_postsNow_153 : decode cX12_postsNow 153 = .ok (.invokevirtual 75, 3) := by decide +kernel
theorem dX12_postsNow_156 : decode cX12_postsNow 156 = .ok (.iload 4, 2) := by decide +kernel
theorem dX12_postsNow_158 : decode cX12_postsNow 158 = .ok (.ireturn, 1) := by decide +kernel
theorem dX12_setsAlive_0 : decode cX12_setsAlive 0 = .ok (.aload_n 0, 1) := by decide +kernel
theorem dX12_setsAlive_1 : decode cX12_setsAlive 1 = .ok (.iload_n 1, 1) := by decide +kernel
theorem dX12_setsAlive_2 : decode cX12_setsAlive 2 = .ok (.iconst 3, 1) := by decide +kernel
theorem dX12_setsAlive_3 : decode cX12_setsAlive 3 = .ok (.invokevirtual 57, 3) := by decide +kernel
theorem dX12_setsAlive_6 : decode cX12_setsAlive 6 = .ok (.istore_n 3, 1) := by decide +kernel
theorem dX12_setsAlive_7 : decode cX12_setsAlive 7 = .ok (.aload_n 0, 1) := by decide +kernel
theorem dX12_setsAlive_8 : decode cX12_setsAlive 8 = .ok (.iload_n 1, 1) := by decide +kernel
theorem dX12_setsAlive_9 : decode cX12_setsAlive 9 = .ok (.iconst 3, 1) := by decide +kernel
theorem dX12_setsAlive_10 : decode cX12_setsAlive 10 = .ok (.iload_n 2, 1) := by decide +kernel
theorem dX12_setsAlive_11 : decode cX12_setsAlive 11 = .ok (.invokevirtual 61, 3) := by decide +kernel
theorem dX12_setsAlive_14 : decode cX12_setsAlive 14 = .ok (.iload_n 3, 1) := by decide +kernel
theorem dX12_setsAlive_15 : decode cX12_setsAlive 15 = .ok (.ireturn, 1) := by decide +kernel
theorem dX12_addsPlace_0 : decode cX12_addsPlace 0 = .ok (.aload_n 0, 1) := by decide +kernel
theorem dX12_addsPlace_1 : decode cX12_addsPlace 1 = .ok (.getfield 13, 3) := by decide +kernel
theorem dX12_addsPlace_4 : decode cX12_addsPlace 4 = .ok (.bipush 30, 2) := by decide +kernel
theorem dX12_addsPlace_6 : decode cX12_addsPlace 6 = .ok (.aload_n 0, 1) := by decide +kernel
theorem dX12_addsPlace_7 : decode cX12_addsPlace 7 = .ok (.getfield 13, 3) := by decide +kernel
theorem dX12_addsPlace_10 : decode cX12_addsPlace 10 = .ok (.iconst 1, 1) := by decide +kernel
theorem dX12_addsPlace_11 : decode cX12_addsPlace 11 = .ok (.iaload, 1) := by decide +kernel
theorem dX12_addsPlace_12 : decode cX12_addsPlace 12 = .ok (.iadd, 1) := by decide +kernel
theorem dX12_addsPlace_13 : decode cX12_addsPlace 13 = .ok (.iload_n 1, 1) := by decide +kernel
theorem dX12_addsPlace_14 : decode cX12_addsPlace 14 = .ok (.iastore, 1) := by decide +kernel
theorem dX12_addsPlace_15 : decode cX12_addsPlace 15 = .ok (.aload_n 0, 1) := by decide +kernel
theorem dX12_addsPlace_16 : decode cX12_addsPlace 16 = .ok (.getfield 13, 3) := by decide +kernel
theorem dX12_addsPlace_19 : decode cX12_addsPlace 19 = .ok (.iconst 1, 1) := by decide +kernel
theorem dX12_addsPlace_20 : decode cX12_addsPlace 20 = .ok (.aload_n 0, 1) := by decide +kernel
theorem dX12_addsPlace_21 : decode cX12_addsPlace 21 = .ok (.getfield 13, 3) := by decide +kernel
theorem dX12_addsPlace_24 : decode cX12_addsPlace 24 = .ok (.iconst 1, 1) := by decide +kernel
theorem dX12_addsPlace_25 : decode cX12_addsPlace 25 = .ok (.iaload, 1) := by decide +kernel
theorem dX12_addsPlace_26 : decode cX12_addsPlace 26 = .ok (.iconst 1, 1) := by decide +kernel
theorem dX12_addsPlace_27 : decode cX12_addsPlace 27 = .ok (.iadd, 1) := by decide +kernel
theorem dX12_addsPlace_28 : decode cX12_addsPlace 28 = .ok (.iastore, 1) := by decide +kernel
theorem dX12_addsPlace_29 : decode cX12_addsPlace 29 = .ok (.aload_n 0, 1) := by decide +kernel
theorem dX12_addsPlace_30 : decode cX12_addsPlace 30 = .ok (.getfield 13, 3) := by decide +kernel
theorem dX12_addsPlace_33 : decode cX12_addsPlace 33 = .ok (.iconst 1, 1) := by decide +kernel
theorem dX12_addsPlace_34 : decode cX12_addsPlace 34 = .ok (.iaload, 1) := by decide +kernel
theorem dX12_addsPlace_35 : decode cX12_addsPlace 35 = .ok (.ireturn, 1) := by decide +kernel
theorem dX12_dropsPlace_0 : decode cX12_dropsPlace 0 = .ok (.aload_n 0, 1) := by decide +kernel
theorem dX12_dropsPlace_1 : decode cX12_dropsPlace 1 = .ok (.getfield 13, 3) := by decide +kernel
theorem dX12_dropsPlace_4 : decode cX12_dropsPlace 4 = .ok (.bipush 30, 2) := by decide +kernel
theorem dX12_dropsPlace_6 : decode cX12_dropsPlace 6 = .ok (.iload_n 1, 1) := by decide +kernel
theorem dX12_dropsPlace_7 : decode cX12_dropsPlace 7 = .ok (.iadd, 1) := by decide +kernel
theorem dX12_dropsPlace_8 : decode cX12_dropsPlace 8 = .ok (.iaload, 1) := by decide +kernel
theorem dX12_dropsPlace_9 : decode cX12_dropsPlace 9 = .ok (.istore_n 2, 1) := by decide +kernel
theorem dX12_dropsPlace_10 : decode cX12_dropsPlace 10 = .ok (.aload_n 0, 1) := by decide +kernel
theorem dX12_dropsPlace_11 : decode cX12_dropsPlace 11 = .ok (.getfield 13, 3) := by decide +kernel
theorem dX12_dropsPlace_14 : decode cX12_dropsPlace 14 = .ok (.iconst 1, 1) := by decide +kernel
theorem dX12_dropsPlace_15 : decode cX12_dropsPlace 15 = .ok (.aload_n 0, 1) := by decide +kernel
theorem dX12_dropsPlace_16 : decode cX12_dropsPlace 16 = .ok (.getfield 13, 3) := by decide +kernel
theorem dX12_dropsPlace_19 : decode cX12_dropsPlace 19 = .ok (.iconst 1, 1) := by decide +kernel
theorem dX12_dropsPlace_20 : decode cX12_dropsPlace 20 = .ok (.iaload, 1) := by decide +kernel
theorem dX12_dropsPlace_21 : decode cX12_dropsPlace 21 = .ok (.iconst 1, 1) := by decide +kernel
theorem dX12_dropsPlace_22 : decode cX12_dropsPlace 22 = .ok (.isub, 1) := by decide +kernel
theorem dX12_dropsPlace_23 : decode cX12_dropsPlace 23 = .ok (.iastore, 1) := by decide +kernel
theorem dX12_dropsPlace_24 : decode cX12_dropsPlace 24 = .ok (.iload_n 1, 1) := by decide +kernel
theorem dX12_dropsPlace_25 : decode cX12_dropsPlace 25 = .ok (.istore_n 3, 1) := by decide +kernel
theorem dX12_dropsPlace_26 : decode cX12_dropsPlace 26 = .ok (.iload_n 3, 1) := by decide +kernel
theorem dX12_dropsPlace_27 : decode cX12_dropsPlace 27 = .ok (.aload_n 0, 1) := by decide +kernel
theorem dX12_dropsPlace_28 : decode cX12_dropsPlace 28 = .ok (.getfield 13, 3) := by decide +kernel
theorem dX12_dropsPlace_31 : decode cX12_dropsPlace 31 = .ok (.iconst 1, 1) := by decide +kernel
theorem dX12_dropsPlace_32 : decode cX12_dropsPlace 32 = .ok (.iaload, 1) := by decide +kernel
theorem dX12_dropsPlace_33 : decode cX12_dropsPlace 33 = .ok (.if_icmp .ge 29, 3) := by decide +kernel
theorem dX12_dropsPlace_36 : decode cX12_dropsPlace 36 = .ok (.aload_n 0, 1) := by decide +kernel
theorem dX12_dropsPlace_37 : decode cX12_dropsPlace 37 = .ok (.getfield 13, 3) := by decide +kernel
theorem dX12_dropsPlace_40 : decode cX12_dropsPlace 40 = .ok (.bipush 30, 2) := by decide +kernel
theorem dX12_dropsPlace_42 : decode cX12_dropsPlace 42 = .ok (.iload_n 3, 1) := by decide +kernel
theorem dX12_dropsPlace_43 : decode cX12_dropsPlace 43 = .ok (.iadd, 1) := by decide +kernel
theorem dX12_dropsPlace_44 : decode cX12_dropsPlace 44 = .ok (.aload_n 0, 1) := by decide +kernel
theorem dX12_dropsPlace_45 : decode cX12_dropsPlace 45 = .ok (.getfield 13, 3) := by decide +kernel
theorem dX12_dropsPlace_48 : decode cX12_dropsPlace 48 = .ok (.bipush 30, 2) := by decide +kernel
theorem dX12_dropsPlace_50 : decode cX12_dropsPlace 50 = .ok (.iload_n 3, 1) := by decide +kernel
theorem dX12_dropsPlace_51 : decode cX12_dropsPlace 51 = .ok (.iadd, 1) := by decide +kernel
theorem dX12_dropsPlace_52 : decode cX12_dropsPlace 52 = .ok (.iconst 1, 1) := by decide +kernel
theorem dX12_dropsPlace_53 : decode cX12_dropsPlace 53 = .ok (.iadd, 1) := by decide +kernel
theorem dX12_dropsPlace_54 : decode cX12_dropsPlace 54 = .ok (.iaload, 1) := by decide +kernel
theorem dX12_dropsPlace_55 : decode cX12_dropsPlace 55 = .ok (.iastore, 1) := by decide +kernel
theorem dX12_dropsPlace_56 : decode cX12_dropsPlace 56 = .ok (.iinc 3 1, 3) := by decide +kernel
theorem dX12_dropsPlace_59 : decode cX12_dropsPlace 59 = .ok (.goto (-33), 3) := by decide +kernel
theorem dX12_dropsPlace_62 : decode cX12_dropsPlace 62 = .ok (.iload_n 2, 1) := by decide +kernel
theorem dX12_dropsPlace_63 : decode cX12_dropsPlace 63 = .ok (.ireturn, 1) := by decide +kernel
theorem dX12_canRun_0 : decode cX12_canRun 0 = .ok (.aload_n 0, 1) := by decide +kernel
theorem dX12_canRun_1 : decode cX12_canRun 1 = .ok (.getfield 13, 3) := by decide +kernel
theorem dX12_canRun_4 : decode cX12_canRun 4 = .ok (.iconst 4, 1) := by decide +kernel
theorem dX12_canRun_5 : decode cX12_canRun 5 = .ok (.iaload, 1) := by decide +kernel
theorem dX12_canRun_6 : decode cX12_canRun 6 = .ok (.iload_n 1, 1) := by decide +kernel
theorem dX12_canRun_7 : decode cX12_canRun 7 = .ok (.iadd, 1) := by decide +kernel
theorem dX12_canRun_8 : decode cX12_canRun 8 = .ok (.sipush 9999, 3) := by decide +kernel
theorem dX12_canRun_11 : decode cX12_canRun 11 = .ok (.if_icmp .gt 7, 3) := by decide +kernel
theorem dX12_canRun_14 : decode cX12_canRun 14 = .ok (.iconst 1, 1) := by decide +kernel
theorem dX12_canRun_15 : decode cX12_canRun 15 = .ok (.goto 4, 3) := by decide +kernel
theorem dX12_canRun_18 : decode cX12_canRun 18 = .ok (.iconst 0, 1) := by decide +kernel
theorem dX12_canRun_19 : decode cX12_canRun 19 = .ok (.ireturn, 1) := by decide +kernel
theorem dX12_does_0 : decode cX12_does 0 = .ok (.iconst 4, 1) := by decide +kernel
theorem dX12_does_1 : decode cX12_does 1 = .ok (.iload_n 1, 1) := by decide +kernel
theorem dX12_does_2 : decode cX12_does 2 = .ok (.imul, 1) := by decide +kernel
theorem dX12_does_3 : decode cX12_does 3 = .ok (.istore_n 2, 1) := by decide +kernel
theorem dX12_does_4 : decode cX12_does 4 = .ok (.aload_n 0, 1) := by decide +kernel
theorem dX12_does_5 : decode cX12_does 5 = .ok (.getfield 33, 3) := by decide +kernel
theorem dX12_does_8 : decode cX12_does 8 = .ok (.iload_n 2, 1) := by decide +kernel
theorem dX12_does_9 : decode cX12_does 9 = .ok (.iconst 1, 1) := by decide +kernel
theorem dX12_does_10 : decode cX12_does 10 = .ok (.iadd, 1) := by decide +kernel
theorem dX12_does_11 : decode cX12_does 11 = .ok (.iaload, 1) := by decide +kernel
theorem dX12_does_12 : decode cX12_does 12 = .ok (.istore_n 3, 1) := by decide +kernel
theorem dX12_does_13 : decode cX12_does 13 = .ok (.aload_n 0, 1) := by decide +kernel
theorem dX12_does_14 : decode cX12_does 14 = .ok (.getfield 33, 3) := by decide +kernel
theorem dX12_does_17 : decode cX12_does 17 = .ok (.iload_n 2, 1) := by decide +kernel
theorem dX12_does_18 : decode cX12_does 18 = .ok (.iaload, 1) := by decide +kernel
theorem dX12_does_19 : decode cX12_does 19 = .ok (.tableswitch 137 0 5 #[37, 137, 137, 75, 94, 116], 37) := by decide +kernel
theorem dX12_does_56 : decode cX12_does 56 = .ok (.aload_n 0, 1) := by decide +kernel
theorem dX12_does_57 : decode cX12_does 57 = .ok (.getfield 13, 3) := by decide +kernel
theorem dX12_does_60 : decode cX12_does 60 = .ok (.iconst 2, 1) := by decide +kernel
theorem dX12_does_61 : decode cX12_does 61 = .ok (.iaload, 1) := by decide +kernel
theorem dX12_does_62 : decode cX12_does 62 = .ok (.bipush 40, 2) := by decide +kernel
theorem dX12_does_64 : decode cX12_does 64 = .ok (.if_icmp .ne 5, 3) := by decide +kernel
theorem dX12_does_67 : decode cX12_does 67 = .ok (.iconst 0, 1) := by decide +kernel
theorem dX12_does_68 : decode cX12_does 68 = .ok (.ireturn, 1) := by decide +kernel
theorem dX12_does_69 : decode cX12_does 69 = .ok (.aload_n 0, 1) := by decide +kernel
theorem dX12_does_70 : decode cX12_does 70 = .ok (.iload_n 3, 1) := by decide +kernel
theorem dX12_does_71 : decode cX12_does 71 = .ok (.aload_n 0, 1) := by decide +kernel
theorem dX12_does_72 : decode cX12_does 72 = .ok (.getfield 33, 3) := by decide +kernel
theorem dX12_does_75 : decode cX12_does 75 = .ok (.iload_n 2, 1) := by decide +kernel
theorem dX12_does_76 : decode cX12_does 76 = .ok (.iconst 2, 1) := by decide +kernel
theorem dX12_does_77 : decode cX12_does 77 = .ok (.iadd, 1) := by decide +kernel
theorem dX12_does_78 : decode cX12_does 78 = .ok (.iaload, 1) := by decide +kernel
theorem dX12_does_79 : decode cX12_does 79 = .ok (.aload_n 0, 1) := by decide +kernel
theorem dX12_does_80 : decode cX12_does 80 = .ok (.getfield 33, 3) := by decide +kernel
theorem dX12_does_83 : decode cX12_does 83 = .ok (.iload_n 2, 1) := by decide +kernel
theorem dX12_does_84 : decode cX12_does 84 = .ok (.iconst 3, 1) := by decide +kernel
theorem dX12_does_85 : decode cX12_does 85 = .ok (.iadd, 1) := by decide +kernel
theorem dX12_does_86 : decode cX12_does 86 = .ok (.iaload, 1) := by decide +kernel
theorem dX12_does_87 : decode cX12_does 87 = .ok (.invokevirtual 330, 3) := by decide +kernel
theorem dX12_does_90 : decode cX12_does 90 = .ok (.istore 4, 2) := by decide +kernel
theorem dX12_does_92 : decode cX12_does 92 = .ok (.iconst 1, 1) := by decide +kernel
theorem dX12_does_93 : decode cX12_does 93 = .ok (.ireturn, 1) := by decide +kernel
theorem dX12_does_94 : decode cX12_does 94 = .ok (.aload_n 0, 1) := by decide +kernel
theorem dX12_does_95 : decode cX12_does 95 = .ok (.iload_n 3, 1) := by decide +kernel
theorem dX12_does_96 : decode cX12_does 96 = .ok (.invokevirtual 333, 3) := by decide +kernel
theorem dX12_does_99 : decode cX12_does 99 = .ok (.ifCond .ne 5, 3) := by decide +kernel
theorem dX12_does_102 : decode cX12_does 102 = .ok (.iconst 0, 1) := by decide +kernel
theorem dX12_does_103 : decode cX12_does 103 = .ok (.ireturn, 1) := by decide +kernel
theorem dX12_does_104 : decode cX12_does 104 = .ok (.aload_n 0, 1) := by decide +kernel
theorem dX12_does_105 : decode cX12_does 105 = .ok (.iload_n 3, 1) := by decide +kernel
theorem dX12_does_106 : decode cX12_does 106 = .ok (.invokevirtual 336, 3) := by decide +kernel
theorem dX12_does_109 : decode cX12_does 109 = .ok (.istore 5, 2) := by decide +kernel
theorem dX12_does_111 : decode cX12_does 111 = .ok (.iconst 1, 1) := by decide +kernel
theorem dX12_does_112 : decode cX12_does 112 = .ok (.ireturn, 1) := by decide +kernel
theorem dX12_does_113 : decode cX12_does 113 = .ok (.aload_n 0, 1) := by decide +kernel
theorem dX12_does_114 : decode cX12_does 114 = .ok (.getfield 13, 3) := by decide +kernel
theorem dX12_does_117 : decode cX12_does 117 = .ok (.iconst 1, 1) := by decide +kernel
theorem dX12_does_118 : decode cX12_does 118 = .ok (.iaload, 1) := by decide +kernel
theorem dX12_does_119 : decode cX12_does 119 = .ok (.bipush 16, 2) := by decide +kernel
theorem dX12_does_121 : decode cX12_does 121 = .ok (.if_icmp .ne 5, 3) := by decide +kernel
theorem dX12_does_124 : decode cX12_does 124 = .ok (.iconst 0, 1) := by decide +kernel
theorem dX12_does_125 : decode cX12_does 125 = .ok (.ireturn, 1) := by decide +kernel
theorem dX12_does_126 : decode cX12_does 126 = .ok (.aload_n 0, 1) := by decide +kernel
theorem dX12_does_127 : decode cX12_does 127 = .ok (.iload_n 3, 1) := by decide +kernel
theorem dX12_does_128 : decode cX12_does 128 = .ok (.invokevirtual 339, 3) := by decide +kernel
theorem dX12_does_131 : decode cX12_does 131 = .ok (.istore 6, 2) := by decide +kernel
theorem dX12_does_133 : decode cX12_does 133 = .ok (.iconst 1, 1) := by decide +kernel
theorem dX12_does_134 : decode cX12_does 134 = .ok (.ireturn, 1) := by decide +kernel
theorem dX12_does_135 : decode cX12_does 135 = .ok (.iload_n 3, 1) := by decide +kernel
theorem dX12_does_136 : decode cX12_does 136 = .ok (.aload_n 0, 1) := by decide +kernel
theorem dX12_does_137 : decode cX12_does 137 = .ok (.getfield 13, 3) := by decide +kernel
theorem dX12_does_140 : decode cX12_does 140 = .ok (.iconst 1, 1) := by decide +kernel
theorem dX12_does_141 : decode cX12_does 141 = .ok (.iaload, 1) := by decide +kernel
theorem dX12_does_142 : decode cX12_does 142 = .ok (.if_icmp .lt 5, 3) := by decide +kernel
theorem dX12_does_145 : decode cX12_does 145 = .ok (.iconst 0, 1) := by decide +kernel
theorem dX12_does_146 : decode cX12_does 146 = .ok (.ireturn, 1) := by decide +kernel
theorem dX12_does_147 : decode cX12_does 147 = .ok (.aload_n 0, 1) := by decide +kernel
theorem dX12_does_148 : decode cX12_does 148 = .ok (.iload_n 3, 1) := by decide +kernel
theorem dX12_does_149 : decode cX12_does 149 = .ok (.invokevirtual 342, 3) := by decide +kernel
theorem dX12_does_152 : decode cX12_does 152 = .ok (.istore 7, 2) := by decide +kernel
theorem dX12_does_154 : decode cX12_does 154 = .ok (.iconst 1, 1) := by decide +kernel
theorem dX12_does_155 : decode cX12_does 155 = .ok (.ireturn, 1) := by decide +kernel
theorem dX12_does_156 : decode cX12_does 156 = .ok (.aload_n 0, 1) := by decide +kernel
theorem dX12_does_157 : decode cX12_does 157 = .ok (.iload_n 3, 1) := by decide +kernel
theorem dX12_does_158 : decode cX12_does 158 = .ok (.aload_n 0, 1) := by decide +kernel
theorem dX12_does_159 : decode cX12_does 159 = .ok (.getfield 33, 3) := by decide +kernel
theorem dX12_does_162 : decode cX12_does 162 = .ok (.iload_n 2, 1) := by decide +kernel
theorem dX12_does_163 : decode cX12_does 163 = .ok (.iaload, 1) := by decide +kernel
theorem dX12_does_164 : decode cX12_does 164 = .ok (.iconst 2, 1) := by decide +kernel
theorem dX12_does_165 : decode cX12_does 165 = .ok (.if_icmp .ne 7, 3) := by decide +kernel
theorem dX12_does_168 : decode cX12_does 168 = .ok (.iconst 1, 1) := by decide +kernel
theorem dX12_does_169 : decode cX12_does 169 = .ok (.goto 4, 3) := by decide +kernel
theorem dX12_does_172 : decode cX12_does 172 = .ok (.iconst 0, 1) := by decide +kernel
theorem dX12_does_173 : decode cX12_does 173 = .ok (.invokevirtual 345, 3) := by decide +kernel
theorem dX12_does_176 : decode cX12_does 176 = .ok (.istore 8, 2) := by decide +kernel
theorem dX12_does_178 : decode cX12_does 178 = .ok (.iconst 1, 1) := by decide +kernel
theorem dX12_does_179 : decode cX12_does 179 = .ok (.ireturn, 1) := by decide +kernel
theorem dX12_playScript_0 : decode cX12_playScript 0 = .ok (.aload_n 0, 1) := by decide +kernel
theorem dX12_playScript_1 : decode cX12_playScript 1 = .ok (.iconst 0, 1) := by decide +kernel
theorem dX12_playScript_2 : decode cX12_playScript 2 = .ok (.putfield 301, 3) := by decide +kernel
theorem dX12_playScript_5 : decode cX12_playScript 5 = .ok (.aload_n 0, 1) := by decide +kernel
theorem dX12_playScript_6 : decode cX12_playScript 6 = .ok (.invokevirtual 288, 3) := by decide +kernel
theorem dX12_playScript_9 : decode cX12_playScript 9 = .ok (.aload_n 0, 1) := by decide +kernel
theorem dX12_playScript_10 : decode cX12_playScript 10 = .ok (.invokevirtual 204, 3) := by decide +kernel
theorem dX12_playScript_13 : decode cX12_playScript 13 = .ok (.ifCond .eq 17, 3) := by decide +kernel
theorem dX12_playScript_16 : decode cX12_playScript 16 = .ok (.aload_n 0, 1) := by decide +kernel
theorem dX12_playScript_17 : decode cX12_playScript 17 = .ok (.getfield 198, 3) := by decide +kernel
theorem dX12_playScript_20 : decode cX12_playScript 20 = .ok (.ifCond .eq 10, 3) := by decide +kernel
theorem dX12_playScript_23 : decode cX12_playScript 23 = .ok (.aload_n 0, 1) := by decide +kernel
theorem dX12_playScript_24 : decode cX12_playScript 24 = .ok (.invokevirtual 348, 3) := by decide +kernel
theorem dX12_playScript_27 : decode cX12_playScript 27 = .ok (.goto (-18), 3) := by decide +kernel
theorem dX12_playScript_30 : decode cX12_playScript 30 = .ok (.aload_n 0, 1) := by decide +kernel
theorem dX12_playScript_31 : decode cX12_playScript 31 = .ok (.iconst 0, 1) := by decide +kernel
theorem dX12_playScript_32 : decode cX12_playScript 32 = .ok (.putfield 174, 3) := by decide +kernel
theorem dX12_playScript_35 : decode cX12_playScript 35 = .ok (.aload_n 0, 1) := by decide +kernel
theorem dX12_playScript_36 : decode cX12_playScript 36 = .ok (.invokevirtual 204, 3) := by decide +kernel
theorem dX12_playScript_39 : decode cX12_playScript 39 = .ok (.ifCond .ne 5, 3) := by decide +kernel
theorem dX12_playScript_42 : decode cX12_playScript 42 = .ok (.iconst (-1), 1) := by decide +kernel
theorem dX12_playScript_43 : decode cX12_playScript 43 = .ok (.ireturn, 1) := by decide +kernel
theorem dX12_playScript_44 : decode cX12_playScript 44 = .ok (.aload_n 0, 1) := by decide +kernel
theorem dX12_playScript_45 : decode cX12_playScript 45 = .ok (.invokevirtual 351, 3) := by decide +kernel
theorem dX12_playScript_48 : decode cX12_playScript 48 = .ok (.iconst 0, 1) := by decide +kernel
theorem dX12_playScript_49 : decode cX12_playScript 49 = .ok (.istore_n 1, 1) := by decide +kernel
theorem dX12_playScript_50 : decode cX12_playScript 50 = .ok (.iload_n 1, 1) := by decide +kernel
theorem dX12_playScript_51 : decode cX12_playScript 51 = .ok (.aload_n 0, 1) := by decide +kernel
theorem dX12_playScript_52 : decode cX12_playScript 52 = .ok (.getfield 301, 3) := by decide +kernel
theorem dX12_playScript_55 : decode cX12_playScript 55 = .ok (.if_icmp .ge 18, 3) := by decide +kernel
theorem dX12_playScript_58 : decode cX12_playScript 58 = .ok (.aload_n 0, 1) := by decide +kernel
theorem dX12_playScript_59 : decode cX12_playScript 59 = .ok (.iload_n 1, 1) := by decide +kernel
theorem dX12_playScript_60 : decode cX12_playScript 60 = .ok (.invokevirtual 354, 3) := by decide +kernel
theorem dX12_playScript_63 : decode cX12_playScript 63 = .ok (.ifCond .eq 10, 3) := by decide +kernel
theorem dX12_playScript_66 : decode cX12_playScript 66 = .ok (.iload_n 1, 1) := by decide +kernel
theorem dX12_playScript_67 : decode cX12_playScript 67 = .ok (.iconst 1, 1) := by decide +kernel
theorem dX12_playScript_68 : decode cX12_playScript 68 = .ok (.iadd, 1) := by decide +kernel
theorem dX12_playScript_69 : decode cX12_playScript 69 = .ok (.istore_n 1, 1) := by decide +kernel
theorem dX12_playScript_70 : decode cX12_playScript 70 = .ok (.goto (-20), 3) := by decide +kernel
theorem dX12_playScript_73 : decode cX12_playScript 73 = .ok (.iload_n 1, 1) := by decide +kernel
theorem dX12_playScript_74 : decode cX12_playScript 74 = .ok (.ireturn, 1) := by decide +kernel
theorem dX12_terminalsWith_0 : decode cX12_terminalsWith 0 = .ok (.iconst 0, 1) := by decide +kernel
theorem dX12_terminalsWith_1 : decode cX12_terminalsWith 1 = .ok (.istore_n 3, 1) := by decide +kernel
theorem dX12_terminalsWith_2 : decode cX12_terminalsWith 2 = .ok (.iconst 0, 1) := by decide +kernel
theorem dX12_terminalsWith_3 : decode cX12_terminalsWith 3 = .ok (.istore 4, 2) := by decide +kernel
theorem dX12_terminalsWith_5 : decode cX12_terminalsWith 5 = .ok (.iload 4, 2) := by decide +kernel
theorem dX12_terminalsWith_7 : decode cX12_terminalsWith 7 = .ok (.aload_n 0, 1) := by decide +kernel
theorem dX12_terminalsWith_8 : decode cX12_terminalsWith 8 = .ok (.invokevirtual 49, 3) := by decide +kernel
theorem dX12_terminalsWith_11 : decode cX12_terminalsWith 11 = .ok (.if_icmp .ge 24, 3) := by decide +kernel
theorem dX12_terminalsWith_14 : decode cX12_terminalsWith 14 = .ok (.aload_n 0, 1) := by decide +kernel
theorem dX12_terminalsWith_15 : decode cX12_terminalsWith 15 = .ok (.iload 4, 2) := by decide +kernel
theorem dX12_terminalsWith_17 : decode cX12_terminalsWith 17 = .ok (.iload_n 1, 1) := by decide +kernel
theorem dX12_terminalsWith_18 : decode cX12_terminalsWith 18 = .ok (.invokevirtual 57, 3) := by decide +kernel
theorem dX12_terminalsWith_21 : decode cX12_terminalsWith 21 = .ok (.iload_n 2, 1) := by decide +kernel
theorem dX12_terminalsWith_22 : decode cX12_terminalsWith 22 = .ok (.if_icmp .ne 7, 3) := by decide +kernel
theorem dX12_terminalsWith_25 : decode cX12_terminalsWith 25 = .ok (.iload_n 3, 1) := by decide +kernel
theorem dX12_terminalsWith_26 : decode cX12_terminalsWith 26 = .ok (.iconst 1, 1) := by decide +kernel
theorem dX12_terminalsWith_27 : decode cX12_terminalsWith 27 = .ok (.iadd, 1) := by decide +kernel
theorem dX12_terminalsWith_28 : decode cX12_terminalsWith 28 = .ok (.istore_n 3, 1) := by decide +kernel
theorem dX12_terminalsWith_29 : decode cX12_terminalsWith 29 = .ok (.iinc 4 1, 3) := by decide +kernel
theorem dX12_terminalsWith_32 : decode cX12_terminalsWith 32 = .ok (.goto (-27), 3) := by decide +kernel
theorem dX12_terminalsWith_35 : decode cX12_terminalsWith 35 = .ok (.iload_n 3, 1) := by decide +kernel
theorem dX12_terminalsWith_36 : decode cX12_terminalsWith 36 = .ok (.ireturn, 1) := by decide +kernel
theorem dX12_count_0 : decode cX12_count 0 = .ok (.aload_n 0, 1) := by decide +kernel
theorem dX12_count_1 : decode cX12_count 1 = .ok (.iload_n 1, 1) := by decide +kernel
theorem dX12_count_2 : decode cX12_count 2 = .ok (.iconst 0, 1) := by decide +kernel
theorem dX12_count_3 : decode cX12_count 3 = .ok (.bipush 12, 2) := by decide +kernel
theorem dX12_count_5 : decode cX12_count 5 = .ok (.invokestatic 53, 3) := by decide +kernel
theorem dX12_count_8 : decode cX12_count 8 = .ok (.ifCond .eq 7, 3) := by decide +kernel
theorem dX12_count_11 : decode cX12_count 11 = .ok (.iconst 0, 1) := by decide +kernel
theorem dX12_count_12 : decode cX12_count 12 = .ok (.goto 4, 3) := by decide +kernel
theorem dX12_count_15 : decode cX12_count 15 = .ok (.iconst 1, 1) := by decide +kernel
theorem dX12_count_16 : decode cX12_count 16 = .ok (.putfield 1, 3) := by decide +kernel
theorem dX12_count_19 : decode cX12_count 19 = .ok (.aload_n 0, 1) := by decide +kernel
theorem dX12_count_20 : decode cX12_count 20 = .ok (.getfield 1, 3) := by decide +kernel
theorem dX12_count_23 : decode cX12_count 23 = .ok (.ifCond .eq 5, 3) := by decide +kernel
theorem dX12_count_26 : decode cX12_count 26 = .ok (.iconst 0, 1) := by decide +kernel
theorem dX12_count_27 : decode cX12_count 27 = .ok (.ireturn, 1) := by decide +kernel
theorem dX12_count_28 : decode cX12_count 28 = .ok (.iload_n 1, 1) := by decide +kernel
theorem dX12_count_29 : decode cX12_count 29 = .ok (.bipush 6, 2) := by decide +kernel
theorem dX12_count_31 : decode cX12_count 31 = .ok (.if_icmp .ge 10, 3) := by decide +kernel
theorem dX12_count_34 : decode cX12_count 34 = .ok (.aload_n 0, 1) := by decide +kernel
theorem dX12_count_35 : decode cX12_count 35 = .ok (.getfield 13, 3) := by decide +kernel
theorem dX12_count_38 : decode cX12_count 38 = .ok (.iload_n 1, 1) := by decide +kernel
theorem dX12_count_39 : decode cX12_count 39 = .ok (.iaload, 1) := by decide +kernel
theorem dX12_count_40 : decode cX12_count 40 = .ok (.ireturn, 1) := by decide +kernel
theorem dX12_count_41 : decode cX12_count 41 = .ok (.iload_n 1, 1) := by decide +kernel
theorem dX12_count_42 : decode cX12_count 42 = .ok (.bipush 10, 2) := by decide +kernel
theorem dX12_count_44 : decode cX12_count 44 = .ok (.if_icmp .ge 12, 3) := by decide +kernel
theorem dX12_count_47 : decode cX12_count 47 = .ok (.aload_n 0, 1) := by decide +kernel
theorem dX12_count_48 : decode cX12_count 48 = .ok (.iload_n 1, 1) := by decide +kernel
theorem dX12_count_49 : decode cX12_count 49 = .ok (.bipush 6, 2) := by decide +kernel
theorem dX12_count_51 : decode cX12_count 51 = .ok (.isub, 1) := by decide +kernel
theorem dX12_count_52 : decode cX12_count 52 = .ok (.invokevirtual 168, 3) := by decide +kernel
theorem dX12_count_55 : decode cX12_count 55 = .ok (.ireturn, 1) := by decide +kernel
theorem dX12_count_56 : decode cX12_count 56 = .ok (.iload_n 1, 1) := by decide +kernel
theorem dX12_count_57 : decode cX12_count 57 = .ok (.bipush 10, 2) := by decide +kernel
theorem dX12_count_59 : decode cX12_count 59 = .ok (.if_icmp .ne 12, 3) := by decide +kernel
theorem dX12_count_62 : decode cX12_count 62 = .ok (.aload_n 0, 1) := by decide +kernel
theorem dX12_count_63 : decode cX12_count 63 = .ok (.iconst 4, 1) := by decide +kernel
theorem dX12_count_64 : decode cX12_count 64 = .ok (.iconst 0, 1) := by decide +kernel
theorem dX12_count_65 : decode cX12_count 65 = .ok (.invokevirtual 357, 3) := by decide +kernel
theorem dX12_count_68 : decode cX12_count 68 = .ok (.goto 22, 3) := by decide +kernel
theorem dX12_count_71 : decode cX12_count 71 = .ok (.iload_n 1, 1) := by decide +kernel
theorem dX12_count_72 : decode cX12_count 72 = .ok (.bipush 11, 2) := by decide +kernel
theorem dX12_count_74 : decode cX12_count 74 = .ok (.if_icmp .ne 12, 3) := by decide +kernel
theorem dX12_count_77 : decode cX12_count 77 = .ok (.aload_n 0, 1) := by decide +kernel
theorem dX12_count_78 : decode cX12_count 78 = .ok (.iconst 3, 1) := by decide +kernel
theorem dX12_count_79 : decode cX12_count 79 = .ok (.iconst 0, 1) := by decide +kernel
theorem dX12_count_80 : decode cX12_count 80 = .ok (.invokevirtual 357, 3) := by decide +kernel
theorem dX12_count_83 : decode cX12_count 83 = .ok (.goto 7, 3) := by decide +kernel
theorem dX12_count_86 : decode cX12_count 86 = .ok (.aload_n 0, 1) := by decide +kernel
theorem dX12_count_87 : decode cX12_count 87 = .ok (.getfield 294, 3) := by decide +kernel
theorem dX12_count_90 : decode cX12_count 90 = .ok (.ireturn, 1) := by decide +kernel
theorem dX12_account_0 : decode cX12_account 0 = .ok (.aload_n 0, 1) := by decide +kernel
theorem dX12_account_1 : decode cX12_account 1 = .ok (.iload_n 1, 1) := by decide +kernel
theorem dX12_account_2 : decode cX12_account 2 = .ok (.iconst 0, 1) := by decide +kernel
theorem dX12_account_3 : decode cX12_account 3 = .ok (.bipush 12, 2) := by decide +kernel
theorem dX12_account_5 : decode cX12_account 5 = .ok (.invokestatic 53, 3) := by decide +kernel
theorem dX12_account_8 : decode cX12_account 8 = .ok (.ifCond .eq 7, 3) := by decide +kernel
theorem dX12_account_11 : decode cX12_account 11 = .ok (.iconst 0, 1) := by decide +kernel
theorem dX12_account_12 : decode cX12_account 12 = .ok (.goto 4, 3) := by decide +kernel
theorem dX12_account_15 : decode cX12_account 15 = .ok (.iconst 1, 1) := by decide +kernel
theorem dX12_account_16 : decode cX12_account 16 = .ok (.putfield 1, 3) := by decide +kernel
theorem dX12_account_19 : decode cX12_account 19 = .ok (.aload_n 0, 1) := by decide +kernel
theorem dX12_account_20 : decode cX12_account 20 = .ok (.getfield 1, 3) := by decide +kernel
theorem dX12_account_23 : decode cX12_account 23 = .ok (.ifCond .ne 15, 3) := by decide +kernel
theorem dX12_account_26 : decode cX12_account 26 = .ok (.aload_n 0, 1) := by decide +kernel
theorem dX12_account_27 : decode cX12_account 27 = .ok (.getfield 13, 3) := by decide +kernel
theorem dX12_account_30 : decode cX12_account 30 = .ok (.bipush 12, 2) := by decide +kernel
theorem dX12_account_32 : decode cX12_account 32 = .ok (.iload_n 1, 1) := by decide +kernel
theorem dX12_account_33 : decode cX12_account 33 = .ok (.iadd, 1) := by decide +kernel
theorem dX12_account_34 : decode cX12_account 34 = .ok (.iaload, 1) := by decide +kernel
theorem dX12_account_35 : decode cX12_account 35 = .ok (.goto 4, 3) := by decide +kernel
theorem dX12_account_38 : decode cX12_account 38 = .ok (.iconst 0, 1) := by decide +kernel
theorem dX12_account_39 : decode cX12_account 39 = .ok (.ireturn, 1) := by decide +kernel
theorem dX12_setting_0 : decode cX12_setting 0 = .ok (.aload_n 0, 1) := by decide +kernel
theorem dX12_setting_1 : decode cX12_setting 1 = .ok (.iload_n 1, 1) := by decide +kernel
theorem dX12_setting_2 : decode cX12_setting 2 = .ok (.iconst 0, 1) := by decide +kernel
theorem dX12_setting_3 : decode cX12_setting 3 = .ok (.iconst 5, 1) := by decide +kernel
theorem dX12_setting_4 : decode cX12_setting 4 = .ok (.invokestatic 53, 3) := by decide +kernel
theorem dX12_setting_7 : decode cX12_setting 7 = .ok (.ifCond .eq 7, 3) := by decide +kernel
theorem dX12_setting_10 : decode cX12_setting 10 = .ok (.iconst 0, 1) := by decide +kernel
theorem dX12_setting_11 : decode cX12_setting 11 = .ok (.goto 4, 3) := by decide +kernel
theorem dX12_setting_14 : decode cX12_setting 14 = .ok (.iconst 1, 1) := by decide +kernel
theorem dX12_setting_15 : decode cX12_setting 15 = .ok (.putfield 1, 3) := by decide +kernel
theorem dX12_setting_18 : decode cX12_setting 18 = .ok (.aload_n 0, 1) := by decide +kernel
theorem dX12_setting_19 : decode cX12_setting 19 = .ok (.getfield 1, 3) := by decide +kernel
theorem dX12_setting_22 : decode cX12_setting 22 = .ok (.ifCond .ne 15, 3) := by decide +kernel
theorem dX12_setting_25 : decode cX12_setting 25 = .ok (.aload_n 0, 1) := by decide +kernel
theorem dX12_setting_26 : decode cX12_setting 26 = .ok (.getfield 13, 3) := by decide +kernel
theorem dX12_setting_29 : decode cX12_setting 29 = .ok (.bipush 6, 2) := by decide +kernel
theorem dX12_setting_31 : decode cX12_setting 31 = .ok (.iload_n 1, 1) := by decide +kernel
theorem dX12_setting_32 : decode cX12_setting 32 = .ok (.iadd, 1) := by decide +kernel
theorem dX12_setting_33 : decode cX12_setting 33 = .ok (.iaload, 1) := by decide +kernel
theorem dX12_setting_34 : decode cX12_setting 34 = .ok (.goto 4, 3) := by decide +kernel
theorem dX12_setting_37 : decode cX12_setting 37 = .ok (.iconst 0, 1) := by decide +kernel
theorem dX12_setting_38 : decode cX12_setting 38 = .ok (.ireturn, 1) := by decide +kernel
theorem dX12_placesOf_0 : decode cX12_placesOf 0 = .ok (.iconst 0, 1) := by decide +kernel
theorem dX12_placesOf_1 : decode cX12_placesOf 1 = .ok (.istore_n 2, 1) := by decide +kernel
theorem dX12_placesOf_2 : decode cX12_placesOf 2 = .ok (.iconst 0, 1) := by decide +kernel
theorem dX12_placesOf_3 : decode cX12_placesOf 3 = .ok (.istore_n 3, 1) := by decide +kernel
theorem dX12_placesOf_4 : decode cX12_placesOf 4 = .ok (.iload_n 3, 1) := by decide +kernel
theorem dX12_placesOf_5 : decode cX12_placesOf 5 = .ok (.aload_n 0, 1) := by decide +kernel
theorem dX12_placesOf_6 : decode cX12_placesOf 6 = .ok (.getfield 13, 3) := by decide +kernel
theorem dX12_placesOf_9 : decode cX12_placesOf 9 = .ok (.iconst 1, 1) := by decide +kernel
theorem dX12_placesOf_10 : decode cX12_placesOf 10 = .ok (.iaload, 1) := by decide +kernel
theorem dX12_placesOf_11 : decode cX12_placesOf 11 = .ok (.if_icmp .ge 26, 3) := by decide +kernel
theorem dX12_placesOf_14 : decode cX12_placesOf 14 = .ok (.aload_n 0, 1) := by decide +kernel
theorem dX12_placesOf_15 : decode cX12_placesOf 15 = .ok (.getfield 13, 3) := by decide +kernel
theorem dX12_placesOf_18 : decode cX12_placesOf 18 = .ok (.bipush 30, 2) := by decide +kernel
theorem dX12_placesOf_20 : decode cX12_placesOf 20 = .ok (.iload_n 3, 1) := by decide +kernel
theorem dX12_placesOf_21 : decode cX12_placesOf 21 = .ok (.iadd, 1) := by decide +kernel
theorem dX12_placesOf_22 : decode cX12_placesOf 22 = .ok (.iaload, 1) := by decide +kernel
theorem dX12_placesOf_23 : decode cX12_placesOf 23 = .ok (.iload_n 1, 1) := by decide +kernel
theorem dX12_placesOf_24 : decode cX12_placesOf 24 = .ok (.if_icmp .ne 7, 3) := by decide +kernel
theorem dX12_placesOf_27 : decode cX12_placesOf 27 = .ok (.iload_n 2, 1) := by decide +kernel
theorem dX12_placesOf_28 : decode cX12_placesOf 28 = .ok (.iconst 1, 1) := by decide +kernel
theorem dX12_placesOf_29 : decode cX12_placesOf 29 = .ok (.iadd, 1) := by decide +kernel
theorem dX12_placesOf_30 : decode cX12_placesOf 30 = .ok (.istore_n 2, 1) := by decide +kernel
theorem dX12_placesOf_31 : decode cX12_placesOf 31 = .ok (.iinc 3 1, 3) := by decide +kernel
theorem dX12_placesOf_34 : decode cX12_placesOf 34 = .ok (.goto (-30), 3) := by decide +kernel
theorem dX12_placesOf_37 : decode cX12_placesOf 37 = .ok (.iload_n 2, 1) := by decide +kernel
theorem dX12_placesOf_38 : decode cX12_placesOf 38 = .ok (.ireturn, 1) := by decide +kernel
theorem dX12_may_0 : decode cX12_may 0 = .ok (.aload_n 0, 1) := by decide +kernel
theorem dX12_may_1 : decode cX12_may 1 = .ok (.iload_n 1, 1) := by decide +kernel
theorem dX12_may_2 : decode cX12_may 2 = .ok (.ifCond .ne 7, 3) := by decide +kernel
theorem dX12_may_5 : decode cX12_may 5 = .ok (.iconst 1, 1) := by decide +kernel
theorem dX12_may_6 : decode cX12_may 6 = .ok (.goto 12, 3) := by decide +kernel
theorem dX12_may_9 : decode cX12_may 9 = .ok (.iload_n 2, 1) := by decide +kernel
theorem dX12_may_10 : decode cX12_may 10 = .ok (.ifCond .eq 7, 3) := by decide +kernel
theorem dX12_may_13 : decode cX12_may 13 = .ok (.iconst 0, 1) := by decide +kernel
theorem dX12_may_14 : decode cX12_may 14 = .ok (.goto 4, 3) := by decide +kernel
theorem dX12_may_17 : decode cX12_may 17 = .ok (.iconst 2, 1) := by decide +kernel
theorem dX12_may_18 : decode cX12_may 18 = .ok (.putfield 1, 3) := by decide +kernel
theorem dX12_may_21 : decode cX12_may 21 = .ok (.aload_n 0, 1) := by decide +kernel
theorem dX12_may_22 : decode cX12_may 22 = .ok (.getfield 1, 3) := by decide +kernel
theorem dX12_may_25 : decode cX12_may 25 = .ok (.ifCond .ne 7, 3) := by decide +kernel
theorem dX12_may_28 : decode cX12_may 28 = .ok (.iconst 1, 1) := by decide +kernel
theorem dX12_may_29 : decode cX12_may 29 = .ok (.goto 4, 3) := by decide +kernel
theorem dX12_may_32 : decode cX12_may 32 = .ok (.iconst 0, 1) := by decide +kernel
theorem dX12_may_33 : decode cX12_may 33 = .ok (.ireturn, 1) := by decide +kernel
theorem dX12_terminal_0 : decode cX12_terminal 0 = .ok (.aload_n 0, 1) := by decide +kernel
theorem dX12_terminal_1 : decode cX12_terminal 1 = .ok (.aload_n 0, 1) := by decide +kernel
theorem dX12_terminal_2 : decode cX12_terminal 2 = .ok (.iload_n 1, 1) := by decide +kernel
theorem dX12_terminal_3 : decode cX12_terminal 3 = .ok (.invokevirtual 360, 3) := by decide +kernel
theorem dX12_terminal_6 : decode cX12_terminal 6 = .ok (.iload_n 2, 1) := by decide +kernel
theorem dX12_terminal_7 : decode cX12_terminal 7 = .ok (.iconst 0, 1) := by decide +kernel
theorem dX12_terminal_8 : decode cX12_terminal 8 = .ok (.bipush 13, 2) := by decide +kernel
theorem dX12_terminal_10 : decode cX12_terminal 10 = .ok (.invokestatic 53, 3) := by decide +kernel
theorem dX12_terminal_13 : decode cX12_terminal 13 = .ok (.invokevirtual 363, 3) := by decide +kernel
theorem dX12_terminal_16 : decode cX12_terminal 16 = .ok (.ifCond .ne 5, 3) := by decide +kernel
theorem dX12_terminal_19 : decode cX12_terminal 19 = .ok (.iconst 0, 1) := by decide +kernel
theorem dX12_terminal_20 : decode cX12_terminal 20 = .ok (.ireturn, 1) := by decide +kernel
theorem dX12_terminal_21 : decode cX12_terminal 21 = .ok (.iload_n 2, 1) := by decide +kernel
theorem dX12_terminal_22 : decode cX12_terminal 22 = .ok (.bipush 6, 2) := by decide +kernel
theorem dX12_terminal_24 : decode cX12_terminal 24 = .ok (.if_icmp .ge 10, 3) := by decide +kernel
theorem dX12_terminal_27 : decode cX12_terminal 27 = .ok (.aload_n 0, 1) := by decide +kernel
theorem dX12_terminal_28 : decode cX12_terminal 28 = .ok (.iload_n 1, 1) := by decide +kernel
theorem dX12_terminal_29 : decode cX12_terminal 29 = .ok (.iload_n 2, 1) := by decide +kernel
theorem dX12_terminal_30 : decode cX12_terminal 30 = .ok (.invokevirtual 57, 3) := by decide +kernel
theorem dX12_terminal_33 : decode cX12_terminal 33 = .ok (.ireturn, 1) := by decide +kernel
theorem dX12_terminal_34 : decode cX12_terminal 34 = .ok (.iload_n 2, 1) := by decide +kernel
theorem dX12_terminal_35 : decode cX12_terminal 35 = .ok (.bipush 9, 2) := by decide +kernel
theorem dX12_terminal_37 : decode cX12_terminal 37 = .ok (.if_icmp .ge 13, 3) := by decide +kernel
theorem dX12_terminal_40 : decode cX12_terminal 40 = .ok (.aload_n 0, 1) := by decide +kernel
theorem dX12_terminal_41 : decode cX12_terminal 41 = .ok (.iload_n 1, 1) := by decide +kernel
theorem dX12_terminal_42 : decode cX12_terminal 42 = .ok (.iload_n 2, 1) := by decide +kernel
theorem dX12_terminal_43 : decode cX12_terminal 43 = .ok (.bipush 6, 2) := by decide +kernel
theorem dX12_terminal_45 : decode cX12_terminal 45 = .ok (.isub, 1) := by decide +kernel
theorem dX12_terminal_46 : decode cX12_terminal 46 = .ok (.invokevirtual 115, 3) := by decide +kernel
theorem dX12_terminal_49 : decode cX12_terminal 49 = .ok (.ireturn, 1) := by decide +kernel
theorem dX12_terminal_50 : decode cX12_terminal 50 = .ok (.iload_n 2, 1) := by decide +kernel
theorem dX12_terminal_51 : decode cX12_terminal 51 = .ok (.bipush 9, 2) := by decide +kernel
theorem dX12_terminal_53 : decode cX12_terminal 53 = .ok (.if_icmp .ne 11, 3) := by decide +kernel
theorem dX12_terminal_56 : decode cX12_terminal 56 = .ok (.aload_n 0, 1) := by decide +kernel
theorem dX12_terminal_57 : decode cX12_terminal 57 = .ok (.iload_n 1, 1) := by decide +kernel
theorem dX12_terminal_58 : decode cX12_terminal 58 = .ok (.invokevirtual 367, 3) := by decide +kernel
theorem dX12_terminal_61 : decode cX12_terminal 61 = .ok (.goto 43, 3) := by decide +kernel
theorem dX12_terminal_64 : decode cX12_terminal 64 = .ok (.aload_n 0, 1) := by decide +kernel
theorem dX12_terminal_65 : decode cX12_terminal 65 = .ok (.iload_n 1, 1) := by decide +kernel
theorem dX12_terminal_66 : decode cX12_terminal 66 = .ok (.iload_n 2, 1) := by decide +kernel
theorem dX12_terminal_67 : decode cX12_terminal 67 = .ok (.bipush 10, 2) := by decide +kernel
theorem dX12_terminal_69 : decode cX12_terminal 69 = .ok (.if_icmp .ne 8, 3) := by decide +kernel
theorem dX12_terminal_72 : decode cX12_terminal 72 = .ok (.bipush 6, 2) := by decide +kernel
theorem dX12_terminal_74 : decode cX12_terminal 74 = .ok (.goto 27, 3) := by decide +kernel
theorem dX12_terminal_77 : decode cX12_terminal 77 = .ok (.iload_n 2, 1) := by decide +kernel
theorem dX12_terminal_78 : decode cX12_terminal 78 = .ok (.bipush 11, 2) := by decide +kernel
theorem dX12_terminal_80 : decode cX12_terminal 80 = .ok (.if_icmp .ne 8, 3) := by decide +kernel
theorem dX12_terminal_83 : decode cX12_terminal 83 = .ok (.bipush 7, 2) := by decide +kernel
theorem dX12_terminal_85 : decode cX12_terminal 85 = .ok (.goto 16, 3) := by decide +kernel
theorem dX12_terminal_88 : decode cX12_terminal 88 = .ok (.iload_n 2, 1) := by decide +kernel
theorem dX12_terminal_89 : decode cX12_terminal 89 = .ok (.bipush 12, 2) := by decide +kernel
theorem dX12_terminal_91 : decode cX12_terminal 91 = .ok (.if_icmp .ne 8, 3) := by decide +kernel
theorem dX12_terminal_94 : decode cX12_terminal 94 = .ok (.bipush 8, 2) := by decide +kernel
theorem dX12_terminal_96 : decode cX12_terminal 96 = .ok (.goto 5, 3) := by decide +kernel
theorem dX12_terminal_99 : decode cX12_terminal 99 = .ok (.bipush 9, 2) := by decide +kernel
theorem dX12_terminal_101 : decode cX12_terminal 101 = .ok (.invokevirtual 57, 3) := by decide +kernel
theorem dX12_terminal_104 : decode cX12_terminal 104 = .ok (.ireturn, 1) := by decide +kernel
theorem dX12_lettersOf_0 : decode cX12_lettersOf 0 = .ok (.iconst 0, 1) := by decide +kernel
theorem dX12_lettersOf_1 : decode cX12_lettersOf 1 = .ok (.istore_n 1, 1) := by decide +kernel
theorem dX12_lettersOf_2 : decode cX12_lettersOf 2 = .ok (.iload_n 0, 1) := by decide +kernel
theorem dX12_lettersOf_3 : decode cX12_lettersOf 3 = .ok (.istore_n 2, 1) := by decide +kernel
theorem dX12_lettersOf_4 : decode cX12_lettersOf 4 = .ok (.iload_n 2, 1) := by decide +kernel
theorem dX12_lettersOf_5 : decode cX12_lettersOf 5 = .ok (.ifCond .le 14, 3) := by decide +kernel
theorem dX12_lettersOf_8 : decode cX12_lettersOf 8 = .ok (.iload_n 1, 1) := by decide +kernel
theorem dX12_lettersOf_9 : decode cX12_lettersOf 9 = .ok (.iconst 1, 1) := by decide +kernel
theorem dX12_lettersOf_10 : decode cX12_lettersOf 10 = .ok (.iadd, 1) := by decide +kernel
theorem dX12_lettersOf_11 : decode cX12_lettersOf 11 = .ok (.istore_n 1, 1) := by decide +kernel
theorem dX12_lettersOf_12 : decode cX12_lettersOf 12 = .ok (.iload_n 2, 1) := by decide +kernel
theorem dX12_lettersOf_13 : decode cX12_lettersOf 13 = .ok (.iconst 5, 1) := by decide +kernel
theorem dX12_lettersOf_14 : decode cX12_lettersOf 14 = .ok (.ishr, 1) := by decide +kernel
theorem dX12_lettersOf_15 : decode cX12_lettersOf 15 = .ok (.istore_n 2, 1) := by decide +kernel
theorem dX12_lettersOf_16 : decode cX12_lettersOf 16 = .ok (.goto (-12), 3) := by decide +kernel
theorem dX12_lettersOf_19 : decode cX12_lettersOf 19 = .ok (.iload_n 1, 1) := by decide +kernel
theorem dX12_lettersOf_20 : decode cX12_lettersOf 20 = .ok (.ireturn, 1) := by decide +kernel
theorem dX12_letterOf_0 : decode cX12_letterOf 0 = .ok (.iload_n 0, 1) := by decide +kernel
theorem dX12_letterOf_1 : decode cX12_letterOf 1 = .ok (.invokestatic 370, 3) := by decide +kernel
theorem dX12_letterOf_4 : decode cX12_letterOf 4 = .ok (.istore_n 2, 1) := by decide +kernel
theorem dX12_letterOf_5 : decode cX12_letterOf 5 = .ok (.iload_n 1, 1) := by decide +kernel
theorem dX12_letterOf_6 : decode cX12_letterOf 6 = .ok (.iconst 0, 1) := by decide +kernel
theorem dX12_letterOf_7 : decode cX12_letterOf 7 = .ok (.iload_n 2, 1) := by decide +kernel
theorem dX12_letterOf_8 : decode cX12_letterOf 8 = .ok (.iconst 1, 1) := by decide +kernel
theorem dX12_letterOf_9 : decode cX12_letterOf 9 = .ok (.isub, 1) := by decide +kernel
theorem dX12_letterOf_10 : decode cX12_letterOf 10 = .ok (.invokestatic 53, 3) := by decide +kernel
theorem dX12_letterOf_13 : decode cX12_letterOf 13 = .ok (.ifCond .eq 18, 3) := by decide +kernel
theorem dX12_letterOf_16 : decode cX12_letterOf 16 = .ok (.iload_n 0, 1) := by decide +kernel
theorem dX12_letterOf_17 : decode cX12_letterOf 17 = .ok (.iconst 5, 1) := by decide +kernel
theorem dX12_letterOf_18 : decode cX12_letterOf 18 = .ok (.iload_n 2, 1) := by decide +kernel
theorem dX12_letterOf_19 : decode cX12_letterOf 19 = .ok (.iconst 1, 1) := by decide +kernel
theorem dX12_letterOf_20 : decode cX12_letterOf 20 = .ok (.isub, 1) := by decide +kernel
theorem dX12_letterOf_21 : decode cX12_letterOf 21 = .ok (.iload_n 1, 1) := by decide +kernel
theorem dX12_letterOf_22 : decode cX12_letterOf 22 = .ok (.isub, 1) := by decide +kernel
theorem dX12_letterOf_23 : decode cX12_letterOf 23 = .ok (.imul, 1) := by decide +kernel
theorem dX12_letterOf_24 : decode cX12_letterOf 24 = .ok (.ishr, 1) := by decide +kernel
theorem dX12_letterOf_25 : decode cX12_letterOf 25 = .ok (.bipush 31, 2) := by decide +kernel
theorem dX12_letterOf_27 : decode cX12_letterOf 27 = .ok (.iand, 1) := by decide +kernel
theorem dX12_letterOf_28 : decode cX12_letterOf 28 = .ok (.goto 4, 3) := by decide +kernel
theorem dX12_letterOf_31 : decode cX12_letterOf 31 = .ok (.iconst 0, 1) := by decide +kernel
theorem dX12_letterOf_32 : decode cX12_letterOf 32 = .ok (.ireturn, 1) := by decide +kernel
theorem dX12_nameLetter_0 : decode cX12_nameLetter 0 = .ok (.aload_n 0, 1) := by decide +kernel
theorem dX12_nameLetter_1 : decode cX12_nameLetter 1 = .ok (.aload_n 0, 1) := by decide +kernel
theorem dX12_nameLetter_2 : decode cX12_nameLetter 2 = .ok (.iload_n 1, 1) := by decide +kernel
theorem dX12_nameLetter_3 : decode cX12_nameLetter 3 = .ok (.invokevirtual 360, 3) := by decide +kernel
theorem dX12_nameLetter_6 : decode cX12_nameLetter 6 = .ok (.iconst 1, 1) := by decide +kernel
theorem dX12_nameLetter_7 : decode cX12_nameLetter 7 = .ok (.invokevirtual 363, 3) := by decide +kernel
theorem dX12_nameLetter_10 : decode cX12_nameLetter 10 = .ok (.ifCond .eq 17, 3) := by decide +kernel
theorem dX12_nameLetter_13 : decode cX12_nameLetter 13 = .ok (.aload_n 0, 1) := by decide +kernel
theorem dX12_nameLetter_14 : decode cX12_nameLetter 14 = .ok (.iload_n 1, 1) := by decide +kernel
theorem dX12_nameLetter_15 : decode cX12_nameLetter 15 = .ok (.bipush 15, 2) := by decide +kernel
theorem dX12_nameLetter_17 : decode cX12_nameLetter 17 = .ok (.invokevirtual 57, 3) := by decide +kernel
theorem dX12_nameLetter_20 : decode cX12_nameLetter 20 = .ok (.iload_n 2, 1) := by decide +kernel
theorem dX12_nameLetter_21 : decode cX12_nameLetter 21 = .ok (.invokestatic 373, 3) := by decide +kernel
theorem dX12_nameLetter_24 : decode cX12_nameLetter 24 = .ok (.goto 4, 3) := by decide +kernel
theorem dX12_nameLetter_27 : decode cX12_nameLetter 27 = .ok (.iconst 0, 1) := by decide +kernel
theorem dX12_nameLetter_28 : decode cX12_nameLetter 28 = .ok (.ireturn, 1) := by decide +kernel
theorem dX12_message_0 : decode cX12_message 0 = .ok (.aload_n 0, 1) := by decide +kernel
theorem dX12_message_1 : decode cX12_message 1 = .ok (.iload_n 1, 1) := by decide +kernel
theorem dX12_message_2 : decode cX12_message 2 = .ok (.iconst 0, 1) := by decide +kernel
theorem dX12_message_3 : decode cX12_message 3 = .ok (.aload_n 0, 1) := by decide +kernel
theorem dX12_message_4 : decode cX12_message 4 = .ok (.getfield 13, 3) := by decide +kernel
theorem dX12_message_7 : decode cX12_message 7 = .ok (.iconst 2, 1) := by decide +kernel
theorem dX12_message_8 : decode cX12_message 8 = .ok (.iaload, 1) := by decide +kernel
theorem dX12_message_9 : decode cX12_message 9 = .ok (.iconst 1, 1) := by decide +kernel
theorem dX12_message_10 : decode cX12_message 10 = .ok (.isub, 1) := by decide +kernel
theorem dX12_message_11 : decode cX12_message 11 = .ok (.invokestatic 53, 3) := by decide +kernel
theorem dX12_message_14 : decode cX12_message 14 = .ok (.iload_n 2, 1) := by decide +kernel
theorem dX12_message_15 : decode cX12_message 15 = .ok (.iconst 0, 1) := by decide +kernel
theorem dX12_message_16 : decode cX12_message 16 = .ok (.bipush 7, 2) := by decide +kernel
theorem dX12_message_18 : decode cX12_message 18 = .ok (.invokestatic 53, 3) := by decide +kernel
theorem dX12_message_21 : decode cX12_message 21 = .ok (.invokevirtual 363, 3) := by decide +kernel
theorem dX12_message_24 : decode cX12_message 24 = .ok (.ifCond .eq 12, 3) := by decide +kernel
theorem dX12_message_27 : decode cX12_message 27 = .ok (.aload_n 0, 1) := by decide +kernel
theorem dX12_message_28 : decode cX12_message 28 = .ok (.iload_n 1, 1) := by decide +kernel
theorem dX12_message_29 : decode cX12_message 29 = .ok (.iload_n 2, 1) := by decide +kernel
theorem dX12_message_30 : decode cX12_message 30 = .ok (.invokevirtual 65, 3) := by decide +kernel
theorem dX12_message_33 : decode cX12_message 33 = .ok (.goto 4, 3) := by decide +kernel
theorem dX12_message_36 : decode cX12_message 36 = .ok (.iconst 0, 1) := by decide +kernel
theorem dX12_message_37 : decode cX12_message 37 = .ok (.ireturn, 1) := by decide +kernel
theorem dX12_inRow_0 : decode cX12_inRow 0 = .ok (.aload_n 0, 1) := by decide +kernel
theorem dX12_inRow_1 : decode cX12_inRow 1 = .ok (.aload_n 0, 1) := by decide +kernel
theorem dX12_inRow_2 : decode cX12_inRow 2 = .ok (.iload_n 1, 1) := by decide +kernel
theorem dX12_inRow_3 : decode cX12_inRow 3 = .ok (.invokevirtual 360, 3) := by decide +kernel
theorem dX12_inRow_6 : decode cX12_inRow 6 = .ok (.iload_n 2, 1) := by decide +kernel
theorem dX12_inRow_7 : decode cX12_inRow 7 = .ok (.iconst 0, 1) := by decide +kernel
theorem dX12_inRow_8 : decode cX12_inRow 8 = .ok (.iconst 2, 1) := by decide +kernel
theorem dX12_inRow_9 : decode cX12_inRow 9 = .ok (.invokestatic 53, 3) := by decide +kernel
theorem dX12_inRow_12 : decode cX12_inRow 12 = .ok (.invokevirtual 363, 3) := by decide +kernel
theorem dX12_inRow_15 : decode cX12_inRow 15 = .ok (.ifCond .ne 5, 3) := by decide +kernel
theorem dX12_inRow_18 : decode cX12_inRow 18 = .ok (.iconst 0, 1) := by decide +kernel
theorem dX12_inRow_19 : decode cX12_inRow 19 = .ok (.ireturn, 1) := by decide +kernel
theorem dX12_inRow_20 : decode cX12_inRow 20 = .ok (.iload_n 3, 1) := by decide +kernel
theorem dX12_inRow_21 : decode cX12_inRow 21 = .ok (.ifCond .ge 7, 3) := by decide +kernel
theorem dX12_inRow_24 : decode cX12_inRow 24 = .ok (.iconst (-1), 1) := by decide +kernel
theorem dX12_inRow_25 : decode cX12_inRow 25 = .ok (.goto 10, 3) := by decide +kernel
theorem dX12_inRow_28 : decode cX12_inRow 28 = .ok (.aload_n 0, 1) := by decide +kernel
theorem dX12_inRow_29 : decode cX12_inRow 29 = .ok (.iload_n 1, 1) := by decide +kernel
theorem dX12_inRow_30 : decode cX12_inRow 30 = .ok (.iload_n 2, 1) := by decide +kernel
theorem dX12_inRow_31 : decode cX12_inRow 31 = .ok (.iload_n 3, 1) := by decide +kernel
theorem dX12_inRow_32 : decode cX12_inRow 32 = .ok (.invokevirtual 78, 3) := by decide +kernel
theorem dX12_inRow_35 : decode cX12_inRow 35 = .ok (.ireturn, 1) := by decide +kernel
theorem dX12_place_0 : decode cX12_place 0 = .ok (.aload_n 0, 1) := by decide +kernel
theorem dX12_place_1 : decode cX12_place 1 = .ok (.iload_n 1, 1) := by decide +kernel
theorem dX12_place_2 : decode cX12_place 2 = .ok (.iconst 0, 1) := by decide +kernel
theorem dX12_place_3 : decode cX12_place 3 = .ok (.aload_n 0, 1) := by decide +kernel
theorem dX12_place_4 : decode cX12_place 4 = .ok (.getfield 13, 3) := by decide +kernel
theorem dX12_place_7 : decode cX12_place 7 = .ok (.iconst 1, 1) := by decide +kernel
theorem dX12_place_8 : decode cX12_place 8 = .ok (.iaload, 1) := by decide +kernel
theorem dX12_place_9 : decode cX12_place 9 = .ok (.iconst 1, 1) := by decide +kernel
theorem dX12_place_10 : decode cX12_place 10 = .ok (.isub, 1) := by decide +kernel
theorem dX12_place_11 : decode cX12_place 11 = .ok (.invokestatic 53, 3) := by decide +kernel
theorem dX12_place_14 : decode cX12_place 14 = .ok (.iconst 1, 1) := by decide +kernel
theorem dX12_place_15 : decode cX12_place 15 = .ok (.invokevirtual 363, 3) := by decide +kernel
theorem dX12_place_18 : decode cX12_place 18 = .ok (.ifCond .eq 15, 3) := by decide +kernel
theorem dX12_place_21 : decode cX12_place 21 = .ok (.aload_n 0, 1) := by decide +kernel
theorem dX12_place_22 : decode cX12_place 22 = .ok (.getfield 13, 3) := by decide +kernel
theorem dX12_place_25 : decode cX12_place 25 = .ok (.bipush 30, 2) := by decide +kernel
theorem dX12_place_27 : decode cX12_place 27 = .ok (.iload_n 1, 1) := by decide +kernel
theorem dX12_place_28 : decode cX12_place 28 = .ok (.iadd, 1) := by decide +kernel
theorem dX12_place_29 : decode cX12_place 29 = .ok (.iaload, 1) := by decide +kernel
theorem dX12_place_30 : decode cX12_place 30 = .ok (.goto 4, 3) := by decide +kernel
theorem dX12_place_33 : decode cX12_place 33 = .ok (.iconst 0, 1) := by decide +kernel
theorem dX12_place_34 : decode cX12_place 34 = .ok (.ireturn, 1) := by decide +kernel
theorem dX12_off_0 : decode cX12_off 0 = .ok (.aload_n 0, 1) := by decide +kernel
theorem dX12_off_1 : decode cX12_off 1 = .ok (.iconst 0, 1) := by decide +kernel
theorem dX12_off_2 : decode cX12_off 2 = .ok (.putfield 1, 3) := by decide +kernel
theorem dX12_off_5 : decode cX12_off 5 = .ok (.iconst 0, 1) := by decide +kernel
theorem dX12_off_6 : decode cX12_off 6 = .ok (.istore_n 1, 1) := by decide +kernel
theorem dX12_off_7 : decode cX12_off 7 = .ok (.iconst 0, 1) := by decide +kernel
theorem dX12_off_8 : decode cX12_off 8 = .ok (.istore_n 2, 1) := by decide +kernel
theorem dX12_off_9 : decode cX12_off 9 = .ok (.iload_n 2, 1) := by decide +kernel
theorem dX12_off_10 : decode cX12_off 10 = .ok (.aload_n 0, 1) := by decide +kernel
theorem dX12_off_11 : decode cX12_off 11 = .ok (.invokevirtual 49, 3) := by decide +kernel
theorem dX12_off_14 : decode cX12_off 14 = .ok (.if_icmp .ge 24, 3) := by decide +kernel
theorem dX12_off_17 : decode cX12_off 17 = .ok (.aload_n 0, 1) := by decide +kernel
theorem dX12_off_18 : decode cX12_off 18 = .ok (.iload_n 2, 1) := by decide +kernel
theorem dX12_off_19 : decode cX12_off 19 = .ok (.iconst 4, 1) := by decide +kernel
theorem dX12_off_20 : decode cX12_off 20 = .ok (.invokevirtual 57, 3) := by decide +kernel
theorem dX12_off_23 : decode cX12_off 23 = .ok (.ifCond .ne 9, 3) := by decide +kernel
theorem dX12_off_26 : decode cX12_off 26 = .ok (.iload_n 1, 1) := by decide +kernel
theorem dX12_off_27 : decode cX12_off 27 = .ok (.iconst 1, 1) := by decide +kernel
theorem dX12_off_28 : decode cX12_off 28 = .ok (.iload_n 2, 1) := by decide +kernel
theorem dX12_off_29 : decode cX12_off 29 = .ok (.ishl, 1) := by decide +kernel
theorem dX12_off_30 : decode cX12_off 30 = .ok (.ior, 1) := by decide +kernel
theorem dX12_off_31 : decode cX12_off 31 = .ok (.istore_n 1, 1) := by decide +kernel
theorem dX12_off_32 : decode cX12_off 32 = .ok (.iinc 2 1, 3) := by decide +kernel
theorem dX12_off_35 : decode cX12_off 35 = .ok (.goto (-26), 3) := by decide +kernel
theorem dX12_off_38 : decode cX12_off 38 = .ok (.iload_n 1, 1) := by decide +kernel
theorem dX12_off_39 : decode cX12_off 39 = .ok (.ireturn, 1) := by decide +kernel
theorem dX12_turn_0 : decode cX12_turn 0 = .ok (.aload_n 0, 1) := by decide +kernel
theorem dX12_turn_1 : decode cX12_turn 1 = .ok (.iload_n 1, 1) := by decide +kernel
theorem dX12_turn_2 : decode cX12_turn 2 = .ok (.iconst 0, 1) := by decide +kernel
theorem dX12_turn_3 : decode cX12_turn 3 = .ok (.aload_n 0, 1) := by decide +kernel
theorem dX12_turn_4 : decode cX12_turn 4 = .ok (.getfield 13, 3) := by decide +kernel
theorem dX12_turn_7 : decode cX12_turn 7 = .ok (.bipush 29, 2) := by decide +kernel
theorem dX12_turn_9 : decode cX12_turn 9 = .ok (.iaload, 1) := by decide +kernel
theorem dX12_turn_10 : decode cX12_turn 10 = .ok (.iconst 1, 1) := by decide +kernel
theorem dX12_turn_11 : decode cX12_turn 11 = .ok (.isub, 1) := by decide +kernel
theorem dX12_turn_12 : decode cX12_turn 12 = .ok (.invokestatic 53, 3) := by decide +kernel
theorem dX12_turn_15 : decode cX12_turn 15 = .ok (.iload_n 2, 1) := by decide +kernel
theorem dX12_turn_16 : decode cX12_turn 16 = .ok (.iconst 0, 1) := by decide +kernel
theorem dX12_turn_17 : decode cX12_turn 17 = .ok (.iconst 4, 1) := by decide +kernel
theorem dX12_turn_18 : decode cX12_turn 18 = .ok (.invokestatic 53, 3) := by decide +kernel
theorem dX12_turn_21 : decode cX12_turn 21 = .ok (.invokevirtual 363, 3) := by decide +kernel
theorem dX12_turn_24 : decode cX12_turn 24 = .ok (.ifCond .eq 30, 3) := by decide +kernel
theorem dX12_turn_27 : decode cX12_turn 27 = .ok (.aload_n 0, 1) := by decide +kernel
theorem dX12_turn_28 : decode cX12_turn 28 = .ok (.getfield 13, 3) := by decide +kernel
theorem dX12_turn_31 : decode cX12_turn 31 = .ok (.sipush 700, 3) := by decide +kernel
theorem dX12_turn_34 : decode cX12_turn 34 = .ok (.iconst 5, 1) := by decide +kernel
theorem dX12_turn_35 : decode cX12_turn 35 = .ok (.aload_n 0, 1) := by decide +kernel
theorem dX12_turn_36 : decode cX12_turn 36 = .ok (.getfield 13, 3) := by decide +kernel
theorem dX12_turn_39 : decode cX12_turn 39 = .ok (.bipush 29, 2) := by decide +kernel
theorem dX12_turn_41 : decode cX12_turn 41 = .ok (.iaload, 1) := by decide +kernel
theorem dX12_turn_42 : decode cX12_turn 42 = .ok (.iconst 1, 1) := by decide +kernel
theorem dX12_turn_43 : decode cX12_turn 43 = .ok (.isub, 1) := by decide +kernel
theorem dX12_turn_44 : decode cX12_turn 44 = .ok (.iload_n 1, 1) := by decide +kernel
theorem dX12_turn_45 : decode cX12_turn 45 = .ok (.isub, 1) := by decide +kernel
theorem dX12_turn_46 : decode cX12_turn 46 = .ok (.imul, 1) := by decide +kernel
theorem dX12_turn_47 : decode cX12_turn 47 = .ok (.iadd, 1) := by decide +kernel
theorem dX12_turn_48 : decode cX12_turn 48 = .ok (.iload_n 2, 1) := by decide +kernel
theorem dX12_turn_49 : decode cX12_turn 49 = .ok (.iadd, 1) := by decide +kernel
theorem dX12_turn_50 : decode cX12_turn 50 = .ok (.iaload, 1) := by decide +kernel
theorem dX12_turn_51 : decode cX12_turn 51 = .ok (.goto 4, 3) := by decide +kernel
theorem dX12_turn_54 : decode cX12_turn 54 = .ok (.iconst 0, 1) := by decide +kernel
theorem dX12_turn_55 : decode cX12_turn 55 = .ok (.ireturn, 1) := by decide +kernel
theorem dX12_nextKind_0 : decode cX12_nextKind 0 = .ok (.aload_n 0, 1) := by decide +kernel
theorem dX12_nextKind_1 : decode cX12_nextKind 1 = .ok (.iconst 0, 1) := by decide +kernel
theorem dX12_nextKind_2 : decode cX12_nextKind 2 = .ok (.putfield 1, 3) := by decide +kernel
theorem dX12_nextKind_5 : decode cX12_nextKind 5 = .ok (.aload_n 0, 1) := by decide +kernel
theorem dX12_nextKind_6 : decode cX12_nextKind 6 = .ok (.invokevirtual 153, 3) := by decide +kernel
theorem dX12_nextKind_9 : decode cX12_nextKind 9 = .ok (.ireturn, 1) := by decide +kernel
theorem dX12_nextTerminal_0 : decode cX12_nextTerminal 0 = .ok (.aload_n 0, 1) := by decide +kernel
theorem dX12_nextTerminal_1 : decode cX12_nextTerminal 1 = .ok (.iconst 0, 1) := by decide +kernel
theorem dX12_nextTerminal_2 : decode cX12_nextTerminal 2 = .ok (.putfield 1, 3) := by decide +kernel
theorem dX12_nextTerminal_5 : decode cX12_nextTerminal 5 = .ok (.aload_n 0, 1) := by decide +kernel
theorem dX12_nextTerminal_6 : decode cX12_nextTerminal 6 = .ok (.invokevirtual 153, 3) := by decide +kernel
theorem dX12_nextTerminal_9 : decode cX12_nextTerminal 9 = .ok (.iconst 3, 1) := by decide +kernel
theorem dX12_nextTerminal_10 : decode cX12_nextTerminal 10 = .ok (.if_icmp .ne 7, 3) := by decide +kernel
theorem dX12_nextTerminal_13 : decode cX12_nextTerminal 13 = .ok (.iconst (-1), 1) := by decide +kernel
theorem dX12_nextTerminal_14 : decode cX12_nextTerminal 14 = .ok (.goto 7, 3) := by decide +kernel
theorem dX12_nextTerminal_17 : decode cX12_nextTerminal 17 = .ok (.aload_n 0, 1) := by decide +kernel
theorem dX12_nextTerminal_18 : decode cX12_nextTerminal 18 = .ok (.getfield 140, 3) := by decide +kernel
theorem dX12_nextTerminal_21 : decode cX12_nextTerminal 21 = .ok (.ireturn, 1) := by decide +kernel
theorem dX12_gap_0 : decode cX12_gap 0 = .ok (.aload_n 0, 1) := by decide +kernel
theorem dX12_gap_1 : decode cX12_gap 1 = .ok (.iconst 0, 1) := by decide +kernel
theorem dX12_gap_2 : decode cX12_gap 2 = .ok (.putfield 1, 3) := by decide +kernel
theorem dX12_gap_5 : decode cX12_gap 5 = .ok (.aload_n 0, 1) := by decide +kernel
theorem dX12_gap_6 : decode cX12_gap 6 = .ok (.getfield 13, 3) := by decide +kernel
theorem dX12_gap_9 : decode cX12_gap 9 = .ok (.iconst 2, 1) := by decide +kernel
theorem dX12_gap_10 : decode cX12_gap 10 = .ok (.iaload, 1) := by decide +kernel
theorem dX12_gap_11 : decode cX12_gap 11 = .ok (.aload_n 0, 1) := by decide +kernel
theorem dX12_gap_12 : decode cX12_gap 12 = .ok (.iconst 0, 1) := by decide +kernel
theorem dX12_gap_13 : decode cX12_gap 13 = .ok (.invokevirtual 168, 3) := by decide +kernel
theorem dX12_gap_16 : decode cX12_gap 16 = .ok (.isub, 1) := by decide +kernel
theorem dX12_gap_17 : decode cX12_gap 17 = .ok (.aload_n 0, 1) := by decide +kernel
theorem dX12_gap_18 : decode cX12_gap 18 = .ok (.iconst 1, 1) := by decide +kernel
theorem dX12_gap_19 : decode cX12_gap 19 = .ok (.invokevirtual 168, 3) := by decide +kernel
theorem dX12_gap_22 : decode cX12_gap 22 = .ok (.isub, 1) := by decide +kernel
theorem dX12_gap_23 : decode cX12_gap 23 = .ok (.aload_n 0, 1) := by decide +kernel
theorem dX12_gap_24 : decode cX12_gap 24 = .ok (.iconst 2, 1) := by decide +kernel
theorem dX12_gap_25 : decode cX12_gap 25 = .ok (.invokevirtual 168, 3) := by decide +kernel
theorem dX12_gap_28 : decode cX12_gap 28 = .ok (.isub, 1) := by decide +kernel
theorem dX12_gap_29 : decode cX12_gap 29 = .ok (.aload_n 0, 1) := by decide +kernel
theorem dX12_gap_30 : decode cX12_gap 30 = .ok (.iconst 3, 1) := by decide +kernel
theorem dX12_gap_31 : decode cX12_gap 31 = .ok (.invokevirtual 168, 3) := by decide +kernel
theorem dX12_gap_34 : decode cX12_gap 34 = .ok (.isub, 1) := by decide +kernel
theorem dX12_gap_35 : decode cX12_gap 35 = .ok (.ireturn, 1) := by decide +kernel
theorem dX12_trial_0 : decode cX12_trial 0 = .ok (.aload_n 0, 1) := by decide +kernel
theorem dX12_trial_1 : decode cX12_trial 1 = .ok (.getfield 13, 3) := by decide +kernel
theorem dX12_trial_4 : decode cX12_trial 4 = .ok (.iconst 0, 1) := by decide +kernel
theorem dX12_trial_5 : decode cX12_trial 5 = .ok (.aload_n 0, 1) := by decide +kernel
theorem dX12_trial_6 : decode cX12_trial 6 = .ok (.getfield 36, 3) := by decide +kernel
theorem dX12_trial_9 : decode cX12_trial 9 = .ok (.iconst 0, 1) := by decide +kernel
theorem dX12_trial_10 : decode cX12_trial 10 = .ok (.sipush 800, 3) := by decide +kernel
theorem dX12_trial_13 : decode cX12_trial 13 = .ok (.invokestatic 149, 3) := by decide +kernel
theorem dX12_trial_16 : decode cX12_trial 16 = .ok (.return_, 1) := by decide +kernel
theorem dX12_back_0 : decode cX12_back 0 = .ok (.aload_n 0, 1) := by decide +kernel
theorem dX12_back_1 : decode cX12_back 1 = .ok (.getfield 36, 3) := by decide +kernel
theorem dX12_back_4 : decode cX12_back 4 = .ok (.iconst 0, 1) := by decide +kernel
theorem dX12_back_5 : decode cX12_back 5 = .ok (.aload_n 0, 1) := by decide +kernel
theorem dX12_back_6 : decode cX12_back 6 = .ok (.getfield 13, 3) := by decide +kernel
theorem dX12_back_9 : decode cX12_back 9 = .ok (.iconst 0, 1) := by decide +kernel
theorem dX12_back_10 : decode cX12_back 10 = .ok (.sipush 800, 3) := by decide +kernel
theorem dX12_back_13 : decode cX12_back 13 = .ok (.invokestatic 149, 3) := by decide +kernel
theorem dX12_back_16 : decode cX12_back 16 = .ok (.iload_n 1, 1) := by decide +kernel
theorem dX12_back_17 : decode cX12_back 17 = .ok (.ireturn, 1) := by decide +kernel
theorem dX12_deliveredBy_0 : decode cX12_deliveredBy 0 = .ok (.aload_n 0, 1) := by decide +kernel
theorem dX12_deliveredBy_1 : decode cX12_deliveredBy 1 = .ok (.iload_n 1, 1) := by decide +kernel
theorem dX12_deliveredBy_2 : decode cX12_deliveredBy 2 = .ok (.invokevirtual 336, 3) := by decide +kernel
theorem dX12_deliveredBy_5 : decode cX12_deliveredBy 5 = .ok (.istore_n 2, 1) := by decide +kernel
theorem dX12_deliveredBy_6 : decode cX12_deliveredBy 6 = .ok (.aload_n 0, 1) := by decide +kernel
theorem dX12_deliveredBy_7 : decode cX12_deliveredBy 7 = .ok (.aload_n 0, 1) := by decide +kernel
theorem dX12_deliveredBy_8 : decode cX12_deliveredBy 8 = .ok (.iconst 3, 1) := by decide +kernel
theorem dX12_deliveredBy_9 : decode cX12_deliveredBy 9 = .ok (.invokevirtual 168, 3) := by decide +kernel
theorem dX12_deliveredBy_12 : decode cX12_deliveredBy 12 = .ok (.invokevirtual 376, 3) := by decide +kernel
theorem dX12_deliveredBy_15 : decode cX12_deliveredBy 15 = .ok (.ireturn, 1) := by decide +kernel
theorem dX12_deliveredIn_0 : decode cX12_deliveredIn 0 = .ok (.aload_n 0, 1) := by decide +kernel
theorem dX12_deliveredIn_1 : decode cX12_deliveredIn 1 = .ok (.iload_n 1, 1) := by decide +kernel
theorem dX12_deliveredIn_2 : decode cX12_deliveredIn 2 = .ok (.iconst 0, 1) := by decide +kernel
theorem dX12_deliveredIn_3 : decode cX12_deliveredIn 3 = .ok (.bipush 100, 2) := by decide +kernel
theorem dX12_deliveredIn_5 : decode cX12_deliveredIn 5 = .ok (.invokestatic 53, 3) := by decide +kernel
theorem dX12_deliveredIn_8 : decode cX12_deliveredIn 8 = .ok (.iconst 1, 1) := by decide +kernel
theorem dX12_deliveredIn_9 : decode cX12_deliveredIn 9 = .ok (.invokevirtual 363, 3) := by decide +kernel
theorem dX12_deliveredIn_12 : decode cX12_deliveredIn 12 = .ok (.ifCond .ne 5, 3) := by decide +kernel
theorem dX12_deliveredIn_15 : decode cX12_deliveredIn 15 = .ok (.iconst 0, 1) := by decide +kernel
theorem dX12_deliveredIn_16 : decode cX12_deliveredIn 16 = .ok (.ireturn, 1) := by decide +kernel
theorem dX12_deliveredIn_17 : decode cX12_deliveredIn 17 = .ok (.aload_n 0, 1) := by decide +kernel
theorem dX12_deliveredIn_18 : decode cX12_deliveredIn 18 = .ok (.invokevirtual 379, 3) := by decide +kernel
theorem dX12_deliveredIn_21 : decode cX12_deliveredIn 21 = .ok (.aload_n 0, 1) := by decide +kernel
theorem dX12_deliveredIn_22 : decode cX12_deliveredIn 22 = .ok (.iload_n 1, 1) := by decide +kernel
theorem dX12_deliveredIn_23 : decode cX12_deliveredIn 23 = .ok (.invokevirtual 382, 3) := by decide +kernel
theorem dX12_deliveredIn_26 : decode cX12_deliveredIn 26 = .ok (.ireturn, 1) := by decide +kernel
theorem dX12_timeIn_0 : decode cX12_timeIn 0 = .ok (.aload_n 0, 1) := by decide +kernel
theorem dX12_timeIn_1 : decode cX12_timeIn 1 = .ok (.iload_n 1, 1) := by decide +kernel
theorem dX12_timeIn_2 : decode cX12_timeIn 2 = .ok (.iconst 0, 1) := by decide +kernel
theorem dX12_timeIn_3 : decode cX12_timeIn 3 = .ok (.bipush 100, 2) := by decide +kernel
theorem dX12_timeIn_5 : decode cX12_timeIn 5 = .ok (.invokestatic 53, 3) := by decide +kernel
theorem dX12_timeIn_8 : decode cX12_timeIn 8 = .ok (.iconst 1, 1) := by decide +kernel
theorem dX12_timeIn_9 : decode cX12_timeIn 9 = .ok (.invokevirtual 363, 3) := by decide +kernel
theorem dX12_timeIn_12 : decode cX12_timeIn 12 = .ok (.ifCond .ne 5, 3) := by decide +kernel
theorem dX12_timeIn_15 : decode cX12_timeIn 15 = .ok (.iconst 0, 1) := by decide +kernel
theorem dX12_timeIn_16 : decode cX12_timeIn 16 = .ok (.ireturn, 1) := by decide +kernel
theorem dX12_timeIn_17 : decode cX12_timeIn 17 = .ok (.aload_n 0, 1) := by decide +kernel
theorem dX12_timeIn_18 : decode cX12_timeIn 18 = .ok (.invokevirtual 379, 3) := by decide +kernel
theorem dX12_timeIn_21 : decode cX12_timeIn 21 = .ok (.aload_n 0, 1) := by decide +kernel
theorem dX12_timeIn_22 : decode cX12_timeIn 22 = .ok (.iload_n 1, 1) := by decide +kernel
theorem dX12_timeIn_23 : decode cX12_timeIn 23 = .ok (.invokevirtual 336, 3) := by decide +kernel
theorem dX12_timeIn_26 : decode cX12_timeIn 26 = .ok (.istore_n 2, 1) := by decide +kernel
theorem dX12_timeIn_27 : decode cX12_timeIn 27 = .ok (.aload_n 0, 1) := by decide +kernel
theorem dX12_timeIn_28 : decode cX12_timeIn 28 = .ok (.aload_n 0, 1) := by decide +kernel
theorem dX12_timeIn_29 : decode cX12_timeIn 29 = .ok (.getfield 13, 3) := by decide +kernel
theorem dX12_timeIn_32 : decode cX12_timeIn 32 = .ok (.iconst 3, 1) := by decide +kernel
theorem dX12_timeIn_33 : decode cX12_timeIn 33 = .ok (.iaload, 1) := by decide +kernel
theorem dX12_timeIn_34 : decode cX12_timeIn 34 = .ok (.invokevirtual 376, 3) := by decide +kernel
theorem dX12_timeIn_37 : decode cX12_timeIn 37 = .ok (.ireturn, 1) := by decide +kernel
theorem dX12_deliversIn_0 : decode cX12_deliversIn 0 = .ok (.aload_n 0, 1) := by decide +kernel
theorem dX12_deliversIn_1 : decode cX12_deliversIn 1 = .ok (.iload_n 1, 1) := by decide +kernel
theorem dX12_deliversIn_2 : decode cX12_deliversIn 2 = .ok (.iconst 0, 1) := by decide +kernel
theorem dX12_deliversIn_3 : decode cX12_deliversIn 3 = .ok (.aload_n 0, 1) := by decide +kernel
theorem dX12_deliversIn_4 : decode cX12_deliversIn 4 = .ok (.getfield 13, 3) := by decide +kernel
theorem dX12_deliversIn_7 : decode cX12_deliversIn 7 = .ok (.iconst 2, 1) := by decide +kernel
theorem dX12_deliversIn_8 : decode cX12_deliversIn 8 = .ok (.iaload, 1) := by decide +kernel
theorem dX12_deliversIn_9 : decode cX12_deliversIn 9 = .ok (.iconst 1, 1) := by decide +kernel
theorem dX12_deliversIn_10 : decode cX12_deliversIn 10 = .ok (.isub, 1) := by decide +kernel
theorem dX12_deliversIn_11 : decode cX12_deliversIn 11 = .ok (.invokestatic 53, 3) := by decide +kernel
theorem dX12_deliversIn_14 : decode cX12_deliversIn 14 = .ok (.iconst 1, 1) := by decide +kernel
theorem dX12_deliversIn_15 : decode cX12_deliversIn 15 = .ok (.invokevirtual 363, 3) := by decide +kernel
theorem dX12_deliversIn_18 : decode cX12_deliversIn 18 = .ok (.ifCond .ne 5, 3) := by decide +kernel
theorem dX12_deliversIn_21 : decode cX12_deliversIn 21 = .ok (.iconst 0, 1) := by decide +kernel
theorem dX12_deliversIn_22 : decode cX12_deliversIn 22 = .ok (.ireturn, 1) := by decide +kernel
theorem dX12_deliversIn_23 : decode cX12_deliversIn 23 = .ok (.aload_n 0, 1) := by decide +kernel
theorem dX12_deliversIn_24 : decode cX12_deliversIn 24 = .ok (.invokevirtual 379, 3) := by decide +kernel
theorem dX12_deliversIn_27 : decode cX12_deliversIn 27 = .ok (.iconst 0, 1) := by decide +kernel
theorem dX12_deliversIn_28 : decode cX12_deliversIn 28 = .ok (.istore_n 2, 1) := by decide +kernel
theorem dX12_deliversIn_29 : decode cX12_deliversIn 29 = .ok (.iload_n 2, 1) := by decide +kernel
theorem dX12_deliversIn_30 : decode cX12_deliversIn 30 = .ok (.sipush 200, 3) := by decide +kernel
theorem dX12_deliversIn_33 : decode cX12_deliversIn 33 = .ok (.if_icmp .gt 24, 3) := by decide +kernel
theorem dX12_deliversIn_36 : decode cX12_deliversIn 36 = .ok (.aload_n 0, 1) := by decide +kernel
theorem dX12_deliversIn_37 : decode cX12_deliversIn 37 = .ok (.iload_n 1, 1) := by decide +kernel
theorem dX12_deliversIn_38 : decode cX12_deliversIn 38 = .ok (.iconst 3, 1) := by decide +kernel
theorem dX12_deliversIn_39 : decode cX12_deliversIn 39 = .ok (.invokevirtual 65, 3) := by decide +kernel
theorem dX12_deliversIn_42 : decode cX12_deliversIn 42 = .ok (.iconst 3, 1) := by decide +kernel
theorem dX12_deliversIn_43 : decode cX12_deliversIn 43 = .ok (.if_icmp .eq 14, 3) := by decide +kernel
theorem dX12_deliversIn_46 : decode cX12_deliversIn 46 = .ok (.aload_n 0, 1) := by decide +kernel
theorem dX12_deliversIn_47 : decode cX12_deliversIn 47 = .ok (.invokevirtual 171, 3) := by decide +kernel
theorem dX12_deliversIn_50 : decode cX12_deliversIn 50 = .ok (.iload_n 2, 1) := by decide +kernel
theorem dX12_deliversIn_51 : decode cX12_deliversIn 51 = .ok (.iconst 1, 1) := by decide +kernel
theorem dX12_deliversIn_52 : decode cX12_deliversIn 52 = .ok (.iadd, 1) := by decide +kernel
theorem dX12_deliversIn_53 : decode cX12_deliversIn 53 = .ok (.istore_n 2, 1) := by decide +kernel
theorem dX12_deliversIn_54 : decode cX12_deliversIn 54 = .ok (.goto (-25), 3) := by decide +kernel
theorem dX12_deliversIn_57 : decode cX12_deliversIn 57 = .ok (.aload_n 0, 1) := by decide +kernel
theorem dX12_deliversIn_58 : decode cX12_deliversIn 58 = .ok (.iload_n 2, 1) := by decide +kernel
theorem dX12_deliversIn_59 : decode cX12_deliversIn 59 = .ok (.sipush 200, 3) := by decide +kernel
theorem dX12_deliversIn_62 : decode cX12_deliversIn 62 = .ok (.if_icmp .le 7, 3) := by decide +kernel
theorem dX12_deliversIn_65 : decode cX12_deliversIn 65 = .ok (.iconst (-1), 1) := by decide +kernel
theorem dX12_deliversIn_66 : decode cX12_deliversIn 66 = .ok (.goto 4, 3) := by decide +kernel
theorem dX12_deliversIn_69 : decode cX12_deliversIn 69 = .ok (.iload_n 2, 1) := by decide +kernel
theorem dX12_deliversIn_70 : decode cX12_deliversIn 70 = .ok (.invokevirtual 376, 3) := by decide +kernel
theorem dX12_deliversIn_73 : decode cX12_deliversIn 73 = .ok (.ireturn, 1) := by decide +kernel
theorem dX12_quietIn_0 : decode cX12_quietIn 0 = .ok (.aload_n 0, 1) := by decide +kernel
theorem dX12_quietIn_1 : decode cX12_quietIn 1 = .ok (.iconst 0, 1) := by decide +kernel
theorem dX12_quietIn_2 : decode cX12_quietIn 2 = .ok (.putfield 1, 3) := by decide +kernel
theorem dX12_quietIn_5 : decode cX12_quietIn 5 = .ok (.aload_n 0, 1) := by decide +kernel
theorem dX12_quietIn_6 : decode cX12_quietIn 6 = .ok (.invokevirtual 379, 3) := by decide +kernel
theorem dX12_quietIn_9 : decode cX12_quietIn 9 = .ok (.iconst 0, 1) := by decide +kernel
theorem dX12_quietIn_10 : decode cX12_quietIn 10 = .ok (.istore_n 1, 1) := by decide +kernel
theorem dX12_quietIn_11 : decode cX12_quietIn 11 = .ok (.iload_n 1, 1) := by decide +kernel
theorem dX12_quietIn_12 : decode cX12_quietIn 12 = .ok (.sipush 200, 3) := by decide +kernel
theorem dX12_quietIn_15 : decode cX12_quietIn 15 = .ok (.if_icmp .gt 28, 3) := by decide +kernel
theorem dX12_quietIn_18 : decode cX12_quietIn 18 = .ok (.aload_n 0, 1) := by decide +kernel
theorem dX12_quietIn_19 : decode cX12_quietIn 19 = .ok (.iconst 3, 1) := by decide +kernel
theorem dX12_quietIn_20 : decode cX12_quietIn 20 = .ok (.invokevirtual 168, 3) := by decide +kernel
theorem dX12_quietIn_23 : decode cX12_quietIn 23 = .ok (.aload_n 0, 1) := by decide +kernel
theorem dX12_quietIn_24 : decode cX12_quietIn 24 = .ok (.getfield 13, 3) := by decide +kernel
theorem dX12_quietIn_27 : decode cX12_quietIn 27 = .ok (.iconst 2, 1) := by decide +kernel
theorem dX12_quietIn_28 : decode cX12_quietIn 28 = .ok (.iaload, 1) := by decide +kernel
theorem dX12_quietIn_29 : decode cX12_quietIn 29 = .ok (.if_icmp .ge 14, 3) := by decide +kernel
theorem dX12_quietIn_32 : decode cX12_quietIn 32 = .ok (.aload_n 0, 1) := by decide +kernel
theorem dX12_quietIn_33 : decode cX12_quietIn 33 = .ok (.invokevirtual 171, 3) := by decide +kernel
theorem dX12_quietIn_36 : decode cX12_quietIn 36 = .ok (.iload_n 1, 1) := by decide +kernel
theorem dX12_quietIn_37 : decode cX12_quietIn 37 = .ok (.iconst 1, 1) := by decide +kernel
theorem dX12_quietIn_38 : decode cX12_quietIn 38 = .ok (.iadd, 1) := by decide +kernel
theorem dX12_quietIn_39 : decode cX12_quietIn 39 = .ok (.istore_n 1, 1) := by decide +kernel
theorem dX12_quietIn_40 : decode cX12_quietIn 40 = .ok (.goto (-29), 3) := by decide +kernel
theorem dX12_quietIn_43 : decode cX12_quietIn 43 = .ok (.aload_n 0, 1) := by decide +kernel
theorem dX12_quietIn_44 : decode cX12_quietIn 44 = .ok (.iload_n 1, 1) := by decide +kernel
theorem dX12_quietIn_45 : decode cX12_quietIn 45 = .ok (.sipush 200, 3) := by decide +kernel
theorem dX12_quietIn_48 : decode cX12_quietIn 48 = .ok (.if_icmp .le 7, 3) := by decide +kernel
theorem dX12_quietIn_51 : decode cX12_quietIn 51 = .ok (.iconst (-1), 1) := by decide +kernel
theorem dX12_quietIn_52 : decode cX12_quietIn 52 = .ok (.goto 4, 3) := by decide +kernel
theorem dX12_quietIn_55 : decode cX12_quietIn 55 = .ok (.iload_n 1, 1) := by decide +kernel
theorem dX12_quietIn_56 : decode cX12_quietIn 56 = .ok (.invokevirtual 376, 3) := by decide +kernel
theorem dX12_quietIn_59 : decode cX12_quietIn 59 = .ok (.ireturn, 1) := by decide +kernel
theorem dX12_switchesIn_0 : decode cX12_switchesIn 0 = .ok (.aload_n 0, 1) := by decide +kernel
theorem dX12_switchesIn_1 : decode cX12_switchesIn 1 = .ok (.aload_n 0, 1) := by decide +kernel
theorem dX12_switchesIn_2 : decode cX12_switchesIn 2 = .ok (.iload_n 1, 1) := by decide +kernel
theorem dX12_switchesIn_3 : decode cX12_switchesIn 3 = .ok (.invokevirtual 360, 3) := by decide +kernel
theorem dX12_switchesIn_6 : decode cX12_switchesIn 6 = .ok (.iconst 1, 1) := by decide +kernel
theorem dX12_switchesIn_7 : decode cX12_switchesIn 7 = .ok (.invokevirtual 363, 3) := by decide +kernel
theorem dX12_switchesIn_10 : decode cX12_switchesIn 10 = .ok (.ifCond .ne 5, 3) := by decide +kernel
theorem dX12_switchesIn_13 : decode cX12_switchesIn 13 = .ok (.iconst 0, 1) := by decide +kernel
theorem dX12_switchesIn_14 : decode cX12_switchesIn 14 = .ok (.ireturn, 1) := by decide +kernel
theorem dX12_switchesIn_15 : decode cX12_switchesIn 15 = .ok (.aload_n 0, 1) := by decide +kernel
theorem dX12_switchesIn_16 : decode cX12_switchesIn 16 = .ok (.invokevirtual 379, 3) := by decide +kernel
theorem dX12_switchesIn_19 : decode cX12_switchesIn 19 = .ok (.aload_n 0, 1) := by decide +kernel
theorem dX12_switchesIn_20 : decode cX12_switchesIn 20 = .ok (.iload_n 1, 1) := by decide +kernel
theorem dX12_switchesIn_21 : decode cX12_switchesIn 21 = .ok (.iconst 4, 1) := by decide +kernel
theorem dX12_switchesIn_22 : decode cX12_switchesIn 22 = .ok (.invokevirtual 57, 3) := by decide +kernel
theorem dX12_switchesIn_25 : decode cX12_switchesIn 25 = .ok (.istore_n 2, 1) := by decide +kernel
theorem dX12_switchesIn_26 : decode cX12_switchesIn 26 = .ok (.iconst 0, 1) := by decide +kernel
theorem dX12_switchesIn_27 : decode cX12_switchesIn 27 = .ok (.istore_n 3, 1) := by decide +kernel
theorem dX12_switchesIn_28 : decode cX12_switchesIn 28 = .ok (.iload_n 3, 1) := by decide +kernel
theorem dX12_switchesIn_29 : decode cX12_switchesIn 29 = .ok (.sipush 200, 3) := by decide +kernel
theorem dX12_switchesIn_32 : decode cX12_switchesIn 32 = .ok (.if_icmp .gt 24, 3) := by decide +kernel
theorem dX12_switchesIn_35 : decode cX12_switchesIn 35 = .ok (.aload_n 0, 1) := by decide +kernel
theorem dX12_switchesIn_36 : decode cX12_switchesIn 36 = .ok (.iload_n 1, 1) := by decide +kernel
theorem dX12_switchesIn_37 : decode cX12_switchesIn 37 = .ok (.iconst 4, 1) := by decide +kernel
theorem dX12_switchesIn_38 : decode cX12_switchesIn 38 = .ok (.invokevirtual 57, 3) := by decide +kernel
theorem dX12_switchesIn_41 : decode cX12_switchesIn 41 = .ok (.iload_n 2, 1) := by decide +kernel
theorem dX12_switchesIn_42 : decode cX12_switchesIn 42 = .ok (.if_icmp .ne 14, 3) := by decide +kernel
theorem dX12_switchesIn_45 : decode cX12_switchesIn 45 = .ok (.aload_n 0, 1) := by decide +kernel
theorem dX12_switchesIn_46 : decode cX12_switchesIn 46 = .ok (.invokevirtual 171, 3) := by decide +kernel
theorem dX12_switchesIn_49 : decode cX12_switchesIn 49 = .ok (.iload_n 3, 1) := by decide +kernel
theorem dX12_switchesIn_50 : decode cX12_switchesIn 50 = .ok (.iconst 1, 1) := by decide +kernel
theorem dX12_switchesIn_51 : decode cX12_switchesIn 51 = .ok (.iadd, 1) := by decide +kernel
theorem dX12_switchesIn_52 : decode cX12_switchesIn 52 = .ok (.istore_n 3, 1) := by decide +kernel
theorem dX12_switchesIn_53 : decode cX12_switchesIn 53 = .ok (.goto (-25), 3) := by decide +kernel
theorem dX12_switchesIn_56 : decode cX12_switchesIn 56 = .ok (.aload_n 0, 1) := by decide +kernel
theorem dX12_switchesIn_57 : decode cX12_switchesIn 57 = .ok (.iload_n 3, 1) := by decide +kernel
theorem dX12_switchesIn_58 : decode cX12_switchesIn 58 = .ok (.sipush 200, 3) := by decide +kernel
theorem dX12_switchesIn_61 : decode cX12_switchesIn 61 = .ok (.if_icmp .le 7, 3) := by decide +kernel
theorem dX12_switchesIn_64 : decode cX12_switchesIn 64 = .ok (.iconst (-1), 1) := by decide +kernel
theorem dX12_switchesIn_65 : decode cX12_switchesIn 65 = .ok (.goto 4, 3) := by decide +kernel
theorem dX12_switchesIn_68 : decode cX12_switchesIn 68 = .ok (.iload_n 3, 1) := by decide +kernel
theorem dX12_switchesIn_69 : decode cX12_switchesIn 69 = .ok (.invokevirtual 376, 3) := by decide +kernel
theorem dX12_switchesIn_72 : decode cX12_switchesIn 72 = .ok (.ireturn, 1) := by decide +kernel
theorem dX12_deliveredWith_0 : decode cX12_deliveredWith 0 = .ok (.aload_n 0, 1) := by decide +kernel
theorem dX12_deliveredWith_1 : decode cX12_deliveredWith 1 = .ok (.invokevirtual 379, 3) := by decide +kernel
theorem dX12_deliveredWith_4 : decode cX12_deliveredWith 4 = .ok (.aload_n 0, 1) := by decide +kernel
theorem dX12_deliveredWith_5 : decode cX12_deliveredWith 5 = .ok (.getfield 13, 3) := by decide +kernel
theorem dX12_deliveredWith_8 : decode cX12_deliveredWith 8 = .ok (.bipush 6, 2) := by decide +kernel
theorem dX12_deliveredWith_10 : decode cX12_deliveredWith 10 = .ok (.iload_n 1, 1) := by decide +kernel
theorem dX12_deliveredWith_11 : decode cX12_deliveredWith 11 = .ok (.iadd, 1) := by decide +kernel
theorem dX12_deliveredWith_12 : decode cX12_deliveredWith 12 = .ok (.iload_n 2, 1) := by decide +kernel
theorem dX12_deliveredWith_13 : decode cX12_deliveredWith 13 = .ok (.iastore, 1) := by decide +kernel
theorem dX12_deliveredWith_14 : decode cX12_deliveredWith 14 = .ok (.aload_n 0, 1) := by decide +kernel
theorem dX12_deliveredWith_15 : decode cX12_deliveredWith 15 = .ok (.iload_n 3, 1) := by decide +kernel
theorem dX12_deliveredWith_16 : decode cX12_deliveredWith 16 = .ok (.invokevirtual 382, 3) := by decide +kernel
theorem dX12_deliveredWith_19 : decode cX12_deliveredWith 19 = .ok (.ireturn, 1) := by decide +kernel
theorem dX12_bestTries_0 : decode cX12_bestTries 0 = .ok (.aload_n 0, 1) := by decide +kernel
theorem dX12_bestTries_1 : decode cX12_bestTries 1 = .ok (.iload_n 1, 1) := by decide +kernel
theorem dX12_bestTries_2 : decode cX12_bestTries 2 = .ok (.iconst 1, 1) := by decide +kernel
theorem dX12_bestTries_3 : decode cX12_bestTries 3 = .ok (.bipush 50, 2) := by decide +kernel
theorem dX12_bestTries_5 : decode cX12_bestTries 5 = .ok (.invokestatic 53, 3) := by decide +kernel
theorem dX12_bestTries_8 : decode cX12_bestTries 8 = .ok (.iconst 1, 1) := by decide +kernel
theorem dX12_bestTries_9 : decode cX12_bestTries 9 = .ok (.invokevirtual 363, 3) := by decide +kernel
theorem dX12_bestTries_12 : decode cX12_bestTries 12 = .ok (.ifCond .ne 5, 3) := by decide +kernel
theorem dX12_bestTries_15 : decode cX12_bestTries 15 = .ok (.iconst 0, 1) := by decide +kernel
theorem dX12_bestTries_16 : decode cX12_bestTries 16 = .ok (.ireturn, 1) := by decide +kernel
theorem dX12_bestTries_17 : decode cX12_bestTries 17 = .ok (.iconst 1, 1) := by decide +kernel
theorem dX12_bestTries_18 : decode cX12_bestTries 18 = .ok (.istore_n 2, 1) := by decide +kernel
theorem dX12_bestTries_19 : decode cX12_bestTries 19 = .ok (.aload_n 0, 1) := by decide +kernel
theorem dX12_bestTries_20 : decode cX12_bestTries 20 = .ok (.iconst 1, 1) := by decide +kernel
theorem dX12_bestTries_21 : decode cX12_bestTries 21 = .ok (.iconst 1, 1) := by decide +kernel
theorem dX12_bestTries_22 : decode cX12_bestTries 22 = .ok (.iload_n 1, 1) := by decide +kernel
theorem dX12_bestTries_23 : decode cX12_bestTries 23 = .ok (.invokevirtual 385, 3) := by decide +kernel
theorem dX12_bestTries_26 : decode cX12_bestTries 26 = .ok (.istore_n 3, 1) := by decide +kernel
theorem dX12_bestTries_27 : decode cX12_bestTries 27 = .ok (.iconst 2, 1) := by decide +kernel
theorem dX12_bestTries_28 : decode cX12_bestTries 28 = .ok (.istore 4, 2) := by decide +kernel
theorem dX12_bestTries_30 : decode cX12_bestTries 30 = .ok (.iload 4, 2) := by decide +kernel
theorem dX12_bestTries_32 : decode cX12_bestTries 32 = .ok (.iconst 5, 1) := by decide +kernel
theorem dX12_bestTries_33 : decode cX12_bestTries 33 = .ok (.if_icmp .gt 31, 3) := by decide +kernel
theorem dX12_bestTries_36 : decode cX12_bestTries 36 = .ok (.aload_n 0, 1) := by decide +kernel
theorem dX12_bestTries_37 : decode cX12_bestTries 37 = .ok (.iconst 1, 1) := by decide +kernel
theorem dX12_bestTries_38 : decode cX12_bestTries 38 = .ok (.iload 4, 2) := by decide +kernel
theorem dX12_bestTries_40 : decode cX12_bestTries 40 = .ok (.iload_n 1, 1) := by decide +kernel
theorem dX12_bestTries_41 : decode cX12_bestTries 41 = .ok (.invokevirtual 385, 3) := by decide +kernel
theorem dX12_bestTries_44 : decode cX12_bestTries 44 = .ok (.istore 5, 2) := by decide +kernel
theorem dX12_bestTries_46 : decode cX12_bestTries 46 = .ok (.iload 5, 2) := by decide +kernel
theorem dX12_bestTries_48 : decode cX12_bestTries 48 = .ok (.iload_n 3, 1) := by decide +kernel
theorem dX12_bestTries_49 : decode cX12_bestTries 49 = .ok (.if_icmp .le 9, 3) := by decide +kernel
theorem dX12_bestTries_52 : decode cX12_bestTries 52 = .ok (.iload 4, 2) := by decide +kernel
theorem dX12_bestTries_54 : decode cX12_bestTries 54 = .ok (.istore_n 2, 1) := by decide +kernel
theorem dX12_bestTries_55 : decode cX12_bestTries 55 = .ok (.iload 5, 2) := by decide +kernel
theorem dX12_bestTries_57 : decode cX12_bestTries 57 = .ok (.istore_n 3, 1) := by decide +kernel
theorem dX12_bestTries_58 : decode cX12_bestTries 58 = .ok (.iinc 4 1, 3) := by decide +kernel
theorem dX12_bestTries_61 : decode cX12_bestTries 61 = .ok (.goto (-31), 3) := by decide +kernel
theorem dX12_bestTries_64 : decode cX12_bestTries 64 = .ok (.iload_n 2, 1) := by decide +kernel
theorem dX12_bestTries_65 : decode cX12_bestTries 65 = .ok (.ireturn, 1) := by decide +kernel
theorem dX12_lostByNoise_0 : decode cX12_lostByNoise 0 = .ok (.aload_n 0, 1) := by decide +kernel
theorem dX12_lostByNoise_1 : decode cX12_lostByNoise 1 = .ok (.iload_n 1, 1) := by decide +kernel
theorem dX12_lostByNoise_2 : decode cX12_lostByNoise 2 = .ok (.iconst 1, 1) := by decide +kernel
theorem dX12_lostByNoise_3 : decode cX12_lostByNoise 3 = .ok (.bipush 100, 2) := by decide +kernel
theorem dX12_lostByNoise_5 : decode cX12_lostByNoise 5 = .ok (.invokestatic 53, 3) := by decide +kernel
theorem dX12_lostByNoise_8 : decode cX12_lostByNoise 8 = .ok (.iconst 1, 1) := by decide +kernel
theorem dX12_lostByNoise_9 : decode cX12_lostByNoise 9 = .ok (.invokevirtual 363, 3) := by decide +kernel
theorem dX12_lostByNoise_12 : decode cX12_lostByNoise 12 = .ok (.ifCond .ne 5, 3) := by decide +kernel
theorem dX12_lostByNoise_15 : decode cX12_lostByNoise 15 = .ok (.iconst 0, 1) := by decide +kernel
theorem dX12_lostByNoise_16 : decode cX12_lostByNoise 16 = .ok (.ireturn, 1) := by decide +kernel
theorem dX12_lostByNoise_17 : decode cX12_lostByNoise 17 = .ok (.aload_n 0, 1) := by decide +kernel
theorem dX12_lostByNoise_18 : decode cX12_lostByNoise 18 = .ok (.iconst 5, 1) := by decide +kernel
theorem dX12_lostByNoise_19 : decode cX12_lostByNoise 19 = .ok (.iconst 0, 1) := by decide +kernel
theorem dX12_lostByNoise_20 : decode cX12_lostByNoise 20 = .ok (.iload_n 1, 1) := by decide +kernel
theorem dX12_lostByNoise_21 : decode cX12_lostByNoise 21 = .ok (.invokevirtual 385, 3) := by decide +kernel
theorem dX12_lostByNoise_24 : decode cX12_lostByNoise 24 = .ok (.istore_n 2, 1) := by decide +kernel
theorem dX12_lostByNoise_25 : decode cX12_lostByNoise 25 = .ok (.iload_n 2, 1) := by decide +kernel
theorem dX12_lostByNoise_26 : decode cX12_lostByNoise 26 = .ok (.aload_n 0, 1) := by decide +kernel
theorem dX12_lostByNoise_27 : decode cX12_lostByNoise 27 = .ok (.iconst 5, 1) := by decide +kernel
theorem dX12_lostByNoise_28 : decode cX12_lostByNoise 28 = .ok (.aload_n 0, 1) := by decide +kernel
theorem dX12_lostByNoise_29 : decode cX12_lostByNoise 29 = .ok (.getfield 13, 3) := by decide +kernel
theorem dX12_lostByNoise_32 : decode cX12_lostByNoise 32 = .ok (.bipush 11, 2) := by decide +kernel
theorem dX12_lostByNoise_34 : decode cX12_lostByNoise 34 = .ok (.iaload, 1) := by decide +kernel
theorem dX12_lostByNoise_35 : decode cX12_lostByNoise 35 = .ok (.iload_n 1, 1) := by decide +kernel
theorem dX12_lostByNoise_36 : decode cX12_lostByNoise 36 = .ok (.invokevirtual 385, 3) := by decide +kernel
theorem dX12_lostByNoise_39 : decode cX12_lostByNoise 39 = .ok (.isub, 1) := by decide +kernel
theorem dX12_lostByNoise_40 : decode cX12_lostByNoise 40 = .ok (.ireturn, 1) := by decide +kernel
theorem dX12_worst_0 : decode cX12_worst 0 = .ok (.aload_n 0, 1) := by decide +kernel
theorem dX12_worst_1 : decode cX12_worst 1 = .ok (.iconst 0, 1) := by decide +kernel
theorem dX12_worst_2 : decode cX12_worst 2 = .ok (.putfield 1, 3) := by decide +kernel
theorem dX12_worst_5 : decode cX12_worst 5 = .ok (.iconst (-1), 1) := by decide +kernel
theorem dX12_worst_6 : decode cX12_worst 6 = .ok (.istore_n 1, 1) := by decide +kernel
theorem dX12_worst_7 : decode cX12_worst 7 = .ok (.iconst 0, 1) := by decide +kernel
theorem dX12_worst_8 : decode cX12_worst 8 = .ok (.istore_n 2, 1) := by decide +kernel
theorem dX12_worst_9 : decode cX12_worst 9 = .ok (.iconst 0, 1) := by decide +kernel
theorem dX12_worst_10 : decode cX12_worst 10 = .ok (.istore_n 3, 1) := by decide +kernel
theorem dX12_worst_11 : decode cX12_worst 11 = .ok (.iload_n 3, 1) := by decide +kernel
theorem dX12_worst_12 : decode cX12_worst 12 = .ok (.aload_n 0, 1) := by decide +kernel
theorem dX12_worst_13 : decode cX12_worst 13 = .ok (.invokevirtual 49, 3) := by decide +kernel
theorem dX12_worst_16 : decode cX12_worst 16 = .ok (.if_icmp .ge 33, 3) := by decide +kernel
theorem dX12_worst_19 : decode cX12_worst 19 = .ok (.aload_n 0, 1) := by decide +kernel
theorem dX12_worst_20 : decode cX12_worst 20 = .ok (.iload_n 3, 1) := by decide +kernel
theorem dX12_worst_21 : decode cX12_worst 21 = .ok (.bipush 14, 2) := by decide +kernel
theorem dX12_worst_23 : decode cX12_worst 23 = .ok (.invokevirtual 57, 3) := by decide +kernel
theorem dX12_worst_26 : decode cX12_worst 26 = .ok (.iload_n 2, 1) := by decide +kernel
theorem dX12_worst_27 : decode cX12_worst 27 = .ok (.if_icmp .gt 6, 3) := by decide +kernel
theorem dX12_worst_30 : decode cX12_worst 30 = .ok (.goto 13, 3) := by decide +kernel
theorem dX12_worst_33 : decode cX12_worst 33 = .ok (.iload_n 3, 1) := by decide +kernel
theorem dX12_worst_34 : decode cX12_worst 34 = .ok (.istore_n 1, 1) := by decide +kernel
theorem dX12_worst_35 : decode cX12_worst 35 = .ok (.aload_n 0, 1) := by decide +kernel
theorem dX12_worst_36 : decode cX12_worst 36 = .ok (.iload_n 3, 1) := by decide +kernel
theorem dX12_worst_37 : decode cX12_worst 37 = .ok (.bipush 14, 2) := by decide +kernel
theorem dX12_worst_39 : decode cX12_worst 39 = .ok (.invokevirtual 57, 3) := by decide +kernel
theorem dX12_worst_42 : decode cX12_worst 42 = .ok (.istore_n 2, 1) := by decide +kernel
theorem dX12_worst_43 : decode cX12_worst 43 = .ok (.iinc 3 1, 3) := by decide +kernel
theorem dX12_worst_46 : decode cX12_worst 46 = .ok (.goto (-35), 3) := by decide +kernel
theorem dX12_worst_49 : decode cX12_worst 49 = .ok (.iload_n 1, 1) := by decide +kernel
theorem dX12_worst_50 : decode cX12_worst 50 = .ok (.ireturn, 1) := by decide +kernel
theorem dX12_often_0 : decode cX12_often 0 = .ok (.aload_n 0, 1) := by decide +kernel
theorem dX12_often_1 : decode cX12_often 1 = .ok (.aload_n 0, 1) := by decide +kernel
theorem dX12_often_2 : decode cX12_often 2 = .ok (.iload_n 1, 1) := by decide +kernel
theorem dX12_often_3 : decode cX12_often 3 = .ok (.invokevirtual 360, 3) := by decide +kernel
theorem dX12_often_6 : decode cX12_often 6 = .ok (.iload_n 2, 1) := by decide +kernel
theorem dX12_often_7 : decode cX12_often 7 = .ok (.iconst 0, 1) := by decide +kernel
theorem dX12_often_8 : decode cX12_often 8 = .ok (.iconst 3, 1) := by decide +kernel
theorem dX12_often_9 : decode cX12_often 9 = .ok (.invokestatic 53, 3) := by decide +kernel
theorem dX12_often_12 : decode cX12_often 12 = .ok (.invokevirtual 363, 3) := by decide +kernel
theorem dX12_often_15 : decode cX12_often 15 = .ok (.ifCond .eq 15, 3) := by decide +kernel
theorem dX12_often_18 : decode cX12_often 18 = .ok (.aload_n 0, 1) := by decide +kernel
theorem dX12_often_19 : decode cX12_often 19 = .ok (.iload_n 1, 1) := by decide +kernel
theorem dX12_often_20 : decode cX12_often 20 = .ok (.bipush 11, 2) := by decide +kernel
theorem dX12_often_22 : decode cX12_often 22 = .ok (.iload_n 2, 1) := by decide +kernel
theorem dX12_often_23 : decode cX12_often 23 = .ok (.iadd, 1) := by decide +kernel
theorem dX12_often_24 : decode cX12_often 24 = .ok (.invokevirtual 57, 3) := by decide +kernel
theorem dX12_often_27 : decode cX12_often 27 = .ok (.goto 4, 3) := by decide +kernel
theorem dX12_often_30 : decode cX12_often 30 = .ok (.iconst 0, 1) := by decide +kernel
theorem dX12_often_31 : decode cX12_often 31 = .ok (.ireturn, 1) := by decide +kernel
theorem dX12_meanTime_0 : decode cX12_meanTime 0 = .ok (.aload_n 0, 1) := by decide +kernel
theorem dX12_meanTime_1 : decode cX12_meanTime 1 = .ok (.iconst 0, 1) := by decide +kernel
theorem dX12_meanTime_2 : decode cX12_meanTime 2 = .ok (.putfield 1, 3) := by decide +kernel
theorem dX12_meanTime_5 : decode cX12_meanTime 5 = .ok (.iconst 0, 1) := by decide +kernel
theorem dX12_meanTime_6 : decode cX12_meanTime 6 = .ok (.istore_n 1, 1) := by decide +kernel
theorem dX12_meanTime_7 : decode cX12_meanTime 7 = .ok (.iconst 0, 1) := by decide +kernel
theorem dX12_meanTime_8 : decode cX12_meanTime 8 = .ok (.istore_n 2, 1) := by decide +kernel
theorem dX12_meanTime_9 : decode cX12_meanTime 9 = .ok (.iload_n 2, 1) := by decide +kernel
theorem dX12_meanTime_10 : decode cX12_meanTime 10 = .ok (.aload_n 0, 1) := by decide +kernel
theorem dX12_meanTime_11 : decode cX12_meanTime 11 = .ok (.getfield 13, 3) := by decide +kernel
theorem dX12_meanTime_14 : decode cX12_meanTime 14 = .ok (.iconst 2, 1) := by decide +kernel
theorem dX12_meanTime_15 : decode cX12_meanTime 15 = .ok (.iaload, 1) := by decide +kernel
theorem dX12_meanTime_16 : decode cX12_meanTime 16 = .ok (.if_icmp .ge 36, 3) := by decide +kernel
theorem dX12_meanTime_19 : decode cX12_meanTime 19 = .ok (.aload_n 0, 1) := by decide +kernel
theorem dX12_meanTime_20 : decode cX12_meanTime 20 = .ok (.iload_n 2, 1) := by decide +kernel
theorem dX12_meanTime_21 : decode cX12_meanTime 21 = .ok (.iconst 3, 1) := by decide +kernel
theorem dX12_meanTime_22 : decode cX12_meanTime 22 = .ok (.invokevirtual 65, 3) := by decide +kernel
theorem dX12_meanTime_25 : decode cX12_meanTime 25 = .ok (.iconst 3, 1) := by decide +kernel
theorem dX12_meanTime_26 : decode cX12_meanTime 26 = .ok (.if_icmp .ne 20, 3) := by decide +kernel
theorem dX12_meanTime_29 : decode cX12_meanTime 29 = .ok (.iload_n 1, 1) := by decide +kernel
theorem dX12_meanTime_30 : decode cX12_meanTime 30 = .ok (.aload_n 0, 1) := by decide +kernel
theorem dX12_meanTime_31 : decode cX12_meanTime 31 = .ok (.iload_n 2, 1) := by decide +kernel
theorem dX12_meanTime_32 : decode cX12_meanTime 32 = .ok (.bipush 7, 2) := by decide +kernel
theorem dX12_meanTime_34 : decode cX12_meanTime 34 = .ok (.invokevirtual 65, 3) := by decide +kernel
theorem dX12_meanTime_37 : decode cX12_meanTime 37 = .ok (.iadd, 1) := by decide +kernel
theorem dX12_meanTime_38 : decode cX12_meanTime 38 = .ok (.aload_n 0, 1) := by decide +kernel
theorem dX12_meanTime_39 : decode cX12_meanTime 39 = .ok (.iload_n 2, 1) := by decide +kernel
theorem dX12_meanTime_40 : decode cX12_meanTime 40 = .ok (.iconst 4, 1) := by decide +kernel
theorem dX12_meanTime_41 : decode cX12_meanTime 41 = .ok (.invokevirtual 65, 3) := by decide +kernel
theorem dX12_meanTime_44 : decode cX12_meanTime 44 = .ok (.isub, 1) := by decide +kernel
theorem dX12_meanTime_45 : decode cX12_meanTime 45 = .ok (.istore_n 1, 1) := by decide +kernel
theorem dX12_meanTime_46 : decode cX12_meanTime 46 = .ok (.iinc 2 1, 3) := by decide +kernel
theorem dX12_meanTime_49 : decode cX12_meanTime 49 = .ok (.goto (-40), 3) := by decide +kernel
theorem dX12_meanTime_52 : decode cX12_meanTime 52 = .ok (.aload_n 0, 1) := by decide +kernel
theorem dX12_meanTime_53 : decode cX12_meanTime 53 = .ok (.iconst 3, 1) := by decide +kernel
theorem dX12_meanTime_54 : decode cX12_meanTime 54 = .ok (.invokevirtual 168, 3) := by decide +kernel
theorem dX12_meanTime_57 : decode cX12_meanTime 57 = .ok (.ifCond .ne 7, 3) := by decide +kernel
theorem dX12_meanTime_60 : decode cX12_meanTime 60 = .ok (.dconst 0, 1) := by decide +kernel
theorem dX12_meanTime_61 : decode cX12_meanTime 61 = .ok (.goto 12, 3) := by decide +kernel
theorem dX12_meanTime_64 : decode cX12_meanTime 64 = .ok (.iload_n 1, 1) := by decide +kernel
theorem dX12_meanTime_65 : decode cX12_meanTime 65 = .ok (.i2d, 1) := by decide +kernel
theorem dX12_meanTime_66 : decode cX12_meanTime 66 = .ok (.aload_n 0, 1) := by decide +kernel
theorem dX12_meanTime_67 : decode cX12_meanTime 67 = .ok (.iconst 3, 1) := by decide +kernel
theorem dX12_meanTime_68 : decode cX12_meanTime 68 = .ok (.invokevirtual 168, 3) := by decide +kernel
theorem dX12_meanTime_71 : decode cX12_meanTime 71 = .ok (.i2d, 1) := by decide +kernel
theorem dX12_meanTime_72 : decode cX12_meanTime 72 = .ok (.ddiv, 1) := by decide +kernel
theorem dX12_meanTime_73 : decode cX12_meanTime 73 = .ok (.dreturn, 1) := by decide +kernel
theorem dX12_clearShare_0 : decode cX12_clearShare 0 = .ok (.aload_n 0, 1) := by decide +kernel
theorem dX12_clearShare_1 : decode cX12_clearShare 1 = .ok (.iconst 0, 1) := by decide +kernel
theorem dX12_clearShare_2 : decode cX12_clearShare 2 = .ok (.putfield 1, 3) := by decide +kernel
theorem dX12_clearShare_5 : decode cX12_clearShare 5 = .ok (.aload_n 0, 1) := by decide +kernel
theorem dX12_clearShare_6 : decode cX12_clearShare 6 = .ok (.getfield 13, 3) := by decide +kernel
theorem dX12_clearShare_9 : decode cX12_clearShare 9 = .ok (.bipush 12, 2) := by decide +kernel
theorem dX12_clearShare_11 : decode cX12_clearShare 11 = .ok (.iaload, 1) := by decide +kernel
theorem dX12_clearShare_12 : decode cX12_clearShare 12 = .ok (.istore_n 1, 1) := by decide +kernel
theorem dX12_clearShare_13 : decode cX12_clearShare 13 = .ok (.iload_n 1, 1) := by decide +kernel
theorem dX12_clearShare_14 : decode cX12_clearShare 14 = .ok (.ifCond .ne 7, 3) := by decide +kernel
theorem dX12_clearShare_17 : decode cX12_clearShare 17 = .ok (.fconst 1, 1) := by decide +kernel
theorem dX12_clearShare_18 : decode cX12_clearShare 18 = .ok (.goto 16, 3) := by decide +kernel
theorem dX12_clearShare_21 : decode cX12_clearShare 21 = .ok (.iload_n 1, 1) := by decide +kernel
theorem dX12_clearShare_22 : decode cX12_clearShare 22 = .ok (.aload_n 0, 1) := by decide +kernel
theorem dX12_clearShare_23 : decode cX12_clearShare 23 = .ok (.getfield 13, 3) := by decide +kernel
theorem dX12_clearShare_26 : decode cX12_clearShare 26 = .ok (.bipush 13, 2) := by decide +kernel
theorem dX12_clearShare_28 : decode cX12_clearShare 28 = .ok (.iaload, 1) := by decide +kernel
theorem dX12_clearShare_29 : decode cX12_clearShare 29 = .ok (.isub, 1) := by decide +kernel
theorem dX12_clearShare_30 : decode cX12_clearShare 30 = .ok (.i2f, 1) := by decide +kernel
theorem dX12_clearShare_31 : decode cX12_clearShare 31 = .ok (.iload_n 1, 1) := by decide +kernel
theorem dX12_clearShare_32 : decode cX12_clearShare 32 = .ok (.i2f, 1) := by decide +kernel
theorem dX12_clearShare_33 : decode cX12_clearShare 33 = .ok (.fdiv, 1) := by decide +kernel
theorem dX12_clearShare_34 : decode cX12_clearShare 34 = .ok (.freturn, 1) := by decide +kernel
theorem dX12_keeps_0 : decode cX12_keeps 0 = .ok (.aload_n 0, 1) := by decide +kernel
theorem dX12_keeps_1 : decode cX12_keeps 1 = .ok (.getfield 294, 3) := by decide +kernel
theorem dX12_keeps_4 : decode cX12_keeps 4 = .ok (.bipush 8, 2) := by decide +kernel
theorem dX12_keeps_6 : decode cX12_keeps 6 = .ok (.if_icmp .ne 31, 3) := by decide +kernel
theorem dX12_keeps_9 : decode cX12_keeps 9 = .ok (.aload_n 0, 1) := by decide +kernel
theorem dX12_keeps_10 : decode cX12_keeps 10 = .ok (.getfield 23, 3) := by decide +kernel
theorem dX12_keeps_13 : decode cX12_keeps 13 = .ok (.sipush 800, 3) := by decide +kernel
theorem dX12_keeps_16 : decode cX12_keeps 16 = .ok (.aload_n 0, 1) := by decide +kernel
theorem dX12_keeps_17 : decode cX12_keeps 17 = .ok (.getfield 23, 3) := by decide +kernel
theorem dX12_keeps_20 : decode cX12_keeps 20 = .ok (.iconst 0, 1) := by decide +kernel
theorem dX12_keeps_21 : decode cX12_keeps 21 = .ok (.sipush 5600, 3) := by decide +kernel
theorem dX12_keeps_24 : decode cX12_keeps 24 = .ok (.invokestatic 149, 3) := by decide +kernel
theorem dX12_keeps_27 : decode cX12_keeps 27 = .ok (.aload_n 0, 1) := by decide +kernel
theorem dX12_keeps_28 : decode cX12_keeps 28 = .ok (.aload_n 0, 1) := by decide +kernel
theorem dX12_keeps_29 : decode cX12_keeps 29 = .ok (.getfield 294, 3) := by decide +kernel
theorem dX12_keeps_32 : decode cX12_keeps 32 = .ok (.iconst 1, 1) := by decide +kernel
theorem dX12_keeps_33 : decode cX12_keeps 33 = .ok (.isub, 1) := by decide +kernel
theorem dX12_keeps_34 : decode cX12_keeps 34 = .ok (.putfield 294, 3) := by decide +kernel
theorem dX12_keeps_37 : decode cX12_keeps 37 = .ok (.aload_n 0, 1) := by decide +kernel
theorem dX12_keeps_38 : decode cX12_keeps 38 = .ok (.getfield 13, 3) := by decide +kernel
theorem dX12_keeps_41 : decode cX12_keeps 41 = .ok (.iconst 0, 1) := by decide +kernel
theorem dX12_keeps_42 : decode cX12_keeps 42 = .ok (.aload_n 0, 1) := by decide +kernel
theorem dX12_keeps_43 : decode cX12_keeps 43 = .ok (.getfield 23, 3) := by decide +kernel
theorem dX12_keeps_46 : decode cX12_keeps 46 = .ok (.sipush 800, 3) := by decide +kernel
theorem dX12_keeps_49 : decode cX12_keeps 49 = .ok (.aload_n 0, 1) := by decide +kernel
theorem dX12_keeps_50 : decode cX12_keeps 50 = .ok (.getfield 294, 3) := by decide +kernel
theorem dX12_keeps_53 : decode cX12_keeps 53 = .ok (.imul, 1) := by decide +kernel
theorem dX12_keeps_54 : decode cX12_keeps 54 = .ok (.sipush 800, 3) := by decide +kernel
theorem dX12_keeps_57 : decode cX12_keeps 57 = .ok (.invokestatic 149, 3) := by decide +kernel
theorem dX12_keeps_60 : decode cX12_keeps 60 = .ok (.aload_n 0, 1) := by decide +kernel
theorem dX12_keeps_61 : decode cX12_keeps 61 = .ok (.aload_n 0, 1) := by decide +kernel
theorem dX12_keeps_62 : decode cX12_keeps 62 = .ok (.getfield 294, 3) := by decide +kernel
theorem dX12_keeps_65 : decode cX12_keeps 65 = .ok (.iconst 1, 1) := by decide +kernel
theorem dX12_keeps_66 : decode cX12_keeps 66 = .ok (.iadd, 1) := by decide +kernel
theorem dX12_keeps_67 : decode cX12_keeps 67 = .ok (.putfield 294, 3) := by decide +kernel
theorem dX12_keeps_70 : decode cX12_keeps 70 = .ok (.return_, 1) := by decide +kernel
theorem dX12_isWho_0 : decode cX12_isWho 0 = .ok (.iload_n 1, 1) := by decide +kernel
theorem dX12_isWho_1 : decode cX12_isWho 1 = .ok (.iconst (-1), 1) := by decide +kernel
theorem dX12_isWho_2 : decode cX12_isWho 2 = .ok (.if_icmp .eq 11, 3) := by decide +kernel
theorem dX12_isWho_5 : decode cX12_isWho 5 = .ok (.aload_n 0, 1) := by decide +kernel
theorem dX12_isWho_6 : decode cX12_isWho 6 = .ok (.iload_n 1, 1) := by decide +kernel
theorem dX12_isWho_7 : decode cX12_isWho 7 = .ok (.invokevirtual 360, 3) := by decide +kernel
theorem dX12_isWho_10 : decode cX12_isWho 10 = .ok (.ifCond .eq 7, 3) := by decide +kernel
theorem dX12_isWho_13 : decode cX12_isWho 13 = .ok (.iconst 1, 1) := by decide +kernel
theorem dX12_isWho_14 : decode cX12_isWho 14 = .ok (.goto 4, 3) := by decide +kernel
theorem dX12_isWho_17 : decode cX12_isWho 17 = .ok (.iconst 0, 1) := by decide +kernel
theorem dX12_isWho_18 : decode cX12_isWho 18 = .ok (.ireturn, 1) := by decide +kernel
theorem dX12_post_0 : decode cX12_post 0 = .ok (.aload_n 0, 1) := by decide +kernel
theorem dX12_post_1 : decode cX12_post 1 = .ok (.iload_n 1, 1) := by decide +kernel
theorem dX12_post_2 : decode cX12_post 2 = .ok (.invokevirtual 388, 3) := by decide +kernel
theorem dX12_post_5 : decode cX12_post 5 = .ok (.ifCond .eq 15, 3) := by decide +kernel
theorem dX12_post_8 : decode cX12_post 8 = .ok (.aload_n 0, 1) := by decide +kernel
theorem dX12_post_9 : decode cX12_post 9 = .ok (.iload_n 2, 1) := by decide +kernel
theorem dX12_post_10 : decode cX12_post 10 = .ok (.invokevirtual 388, 3) := by decide +kernel
theorem dX12_post_13 : decode cX12_post 13 = .ok (.ifCond .eq 7, 3) := by decide +kernel
theorem dX12_post_16 : decode cX12_post 16 = .ok (.iconst 1, 1) := by decide +kernel
theorem dX12_post_17 : decode cX12_post 17 = .ok (.goto 4, 3) := by decide +kernel
theorem dX12_post_20 : decode cX12_post 20 = .ok (.iconst 0, 1) := by decide +kernel
theorem dX12_post_21 : decode cX12_post 21 = .ok (.istore 4, 2) := by decide +kernel
theorem dX12_post_23 : decode cX12_post 23 = .ok (.aload_n 0, 1) := by decide +kernel
theorem dX12_post_24 : decode cX12_post 24 = .ok (.iload 4, 2) := by decide +kernel
theorem dX12_post_26 : decode cX12_post 26 = .ok (.ifCond .ne 7, 3) := by decide +kernel
theorem dX12_post_29 : decode cX12_post 29 = .ok (.iconst 1, 1) := by decide +kernel
theorem dX12_post_30 : decode cX12_post 30 = .ok (.goto 38, 3) := by decide +kernel
theorem dX12_post_33 : decode cX12_post 33 = .ok (.iload_n 1, 1) := by decide +kernel
theorem dX12_post_34 : decode cX12_post 34 = .ok (.iload_n 2, 1) := by decide +kernel
theorem dX12_post_35 : decode cX12_post 35 = .ok (.if_icmp .eq 13, 3) := by decide +kernel
theorem dX12_post_38 : decode cX12_post 38 = .ok (.iload_n 3, 1) := by decide +kernel
theorem dX12_post_39 : decode cX12_post 39 = .ok (.iconst 1, 1) := by decide +kernel
theorem dX12_post_40 : decode cX12_post 40 = .ok (.bipush 20, 2) := by decide +kernel
theorem dX12_post_42 : decode cX12_post 42 = .ok (.invokestatic 53, 3) := by decide +kernel
theorem dX12_post_45 : decode cX12_post 45 = .ok (.ifCond .ne 7, 3) := by decide +kernel
theorem dX12_post_48 : decode cX12_post 48 = .ok (.iconst 2, 1) := by decide +kernel
theorem dX12_post_49 : decode cX12_post 49 = .ok (.goto 19, 3) := by decide +kernel
theorem dX12_post_52 : decode cX12_post 52 = .ok (.aload_n 0, 1) := by decide +kernel
theorem dX12_post_53 : decode cX12_post 53 = .ok (.getfield 13, 3) := by decide +kernel
theorem dX12_post_56 : decode cX12_post 56 = .ok (.iconst 2, 1) := by decide +kernel
theorem dX12_post_57 : decode cX12_post 57 = .ok (.iaload, 1) := by decide +kernel
theorem dX12_post_58 : decode cX12_post 58 = .ok (.bipush 40, 2) := by decide +kernel
theorem dX12_post_60 : decode cX12_post 60 = .ok (.if_icmp .ne 7, 3) := by decide +kernel
theorem dX12_post_63 : decode cX12_post 63 = .ok (.iconst 3, 1) := by decide +kernel
theorem dX12_post_64 : decode cX12_post 64 = .ok (.goto 4, 3) := by decide +kernel
theorem dX12_post_67 : decode cX12_post 67 = .ok (.iconst 0, 1) := by decide +kernel
theorem dX12_post_68 : decode cX12_post 68 = .ok (.putfield 1, 3) := by decide +kernel
theorem dX12_post_71 : decode cX12_post 71 = .ok (.aload_n 0, 1) := by decide +kernel
theorem dX12_post_72 : decode cX12_post 72 = .ok (.getfield 1, 3) := by decide +kernel
theorem dX12_post_75 : decode cX12_post 75 = .ok (.ifCond .eq 5, 3) := by decide +kernel
theorem dX12_post_78 : decode cX12_post 78 = .ok (.iconst 0, 1) := by decide +kernel
theorem dX12_post_79 : decode cX12_post 79 = .ok (.ireturn, 1) := by decide +kernel
theorem dX12_post_80 : decode cX12_post 80 = .ok (.aload_n 0, 1) := by decide +kernel
theorem dX12_post_81 : decode cX12_post 81 = .ok (.invokevirtual 351, 3) := by decide +kernel
theorem dX12_post_84 : decode cX12_post 84 = .ok (.aload_n 0, 1) := by decide +kernel
theorem dX12_post_85 : decode cX12_post 85 = .ok (.iload_n 1, 1) := by decide +kernel
theorem dX12_post_86 : decode cX12_post 86 = .ok (.iload_n 2, 1) := by decide +kernel
theorem dX12_post_87 : decode cX12_post 87 = .ok (.iload_n 3, 1) := by decide +kernel
theorem dX12_post_88 : decode cX12_post 88 = .ok (.invokevirtual 330, 3) := by decide +kernel
theorem dX12_post_91 : decode cX12_post 91 = .ok (.ireturn, 1) := by decide +kernel
theorem dX12_kill_0 : decode cX12_kill 0 = .ok (.aload_n 0, 1) := by decide +kernel
theorem dX12_kill_1 : decode cX12_kill 1 = .ok (.aload_n 0, 1) := by decide +kernel
theorem dX12_kill_2 : decode cX12_kill 2 = .ok (.iload_n 1, 1) := by decide +kernel
theorem dX12_kill_3 : decode cX12_kill 3 = .ok (.invokevirtual 360, 3) := by decide +kernel
theorem dX12_kill_6 : decode cX12_kill 6 = .ok (.iconst 1, 1) := by decide +kernel
theorem dX12_kill_7 : decode cX12_kill 7 = .ok (.invokevirtual 363, 3) := by decide +kernel
theorem dX12_kill_10 : decode cX12_kill 10 = .ok (.ifCond .ne 5, 3) := by decide +kernel
theorem dX12_kill_13 : decode cX12_kill 13 = .ok (.iconst 0, 1) := by decide +kernel
theorem dX12_kill_14 : decode cX12_kill 14 = .ok (.ireturn, 1) := by decide +kernel
theorem dX12_kill_15 : decode cX12_kill 15 = .ok (.aload_n 0, 1) := by decide +kernel
theorem dX12_kill_16 : decode cX12_kill 16 = .ok (.invokevirtual 351, 3) := by decide +kernel
theorem dX12_kill_19 : decode cX12_kill 19 = .ok (.aload_n 0, 1) := by decide +kernel
theorem dX12_kill_20 : decode cX12_kill 20 = .ok (.iload_n 1, 1) := by decide +kernel
theorem dX12_kill_21 : decode cX12_kill 21 = .ok (.iconst 0, 1) := by decide +kernel
theorem dX12_kill_22 : decode cX12_kill 22 = .ok (.invokevirtual 345, 3) := by decide +kernel
theorem dX12_kill_25 : decode cX12_kill 25 = .ok (.ireturn, 1) := by decide +kernel
theorem dX12_wake_0 : decode cX12_wake 0 = .ok (.aload_n 0, 1) := by decide +kernel
theorem dX12_wake_1 : decode cX12_wake 1 = .ok (.aload_n 0, 1) := by decide +kernel
theorem dX12_wake_2 : decode cX12_wake 2 = .ok (.iload_n 1, 1) := by decide +kernel
theorem dX12_wake_3 : decode cX12_wake 3 = .ok (.invokevirtual 360, 3) := by decide +kernel
theorem dX12_wake_6 : decode cX12_wake 6 = .ok (.iconst 1, 1) := by decide +kernel
theorem dX12_wake_7 : decode cX12_wake 7 = .ok (.invokevirtual 363, 3) := by decide +kernel
theorem dX12_wake_10 : decode cX12_wake 10 = .ok (.ifCond .ne 5, 3) := by decide +kernel
theorem dX12_wake_13 : decode cX12_wake 13 = .ok (.iconst 0, 1) := by decide +kernel
theorem dX12_wake_14 : decode cX12_wake 14 = .ok (.ireturn, 1) := by decide +kernel
theorem dX12_wake_15 : decode cX12_wake 15 = .ok (.aload_n 0, 1) := by decide +kernel
theorem dX12_wake_16 : decode cX12_wake 16 = .ok (.invokevirtual 351, 3) := by decide +kernel
theorem dX12_wake_19 : decode cX12_wake 19 = .ok (.aload_n 0, 1) := by decide +kernel
theorem dX12_wake_20 : decode cX12_wake 20 = .ok (.iload_n 1, 1) := by decide +kernel
theorem dX12_wake_21 : decode cX12_wake 21 = .ok (.iconst 1, 1) := by decide +kernel
theorem dX12_wake_22 : decode cX12_wake 22 = .ok (.invokevirtual 345, 3) := by decide +kernel
theorem dX12_wake_25 : decode cX12_wake 25 = .ok (.ireturn, 1) := by decide +kernel
theorem dX12_run_0 : decode cX12_run 0 = .ok (.aload_n 0, 1) := by decide +kernel
theorem dX12_run_1 : decode cX12_run 1 = .ok (.iload_n 1, 1) := by decide +kernel
theorem dX12_run_2 : decode cX12_run 2 = .ok (.iconst 1, 1) := by decide +kernel
theorem dX12_run_3 : decode cX12_run 3 = .ok (.bipush 100, 2) := by decide +kernel
theorem dX12_run_5 : decode cX12_run 5 = .ok (.invokestatic 53, 3) := by decide +kernel
theorem dX12_run_8 : decode cX12_run 8 = .ok (.ifCond .eq 15, 3) := by decide +kernel
theorem dX12_run_11 : decode cX12_run 11 = .ok (.aload_n 0, 1) := by decide +kernel
theorem dX12_run_12 : decode cX12_run 12 = .ok (.iload_n 1, 1) := by decide +kernel
theorem dX12_run_13 : decode cX12_run 13 = .ok (.invokevirtual 333, 3) := by decide +kernel
theorem dX12_run_16 : decode cX12_run 16 = .ok (.ifCond .eq 7, 3) := by decide +kernel
theorem dX12_run_19 : decode cX12_run 19 = .ok (.iconst 1, 1) := by decide +kernel
theorem dX12_run_20 : decode cX12_run 20 = .ok (.goto 4, 3) := by decide +kernel
theorem dX12_run_23 : decode cX12_run 23 = .ok (.iconst 0, 1) := by decide +kernel
theorem dX12_run_24 : decode cX12_run 24 = .ok (.iconst 1, 1) := by decide +kernel
theorem dX12_run_25 : decode cX12_run 25 = .ok (.invokevirtual 363, 3) := by decide +kernel
theorem dX12_run_28 : decode cX12_run 28 = .ok (.ifCond .ne 5, 3) := by decide +kernel
theorem dX12_run_31 : decode cX12_run 31 = .ok (.iconst 0, 1) := by decide +kernel
theorem dX12_run_32 : decode cX12_run 32 = .ok (.ireturn, 1) := by decide +kernel
theorem dX12_run_33 : decode cX12_run 33 = .ok (.aload_n 0, 1) := by decide +kernel
theorem dX12_run_34 : decode cX12_run 34 = .ok (.invokevirtual 351, 3) := by decide +kernel
theorem dX12_run_37 : decode cX12_run 37 = .ok (.aload_n 0, 1) := by decide +kernel
theorem dX12_run_38 : decode cX12_run 38 = .ok (.iload_n 1, 1) := by decide +kernel
theorem dX12_run_39 : decode cX12_run 39 = .ok (.invokevirtual 336, 3) := by decide +kernel
theorem dX12_run_42 : decode cX12_run 42 = .ok (.ireturn, 1) := by decide +kernel
theorem dX12_addPlace_0 : decode cX12_addPlace 0 = .ok (.aload_n 0, 1) := by decide +kernel
theorem dX12_addPlace_1 : decode cX12_addPlace 1 = .ok (.aload_n 0, 1) := by decide +kernel
theorem dX12_addPlace_2 : decode cX12_addPlace 2 = .ok (.iload_n 1, 1) := by decide +kernel
theorem dX12_addPlace_3 : decode cX12_addPlace 3 = .ok (.invokevirtual 360, 3) := by decide +kernel
theorem dX12_addPlace_6 : decode cX12_addPlace 6 = .ok (.aload_n 0, 1) := by decide +kernel
theorem dX12_addPlace_7 : decode cX12_addPlace 7 = .ok (.getfield 13, 3) := by decide +kernel
theorem dX12_addPlace_10 : decode cX12_addPlace 10 = .ok (.iconst 1, 1) := by decide +kernel
theorem dX12_addPlace_11 : decode cX12_addPlace 11 = .ok (.iaload, 1) := by decide +kernel
theorem dX12_addPlace_12 : decode cX12_addPlace 12 = .ok (.bipush 16, 2) := by decide +kernel
theorem dX12_addPlace_14 : decode cX12_addPlace 14 = .ok (.if_icmp .ge 7, 3) := by decide +kernel
theorem dX12_addPlace_17 : decode cX12_addPlace 17 = .ok (.iconst 1, 1) := by decide +kernel
theorem dX12_addPlace_18 : decode cX12_addPlace 18 = .ok (.goto 4, 3) := by decide +kernel
theorem dX12_addPlace_21 : decode cX12_addPlace 21 = .ok (.iconst 0, 1) := by decide +kernel
theorem dX12_addPlace_22 : decode cX12_addPlace 22 = .ok (.invokevirtual 363, 3) := by decide +kernel
theorem dX12_addPlace_25 : decode cX12_addPlace 25 = .ok (.ifCond .ne 5, 3) := by decide +kernel
theorem dX12_addPlace_28 : decode cX12_addPlace 28 = .ok (.iconst 0, 1) := by decide +kernel
theorem dX12_addPlace_29 : decode cX12_addPlace 29 = .ok (.ireturn, 1) := by decide +kernel
theorem dX12_addPlace_30 : decode cX12_addPlace 30 = .ok (.aload_n 0, 1) := by decide +kernel
theorem dX12_addPlace_31 : decode cX12_addPlace 31 = .ok (.invokevirtual 351, 3) := by decide +kernel
theorem dX12_addPlace_34 : decode cX12_addPlace 34 = .ok (.aload_n 0, 1) := by decide +kernel
theorem dX12_addPlace_35 : decode cX12_addPlace 35 = .ok (.iload_n 1, 1) := by decide +kernel
theorem dX12_addPlace_36 : decode cX12_addPlace 36 = .ok (.invokevirtual 339, 3) := by decide +kernel
theorem dX12_addPlace_39 : decode cX12_addPlace 39 = .ok (.ireturn, 1) := by decide +kernel
theorem dX12_dropPlace_0 : decode cX12_dropPlace 0 = .ok (.aload_n 0, 1) := by decide +kernel
theorem dX12_dropPlace_1 : decode cX12_dropPlace 1 = .ok (.iload_n 1, 1) := by decide +kernel
theorem dX12_dropPlace_2 : decode cX12_dropPlace 2 = .ok (.iconst 0, 1) := by decide +kernel
theorem dX12_dropPlace_3 : decode cX12_dropPlace 3 = .ok (.aload_n 0, 1) := by decide +kernel
theorem dX12_dropPlace_4 : decode cX12_dropPlace 4 = .ok (.getfield 13, 3) := by decide +kernel
theorem dX12_dropPlace_7 : decode cX12_dropPlace 7 = .ok (.iconst 1, 1) := by decide +kernel
theorem dX12_dropPlace_8 : decode cX12_dropPlace 8 = .ok (.iaload, 1) := by decide +kernel
theorem dX12_dropPlace_9 : decode cX12_dropPlace 9 = .ok (.iconst 1, 1) := by decide +kernel
theorem dX12_dropPlace_10 : decode cX12_dropPlace 10 = .ok (.isub, 1) := by decide +kernel
theorem dX12_dropPlace_11 : decode cX12_dropPlace 11 = .ok (.invokestatic 53, 3) := by decide +kernel
theorem dX12_dropPlace_14 : decode cX12_dropPlace 14 = .ok (.iconst 1, 1) := by decide +kernel
theorem dX12_dropPlace_15 : decode cX12_dropPlace 15 = .ok (.invokevirtual 363, 3) := by decide +kernel
theorem dX12_dropPlace_18 : decode cX12_dropPlace 18 = .ok (.ifCond .ne 5, 3) := by decide +kernel
theorem dX12_dropPlace_21 : decode cX12_dropPlace 21 = .ok (.iconst 0, 1) := by decide +kernel
theorem dX12_dropPlace_22 : decode cX12_dropPlace 22 = .ok (.ireturn, 1) := by decide +kernel
theorem dX12_dropPlace_23 : decode cX12_dropPlace 23 = .ok (.aload_n 0, 1) := by decide +kernel
theorem dX12_dropPlace_24 : decode cX12_dropPlace 24 = .ok (.invokevirtual 351, 3) := by decide +kernel
theorem dX12_dropPlace_27 : decode cX12_dropPlace 27 = .ok (.aload_n 0, 1) := by decide +kernel
theorem dX12_dropPlace_28 : decode cX12_dropPlace 28 = .ok (.iload_n 1, 1) := by decide +kernel
theorem dX12_dropPlace_29 : decode cX12_dropPlace 29 = .ok (.invokevirtual 342, 3) := by decide +kernel
theorem dX12_dropPlace_32 : decode cX12_dropPlace 32 = .ok (.ireturn, 1) := by decide +kernel
theorem dX12_set_0 : decode cX12_set 0 = .ok (.iload_n 1, 1) := by decide +kernel
theorem dX12_set_1 : decode cX12_set 1 = .ok (.iconst 0, 1) := by decide +kernel
theorem dX12_set_2 : decode cX12_set 2 = .ok (.iconst 5, 1) := by decide +kernel
theorem dX12_set_3 : decode cX12_set 3 = .ok (.invokestatic 53, 3) := by decide +kernel
theorem dX12_set_6 : decode cX12_set 6 = .ok (.ifCond .eq 22, 3) := by decide +kernel
theorem dX12_set_9 : decode cX12_set 9 = .ok (.iload_n 2, 1) := by decide +kernel
theorem dX12_set_10 : decode cX12_set 10 = .ok (.iload_n 1, 1) := by decide +kernel
theorem dX12_set_11 : decode cX12_set 11 = .ok (.invokestatic 260, 3) := by decide +kernel
theorem dX12_set_14 : decode cX12_set 14 = .ok (.iload_n 1, 1) := by decide +kernel
theorem dX12_set_15 : decode cX12_set 15 = .ok (.invokestatic 263, 3) := by decide +kernel
theorem dX12_set_18 : decode cX12_set 18 = .ok (.invokestatic 53, 3) := by decide +kernel
theorem dX12_set_21 : decode cX12_set 21 = .ok (.ifCond .eq 7, 3) := by decide +kernel
theorem dX12_set_24 : decode cX12_set 24 = .ok (.iconst 1, 1) := by decide +kernel
theorem dX12_set_25 : decode cX12_set 25 = .ok (.goto 4, 3) := by decide +kernel
theorem dX12_set_28 : decode cX12_set 28 = .ok (.iconst 0, 1) := by decide +kernel
theorem dX12_set_29 : decode cX12_set 29 = .ok (.istore_n 3, 1) := by decide +kernel
theorem dX12_set_30 : decode cX12_set 30 = .ok (.aload_n 0, 1) := by decide +kernel
theorem dX12_set_31 : decode cX12_set 31 = .ok (.iload_n 3, 1) := by decide +kernel
theorem dX12_set_32 : decode cX12_set 32 = .ok (.iconst 1, 1) := by decide +kernel
theorem dX12_set_33 : decode cX12_set 33 = .ok (.invokevirtual 363, 3) := by decide +kernel
theorem dX12_set_36 : decode cX12_set 36 = .ok (.ifCond .ne 5, 3) := by decide +kernel
theorem dX12_set_39 : decode cX12_set 39 = .ok (.iconst 0, 1) := by decide +kernel
theorem dX12_set_40 : decode cX12_set 40 = .ok (.ireturn, 1) := by decide +kernel
theorem dX12_set_41 : decode cX12_set 41 = .ok (.aload_n 0, 1) := by decide +kernel
theorem dX12_set_42 : decode cX12_set 42 = .ok (.invokevirtual 351, 3) := by decide +kernel
theorem dX12_set_45 : decode cX12_set 45 = .ok (.aload_n 0, 1) := by decide +kernel
theorem dX12_set_46 : decode cX12_set 46 = .ok (.getfield 13, 3) := by decide +kernel
theorem dX12_set_49 : decode cX12_set 49 = .ok (.bipush 6, 2) := by decide +kernel
theorem dX12_set_51 : decode cX12_set 51 = .ok (.iload_n 1, 1) := by decide +kernel
theorem dX12_set_52 : decode cX12_set 52 = .ok (.iadd, 1) := by decide +kernel
theorem dX12_set_53 : decode cX12_set 53 = .ok (.iaload, 1) := by decide +kernel
theorem dX12_set_54 : decode cX12_set 54 = .ok (.istore 4, 2) := by decide +kernel
theorem dX12_set_56 : decode cX12_set 56 = .ok (.aload_n 0, 1) := by decide +kernel
theorem dX12_set_57 : decode cX12_set 57 = .ok (.getfield 13, 3) := by decide +kernel
theorem dX12_set_60 : decode cX12_set 60 = .ok (.bipush 6, 2) := by decide +kernel
theorem dX12_set_62 : decode cX12_set 62 = .ok (.iload_n 1, 1) := by decide +kernel
theorem dX12_set_63 : decode cX12_set 63 = .ok (.iadd, 1) := by decide +kernel
theorem dX12_set_64 : decode cX12_set 64 = .ok (.iload_n 2, 1) := by decide +kernel
theorem dX12_set_65 : decode cX12_set 65 = .ok (.iastore, 1) := by decide +kernel
theorem dX12_set_66 : decode cX12_set 66 = .ok (.iload 4, 2) := by decide +kernel
theorem dX12_set_68 : decode cX12_set 68 = .ok (.ireturn, 1) := by decide +kernel
theorem dX12_undo_0 : decode cX12_undo 0 = .ok (.aload_n 0, 1) := by decide +kernel
theorem dX12_undo_1 : decode cX12_undo 1 = .ok (.aload_n 0, 1) := by decide +kernel
theorem dX12_undo_2 : decode cX12_undo 2 = .ok (.getfield 294, 3) := by decide +kernel
theorem dX12_undo_5 : decode cX12_undo 5 = .ok (.ifCond .le 7, 3) := by decide +kernel
theorem dX12_undo_8 : decode cX12_undo 8 = .ok (.iconst 1, 1) := by decide +kernel
theorem dX12_undo_9 : decode cX12_undo 9 = .ok (.goto 4, 3) := by decide +kernel
theorem dX12_undo_12 : decode cX12_undo 12 = .ok (.iconst 0, 1) := by decide +kernel
theorem dX12_undo_13 : decode cX12_undo 13 = .ok (.iconst 1, 1) := by decide +kernel
theorem dX12_undo_14 : decode cX12_undo 14 = .ok (.invokevirtual 363, 3) := by decide +kernel
theorem dX12_undo_17 : decode cX12_undo 17 = .ok (.ifCond .ne 5, 3) := by decide +kernel
theorem dX12_undo_20 : decode cX12_undo 20 = .ok (.iconst 0, 1) := by decide +kernel
theorem dX12_undo_21 : decode cX12_undo 21 = .ok (.ireturn, 1) := by decide +kernel
theorem dX12_undo_22 : decode cX12_undo 22 = .ok (.aload_n 0, 1) := by decide +kernel
theorem dX12_undo_23 : decode cX12_undo 23 = .ok (.aload_n 0, 1) := by decide +kernel
theorem dX12_undo_24 : decode cX12_undo 24 = .ok (.getfield 294, 3) := by decide +kernel
theorem dX12_undo_27 : decode cX12_undo 27 = .ok (.iconst 1, 1) := by decide +kernel
theorem dX12_undo_28 : decode cX12_undo 28 = .ok (.isub, 1) := by decide +kernel
theorem dX12_undo_29 : decode cX12_undo 29 = .ok (.putfield 294, 3) := by decide +kernel
theorem dX12_undo_32 : decode cX12_undo 32 = .ok (.aload_n 0, 1) := by decide +kernel
theorem dX12_undo_33 : decode cX12_undo 33 = .ok (.getfield 23, 3) := by decide +kernel
theorem dX12_undo_36 : decode cX12_undo 36 = .ok (.sipush 800, 3) := by decide +kernel
theorem dX12_undo_39 : decode cX12_undo 39 = .ok (.aload_n 0, 1) := by decide +kernel
theorem dX12_undo_40 : decode cX12_undo 40 = .ok (.getfield 294, 3) := by decide +kernel
theorem dX12_undo_43 : decode cX12_undo 43 = .ok (.imul, 1) := by decide +kernel
theorem dX12_undo_44 : decode cX12_undo 44 = .ok (.aload_n 0, 1) := by decide +kernel
theorem dX12_undo_45 : decode cX12_undo 45 = .ok (.getfield 13, 3) := by decide +kernel
theorem dX12_undo_48 : decode cX12_undo 48 = .ok (.iconst 0, 1) := by decide +kernel
theorem dX12_undo_49 : decode cX12_undo 49 = .ok (.sipush 800, 3) := by decide +kernel
theorem dX12_undo_52 : decode cX12_undo 52 = .ok (.invokestatic 149, 3) := by decide +kernel
theorem dX12_undo_55 : decode cX12_undo 55 = .ok (.aload_n 0, 1) := by decide +kernel
theorem dX12_undo_56 : decode cX12_undo 56 = .ok (.getfield 294, 3) := by decide +kernel
theorem dX12_undo_59 : decode cX12_undo 59 = .ok (.ireturn, 1) := by decide +kernel
theorem dX12_writes_0 : decode cX12_writes 0 = .ok (.aload_n 0, 1) := by decide +kernel
theorem dX12_writes_1 : decode cX12_writes 1 = .ok (.getfield 39, 3) := by decide +kernel
theorem dX12_writes_4 : decode cX12_writes 4 = .ok (.aload_n 0, 1) := by decide +kernel
theorem dX12_writes_5 : decode cX12_writes 5 = .ok (.getfield 391, 3) := by decide +kernel
theorem dX12_writes_8 : decode cX12_writes 8 = .ok (.iload_n 1, 1) := by decide +kernel
theorem dX12_writes_9 : decode cX12_writes 9 = .ok (.i2b, 1) := by decide +kernel
theorem dX12_writes_10 : decode cX12_writes 10 = .ok (.bastore, 1) := by decide +kernel
theorem dX12_writes_11 : decode cX12_writes 11 = .ok (.aload_n 0, 1) := by decide +kernel
theorem dX12_writes_12 : decode cX12_writes 12 = .ok (.aload_n 0, 1) := by decide +kernel
theorem dX12_writes_13 : decode cX12_writes 13 = .ok (.getfield 391, 3) := by decide +kernel
theorem dX12_writes_16 : decode cX12_writes 16 = .ok (.iconst 1, 1) := by decide +kernel
theorem dX12_writes_17 : decode cX12_writes 17 = .ok (.iadd, 1) := by decide +kernel
theorem dX12_writes_18 : decode cX12_writes 18 = .ok (.putfield 391, 3) := by decide +kernel
theorem dX12_writes_21 : decode cX12_writes 21 = .ok (.return_, 1) := by decide +kernel
theorem dX12_writesNumber_0 : decode cX12_writesNumber 0 = .ok (.iload_n 1, 1) := by decide +kernel
theorem dX12_writesNumber_1 : decode cX12_writesNumber 1 = .ok (.bipush 9, 2) := by decide +kernel
theorem dX12_writesNumber_3 : decode cX12_writesNumber 3 = .ok (.if_icmp .le 11, 3) := by decide +kernel
theorem dX12_writesNumber_6 : decode cX12_writesNumber 6 = .ok (.aload_n 0, 1) := by decide +kernel
theorem dX12_writesNumber_7 : decode cX12_writesNumber 7 = .ok (.iload_n 1, 1) := by decide +kernel
theorem dX12_writesNumber_8 : decode cX12_writesNumber 8 = .ok (.bipush 10, 2) := by decide +kernel
theorem dX12_writesNumber_10 : decode cX12_writesNumber 10 = .ok (.idiv, 1) := by decide +kernel
theorem dX12_writesNumber_11 : decode cX12_writesNumber 11 = .ok (.invokevirtual 394, 3) := by decide +kernel
theorem dX12_writesNumber_14 : decode cX12_writesNumber 14 = .ok (.aload_n 0, 1) := by decide +kernel
theorem dX12_writesNumber_15 : decode cX12_writesNumber 15 = .ok (.bipush 48, 2) := by decide +kernel
theorem dX12_writesNumber_17 : decode cX12_writesNumber 17 = .ok (.iload_n 1, 1) := by decide +kernel
theorem dX12_writesNumber_18 : decode cX12_writesNumber 18 = .ok (.bipush 10, 2) := by decide +kernel
theorem dX12_writesNumber_20 : decode cX12_writesNumber 20 = .ok (.irem, 1) := by decide +kernel
theorem dX12_writesNumber_21 : decode cX12_writesNumber 21 = .ok (.iadd, 1) := by decide +kernel
theorem dX12_writesNumber_22 : decode cX12_writesNumber 22 = .ok (.invokevirtual 397, 3) := by decide +kernel
theorem dX12_writesNumber_25 : decode cX12_writesNumber 25 = .ok (.return_, 1) := by decide +kernel
theorem dX12_writesName_0 : decode cX12_writesName 0 = .ok (.aload_n 0, 1) := by decide +kernel
theorem dX12_writesName_1 : decode cX12_writesName 1 = .ok (.iload_n 1, 1) := by decide +kernel
theorem dX12_writesName_2 : decode cX12_writesName 2 = .ok (.bipush 15, 2) := by decide +kernel
theorem dX12_writesName_4 : decode cX12_writesName 4 = .ok (.invokevirtual 57, 3) := by decide +kernel
theorem dX12_writesName_7 : decode cX12_writesName 7 = .ok (.istore_n 2, 1) := by decide +kernel
theorem dX12_writesName_8 : decode cX12_writesName 8 = .ok (.iconst 0, 1) := by decide +kernel
theorem dX12_writesName_9 : decode cX12_writesName 9 = .ok (.istore_n 3, 1) := by decide +kernel
theorem dX12_writesName_10 : decode cX12_writesName 10 = .ok (.iload_n 3, 1) := by decide +kernel
theorem dX12_writesName_11 : decode cX12_writesName 11 = .ok (.iload_n 2, 1) := by decide +kernel
theorem dX12_writesName_12 : decode cX12_writesName 12 = .ok (.invokestatic 370, 3) := by decide +kernel
theorem dX12_writesName_15 : decode cX12_writesName 15 = .ok (.if_icmp .ge 23, 3) := by decide +kernel
theorem dX12_writesName_18 : decode cX12_writesName 18 = .ok (.aload_n 0, 1) := by decide +kernel
theorem dX12_writesName_19 : decode cX12_writesName 19 = .ok (.bipush 97, 2) := by decide +kernel
theorem dX12_writesName_21 : decode cX12_writesName 21 = .ok (.iload_n 2, 1) := by decide +kernel
theorem dX12_writesName_22 : decode cX12_writesName 22 = .ok (.iload_n 3, 1) := by decide +kernel
theorem dX12_writesName_23 : decode cX12_writesName 23 = .ok (.invokestatic 373, 3) := by decide +kernel
theorem dX12_writesName_26 : decode cX12_writesName 26 = .ok (.iadd, 1) := by decide +kernel
theorem dX12_writesName_27 : decode cX12_writesName 27 = .ok (.iconst 1, 1) := by decide +kernel
theorem dX12_writesName_28 : decode cX12_writesName 28 = .ok (.isub, 1) := by decide +kernel
theorem dX12_writesName_29 : decode cX12_writesName 29 = .ok (.invokevirtual 397, 3) := by decide +kernel
theorem dX12_writesName_32 : decode cX12_writesName 32 = .ok (.iinc 3 1, 3) := by decide +kernel
theorem dX12_writesName_35 : decode cX12_writesName 35 = .ok (.goto (-25), 3) := by decide +kernel
theorem dX12_writesName_38 : decode cX12_writesName 38 = .ok (.return_, 1) := by decide +kernel
theorem dX12_printTerminals_0 : decode cX12_printTerminals 0 = .ok (.aload_n 0, 1) := by decide +kernel
theorem dX12_printTerminals_1 : decode cX12_printTerminals 1 = .ok (.iconst 0, 1) := by decide +kernel
theorem dX12_printTerminals_2 : decode cX12_printTerminals 2 = .ok (.putfield 1, 3) := by decide +kernel
theorem dX12_printTerminals_5 : decode cX12_printTerminals 5 = .ok (.aload_n 0, 1) := by decide +kernel
theorem dX12_printTerminals_6 : decode cX12_printTerminals 6 = .ok (.iconst 0, 1) := by decide +kernel
theorem dX12_printTerminals_7 : decode cX12_printTerminals 7 = .ok (.putfield 391, 3) := by decide +kernel
theorem dX12_printTerminals_10 : decode cX12_printTerminals 10 = .ok (.iconst 0, 1) := by decide +kernel
theorem dX12_printTerminals_11 : decode cX12_printTerminals 11 = .ok (.istore_n 1, 1) := by decide +kernel
theorem dX12_printTerminals_12 : decode cX12_printTerminals 12 = .ok (.iload_n 1, 1) := by decide +kernel
theorem dX12_printTerminals_13 : decode cX12_printTerminals 13 = .ok (.aload_n 0, 1) := by decide +kernel
theorem dX12_printTerminals_14 : decode cX12_printTerminals 14 = .ok (.invokevirtual 49, 3) := by decide +kernel
theorem dX12_printTerminals_17 : decode cX12_printTerminals 17 = .ok (.if_icmp .ge 92, 3) := by decide +kernel
theorem dX12_printTerminals_20 : decode cX12_printTerminals 20 = .ok (.iload_n 1, 1) := by decide +kernel
theorem dX12_printTerminals_21 : decode cX12_printTerminals 21 = .ok (.ifCond .le 9, 3) := by decide +kernel
theorem dX12_printTerminals_24 : decode cX12_printTerminals 24 = .ok (.aload_n 0, 1) := by decide +kernel
theorem dX12_printTerminals_25 : decode cX12_printTerminals 25 = .ok (.bipush 32, 2) := by decide +kernel
theorem dX12_printTerminals_27 : decode cX12_printTerminals 27 = .ok (.invokevirtual 397, 3) := by decide +kernel
theorem dX12_printTerminals_30 : decode cX12_printTerminals 30 = .ok (.aload_n 0, 1) := by decide +kernel
theorem dX12_printTerminals_31 : decode cX12_printTerminals 31 = .ok (.iload_n 1, 1) := by decide +kernel
theorem dX12_printTerminals_32 : decode cX12_printTerminals 32 = .ok (.invokevirtual 400, 3) := by decide +kernel
theorem dX12_printTerminals_35 : decode cX12_printTerminals 35 = .ok (.aload_n 0, 1) := by decide +kernel
theorem dX12_printTerminals_36 : decode cX12_printTerminals 36 = .ok (.iload_n 1, 1) := by decide +kernel
theorem dX12_printTerminals_37 : decode cX12_printTerminals 37 = .ok (.iconst 4, 1) := by decide +kernel
theorem dX12_printTerminals_38 : decode cX12_printTerminals 38 = .ok (.invokevirtual 57, 3) := by decide +kernel
theorem dX12_printTerminals_41 : decode cX12_printTerminals 41 = .ok (.ifCond .ne 9, 3) := by decide +kernel
theorem dX12_printTerminals_44 : decode cX12_printTerminals 44 = .ok (.aload_n 0, 1) := by decide +kernel
theorem dX12_printTerminals_45 : decode cX12_printTerminals 45 = .ok (.bipush 45, 2) := by decide +kernel
theorem dX12_printTerminals_47 : decode cX12_printTerminals 47 = .ok (.invokevirtual 397, 3) := by decide +kernel
theorem dX12_printTerminals_50 : decode cX12_printTerminals 50 = .ok (.aload_n 0, 1) := by decide +kernel
theorem dX12_printTerminals_51 : decode cX12_printTerminals 51 = .ok (.iload_n 1, 1) := by decide +kernel
theorem dX12_printTerminals_52 : decode cX12_printTerminals 52 = .ok (.iconst 3, 1) := by decide +kernel
theorem dX12_printTerminals_53 : decode cX12_printTerminals 53 = .ok (.invokevirtual 57, 3) := by decide +kernel
theorem dX12_printTerminals_56 : decode cX12_printTerminals 56 = .ok (.ifCond .ne 9, 3) := by decide +kernel
theorem dX12_printTerminals_59 : decode cX12_printTerminals 59 = .ok (.aload_n 0, 1) := by decide +kernel
theorem dX12_printTerminals_60 : decode cX12_printTerminals 60 = .ok (.bipush 120, 2) := by decide +kernel
theorem dX12_printTerminals_62 : decode cX12_printTerminals 62 = .ok (.invokevirtual 397, 3) := by decide +kernel
theorem dX12_printTerminals_65 : decode cX12_printTerminals 65 = .ok (.iconst 0, 1) := by decide +kernel
theorem dX12_printTerminals_66 : decode cX12_printTerminals 66 = .ok (.istore_n 2, 1) := by decide +kernel
theorem dX12_printTerminals_67 : decode cX12_printTerminals 67 = .ok (.iload_n 2, 1) := by decide +kernel
theorem dX12_printTerminals_68 : decode cX12_printTerminals 68 = .ok (.iconst 3, 1) := by decide +kernel
theorem dX12_printTerminals_69 : decode cX12_printTerminals 69 = .ok (.if_icmp .ge 34, 3) := by decide +kernel
theorem dX12_printTerminals_72 : decode cX12_printTerminals 72 = .ok (.aload_n 0, 1) := by decide +kernel
theorem dX12_printTerminals_73 : decode cX12_printTerminals 73 = .ok (.iload_n 2, 1) := by decide +kernel
theorem dX12_printTerminals_74 : decode cX12_printTerminals 74 = .ok (.ifCond .ne 8, 3) := by decide +kernel
theorem dX12_printTerminals_77 : decode cX12_printTerminals 77 = .ok (.bipush 58, 2) := by decide +kernel
theorem dX12_printTerminals_79 : decode cX12_printTerminals 79 = .ok (.goto 5, 3) := by decide +kernel
theorem dX12_printTerminals_82 : decode cX12_printTerminals 82 = .ok (.bipush 47, 2) := by decide +kernel
theorem dX12_printTerminals_84 : decode cX12_printTerminals 84 = .ok (.invokevirtual 397, 3) := by decide +kernel
theorem dX12_printTerminals_87 : decode cX12_printTerminals 87 = .ok (.aload_n 0, 1) := by decide +kernel
theorem dX12_printTerminals_88 : decode cX12_printTerminals 88 = .ok (.aload_n 0, 1) := by decide +kernel
theorem dX12_printTerminals_89 : decode cX12_printTerminals 89 = .ok (.iload_n 1, 1) := by decide +kernel
theorem dX12_printTerminals_90 : decode cX12_printTerminals 90 = .ok (.iload_n 2, 1) := by decide +kernel
theorem dX12_printTerminals_91 : decode cX12_printTerminals 91 = .ok (.invokevirtual 115, 3) := by decide +kernel
theorem dX12_printTerminals_94 : decode cX12_printTerminals 94 = .ok (.invokevirtual 394, 3) := by decide +kernel
theorem dX12_printTerminals_97 : decode cX12_printTerminals 97 = .ok (.iinc 2 1, 3) := by decide +kernel
theorem dX12_printTerminals_100 : decode cX12_printTerminals 100 = .ok (.goto (-33), 3) := by decide +kernel
theorem dX12_printTerminals_103 : decode cX12_printTerminals 103 = .ok (.iinc 1 1, 3) := by decide +kernel
theorem dX12_printTerminals_106 : decode cX12_printTerminals 106 = .ok (.goto (-94), 3) := by decide +kernel
theorem dX12_printTerminals_109 : decode cX12_printTerminals 109 = .ok (.aload_n 0, 1) := by decide +kernel
theorem dX12_printTerminals_110 : decode cX12_printTerminals 110 = .ok (.getfield 391, 3) := by decide +kernel
theorem dX12_printTerminals_113 : decode cX12_printTerminals 113 = .ok (.ireturn, 1) := by decide +kernel
theorem dX12_printList_0 : decode cX12_printList 0 = .ok (.aload_n 0, 1) := by decide +kernel
theorem dX12_printList_1 : decode cX12_printList 1 = .ok (.iconst 0, 1) := by decide +kernel
theorem dX12_printList_2 : decode cX12_printList 2 = .ok (.putfield 1, 3) := by decide +kernel
theorem dX12_printList_5 : decode cX12_printList 5 = .ok (.aload_n 0, 1) := by decide +kernel
theorem dX12_printList_6 : decode cX12_printList 6 = .ok (.iconst 0, 1) := by decide +kernel
theorem dX12_printList_7 : decode cX12_printList 7 = .ok (.putfield 391, 3) := by decide +kernel
theorem dX12_printList_10 : decode cX12_printList 10 = .ok (.iconst 0, 1) := by decide +kernel
theorem dX12_printList_11 : decode cX12_printList 11 = .ok (.istore_n 1, 1) := by decide +kernel
theorem dX12_printList_12 : decode cX12_printList 12 = .ok (.iload_n 1, 1) := by decide +kernel
theorem dX12_printList_13 : decode cX12_printList 13 = .ok (.aload_n 0, 1) := by decide +kernel
theorem dX12_printList_14 : decode cX12_printList 14 = .ok (.getfield 13, 3) := by decide +kernel
theorem dX12_printList_17 : decode cX12_printList 17 = .ok (.iconst 1, 1) := by decide +kernel
theorem dX12_printList_18 : decode cX12_printList 18 = .ok (.iaload, 1) := by decide +kernel
theorem dX12_printList_19 : decode cX12_printList 19 = .ok (.if_icmp .ge 32, 3) := by decide +kernel
theorem dX12_printList_22 : decode cX12_printList 22 = .ok (.iload_n 1, 1) := by decide +kernel
theorem dX12_printList_23 : decode cX12_printList 23 = .ok (.ifCond .le 9, 3) := by decide +kernel
theorem dX12_printList_26 : decode cX12_printList 26 = .ok (.aload_n 0, 1) := by decide +kernel
theorem dX12_printList_27 : decode cX12_printList 27 = .ok (.bipush 32, 2) := by decide +kernel
theorem dX12_printList_29 : decode cX12_printList 29 = .ok (.invokevirtual 397, 3) := by decide +kernel
theorem dX12_printList_32 : decode cX12_printList 32 = .ok (.aload_n 0, 1) := by decide +kernel
theorem dX12_printList_33 : decode cX12_printList 33 = .ok (.aload_n 0, 1) := by decide +kernel
theorem dX12_printList_34 : decode cX12_printList 34 = .ok (.getfield 13, 3) := by decide +kernel
theorem dX12_printList_37 : decode cX12_printList 37 = .ok (.bipush 30, 2) := by decide +kernel
theorem dX12_printList_39 : decode cX12_printList 39 = .ok (.iload_n 1, 1) := by decide +kernel
theorem dX12_printList_40 : decode cX12_printList 40 = .ok (.iadd, 1) := by decide +kernel
theorem dX12_printList_41 : decode cX12_printList 41 = .ok (.iaload, 1) := by decide +kernel
theorem dX12_printList_42 : decode cX12_printList 42 = .ok (.invokevirtual 400, 3) := by decide +kernel
theorem dX12_printList_45 : decode cX12_printList 45 = .ok (.iinc 1 1, 3) := by decide +kernel
theorem dX12_printList_48 : decode cX12_printList 48 = .ok (.goto (-36), 3) := by decide +kernel
theorem dX12_printList_51 : decode cX12_printList 51 = .ok (.aload_n 0, 1) := by decide +kernel
theorem dX12_printList_52 : decode cX12_printList 52 = .ok (.getfield 391, 3) := by decide +kernel
theorem dX12_printList_55 : decode cX12_printList 55 = .ok (.ireturn, 1) := by decide +kernel
theorem dX12_outputByte_0 : decode cX12_outputByte 0 = .ok (.aload_n 0, 1) := by decide +kernel
theorem dX12_outputByte_1 : decode cX12_outputByte 1 = .ok (.iconst 0, 1) := by decide +kernel
theorem dX12_outputByte_2 : decode cX12_outputByte 2 = .ok (.putfield 1, 3) := by decide +kernel
theorem dX12_outputByte_5 : decode cX12_outputByte 5 = .ok (.iload_n 1, 1) := by decide +kernel
theorem dX12_outputByte_6 : decode cX12_outputByte 6 = .ok (.iconst 0, 1) := by decide +kernel
theorem dX12_outputByte_7 : decode cX12_outputByte 7 = .ok (.aload_n 0, 1) := by decide +kernel
theorem dX12_outputByte_8 : decode cX12_outputByte 8 = .ok (.getfield 391, 3) := by decide +kernel
theorem dX12_outputByte_11 : decode cX12_outputByte 11 = .ok (.iconst 1, 1) := by decide +kernel
theorem dX12_outputByte_12 : decode cX12_outputByte 12 = .ok (.isub, 1) := by decide +kernel
theorem dX12_outputByte_13 : decode cX12_outputByte 13 = .ok (.invokestatic 53, 3) := by decide +kernel
theorem dX12_outputByte_16 : decode cX12_outputByte 16 = .ok (.ifCond .eq 12, 3) := by decide +kernel
theorem dX12_outputByte_19 : decode cX12_outputByte 19 = .ok (.aload_n 0, 1) := by decide +kernel
theorem dX12_outputByte_20 : decode cX12_outputByte 20 = .ok (.getfield 39, 3) := by decide +kernel
theorem dX12_outputByte_23 : decode cX12_outputByte 23 = .ok (.iload_n 1, 1) := by decide +kernel
theorem dX12_outputByte_24 : decode cX12_outputByte 24 = .ok (.baload, 1) := by decide +kernel
theorem dX12_outputByte_25 : decode cX12_outputByte 25 = .ok (.goto 4, 3) := by decide +kernel
theorem dX12_outputByte_28 : decode cX12_outputByte 28 = .ok (.iconst (-1), 1) := by decide +kernel
theorem dX12_outputByte_29 : decode cX12_outputByte 29 = .ok (.ireturn, 1) := by decide +kernel
theorem dX12_saveState_0 : decode cX12_saveState 0 = .ok (.aload_n 0, 1) := by decide +kernel
theorem dX12_saveState_1 : decode cX12_saveState 1 = .ok (.iconst 0, 1) := by decide +kernel
theorem dX12_saveState_2 : decode cX12_saveState 2 = .ok (.putfield 1, 3) := by decide +kernel
theorem dX12_saveState_5 : decode cX12_saveState 5 = .ok (.aload_n 0, 1) := by decide +kernel
theorem dX12_saveState_6 : decode cX12_saveState 6 = .ok (.getfield 13, 3) := by decide +kernel
theorem dX12_saveState_9 : decode cX12_saveState 9 = .ok (.iconst 0, 1) := by decide +kernel
theorem dX12_saveState_10 : decode cX12_saveState 10 = .ok (.aload_n 0, 1) := by decide +kernel
theorem dX12_saveState_11 : decode cX12_saveState 11 = .ok (.getfield 20, 3) := by decide +kernel
theorem dX12_saveState_14 : decode cX12_saveState 14 = .ok (.iconst 0, 1) := by decide +kernel
theorem dX12_saveState_15 : decode cX12_saveState 15 = .ok (.sipush 800, 3) := by decide +kernel
theorem dX12_saveState_18 : decode cX12_saveState 18 = .ok (.invokestatic 149, 3) := by decide +kernel
theorem dX12_saveState_21 : decode cX12_saveState 21 = .ok (.aload_n 0, 1) := by decide +kernel
theorem dX12_saveState_22 : decode cX12_saveState 22 = .ok (.iconst 1, 1) := by decide +kernel
theorem dX12_saveState_23 : decode cX12_saveState 23 = .ok (.putfield 297, 3) := by decide +kernel
theorem dX12_saveState_26 : decode cX12_saveState 26 = .ok (.aload_n 0, 1) := by decide +kernel
theorem dX12_saveState_27 : decode cX12_saveState 27 = .ok (.getfield 13, 3) := by decide +kernel
theorem dX12_saveState_30 : decode cX12_saveState 30 = .ok (.iconst 3, 1) := by decide +kernel
theorem dX12_saveState_31 : decode cX12_saveState 31 = .ok (.iaload, 1) := by decide +kernel
theorem dX12_saveState_32 : decode cX12_saveState 32 = .ok (.ireturn, 1) := by decide +kernel
theorem dX12_restoreState_0 : decode cX12_restoreState 0 = .ok (.aload_n 0, 1) := by decide +kernel
theorem dX12_restoreState_1 : decode cX12_restoreState 1 = .ok (.aload_n 0, 1) := by decide +kernel
theorem dX12_restoreState_2 : decode cX12_restoreState 2 = .ok (.getfield 297, 3) := by decide +kernel
theorem dX12_restoreState_5 : decode cX12_restoreState 5 = .ok (.iconst 1, 1) := by decide +kernel
theorem dX12_restoreState_6 : decode cX12_restoreState 6 = .ok (.invokevirtual 363, 3) := by decide +kernel
theorem dX12_restoreState_9 : decode cX12_restoreState 9 = .ok (.ifCond .ne 5, 3) := by decide +kernel
theorem dX12_restoreState_12 : decode cX12_restoreState 12 = .ok (.iconst 0, 1) := by decide +kernel
theorem dX12_restoreState_13 : decode cX12_restoreState 13 = .ok (.ireturn, 1) := by decide +kernel
theorem dX12_restoreState_14 : decode cX12_restoreState 14 = .ok (.aload_n 0, 1) := by decide +kernel
theorem dX12_restoreState_15 : decode cX12_restoreState 15 = .ok (.getfield 20, 3) := by decide +kernel
theorem dX12_restoreState_18 : decode cX12_restoreState 18 = .ok (.iconst 0, 1) := by decide +kernel
theorem dX12_restoreState_19 : decode cX12_restoreState 19 = .ok (.aload_n 0, 1) := by decide +kernel
theorem dX12_restoreState_20 : decode cX12_restoreState 20 = .ok (.getfield 13, 3) := by decide +kernel
theorem dX12_restoreState_23 : decode cX12_restoreState 23 = .ok (.iconst 0, 1) := by decide +kernel
theorem dX12_restoreState_24 : decode cX12_restoreState 24 = .ok (.sipush 800, 3) := by decide +kernel
theorem dX12_restoreState_27 : decode cX12_restoreState 27 = .ok (.invokestatic 149, 3) := by decide +kernel
theorem dX12_restoreState_30 : decode cX12_restoreState 30 = .ok (.aload_n 0, 1) := by decide +kernel
theorem dX12_restoreState_31 : decode cX12_restoreState 31 = .ok (.iconst 0, 1) := by decide +kernel
theorem dX12_restoreState_32 : decode cX12_restoreState 32 = .ok (.putfield 294, 3) := by decide +kernel
theorem dX12_restoreState_35 : decode cX12_restoreState 35 = .ok (.aload_n 0, 1) := by decide +kernel
theorem dX12_restoreState_36 : decode cX12_restoreState 36 = .ok (.getfield 13, 3) := by decide +kernel
theorem dX12_restoreState_39 : decode cX12_restoreState 39 = .ok (.iconst 3, 1) := by decide +kernel
theorem dX12_restoreState_40 : decode cX12_restoreState 40 = .ok (.iaload, 1) := by decide +kernel
theorem dX12_restoreState_41 : decode cX12_restoreState 41 = .ok (.ireturn, 1) := by decide +kernel
theorem dJ0_length_8abf5_0 : decode cJ0_length_8abf5 0 = .ok (.aload_n 0, 1) := by decide +kernel
theorem dJ0_length_8abf5_1 : decode cJ0_length_8abf5 1 = .ok (.getfield 9, 3) := by decide +kernel
theorem dJ0_length_8abf5_4 : decode cJ0_length_8abf5 4 = .ok (.arraylength, 1) := by decide +kernel
theorem dJ0_length_8abf5_5 : decode cJ0_length_8abf5 5 = .ok (.aload_n 0, 1) := by decide +kernel
theorem dJ0_length_8abf5_6 : decode cJ0_length_8abf5 6 = .ok (.invokevirtual 335, 3) := by decide +kernel
theorem dJ0_length_8abf5_9 : decode cJ0_length_8abf5 9 = .ok (.ishr, 1) := by decide +kernel
theorem dJ0_length_8abf5_10 : decode cJ0_length_8abf5 10 = .ok (.ireturn, 1) := by decide +kernel
theorem dJ0_charAt_5068e_0 : decode cJ0_charAt_5068e 0 = .ok (.aload_n 0, 1) := by decide +kernel
theorem dJ0_charAt_5068e_1 : decode cJ0_charAt_5068e 1 = .ok (.invokevirtual 492, 3) := by decide +kernel
theorem dJ0_charAt_5068e_4 : decode cJ0_charAt_5068e 4 = .ok (.ifCond .eq 12, 3) := by decide +kernel
theorem dJ0_charAt_5068e_7 : decode cJ0_charAt_5068e 7 = .ok (.aload_n 0, 1) := by decide +kernel
theorem dJ0_charAt_5068e_8 : decode cJ0_charAt_5068e 8 = .ok (.getfield 9, 3) := by decide +kernel
theorem dJ0_charAt_5068e_11 : decode cJ0_charAt_5068e 11 = .ok (.iload_n 1, 1) := by decide +kernel
theorem dJ0_charAt_5068e_12 : decode cJ0_charAt_5068e 12 = .ok (.invokestatic 495, 3) := by decide +kernel
theorem dJ0_charAt_5068e_15 : decode cJ0_charAt_5068e 15 = .ok (.ireturn, 1) := by decide +kernel
theorem dJ0_charAt_5068e_16 : decode cJ0_charAt_5068e 16 = .ok (.aload_n 0, 1) := by decide +kernel
theorem dJ0_charAt_5068e_17 : decode cJ0_charAt_5068e 17 = .ok (.getfield 9, 3) := by decide +kernel
theorem dJ0_charAt_5068e_20 : decode cJ0_charAt_5068e 20 = .ok (.iload_n 1, 1) := by decide +kernel
theorem dJ0_charAt_5068e_21 : decode cJ0_charAt_5068e 21 = .ok (.invokestatic 498, 3) := by decide +kernel
theorem dJ0_charAt_5068e_24 : decode cJ0_charAt_5068e 24 = .ok (.ireturn, 1) := by decide +kernel
theorem dJ0_coder_7d493_0 : decode cJ0_coder_7d493 0 = .ok (.getstatic 38, 3) := by decide +kernel
theorem dJ0_coder_7d493_3 : decode cJ0_coder_7d493 3 = .ok (.ifCond .eq 10, 3) := by decide +kernel
theorem dJ0_coder_7d493_6 : decode cJ0_coder_7d493 6 = .ok (.aload_n 0, 1) := by decide +kernel
theorem dJ0_coder_7d493_7 : decode cJ0_coder_7d493 7 = .ok (.getfield 15, 3) := by decide +kernel
theorem dJ0_coder_7d493_10 : decode cJ0_coder_7d493 10 = .ok (.goto 4, 3) := by decide +kernel
theorem dJ0_coder_7d493_13 : decode cJ0_coder_7d493 13 = .ok (.iconst 1, 1) := by decide +kernel
theorem dJ0_coder_7d493_14 : decode cJ0_coder_7d493 14 = .ok (.ireturn, 1) := by decide +kernel
theorem dJ0_isLatin1_aae02_0 : decode cJ0_isLatin1_aae02 0 = .ok (.getstatic 38, 3) := by decide +kernel
theorem dJ0_isLatin1_aae02_3 : decode cJ0_isLatin1_aae02 3 = .ok (.ifCond .eq 14, 3) := by decide +kernel
theorem dJ0_isLatin1_aae02_6 : decode cJ0_isLatin1_aae02 6 = .ok (.aload_n 0, 1) := by decide +kernel
theorem dJ0_isLatin1_aae02_7 : decode cJ0_isLatin1_aae02 7 = .ok (.getfield 15, 3) := by decide +kernel
theorem dJ0_isLatin1_aae02_10 : decode cJ0_isLatin1_aae02 10 = .ok (.ifCond .ne 7, 3) := by decide +kernel
theorem dJ0_isLatin1_aae02_13 : decode cJ0_isLatin1_aae02 13 = .ok (.iconst 1, 1) := by decide +kernel
theorem dJ0_isLatin1_aae02_14 : decode cJ0_isLatin1_aae02 14 = .ok (.goto 4, 3) := by decide +kernel
theorem dJ0_isLatin1_aae02_17 : decode cJ0_isLatin1_aae02 17 = .ok (.iconst 0, 1) := by decide +kernel
theorem dJ0_isLatin1_aae02_18 : decode cJ0_isLatin1_aae02 18 = .ok (.ireturn, 1) := by decide +kernel
theorem dJ0_checkIndex_df160_0 : decode cJ0_checkIndex_df160 0 = .ok (.iload_n 0, 1) := by decide +kernel
theorem dJ0_checkIndex_df160_1 : decode cJ0_checkIndex_df160 1 = .ok (.iload_n 1, 1) := by decide +kernel
theorem dJ0_checkIndex_df160_2 : decode cJ0_checkIndex_df160 2 = .ok (.getstatic 1053, 3) := by decide +kernel
theorem dJ0_checkIndex_df160_5 : decode cJ0_checkIndex_df160 5 = .ok (.invokestatic 1059, 3) := by decide +kernel
theorem dJ0_checkIndex_df160_8 : decode cJ0_checkIndex_df160 8 = .ok (.pop, 1) := by decide +kernel
theorem dJ0_checkIndex_df160_9 : decode cJ0_checkIndex_df160 9 = .ok (.return_, 1) := by decide +kernel
theorem dJ1_charAt_3b067_0 : decode cJ1_charAt_3b067 0 = .ok (.iload_n 1, 1) := by decide +kernel
theorem dJ1_charAt_3b067_1 : decode cJ1_charAt_3b067 1 = .ok (.aload_n 0, 1) := by decide +kernel
theorem dJ1_charAt_3b067_2 : decode cJ1_charAt_3b067 2 = .ok (.arraylength, 1) := by decide +kernel
theorem dJ1_charAt_3b067_3 : decode cJ1_charAt_3b067 3 = .ok (.invokestatic 9, 3) := by decide +kernel
theorem dJ1_charAt_3b067_6 : decode cJ1_charAt_3b067 6 = .ok (.aload_n 0, 1) := by decide +kernel
theorem dJ1_charAt_3b067_7 : decode cJ1_charAt_3b067 7 = .ok (.iload_n 1, 1) := by decide +kernel
theorem dJ1_charAt_3b067_8 : decode cJ1_charAt_3b067 8 = .ok (.baload, 1) := by decide +kernel
theorem dJ1_charAt_3b067_9 : decode cJ1_charAt_3b067 9 = .ok (.sipush 255, 3) := by decide +kernel
theorem dJ1_charAt_3b067_12 : decode cJ1_charAt_3b067 12 = .ok (.iand, 1) := by decide +kernel
theorem dJ1_charAt_3b067_13 : decode cJ1_charAt_3b067 13 = .ok (.i2c, 1) := by decide +kernel
theorem dJ1_charAt_3b067_14 : decode cJ1_charAt_3b067 14 = .ok (.ireturn, 1) := by decide +kernel
theorem dJ2_getChar_3b067_0 : decode cJ2_getChar_3b067 0 = .ok (.getstatic 44, 3) := by decide +kernel
theorem dJ2_getChar_3b067_3 : decode cJ2_getChar_3b067 3 = .ok (.ifCond .ne 25, 3) := by decide +kernel
theorem dJ2_getChar_3b067_6 : decode cJ2_getChar_3b067 6 = .ok (.iload_n 1, 1) := by decide +kernel
theorem dJ2_getChar_3b067_7 : decode cJ2_getChar_3b067 7 = .ok (.ifCond .lt 11, 3) := by decide +kernel
theorem dJ2_getChar_3b067_10 : decode cJ2_getChar_3b067 10 = .ok (.iload_n 1, 1) := by decide +kernel
theorem dJ2_getChar_3b067_11 : decode cJ2_getChar_3b067 11 = .ok (.aload_n 0, 1) := by decide +kernel
theorem dJ2_getChar_3b067_12 : decode cJ2_getChar_3b067 12 = .ok (.invokestatic 48, 3) := by decide +kernel
theorem dJ2_getChar_3b067_15 : decode cJ2_getChar_3b067 15 = .ok (.if_icmp .lt 13, 3) := by decide +kernel
theorem dJ2_getChar_3b067_18 : decode cJ2_getChar_3b067 18 = .ok (.new 52, 3) := by decide +kernel
theorem dJ2_getChar_3b067_21 : decode cJ2_getChar_3b067 21 = .ok (.dup, 1) := by decide +kernel
theorem dJ2_getChar_3b067_22 : decode cJ2_getChar_3b067 22 = .ok (.ldc 54, 2) := by decide +kernel
theorem dJ2_getChar_3b067_24 : decode cJ2_getChar_3b067 24 = .ok (.invokespecial 56, 3) := by decide +kernel
theorem dJ2_getChar_3b067_27 : decode cJ2_getChar_3b067 27 = .ok (.athrow, 1) := by decide +kernel
theorem dJ2_getChar_3b067_28 : decode cJ2_getChar_3b067 28 = .ok (.iload_n 1, 1) := by decide +kernel
theorem dJ2_getChar_3b067_29 : decode cJ2_getChar_3b067 29 = .ok (.iconst 1, 1) := by decide +kernel
theorem dJ2_getChar_3b067_30 : decode cJ2_getChar_3b067 30 = .ok (.ishl, 1) := by decide +kernel
theorem dJ2_getChar_3b067_31 : decode cJ2_getChar_3b067 31 = .ok (.istore_n 1, 1) := by decide +kernel
theorem dJ2_getChar_3b067_32 : decode cJ2_getChar_3b067 32 = .ok (.aload_n 0, 1) := by decide +kernel
theorem dJ2_getChar_3b067_33 : decode cJ2_getChar_3b067 33 = .ok (.iload_n 1, 1) := by decide +kernel
theorem dJ2_getChar_3b067_34 : decode cJ2_getChar_3b067 34 = .ok (.iinc 1 1, 3) := by decide +kernel
theorem dJ2_getChar_3b067_37 : decode cJ2_getChar_3b067 37 = .ok (.baload, 1) := by decide +kernel
theorem dJ2_getChar_3b067_38 : decode cJ2_getChar_3b067 38 = .ok (.sipush 255, 3) := by decide +kernel
theorem dJ2_getChar_3b067_41 : decode cJ2_getChar_3b067 41 = .ok (.iand, 1) := by decide +kernel
theorem dJ2_getChar_3b067_42 : decode cJ2_getChar_3b067 42 = .ok (.getstatic 59, 3) := by decide +kernel
theorem dJ2_getChar_3b067_45 : decode cJ2_getChar_3b067 45 = .ok (.ishl, 1) := by decide +kernel
theorem dJ2_getChar_3b067_46 : decode cJ2_getChar_3b067 46 = .ok (.aload_n 0, 1) := by decide +kernel
theorem dJ2_getChar_3b067_47 : decode cJ2_getChar_3b067 47 = .ok (.iload_n 1, 1) := by decide +kernel
theorem dJ2_getChar_3b067_48 : decode cJ2_getChar_3b067 48 = .ok (.baload, 1) := by decide +kernel
theorem dJ2_getChar_3b067_49 : decode cJ2_getChar_3b067 49 = .ok (.sipush 255, 3) := by decide +kernel
theorem dJ2_getChar_3b067_52 : decode cJ2_getChar_3b067 52 = .ok (.iand, 1) := by decide +kernel
theorem dJ2_getChar_3b067_53 : decode cJ2_getChar_3b067 53 = .ok (.getstatic 63, 3) := by decide +kernel
theorem dJ2_getChar_3b067_56 : decode cJ2_getChar_3b067 56 = .ok (.ishl, 1) := by decide +kernel
theorem dJ2_getChar_3b067_57 : decode cJ2_getChar_3b067 57 = .ok (.ior, 1) := by decide +kernel
theorem dJ2_getChar_3b067_58 : decode cJ2_getChar_3b067 58 = .ok (.i2c, 1) := by decide +kernel
theorem dJ2_getChar_3b067_59 : decode cJ2_getChar_3b067 59 = .ok (.ireturn, 1) := by decide +kernel
theorem dJ2_length_9d52b_0 : decode cJ2_length_9d52b 0 = .ok (.aload_n 0, 1) := by decide +kernel
theorem dJ2_length_9d52b_1 : decode cJ2_length_9d52b 1 = .ok (.arraylength, 1) := by decide +kernel
theorem dJ2_length_9d52b_2 : decode cJ2_length_9d52b 2 = .ok (.iconst 1, 1) := by decide +kernel
theorem dJ2_length_9d52b_3 : decode cJ2_length_9d52b 3 = .ok (.ishr, 1) := by decide +kernel
theorem dJ2_length_9d52b_4 : decode cJ2_length_9d52b 4 = .ok (.ireturn, 1) := by decide +kernel
theorem dJ2_charAt_3b067_0 : decode cJ2_charAt_3b067 0 = .ok (.iload_n 1, 1) := by decide +kernel
theorem dJ2_charAt_3b067_1 : decode cJ2_charAt_3b067 1 = .ok (.aload_n 0, 1) := by decide +kernel
theorem dJ2_charAt_3b067_2 : decode cJ2_charAt_3b067 2 = .ok (.invokestatic 67, 3) := by decide +kernel
theorem dJ2_charAt_3b067_5 : decode cJ2_charAt_3b067 5 = .ok (.aload_n 0, 1) := by decide +kernel
theorem dJ2_charAt_3b067_6 : decode cJ2_charAt_3b067 6 = .ok (.iload_n 1, 1) := by decide +kernel
theorem dJ2_charAt_3b067_7 : decode cJ2_charAt_3b067 7 = .ok (.invokestatic 71, 3) := by decide +kernel
theorem dJ2_charAt_3b067_10 : decode cJ2_charAt_3b067 10 = .ok (.ireturn, 1) := by decide +kernel
theorem dJ2_checkIndex_2214a_0 : decode cJ2_checkIndex_2214a 0 = .ok (.iload_n 0, 1) := by decide +kernel
theorem dJ2_checkIndex_2214a_1 : decode cJ2_checkIndex_2214a 1 = .ok (.aload_n 1, 1) := by decide +kernel
theorem dJ2_checkIndex_2214a_2 : decode cJ2_checkIndex_2214a 2 = .ok (.invokestatic 48, 3) := by decide +kernel
theorem dJ2_checkIndex_2214a_5 : decode cJ2_checkIndex_2214a 5 = .ok (.invokestatic 414, 3) := by decide +kernel
theorem dJ2_checkIndex_2214a_8 : decode cJ2_checkIndex_2214a 8 = .ok (.return_, 1) := by decide +kernel
theorem dJ3_checkIndex_8e157_0 : decode cJ3_checkIndex_8e157 0 = .ok (.iload_n 0, 1) := by decide +kernel
theorem dJ3_checkIndex_8e157_1 : decode cJ3_checkIndex_8e157 1 = .ok (.ifCond .lt 8, 3) := by decide +kernel
theorem dJ3_checkIndex_8e157_4 : decode cJ3_checkIndex_8e157 4 = .ok (.iload_n 0, 1) := by decide +kernel
theorem dJ3_checkIndex_8e157_5 : decode cJ3_checkIndex_8e157 5 = .ok (.iload_n 1, 1) := by decide +kernel
theorem dJ3_checkIndex_8e157_6 : decode cJ3_checkIndex_8e157 6 = .ok (.if_icmp .lt 10, 3) := by decide +kernel
theorem dJ3_checkIndex_8e157_9 : decode cJ3_checkIndex_8e157 9 = .ok (.aload_n 2, 1) := by decide +kernel
theorem dJ3_checkIndex_8e157_10 : decode cJ3_checkIndex_8e157 10 = .ok (.iload_n 0, 1) := by decide +kernel
theorem dJ3_checkIndex_8e157_11 : decode cJ3_checkIndex_8e157 11 = .ok (.iload_n 1, 1) := by decide +kernel
theorem dJ3_checkIndex_8e157_12 : decode cJ3_checkIndex_8e157 12 = .ok (.invokestatic 95, 3) := by decide +kernel
theorem dJ3_checkIndex_8e157_15 : decode cJ3_checkIndex_8e157 15 = .ok (.athrow, 1) := by decide +kernel
theorem dJ3_checkIndex_8e157_16 : decode cJ3_checkIndex_8e157 16 = .ok (.iload_n 0, 1) := by decide +kernel
theorem dJ3_checkIndex_8e157_17 : decode cJ3_checkIndex_8e157 17 = .ok (.ireturn, 1) := by decide +kernel
