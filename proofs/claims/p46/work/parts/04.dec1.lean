theorem dX0_init_0 : decode cX0_init 0 = .ok (.aload_n 0, 1) := by decide +kernel
theorem dX0_init_1 : decode cX0_init 1 = .ok (.invokespecial 3, 3) := by decide +kernel
theorem dX0_init_4 : decode cX0_init 4 = .ok (.aload_n 0, 1) := by decide +kernel
theorem dX0_init_5 : decode cX0_init 5 = .ok (.bipush 8, 2) := by decide +kernel
theorem dX0_init_7 : decode cX0_init 7 = .ok (.anewarray 9, 3) := by decide +kernel
theorem dX0_init_10 : decode cX0_init 10 = .ok (.putfield 11, 3) := by decide +kernel
theorem dX0_init_13 : decode cX0_init 13 = .ok (.aload_n 0, 1) := by decide +kernel
theorem dX0_init_14 : decode cX0_init 14 = .ok (.iconst 0, 1) := by decide +kernel
theorem dX0_init_15 : decode cX0_init 15 = .ok (.putfield 17, 3) := by decide +kernel
theorem dX0_init_18 : decode cX0_init 18 = .ok (.aload_n 0, 1) := by decide +kernel
theorem dX0_init_19 : decode cX0_init 19 = .ok (.iconst 0, 1) := by decide +kernel
theorem dX0_init_20 : decode cX0_init 20 = .ok (.putfield 21, 3) := by decide +kernel
theorem dX0_init_23 : decode cX0_init 23 = .ok (.iconst 0, 1) := by decide +kernel
theorem dX0_init_24 : decode cX0_init 24 = .ok (.istore_n 2, 1) := by decide +kernel
theorem dX0_init_25 : decode cX0_init 25 = .ok (.iload_n 2, 1) := by decide +kernel
theorem dX0_init_26 : decode cX0_init 26 = .ok (.bipush 8, 2) := by decide +kernel
theorem dX0_init_28 : decode cX0_init 28 = .ok (.if_icmp .ge 23, 3) := by decide +kernel
theorem dX0_init_31 : decode cX0_init 31 = .ok (.aload_n 0, 1) := by decide +kernel
theorem dX0_init_32 : decode cX0_init 32 = .ok (.getfield 11, 3) := by decide +kernel
theorem dX0_init_35 : decode cX0_init 35 = .ok (.iload_n 2, 1) := by decide +kernel
theorem dX0_init_36 : decode cX0_init 36 = .ok (.new 9, 3) := by decide +kernel
theorem dX0_init_39 : decode cX0_init 39 = .ok (.dup, 1) := by decide +kernel
theorem dX0_init_40 : decode cX0_init 40 = .ok (.aload_n 1, 1) := by decide +kernel
theorem dX0_init_41 : decode cX0_init 41 = .ok (.invokespecial 24, 3) := by decide +kernel
theorem dX0_init_44 : decode cX0_init 44 = .ok (.aastore, 1) := by decide +kernel
theorem dX0_init_45 : decode cX0_init 45 = .ok (.iinc 2 1, 3) := by decide +kernel
theorem dX0_init_48 : decode cX0_init 48 = .ok (.goto (-23), 3) := by decide +kernel
theorem dX0_init_51 : decode cX0_init 51 = .ok (.return_, 1) := by decide +kernel
theorem dX0_remember_0 : decode cX0_remember 0 = .ok (.aload_n 0, 1) := by decide +kernel
theorem dX0_remember_1 : decode cX0_remember 1 = .ok (.getfield 11, 3) := by decide +kernel
theorem dX0_remember_4 : decode cX0_remember 4 = .ok (.aload_n 0, 1) := by decide +kernel
theorem dX0_remember_5 : decode cX0_remember 5 = .ok (.getfield 17, 3) := by decide +kernel
theorem dX0_remember_8 : decode cX0_remember 8 = .ok (.aload_n 0, 1) := by decide +kernel
theorem dX0_remember_9 : decode cX0_remember 9 = .ok (.getfield 21, 3) := by decide +kernel
theorem dX0_remember_12 : decode cX0_remember 12 = .ok (.iadd, 1) := by decide +kernel
theorem dX0_remember_13 : decode cX0_remember 13 = .ok (.bipush 8, 2) := by decide +kernel
theorem dX0_remember_15 : decode cX0_remember 15 = .ok (.irem, 1) := by decide +kernel
theorem dX0_remember_16 : decode cX0_remember 16 = .ok (.aaload, 1) := by decide +kernel
theorem dX0_remember_17 : decode cX0_remember 17 = .ok (.aload_n 1, 1) := by decide +kernel
theorem dX0_remember_18 : decode cX0_remember 18 = .ok (.invokevirtual 27, 3) := by decide +kernel
theorem dX0_remember_21 : decode cX0_remember 21 = .ok (.aload_n 0, 1) := by decide +kernel
theorem dX0_remember_22 : decode cX0_remember 22 = .ok (.getfield 21, 3) := by decide +kernel
theorem dX0_remember_25 : decode cX0_remember 25 = .ok (.bipush 8, 2) := by decide +kernel
theorem dX0_remember_27 : decode cX0_remember 27 = .ok (.if_icmp .ge 16, 3) := by decide +kernel
theorem dX0_remember_30 : decode cX0_remember 30 = .ok (.aload_n 0, 1) := by decide +kernel
theorem dX0_remember_31 : decode cX0_remember 31 = .ok (.dup, 1) := by decide +kernel
theorem dX0_remember_32 : decode cX0_remember 32 = .ok (.getfield 21, 3) := by decide +kernel
theorem dX0_remember_35 : decode cX0_remember 35 = .ok (.iconst 1, 1) := by decide +kernel
theorem dX0_remember_36 : decode cX0_remember 36 = .ok (.iadd, 1) := by decide +kernel
theorem dX0_remember_37 : decode cX0_remember 37 = .ok (.putfield 21, 3) := by decide +kernel
theorem dX0_remember_40 : decode cX0_remember 40 = .ok (.goto 16, 3) := by decide +kernel
theorem dX0_remember_43 : decode cX0_remember 43 = .ok (.aload_n 0, 1) := by decide +kernel
theorem dX0_remember_44 : decode cX0_remember 44 = .ok (.aload_n 0, 1) := by decide +kernel
theorem dX0_remember_45 : decode cX0_remember 45 = .ok (.getfield 17, 3) := by decide +kernel
theorem dX0_remember_48 : decode cX0_remember 48 = .ok (.iconst 1, 1) := by decide +kernel
theorem dX0_remember_49 : decode cX0_remember 49 = .ok (.iadd, 1) := by decide +kernel
theorem dX0_remember_50 : decode cX0_remember 50 = .ok (.bipush 8, 2) := by decide +kernel
theorem dX0_remember_52 : decode cX0_remember 52 = .ok (.irem, 1) := by decide +kernel
theorem dX0_remember_53 : decode cX0_remember 53 = .ok (.putfield 17, 3) := by decide +kernel
theorem dX0_remember_56 : decode cX0_remember 56 = .ok (.return_, 1) := by decide +kernel
theorem dX0_takeBack_0 : decode cX0_takeBack 0 = .ok (.aload_n 0, 1) := by decide +kernel
theorem dX0_takeBack_1 : decode cX0_takeBack 1 = .ok (.getfield 21, 3) := by decide +kernel
theorem dX0_takeBack_4 : decode cX0_takeBack 4 = .ok (.ifCond .le 34, 3) := by decide +kernel
theorem dX0_takeBack_7 : decode cX0_takeBack 7 = .ok (.aload_n 0, 1) := by decide +kernel
theorem dX0_takeBack_8 : decode cX0_takeBack 8 = .ok (.dup, 1) := by decide +kernel
theorem dX0_takeBack_9 : decode cX0_takeBack 9 = .ok (.getfield 21, 3) := by decide +kernel
theorem dX0_takeBack_12 : decode cX0_takeBack 12 = .ok (.iconst 1, 1) := by decide +kernel
theorem dX0_takeBack_13 : decode cX0_takeBack 13 = .ok (.isub, 1) := by decide +kernel
theorem dX0_takeBack_14 : decode cX0_takeBack 14 = .ok (.putfield 21, 3) := by decide +kernel
theorem dX0_takeBack_17 : decode cX0_takeBack 17 = .ok (.aload_n 1, 1) := by decide +kernel
theorem dX0_takeBack_18 : decode cX0_takeBack 18 = .ok (.aload_n 0, 1) := by decide +kernel
theorem dX0_takeBack_19 : decode cX0_takeBack 19 = .ok (.getfield 11, 3) := by decide +kernel
theorem dX0_takeBack_22 : decode cX0_takeBack 22 = .ok (.aload_n 0, 1) := by decide +kernel
theorem dX0_takeBack_23 : decode cX0_takeBack 23 = .ok (.getfield 17, 3) := by decide +kernel
theorem dX0_takeBack_26 : decode cX0_takeBack 26 = .ok (.aload_n 0, 1) := by decide +kernel
theorem dX0_takeBack_27 : decode cX0_takeBack 27 = .ok (.getfield 21, 3) := by decide +kernel
theorem dX0_takeBack_30 : decode cX0_takeBack 30 = .ok (.iadd, 1) := by decide +kernel
theorem dX0_takeBack_31 : decode cX0_takeBack 31 = .ok (.bipush 8, 2) := by decide +kernel
theorem dX0_takeBack_33 : decode cX0_takeBack 33 = .ok (.irem, 1) := by decide +kernel
theorem dX0_takeBack_34 : decode cX0_takeBack 34 = .ok (.aaload, 1) := by decide +kernel
theorem dX0_takeBack_35 : decode cX0_takeBack 35 = .ok (.invokevirtual 27, 3) := by decide +kernel
theorem dX0_takeBack_38 : decode cX0_takeBack 38 = .ok (.return_, 1) := by decide +kernel
theorem dX1_init_0 : decode cX1_init 0 = .ok (.aload_n 0, 1) := by decide +kernel
theorem dX1_init_1 : decode cX1_init 1 = .ok (.invokespecial 3, 3) := by decide +kernel
theorem dX1_init_4 : decode cX1_init 4 = .ok (.aload_n 0, 1) := by decide +kernel
theorem dX1_init_5 : decode cX1_init 5 = .ok (.iconst 3, 1) := by decide +kernel
theorem dX1_init_6 : decode cX1_init 6 = .ok (.putfield 9, 3) := by decide +kernel
theorem dX1_init_9 : decode cX1_init 9 = .ok (.aload_n 0, 1) := by decide +kernel
theorem dX1_init_10 : decode cX1_init 10 = .ok (.iconst (-1), 1) := by decide +kernel
theorem dX1_init_11 : decode cX1_init 11 = .ok (.putfield 15, 3) := by decide +kernel
theorem dX1_init_14 : decode cX1_init 14 = .ok (.aload_n 0, 1) := by decide +kernel
theorem dX1_init_15 : decode cX1_init 15 = .ok (.iconst (-1), 1) := by decide +kernel
theorem dX1_init_16 : decode cX1_init 16 = .ok (.putfield 18, 3) := by decide +kernel
theorem dX1_init_19 : decode cX1_init 19 = .ok (.aload_n 0, 1) := by decide +kernel
theorem dX1_init_20 : decode cX1_init 20 = .ok (.aload_n 1, 1) := by decide +kernel
theorem dX1_init_21 : decode cX1_init 21 = .ok (.putfield 21, 3) := by decide +kernel
theorem dX1_init_24 : decode cX1_init 24 = .ok (.return_, 1) := by decide +kernel
theorem dX1_choose_0 : decode cX1_choose 0 = .ok (.aload_n 0, 1) := by decide +kernel
theorem dX1_choose_1 : decode cX1_choose 1 = .ok (.iconst 2, 1) := by decide +kernel
theorem dX1_choose_2 : decode cX1_choose 2 = .ok (.putfield 9, 3) := by decide +kernel
theorem dX1_choose_5 : decode cX1_choose 5 = .ok (.aload_n 0, 1) := by decide +kernel
theorem dX1_choose_6 : decode cX1_choose 6 = .ok (.aload_n 0, 1) := by decide +kernel
theorem dX1_choose_7 : decode cX1_choose 7 = .ok (.iload_n 1, 1) := by decide +kernel
theorem dX1_choose_8 : decode cX1_choose 8 = .ok (.invokevirtual 25, 3) := by decide +kernel
theorem dX1_choose_11 : decode cX1_choose 11 = .ok (.putfield 15, 3) := by decide +kernel
theorem dX1_choose_14 : decode cX1_choose 14 = .ok (.aload_n 0, 1) := by decide +kernel
theorem dX1_choose_15 : decode cX1_choose 15 = .ok (.getfield 15, 3) := by decide +kernel
theorem dX1_choose_18 : decode cX1_choose 18 = .ok (.iconst (-1), 1) := by decide +kernel
theorem dX1_choose_19 : decode cX1_choose 19 = .ok (.if_icmp .ne 35, 3) := by decide +kernel
theorem dX1_choose_22 : decode cX1_choose 22 = .ok (.aload_n 0, 1) := by decide +kernel
theorem dX1_choose_23 : decode cX1_choose 23 = .ok (.getfield 21, 3) := by decide +kernel
theorem dX1_choose_26 : decode cX1_choose 26 = .ok (.getfield 29, 3) := by decide +kernel
theorem dX1_choose_29 : decode cX1_choose 29 = .ok (.aload_n 0, 1) := by decide +kernel
theorem dX1_choose_30 : decode cX1_choose 30 = .ok (.getfield 21, 3) := by decide +kernel
theorem dX1_choose_33 : decode cX1_choose 33 = .ok (.getfield 34, 3) := by decide +kernel
theorem dX1_choose_36 : decode cX1_choose 36 = .ok (.iconst 4, 1) := by decide +kernel
theorem dX1_choose_37 : decode cX1_choose 37 = .ok (.iaload, 1) := by decide +kernel
theorem dX1_choose_38 : decode cX1_choose 38 = .ok (.if_icmp .ge 16, 3) := by decide +kernel
theorem dX1_choose_41 : decode cX1_choose 41 = .ok (.aload_n 0, 1) := by decide +kernel
theorem dX1_choose_42 : decode cX1_choose 42 = .ok (.iconst 1, 1) := by decide +kernel
theorem dX1_choose_43 : decode cX1_choose 43 = .ok (.putfield 9, 3) := by decide +kernel
theorem dX1_choose_46 : decode cX1_choose 46 = .ok (.aload_n 0, 1) := by decide +kernel
theorem dX1_choose_47 : decode cX1_choose 47 = .ok (.aload_n 0, 1) := by decide +kernel
theorem dX1_choose_48 : decode cX1_choose 48 = .ok (.invokevirtual 38, 3) := by decide +kernel
theorem dX1_choose_51 : decode cX1_choose 51 = .ok (.putfield 15, 3) := by decide +kernel
theorem dX1_choose_54 : decode cX1_choose 54 = .ok (.aload_n 0, 1) := by decide +kernel
theorem dX1_choose_55 : decode cX1_choose 55 = .ok (.getfield 15, 3) := by decide +kernel
theorem dX1_choose_58 : decode cX1_choose 58 = .ok (.iconst (-1), 1) := by decide +kernel
theorem dX1_choose_59 : decode cX1_choose 59 = .ok (.if_icmp .ne 50, 3) := by decide +kernel
theorem dX1_choose_62 : decode cX1_choose 62 = .ok (.aload_n 0, 1) := by decide +kernel
theorem dX1_choose_63 : decode cX1_choose 63 = .ok (.iconst 0, 1) := by decide +kernel
theorem dX1_choose_64 : decode cX1_choose 64 = .ok (.putfield 9, 3) := by decide +kernel
theorem dX1_choose_67 : decode cX1_choose 67 = .ok (.aload_n 0, 1) := by decide +kernel
theorem dX1_choose_68 : decode cX1_choose 68 = .ok (.aload_n 0, 1) := by decide +kernel
theorem dX1_choose_69 : decode cX1_choose 69 = .ok (.invokevirtual 42, 3) := by decide +kernel
theorem dX1_choose_72 : decode cX1_choose 72 = .ok (.putfield 18, 3) := by decide +kernel
theorem dX1_choose_75 : decode cX1_choose 75 = .ok (.aload_n 0, 1) := by decide +kernel
theorem dX1_choose_76 : decode cX1_choose 76 = .ok (.aload_n 0, 1) := by decide +kernel
theorem dX1_choose_77 : decode cX1_choose 77 = .ok (.getfield 21, 3) := by decide +kernel
theorem dX1_choose_80 : decode cX1_choose 80 = .ok (.aload_n 0, 1) := by decide +kernel
theorem dX1_choose_81 : decode cX1_choose 81 = .ok (.getfield 18, 3) := by decide +kernel
theorem dX1_choose_84 : decode cX1_choose 84 = .ok (.invokevirtual 45, 3) := by decide +kernel
theorem dX1_choose_87 : decode cX1_choose 87 = .ok (.ifCond .eq 18, 3) := by decide +kernel
theorem dX1_choose_90 : decode cX1_choose 90 = .ok (.aload_n 0, 1) := by decide +kernel
theorem dX1_choose_91 : decode cX1_choose 91 = .ok (.getfield 21, 3) := by decide +kernel
theorem dX1_choose_94 : decode cX1_choose 94 = .ok (.getfield 49, 3) := by decide +kernel
theorem dX1_choose_97 : decode cX1_choose 97 = .ok (.aload_n 0, 1) := by decide +kernel
theorem dX1_choose_98 : decode cX1_choose 98 = .ok (.getfield 18, 3) := by decide +kernel
theorem dX1_choose_101 : decode cX1_choose 101 = .ok (.iaload, 1) := by decide +kernel
theorem dX1_choose_102 : decode cX1_choose 102 = .ok (.goto 4, 3) := by decide +kernel
theorem dX1_choose_105 : decode cX1_choose 105 = .ok (.iconst (-1), 1) := by decide +kernel
theorem dX1_choose_106 : decode cX1_choose 106 = .ok (.putfield 15, 3) := by decide +kernel
theorem dX1_choose_109 : decode cX1_choose 109 = .ok (.aload_n 0, 1) := by decide +kernel
theorem dX1_choose_110 : decode cX1_choose 110 = .ok (.getfield 15, 3) := by decide +kernel
theorem dX1_choose_113 : decode cX1_choose 113 = .ok (.iconst (-1), 1) := by decide +kernel
theorem dX1_choose_114 : decode cX1_choose 114 = .ok (.if_icmp .ne 16, 3) := by decide +kernel
theorem dX1_choose_117 : decode cX1_choose 117 = .ok (.aload_n 0, 1) := by decide +kernel
theorem dX1_choose_118 : decode cX1_choose 118 = .ok (.iconst 1, 1) := by decide +kernel
theorem dX1_choose_119 : decode cX1_choose 119 = .ok (.putfield 9, 3) := by decide +kernel
theorem dX1_choose_122 : decode cX1_choose 122 = .ok (.aload_n 0, 1) := by decide +kernel
theorem dX1_choose_123 : decode cX1_choose 123 = .ok (.aload_n 0, 1) := by decide +kernel
theorem dX1_choose_124 : decode cX1_choose 124 = .ok (.invokevirtual 38, 3) := by decide +kernel
theorem dX1_choose_127 : decode cX1_choose 127 = .ok (.putfield 15, 3) := by decide +kernel
theorem dX1_choose_130 : decode cX1_choose 130 = .ok (.aload_n 0, 1) := by decide +kernel
theorem dX1_choose_131 : decode cX1_choose 131 = .ok (.getfield 15, 3) := by decide +kernel
theorem dX1_choose_134 : decode cX1_choose 134 = .ok (.iconst (-1), 1) := by decide +kernel
theorem dX1_choose_135 : decode cX1_choose 135 = .ok (.if_icmp .ne 8, 3) := by decide +kernel
theorem dX1_choose_138 : decode cX1_choose 138 = .ok (.aload_n 0, 1) := by decide +kernel
theorem dX1_choose_139 : decode cX1_choose 139 = .ok (.iconst 3, 1) := by decide +kernel
theorem dX1_choose_140 : decode cX1_choose 140 = .ok (.putfield 9, 3) := by decide +kernel
theorem dX1_choose_143 : decode cX1_choose 143 = .ok (.return_, 1) := by decide +kernel
theorem dX1_nextToTest_0 : decode cX1_nextToTest 0 = .ok (.aload_n 0, 1) := by decide +kernel
theorem dX1_nextToTest_1 : decode cX1_nextToTest 1 = .ok (.getfield 21, 3) := by decide +kernel
theorem dX1_nextToTest_4 : decode cX1_nextToTest 4 = .ok (.getfield 34, 3) := by decide +kernel
theorem dX1_nextToTest_7 : decode cX1_nextToTest 7 = .ok (.iconst 3, 1) := by decide +kernel
theorem dX1_nextToTest_8 : decode cX1_nextToTest 8 = .ok (.iaload, 1) := by decide +kernel
theorem dX1_nextToTest_9 : decode cX1_nextToTest 9 = .ok (.istore_n 2, 1) := by decide +kernel
theorem dX1_nextToTest_10 : decode cX1_nextToTest 10 = .ok (.iload_n 2, 1) := by decide +kernel
theorem dX1_nextToTest_11 : decode cX1_nextToTest 11 = .ok (.ifCond .le 9, 3) := by decide +kernel
theorem dX1_nextToTest_14 : decode cX1_nextToTest 14 = .ok (.iload_n 1, 1) := by decide +kernel
theorem dX1_nextToTest_15 : decode cX1_nextToTest 15 = .ok (.iload_n 2, 1) := by decide +kernel
theorem dX1_nextToTest_16 : decode cX1_nextToTest 16 = .ok (.irem, 1) := by decide +kernel
theorem dX1_nextToTest_17 : decode cX1_nextToTest 17 = .ok (.ifCond .eq 5, 3) := by decide +kernel
theorem dX1_nextToTest_20 : decode cX1_nextToTest 20 = .ok (.iconst (-1), 1) := by decide +kernel
theorem dX1_nextToTest_21 : decode cX1_nextToTest 21 = .ok (.ireturn, 1) := by decide +kernel
theorem dX1_nextToTest_22 : decode cX1_nextToTest 22 = .ok (.aload_n 0, 1) := by decide +kernel
theorem dX1_nextToTest_23 : decode cX1_nextToTest 23 = .ok (.getfield 21, 3) := by decide +kernel
theorem dX1_nextToTest_26 : decode cX1_nextToTest 26 = .ok (.getfield 52, 3) := by decide +kernel
theorem dX1_nextToTest_29 : decode cX1_nextToTest 29 = .ok (.getfield 56, 3) := by decide +kernel
theorem dX1_nextToTest_32 : decode cX1_nextToTest 32 = .ok (.istore_n 3, 1) := by decide +kernel
theorem dX1_nextToTest_33 : decode cX1_nextToTest 33 = .ok (.iconst 1, 1) := by decide +kernel
theorem dX1_nextToTest_34 : decode cX1_nextToTest 34 = .ok (.istore 4, 2) := by decide +kernel
theorem dX1_nextToTest_36 : decode cX1_nextToTest 36 = .ok (.iload 4, 2) := by decide +kernel
theorem dX1_nextToTest_38 : decode cX1_nextToTest 38 = .ok (.iload_n 3, 1) := by decide +kernel
theorem dX1_nextToTest_39 : decode cX1_nextToTest 39 = .ok (.if_icmp .gt 42, 3) := by decide +kernel
theorem dX1_nextToTest_42 : decode cX1_nextToTest 42 = .ok (.aload_n 0, 1) := by decide +kernel
theorem dX1_nextToTest_43 : decode cX1_nextToTest 43 = .ok (.getfield 21, 3) := by decide +kernel
theorem dX1_nextToTest_46 : decode cX1_nextToTest 46 = .ok (.getfield 61, 3) := by decide +kernel
theorem dX1_nextToTest_49 : decode cX1_nextToTest 49 = .ok (.iload 4, 2) := by decide +kernel
theorem dX1_nextToTest_51 : decode cX1_nextToTest 51 = .ok (.iadd, 1) := by decide +kernel
theorem dX1_nextToTest_52 : decode cX1_nextToTest 52 = .ok (.iload_n 3, 1) := by decide +kernel
theorem dX1_nextToTest_53 : decode cX1_nextToTest 53 = .ok (.irem, 1) := by decide +kernel
theorem dX1_nextToTest_54 : decode cX1_nextToTest 54 = .ok (.istore 5, 2) := by decide +kernel
theorem dX1_nextToTest_56 : decode cX1_nextToTest 56 = .ok (.aload_n 0, 1) := by decide +kernel
theorem dX1_nextToTest_57 : decode cX1_nextToTest 57 = .ok (.getfield 21, 3) := by decide +kernel
theorem dX1_nextToTest_60 : decode cX1_nextToTest 60 = .ok (.getfield 64, 3) := by decide +kernel
theorem dX1_nextToTest_63 : decode cX1_nextToTest 63 = .ok (.getfield 68, 3) := by decide +kernel
theorem dX1_nextToTest_66 : decode cX1_nextToTest 66 = .ok (.iload 5, 2) := by decide +kernel
theorem dX1_nextToTest_68 : decode cX1_nextToTest 68 = .ok (.iaload, 1) := by decide +kernel
theorem dX1_nextToTest_69 : decode cX1_nextToTest 69 = .ok (.ifCond .ne 6, 3) := by decide +kernel
theorem dX1_nextToTest_72 : decode cX1_nextToTest 72 = .ok (.iload 5, 2) := by decide +kernel
theorem dX1_nextToTest_74 : decode cX1_nextToTest 74 = .ok (.ireturn, 1) := by decide +kernel
theorem dX1_nextToTest_75 : decode cX1_nextToTest 75 = .ok (.iinc 4 1, 3) := by decide +kernel
theorem dX1_nextToTest_78 : decode cX1_nextToTest 78 = .ok (.goto (-42), 3) := by decide +kernel
theorem dX1_nextToTest_81 : decode cX1_nextToTest 81 = .ok (.iconst (-1), 1) := by decide +kernel
theorem dX1_nextToTest_82 : decode cX1_nextToTest 82 = .ok (.ireturn, 1) := by decide +kernel
theorem dX1_nextToSelect_0 : decode cX1_nextToSelect 0 = .ok (.aload_n 0, 1) := by decide +kernel
theorem dX1_nextToSelect_1 : decode cX1_nextToSelect 1 = .ok (.getfield 21, 3) := by decide +kernel
theorem dX1_nextToSelect_4 : decode cX1_nextToSelect 4 = .ok (.getfield 52, 3) := by decide +kernel
theorem dX1_nextToSelect_7 : decode cX1_nextToSelect 7 = .ok (.getfield 56, 3) := by decide +kernel
theorem dX1_nextToSelect_10 : decode cX1_nextToSelect 10 = .ok (.istore_n 1, 1) := by decide +kernel
theorem dX1_nextToSelect_11 : decode cX1_nextToSelect 11 = .ok (.iconst 1, 1) := by decide +kernel
theorem dX1_nextToSelect_12 : decode cX1_nextToSelect 12 = .ok (.istore_n 2, 1) := by decide +kernel
theorem dX1_nextToSelect_13 : decode cX1_nextToSelect 13 = .ok (.iload_n 2, 1) := by decide +kernel
theorem dX1_nextToSelect_14 : decode cX1_nextToSelect 14 = .ok (.iload_n 1, 1) := by decide +kernel
theorem dX1_nextToSelect_15 : decode cX1_nextToSelect 15 = .ok (.if_icmp .gt 49, 3) := by decide +kernel
theorem dX1_nextToSelect_18 : decode cX1_nextToSelect 18 = .ok (.aload_n 0, 1) := by decide +kernel
theorem dX1_nextToSelect_19 : decode cX1_nextToSelect 19 = .ok (.getfield 21, 3) := by decide +kernel
theorem dX1_nextToSelect_22 : decode cX1_nextToSelect 22 = .ok (.getfield 73, 3) := by decide +kernel
theorem dX1_nextToSelect_25 : decode cX1_nextToSelect 25 = .ok (.iload_n 2, 1) := by decide +kernel
theorem dX1_nextToSelect_26 : decode cX1_nextToSelect 26 = .ok (.iadd, 1) := by decide +kernel
theorem dX1_nextToSelect_27 : decode cX1_nextToSelect 27 = .ok (.iload_n 1, 1) := by decide +kernel
theorem dX1_nextToSelect_28 : decode cX1_nextToSelect 28 = .ok (.irem, 1) := by decide +kernel
theorem dX1_nextToSelect_29 : decode cX1_nextToSelect 29 = .ok (.istore_n 3, 1) := by decide +kernel
theorem dX1_nextToSelect_30 : decode cX1_nextToSelect 30 = .ok (.aload_n 0, 1) := by decide +kernel
theorem dX1_nextToSelect_31 : decode cX1_nextToSelect 31 = .ok (.getfield 21, 3) := by decide +kernel
theorem dX1_nextToSelect_34 : decode cX1_nextToSelect 34 = .ok (.iload_n 3, 1) := by decide +kernel
theorem dX1_nextToSelect_35 : decode cX1_nextToSelect 35 = .ok (.invokevirtual 76, 3) := by decide +kernel
theorem dX1_nextToSelect_38 : decode cX1_nextToSelect 38 = .ok (.ifCond .eq 20, 3) := by decide +kernel
theorem dX1_nextToSelect_41 : decode cX1_nextToSelect 41 = .ok (.aload_n 0, 1) := by decide +kernel
theorem dX1_nextToSelect_42 : decode cX1_nextToSelect 42 = .ok (.getfield 21, 3) := by decide +kernel
theorem dX1_nextToSelect_45 : decode cX1_nextToSelect 45 = .ok (.getfield 79, 3) := by decide +kernel
theorem dX1_nextToSelect_48 : decode cX1_nextToSelect 48 = .ok (.iconst 1, 1) := by decide +kernel
theorem dX1_nextToSelect_49 : decode cX1_nextToSelect 49 = .ok (.iload_n 3, 1) := by decide +kernel
theorem dX1_nextToSelect_50 : decode cX1_nextToSelect 50 = .ok (.invokevirtual 83, 3) := by decide +kernel
theorem dX1_nextToSelect_53 : decode cX1_nextToSelect 53 = .ok (.ifCond .le 5, 3) := by decide +kernel
theorem dX1_nextToSelect_56 : decode cX1_nextToSelect 56 = .ok (.iload_n 3, 1) := by decide +kernel
theorem dX1_nextToSelect_57 : decode cX1_nextToSelect 57 = .ok (.ireturn, 1) := by decide +kernel
theorem dX1_nextToSelect_58 : decode cX1_nextToSelect 58 = .ok (.iinc 2 1, 3) := by decide +kernel
theorem dX1_nextToSelect_61 : decode cX1_nextToSelect 61 = .ok (.goto (-48), 3) := by decide +kernel
theorem dX1_nextToSelect_64 : decode cX1_nextToSelect 64 = .ok (.iconst (-1), 1) := by decide +kernel
theorem dX1_nextToSelect_65 : decode cX1_nextToSelect 65 = .ok (.ireturn, 1) := by decide +kernel
theorem dX1_nextPlace_0 : decode cX1_nextPlace 0 = .ok (.aload_n 0, 1) := by decide +kernel
theorem dX1_nextPlace_1 : decode cX1_nextPlace 1 = .ok (.getfield 21, 3) := by decide +kernel
theorem dX1_nextPlace_4 : decode cX1_nextPlace 4 = .ok (.getfield 89, 3) := by decide +kernel
theorem dX1_nextPlace_7 : decode cX1_nextPlace 7 = .ok (.istore_n 1, 1) := by decide +kernel
theorem dX1_nextPlace_8 : decode cX1_nextPlace 8 = .ok (.aload_n 0, 1) := by decide +kernel
theorem dX1_nextPlace_9 : decode cX1_nextPlace 9 = .ok (.getfield 21, 3) := by decide +kernel
theorem dX1_nextPlace_12 : decode cX1_nextPlace 12 = .ok (.getfield 92, 3) := by decide +kernel
theorem dX1_nextPlace_15 : decode cX1_nextPlace 15 = .ok (.iload_n 1, 1) := by decide +kernel
theorem dX1_nextPlace_16 : decode cX1_nextPlace 16 = .ok (.if_icmp .ge 13, 3) := by decide +kernel
theorem dX1_nextPlace_19 : decode cX1_nextPlace 19 = .ok (.aload_n 0, 1) := by decide +kernel
theorem dX1_nextPlace_20 : decode cX1_nextPlace 20 = .ok (.getfield 21, 3) := by decide +kernel
theorem dX1_nextPlace_23 : decode cX1_nextPlace 23 = .ok (.getfield 92, 3) := by decide +kernel
theorem dX1_nextPlace_26 : decode cX1_nextPlace 26 = .ok (.goto 6, 3) := by decide +kernel
theorem dX1_nextPlace_29 : decode cX1_nextPlace 29 = .ok (.iload_n 1, 1) := by decide +kernel
theorem dX1_nextPlace_30 : decode cX1_nextPlace 30 = .ok (.iconst 1, 1) := by decide +kernel
theorem dX1_nextPlace_31 : decode cX1_nextPlace 31 = .ok (.isub, 1) := by decide +kernel
theorem dX1_nextPlace_32 : decode cX1_nextPlace 32 = .ok (.istore_n 2, 1) := by decide +kernel
theorem dX1_nextPlace_33 : decode cX1_nextPlace 33 = .ok (.iconst 1, 1) := by decide +kernel
theorem dX1_nextPlace_34 : decode cX1_nextPlace 34 = .ok (.istore_n 3, 1) := by decide +kernel
theorem dX1_nextPlace_35 : decode cX1_nextPlace 35 = .ok (.iload_n 3, 1) := by decide +kernel
theorem dX1_nextPlace_36 : decode cX1_nextPlace 36 = .ok (.iload_n 1, 1) := by decide +kernel
theorem dX1_nextPlace_37 : decode cX1_nextPlace 37 = .ok (.if_icmp .gt 39, 3) := by decide +kernel
theorem dX1_nextPlace_40 : decode cX1_nextPlace 40 = .ok (.iload_n 2, 1) := by decide +kernel
theorem dX1_nextPlace_41 : decode cX1_nextPlace 41 = .ok (.iload_n 3, 1) := by decide +kernel
theorem dX1_nextPlace_42 : decode cX1_nextPlace 42 = .ok (.iadd, 1) := by decide +kernel
theorem dX1_nextPlace_43 : decode cX1_nextPlace 43 = .ok (.iload_n 1, 1) := by decide +kernel
theorem dX1_nextPlace_44 : decode cX1_nextPlace 44 = .ok (.irem, 1) := by decide +kernel
theorem dX1_nextPlace_45 : decode cX1_nextPlace 45 = .ok (.istore 4, 2) := by decide +kernel
theorem dX1_nextPlace_47 : decode cX1_nextPlace 47 = .ok (.aload_n 0, 1) := by decide +kernel
theorem dX1_nextPlace_48 : decode cX1_nextPlace 48 = .ok (.getfield 21, 3) := by decide +kernel
theorem dX1_nextPlace_51 : decode cX1_nextPlace 51 = .ok (.aload_n 0, 1) := by decide +kernel
theorem dX1_nextPlace_52 : decode cX1_nextPlace 52 = .ok (.getfield 21, 3) := by decide +kernel
theorem dX1_nextPlace_55 : decode cX1_nextPlace 55 = .ok (.getfield 49, 3) := by decide +kernel
theorem dX1_nextPlace_58 : decode cX1_nextPlace 58 = .ok (.iload 4, 2) := by decide +kernel
theorem dX1_nextPlace_60 : decode cX1_nextPlace 60 = .ok (.iaload, 1) := by decide +kernel
theorem dX1_nextPlace_61 : decode cX1_nextPlace 61 = .ok (.invokevirtual 76, 3) := by decide +kernel
theorem dX1_nextPlace_64 : decode cX1_nextPlace 64 = .ok (.ifCond .eq 6, 3) := by decide +kernel
theorem dX1_nextPlace_67 : decode cX1_nextPlace 67 = .ok (.iload 4, 2) := by decide +kernel
theorem dX1_nextPlace_69 : decode cX1_nextPlace 69 = .ok (.ireturn, 1) := by decide +kernel
theorem dX1_nextPlace_70 : decode cX1_nextPlace 70 = .ok (.iinc 3 1, 3) := by decide +kernel
theorem dX1_nextPlace_73 : decode cX1_nextPlace 73 = .ok (.goto (-38), 3) := by decide +kernel
theorem dX1_nextPlace_76 : decode cX1_nextPlace 76 = .ok (.iconst (-1), 1) := by decide +kernel
theorem dX1_nextPlace_77 : decode cX1_nextPlace 77 = .ok (.ireturn, 1) := by decide +kernel
theorem dX1_makeTurns_0 : decode cX1_makeTurns 0 = .ok (.iconst 0, 1) := by decide +kernel
theorem dX1_makeTurns_1 : decode cX1_makeTurns 1 = .ok (.istore_n 2, 1) := by decide +kernel
theorem dX1_makeTurns_2 : decode cX1_makeTurns 2 = .ok (.iload_n 2, 1) := by decide +kernel
theorem dX1_makeTurns_3 : decode cX1_makeTurns 3 = .ok (.iload_n 1, 1) := by decide +kernel
theorem dX1_makeTurns_4 : decode cX1_makeTurns 4 = .ok (.if_icmp .ge 13, 3) := by decide +kernel
theorem dX1_makeTurns_7 : decode cX1_makeTurns 7 = .ok (.aload_n 0, 1) := by decide +kernel
theorem dX1_makeTurns_8 : decode cX1_makeTurns 8 = .ok (.invokevirtual 95, 3) := by decide +kernel
theorem dX1_makeTurns_11 : decode cX1_makeTurns 11 = .ok (.iinc 2 1, 3) := by decide +kernel
theorem dX1_makeTurns_14 : decode cX1_makeTurns 14 = .ok (.goto (-12), 3) := by decide +kernel
theorem dX1_makeTurns_17 : decode cX1_makeTurns 17 = .ok (.return_, 1) := by decide +kernel
theorem dX1_makeTurn_0 : decode cX1_makeTurn 0 = .ok (.aload_n 0, 1) := by decide +kernel
theorem dX1_makeTurn_1 : decode cX1_makeTurn 1 = .ok (.getfield 21, 3) := by decide +kernel
theorem dX1_makeTurn_4 : decode cX1_makeTurn 4 = .ok (.dup, 1) := by decide +kernel
theorem dX1_makeTurn_5 : decode cX1_makeTurn 5 = .ok (.getfield 98, 3) := by decide +kernel
theorem dX1_makeTurn_8 : decode cX1_makeTurn 8 = .ok (.iconst 1, 1) := by decide +kernel
theorem dX1_makeTurn_9 : decode cX1_makeTurn 9 = .ok (.iadd, 1) := by decide +kernel
theorem dX1_makeTurn_10 : decode cX1_makeTurn 10 = .ok (.putfield 98, 3) := by decide +kernel
theorem dX1_makeTurn_13 : decode cX1_makeTurn 13 = .ok (.aload_n 0, 1) := by decide +kernel
theorem dX1_makeTurn_14 : decode cX1_makeTurn 14 = .ok (.aload_n 0, 1) := by decide +kernel
theorem dX1_makeTurn_15 : decode cX1_makeTurn 15 = .ok (.getfield 21, 3) := by decide +kernel
theorem dX1_makeTurn_18 : decode cX1_makeTurn 18 = .ok (.getfield 98, 3) := by decide +kernel
theorem dX1_makeTurn_21 : decode cX1_makeTurn 21 = .ok (.invokevirtual 101, 3) := by decide +kernel
theorem dX1_makeTurn_24 : decode cX1_makeTurn 24 = .ok (.iconst 0, 1) := by decide +kernel
theorem dX1_makeTurn_25 : decode cX1_makeTurn 25 = .ok (.istore_n 1, 1) := by decide +kernel
theorem dX1_makeTurn_26 : decode cX1_makeTurn 26 = .ok (.iconst 0, 1) := by decide +kernel
theorem dX1_makeTurn_27 : decode cX1_makeTurn 27 = .ok (.istore_n 2, 1) := by decide +kernel
theorem dX1_makeTurn_28 : decode cX1_makeTurn 28 = .ok (.aload_n 0, 1) := by decide +kernel
theorem dX1_makeTurn_29 : decode cX1_makeTurn 29 = .ok (.getfield 21, 3) := by decide +kernel
theorem dX1_makeTurn_32 : decode cX1_makeTurn 32 = .ok (.getfield 52, 3) := by decide +kernel
theorem dX1_makeTurn_35 : decode cX1_makeTurn 35 = .ok (.aload_n 0, 1) := by decide +kernel
theorem dX1_makeTurn_36 : decode cX1_makeTurn 36 = .ok (.getfield 15, 3) := by decide +kernel
theorem dX1_makeTurn_39 : decode cX1_makeTurn 39 = .ok (.invokevirtual 105, 3) := by decide +kernel
theorem dX1_makeTurn_42 : decode cX1_makeTurn 42 = .ok (.ifCond .eq 90, 3) := by decide +kernel
theorem dX1_makeTurn_45 : decode cX1_makeTurn 45 = .ok (.aload_n 0, 1) := by decide +kernel
theorem dX1_makeTurn_46 : decode cX1_makeTurn 46 = .ok (.invokevirtual 108, 3) := by decide +kernel
theorem dX1_makeTurn_49 : decode cX1_makeTurn 49 = .ok (.aload_n 0, 1) := by decide +kernel
theorem dX1_makeTurn_50 : decode cX1_makeTurn 50 = .ok (.getfield 9, 3) := by decide +kernel
theorem dX1_makeTurn_53 : decode cX1_makeTurn 53 = .ok (.iconst 2, 1) := by decide +kernel
theorem dX1_makeTurn_54 : decode cX1_makeTurn 54 = .ok (.if_icmp .ne 7, 3) := by decide +kernel
theorem dX1_makeTurn_57 : decode cX1_makeTurn 57 = .ok (.iconst 1, 1) := by decide +kernel
theorem dX1_makeTurn_58 : decode cX1_makeTurn 58 = .ok (.goto 12, 3) := by decide +kernel
theorem dX1_makeTurn_61 : decode cX1_makeTurn 61 = .ok (.aload_n 0, 1) := by decide +kernel
theorem dX1_makeTurn_62 : decode cX1_makeTurn 62 = .ok (.getfield 21, 3) := by decide +kernel
theorem dX1_makeTurn_65 : decode cX1_makeTurn 65 = .ok (.getfield 34, 3) := by decide +kernel
theorem dX1_makeTurn_68 : decode cX1_makeTurn 68 = .ok (.iconst 1, 1) := by decide +kernel
theorem dX1_makeTurn_69 : decode cX1_makeTurn 69 = .ok (.iaload, 1) := by decide +kernel
theorem dX1_makeTurn_70 : decode cX1_makeTurn 70 = .ok (.istore_n 3, 1) := by decide +kernel
theorem dX1_makeTurn_71 : decode cX1_makeTurn 71 = .ok (.iload_n 1, 1) := by decide +kernel
theorem dX1_makeTurn_72 : decode cX1_makeTurn 72 = .ok (.iload_n 3, 1) := by decide +kernel
theorem dX1_makeTurn_73 : decode cX1_makeTurn 73 = .ok (.if_icmp .ge 51, 3) := by decide +kernel
theorem dX1_makeTurn_76 : decode cX1_makeTurn 76 = .ok (.iload_n 2, 1) := by decide +kernel
theorem dX1_makeTurn_77 : decode cX1_makeTurn 77 = .ok (.ifCond .ne 47, 3) := by decide +kernel
theorem dX1_makeTurn_80 : decode cX1_makeTurn 80 = .ok (.iinc 1 1, 3) := by decide +kernel
theorem dX1_makeTurn_83 : decode cX1_makeTurn 83 = .ok (.aload_n 0, 1) := by decide +kernel
theorem dX1_makeTurn_84 : decode cX1_makeTurn 84 = .ok (.getfield 9, 3) := by decide +kernel
theorem dX1_makeTurn_87 : decode cX1_makeTurn 87 = .ok (.iconst 1, 1) := by decide +kernel
theorem dX1_makeTurn_88 : decode cX1_makeTurn 88 = .ok (.if_icmp .ne 10, 3) := by decide +kernel
theorem dX1_makeTurn_91 : decode cX1_makeTurn 91 = .ok (.aload_n 0, 1) := by decide +kernel
theorem dX1_makeTurn_92 : decode cX1_makeTurn 92 = .ok (.invokevirtual 111, 3) := by decide +kernel
theorem dX1_makeTurn_95 : decode cX1_makeTurn 95 = .ok (.goto 7, 3) := by decide +kernel
theorem dX1_makeTurn_98 : decode cX1_makeTurn 98 = .ok (.aload_n 0, 1) := by decide +kernel
theorem dX1_makeTurn_99 : decode cX1_makeTurn 99 = .ok (.invokevirtual 114, 3) := by decide +kernel
theorem dX1_makeTurn_102 : decode cX1_makeTurn 102 = .ok (.istore_n 2, 1) := by decide +kernel
theorem dX1_makeTurn_103 : decode cX1_makeTurn 103 = .ok (.iload_n 2, 1) := by decide +kernel
theorem dX1_makeTurn_104 : decode cX1_makeTurn 104 = .ok (.ifCond .ne (-33), 3) := by decide +kernel
theorem dX1_makeTurn_107 : decode cX1_makeTurn 107 = .ok (.aload_n 0, 1) := by decide +kernel
theorem dX1_makeTurn_108 : decode cX1_makeTurn 108 = .ok (.getfield 21, 3) := by decide +kernel
theorem dX1_makeTurn_111 : decode cX1_makeTurn 111 = .ok (.getfield 117, 3) := by decide +kernel
theorem dX1_makeTurn_114 : decode cX1_makeTurn 114 = .ok (.bipush 7, 2) := by decide +kernel
theorem dX1_makeTurn_116 : decode cX1_makeTurn 116 = .ok (.dup2, 1) := by decide +kernel
theorem dX1_makeTurn_117 : decode cX1_makeTurn 117 = .ok (.iaload, 1) := by decide +kernel
theorem dX1_makeTurn_118 : decode cX1_makeTurn 118 = .ok (.iconst 1, 1) := by decide +kernel
theorem dX1_makeTurn_119 : decode cX1_makeTurn 119 = .ok (.iadd, 1) := by decide +kernel
theorem dX1_makeTurn_120 : decode cX1_makeTurn 120 = .ok (.iastore, 1) := by decide +kernel
theorem dX1_makeTurn_121 : decode cX1_makeTurn 121 = .ok (.goto (-50), 3) := by decide +kernel
theorem dX1_makeTurn_124 : decode cX1_makeTurn 124 = .ok (.aload_n 0, 1) := by decide +kernel
theorem dX1_makeTurn_125 : decode cX1_makeTurn 125 = .ok (.iload_n 2, 1) := by decide +kernel
theorem dX1_makeTurn_126 : decode cX1_makeTurn 126 = .ok (.invokevirtual 120, 3) := by decide +kernel
theorem dX1_makeTurn_129 : decode cX1_makeTurn 129 = .ok (.goto 30, 3) := by decide +kernel
theorem dX1_makeTurn_132 : decode cX1_makeTurn 132 = .ok (.aload_n 0, 1) := by decide +kernel
theorem dX1_makeTurn_133 : decode cX1_makeTurn 133 = .ok (.getfield 21, 3) := by decide +kernel
theorem dX1_makeTurn_136 : decode cX1_makeTurn 136 = .ok (.dup, 1) := by decide +kernel
theorem dX1_makeTurn_137 : decode cX1_makeTurn 137 = .ok (.getfield 123, 3) := by decide +kernel
theorem dX1_makeTurn_140 : decode cX1_makeTurn 140 = .ok (.iconst 1, 1) := by decide +kernel
theorem dX1_makeTurn_141 : decode cX1_makeTurn 141 = .ok (.iadd, 1) := by decide +kernel
theorem dX1_makeTurn_142 : decode cX1_makeTurn 142 = .ok (.putfield 123, 3) := by decide +kernel
theorem dX1_makeTurn_145 : decode cX1_makeTurn 145 = .ok (.aload_n 0, 1) := by decide +kernel
theorem dX1_makeTurn_146 : decode cX1_makeTurn 146 = .ok (.getfield 21, 3) := by decide +kernel
theorem dX1_makeTurn_149 : decode cX1_makeTurn 149 = .ok (.getfield 117, 3) := by decide +kernel
theorem dX1_makeTurn_152 : decode cX1_makeTurn 152 = .ok (.bipush 12, 2) := by decide +kernel
theorem dX1_makeTurn_154 : decode cX1_makeTurn 154 = .ok (.dup2, 1) := by decide +kernel
theorem dX1_makeTurn_155 : decode cX1_makeTurn 155 = .ok (.iaload, 1) := by decide +kernel
theorem dX1_makeTurn_156 : decode cX1_makeTurn 156 = .ok (.iconst 1, 1) := by decide +kernel
theorem dX1_makeTurn_157 : decode cX1_makeTurn 157 = .ok (.iadd, 1) := by decide +kernel
theorem dX1_makeTurn_158 : decode cX1_makeTurn 158 = .ok (.iastore, 1) := by decide +kernel
theorem dX1_makeTurn_159 : decode cX1_makeTurn 159 = .ok (.iconst 0, 1) := by decide +kernel
theorem dX1_makeTurn_160 : decode cX1_makeTurn 160 = .ok (.istore_n 3, 1) := by decide +kernel
theorem dX1_makeTurn_161 : decode cX1_makeTurn 161 = .ok (.iload_n 3, 1) := by decide +kernel
theorem dX1_makeTurn_162 : decode cX1_makeTurn 162 = .ok (.aload_n 0, 1) := by decide +kernel
theorem dX1_makeTurn_163 : decode cX1_makeTurn 163 = .ok (.getfield 21, 3) := by decide +kernel
theorem dX1_makeTurn_166 : decode cX1_makeTurn 166 = .ok (.getfield 52, 3) := by decide +kernel
theorem dX1_makeTurn_169 : decode cX1_makeTurn 169 = .ok (.getfield 56, 3) := by decide +kernel
theorem dX1_makeTurn_172 : decode cX1_makeTurn 172 = .ok (.if_icmp .ge 17, 3) := by decide +kernel
theorem dX1_makeTurn_175 : decode cX1_makeTurn 175 = .ok (.aload_n 0, 1) := by decide +kernel
theorem dX1_makeTurn_176 : decode cX1_makeTurn 176 = .ok (.getfield 21, 3) := by decide +kernel
theorem dX1_makeTurn_179 : decode cX1_makeTurn 179 = .ok (.iload_n 3, 1) := by decide +kernel
theorem dX1_makeTurn_180 : decode cX1_makeTurn 180 = .ok (.invokevirtual 126, 3) := by decide +kernel
theorem dX1_makeTurn_183 : decode cX1_makeTurn 183 = .ok (.iinc 3 1, 3) := by decide +kernel
theorem dX1_makeTurn_186 : decode cX1_makeTurn 186 = .ok (.goto (-25), 3) := by decide +kernel
theorem dX1_makeTurn_189 : decode cX1_makeTurn 189 = .ok (.aload_n 0, 1) := by decide +kernel
theorem dX1_makeTurn_190 : decode cX1_makeTurn 190 = .ok (.getfield 21, 3) := by decide +kernel
theorem dX1_makeTurn_193 : decode cX1_makeTurn 193 = .ok (.getfield 129, 3) := by decide +kernel
theorem dX1_makeTurn_196 : decode cX1_makeTurn 196 = .ok (.aload_n 0, 1) := by decide +kernel
theorem dX1_makeTurn_197 : decode cX1_makeTurn 197 = .ok (.getfield 9, 3) := by decide +kernel
theorem dX1_makeTurn_200 : decode cX1_makeTurn 200 = .ok (.aload_n 0, 1) := by decide +kernel
theorem dX1_makeTurn_201 : decode cX1_makeTurn 201 = .ok (.getfield 15, 3) := by decide +kernel
theorem dX1_makeTurn_204 : decode cX1_makeTurn 204 = .ok (.iload_n 2, 1) := by decide +kernel
theorem dX1_makeTurn_205 : decode cX1_makeTurn 205 = .ok (.iload_n 1, 1) := by decide +kernel
theorem dX1_makeTurn_206 : decode cX1_makeTurn 206 = .ok (.aload_n 0, 1) := by decide +kernel
theorem dX1_makeTurn_207 : decode cX1_makeTurn 207 = .ok (.getfield 21, 3) := by decide +kernel
theorem dX1_makeTurn_210 : decode cX1_makeTurn 210 = .ok (.getfield 123, 3) := by decide +kernel
theorem dX1_makeTurn_213 : decode cX1_makeTurn 213 = .ok (.invokevirtual 133, 3) := by decide +kernel
theorem dX1_makeTurn_216 : decode cX1_makeTurn 216 = .ok (.return_, 1) := by decide +kernel
theorem dX1_noteBeginning_0 : decode cX1_noteBeginning 0 = .ok (.aload_n 0, 1) := by decide +kernel
theorem dX1_noteBeginning_1 : decode cX1_noteBeginning 1 = .ok (.getfield 21, 3) := by decide +kernel
theorem dX1_noteBeginning_4 : decode cX1_noteBeginning 4 = .ok (.getfield 64, 3) := by decide +kernel
theorem dX1_noteBeginning_7 : decode cX1_noteBeginning 7 = .ok (.aload_n 0, 1) := by decide +kernel
theorem dX1_noteBeginning_8 : decode cX1_noteBeginning 8 = .ok (.getfield 9, 3) := by decide +kernel
theorem dX1_noteBeginning_11 : decode cX1_noteBeginning 11 = .ok (.aload_n 0, 1) := by decide +kernel
theorem dX1_noteBeginning_12 : decode cX1_noteBeginning 12 = .ok (.getfield 15, 3) := by decide +kernel
theorem dX1_noteBeginning_15 : decode cX1_noteBeginning 15 = .ok (.invokevirtual 139, 3) := by decide +kernel
theorem dX1_noteBeginning_18 : decode cX1_noteBeginning 18 = .ok (.aload_n 0, 1) := by decide +kernel
theorem dX1_noteBeginning_19 : decode cX1_noteBeginning 19 = .ok (.getfield 9, 3) := by decide +kernel
theorem dX1_noteBeginning_22 : decode cX1_noteBeginning 22 = .ok (.ifCond .ne 25, 3) := by decide +kernel
theorem dX1_noteBeginning_25 : decode cX1_noteBeginning 25 = .ok (.aload_n 0, 1) := by decide +kernel
theorem dX1_noteBeginning_26 : decode cX1_noteBeginning 26 = .ok (.getfield 21, 3) := by decide +kernel
theorem dX1_noteBeginning_29 : decode cX1_noteBeginning 29 = .ok (.aload_n 0, 1) := by decide +kernel
theorem dX1_noteBeginning_30 : decode cX1_noteBeginning 30 = .ok (.getfield 18, 3) := by decide +kernel
theorem dX1_noteBeginning_33 : decode cX1_noteBeginning 33 = .ok (.putfield 92, 3) := by decide +kernel
theorem dX1_noteBeginning_36 : decode cX1_noteBeginning 36 = .ok (.aload_n 0, 1) := by decide +kernel
theorem dX1_noteBeginning_37 : decode cX1_noteBeginning 37 = .ok (.getfield 21, 3) := by decide +kernel
theorem dX1_noteBeginning_40 : decode cX1_noteBeginning 40 = .ok (.iconst 0, 1) := by decide +kernel
theorem dX1_noteBeginning_41 : decode cX1_noteBeginning 41 = .ok (.putfield 29, 3) := by decide +kernel
theorem dX1_noteBeginning_44 : decode cX1_noteBeginning 44 = .ok (.goto 63, 3) := by decide +kernel
theorem dX1_noteBeginning_47 : decode cX1_noteBeginning 47 = .ok (.aload_n 0, 1) := by decide +kernel
theorem dX1_noteBeginning_48 : decode cX1_noteBeginning 48 = .ok (.getfield 9, 3) := by decide +kernel
theorem dX1_noteBeginning_51 : decode cX1_noteBeginning 51 = .ok (.iconst 1, 1) := by decide +kernel
theorem dX1_noteBeginning_52 : decode cX1_noteBeginning 52 = .ok (.if_icmp .ne 30, 3) := by decide +kernel
theorem dX1_noteBeginning_55 : decode cX1_noteBeginning 55 = .ok (.aload_n 0, 1) := by decide +kernel
theorem dX1_noteBeginning_56 : decode cX1_noteBeginning 56 = .ok (.getfield 21, 3) := by decide +kernel
theorem dX1_noteBeginning_59 : decode cX1_noteBeginning 59 = .ok (.aload_n 0, 1) := by decide +kernel
theorem dX1_noteBeginning_60 : decode cX1_noteBeginning 60 = .ok (.getfield 15, 3) := by decide +kernel
theorem dX1_noteBeginning_63 : decode cX1_noteBeginning 63 = .ok (.putfield 73, 3) := by decide +kernel
theorem dX1_noteBeginning_66 : decode cX1_noteBeginning 66 = .ok (.aload_n 0, 1) := by decide +kernel
theorem dX1_noteBeginning_67 : decode cX1_noteBeginning 67 = .ok (.getfield 21, 3) := by decide +kernel
theorem dX1_noteBeginning_70 : decode cX1_noteBeginning 70 = .ok (.dup, 1) := by decide +kernel
theorem dX1_noteBeginning_71 : decode cX1_noteBeginning 71 = .ok (.getfield 29, 3) := by decide +kernel
theorem dX1_noteBeginning_74 : decode cX1_noteBeginning 74 = .ok (.iconst 1, 1) := by decide +kernel
theorem dX1_noteBeginning_75 : decode cX1_noteBeginning 75 = .ok (.iadd, 1) := by decide +kernel
theorem dX1_noteBeginning_76 : decode cX1_noteBeginning 76 = .ok (.putfield 29, 3) := by decide +kernel
theorem dX1_noteBeginning_79 : decode cX1_noteBeginning 79 = .ok (.goto 28, 3) := by decide +kernel
theorem dX1_noteBeginning_82 : decode cX1_noteBeginning 82 = .ok (.aload_n 0, 1) := by decide +kernel
theorem dX1_noteBeginning_83 : decode cX1_noteBeginning 83 = .ok (.getfield 21, 3) := by decide +kernel
theorem dX1_noteBeginning_86 : decode cX1_noteBeginning 86 = .ok (.aload_n 0, 1) := by decide +kernel
theorem dX1_noteBeginning_87 : decode cX1_noteBeginning 87 = .ok (.getfield 15, 3) := by decide +kernel
theorem dX1_noteBeginning_90 : decode cX1_noteBeginning 90 = .ok (.putfield 61, 3) := by decide +kernel
theorem dX1_noteBeginning_93 : decode cX1_noteBeginning 93 = .ok (.aload_n 0, 1) := by decide +kernel
theorem dX1_noteBeginning_94 : decode cX1_noteBeginning 94 = .ok (.getfield 21, 3) := by decide +kernel
theorem dX1_noteBeginning_97 : decode cX1_noteBeginning 97 = .ok (.getfield 117, 3) := by decide +kernel
theorem dX1_noteBeginning_100 : decode cX1_noteBeginning 100 = .ok (.bipush 11, 2) := by decide +kernel
theorem dX1_noteBeginning_102 : decode cX1_noteBeginning 102 = .ok (.dup2, 1) := by decide +kernel
theorem dX1_noteBeginning_103 : decode cX1_noteBeginning 103 = .ok (.iaload, 1) := by decide +kernel
theorem dX1_noteBeginning_104 : decode cX1_noteBeginning 104 = .ok (.iconst 1, 1) := by decide +kernel
theorem dX1_noteBeginning_105 : decode cX1_noteBeginning 105 = .ok (.iadd, 1) := by decide +kernel
theorem dX1_noteBeginning_106 : decode cX1_noteBeginning 106 = .ok (.iastore, 1) := by decide +kernel
theorem dX1_noteBeginning_107 : decode cX1_noteBeginning 107 = .ok (.return_, 1) := by decide +kernel
theorem dX1_noteEnd_0 : decode cX1_noteEnd 0 = .ok (.aload_n 0, 1) := by decide +kernel
theorem dX1_noteEnd_1 : decode cX1_noteEnd 1 = .ok (.getfield 21, 3) := by decide +kernel
theorem dX1_noteEnd_4 : decode cX1_noteEnd 4 = .ok (.getfield 64, 3) := by decide +kernel
theorem dX1_noteEnd_7 : decode cX1_noteEnd 7 = .ok (.astore_n 2, 1) := by decide +kernel
theorem dX1_noteEnd_8 : decode cX1_noteEnd 8 = .ok (.iload_n 1, 1) := by decide +kernel
theorem dX1_noteEnd_9 : decode cX1_noteEnd 9 = .ok (.ifCond .eq 26, 3) := by decide +kernel
theorem dX1_noteEnd_12 : decode cX1_noteEnd 12 = .ok (.aload_n 2, 1) := by decide +kernel
theorem dX1_noteEnd_13 : decode cX1_noteEnd 13 = .ok (.getfield 143, 3) := by decide +kernel
theorem dX1_noteEnd_16 : decode cX1_noteEnd 16 = .ok (.aload_n 0, 1) := by decide +kernel
theorem dX1_noteEnd_17 : decode cX1_noteEnd 17 = .ok (.getfield 15, 3) := by decide +kernel
theorem dX1_noteEnd_20 : decode cX1_noteEnd 20 = .ok (.iconst 0, 1) := by decide +kernel
theorem dX1_noteEnd_21 : decode cX1_noteEnd 21 = .ok (.iastore, 1) := by decide +kernel
theorem dX1_noteEnd_22 : decode cX1_noteEnd 22 = .ok (.aload_n 2, 1) := by decide +kernel
theorem dX1_noteEnd_23 : decode cX1_noteEnd 23 = .ok (.getfield 68, 3) := by decide +kernel
theorem dX1_noteEnd_26 : decode cX1_noteEnd 26 = .ok (.aload_n 0, 1) := by decide +kernel
theorem dX1_noteEnd_27 : decode cX1_noteEnd 27 = .ok (.getfield 15, 3) := by decide +kernel
theorem dX1_noteEnd_30 : decode cX1_noteEnd 30 = .ok (.iconst 1, 1) := by decide +kernel
theorem dX1_noteEnd_31 : decode cX1_noteEnd 31 = .ok (.iastore, 1) := by decide +kernel
theorem dX1_noteEnd_32 : decode cX1_noteEnd 32 = .ok (.goto 92, 3) := by decide +kernel
theorem dX1_noteEnd_35 : decode cX1_noteEnd 35 = .ok (.aload_n 0, 1) := by decide +kernel
theorem dX1_noteEnd_36 : decode cX1_noteEnd 36 = .ok (.getfield 9, 3) := by decide +kernel
theorem dX1_noteEnd_39 : decode cX1_noteEnd 39 = .ok (.iconst 2, 1) := by decide +kernel
theorem dX1_noteEnd_40 : decode cX1_noteEnd 40 = .ok (.if_icmp .eq 84, 3) := by decide +kernel
theorem dX1_noteEnd_43 : decode cX1_noteEnd 43 = .ok (.aload_n 0, 1) := by decide +kernel
theorem dX1_noteEnd_44 : decode cX1_noteEnd 44 = .ok (.getfield 21, 3) := by decide +kernel
theorem dX1_noteEnd_47 : decode cX1_noteEnd 47 = .ok (.getfield 117, 3) := by decide +kernel
theorem dX1_noteEnd_50 : decode cX1_noteEnd 50 = .ok (.bipush 8, 2) := by decide +kernel
theorem dX1_noteEnd_52 : decode cX1_noteEnd 52 = .ok (.dup2, 1) := by decide +kernel
theorem dX1_noteEnd_53 : decode cX1_noteEnd 53 = .ok (.iaload, 1) := by decide +kernel
theorem dX1_noteEnd_54 : decode cX1_noteEnd 54 = .ok (.iconst 1, 1) := by decide +kernel
theorem dX1_noteEnd_55 : decode cX1_noteEnd 55 = .ok (.iadd, 1) := by decide +kernel
theorem dX1_noteEnd_56 : decode cX1_noteEnd 56 = .ok (.iastore, 1) := by decide +kernel
theorem dX1_noteEnd_57 : decode cX1_noteEnd 57 = .ok (.aload_n 2, 1) := by decide +kernel
theorem dX1_noteEnd_58 : decode cX1_noteEnd 58 = .ok (.iconst 3, 1) := by decide +kernel
theorem dX1_noteEnd_59 : decode cX1_noteEnd 59 = .ok (.aload_n 0, 1) := by decide +kernel
theorem dX1_noteEnd_60 : decode cX1_noteEnd 60 = .ok (.getfield 15, 3) := by decide +kernel
theorem dX1_noteEnd_63 : decode cX1_noteEnd 63 = .ok (.invokevirtual 139, 3) := by decide +kernel
theorem dX1_noteEnd_66 : decode cX1_noteEnd 66 = .ok (.aload_n 2, 1) := by decide +kernel
theorem dX1_noteEnd_67 : decode cX1_noteEnd 67 = .ok (.getfield 143, 3) := by decide +kernel
theorem dX1_noteEnd_70 : decode cX1_noteEnd 70 = .ok (.aload_n 0, 1) := by decide +kernel
theorem dX1_noteEnd_71 : decode cX1_noteEnd 71 = .ok (.getfield 15, 3) := by decide +kernel
theorem dX1_noteEnd_74 : decode cX1_noteEnd 74 = .ok (.dup2, 1) := by decide +kernel
theorem dX1_noteEnd_75 : decode cX1_noteEnd 75 = .ok (.iaload, 1) := by decide +kernel
theorem dX1_noteEnd_76 : decode cX1_noteEnd 76 = .ok (.iconst 1, 1) := by decide +kernel
theorem dX1_noteEnd_77 : decode cX1_noteEnd 77 = .ok (.iadd, 1) := by decide +kernel
theorem dX1_noteEnd_78 : decode cX1_noteEnd 78 = .ok (.iastore, 1) := by decide +kernel
theorem dX1_noteEnd_79 : decode cX1_noteEnd 79 = .ok (.aload_n 2, 1) := by decide +kernel
theorem dX1_noteEnd_80 : decode cX1_noteEnd 80 = .ok (.getfield 143, 3) := by decide +kernel
theorem dX1_noteEnd_83 : decode cX1_noteEnd 83 = .ok (.aload_n 0, 1) := by decide +kernel
theorem dX1_noteEnd_84 : decode cX1_noteEnd 84 = .ok (.getfield 15, 3) := by decide +kernel
theorem dX1_noteEnd_87 : decode cX1_noteEnd 87 = .ok (.iaload, 1) := by decide +kernel
theorem dX1_noteEnd_88 : decode cX1_noteEnd 88 = .ok (.aload_n 0, 1) := by decide +kernel
theorem dX1_noteEnd_89 : decode cX1_noteEnd 89 = .ok (.getfield 21, 3) := by decide +kernel
theorem dX1_noteEnd_92 : decode cX1_noteEnd 92 = .ok (.getfield 34, 3) := by decide +kernel
theorem dX1_noteEnd_95 : decode cX1_noteEnd 95 = .ok (.iconst 2, 1) := by decide +kernel
theorem dX1_noteEnd_96 : decode cX1_noteEnd 96 = .ok (.iaload, 1) := by decide +kernel
theorem dX1_noteEnd_97 : decode cX1_noteEnd 97 = .ok (.if_icmp .lt 27, 3) := by decide +kernel
theorem dX1_noteEnd_100 : decode cX1_noteEnd 100 = .ok (.aload_n 2, 1) := by decide +kernel
theorem dX1_noteEnd_101 : decode cX1_noteEnd 101 = .ok (.getfield 68, 3) := by decide +kernel
theorem dX1_noteEnd_104 : decode cX1_noteEnd 104 = .ok (.aload_n 0, 1) := by decide +kernel
theorem dX1_noteEnd_105 : decode cX1_noteEnd 105 = .ok (.getfield 15, 3) := by decide +kernel
theorem dX1_noteEnd_108 : decode cX1_noteEnd 108 = .ok (.iconst 0, 1) := by decide +kernel
theorem dX1_noteEnd_109 : decode cX1_noteEnd 109 = .ok (.iastore, 1) := by decide +kernel
theorem dX1_noteEnd_110 : decode cX1_noteEnd 110 = .ok (.aload_n 0, 1) := by decide +kernel
theorem dX1_noteEnd_111 : decode cX1_noteEnd 111 = .ok (.getfield 21, 3) := by decide +kernel
theorem dX1_noteEnd_114 : decode cX1_noteEnd 114 = .ok (.getfield 117, 3) := by decide +kernel
theorem dX1_noteEnd_117 : decode cX1_noteEnd 117 = .ok (.bipush 9, 2) := by decide +kernel
theorem dX1_noteEnd_119 : decode cX1_noteEnd 119 = .ok (.dup2, 1) := by decide +kernel
theorem dX1_noteEnd_120 : decode cX1_noteEnd 120 = .ok (.iaload, 1) := by decide +kernel
theorem dX1_noteEnd_121 : decode cX1_noteEnd 121 = .ok (.iconst 1, 1) := by decide +kernel
theorem dX1_noteEnd_122 : decode cX1_noteEnd 122 = .ok (.iadd, 1) := by decide +kernel
theorem dX1_noteEnd_123 : decode cX1_noteEnd 123 = .ok (.iastore, 1) := by decide +kernel
theorem dX1_noteEnd_124 : decode cX1_noteEnd 124 = .ok (.return_, 1) := by decide +kernel
theorem dX1_call_0 : decode cX1_call 0 = .ok (.aload_n 0, 1) := by decide +kernel
theorem dX1_call_1 : decode cX1_call 1 = .ok (.getfield 21, 3) := by decide +kernel
theorem dX1_call_4 : decode cX1_call 4 = .ok (.iconst 1, 1) := by decide +kernel
theorem dX1_call_5 : decode cX1_call 5 = .ok (.invokevirtual 146, 3) := by decide +kernel
theorem dX1_call_8 : decode cX1_call 8 = .ok (.istore_n 1, 1) := by decide +kernel
theorem dX1_call_9 : decode cX1_call 9 = .ok (.iload_n 1, 1) := by decide +kernel
theorem dX1_call_10 : decode cX1_call 10 = .ok (.ifCond .eq 26, 3) := by decide +kernel
theorem dX1_call_13 : decode cX1_call 13 = .ok (.aload_n 0, 1) := by decide +kernel
theorem dX1_call_14 : decode cX1_call 14 = .ok (.getfield 21, 3) := by decide +kernel
theorem dX1_call_17 : decode cX1_call 17 = .ok (.getfield 64, 3) := by decide +kernel
theorem dX1_call_20 : decode cX1_call 20 = .ok (.getfield 149, 3) := by decide +kernel
theorem dX1_call_23 : decode cX1_call 23 = .ok (.aload_n 0, 1) := by decide +kernel
theorem dX1_call_24 : decode cX1_call 24 = .ok (.getfield 15, 3) := by decide +kernel
theorem dX1_call_27 : decode cX1_call 27 = .ok (.iaload, 1) := by decide +kernel
theorem dX1_call_28 : decode cX1_call 28 = .ok (.iconst 1, 1) := by decide +kernel
theorem dX1_call_29 : decode cX1_call 29 = .ok (.if_icmp .ne 7, 3) := by decide +kernel
theorem dX1_call_32 : decode cX1_call 32 = .ok (.iconst 1, 1) := by decide +kernel
theorem dX1_call_33 : decode cX1_call 33 = .ok (.goto 4, 3) := by decide +kernel
theorem dX1_call_36 : decode cX1_call 36 = .ok (.iconst 0, 1) := by decide +kernel
theorem dX1_call_37 : decode cX1_call 37 = .ok (.istore_n 2, 1) := by decide +kernel
theorem dX1_call_38 : decode cX1_call 38 = .ok (.aload_n 0, 1) := by decide +kernel
theorem dX1_call_39 : decode cX1_call 39 = .ok (.getfield 21, 3) := by decide +kernel
theorem dX1_call_42 : decode cX1_call 42 = .ok (.dup, 1) := by decide +kernel
theorem dX1_call_43 : decode cX1_call 43 = .ok (.getfield 123, 3) := by decide +kernel
theorem dX1_call_46 : decode cX1_call 46 = .ok (.iload_n 2, 1) := by decide +kernel
theorem dX1_call_47 : decode cX1_call 47 = .ok (.ifCond .eq 21, 3) := by decide +kernel
theorem dX1_call_50 : decode cX1_call 50 = .ok (.aload_n 0, 1) := by decide +kernel
theorem dX1_call_51 : decode cX1_call 51 = .ok (.getfield 21, 3) := by decide +kernel
theorem dX1_call_54 : decode cX1_call 54 = .ok (.getfield 52, 3) := by decide +kernel
theorem dX1_call_57 : decode cX1_call 57 = .ok (.getfield 152, 3) := by decide +kernel
theorem dX1_call_60 : decode cX1_call 60 = .ok (.aload_n 0, 1) := by decide +kernel
theorem dX1_call_61 : decode cX1_call 61 = .ok (.getfield 15, 3) := by decide +kernel
theorem dX1_call_64 : decode cX1_call 64 = .ok (.iaload, 1) := by decide +kernel
theorem dX1_call_65 : decode cX1_call 65 = .ok (.goto 12, 3) := by decide +kernel
theorem dX1_call_68 : decode cX1_call 68 = .ok (.aload_n 0, 1) := by decide +kernel
theorem dX1_call_69 : decode cX1_call 69 = .ok (.getfield 21, 3) := by decide +kernel
theorem dX1_call_72 : decode cX1_call 72 = .ok (.getfield 34, 3) := by decide +kernel
theorem dX1_call_75 : decode cX1_call 75 = .ok (.iconst 0, 1) := by decide +kernel
theorem dX1_call_76 : decode cX1_call 76 = .ok (.iaload, 1) := by decide +kernel
theorem dX1_call_77 : decode cX1_call 77 = .ok (.iadd, 1) := by decide +kernel
theorem dX1_call_78 : decode cX1_call 78 = .ok (.putfield 123, 3) := by decide +kernel
theorem dX1_call_81 : decode cX1_call 81 = .ok (.iload_n 2, 1) := by decide +kernel
theorem dX1_call_82 : decode cX1_call 82 = .ok (.ireturn, 1) := by decide +kernel
theorem dX1_sendNegativeAnswer_0 : decode cX1_sendNegativeAnswer 0 = .ok (.aload_n 0, 1) := by decide +kernel
theorem dX1_sendNegativeAnswer_1 : decode cX1_sendNegativeAnswer 1 = .ok (.getfield 21, 3) := by decide +kernel
theorem dX1_sendNegativeAnswer_4 : decode cX1_sendNegativeAnswer 4 = .ok (.getfield 117, 3) := by decide +kernel
theorem dX1_sendNegativeAnswer_7 : decode cX1_sendNegativeAnswer 7 = .ok (.bipush 10, 2) := by decide +kernel
theorem dX1_sendNegativeAnswer_9 : decode cX1_sendNegativeAnswer 9 = .ok (.dup2, 1) := by decide +kernel
theorem dX1_sendNegativeAnswer_10 : decode cX1_sendNegativeAnswer 10 = .ok (.iaload, 1) := by decide +kernel
theorem dX1_sendNegativeAnswer_11 : decode cX1_sendNegativeAnswer 11 = .ok (.iconst 1, 1) := by decide +kernel
theorem dX1_sendNegativeAnswer_12 : decode cX1_sendNegativeAnswer 12 = .ok (.iadd, 1) := by decide +kernel
theorem dX1_sendNegativeAnswer_13 : decode cX1_sendNegativeAnswer 13 = .ok (.iastore, 1) := by decide +kernel
theorem dX1_sendNegativeAnswer_14 : decode cX1_sendNegativeAnswer 14 = .ok (.aload_n 0, 1) := by decide +kernel
theorem dX1_sendNegativeAnswer_15 : decode cX1_sendNegativeAnswer 15 = .ok (.getfield 21, 3) := by decide +kernel
theorem dX1_sendNegativeAnswer_18 : decode cX1_sendNegativeAnswer 18 = .ok (.iconst 1, 1) := by decide +kernel
theorem dX1_sendNegativeAnswer_19 : decode cX1_sendNegativeAnswer 19 = .ok (.invokevirtual 146, 3) := by decide +kernel
theorem dX1_sendNegativeAnswer_22 : decode cX1_sendNegativeAnswer 22 = .ok (.pop, 1) := by decide +kernel
theorem dX1_sendNegativeAnswer_23 : decode cX1_sendNegativeAnswer 23 = .ok (.return_, 1) := by decide +kernel
theorem dX1_tryPoll_0 : decode cX1_tryPoll 0 = .ok (.aload_n 0, 1) := by decide +kernel
theorem dX1_tryPoll_1 : decode cX1_tryPoll 1 = .ok (.invokevirtual 155, 3) := by decide +kernel
theorem dX1_tryPoll_4 : decode cX1_tryPoll 4 = .ok (.ifCond .ne 5, 3) := by decide +kernel
theorem dX1_tryPoll_7 : decode cX1_tryPoll 7 = .ok (.iconst 0, 1) := by decide +kernel
theorem dX1_tryPoll_8 : decode cX1_tryPoll 8 = .ok (.ireturn, 1) := by decide +kernel
theorem dX1_tryPoll_9 : decode cX1_tryPoll 9 = .ok (.aload_n 0, 1) := by decide +kernel
theorem dX1_tryPoll_10 : decode cX1_tryPoll 10 = .ok (.getfield 21, 3) := by decide +kernel
theorem dX1_tryPoll_13 : decode cX1_tryPoll 13 = .ok (.getfield 79, 3) := by decide +kernel
theorem dX1_tryPoll_16 : decode cX1_tryPoll 16 = .ok (.iconst 0, 1) := by decide +kernel
theorem dX1_tryPoll_17 : decode cX1_tryPoll 17 = .ok (.aload_n 0, 1) := by decide +kernel
theorem dX1_tryPoll_18 : decode cX1_tryPoll 18 = .ok (.getfield 15, 3) := by decide +kernel
theorem dX1_tryPoll_21 : decode cX1_tryPoll 21 = .ok (.invokevirtual 159, 3) := by decide +kernel
theorem dX1_tryPoll_24 : decode cX1_tryPoll 24 = .ok (.istore_n 1, 1) := by decide +kernel
theorem dX1_tryPoll_25 : decode cX1_tryPoll 25 = .ok (.aload_n 0, 1) := by decide +kernel
theorem dX1_tryPoll_26 : decode cX1_tryPoll 26 = .ok (.getfield 21, 3) := by decide +kernel
theorem dX1_tryPoll_29 : decode cX1_tryPoll 29 = .ok (.getfield 162, 3) := by decide +kernel
theorem dX1_tryPoll_32 : decode cX1_tryPoll 32 = .ok (.iload_n 1, 1) := by decide +kernel
theorem dX1_tryPoll_33 : decode cX1_tryPoll 33 = .ok (.invokevirtual 166, 3) := by decide +kernel
theorem dX1_tryPoll_36 : decode cX1_tryPoll 36 = .ok (.ifCond .ne 31, 3) := by decide +kernel
theorem dX1_tryPoll_39 : decode cX1_tryPoll 39 = .ok (.aload_n 0, 1) := by decide +kernel
theorem dX1_tryPoll_40 : decode cX1_tryPoll 40 = .ok (.getfield 21, 3) := by decide +kernel
theorem dX1_tryPoll_43 : decode cX1_tryPoll 43 = .ok (.iconst 1, 1) := by decide +kernel
theorem dX1_tryPoll_44 : decode cX1_tryPoll 44 = .ok (.invokevirtual 146, 3) := by decide +kernel
theorem dX1_tryPoll_47 : decode cX1_tryPoll 47 = .ok (.ifCond .ne 5, 3) := by decide +kernel
theorem dX1_tryPoll_50 : decode cX1_tryPoll 50 = .ok (.iconst 0, 1) := by decide +kernel
theorem dX1_tryPoll_51 : decode cX1_tryPoll 51 = .ok (.ireturn, 1) := by decide +kernel
theorem dX1_tryPoll_52 : decode cX1_tryPoll 52 = .ok (.aload_n 0, 1) := by decide +kernel
theorem dX1_tryPoll_53 : decode cX1_tryPoll 53 = .ok (.getfield 21, 3) := by decide +kernel
theorem dX1_tryPoll_56 : decode cX1_tryPoll 56 = .ok (.getfield 117, 3) := by decide +kernel
theorem dX1_tryPoll_59 : decode cX1_tryPoll 59 = .ok (.iconst 2, 1) := by decide +kernel
theorem dX1_tryPoll_60 : decode cX1_tryPoll 60 = .ok (.dup2, 1) := by decide +kernel
theorem dX1_tryPoll_61 : decode cX1_tryPoll 61 = .ok (.iaload, 1) := by decide +kernel
theorem dX1_tryPoll_62 : decode cX1_tryPoll 62 = .ok (.iconst 1, 1) := by decide +kernel
theorem dX1_tryPoll_63 : decode cX1_tryPoll 63 = .ok (.iadd, 1) := by decide +kernel
theorem dX1_tryPoll_64 : decode cX1_tryPoll 64 = .ok (.iastore, 1) := by decide +kernel
theorem dX1_tryPoll_65 : decode cX1_tryPoll 65 = .ok (.iconst 1, 1) := by decide +kernel
theorem dX1_tryPoll_66 : decode cX1_tryPoll 66 = .ok (.ireturn, 1) := by decide +kernel
theorem dX1_tryPoll_67 : decode cX1_tryPoll 67 = .ok (.aload_n 0, 1) := by decide +kernel
theorem dX1_tryPoll_68 : decode cX1_tryPoll 68 = .ok (.getfield 21, 3) := by decide +kernel
theorem dX1_tryPoll_71 : decode cX1_tryPoll 71 = .ok (.aload_n 0, 1) := by decide +kernel
theorem dX1_tryPoll_72 : decode cX1_tryPoll 72 = .ok (.getfield 21, 3) := by decide +kernel
theorem dX1_tryPoll_75 : decode cX1_tryPoll 75 = .ok (.getfield 162, 3) := by decide +kernel
theorem dX1_tryPoll_78 : decode cX1_tryPoll 78 = .ok (.getfield 169, 3) := by decide +kernel
theorem dX1_tryPoll_81 : decode cX1_tryPoll 81 = .ok (.iload_n 1, 1) := by decide +kernel
theorem dX1_tryPoll_82 : decode cX1_tryPoll 82 = .ok (.iaload, 1) := by decide +kernel
theorem dX1_tryPoll_83 : decode cX1_tryPoll 83 = .ok (.invokevirtual 146, 3) := by decide +kernel
theorem dX1_tryPoll_86 : decode cX1_tryPoll 86 = .ok (.ifCond .ne 9, 3) := by decide +kernel
theorem dX1_tryPoll_89 : decode cX1_tryPoll 89 = .ok (.aload_n 0, 1) := by decide +kernel
theorem dX1_tryPoll_90 : decode cX1_tryPoll 90 = .ok (.invokevirtual 172, 3) := by decide +kernel
theorem dX1_tryPoll_93 : decode cX1_tryPoll 93 = .ok (.iconst 0, 1) := by decide +kernel
theorem dX1_tryPoll_94 : decode cX1_tryPoll 94 = .ok (.ireturn, 1) := by decide +kernel
theorem dX1_tryPoll_95 : decode cX1_tryPoll 95 = .ok (.aload_n 0, 1) := by decide +kernel
theorem dX1_tryPoll_96 : decode cX1_tryPoll 96 = .ok (.getfield 21, 3) := by decide +kernel
theorem dX1_tryPoll_99 : decode cX1_tryPoll 99 = .ok (.getfield 64, 3) := by decide +kernel
theorem dX1_tryPoll_102 : decode cX1_tryPoll 102 = .ok (.astore_n 2, 1) := by decide +kernel
theorem dX1_tryPoll_103 : decode cX1_tryPoll 103 = .ok (.aload_n 2, 1) := by decide +kernel
theorem dX1_tryPoll_104 : decode cX1_tryPoll 104 = .ok (.getfield 175, 3) := by decide +kernel
theorem dX1_tryPoll_107 : decode cX1_tryPoll 107 = .ok (.aload_n 0, 1) := by decide +kernel
theorem dX1_tryPoll_108 : decode cX1_tryPoll 108 = .ok (.getfield 15, 3) := by decide +kernel
theorem dX1_tryPoll_111 : decode cX1_tryPoll 111 = .ok (.iaload, 1) := by decide +kernel
theorem dX1_tryPoll_112 : decode cX1_tryPoll 112 = .ok (.aload_n 2, 1) := by decide +kernel
theorem dX1_tryPoll_113 : decode cX1_tryPoll 113 = .ok (.getfield 178, 3) := by decide +kernel
theorem dX1_tryPoll_116 : decode cX1_tryPoll 116 = .ok (.aload_n 0, 1) := by decide +kernel
theorem dX1_tryPoll_117 : decode cX1_tryPoll 117 = .ok (.getfield 15, 3) := by decide +kernel
theorem dX1_tryPoll_120 : decode cX1_tryPoll 120 = .ok (.iaload, 1) := by decide +kernel
theorem dX1_tryPoll_121 : decode cX1_tryPoll 121 = .ok (.if_icmp .ne 7, 3) := by decide +kernel
theorem dX1_tryPoll_124 : decode cX1_tryPoll 124 = .ok (.iconst 1, 1) := by decide +kernel
theorem dX1_tryPoll_125 : decode cX1_tryPoll 125 = .ok (.goto 4, 3) := by decide +kernel
theorem dX1_tryPoll_128 : decode cX1_tryPoll 128 = .ok (.iconst 0, 1) := by decide +kernel
theorem dX1_tryPoll_129 : decode cX1_tryPoll 129 = .ok (.istore_n 3, 1) := by decide +kernel
theorem dX1_tryPoll_130 : decode cX1_tryPoll 130 = .ok (.iload_n 3, 1) := by decide +kernel
theorem dX1_tryPoll_131 : decode cX1_tryPoll 131 = .ok (.ifCond .eq 18, 3) := by decide +kernel
theorem dX1_tryPoll_134 : decode cX1_tryPoll 134 = .ok (.aload_n 0, 1) := by decide +kernel
theorem dX1_tryPoll_135 : decode cX1_tryPoll 135 = .ok (.getfield 21, 3) := by decide +kernel
theorem dX1_tryPoll_138 : decode cX1_tryPoll 138 = .ok (.aload_n 0, 1) := by decide +kernel
theorem dX1_tryPoll_139 : decode cX1_tryPoll 139 = .ok (.getfield 15, 3) := by decide +kernel
theorem dX1_tryPoll_142 : decode cX1_tryPoll 142 = .ok (.iload_n 1, 1) := by decide +kernel
theorem dX1_tryPoll_143 : decode cX1_tryPoll 143 = .ok (.invokevirtual 181, 3) := by decide +kernel
theorem dX1_tryPoll_146 : decode cX1_tryPoll 146 = .ok (.goto 16, 3) := by decide +kernel
theorem dX1_tryPoll_149 : decode cX1_tryPoll 149 = .ok (.aload_n 0, 1) := by decide +kernel
theorem dX1_tryPoll_150 : decode cX1_tryPoll 150 = .ok (.getfield 21, 3) := by decide +kernel
theorem dX1_tryPoll_153 : decode cX1_tryPoll 153 = .ok (.getfield 117, 3) := by decide +kernel
theorem dX1_tryPoll_156 : decode cX1_tryPoll 156 = .ok (.iconst 4, 1) := by decide +kernel
theorem dX1_tryPoll_157 : decode cX1_tryPoll 157 = .ok (.dup2, 1) := by decide +kernel
theorem dX1_tryPoll_158 : decode cX1_tryPoll 158 = .ok (.iaload, 1) := by decide +kernel
theorem dX1_tryPoll_159 : decode cX1_tryPoll 159 = .ok (.iconst 1, 1) := by decide +kernel
theorem dX1_tryPoll_160 : decode cX1_tryPoll 160 = .ok (.iadd, 1) := by decide +kernel
theorem dX1_tryPoll_161 : decode cX1_tryPoll 161 = .ok (.iastore, 1) := by decide +kernel
theorem dX1_tryPoll_162 : decode cX1_tryPoll 162 = .ok (.aload_n 0, 1) := by decide +kernel
theorem dX1_tryPoll_163 : decode cX1_tryPoll 163 = .ok (.getfield 21, 3) := by decide +kernel
theorem dX1_tryPoll_166 : decode cX1_tryPoll 166 = .ok (.iconst 1, 1) := by decide +kernel
theorem dX1_tryPoll_167 : decode cX1_tryPoll 167 = .ok (.invokevirtual 146, 3) := by decide +kernel
theorem dX1_tryPoll_170 : decode cX1_tryPoll 170 = .ok (.ifCond .eq 31, 3) := by decide +kernel
theorem dX1_tryPoll_173 : decode cX1_tryPoll 173 = .ok (.aload_n 0, 1) := by decide +kernel
theorem dX1_tryPoll_174 : decode cX1_tryPoll 174 = .ok (.getfield 21, 3) := by decide +kernel
theorem dX1_tryPoll_177 : decode cX1_tryPoll 177 = .ok (.getfield 79, 3) := by decide +kernel
theorem dX1_tryPoll_180 : decode cX1_tryPoll 180 = .ok (.iconst 0, 1) := by decide +kernel
theorem dX1_tryPoll_181 : decode cX1_tryPoll 181 = .ok (.aload_n 0, 1) := by decide +kernel
theorem dX1_tryPoll_182 : decode cX1_tryPoll 182 = .ok (.getfield 15, 3) := by decide +kernel
theorem dX1_tryPoll_185 : decode cX1_tryPoll 185 = .ok (.invokevirtual 184, 3) := by decide +kernel
theorem dX1_tryPoll_188 : decode cX1_tryPoll 188 = .ok (.aload_n 2, 1) := by decide +kernel
theorem dX1_tryPoll_189 : decode cX1_tryPoll 189 = .ok (.getfield 175, 3) := by decide +kernel
theorem dX1_tryPoll_192 : decode cX1_tryPoll 192 = .ok (.aload_n 0, 1) := by decide +kernel
theorem dX1_tryPoll_193 : decode cX1_tryPoll 193 = .ok (.getfield 15, 3) := by decide +kernel
theorem dX1_tryPoll_196 : decode cX1_tryPoll 196 = .ok (.dup2, 1) := by decide +kernel
theorem dX1_tryPoll_197 : decode cX1_tryPoll 197 = .ok (.iaload, 1) := by decide +kernel
theorem dX1_tryPoll_198 : decode cX1_tryPoll 198 = .ok (.iconst 1, 1) := by decide +kernel
theorem dX1_tryPoll_199 : decode cX1_tryPoll 199 = .ok (.ixor, 1) := by decide +kernel
theorem dX1_tryPoll_200 : decode cX1_tryPoll 200 = .ok (.iastore, 1) := by decide +kernel
theorem dX1_tryPoll_201 : decode cX1_tryPoll 201 = .ok (.iload_n 3, 1) := by decide +kernel
theorem dX1_tryPoll_202 : decode cX1_tryPoll 202 = .ok (.ifCond .eq 7, 3) := by decide +kernel
theorem dX1_tryPoll_205 : decode cX1_tryPoll 205 = .ok (.iconst 2, 1) := by decide +kernel
theorem dX1_tryPoll_206 : decode cX1_tryPoll 206 = .ok (.goto 4, 3) := by decide +kernel
theorem dX1_tryPoll_209 : decode cX1_tryPoll 209 = .ok (.iconst 3, 1) := by decide +kernel
theorem dX1_tryPoll_210 : decode cX1_tryPoll 210 = .ok (.ireturn, 1) := by decide +kernel
theorem dX1_trySelect_0 : decode cX1_trySelect 0 = .ok (.aload_n 0, 1) := by decide +kernel
theorem dX1_trySelect_1 : decode cX1_trySelect 1 = .ok (.getfield 21, 3) := by decide +kernel
theorem dX1_trySelect_4 : decode cX1_trySelect 4 = .ok (.getfield 79, 3) := by decide +kernel
theorem dX1_trySelect_7 : decode cX1_trySelect 7 = .ok (.iconst 1, 1) := by decide +kernel
theorem dX1_trySelect_8 : decode cX1_trySelect 8 = .ok (.aload_n 0, 1) := by decide +kernel
theorem dX1_trySelect_9 : decode cX1_trySelect 9 = .ok (.getfield 15, 3) := by decide +kernel
theorem dX1_trySelect_12 : decode cX1_trySelect 12 = .ok (.invokevirtual 159, 3) := by decide +kernel
theorem dX1_trySelect_15 : decode cX1_trySelect 15 = .ok (.istore_n 1, 1) := by decide +kernel
theorem dX1_trySelect_16 : decode cX1_trySelect 16 = .ok (.aload_n 0, 1) := by decide +kernel
theorem dX1_trySelect_17 : decode cX1_trySelect 17 = .ok (.getfield 21, 3) := by decide +kernel
theorem dX1_trySelect_20 : decode cX1_trySelect 20 = .ok (.getfield 162, 3) := by decide +kernel
theorem dX1_trySelect_23 : decode cX1_trySelect 23 = .ok (.iload_n 1, 1) := by decide +kernel
theorem dX1_trySelect_24 : decode cX1_trySelect 24 = .ok (.invokevirtual 166, 3) := by decide +kernel
theorem dX1_trySelect_27 : decode cX1_trySelect 27 = .ok (.ifCond .eq 10, 3) := by decide +kernel
theorem dX1_trySelect_30 : decode cX1_trySelect 30 = .ok (.aload_n 0, 1) := by decide +kernel
theorem dX1_trySelect_31 : decode cX1_trySelect 31 = .ok (.invokevirtual 155, 3) := by decide +kernel
theorem dX1_trySelect_34 : decode cX1_trySelect 34 = .ok (.ifCond .ne 5, 3) := by decide +kernel
theorem dX1_trySelect_37 : decode cX1_trySelect 37 = .ok (.iconst 0, 1) := by decide +kernel
theorem dX1_trySelect_38 : decode cX1_trySelect 38 = .ok (.ireturn, 1) := by decide +kernel
theorem dX1_trySelect_39 : decode cX1_trySelect 39 = .ok (.aload_n 0, 1) := by decide +kernel
theorem dX1_trySelect_40 : decode cX1_trySelect 40 = .ok (.getfield 21, 3) := by decide +kernel
theorem dX1_trySelect_43 : decode cX1_trySelect 43 = .ok (.aload_n 0, 1) := by decide +kernel
theorem dX1_trySelect_44 : decode cX1_trySelect 44 = .ok (.getfield 15, 3) := by decide +kernel
theorem dX1_trySelect_47 : decode cX1_trySelect 47 = .ok (.invokevirtual 126, 3) := by decide +kernel
theorem dX1_trySelect_50 : decode cX1_trySelect 50 = .ok (.aload_n 0, 1) := by decide +kernel
theorem dX1_trySelect_51 : decode cX1_trySelect 51 = .ok (.getfield 21, 3) := by decide +kernel
theorem dX1_trySelect_54 : decode cX1_trySelect 54 = .ok (.getfield 79, 3) := by decide +kernel
theorem dX1_trySelect_57 : decode cX1_trySelect 57 = .ok (.iconst 2, 1) := by decide +kernel
theorem dX1_trySelect_58 : decode cX1_trySelect 58 = .ok (.aload_n 0, 1) := by decide +kernel
theorem dX1_trySelect_59 : decode cX1_trySelect 59 = .ok (.getfield 15, 3) := by decide +kernel
theorem dX1_trySelect_62 : decode cX1_trySelect 62 = .ok (.invokevirtual 83, 3) := by decide +kernel
theorem dX1_trySelect_65 : decode cX1_trySelect 65 = .ok (.aload_n 0, 1) := by decide +kernel
theorem dX1_trySelect_66 : decode cX1_trySelect 66 = .ok (.getfield 21, 3) := by decide +kernel
theorem dX1_trySelect_69 : decode cX1_trySelect 69 = .ok (.getfield 52, 3) := by decide +kernel
theorem dX1_trySelect_72 : decode cX1_trySelect 72 = .ok (.getfield 187, 3) := by decide +kernel
theorem dX1_trySelect_75 : decode cX1_trySelect 75 = .ok (.aload_n 0, 1) := by decide +kernel
theorem dX1_trySelect_76 : decode cX1_trySelect 76 = .ok (.getfield 15, 3) := by decide +kernel
theorem dX1_trySelect_79 : decode cX1_trySelect 79 = .ok (.iaload, 1) := by decide +kernel
theorem dX1_trySelect_80 : decode cX1_trySelect 80 = .ok (.if_icmp .ge 7, 3) := by decide +kernel
theorem dX1_trySelect_83 : decode cX1_trySelect 83 = .ok (.iconst 1, 1) := by decide +kernel
theorem dX1_trySelect_84 : decode cX1_trySelect 84 = .ok (.goto 4, 3) := by decide +kernel
theorem dX1_trySelect_87 : decode cX1_trySelect 87 = .ok (.iconst 0, 1) := by decide +kernel
theorem dX1_trySelect_88 : decode cX1_trySelect 88 = .ok (.istore_n 2, 1) := by decide +kernel
theorem dX1_trySelect_89 : decode cX1_trySelect 89 = .ok (.aload_n 0, 1) := by decide +kernel
theorem dX1_trySelect_90 : decode cX1_trySelect 90 = .ok (.getfield 21, 3) := by decide +kernel
theorem dX1_trySelect_93 : decode cX1_trySelect 93 = .ok (.iconst 1, 1) := by decide +kernel
theorem dX1_trySelect_94 : decode cX1_trySelect 94 = .ok (.invokevirtual 146, 3) := by decide +kernel
theorem dX1_trySelect_97 : decode cX1_trySelect 97 = .ok (.ifCond .ne 5, 3) := by decide +kernel
theorem dX1_trySelect_100 : decode cX1_trySelect 100 = .ok (.iconst 0, 1) := by decide +kernel
theorem dX1_trySelect_101 : decode cX1_trySelect 101 = .ok (.ireturn, 1) := by decide +kernel
theorem dX1_trySelect_102 : decode cX1_trySelect 102 = .ok (.iload_n 2, 1) := by decide +kernel
theorem dX1_trySelect_103 : decode cX1_trySelect 103 = .ok (.ifCond .ne 19, 3) := by decide +kernel
theorem dX1_trySelect_106 : decode cX1_trySelect 106 = .ok (.aload_n 0, 1) := by decide +kernel
theorem dX1_trySelect_107 : decode cX1_trySelect 107 = .ok (.getfield 21, 3) := by decide +kernel
theorem dX1_trySelect_110 : decode cX1_trySelect 110 = .ok (.getfield 117, 3) := by decide +kernel
theorem dX1_trySelect_113 : decode cX1_trySelect 113 = .ok (.bipush 6, 2) := by decide +kernel
theorem dX1_trySelect_115 : decode cX1_trySelect 115 = .ok (.dup2, 1) := by decide +kernel
theorem dX1_trySelect_116 : decode cX1_trySelect 116 = .ok (.iaload, 1) := by decide +kernel
theorem dX1_trySelect_117 : decode cX1_trySelect 117 = .ok (.iconst 1, 1) := by decide +kernel
theorem dX1_trySelect_118 : decode cX1_trySelect 118 = .ok (.iadd, 1) := by decide +kernel
theorem dX1_trySelect_119 : decode cX1_trySelect 119 = .ok (.iastore, 1) := by decide +kernel
theorem dX1_trySelect_120 : decode cX1_trySelect 120 = .ok (.iconst 4, 1) := by decide +kernel
theorem dX1_trySelect_121 : decode cX1_trySelect 121 = .ok (.ireturn, 1) := by decide +kernel
theorem dX1_trySelect_122 : decode cX1_trySelect 122 = .ok (.aload_n 0, 1) := by decide +kernel
theorem dX1_trySelect_123 : decode cX1_trySelect 123 = .ok (.getfield 21, 3) := by decide +kernel
theorem dX1_trySelect_126 : decode cX1_trySelect 126 = .ok (.aload_n 0, 1) := by decide +kernel
theorem dX1_trySelect_127 : decode cX1_trySelect 127 = .ok (.getfield 21, 3) := by decide +kernel
theorem dX1_trySelect_130 : decode cX1_trySelect 130 = .ok (.getfield 162, 3) := by decide +kernel
theorem dX1_trySelect_133 : decode cX1_trySelect 133 = .ok (.getfield 169, 3) := by decide +kernel
theorem dX1_trySelect_136 : decode cX1_trySelect 136 = .ok (.iload_n 1, 1) := by decide +kernel
theorem dX1_trySelect_137 : decode cX1_trySelect 137 = .ok (.iaload, 1) := by decide +kernel
theorem dX1_trySelect_138 : decode cX1_trySelect 138 = .ok (.invokevirtual 146, 3) := by decide +kernel
theorem dX1_trySelect_141 : decode cX1_trySelect 141 = .ok (.ifCond .ne 9, 3) := by decide +kernel
theorem dX1_trySelect_144 : decode cX1_trySelect 144 = .ok (.aload_n 0, 1) := by decide +kernel
theorem dX1_trySelect_145 : decode cX1_trySelect 145 = .ok (.invokevirtual 172, 3) := by decide +kernel
theorem dX1_trySelect_148 : decode cX1_trySelect 148 = .ok (.iconst 0, 1) := by decide +kernel
theorem dX1_trySelect_149 : decode cX1_trySelect 149 = .ok (.ireturn, 1) := by decide +kernel
theorem dX1_trySelect_150 : decode cX1_trySelect 150 = .ok (.aload_n 0, 1) := by decide +kernel
theorem dX1_trySelect_151 : decode cX1_trySelect 151 = .ok (.getfield 21, 3) := by decide +kernel
theorem dX1_trySelect_154 : decode cX1_trySelect 154 = .ok (.aload_n 0, 1) := by decide +kernel
theorem dX1_trySelect_155 : decode cX1_trySelect 155 = .ok (.getfield 15, 3) := by decide +kernel
theorem dX1_trySelect_158 : decode cX1_trySelect 158 = .ok (.invokevirtual 126, 3) := by decide +kernel
theorem dX1_trySelect_161 : decode cX1_trySelect 161 = .ok (.aload_n 0, 1) := by decide +kernel
theorem dX1_trySelect_162 : decode cX1_trySelect 162 = .ok (.getfield 21, 3) := by decide +kernel
theorem dX1_trySelect_165 : decode cX1_trySelect 165 = .ok (.getfield 64, 3) := by decide +kernel
theorem dX1_trySelect_168 : decode cX1_trySelect 168 = .ok (.astore_n 3, 1) := by decide +kernel
theorem dX1_trySelect_169 : decode cX1_trySelect 169 = .ok (.aload_n 3, 1) := by decide +kernel
theorem dX1_trySelect_170 : decode cX1_trySelect 170 = .ok (.getfield 190, 3) := by decide +kernel
theorem dX1_trySelect_173 : decode cX1_trySelect 173 = .ok (.aload_n 0, 1) := by decide +kernel
theorem dX1_trySelect_174 : decode cX1_trySelect 174 = .ok (.getfield 15, 3) := by decide +kernel
theorem dX1_trySelect_177 : decode cX1_trySelect 177 = .ok (.iaload, 1) := by decide +kernel
theorem dX1_trySelect_178 : decode cX1_trySelect 178 = .ok (.aload_n 3, 1) := by decide +kernel
theorem dX1_trySelect_179 : decode cX1_trySelect 179 = .ok (.getfield 193, 3) := by decide +kernel
theorem dX1_trySelect_182 : decode cX1_trySelect 182 = .ok (.aload_n 0, 1) := by decide +kernel
theorem dX1_trySelect_183 : decode cX1_trySelect 183 = .ok (.getfield 15, 3) := by decide +kernel
theorem dX1_trySelect_186 : decode cX1_trySelect 186 = .ok (.iaload, 1) := by decide +kernel
theorem dX1_trySelect_187 : decode cX1_trySelect 187 = .ok (.if_icmp .ne 18, 3) := by decide +kernel
theorem dX1_trySelect_190 : decode cX1_trySelect 190 = .ok (.aload_n 0, 1) := by decide +kernel
theorem dX1_trySelect_191 : decode cX1_trySelect 191 = .ok (.getfield 21, 3) := by decide +kernel
theorem dX1_trySelect_194 : decode cX1_trySelect 194 = .ok (.aload_n 0, 1) := by decide +kernel
theorem dX1_trySelect_195 : decode cX1_trySelect 195 = .ok (.getfield 15, 3) := by decide +kernel
theorem dX1_trySelect_198 : decode cX1_trySelect 198 = .ok (.iload_n 1, 1) := by decide +kernel
theorem dX1_trySelect_199 : decode cX1_trySelect 199 = .ok (.invokevirtual 196, 3) := by decide +kernel
theorem dX1_trySelect_202 : decode cX1_trySelect 202 = .ok (.goto 16, 3) := by decide +kernel
theorem dX1_trySelect_205 : decode cX1_trySelect 205 = .ok (.aload_n 0, 1) := by decide +kernel
theorem dX1_trySelect_206 : decode cX1_trySelect 206 = .ok (.getfield 21, 3) := by decide +kernel
theorem dX1_trySelect_209 : decode cX1_trySelect 209 = .ok (.getfield 117, 3) := by decide +kernel
theorem dX1_trySelect_212 : decode cX1_trySelect 212 = .ok (.iconst 4, 1) := by decide +kernel
theorem dX1_trySelect_213 : decode cX1_trySelect 213 = .ok (.dup2, 1) := by decide +kernel
theorem dX1_trySelect_214 : decode cX1_trySelect 214 = .ok (.iaload, 1) := by decide +kernel
theorem dX1_trySelect_215 : decode cX1_trySelect 215 = .ok (.iconst 1, 1) := by decide +kernel
theorem dX1_trySelect_216 : decode cX1_trySelect 216 = .ok (.iadd, 1) := by decide +kernel
theorem dX1_trySelect_217 : decode cX1_trySelect 217 = .ok (.iastore, 1) := by decide +kernel
theorem dX1_trySelect_218 : decode cX1_trySelect 218 = .ok (.aload_n 0, 1) := by decide +kernel
theorem dX1_trySelect_219 : decode cX1_trySelect 219 = .ok (.getfield 21, 3) := by decide +kernel
theorem dX1_trySelect_222 : decode cX1_trySelect 222 = .ok (.iconst 1, 1) := by decide +kernel
theorem dX1_trySelect_223 : decode cX1_trySelect 223 = .ok (.invokevirtual 146, 3) := by decide +kernel
theorem dX1_trySelect_226 : decode cX1_trySelect 226 = .ok (.ifCond .ne 5, 3) := by decide +kernel
theorem dX1_trySelect_229 : decode cX1_trySelect 229 = .ok (.iconst 0, 1) := by decide +kernel
theorem dX1_trySelect_230 : decode cX1_trySelect 230 = .ok (.ireturn, 1) := by decide +kernel
theorem dX1_trySelect_231 : decode cX1_trySelect 231 = .ok (.aload_n 0, 1) := by decide +kernel
theorem dX1_trySelect_232 : decode cX1_trySelect 232 = .ok (.getfield 21, 3) := by decide +kernel
theorem dX1_trySelect_235 : decode cX1_trySelect 235 = .ok (.getfield 79, 3) := by decide +kernel
theorem dX1_trySelect_238 : decode cX1_trySelect 238 = .ok (.iconst 1, 1) := by decide +kernel
theorem dX1_trySelect_239 : decode cX1_trySelect 239 = .ok (.aload_n 0, 1) := by decide +kernel
theorem dX1_trySelect_240 : decode cX1_trySelect 240 = .ok (.getfield 15, 3) := by decide +kernel
theorem dX1_trySelect_243 : decode cX1_trySelect 243 = .ok (.invokevirtual 184, 3) := by decide +kernel
theorem dX1_trySelect_246 : decode cX1_trySelect 246 = .ok (.aload_n 3, 1) := by decide +kernel
theorem dX1_trySelect_247 : decode cX1_trySelect 247 = .ok (.getfield 190, 3) := by decide +kernel
theorem dX1_trySelect_250 : decode cX1_trySelect 250 = .ok (.aload_n 0, 1) := by decide +kernel
theorem dX1_trySelect_251 : decode cX1_trySelect 251 = .ok (.getfield 15, 3) := by decide +kernel
theorem dX1_trySelect_254 : decode cX1_trySelect 254 = .ok (.dup2, 1) := by decide +kernel
theorem dX1_trySelect_255 : decode cX1_trySelect 255 = .ok (.iaload, 1) := by decide +kernel
theorem dX1_trySelect_256 : decode cX1_trySelect 256 = .ok (.iconst 1, 1) := by decide +kernel
theorem dX1_trySelect_257 : decode cX1_trySelect 257 = .ok (.ixor, 1) := by decide +kernel
theorem dX1_trySelect_258 : decode cX1_trySelect 258 = .ok (.iastore, 1) := by decide +kernel
theorem dX1_trySelect_259 : decode cX1_trySelect 259 = .ok (.aload_n 0, 1) := by decide +kernel
theorem dX1_trySelect_260 : decode cX1_trySelect 260 = .ok (.getfield 21, 3) := by decide +kernel
theorem dX1_trySelect_263 : decode cX1_trySelect 263 = .ok (.getfield 117, 3) := by decide +kernel
theorem dX1_trySelect_266 : decode cX1_trySelect 266 = .ok (.iconst 5, 1) := by decide +kernel
theorem dX1_trySelect_267 : decode cX1_trySelect 267 = .ok (.dup2, 1) := by decide +kernel
theorem dX1_trySelect_268 : decode cX1_trySelect 268 = .ok (.iaload, 1) := by decide +kernel
theorem dX1_trySelect_269 : decode cX1_trySelect 269 = .ok (.iconst 1, 1) := by decide +kernel
theorem dX1_trySelect_270 : decode cX1_trySelect 270 = .ok (.iadd, 1) := by decide +kernel
theorem dX1_trySelect_271 : decode cX1_trySelect 271 = .ok (.iastore, 1) := by decide +kernel
theorem dX1_trySelect_272 : decode cX1_trySelect 272 = .ok (.iconst 2, 1) := by decide +kernel
theorem dX1_trySelect_273 : decode cX1_trySelect 273 = .ok (.ireturn, 1) := by decide +kernel
theorem dX2_init_0 : decode cX2_init 0 = .ok (.aload_n 0, 1) := by decide +kernel
theorem dX2_init_1 : decode cX2_init 1 = .ok (.invokespecial 3, 3) := by decide +kernel
theorem dX2_init_4 : decode cX2_init 4 = .ok (.aload_n 0, 1) := by decide +kernel
theorem dX2_init_5 : decode cX2_init 5 = .ok (.new 9, 3) := by decide +kernel
theorem dX2_init_8 : decode cX2_init 8 = .ok (.dup, 1) := by decide +kernel
theorem dX2_init_9 : decode cX2_init 9 = .ok (.invokespecial 11, 3) := by decide +kernel
theorem dX2_init_12 : decode cX2_init 12 = .ok (.putfield 12, 3) := by decide +kernel
theorem dX2_init_15 : decode cX2_init 15 = .ok (.aload_n 0, 1) := by decide +kernel
theorem dX2_init_16 : decode cX2_init 16 = .ok (.new 18, 3) := by decide +kernel
theorem dX2_init_19 : decode cX2_init 19 = .ok (.dup, 1) := by decide +kernel
theorem dX2_init_20 : decode cX2_init 20 = .ok (.invokespecial 20, 3) := by decide +kernel
theorem dX2_init_23 : decode cX2_init 23 = .ok (.putfield 21, 3) := by decide +kernel
theorem dX2_init_26 : decode cX2_init 26 = .ok (.aload_n 0, 1) := by decide +kernel
theorem dX2_init_27 : decode cX2_init 27 = .ok (.new 25, 3) := by decide +kernel
theorem dX2_init_30 : decode cX2_init 30 = .ok (.dup, 1) := by decide +kernel
theorem dX2_init_31 : decode cX2_init 31 = .ok (.invokespecial 27, 3) := by decide +kernel
theorem dX2_init_34 : decode cX2_init 34 = .ok (.putfield 28, 3) := by decide +kernel
theorem dX2_init_37 : decode cX2_init 37 = .ok (.aload_n 0, 1) := by decide +kernel
theorem dX2_init_38 : decode cX2_init 38 = .ok (.new 32, 3) := by decide +kernel
theorem dX2_init_41 : decode cX2_init 41 = .ok (.dup, 1) := by decide +kernel
theorem dX2_init_42 : decode cX2_init 42 = .ok (.invokespecial 34, 3) := by decide +kernel
theorem dX2_init_45 : decode cX2_init 45 = .ok (.putfield 35, 3) := by decide +kernel
theorem dX2_init_48 : decode cX2_init 48 = .ok (.aload_n 0, 1) := by decide +kernel
theorem dX2_init_49 : decode cX2_init 49 = .ok (.bipush 6, 2) := by decide +kernel
theorem dX2_init_51 : decode cX2_init 51 = .ok (.newarray .int, 2) := by decide +kernel
theorem dX2_init_53 : decode cX2_init 53 = .ok (.putfield 39, 3) := by decide +kernel
theorem dX2_init_56 : decode cX2_init 56 = .ok (.aload_n 0, 1) := by decide +kernel
theorem dX2_init_57 : decode cX2_init 57 = .ok (.bipush 13, 2) := by decide +kernel
theorem dX2_init_59 : decode cX2_init 59 = .ok (.newarray .int, 2) := by decide +kernel
theorem dX2_init_61 : decode cX2_init 61 = .ok (.putfield 43, 3) := by decide +kernel
theorem dX2_init_64 : decode cX2_init 64 = .ok (.aload_n 0, 1) := by decide +kernel
theorem dX2_init_65 : decode cX2_init 65 = .ok (.bipush 16, 2) := by decide +kernel
theorem dX2_init_67 : decode cX2_init 67 = .ok (.newarray .int, 2) := by decide +kernel
theorem dX2_init_69 : decode cX2_init 69 = .ok (.putfield 46, 3) := by decide +kernel
theorem dX2_init_72 : decode cX2_init 72 = .ok (.aload_n 0, 1) := by decide +kernel
theorem dX2_init_73 : decode cX2_init 73 = .ok (.iconst 0, 1) := by decide +kernel
theorem dX2_init_74 : decode cX2_init 74 = .ok (.putfield 49, 3) := by decide +kernel
theorem dX2_init_77 : decode cX2_init 77 = .ok (.aload_n 0, 1) := by decide +kernel
theorem dX2_init_78 : decode cX2_init 78 = .ok (.iconst 0, 1) := by decide +kernel
theorem dX2_init_79 : decode cX2_init 79 = .ok (.putfield 53, 3) := by decide +kernel
theorem dX2_init_82 : decode cX2_init 82 = .ok (.aload_n 0, 1) := by decide +kernel
theorem dX2_init_83 : decode cX2_init 83 = .ok (.iconst 0, 1) := by decide +kernel
theorem dX2_init_84 : decode cX2_init 84 = .ok (.putfield 56, 3) := by decide +kernel
theorem dX2_init_87 : decode cX2_init 87 = .ok (.aload_n 0, 1) := by decide +kernel
theorem dX2_init_88 : decode cX2_init 88 = .ok (.iconst 0, 1) := by decide +kernel
theorem dX2_init_89 : decode cX2_init 89 = .ok (.putfield 59, 3) := by decide +kernel
theorem dX2_init_92 : decode cX2_init 92 = .ok (.aload_n 0, 1) := by decide +kernel
theorem dX2_init_93 : decode cX2_init 93 = .ok (.iconst (-1), 1) := by decide +kernel
theorem dX2_init_94 : decode cX2_init 94 = .ok (.putfield 62, 3) := by decide +kernel
theorem dX2_init_97 : decode cX2_init 97 = .ok (.aload_n 0, 1) := by decide +kernel
theorem dX2_init_98 : decode cX2_init 98 = .ok (.iconst (-1), 1) := by decide +kernel
theorem dX2_init_99 : decode cX2_init 99 = .ok (.putfield 65, 3) := by decide +kernel
theorem dX2_init_102 : decode cX2_init 102 = .ok (.aload_n 0, 1) := by decide +kernel
theorem dX2_init_103 : decode cX2_init 103 = .ok (.iconst (-1), 1) := by decide +kernel
theorem dX2_init_104 : decode cX2_init 104 = .ok (.putfield 68, 3) := by decide +kernel
theorem dX2_init_107 : decode cX2_init 107 = .ok (.aload_n 0, 1) := by decide +kernel
theorem dX2_init_108 : decode cX2_init 108 = .ok (.iconst 0, 1) := by decide +kernel
theorem dX2_init_109 : decode cX2_init 109 = .ok (.putfield 71, 3) := by decide +kernel
theorem dX2_init_112 : decode cX2_init 112 = .ok (.aload_n 0, 1) := by decide +kernel
theorem dX2_init_113 : decode cX2_init 113 = .ok (.aload_n 1, 1) := by decide +kernel
theorem dX2_init_114 : decode cX2_init 114 = .ok (.putfield 74, 3) := by decide +kernel
theorem dX2_init_117 : decode cX2_init 117 = .ok (.return_, 1) := by decide +kernel
theorem dX2_begin_0 : decode cX2_begin 0 = .ok (.aload_n 0, 1) := by decide +kernel
theorem dX2_begin_1 : decode cX2_begin 1 = .ok (.getfield 12, 3) := by decide +kernel
theorem dX2_begin_4 : decode cX2_begin 4 = .ok (.iconst 0, 1) := by decide +kernel
theorem dX2_begin_5 : decode cX2_begin 5 = .ok (.putfield 78, 3) := by decide +kernel
theorem dX2_begin_8 : decode cX2_begin 8 = .ok (.aload_n 0, 1) := by decide +kernel
theorem dX2_begin_9 : decode cX2_begin 9 = .ok (.getfield 21, 3) := by decide +kernel
theorem dX2_begin_12 : decode cX2_begin 12 = .ok (.invokevirtual 81, 3) := by decide +kernel
theorem dX2_begin_15 : decode cX2_begin 15 = .ok (.aload_n 0, 1) := by decide +kernel
theorem dX2_begin_16 : decode cX2_begin 16 = .ok (.getfield 28, 3) := by decide +kernel
theorem dX2_begin_19 : decode cX2_begin 19 = .ok (.invokevirtual 84, 3) := by decide +kernel
theorem dX2_begin_22 : decode cX2_begin 22 = .ok (.aload_n 0, 1) := by decide +kernel
theorem dX2_begin_23 : decode cX2_begin 23 = .ok (.getfield 35, 3) := by decide +kernel
theorem dX2_begin_26 : decode cX2_begin 26 = .ok (.invokevirtual 85, 3) := by decide +kernel
theorem dX2_begin_29 : decode cX2_begin 29 = .ok (.iconst 0, 1) := by decide +kernel
theorem dX2_begin_30 : decode cX2_begin 30 = .ok (.istore_n 2, 1) := by decide +kernel
theorem dX2_begin_31 : decode cX2_begin 31 = .ok (.iload_n 2, 1) := by decide +kernel
theorem dX2_begin_32 : decode cX2_begin 32 = .ok (.bipush 13, 2) := by decide +kernel
theorem dX2_begin_34 : decode cX2_begin 34 = .ok (.if_icmp .ge 16, 3) := by decide +kernel
theorem dX2_begin_37 : decode cX2_begin 37 = .ok (.aload_n 0, 1) := by decide +kernel
theorem dX2_begin_38 : decode cX2_begin 38 = .ok (.getfield 43, 3) := by decide +kernel
theorem dX2_begin_41 : decode cX2_begin 41 = .ok (.iload_n 2, 1) := by decide +kernel
theorem dX2_begin_42 : decode cX2_begin 42 = .ok (.iconst 0, 1) := by decide +kernel
theorem dX2_begin_43 : decode cX2_begin 43 = .ok (.iastore, 1) := by decide +kernel
theorem dX2_begin_44 : decode cX2_begin 44 = .ok (.iinc 2 1, 3) := by decide +kernel
theorem dX2_begin_47 : decode cX2_begin 47 = .ok (.goto (-16), 3) := by decide +kernel
theorem dX2_begin_50 : decode cX2_begin 50 = .ok (.aload_n 1, 1) := by decide +kernel
theorem dX2_begin_51 : decode cX2_begin 51 = .ok (.getfield 86, 3) := by decide +kernel
theorem dX2_begin_54 : decode cX2_begin 54 = .ok (.iconst 0, 1) := by decide +kernel
theorem dX2_begin_55 : decode cX2_begin 55 = .ok (.aload_n 0, 1) := by decide +kernel
theorem dX2_begin_56 : decode cX2_begin 56 = .ok (.getfield 39, 3) := by decide +kernel
theorem dX2_begin_59 : decode cX2_begin 59 = .ok (.iconst 0, 1) := by decide +kernel
theorem dX2_begin_60 : decode cX2_begin 60 = .ok (.bipush 6, 2) := by decide +kernel
theorem dX2_begin_62 : decode cX2_begin 62 = .ok (.invokestatic 89, 3) := by decide +kernel
theorem dX2_begin_65 : decode cX2_begin 65 = .ok (.aload_n 1, 1) := by decide +kernel
theorem dX2_begin_66 : decode cX2_begin 66 = .ok (.getfield 95, 3) := by decide +kernel
theorem dX2_begin_69 : decode cX2_begin 69 = .ok (.iconst 0, 1) := by decide +kernel
theorem dX2_begin_70 : decode cX2_begin 70 = .ok (.aload_n 0, 1) := by decide +kernel
theorem dX2_begin_71 : decode cX2_begin 71 = .ok (.getfield 46, 3) := by decide +kernel
theorem dX2_begin_74 : decode cX2_begin 74 = .ok (.iconst 0, 1) := by decide +kernel
theorem dX2_begin_75 : decode cX2_begin 75 = .ok (.bipush 16, 2) := by decide +kernel
theorem dX2_begin_77 : decode cX2_begin 77 = .ok (.invokestatic 89, 3) := by decide +kernel
theorem dX2_begin_80 : decode cX2_begin 80 = .ok (.aload_n 0, 1) := by decide +kernel
theorem dX2_begin_81 : decode cX2_begin 81 = .ok (.aload_n 1, 1) := by decide +kernel
theorem dX2_begin_82 : decode cX2_begin 82 = .ok (.getfield 96, 3) := by decide +kernel
theorem dX2_begin_85 : decode cX2_begin 85 = .ok (.putfield 49, 3) := by decide +kernel
theorem dX2_begin_88 : decode cX2_begin 88 = .ok (.aload_n 0, 1) := by decide +kernel
theorem dX2_begin_89 : decode cX2_begin 89 = .ok (.iconst 0, 1) := by decide +kernel
theorem dX2_begin_90 : decode cX2_begin 90 = .ok (.putfield 53, 3) := by decide +kernel
theorem dX2_begin_93 : decode cX2_begin 93 = .ok (.aload_n 0, 1) := by decide +kernel
theorem dX2_begin_94 : decode cX2_begin 94 = .ok (.iconst 0, 1) := by decide +kernel
theorem dX2_begin_95 : decode cX2_begin 95 = .ok (.putfield 56, 3) := by decide +kernel
theorem dX2_begin_98 : decode cX2_begin 98 = .ok (.aload_n 0, 1) := by decide +kernel
theorem dX2_begin_99 : decode cX2_begin 99 = .ok (.aload_n 1, 1) := by decide +kernel
theorem dX2_begin_100 : decode cX2_begin 100 = .ok (.getfield 97, 3) := by decide +kernel
theorem dX2_begin_103 : decode cX2_begin 103 = .ok (.putfield 59, 3) := by decide +kernel
theorem dX2_begin_106 : decode cX2_begin 106 = .ok (.aload_n 0, 1) := by decide +kernel
theorem dX2_begin_107 : decode cX2_begin 107 = .ok (.iconst (-1), 1) := by decide +kernel
theorem dX2_begin_108 : decode cX2_begin 108 = .ok (.putfield 62, 3) := by decide +kernel
theorem dX2_begin_111 : decode cX2_begin 111 = .ok (.aload_n 0, 1) := by decide +kernel
theorem dX2_begin_112 : decode cX2_begin 112 = .ok (.iconst (-1), 1) := by decide +kernel
theorem dX2_begin_113 : decode cX2_begin 113 = .ok (.putfield 65, 3) := by decide +kernel
theorem dX2_begin_116 : decode cX2_begin 116 = .ok (.aload_n 0, 1) := by decide +kernel
theorem dX2_begin_117 : decode cX2_begin 117 = .ok (.iconst (-1), 1) := by decide +kernel
theorem dX2_begin_118 : decode cX2_begin 118 = .ok (.putfield 68, 3) := by decide +kernel
theorem dX2_begin_121 : decode cX2_begin 121 = .ok (.aload_n 0, 1) := by decide +kernel
theorem dX2_begin_122 : decode cX2_begin 122 = .ok (.iconst 0, 1) := by decide +kernel
theorem dX2_begin_123 : decode cX2_begin 123 = .ok (.putfield 71, 3) := by decide +kernel
theorem dX2_begin_126 : decode cX2_begin 126 = .ok (.return_, 1) := by decide +kernel
theorem dX2_copyFrom_0 : decode cX2_copyFrom 0 = .ok (.aload_n 0, 1) := by decide +kernel
theorem dX2_copyFrom_1 : decode cX2_copyFrom 1 = .ok (.getfield 12, 3) := by decide +kernel
theorem dX2_copyFrom_4 : decode cX2_copyFrom 4 = .ok (.aload_n 1, 1) := by decide +kernel
theorem dX2_copyFrom_5 : decode cX2_copyFrom 5 = .ok (.getfield 12, 3) := by decide +kernel
theorem dX2_copyFrom_8 : decode cX2_copyFrom 8 = .ok (.invokevirtual 98, 3) := by decide +kernel
theorem dX2_copyFrom_11 : decode cX2_copyFrom 11 = .ok (.aload_n 0, 1) := by decide +kernel
theorem dX2_copyFrom_12 : decode cX2_copyFrom 12 = .ok (.getfield 21, 3) := by decide +kernel
theorem dX2_copyFrom_15 : decode cX2_copyFrom 15 = .ok (.aload_n 1, 1) := by decide +kernel
theorem dX2_copyFrom_16 : decode cX2_copyFrom 16 = .ok (.getfield 21, 3) := by decide +kernel
theorem dX2_copyFrom_19 : decode cX2_copyFrom 19 = .ok (.invokevirtual 102, 3) := by decide +kernel
theorem dX2_copyFrom_22 : decode cX2_copyFrom 22 = .ok (.aload_n 0, 1) := by decide +kernel
theorem dX2_copyFrom_23 : decode cX2_copyFrom 23 = .ok (.getfield 28, 3) := by decide +kernel
theorem dX2_copyFrom_26 : decode cX2_copyFrom 26 = .ok (.aload_n 1, 1) := by decide +kernel
theorem dX2_copyFrom_27 : decode cX2_copyFrom 27 = .ok (.getfield 28, 3) := by decide +kernel
theorem dX2_copyFrom_30 : decode cX2_copyFrom 30 = .ok (.invokevirtual 105, 3) := by decide +kernel
theorem dX2_copyFrom_33 : decode cX2_copyFrom 33 = .ok (.aload_n 0, 1) := by decide +kernel
theorem dX2_copyFrom_34 : decode cX2_copyFrom 34 = .ok (.getfield 35, 3) := by decide +kernel
theorem dX2_copyFrom_37 : decode cX2_copyFrom 37 = .ok (.aload_n 1, 1) := by decide +kernel
theorem dX2_copyFrom_38 : decode cX2_copyFrom 38 = .ok (.getfield 35, 3) := by decide +kernel
theorem dX2_copyFrom_41 : decode cX2_copyFrom 41 = .ok (.invokevirtual 108, 3) := by decide +kernel
theorem dX2_copyFrom_44 : decode cX2_copyFrom 44 = .ok (.aload_n 1, 1) := by decide +kernel
theorem dX2_copyFrom_45 : decode cX2_copyFrom 45 = .ok (.getfield 39, 3) := by decide +kernel
theorem dX2_copyFrom_48 : decode cX2_copyFrom 48 = .ok (.iconst 0, 1) := by decide +kernel
theorem dX2_copyFrom_49 : decode cX2_copyFrom 49 = .ok (.aload_n 0, 1) := by decide +kernel
theorem dX2_copyFrom_50 : decode cX2_copyFrom 50 = .ok (.getfield 39, 3) := by decide +kernel
theorem dX2_copyFrom_53 : decode cX2_copyFrom 53 = .ok (.iconst 0, 1) := by decide +kernel
theorem dX2_copyFrom_54 : decode cX2_copyFrom 54 = .ok (.bipush 6, 2) := by decide +kernel
theorem dX2_copyFrom_56 : decode cX2_copyFrom 56 = .ok (.invokestatic 89, 3) := by decide +kernel
theorem dX2_copyFrom_59 : decode cX2_copyFrom 59 = .ok (.aload_n 1, 1) := by decide +kernel
theorem dX2_copyFrom_60 : decode cX2_copyFrom 60 = .ok (.getfield 43, 3) := by decide +kernel
theorem dX2_copyFrom_63 : decode cX2_copyFrom 63 = .ok (.iconst 0, 1) := by decide +kernel
theorem dX2_copyFrom_64 : decode cX2_copyFrom 64 = .ok (.aload_n 0, 1) := by decide +kernel
theorem dX2_copyFrom_65 : decode cX2_copyFrom 65 = .ok (.getfield 43, 3) := by decide +kernel
theorem dX2_copyFrom_68 : decode cX2_copyFrom 68 = .ok (.iconst 0, 1) := by decide +kernel
theorem dX2_copyFrom_69 : decode cX2_copyFrom 69 = .ok (.bipush 13, 2) := by decide +kernel
theorem dX2_copyFrom_71 : decode cX2_copyFrom 71 = .ok (.invokestatic 89, 3) := by decide +kernel
theorem dX2_copyFrom_74 : decode cX2_copyFrom 74 = .ok (.aload_n 1, 1) := by decide +kernel
theorem dX2_copyFrom_75 : decode cX2_copyFrom 75 = .ok (.getfield 46, 3) := by decide +kernel
theorem dX2_copyFrom_78 : decode cX2_copyFrom 78 = .ok (.iconst 0, 1) := by decide +kernel
theorem dX2_copyFrom_79 : decode cX2_copyFrom 79 = .ok (.aload_n 0, 1) := by decide +kernel
theorem dX2_copyFrom_80 : decode cX2_copyFrom 80 = .ok (.getfield 46, 3) := by decide +kernel
theorem dX2_copyFrom_83 : decode cX2_copyFrom 83 = .ok (.iconst 0, 1) := by decide +kernel
theorem dX2_copyFrom_84 : decode cX2_copyFrom 84 = .ok (.bipush 16, 2) := by decide +kernel
theorem dX2_copyFrom_86 : decode cX2_copyFrom 86 = .ok (.invokestatic 89, 3) := by decide +kernel
theorem dX2_copyFrom_89 : decode cX2_copyFrom 89 = .ok (.aload_n 0, 1) := by decide +kernel
theorem dX2_copyFrom_90 : decode cX2_copyFrom 90 = .ok (.aload_n 1, 1) := by decide +kernel
theorem dX2_copyFrom_91 : decode cX2_copyFrom 91 = .ok (.getfield 49, 3) := by decide +kernel
theorem dX2_copyFrom_94 : decode cX2_copyFrom 94 = .ok (.putfield 49, 3) := by decide +kernel
theorem dX2_copyFrom_97 : decode cX2_copyFrom 97 = .ok (.aload_n 0, 1) := by decide +kernel
theorem dX2_copyFrom_98 : decode cX2_copyFrom 98 = .ok (.aload_n 1, 1) := by decide +kernel
theorem dX2_copyFrom_99 : decode cX2_copyFrom 99 = .ok (.getfield 53, 3) := by decide +kernel
theorem dX2_copyFrom_102 : decode cX2_copyFrom 102 = .ok (.putfield 53, 3) := by decide +kernel
theorem dX2_copyFrom_105 : decode cX2_copyFrom 105 = .ok (.aload_n 0, 1) := by decide +kernel
theorem dX2_copyFrom_106 : decode cX2_copyFrom 106 = .ok (.aload_n 1, 1) := by decide +kernel
theorem dX2_copyFrom_107 : decode cX2_copyFrom 107 = .ok (.getfield 56, 3) := by decide +kernel
theorem dX2_copyFrom_110 : decode cX2_copyFrom 110 = .ok (.putfield 56, 3) := by decide +kernel
theorem dX2_copyFrom_113 : decode cX2_copyFrom 113 = .ok (.aload_n 0, 1) := by decide +kernel
theorem dX2_copyFrom_114 : decode cX2_copyFrom 114 = .ok (.aload_n 1, 1) := by decide +kernel
theorem dX2_copyFrom_115 : decode cX2_copyFrom 115 = .ok (.getfield 59, 3) := by decide +kernel
theorem dX2_copyFrom_118 : decode cX2_copyFrom 118 = .ok (.putfield 59, 3) := by decide +kernel
theorem dX2_copyFrom_121 : decode cX2_copyFrom 121 = .ok (.aload_n 0, 1) := by decide +kernel
theorem dX2_copyFrom_122 : decode cX2_copyFrom 122 = .ok (.aload_n 1, 1) := by decide +kernel
theorem dX2_copyFrom_123 : decode cX2_copyFrom 123 = .ok (.getfield 62, 3) := by decide +kernel
theorem dX2_copyFrom_126 : decode cX2_copyFrom 126 = .ok (.putfield 62, 3) := by decide +kernel
theorem dX2_copyFrom_129 : decode cX2_copyFrom 129 = .ok (.aload_n 0, 1) := by decide +kernel
theorem dX2_copyFrom_130 : decode cX2_copyFrom 130 = .ok (.aload_n 1, 1) := by decide +kernel
theorem dX2_copyFrom_131 : decode cX2_copyFrom 131 = .ok (.getfield 65, 3) := by decide +kernel
theorem dX2_copyFrom_134 : decode cX2_copyFrom 134 = .ok (.putfield 65, 3) := by decide +kernel
theorem dX2_copyFrom_137 : decode cX2_copyFrom 137 = .ok (.aload_n 0, 1) := by decide +kernel
theorem dX2_copyFrom_138 : decode cX2_copyFrom 138 = .ok (.aload_n 1, 1) := by decide +kernel
theorem dX2_copyFrom_139 : decode cX2_copyFrom 139 = .ok (.getfield 68, 3) := by decide +kernel
theorem dX2_copyFrom_142 : decode cX2_copyFrom 142 = .ok (.putfield 68, 3) := by decide +kernel
theorem dX2_copyFrom_145 : decode cX2_copyFrom 145 = .ok (.aload_n 0, 1) := by decide +kernel
theorem dX2_copyFrom_146 : decode cX2_copyFrom 146 = .ok (.aload_n 1, 1) := by decide +kernel
theorem dX2_copyFrom_147 : decode cX2_copyFrom 147 = .ok (.getfield 71, 3) := by decide +kernel
theorem dX2_copyFrom_150 : decode cX2_copyFrom 150 = .ok (.putfield 71, 3) := by decide +kernel
theorem dX2_copyFrom_153 : decode cX2_copyFrom 153 = .ok (.return_, 1) := by decide +kernel
theorem dX2_delivered_0 : decode cX2_delivered 0 = .ok (.aload_n 0, 1) := by decide +kernel
theorem dX2_delivered_1 : decode cX2_delivered 1 = .ok (.getfield 12, 3) := by decide +kernel
theorem dX2_delivered_4 : decode cX2_delivered 4 = .ok (.iconst 3, 1) := by decide +kernel
theorem dX2_delivered_5 : decode cX2_delivered 5 = .ok (.invokevirtual 111, 3) := by decide +kernel
theorem dX2_delivered_8 : decode cX2_delivered 8 = .ok (.ireturn, 1) := by decide +kernel
theorem dX2_sumOf_0 : decode cX2_sumOf 0 = .ok (.iconst 0, 1) := by decide +kernel
theorem dX2_sumOf_1 : decode cX2_sumOf 1 = .ok (.istore_n 2, 1) := by decide +kernel
theorem dX2_sumOf_2 : decode cX2_sumOf 2 = .ok (.iconst 0, 1) := by decide +kernel
theorem dX2_sumOf_3 : decode cX2_sumOf 3 = .ok (.istore_n 3, 1) := by decide +kernel
theorem dX2_sumOf_4 : decode cX2_sumOf 4 = .ok (.iload_n 3, 1) := by decide +kernel
theorem dX2_sumOf_5 : decode cX2_sumOf 5 = .ok (.aload_n 0, 1) := by decide +kernel
theorem dX2_sumOf_6 : decode cX2_sumOf 6 = .ok (.getfield 74, 3) := by decide +kernel
theorem dX2_sumOf_9 : decode cX2_sumOf 9 = .ok (.getfield 115, 3) := by decide +kernel
theorem dX2_sumOf_12 : decode cX2_sumOf 12 = .ok (.if_icmp .ge 15, 3) := by decide +kernel
theorem dX2_sumOf_15 : decode cX2_sumOf 15 = .ok (.iload_n 2, 1) := by decide +kernel
theorem dX2_sumOf_16 : decode cX2_sumOf 16 = .ok (.aload_n 1, 1) := by decide +kernel
theorem dX2_sumOf_17 : decode cX2_sumOf 17 = .ok (.iload_n 3, 1) := by decide +kernel
theorem dX2_sumOf_18 : decode cX2_sumOf 18 = .ok (.iaload, 1) := by decide +kernel
theorem dX2_sumOf_19 : decode cX2_sumOf 19 = .ok (.iadd, 1) := by decide +kernel
theorem dX2_sumOf_20 : decode cX2_sumOf 20 = .ok (.istore_n 2, 1) := by decide +kernel
theorem dX2_sumOf_21 : decode cX2_sumOf 21 = .ok (.iinc 3 1, 3) := by decide +kernel
theorem dX2_sumOf_24 : decode cX2_sumOf 24 = .ok (.goto (-20), 3) := by decide +kernel
theorem dX2_sumOf_27 : decode cX2_sumOf 27 = .ok (.iload_n 2, 1) := by decide +kernel
theorem dX2_sumOf_28 : decode cX2_sumOf 28 = .ok (.ireturn, 1) := by decide +kernel
theorem dX2_isOn_0 : decode cX2_isOn 0 = .ok (.aload_n 0, 1) := by decide +kernel
theorem dX2_isOn_1 : decode cX2_isOn 1 = .ok (.getfield 74, 3) := by decide +kernel
theorem dX2_isOn_4 : decode cX2_isOn 4 = .ok (.iload_n 1, 1) := by decide +kernel
theorem dX2_isOn_5 : decode cX2_isOn 5 = .ok (.invokevirtual 118, 3) := by decide +kernel
theorem dX2_isOn_8 : decode cX2_isOn 8 = .ok (.ifCond .eq 20, 3) := by decide +kernel
theorem dX2_isOn_11 : decode cX2_isOn 11 = .ok (.aload_n 0, 1) := by decide +kernel
theorem dX2_isOn_12 : decode cX2_isOn 12 = .ok (.getfield 28, 3) := by decide +kernel
theorem dX2_isOn_15 : decode cX2_isOn 15 = .ok (.getfield 122, 3) := by decide +kernel
theorem dX2_isOn_18 : decode cX2_isOn 18 = .ok (.iload_n 1, 1) := by decide +kernel
theorem dX2_isOn_19 : decode cX2_isOn 19 = .ok (.iaload, 1) := by decide +kernel
theorem dX2_isOn_20 : decode cX2_isOn 20 = .ok (.iconst 1, 1) := by decide +kernel
theorem dX2_isOn_21 : decode cX2_isOn 21 = .ok (.if_icmp .ne 7, 3) := by decide +kernel
theorem dX2_isOn_24 : decode cX2_isOn 24 = .ok (.iconst 1, 1) := by decide +kernel
theorem dX2_isOn_25 : decode cX2_isOn 25 = .ok (.goto 4, 3) := by decide +kernel
theorem dX2_isOn_28 : decode cX2_isOn 28 = .ok (.iconst 0, 1) := by decide +kernel
theorem dX2_isOn_29 : decode cX2_isOn 29 = .ok (.ireturn, 1) := by decide +kernel
theorem dX2_setLife_0 : decode cX2_setLife 0 = .ok (.aload_n 0, 1) := by decide +kernel
theorem dX2_setLife_1 : decode cX2_setLife 1 = .ok (.getfield 74, 3) := by decide +kernel
theorem dX2_setLife_4 : decode cX2_setLife 4 = .ok (.iload_n 1, 1) := by decide +kernel
theorem dX2_setLife_5 : decode cX2_setLife 5 = .ok (.invokevirtual 118, 3) := by decide +kernel
theorem dX2_setLife_8 : decode cX2_setLife 8 = .ok (.ifCond .ne 5, 3) := by decide +kernel
theorem dX2_setLife_11 : decode cX2_setLife 11 = .ok (.iconst 0, 1) := by decide +kernel
theorem dX2_setLife_12 : decode cX2_setLife 12 = .ok (.ireturn, 1) := by decide +kernel
theorem dX2_setLife_13 : decode cX2_setLife 13 = .ok (.aload_n 0, 1) := by decide +kernel
theorem dX2_setLife_14 : decode cX2_setLife 14 = .ok (.getfield 28, 3) := by decide +kernel
theorem dX2_setLife_17 : decode cX2_setLife 17 = .ok (.getfield 125, 3) := by decide +kernel
theorem dX2_setLife_20 : decode cX2_setLife 20 = .ok (.iload_n 1, 1) := by decide +kernel
theorem dX2_setLife_21 : decode cX2_setLife 21 = .ok (.iaload, 1) := by decide +kernel
theorem dX2_setLife_22 : decode cX2_setLife 22 = .ok (.istore_n 3, 1) := by decide +kernel
theorem dX2_setLife_23 : decode cX2_setLife 23 = .ok (.aload_n 0, 1) := by decide +kernel
theorem dX2_setLife_24 : decode cX2_setLife 24 = .ok (.getfield 28, 3) := by decide +kernel
theorem dX2_setLife_27 : decode cX2_setLife 27 = .ok (.getfield 125, 3) := by decide +kernel
theorem dX2_setLife_30 : decode cX2_setLife 30 = .ok (.iload_n 1, 1) := by decide +kernel
theorem dX2_setLife_31 : decode cX2_setLife 31 = .ok (.iload_n 2, 1) := by decide +kernel
theorem dX2_setLife_32 : decode cX2_setLife 32 = .ok (.iastore, 1) := by decide +kernel
theorem dX2_setLife_33 : decode cX2_setLife 33 = .ok (.iload_n 3, 1) := by decide +kernel
theorem dX2_setLife_34 : decode cX2_setLife 34 = .ok (.ireturn, 1) := by decide +kernel
theorem dX2_hasPlace_0 : decode cX2_hasPlace 0 = .ok (.iload_n 1, 1) := by decide +kernel
theorem dX2_hasPlace_1 : decode cX2_hasPlace 1 = .ok (.ifCond .lt 15, 3) := by decide +kernel
theorem dX2_hasPlace_4 : decode cX2_hasPlace 4 = .ok (.iload_n 1, 1) := by decide +kernel
theorem dX2_hasPlace_5 : decode cX2_hasPlace 5 = .ok (.aload_n 0, 1) := by decide +kernel
theorem dX2_hasPlace_6 : decode cX2_hasPlace 6 = .ok (.getfield 49, 3) := by decide +kernel
theorem dX2_hasPlace_9 : decode cX2_hasPlace 9 = .ok (.if_icmp .ge 7, 3) := by decide +kernel
theorem dX2_hasPlace_12 : decode cX2_hasPlace 12 = .ok (.iconst 1, 1) := by decide +kernel
theorem dX2_hasPlace_13 : decode cX2_hasPlace 13 = .ok (.goto 4, 3) := by decide +kernel
theorem dX2_hasPlace_16 : decode cX2_hasPlace 16 = .ok (.iconst 0, 1) := by decide +kernel
theorem dX2_hasPlace_17 : decode cX2_hasPlace 17 = .ok (.ireturn, 1) := by decide +kernel
theorem dX2_placesWith_0 : decode cX2_placesWith 0 = .ok (.iconst 0, 1) := by decide +kernel
theorem dX2_placesWith_1 : decode cX2_placesWith 1 = .ok (.istore_n 2, 1) := by decide +kernel
theorem dX2_placesWith_2 : decode cX2_placesWith 2 = .ok (.iconst 0, 1) := by decide +kernel
theorem dX2_placesWith_3 : decode cX2_placesWith 3 = .ok (.istore_n 3, 1) := by decide +kernel
theorem dX2_placesWith_4 : decode cX2_placesWith 4 = .ok (.iload_n 3, 1) := by decide +kernel
theorem dX2_placesWith_5 : decode cX2_placesWith 5 = .ok (.aload_n 0, 1) := by decide +kernel
theorem dX2_placesWith_6 : decode cX2_placesWith 6 = .ok (.getfield 49, 3) := by decide +kernel
theorem dX2_placesWith_9 : decode cX2_placesWith 9 = .ok (.if_icmp .ge 22, 3) := by decide +kernel
theorem dX2_placesWith_12 : decode cX2_placesWith 12 = .ok (.aload_n 0, 1) := by decide +kernel
theorem dX2_placesWith_13 : decode cX2_placesWith 13 = .ok (.getfield 46, 3) := by decide +kernel
theorem dX2_placesWith_16 : decode cX2_placesWith 16 = .ok (.iload_n 3, 1) := by decide +kernel
theorem dX2_placesWith_17 : decode cX2_placesWith 17 = .ok (.iaload, 1) := by decide +kernel
theorem dX2_placesWith_18 : decode cX2_placesWith 18 = .ok (.iload_n 1, 1) := by decide +kernel
theorem dX2_placesWith_19 : decode cX2_placesWith 19 = .ok (.if_icmp .ne 6, 3) := by decide +kernel
theorem dX2_placesWith_22 : decode cX2_placesWith 22 = .ok (.iinc 2 1, 3) := by decide +kernel
theorem dX2_placesWith_25 : decode cX2_placesWith 25 = .ok (.iinc 3 1, 3) := by decide +kernel
theorem dX2_placesWith_28 : decode cX2_placesWith 28 = .ok (.goto (-24), 3) := by decide +kernel
theorem dX2_placesWith_31 : decode cX2_placesWith 31 = .ok (.iload_n 2, 1) := by decide +kernel
theorem dX2_placesWith_32 : decode cX2_placesWith 32 = .ok (.ireturn, 1) := by decide +kernel
theorem dX2_appendPlace_0 : decode cX2_appendPlace 0 = .ok (.aload_n 0, 1) := by decide +kernel
theorem dX2_appendPlace_1 : decode cX2_appendPlace 1 = .ok (.getfield 49, 3) := by decide +kernel
theorem dX2_appendPlace_4 : decode cX2_appendPlace 4 = .ok (.bipush 16, 2) := by decide +kernel
theorem dX2_appendPlace_6 : decode cX2_appendPlace 6 = .ok (.if_icmp .ge 23, 3) := by decide +kernel
theorem dX2_appendPlace_9 : decode cX2_appendPlace 9 = .ok (.aload_n 0, 1) := by decide +kernel
theorem dX2_appendPlace_10 : decode cX2_appendPlace 10 = .ok (.getfield 46, 3) := by decide +kernel
theorem dX2_appendPlace_13 : decode cX2_appendPlace 13 = .ok (.aload_n 0, 1) := by decide +kernel
theorem dX2_appendPlace_14 : decode cX2_appendPlace 14 = .ok (.getfield 49, 3) := by decide +kernel
theorem dX2_appendPlace_17 : decode cX2_appendPlace 17 = .ok (.iload_n 1, 1) := by decide +kernel
theorem dX2_appendPlace_18 : decode cX2_appendPlace 18 = .ok (.iastore, 1) := by decide +kernel
theorem dX2_appendPlace_19 : decode cX2_appendPlace 19 = .ok (.aload_n 0, 1) := by decide +kernel
theorem dX2_appendPlace_20 : decode cX2_appendPlace 20 = .ok (.dup, 1) := by decide +kernel
theorem dX2_appendPlace_21 : decode cX2_appendPlace 21 = .ok (.getfield 49, 3) := by decide +kernel
theorem dX2_appendPlace_24 : decode cX2_appendPlace 24 = .ok (.iconst 1, 1) := by decide +kernel
theorem dX2_appendPlace_25 : decode cX2_appendPlace 25 = .ok (.iadd, 1) := by decide +kernel
theorem dX2_appendPlace_26 : decode cX2_appendPlace 26 = .ok (.putfield 49, 3) := by decide +kernel
theorem dX2_appendPlace_29 : decode cX2_appendPlace 29 = .ok (.return_, 1) := by decide +kernel
theorem dX2_removePlace_0 : decode cX2_removePlace 0 = .ok (.aload_n 0, 1) := by decide +kernel
theorem dX2_removePlace_1 : decode cX2_removePlace 1 = .ok (.iload_n 1, 1) := by decide +kernel
theorem dX2_removePlace_2 : decode cX2_removePlace 2 = .ok (.invokevirtual 128, 3) := by decide +kernel
theorem dX2_removePlace_5 : decode cX2_removePlace 5 = .ok (.ifCond .eq 43, 3) := by decide +kernel
theorem dX2_removePlace_8 : decode cX2_removePlace 8 = .ok (.aload_n 0, 1) := by decide +kernel
theorem dX2_removePlace_9 : decode cX2_removePlace 9 = .ok (.dup, 1) := by decide +kernel
theorem dX2_removePlace_10 : decode cX2_removePlace 10 = .ok (.getfield 49, 3) := by decide +kernel
theorem dX2_removePlace_13 : decode cX2_removePlace 13 = .ok (.iconst 1, 1) := by decide +kernel
theorem dX2_removePlace_14 : decode cX2_removePlace 14 = .ok (.isub, 1) := by decide +kernel
theorem dX2_removePlace_15 : decode cX2_removePlace 15 = .ok (.putfield 49, 3) := by decide +kernel
theorem dX2_removePlace_18 : decode cX2_removePlace 18 = .ok (.iload_n 1, 1) := by decide +kernel
theorem dX2_removePlace_19 : decode cX2_removePlace 19 = .ok (.istore_n 2, 1) := by decide +kernel
theorem dX2_removePlace_20 : decode cX2_removePlace 20 = .ok (.iload_n 2, 1) := by decide +kernel
theorem dX2_removePlace_21 : decode cX2_removePlace 21 = .ok (.aload_n 0, 1) := by decide +kernel
theorem dX2_removePlace_22 : decode cX2_removePlace 22 = .ok (.getfield 49, 3) := by decide +kernel
theorem dX2_removePlace_25 : decode cX2_removePlace 25 = .ok (.if_icmp .ge 23, 3) := by decide +kernel
theorem dX2_removePlace_28 : decode cX2_removePlace 28 = .ok (.aload_n 0, 1) := by decide +kernel
theorem dX2_removePlace_29 : decode cX2_removePlace 29 = .ok (.getfield 46, 3) := by decide +kernel
theorem dX2_removePlace_32 : decode cX2_removePlace 32 = .ok (.iload_n 2, 1) := by decide +kernel
theorem dX2_removePlace_33 : decode cX2_removePlace 33 = .ok (.aload_n 0, 1) := by decide +kernel
theorem dX2_removePlace_34 : decode cX2_removePlace 34 = .ok (.getfield 46, 3) := by decide +kernel
theorem dX2_removePlace_37 : decode cX2_removePlace 37 = .ok (.iload_n 2, 1) := by decide +kernel
theorem dX2_removePlace_38 : decode cX2_removePlace 38 = .ok (.iconst 1, 1) := by decide +kernel
theorem dX2_removePlace_39 : decode cX2_removePlace 39 = .ok (.iadd, 1) := by decide +kernel
theorem dX2_removePlace_40 : decode cX2_removePlace 40 = .ok (.iaload, 1) := by decide +kernel
theorem dX2_removePlace_41 : decode cX2_removePlace 41 = .ok (.iastore, 1) := by decide +kernel
theorem dX2_removePlace_42 : decode cX2_removePlace 42 = .ok (.iinc 2 1, 3) := by decide +kernel
theorem dX2_removePlace_45 : decode cX2_removePlace 45 = .ok (.goto (-25), 3) := by decide +kernel
theorem dX2_removePlace_48 : decode cX2_removePlace 48 = .ok (.return_, 1) := by decide +kernel
theorem dX2_addMessage_0 : decode cX2_addMessage 0 = .ok (.aload_n 0, 1) := by decide +kernel
theorem dX2_addMessage_1 : decode cX2_addMessage 1 = .ok (.getfield 12, 3) := by decide +kernel
theorem dX2_addMessage_4 : decode cX2_addMessage 4 = .ok (.getfield 78, 3) := by decide +kernel
theorem dX2_addMessage_7 : decode cX2_addMessage 7 = .ok (.istore 4, 2) := by decide +kernel
theorem dX2_addMessage_9 : decode cX2_addMessage 9 = .ok (.iload 4, 2) := by decide +kernel
theorem dX2_addMessage_11 : decode cX2_addMessage 11 = .ok (.bipush 40, 2) := by decide +kernel
theorem dX2_addMessage_13 : decode cX2_addMessage 13 = .ok (.if_icmp .lt 5, 3) := by decide +kernel
theorem dX2_addMessage_16 : decode cX2_addMessage 16 = .ok (.iconst (-1), 1) := by decide +kernel
theorem dX2_addMessage_17 : decode cX2_addMessage 17 = .ok (.ireturn, 1) := by decide +kernel
theorem dX2_addMessage_18 : decode cX2_addMessage 18 = .ok (.aload_n 0, 1) := by decide +kernel
theorem dX2_addMessage_19 : decode cX2_addMessage 19 = .ok (.getfield 12, 3) := by decide +kernel
theorem dX2_addMessage_22 : decode cX2_addMessage 22 = .ok (.dup, 1) := by decide +kernel
theorem dX2_addMessage_23 : decode cX2_addMessage 23 = .ok (.getfield 78, 3) := by decide +kernel
theorem dX2_addMessage_26 : decode cX2_addMessage 26 = .ok (.iconst 1, 1) := by decide +kernel
theorem dX2_addMessage_27 : decode cX2_addMessage 27 = .ok (.iadd, 1) := by decide +kernel
theorem dX2_addMessage_28 : decode cX2_addMessage 28 = .ok (.putfield 78, 3) := by decide +kernel
theorem dX2_addMessage_31 : decode cX2_addMessage 31 = .ok (.aload_n 0, 1) := by decide +kernel
theorem dX2_addMessage_32 : decode cX2_addMessage 32 = .ok (.getfield 12, 3) := by decide +kernel
theorem dX2_addMessage_35 : decode cX2_addMessage 35 = .ok (.getfield 131, 3) := by decide +kernel
theorem dX2_addMessage_38 : decode cX2_addMessage 38 = .ok (.iload 4, 2) := by decide +kernel
theorem dX2_addMessage_40 : decode cX2_addMessage 40 = .ok (.iload_n 1, 1) := by decide +kernel
theorem dX2_addMessage_41 : decode cX2_addMessage 41 = .ok (.iastore, 1) := by decide +kernel
theorem dX2_addMessage_42 : decode cX2_addMessage 42 = .ok (.aload_n 0, 1) := by decide +kernel
theorem dX2_addMessage_43 : decode cX2_addMessage 43 = .ok (.getfield 12, 3) := by decide +kernel
theorem dX2_addMessage_46 : decode cX2_addMessage 46 = .ok (.getfield 134, 3) := by decide +kernel
theorem dX2_addMessage_49 : decode cX2_addMessage 49 = .ok (.iload 4, 2) := by decide +kernel
theorem dX2_addMessage_51 : decode cX2_addMessage 51 = .ok (.iload_n 2, 1) := by decide +kernel
theorem dX2_addMessage_52 : decode cX2_addMessage 52 = .ok (.iastore, 1) := by decide +kernel
theorem dX2_addMessage_53 : decode cX2_addMessage 53 = .ok (.aload_n 0, 1) := by decide +kernel
theorem dX2_addMessage_54 : decode cX2_addMessage 54 = .ok (.getfield 12, 3) := by decide +kernel
theorem dX2_addMessage_57 : decode cX2_addMessage 57 = .ok (.getfield 137, 3) := by decide +kernel
theorem dX2_addMessage_60 : decode cX2_addMessage 60 = .ok (.iload 4, 2) := by decide +kernel
theorem dX2_addMessage_62 : decode cX2_addMessage 62 = .ok (.iload_n 3, 1) := by decide +kernel
theorem dX2_addMessage_63 : decode cX2_addMessage 63 = .ok (.iastore, 1) := by decide +kernel
theorem dX2_addMessage_64 : decode cX2_addMessage 64 = .ok (.aload_n 0, 1) := by decide +kernel
theorem dX2_addMessage_65 : decode cX2_addMessage 65 = .ok (.getfield 12, 3) := by decide +kernel
theorem dX2_addMessage_68 : decode cX2_addMessage 68 = .ok (.getfield 140, 3) := by decide +kernel
theorem dX2_addMessage_71 : decode cX2_addMessage 71 = .ok (.iload 4, 2) := by decide +kernel
theorem dX2_addMessage_73 : decode cX2_addMessage 73 = .ok (.aload_n 0, 1) := by decide +kernel
theorem dX2_addMessage_74 : decode cX2_addMessage 74 = .ok (.getfield 53, 3) := by decide +kernel
theorem dX2_addMessage_77 : decode cX2_addMessage 77 = .ok (.iastore, 1) := by decide +kernel
theorem dX2_addMessage_78 : decode cX2_addMessage 78 = .ok (.aload_n 0, 1) := by decide +kernel
theorem dX2_addMessage_79 : decode cX2_addMessage 79 = .ok (.getfield 12, 3) := by decide +kernel
theorem dX2_addMessage_82 : decode cX2_addMessage 82 = .ok (.getfield 143, 3) := by decide +kernel
theorem dX2_addMessage_85 : decode cX2_addMessage 85 = .ok (.iload 4, 2) := by decide +kernel
theorem dX2_addMessage_87 : decode cX2_addMessage 87 = .ok (.iload_n 1, 1) := by decide +kernel
theorem dX2_addMessage_88 : decode cX2_addMessage 88 = .ok (.iconst (-1), 1) := by decide +kernel
theorem dX2_addMessage_89 : decode cX2_addMessage 89 = .ok (.if_icmp .ne 10, 3) := by decide +kernel
theorem dX2_addMessage_92 : decode cX2_addMessage 92 = .ok (.aload_n 0, 1) := by decide +kernel
theorem dX2_addMessage_93 : decode cX2_addMessage 93 = .ok (.getfield 53, 3) := by decide +kernel
theorem dX2_addMessage_96 : decode cX2_addMessage 96 = .ok (.goto 4, 3) := by decide +kernel
theorem dX2_addMessage_99 : decode cX2_addMessage 99 = .ok (.iconst (-1), 1) := by decide +kernel
theorem dX2_addMessage_100 : decode cX2_addMessage 100 = .ok (.iastore, 1) := by decide +kernel
theorem dX2_addMessage_101 : decode cX2_addMessage 101 = .ok (.aload_n 0, 1) := by decide +kernel
theorem dX2_addMessage_102 : decode cX2_addMessage 102 = .ok (.getfield 12, 3) := by decide +kernel
theorem dX2_addMessage_105 : decode cX2_addMessage 105 = .ok (.getfield 146, 3) := by decide +kernel
theorem dX2_addMessage_108 : decode cX2_addMessage 108 = .ok (.iload 4, 2) := by decide +kernel
theorem dX2_addMessage_110 : decode cX2_addMessage 110 = .ok (.iconst (-1), 1) := by decide +kernel
theorem dX2_addMessage_111 : decode cX2_addMessage 111 = .ok (.iastore, 1) := by decide +kernel
theorem dX2_addMessage_112 : decode cX2_addMessage 112 = .ok (.aload_n 0, 1) := by decide +kernel
theorem dX2_addMessage_113 : decode cX2_addMessage 113 = .ok (.getfield 12, 3) := by decide +kernel
theorem dX2_addMessage_116 : decode cX2_addMessage 116 = .ok (.getfield 149, 3) := by decide +kernel
theorem dX2_addMessage_119 : decode cX2_addMessage 119 = .ok (.iload 4, 2) := by decide +kernel
theorem dX2_addMessage_121 : decode cX2_addMessage 121 = .ok (.iconst (-1), 1) := by decide +kernel
theorem dX2_addMessage_122 : decode cX2_addMessage 122 = .ok (.iastore, 1) := by decide +kernel
theorem dX2_addMessage_123 : decode cX2_addMessage 123 = .ok (.iload_n 1, 1) := by decide +kernel
theorem dX2_addMessage_124 : decode cX2_addMessage 124 = .ok (.iconst (-1), 1) := by decide +kernel
theorem dX2_addMessage_125 : decode cX2_addMessage 125 = .ok (.if_icmp .ne 7, 3) := by decide +kernel
theorem dX2_addMessage_128 : decode cX2_addMessage 128 = .ok (.iconst 1, 1) := by decide +kernel
theorem dX2_addMessage_129 : decode cX2_addMessage 129 = .ok (.goto 4, 3) := by decide +kernel
theorem dX2_addMessage_132 : decode cX2_addMessage 132 = .ok (.iconst 0, 1) := by decide +kernel
theorem dX2_addMessage_133 : decode cX2_addMessage 133 = .ok (.istore 5, 2) := by decide +kernel
theorem dX2_addMessage_135 : decode cX2_addMessage 135 = .ok (.aload_n 0, 1) := by decide +kernel
theorem dX2_addMessage_136 : decode cX2_addMessage 136 = .ok (.getfield 12, 3) := by decide +kernel
theorem dX2_addMessage_139 : decode cX2_addMessage 139 = .ok (.getfield 152, 3) := by decide +kernel
theorem dX2_addMessage_142 : decode cX2_addMessage 142 = .ok (.iload 4, 2) := by decide +kernel
theorem dX2_addMessage_144 : decode cX2_addMessage 144 = .ok (.iload 5, 2) := by decide +kernel
theorem dX2_addMessage_146 : decode cX2_addMessage 146 = .ok (.iastore, 1) := by decide +kernel
theorem dX2_addMessage_147 : decode cX2_addMessage 147 = .ok (.aload_n 0, 1) := by decide +kernel
theorem dX2_addMessage_148 : decode cX2_addMessage 148 = .ok (.getfield 21, 3) := by decide +kernel
theorem dX2_addMessage_151 : decode cX2_addMessage 151 = .ok (.iload 5, 2) := by decide +kernel
theorem dX2_addMessage_153 : decode cX2_addMessage 153 = .ok (.iload_n 1, 1) := by decide +kernel
theorem dX2_addMessage_154 : decode cX2_addMessage 154 = .ok (.iconst (-1), 1) := by decide +kernel
theorem dX2_addMessage_155 : decode cX2_addMessage 155 = .ok (.if_icmp .ne 7, 3) := by decide +kernel
theorem dX2_addMessage_158 : decode cX2_addMessage 158 = .ok (.iload_n 2, 1) := by decide +kernel
theorem dX2_addMessage_159 : decode cX2_addMessage 159 = .ok (.goto 4, 3) := by decide +kernel
theorem dX2_addMessage_162 : decode cX2_addMessage 162 = .ok (.iload_n 1, 1) := by decide +kernel
theorem dX2_addMessage_163 : decode cX2_addMessage 163 = .ok (.iload 4, 2) := by decide +kernel
theorem dX2_addMessage_165 : decode cX2_addMessage 165 = .ok (.invokevirtual 155, 3) := by decide +kernel
theorem dX2_addMessage_168 : decode cX2_addMessage 168 = .ok (.iload 4, 2) := by decide +kernel
theorem dX2_addMessage_170 : decode cX2_addMessage 170 = .ok (.ireturn, 1) := by decide +kernel
theorem dX2_send_0 : decode cX2_send 0 = .ok (.aload_n 0, 1) := by decide +kernel
theorem dX2_send_1 : decode cX2_send 1 = .ok (.dup, 1) := by decide +kernel
theorem dX2_send_2 : decode cX2_send 2 = .ok (.getfield 53, 3) := by decide +kernel
theorem dX2_send_5 : decode cX2_send 5 = .ok (.iload_n 1, 1) := by decide +kernel
theorem dX2_send_6 : decode cX2_send 6 = .ok (.iadd, 1) := by decide +kernel
theorem dX2_send_7 : decode cX2_send 7 = .ok (.putfield 53, 3) := by decide +kernel
theorem dX2_send_10 : decode cX2_send 10 = .ok (.aload_n 0, 1) := by decide +kernel
theorem dX2_send_11 : decode cX2_send 11 = .ok (.getfield 43, 3) := by decide +kernel
theorem dX2_send_14 : decode cX2_send 14 = .ok (.iconst 0, 1) := by decide +kernel
theorem dX2_send_15 : decode cX2_send 15 = .ok (.dup2, 1) := by decide +kernel
theorem dX2_send_16 : decode cX2_send 16 = .ok (.iaload, 1) := by decide +kernel
theorem dX2_send_17 : decode cX2_send 17 = .ok (.iconst 1, 1) := by decide +kernel
theorem dX2_send_18 : decode cX2_send 18 = .ok (.iadd, 1) := by decide +kernel
theorem dX2_send_19 : decode cX2_send 19 = .ok (.iastore, 1) := by decide +kernel
theorem dX2_send_20 : decode cX2_send 20 = .ok (.aload_n 0, 1) := by decide +kernel
theorem dX2_send_21 : decode cX2_send 21 = .ok (.bipush 75, 2) := by decide +kernel
theorem dX2_send_23 : decode cX2_send 23 = .ok (.aload_n 0, 1) := by decide +kernel
theorem dX2_send_24 : decode cX2_send 24 = .ok (.getfield 59, 3) := by decide +kernel
theorem dX2_send_27 : decode cX2_send 27 = .ok (.imul, 1) := by decide +kernel
theorem dX2_send_28 : decode cX2_send 28 = .ok (.bipush 74, 2) := by decide +kernel
theorem dX2_send_30 : decode cX2_send 30 = .ok (.iadd, 1) := by decide +kernel
theorem dX2_send_31 : decode cX2_send 31 = .ok (.ldc 159, 2) := by decide +kernel
theorem dX2_send_33 : decode cX2_send 33 = .ok (.irem, 1) := by decide +kernel
theorem dX2_send_34 : decode cX2_send 34 = .ok (.putfield 59, 3) := by decide +kernel
theorem dX2_send_37 : decode cX2_send 37 = .ok (.aload_n 0, 1) := by decide +kernel
theorem dX2_send_38 : decode cX2_send 38 = .ok (.getfield 59, 3) := by decide +kernel
theorem dX2_send_41 : decode cX2_send 41 = .ok (.bipush 100, 2) := by decide +kernel
theorem dX2_send_43 : decode cX2_send 43 = .ok (.irem, 1) := by decide +kernel
theorem dX2_send_44 : decode cX2_send 44 = .ok (.aload_n 0, 1) := by decide +kernel
theorem dX2_send_45 : decode cX2_send 45 = .ok (.getfield 39, 3) := by decide +kernel
theorem dX2_send_48 : decode cX2_send 48 = .ok (.iconst 5, 1) := by decide +kernel
theorem dX2_send_49 : decode cX2_send 49 = .ok (.iaload, 1) := by decide +kernel
theorem dX2_send_50 : decode cX2_send 50 = .ok (.if_icmp .ge 15, 3) := by decide +kernel
theorem dX2_send_53 : decode cX2_send 53 = .ok (.aload_n 0, 1) := by decide +kernel
theorem dX2_send_54 : decode cX2_send 54 = .ok (.getfield 43, 3) := by decide +kernel
theorem dX2_send_57 : decode cX2_send 57 = .ok (.iconst 1, 1) := by decide +kernel
theorem dX2_send_58 : decode cX2_send 58 = .ok (.dup2, 1) := by decide +kernel
theorem dX2_send_59 : decode cX2_send 59 = .ok (.iaload, 1) := by decide +kernel
theorem dX2_send_60 : decode cX2_send 60 = .ok (.iconst 1, 1) := by decide +kernel
theorem dX2_send_61 : decode cX2_send 61 = .ok (.iadd, 1) := by decide +kernel
theorem dX2_send_62 : decode cX2_send 62 = .ok (.iastore, 1) := by decide +kernel
theorem dX2_send_63 : decode cX2_send 63 = .ok (.iconst 0, 1) := by decide +kernel
theorem dX2_send_64 : decode cX2_send 64 = .ok (.ireturn, 1) := by decide +kernel
theorem dX2_send_65 : decode cX2_send 65 = .ok (.iconst 1, 1) := by decide +kernel
theorem dX2_send_66 : decode cX2_send 66 = .ok (.ireturn, 1) := by decide +kernel
theorem dX2_takeAtHost_0 : decode cX2_takeAtHost 0 = .ok (.aload_n 0, 1) := by decide +kernel
theorem dX2_takeAtHost_1 : decode cX2_takeAtHost 1 = .ok (.getfield 43, 3) := by decide +kernel
theorem dX2_takeAtHost_4 : decode cX2_takeAtHost 4 = .ok (.iconst 3, 1) := by decide +kernel
theorem dX2_takeAtHost_5 : decode cX2_takeAtHost 5 = .ok (.dup2, 1) := by decide +kernel
theorem dX2_takeAtHost_6 : decode cX2_takeAtHost 6 = .ok (.iaload, 1) := by decide +kernel
theorem dX2_takeAtHost_7 : decode cX2_takeAtHost 7 = .ok (.iconst 1, 1) := by decide +kernel
theorem dX2_takeAtHost_8 : decode cX2_takeAtHost 8 = .ok (.iadd, 1) := by decide +kernel
theorem dX2_takeAtHost_9 : decode cX2_takeAtHost 9 = .ok (.iastore, 1) := by decide +kernel
theorem dX2_takeAtHost_10 : decode cX2_takeAtHost 10 = .ok (.aload_n 0, 1) := by decide +kernel
theorem dX2_takeAtHost_11 : decode cX2_takeAtHost 11 = .ok (.getfield 28, 3) := by decide +kernel
theorem dX2_takeAtHost_14 : decode cX2_takeAtHost 14 = .ok (.getfield 160, 3) := by decide +kernel
theorem dX2_takeAtHost_17 : decode cX2_takeAtHost 17 = .ok (.iload_n 1, 1) := by decide +kernel
theorem dX2_takeAtHost_18 : decode cX2_takeAtHost 18 = .ok (.dup2, 1) := by decide +kernel
theorem dX2_takeAtHost_19 : decode cX2_takeAtHost 19 = .ok (.iaload, 1) := by decide +kernel
theorem dX2_takeAtHost_20 : decode cX2_takeAtHost 20 = .ok (.iconst 1, 1) := by decide +kernel
theorem dX2_takeAtHost_21 : decode cX2_takeAtHost 21 = .ok (.ixor, 1) := by decide +kernel
theorem dX2_takeAtHost_22 : decode cX2_takeAtHost 22 = .ok (.iastore, 1) := by decide +kernel
theorem dX2_takeAtHost_23 : decode cX2_takeAtHost 23 = .ok (.aload_n 0, 1) := by decide +kernel
theorem dX2_takeAtHost_24 : decode cX2_takeAtHost 24 = .ok (.getfield 12, 3) := by decide +kernel
theorem dX2_takeAtHost_27 : decode cX2_takeAtHost 27 = .ok (.getfield 143, 3) := by decide +kernel
theorem dX2_takeAtHost_30 : decode cX2_takeAtHost 30 = .ok (.iload_n 2, 1) := by decide +kernel
theorem dX2_takeAtHost_31 : decode cX2_takeAtHost 31 = .ok (.aload_n 0, 1) := by decide +kernel
theorem dX2_takeAtHost_32 : decode cX2_takeAtHost 32 = .ok (.getfield 53, 3) := by decide +kernel
theorem dX2_takeAtHost_35 : decode cX2_takeAtHost 35 = .ok (.iastore, 1) := by decide +kernel
theorem dX2_takeAtHost_36 : decode cX2_takeAtHost 36 = .ok (.aload_n 0, 1) := by decide +kernel
theorem dX2_takeAtHost_37 : decode cX2_takeAtHost 37 = .ok (.getfield 12, 3) := by decide +kernel
theorem dX2_takeAtHost_40 : decode cX2_takeAtHost 40 = .ok (.getfield 134, 3) := by decide +kernel
theorem dX2_takeAtHost_43 : decode cX2_takeAtHost 43 = .ok (.iload_n 2, 1) := by decide +kernel
theorem dX2_takeAtHost_44 : decode cX2_takeAtHost 44 = .ok (.iaload, 1) := by decide +kernel
theorem dX2_takeAtHost_45 : decode cX2_takeAtHost 45 = .ok (.istore_n 3, 1) := by decide +kernel
theorem dX2_takeAtHost_46 : decode cX2_takeAtHost 46 = .ok (.iload_n 3, 1) := by decide +kernel
theorem dX2_takeAtHost_47 : decode cX2_takeAtHost 47 = .ok (.iconst (-1), 1) := by decide +kernel
theorem dX2_takeAtHost_48 : decode cX2_takeAtHost 48 = .ok (.if_icmp .ne 29, 3) := by decide +kernel
theorem dX2_takeAtHost_51 : decode cX2_takeAtHost 51 = .ok (.aload_n 0, 1) := by decide +kernel
theorem dX2_takeAtHost_52 : decode cX2_takeAtHost 52 = .ok (.getfield 12, 3) := by decide +kernel
theorem dX2_takeAtHost_55 : decode cX2_takeAtHost 55 = .ok (.getfield 149, 3) := by decide +kernel
theorem dX2_takeAtHost_58 : decode cX2_takeAtHost 58 = .ok (.iload_n 2, 1) := by decide +kernel
theorem dX2_takeAtHost_59 : decode cX2_takeAtHost 59 = .ok (.aload_n 0, 1) := by decide +kernel
theorem dX2_takeAtHost_60 : decode cX2_takeAtHost 60 = .ok (.getfield 53, 3) := by decide +kernel
theorem dX2_takeAtHost_63 : decode cX2_takeAtHost 63 = .ok (.iastore, 1) := by decide +kernel
theorem dX2_takeAtHost_64 : decode cX2_takeAtHost 64 = .ok (.aload_n 0, 1) := by decide +kernel
theorem dX2_takeAtHost_65 : decode cX2_takeAtHost 65 = .ok (.getfield 12, 3) := by decide +kernel
theorem dX2_takeAtHost_68 : decode cX2_takeAtHost 68 = .ok (.getfield 152, 3) := by decide +kernel
theorem dX2_takeAtHost_71 : decode cX2_takeAtHost 71 = .ok (.iload_n 2, 1) := by decide +kernel
theorem dX2_takeAtHost_72 : decode cX2_takeAtHost 72 = .ok (.iconst 3, 1) := by decide +kernel
theorem dX2_takeAtHost_73 : decode cX2_takeAtHost 73 = .ok (.iastore, 1) := by decide +kernel
theorem dX2_takeAtHost_74 : decode cX2_takeAtHost 74 = .ok (.goto 23, 3) := by decide +kernel
theorem dX2_takeAtHost_77 : decode cX2_takeAtHost 77 = .ok (.aload_n 0, 1) := by decide +kernel
theorem dX2_takeAtHost_78 : decode cX2_takeAtHost 78 = .ok (.getfield 12, 3) := by decide +kernel
theorem dX2_takeAtHost_81 : decode cX2_takeAtHost 81 = .ok (.getfield 152, 3) := by decide +kernel
theorem dX2_takeAtHost_84 : decode cX2_takeAtHost 84 = .ok (.iload_n 2, 1) := by decide +kernel
theorem dX2_takeAtHost_85 : decode cX2_takeAtHost 85 = .ok (.iconst 1, 1) := by decide +kernel
theorem dX2_takeAtHost_86 : decode cX2_takeAtHost 86 = .ok (.iastore, 1) := by decide +kernel
theorem dX2_takeAtHost_87 : decode cX2_takeAtHost 87 = .ok (.aload_n 0, 1) := by decide +kernel
theorem dX2_takeAtHost_88 : decode cX2_takeAtHost 88 = .ok (.getfield 21, 3) := by decide +kernel
theorem dX2_takeAtHost_91 : decode cX2_takeAtHost 91 = .ok (.iconst 1, 1) := by decide +kernel
theorem dX2_takeAtHost_92 : decode cX2_takeAtHost 92 = .ok (.iload_n 3, 1) := by decide +kernel
theorem dX2_takeAtHost_93 : decode cX2_takeAtHost 93 = .ok (.iload_n 2, 1) := by decide +kernel
theorem dX2_takeAtHost_94 : decode cX2_takeAtHost 94 = .ok (.invokevirtual 155, 3) := by decide +kernel
theorem dX2_takeAtHost_97 : decode cX2_takeAtHost 97 = .ok (.return_, 1) := by decide +kernel
theorem dX2_takeAtTerminal_0 : decode cX2_takeAtTerminal 0 = .ok (.aload_n 0, 1) := by decide +kernel
theorem dX2_takeAtTerminal_1 : decode cX2_takeAtTerminal 1 = .ok (.getfield 28, 3) := by decide +kernel
theorem dX2_takeAtTerminal_4 : decode cX2_takeAtTerminal 4 = .ok (.getfield 163, 3) := by decide +kernel
theorem dX2_takeAtTerminal_7 : decode cX2_takeAtTerminal 7 = .ok (.iload_n 1, 1) := by decide +kernel
theorem dX2_takeAtTerminal_8 : decode cX2_takeAtTerminal 8 = .ok (.dup2, 1) := by decide +kernel
theorem dX2_takeAtTerminal_9 : decode cX2_takeAtTerminal 9 = .ok (.iaload, 1) := by decide +kernel
theorem dX2_takeAtTerminal_10 : decode cX2_takeAtTerminal 10 = .ok (.iconst 1, 1) := by decide +kernel
theorem dX2_takeAtTerminal_11 : decode cX2_takeAtTerminal 11 = .ok (.ixor, 1) := by decide +kernel
theorem dX2_takeAtTerminal_12 : decode cX2_takeAtTerminal 12 = .ok (.iastore, 1) := by decide +kernel
theorem dX2_takeAtTerminal_13 : decode cX2_takeAtTerminal 13 = .ok (.aload_n 0, 1) := by decide +kernel
theorem dX2_takeAtTerminal_14 : decode cX2_takeAtTerminal 14 = .ok (.getfield 21, 3) := by decide +kernel
theorem dX2_takeAtTerminal_17 : decode cX2_takeAtTerminal 17 = .ok (.iconst 2, 1) := by decide +kernel
theorem dX2_takeAtTerminal_18 : decode cX2_takeAtTerminal 18 = .ok (.iload_n 1, 1) := by decide +kernel
theorem dX2_takeAtTerminal_19 : decode cX2_takeAtTerminal 19 = .ok (.invokevirtual 166, 3) := by decide +kernel
theorem dX2_takeAtTerminal_22 : decode cX2_takeAtTerminal 22 = .ok (.ifCond .ne 16, 3) := by decide +kernel
theorem dX2_takeAtTerminal_25 : decode cX2_takeAtTerminal 25 = .ok (.aload_n 0, 1) := by decide +kernel
theorem dX2_takeAtTerminal_26 : decode cX2_takeAtTerminal 26 = .ok (.getfield 28, 3) := by decide +kernel
theorem dX2_takeAtTerminal_29 : decode cX2_takeAtTerminal 29 = .ok (.getfield 170, 3) := by decide +kernel
theorem dX2_takeAtTerminal_32 : decode cX2_takeAtTerminal 32 = .ok (.iload_n 1, 1) := by decide +kernel
theorem dX2_takeAtTerminal_33 : decode cX2_takeAtTerminal 33 = .ok (.aload_n 0, 1) := by decide +kernel
theorem dX2_takeAtTerminal_34 : decode cX2_takeAtTerminal 34 = .ok (.getfield 53, 3) := by decide +kernel
theorem dX2_takeAtTerminal_37 : decode cX2_takeAtTerminal 37 = .ok (.iastore, 1) := by decide +kernel
theorem dX2_takeAtTerminal_38 : decode cX2_takeAtTerminal 38 = .ok (.aload_n 0, 1) := by decide +kernel
theorem dX2_takeAtTerminal_39 : decode cX2_takeAtTerminal 39 = .ok (.getfield 12, 3) := by decide +kernel
theorem dX2_takeAtTerminal_42 : decode cX2_takeAtTerminal 42 = .ok (.getfield 146, 3) := by decide +kernel
theorem dX2_takeAtTerminal_45 : decode cX2_takeAtTerminal 45 = .ok (.iload_n 2, 1) := by decide +kernel
theorem dX2_takeAtTerminal_46 : decode cX2_takeAtTerminal 46 = .ok (.aload_n 0, 1) := by decide +kernel
theorem dX2_takeAtTerminal_47 : decode cX2_takeAtTerminal 47 = .ok (.getfield 53, 3) := by decide +kernel
theorem dX2_takeAtTerminal_50 : decode cX2_takeAtTerminal 50 = .ok (.iastore, 1) := by decide +kernel
theorem dX2_takeAtTerminal_51 : decode cX2_takeAtTerminal 51 = .ok (.aload_n 0, 1) := by decide +kernel
theorem dX2_takeAtTerminal_52 : decode cX2_takeAtTerminal 52 = .ok (.getfield 12, 3) := by decide +kernel
theorem dX2_takeAtTerminal_55 : decode cX2_takeAtTerminal 55 = .ok (.getfield 152, 3) := by decide +kernel
theorem dX2_takeAtTerminal_58 : decode cX2_takeAtTerminal 58 = .ok (.iload_n 2, 1) := by decide +kernel
theorem dX2_takeAtTerminal_59 : decode cX2_takeAtTerminal 59 = .ok (.iconst 2, 1) := by decide +kernel
theorem dX2_takeAtTerminal_60 : decode cX2_takeAtTerminal 60 = .ok (.iastore, 1) := by decide +kernel
theorem dX2_takeAtTerminal_61 : decode cX2_takeAtTerminal 61 = .ok (.aload_n 0, 1) := by decide +kernel
theorem dX2_takeAtTerminal_62 : decode cX2_takeAtTerminal 62 = .ok (.getfield 21, 3) := by decide +kernel
theorem dX2_takeAtTerminal_65 : decode cX2_takeAtTerminal 65 = .ok (.iconst 2, 1) := by decide +kernel
theorem dX2_takeAtTerminal_66 : decode cX2_takeAtTerminal 66 = .ok (.iload_n 1, 1) := by decide +kernel
theorem dX2_takeAtTerminal_67 : decode cX2_takeAtTerminal 67 = .ok (.iload_n 2, 1) := by decide +kernel
theorem dX2_takeAtTerminal_68 : decode cX2_takeAtTerminal 68 = .ok (.invokevirtual 155, 3) := by decide +kernel
theorem dX2_takeAtTerminal_71 : decode cX2_takeAtTerminal 71 = .ok (.return_, 1) := by decide +kernel
theorem dX2_deliverDue_0 : decode cX2_deliverDue 0 = .ok (.iconst 0, 1) := by decide +kernel
theorem dX2_deliverDue_1 : decode cX2_deliverDue 1 = .ok (.istore_n 2, 1) := by decide +kernel
theorem dX2_deliverDue_2 : decode cX2_deliverDue 2 = .ok (.iload_n 2, 1) := by decide +kernel
theorem dX2_deliverDue_3 : decode cX2_deliverDue 3 = .ok (.bipush 40, 2) := by decide +kernel
theorem dX2_deliverDue_5 : decode cX2_deliverDue 5 = .ok (.if_icmp .ge 102, 3) := by decide +kernel
theorem dX2_deliverDue_8 : decode cX2_deliverDue 8 = .ok (.aload_n 0, 1) := by decide +kernel
theorem dX2_deliverDue_9 : decode cX2_deliverDue 9 = .ok (.getfield 21, 3) := by decide +kernel
theorem dX2_deliverDue_12 : decode cX2_deliverDue 12 = .ok (.iconst 2, 1) := by decide +kernel
theorem dX2_deliverDue_13 : decode cX2_deliverDue 13 = .ok (.iload_n 1, 1) := by decide +kernel
theorem dX2_deliverDue_14 : decode cX2_deliverDue 14 = .ok (.invokevirtual 173, 3) := by decide +kernel
theorem dX2_deliverDue_17 : decode cX2_deliverDue 17 = .ok (.istore_n 3, 1) := by decide +kernel
theorem dX2_deliverDue_18 : decode cX2_deliverDue 18 = .ok (.aload_n 0, 1) := by decide +kernel
theorem dX2_deliverDue_19 : decode cX2_deliverDue 19 = .ok (.getfield 28, 3) := by decide +kernel
theorem dX2_deliverDue_22 : decode cX2_deliverDue 22 = .ok (.getfield 170, 3) := by decide +kernel
theorem dX2_deliverDue_25 : decode cX2_deliverDue 25 = .ok (.iload_n 1, 1) := by decide +kernel
theorem dX2_deliverDue_26 : decode cX2_deliverDue 26 = .ok (.iaload, 1) := by decide +kernel
theorem dX2_deliverDue_27 : decode cX2_deliverDue 27 = .ok (.aload_n 0, 1) := by decide +kernel
theorem dX2_deliverDue_28 : decode cX2_deliverDue 28 = .ok (.getfield 74, 3) := by decide +kernel
theorem dX2_deliverDue_31 : decode cX2_deliverDue 31 = .ok (.getfield 176, 3) := by decide +kernel
theorem dX2_deliverDue_34 : decode cX2_deliverDue 34 = .ok (.iload_n 1, 1) := by decide +kernel
theorem dX2_deliverDue_35 : decode cX2_deliverDue 35 = .ok (.iaload, 1) := by decide +kernel
theorem dX2_deliverDue_36 : decode cX2_deliverDue 36 = .ok (.iadd, 1) := by decide +kernel
theorem dX2_deliverDue_37 : decode cX2_deliverDue 37 = .ok (.istore 4, 2) := by decide +kernel
theorem dX2_deliverDue_39 : decode cX2_deliverDue 39 = .ok (.aload_n 0, 1) := by decide +kernel
theorem dX2_deliverDue_40 : decode cX2_deliverDue 40 = .ok (.getfield 12, 3) := by decide +kernel
theorem dX2_deliverDue_43 : decode cX2_deliverDue 43 = .ok (.iload_n 3, 1) := by decide +kernel
theorem dX2_deliverDue_44 : decode cX2_deliverDue 44 = .ok (.invokevirtual 179, 3) := by decide +kernel
theorem dX2_deliverDue_47 : decode cX2_deliverDue 47 = .ok (.ifCond .eq 12, 3) := by decide +kernel
theorem dX2_deliverDue_50 : decode cX2_deliverDue 50 = .ok (.iload 4, 2) := by decide +kernel
theorem dX2_deliverDue_52 : decode cX2_deliverDue 52 = .ok (.aload_n 0, 1) := by decide +kernel
theorem dX2_deliverDue_53 : decode cX2_deliverDue 53 = .ok (.getfield 53, 3) := by decide +kernel
theorem dX2_deliverDue_56 : decode cX2_deliverDue 56 = .ok (.if_icmp .le 4, 3) := by decide +kernel
theorem dX2_deliverDue_59 : decode cX2_deliverDue 59 = .ok (.return_, 1) := by decide +kernel
theorem dX2_deliverDue_60 : decode cX2_deliverDue 60 = .ok (.aload_n 0, 1) := by decide +kernel
theorem dX2_deliverDue_61 : decode cX2_deliverDue 61 = .ok (.getfield 21, 3) := by decide +kernel
theorem dX2_deliverDue_64 : decode cX2_deliverDue 64 = .ok (.iconst 2, 1) := by decide +kernel
theorem dX2_deliverDue_65 : decode cX2_deliverDue 65 = .ok (.iload_n 1, 1) := by decide +kernel
theorem dX2_deliverDue_66 : decode cX2_deliverDue 66 = .ok (.invokevirtual 180, 3) := by decide +kernel
theorem dX2_deliverDue_69 : decode cX2_deliverDue 69 = .ok (.aload_n 0, 1) := by decide +kernel
theorem dX2_deliverDue_70 : decode cX2_deliverDue 70 = .ok (.getfield 12, 3) := by decide +kernel
theorem dX2_deliverDue_73 : decode cX2_deliverDue 73 = .ok (.getfield 149, 3) := by decide +kernel
theorem dX2_deliverDue_76 : decode cX2_deliverDue 76 = .ok (.iload_n 3, 1) := by decide +kernel
theorem dX2_deliverDue_77 : decode cX2_deliverDue 77 = .ok (.iload 4, 2) := by decide +kernel
theorem dX2_deliverDue_79 : decode cX2_deliverDue 79 = .ok (.iastore, 1) := by decide +kernel
theorem dX2_deliverDue_80 : decode cX2_deliverDue 80 = .ok (.aload_n 0, 1) := by decide +kernel
theorem dX2_deliverDue_81 : decode cX2_deliverDue 81 = .ok (.getfield 12, 3) := by decide +kernel
theorem dX2_deliverDue_84 : decode cX2_deliverDue 84 = .ok (.getfield 152, 3) := by decide +kernel
theorem dX2_deliverDue_87 : decode cX2_deliverDue 87 = .ok (.iload_n 3, 1) := by decide +kernel
theorem dX2_deliverDue_88 : decode cX2_deliverDue 88 = .ok (.iconst 3, 1) := by decide +kernel
theorem dX2_deliverDue_89 : decode cX2_deliverDue 89 = .ok (.iastore, 1) := by decide +kernel
theorem dX2_deliverDue_90 : decode cX2_deliverDue 90 = .ok (.aload_n 0, 1) := by decide +kernel
theorem dX2_deliverDue_91 : decode cX2_deliverDue 91 = .ok (.getfield 28, 3) := by decide +kernel
theorem dX2_deliverDue_94 : decode cX2_deliverDue 94 = .ok (.getfield 170, 3) := by decide +kernel
theorem dX2_deliverDue_97 : decode cX2_deliverDue 97 = .ok (.iload_n 1, 1) := by decide +kernel
theorem dX2_deliverDue_98 : decode cX2_deliverDue 98 = .ok (.iload 4, 2) := by decide +kernel
theorem dX2_deliverDue_100 : decode cX2_deliverDue 100 = .ok (.iastore, 1) := by decide +kernel
theorem dX2_deliverDue_101 : decode cX2_deliverDue 101 = .ok (.iinc 2 1, 3) := by decide +kernel
theorem dX2_deliverDue_104 : decode cX2_deliverDue 104 = .ok (.goto (-102), 3) := by decide +kernel
theorem dX2_deliverDue_107 : decode cX2_deliverDue 107 = .ok (.return_, 1) := by decide +kernel
theorem dX3_init_0 : decode cX3_init 0 = .ok (.aload_n 0, 1) := by decide +kernel
theorem dX3_init_1 : decode cX3_init 1 = .ok (.invokespecial 3, 3) := by decide +kernel
theorem dX3_init_4 : decode cX3_init 4 = .ok (.aload_n 0, 1) := by decide +kernel
theorem dX3_init_5 : decode cX3_init 5 = .ok (.iconst 0, 1) := by decide +kernel
theorem dX3_init_6 : decode cX3_init 6 = .ok (.putfield 9, 3) := by decide +kernel
theorem dX3_init_9 : decode cX3_init 9 = .ok (.aload_n 0, 1) := by decide +kernel
theorem dX3_init_10 : decode cX3_init 10 = .ok (.bipush 40, 2) := by decide +kernel
theorem dX3_init_12 : decode cX3_init 12 = .ok (.newarray .int, 2) := by decide +kernel
theorem dX3_init_14 : decode cX3_init 14 = .ok (.putfield 15, 3) := by decide +kernel
theorem dX3_init_17 : decode cX3_init 17 = .ok (.aload_n 0, 1) := by decide +kernel
theorem dX3_init_18 : decode cX3_init 18 = .ok (.bipush 40, 2) := by decide +kernel
theorem dX3_init_20 : decode cX3_init 20 = .ok (.newarray .int, 2) := by decide +kernel
theorem dX3_init_22 : decode cX3_init 22 = .ok (.putfield 19, 3) := by decide +kernel
theorem dX3_init_25 : decode cX3_init 25 = .ok (.aload_n 0, 1) := by decide +kernel
theorem dX3_init_26 : decode cX3_init 26 = .ok (.bipush 40, 2) := by decide +kernel
theorem dX3_init_28 : decode cX3_init 28 = .ok (.newarray .int, 2) := by decide +kernel
theorem dX3_init_30 : decode cX3_init 30 = .ok (.putfield 22, 3) := by decide +kernel
theorem dX3_init_33 : decode cX3_init 33 = .ok (.aload_n 0, 1) := by decide +kernel
theorem dX3_init_34 : decode cX3_init 34 = .ok (.bipush 40, 2) := by decide +kernel
theorem dX3_init_36 : decode cX3_init 36 = .ok (.newarray .int, 2) := by decide +kernel
theorem dX3_init_38 : decode cX3_init 38 = .ok (.putfield 25, 3) := by decide +kernel
theorem dX3_init_41 : decode cX3_init 41 = .ok (.aload_n 0, 1) := by decide +kernel
theorem dX3_init_42 : decode cX3_init 42 = .ok (.bipush 40, 2) := by decide +kernel
theorem dX3_init_44 : decode cX3_init 44 = .ok (.newarray .int, 2) := by decide +kernel
theorem dX3_init_46 : decode cX3_init 46 = .ok (.putfield 28, 3) := by decide +kernel
theorem dX3_init_49 : decode cX3_init 49 = .ok (.aload_n 0, 1) := by decide +kernel
theorem dX3_init_50 : decode cX3_init 50 = .ok (.bipush 40, 2) := by decide +kernel
theorem dX3_init_52 : decode cX3_init 52 = .ok (.newarray .int, 2) := by decide +kernel
theorem dX3_init_54 : decode cX3_init 54 = .ok (.putfield 31, 3) := by decide +kernel
theorem dX3_init_57 : decode cX3_init 57 = .ok (.aload_n 0, 1) := by decide +kernel
theorem dX3_init_58 : decode cX3_init 58 = .ok (.bipush 40, 2) := by decide +kernel
theorem dX3_init_60 : decode cX3_init 60 = .ok (.newarray .int, 2) := by decide +kernel
theorem dX3_init_62 : decode cX3_init 62 = .ok (.putfield 34, 3) := by decide +kernel
theorem dX3_init_65 : decode cX3_init 65 = .ok (.aload_n 0, 1) := by decide +kernel
theorem dX3_init_66 : decode cX3_init 66 = .ok (.bipush 40, 2) := by decide +kernel
theorem dX3_init_68 : decode cX3_init 68 = .ok (.newarray .int, 2) := by decide +kernel
theorem dX3_init_70 : decode cX3_init 70 = .ok (.putfield 37, 3) := by decide +kernel
theorem dX3_init_73 : decode cX3_init 73 = .ok (.return_, 1) := by decide +kernel
theorem dX3_has_0 : decode cX3_has 0 = .ok (.iload_n 1, 1) := by decide +kernel
theorem dX3_has_1 : decode cX3_has 1 = .ok (.ifCond .lt 15, 3) := by decide +kernel
theorem dX3_has_4 : decode cX3_has 4 = .ok (.iload_n 1, 1) := by decide +kernel
theorem dX3_has_5 : decode cX3_has 5 = .ok (.aload_n 0, 1) := by decide +kernel
theorem dX3_has_6 : decode cX3_has 6 = .ok (.getfield 9, 3) := by decide +kernel
theorem dX3_has_9 : decode cX3_has 9 = .ok (.if_icmp .ge 7, 3) := by decide +kernel
theorem dX3_has_12 : decode cX3_has 12 = .ok (.iconst 1, 1) := by decide +kernel
theorem dX3_has_13 : decode cX3_has 13 = .ok (.goto 4, 3) := by decide +kernel
theorem dX3_has_16 : decode cX3_has 16 = .ok (.iconst 0, 1) := by decide +kernel
theorem dX3_has_17 : decode cX3_has 17 = .ok (.ireturn, 1) := by decide +kernel
theorem dX3_isFull_0 : decode cX3_isFull 0 = .ok (.aload_n 0, 1) := by decide +kernel
theorem dX3_isFull_1 : decode cX3_isFull 1 = .ok (.getfield 9, 3) := by decide +kernel
theorem dX3_isFull_4 : decode cX3_isFull 4 = .ok (.bipush 40, 2) := by decide +kernel
theorem dX3_isFull_6 : decode cX3_isFull 6 = .ok (.if_icmp .lt 7, 3) := by decide +kernel
theorem dX3_isFull_9 : decode cX3_isFull 9 = .ok (.iconst 1, 1) := by decide +kernel
theorem dX3_isFull_10 : decode cX3_isFull 10 = .ok (.goto 4, 3) := by decide +kernel
theorem dX3_isFull_13 : decode cX3_isFull 13 = .ok (.iconst 0, 1) := by decide +kernel
theorem dX3_isFull_14 : decode cX3_isFull 14 = .ok (.ireturn, 1) := by decide +kernel
theorem dX3_countIn_0 : decode cX3_countIn 0 = .ok (.iconst 0, 1) := by decide +kernel
theorem dX3_countIn_1 : decode cX3_countIn 1 = .ok (.istore_n 2, 1) := by decide +kernel
theorem dX3_countIn_2 : decode cX3_countIn 2 = .ok (.iconst 0, 1) := by decide +kernel
theorem dX3_countIn_3 : decode cX3_countIn 3 = .ok (.istore_n 3, 1) := by decide +kernel
theorem dX3_countIn_4 : decode cX3_countIn 4 = .ok (.iload_n 3, 1) := by decide +kernel
theorem dX3_countIn_5 : decode cX3_countIn 5 = .ok (.aload_n 0, 1) := by decide +kernel
theorem dX3_countIn_6 : decode cX3_countIn 6 = .ok (.getfield 9, 3) := by decide +kernel
theorem dX3_countIn_9 : decode cX3_countIn 9 = .ok (.if_icmp .ge 22, 3) := by decide +kernel
theorem dX3_countIn_12 : decode cX3_countIn 12 = .ok (.aload_n 0, 1) := by decide +kernel
theorem dX3_countIn_13 : decode cX3_countIn 13 = .ok (.getfield 25, 3) := by decide +kernel
theorem dX3_countIn_16 : decode cX3_countIn 16 = .ok (.iload_n 3, 1) := by decide +kernel
theorem dX3_countIn_17 : decode cX3_countIn 17 = .ok (.iaload, 1) := by decide +kernel
theorem dX3_countIn_18 : decode cX3_countIn 18 = .ok (.iload_n 1, 1) := by decide +kernel
theorem dX3_countIn_19 : decode cX3_countIn 19 = .ok (.if_icmp .ne 6, 3) := by decide +kernel
theorem dX3_countIn_22 : decode cX3_countIn 22 = .ok (.iinc 2 1, 3) := by decide +kernel
theorem dX3_countIn_25 : decode cX3_countIn 25 = .ok (.iinc 3 1, 3) := by decide +kernel
theorem dX3_countIn_28 : decode cX3_countIn 28 = .ok (.goto (-24), 3) := by decide +kernel
theorem dX3_countIn_31 : decode cX3_countIn 31 = .ok (.iload_n 2, 1) := by decide +kernel
theorem dX3_countIn_32 : decode cX3_countIn 32 = .ok (.ireturn, 1) := by decide +kernel
theorem dX3_copyFrom_0 : decode cX3_copyFrom 0 = .ok (.aload_n 0, 1) := by decide +kernel
theorem dX3_copyFrom_1 : decode cX3_copyFrom 1 = .ok (.aload_n 1, 1) := by decide +kernel
theorem dX3_copyFrom_2 : decode cX3_copyFrom 2 = .ok (.getfield 9, 3) := by decide +kernel
theorem dX3_copyFrom_5 : decode cX3_copyFrom 5 = .ok (.putfield 9, 3) := by decide +kernel
theorem dX3_copyFrom_8 : decode cX3_copyFrom 8 = .ok (.aload_n 1, 1) := by decide +kernel
theorem dX3_copyFrom_9 : decode cX3_copyFrom 9 = .ok (.getfield 15, 3) := by decide +kernel
theorem dX3_copyFrom_12 : decode cX3_copyFrom 12 = .ok (.iconst 0, 1) := by decide +kernel
theorem dX3_copyFrom_13 : decode cX3_copyFrom 13 = .ok (.aload_n 0, 1) := by decide +kernel
theorem dX3_copyFrom_14 : decode cX3_copyFrom 14 = .ok (.getfield 15, 3) := by decide +kernel
theorem dX3_copyFrom_17 : decode cX3_copyFrom 17 = .ok (.iconst 0, 1) := by decide +kernel
theorem dX3_copyFrom_18 : decode cX3_copyFrom 18 = .ok (.aload_n 0, 1) := by decide +kernel
theorem dX3_copyFrom_19 : decode cX3_copyFrom 19 = .ok (.getfield 9, 3) := by decide +kernel
theorem dX3_copyFrom_22 : decode cX3_copyFrom 22 = .ok (.invokestatic 40, 3) := by decide +kernel
theorem dX3_copyFrom_25 : decode cX3_copyFrom 25 = .ok (.aload_n 1, 1) := by decide +kernel
theorem dX3_copyFrom_26 : decode cX3_copyFrom 26 = .ok (.getfield 19, 3) := by decide +kernel
theorem dX3_copyFrom_29 : decode cX3_copyFrom 29 = .ok (.iconst 0, 1) := by decide +kernel
theorem dX3_copyFrom_30 : decode cX3_copyFrom 30 = .ok (.aload_n 0, 1) := by decide +kernel
theorem dX3_copyFrom_31 : decode cX3_copyFrom 31 = .ok (.getfield 19, 3) := by decide +kernel
theorem dX3_copyFrom_34 : decode cX3_copyFrom 34 = .ok (.iconst 0, 1) := by decide +kernel
theorem dX3_copyFrom_35 : decode cX3_copyFrom 35 = .ok (.aload_n 0, 1) := by decide +kernel
theorem dX3_copyFrom_36 : decode cX3_copyFrom 36 = .ok (.getfield 9, 3) := by decide +kernel
theorem dX3_copyFrom_39 : decode cX3_copyFrom 39 = .ok (.invokestatic 40, 3) := by decide +kernel
theorem dX3_copyFrom_42 : decode cX3_copyFrom 42 = .ok (.aload_n 1, 1) := by decide +kernel
theorem dX3_copyFrom_43 : decode cX3_copyFrom 43 = .ok (.getfield 22, 3) := by decide +kernel
theorem dX3_copyFrom_46 : decode cX3_copyFrom 46 = .ok (.iconst 0, 1) := by decide +kernel
theorem dX3_copyFrom_47 : decode cX3_copyFrom 47 = .ok (.aload_n 0, 1) := by decide +kernel
theorem dX3_copyFrom_48 : decode cX3_copyFrom 48 = .ok (.getfield 22, 3) := by decide +kernel
theorem dX3_copyFrom_51 : decode cX3_copyFrom 51 = .ok (.iconst 0, 1) := by decide +kernel
theorem dX3_copyFrom_52 : decode cX3_copyFrom 52 = .ok (.aload_n 0, 1) := by decide +kernel
theorem dX3_copyFrom_53 : decode cX3_copyFrom 53 = .ok (.getfield 9, 3) := by decide +kernel
theorem dX3_copyFrom_56 : decode cX3_copyFrom 56 = .ok (.invokestatic 40, 3) := by decide +kernel
theorem dX3_copyFrom_59 : decode cX3_copyFrom 59 = .ok (.aload_n 1, 1) := by decide +kernel
theorem dX3_copyFrom_60 : decode cX3_copyFrom 60 = .ok (.getfield 25, 3) := by decide +kernel
theorem dX3_copyFrom_63 : decode cX3_copyFrom 63 = .ok (.iconst 0, 1) := by decide +kernel
theorem dX3_copyFrom_64 : decode cX3_copyFrom 64 = .ok (.aload_n 0, 1) := by decide +kernel
theorem dX3_copyFrom_65 : decode cX3_copyFrom 65 = .ok (.getfield 25, 3) := by decide +kernel
theorem dX3_copyFrom_68 : decode cX3_copyFrom 68 = .ok (.iconst 0, 1) := by decide +kernel
theorem dX3_copyFrom_69 : decode cX3_copyFrom 69 = .ok (.aload_n 0, 1) := by decide +kernel
theorem dX3_copyFrom_70 : decode cX3_copyFrom 70 = .ok (.getfield 9, 3) := by decide +kernel
theorem dX3_copyFrom_73 : decode cX3_copyFrom 73 = .ok (.invokestatic 40, 3) := by decide +kernel
theorem dX3_copyFrom_76 : decode cX3_copyFrom 76 = .ok (.aload_n 1, 1) := by decide +kernel
theorem dX3_copyFrom_77 : decode cX3_copyFrom 77 = .ok (.getfield 28, 3) := by decide +kernel
theorem dX3_copyFrom_80 : decode cX3_copyFrom 80 = .ok (.iconst 0, 1) := by decide +kernel
theorem dX3_copyFrom_81 : decode cX3_copyFrom 81 = .ok (.aload_n 0, 1) := by decide +kernel
theorem dX3_copyFrom_82 : decode cX3_copyFrom 82 = .ok (.getfield 28, 3) := by decide +kernel
theorem dX3_copyFrom_85 : decode cX3_copyFrom 85 = .ok (.iconst 0, 1) := by decide +kernel
theorem dX3_copyFrom_86 : decode cX3_copyFrom 86 = .ok (.aload_n 0, 1) := by decide +kernel
theorem dX3_copyFrom_87 : decode cX3_copyFrom 87 = .ok (.getfield 9, 3) := by decide +kernel
theorem dX3_copyFrom_90 : decode cX3_copyFrom 90 = .ok (.invokestatic 40, 3) := by decide +kernel
theorem dX3_copyFrom_93 : decode cX3_copyFrom 93 = .ok (.aload_n 1, 1) := by decide +kernel
theorem dX3_copyFrom_94 : decode cX3_copyFrom 94 = .ok (.getfield 31, 3) := by decide +kernel
theorem dX3_copyFrom_97 : decode cX3_copyFrom 97 = .ok (.iconst 0, 1) := by decide +kernel
theorem dX3_copyFrom_98 : decode cX3_copyFrom 98 = .ok (.aload_n 0, 1) := by decide +kernel
theorem dX3_copyFrom_99 : decode cX3_copyFrom 99 = .ok (.getfield 31, 3) := by decide +kernel
theorem dX3_copyFrom_102 : decode cX3_copyFrom 102 = .ok (.iconst 0, 1) := by decide +kernel
theorem dX3_copyFrom_103 : decode cX3_copyFrom 103 = .ok (.aload_n 0, 1) := by decide +kernel
theorem dX3_copyFrom_104 : decode cX3_copyFrom 104 = .ok (.getfield 9, 3) := by decide +kernel
theorem dX3_copyFrom_107 : decode cX3_copyFrom 107 = .ok (.invokestatic 40, 3) := by decide +kernel
theorem dX3_copyFrom_110 : decode cX3_copyFrom 110 = .ok (.aload_n 1, 1) := by decide +kernel
theorem dX3_copyFrom_111 : decode cX3_copyFrom 111 = .ok (.getfield 34, 3) := by decide +kernel
theorem dX3_copyFrom_114 : decode cX3_copyFrom 114 = .ok (.iconst 0, 1) := by decide +kernel
theorem dX3_copyFrom_115 : decode cX3_copyFrom 115 = .ok (.aload_n 0, 1) := by decide +kernel
theorem dX3_copyFrom_116 : decode cX3_copyFrom 116 = .ok (.getfield 34, 3) := by decide +kernel
theorem dX3_copyFrom_119 : decode cX3_copyFrom 119 = .ok (.iconst 0, 1) := by decide +kernel
theorem dX3_copyFrom_120 : decode cX3_copyFrom 120 = .ok (.aload_n 0, 1) := by decide +kernel
theorem dX3_copyFrom_121 : decode cX3_copyFrom 121 = .ok (.getfield 9, 3) := by decide +kernel
theorem dX3_copyFrom_124 : decode cX3_copyFrom 124 = .ok (.invokestatic 40, 3) := by decide +kernel
theorem dX3_copyFrom_127 : decode cX3_copyFrom 127 = .ok (.aload_n 1, 1) := by decide +kernel
theorem dX3_copyFrom_128 : decode cX3_copyFrom 128 = .ok (.getfield 37, 3) := by decide +kernel
theorem dX3_copyFrom_131 : decode cX3_copyFrom 131 = .ok (.iconst 0, 1) := by decide +kernel
theorem dX3_copyFrom_132 : decode cX3_copyFrom 132 = .ok (.aload_n 0, 1) := by decide +kernel
theorem dX3_copyFrom_133 : decode cX3_copyFrom 133 = .ok (.getfield 37, 3) := by decide +kernel
theorem dX3_copyFrom_136 : decode cX3_copyFrom 136 = .ok (.iconst 0, 1) := by decide +kernel
theorem dX3_copyFrom_137 : decode cX3_copyFrom 137 = .ok (.aload_n 0, 1) := by decide +kernel
theorem dX3_copyFrom_138 : decode cX3_copyFrom 138 = .ok (.getfield 9, 3) := by decide +kernel
theorem dX3_copyFrom_141 : decode cX3_copyFrom 141 = .ok (.invokestatic 40, 3) := by decide +kernel
theorem dX3_copyFrom_144 : decode cX3_copyFrom 144 = .ok (.return_, 1) := by decide +kernel
theorem dX4_init_0 : decode cX4_init 0 = .ok (.aload_n 0, 1) := by decide +kernel
theorem dX4_init_1 : decode cX4_init 1 = .ok (.invokespecial 3, 3) := by decide +kernel
theorem dX4_init_4 : decode cX4_init 4 = .ok (.aload_n 0, 1) := by decide +kernel
theorem dX4_init_5 : decode cX4_init 5 = .ok (.bipush 24, 2) := by decide +kernel
theorem dX4_init_7 : decode cX4_init 7 = .ok (.newarray .int, 2) := by decide +kernel
theorem dX4_init_9 : decode cX4_init 9 = .ok (.putfield 11, 3) := by decide +kernel
theorem dX4_init_12 : decode cX4_init 12 = .ok (.aload_n 0, 1) := by decide +kernel
theorem dX4_init_13 : decode cX4_init 13 = .ok (.bipush 24, 2) := by decide +kernel
theorem dX4_init_15 : decode cX4_init 15 = .ok (.newarray .int, 2) := by decide +kernel
theorem dX4_init_17 : decode cX4_init 17 = .ok (.putfield 15, 3) := by decide +kernel
theorem dX4_init_20 : decode cX4_init 20 = .ok (.aload_n 0, 1) := by decide +kernel
theorem dX4_init_21 : decode cX4_init 21 = .ok (.bipush 24, 2) := by decide +kernel
theorem dX4_init_23 : decode cX4_init 23 = .ok (.newarray .int, 2) := by decide +kernel
theorem dX4_init_25 : decode cX4_init 25 = .ok (.putfield 18, 3) := by decide +kernel
theorem dX4_init_28 : decode cX4_init 28 = .ok (.aload_n 0, 1) := by decide +kernel
theorem dX4_init_29 : decode cX4_init 29 = .ok (.bipush 120, 2) := by decide +kernel
theorem dX4_init_31 : decode cX4_init 31 = .ok (.newarray .int, 2) := by decide +kernel
theorem dX4_init_33 : decode cX4_init 33 = .ok (.putfield 21, 3) := by decide +kernel
theorem dX4_init_36 : decode cX4_init 36 = .ok (.return_, 1) := by decide +kernel
theorem dX4_clear_0 : decode cX4_clear 0 = .ok (.iconst 0, 1) := by decide +kernel
theorem dX4_clear_1 : decode cX4_clear 1 = .ok (.istore_n 1, 1) := by decide +kernel
theorem dX4_clear_2 : decode cX4_clear 2 = .ok (.iload_n 1, 1) := by decide +kernel
theorem dX4_clear_3 : decode cX4_clear 3 = .ok (.bipush 24, 2) := by decide +kernel
theorem dX4_clear_5 : decode cX4_clear 5 = .ok (.if_icmp .ge 16, 3) := by decide +kernel
theorem dX4_clear_8 : decode cX4_clear 8 = .ok (.aload_n 0, 1) := by decide +kernel
theorem dX4_clear_9 : decode cX4_clear 9 = .ok (.getfield 18, 3) := by decide +kernel
theorem dX4_clear_12 : decode cX4_clear 12 = .ok (.iload_n 1, 1) := by decide +kernel
theorem dX4_clear_13 : decode cX4_clear 13 = .ok (.iconst 0, 1) := by decide +kernel
theorem dX4_clear_14 : decode cX4_clear 14 = .ok (.iastore, 1) := by decide +kernel
theorem dX4_clear_15 : decode cX4_clear 15 = .ok (.iinc 1 1, 3) := by decide +kernel
theorem dX4_clear_18 : decode cX4_clear 18 = .ok (.goto (-16), 3) := by decide +kernel
theorem dX4_clear_21 : decode cX4_clear 21 = .ok (.return_, 1) := by decide +kernel
theorem dX4_sizeOf_0 : decode cX4_sizeOf 0 = .ok (.iload_n 1, 1) := by decide +kernel
theorem dX4_sizeOf_1 : decode cX4_sizeOf 1 = .ok (.bipush 8, 2) := by decide +kernel
theorem dX4_sizeOf_3 : decode cX4_sizeOf 3 = .ok (.imul, 1) := by decide +kernel
theorem dX4_sizeOf_4 : decode cX4_sizeOf 4 = .ok (.iload_n 2, 1) := by decide +kernel
theorem dX4_sizeOf_5 : decode cX4_sizeOf 5 = .ok (.iadd, 1) := by decide +kernel
theorem dX4_sizeOf_6 : decode cX4_sizeOf 6 = .ok (.istore_n 3, 1) := by decide +kernel
theorem dX4_sizeOf_7 : decode cX4_sizeOf 7 = .ok (.iload_n 3, 1) := by decide +kernel
theorem dX4_sizeOf_8 : decode cX4_sizeOf 8 = .ok (.ifCond .lt 18, 3) := by decide +kernel
theorem dX4_sizeOf_11 : decode cX4_sizeOf 11 = .ok (.iload_n 3, 1) := by decide +kernel
theorem dX4_sizeOf_12 : decode cX4_sizeOf 12 = .ok (.bipush 24, 2) := by decide +kernel
theorem dX4_sizeOf_14 : decode cX4_sizeOf 14 = .ok (.if_icmp .ge 12, 3) := by decide +kernel
theorem dX4_sizeOf_17 : decode cX4_sizeOf 17 = .ok (.aload_n 0, 1) := by decide +kernel
theorem dX4_sizeOf_18 : decode cX4_sizeOf 18 = .ok (.getfield 18, 3) := by decide +kernel
theorem dX4_sizeOf_21 : decode cX4_sizeOf 21 = .ok (.iload_n 3, 1) := by decide +kernel
theorem dX4_sizeOf_22 : decode cX4_sizeOf 22 = .ok (.iaload, 1) := by decide +kernel
theorem dX4_sizeOf_23 : decode cX4_sizeOf 23 = .ok (.goto 4, 3) := by decide +kernel
theorem dX4_sizeOf_26 : decode cX4_sizeOf 26 = .ok (.iconst 0, 1) := by decide +kernel
theorem dX4_sizeOf_27 : decode cX4_sizeOf 27 = .ok (.ireturn, 1) := by decide +kernel
theorem dX4_firstOf_0 : decode cX4_firstOf 0 = .ok (.iload_n 1, 1) := by decide +kernel
theorem dX4_firstOf_1 : decode cX4_firstOf 1 = .ok (.bipush 8, 2) := by decide +kernel
theorem dX4_firstOf_3 : decode cX4_firstOf 3 = .ok (.imul, 1) := by decide +kernel
theorem dX4_firstOf_4 : decode cX4_firstOf 4 = .ok (.iload_n 2, 1) := by decide +kernel
theorem dX4_firstOf_5 : decode cX4_firstOf 5 = .ok (.iadd, 1) := by decide +kernel
theorem dX4_firstOf_6 : decode cX4_firstOf 6 = .ok (.istore_n 3, 1) := by decide +kernel
theorem dX4_firstOf_7 : decode cX4_firstOf 7 = .ok (.iload_n 3, 1) := by decide +kernel
theorem dX4_firstOf_8 : decode cX4_firstOf 8 = .ok (.ifCond .lt 27, 3) := by decide +kernel
theorem dX4_firstOf_11 : decode cX4_firstOf 11 = .ok (.iload_n 3, 1) := by decide +kernel
theorem dX4_firstOf_12 : decode cX4_firstOf 12 = .ok (.bipush 24, 2) := by decide +kernel
theorem dX4_firstOf_14 : decode cX4_firstOf 14 = .ok (.if_icmp .ge 21, 3) := by decide +kernel
theorem dX4_firstOf_17 : decode cX4_firstOf 17 = .ok (.aload_n 0, 1) := by decide +kernel
theorem dX4_firstOf_18 : decode cX4_firstOf 18 = .ok (.getfield 18, 3) := by decide +kernel
theorem dX4_firstOf_21 : decode cX4_firstOf 21 = .ok (.iload_n 3, 1) := by decide +kernel
theorem dX4_firstOf_22 : decode cX4_firstOf 22 = .ok (.iaload, 1) := by decide +kernel
theorem dX4_firstOf_23 : decode cX4_firstOf 23 = .ok (.ifCond .le 12, 3) := by decide +kernel
theorem dX4_firstOf_26 : decode cX4_firstOf 26 = .ok (.aload_n 0, 1) := by decide +kernel
theorem dX4_firstOf_27 : decode cX4_firstOf 27 = .ok (.getfield 11, 3) := by decide +kernel
theorem dX4_firstOf_30 : decode cX4_firstOf 30 = .ok (.iload_n 3, 1) := by decide +kernel
theorem dX4_firstOf_31 : decode cX4_firstOf 31 = .ok (.iaload, 1) := by decide +kernel
theorem dX4_firstOf_32 : decode cX4_firstOf 32 = .ok (.goto 4, 3) := by decide +kernel
theorem dX4_firstOf_35 : decode cX4_firstOf 35 = .ok (.iconst (-1), 1) := by decide +kernel
theorem dX4_firstOf_36 : decode cX4_firstOf 36 = .ok (.ireturn, 1) := by decide +kernel
theorem dX4_nextOf_0 : decode cX4_nextOf 0 = .ok (.iload_n 1, 1) := by decide +kernel
theorem dX4_nextOf_1 : decode cX4_nextOf 1 = .ok (.bipush 40, 2) := by decide +kernel
theorem dX4_nextOf_3 : decode cX4_nextOf 3 = .ok (.imul, 1) := by decide +kernel
theorem dX4_nextOf_4 : decode cX4_nextOf 4 = .ok (.iload_n 2, 1) := by decide +kernel
theorem dX4_nextOf_5 : decode cX4_nextOf 5 = .ok (.iadd, 1) := by decide +kernel
theorem dX4_nextOf_6 : decode cX4_nextOf 6 = .ok (.istore_n 3, 1) := by decide +kernel
theorem dX4_nextOf_7 : decode cX4_nextOf 7 = .ok (.iload_n 3, 1) := by decide +kernel
theorem dX4_nextOf_8 : decode cX4_nextOf 8 = .ok (.ifCond .lt 18, 3) := by decide +kernel
theorem dX4_nextOf_11 : decode cX4_nextOf 11 = .ok (.iload_n 3, 1) := by decide +kernel
theorem dX4_nextOf_12 : decode cX4_nextOf 12 = .ok (.bipush 120, 2) := by decide +kernel
theorem dX4_nextOf_14 : decode cX4_nextOf 14 = .ok (.if_icmp .ge 12, 3) := by decide +kernel
theorem dX4_nextOf_17 : decode cX4_nextOf 17 = .ok (.aload_n 0, 1) := by decide +kernel
theorem dX4_nextOf_18 : decode cX4_nextOf 18 = .ok (.getfield 21, 3) := by decide +kernel
theorem dX4_nextOf_21 : decode cX4_nextOf 21 = .ok (.iload_n 3, 1) := by decide +kernel
theorem dX4_nextOf_22 : decode cX4_nextOf 22 = .ok (.iaload, 1) := by decide +kernel
theorem dX4_nextOf_23 : decode cX4_nextOf 23 = .ok (.goto 4, 3) := by decide +kernel
theorem dX4_nextOf_26 : decode cX4_nextOf 26 = .ok (.iconst (-1), 1) := by decide +kernel
theorem dX4_nextOf_27 : decode cX4_nextOf 27 = .ok (.ireturn, 1) := by decide +kernel
theorem dX4_messageAt_0 : decode cX4_messageAt 0 = .ok (.iload_n 3, 1) := by decide +kernel
theorem dX4_messageAt_1 : decode cX4_messageAt 1 = .ok (.ifCond .lt 13, 3) := by decide +kernel
theorem dX4_messageAt_4 : decode cX4_messageAt 4 = .ok (.iload_n 3, 1) := by decide +kernel
theorem dX4_messageAt_5 : decode cX4_messageAt 5 = .ok (.aload_n 0, 1) := by decide +kernel
theorem dX4_messageAt_6 : decode cX4_messageAt 6 = .ok (.iload_n 1, 1) := by decide +kernel
theorem dX4_messageAt_7 : decode cX4_messageAt 7 = .ok (.iload_n 2, 1) := by decide +kernel
theorem dX4_messageAt_8 : decode cX4_messageAt 8 = .ok (.invokevirtual 24, 3) := by decide +kernel
theorem dX4_messageAt_11 : decode cX4_messageAt 11 = .ok (.if_icmp .lt 5, 3) := by decide +kernel
theorem dX4_messageAt_14 : decode cX4_messageAt 14 = .ok (.iconst (-1), 1) := by decide +kernel
theorem dX4_messageAt_15 : decode cX4_messageAt 15 = .ok (.ireturn, 1) := by decide +kernel
theorem dX4_messageAt_16 : decode cX4_messageAt 16 = .ok (.aload_n 0, 1) := by decide +kernel
theorem dX4_messageAt_17 : decode cX4_messageAt 17 = .ok (.iload_n 1, 1) := by decide +kernel
theorem dX4_messageAt_18 : decode cX4_messageAt 18 = .ok (.iload_n 2, 1) := by decide +kernel
theorem dX4_messageAt_19 : decode cX4_messageAt 19 = .ok (.invokevirtual 28, 3) := by decide +kernel
theorem dX4_messageAt_22 : decode cX4_messageAt 22 = .ok (.istore 4, 2) := by decide +kernel
theorem dX4_messageAt_24 : decode cX4_messageAt 24 = .ok (.iconst 0, 1) := by decide +kernel
theorem dX4_messageAt_25 : decode cX4_messageAt 25 = .ok (.istore 5, 2) := by decide +kernel
theorem dX4_messageAt_27 : decode cX4_messageAt 27 = .ok (.iload 5, 2) := by decide +kernel
theorem dX4_messageAt_29 : decode cX4_messageAt 29 = .ok (.iload_n 3, 1) := by decide +kernel
theorem dX4_messageAt_30 : decode cX4_messageAt 30 = .ok (.if_icmp .ge 18, 3) := by decide +kernel
theorem dX4_messageAt_33 : decode cX4_messageAt 33 = .ok (.aload_n 0, 1) := by decide +kernel
theorem dX4_messageAt_34 : decode cX4_messageAt 34 = .ok (.iload_n 1, 1) := by decide +kernel
theorem dX4_messageAt_35 : decode cX4_messageAt 35 = .ok (.iload 4, 2) := by decide +kernel
theorem dX4_messageAt_37 : decode cX4_messageAt 37 = .ok (.invokevirtual 31, 3) := by decide +kernel
theorem dX4_messageAt_40 : decode cX4_messageAt 40 = .ok (.istore 4, 2) := by decide +kernel
theorem dX4_messageAt_42 : decode cX4_messageAt 42 = .ok (.iinc 5 1, 3) := by decide +kernel
theorem dX4_messageAt_45 : decode cX4_messageAt 45 = .ok (.goto (-18), 3) := by decide +kernel
theorem dX4_messageAt_48 : decode cX4_messageAt 48 = .ok (.iload 4, 2) := by decide +kernel
theorem dX4_messageAt_50 : decode cX4_messageAt 50 = .ok (.ireturn, 1) := by decide +kernel
theorem dX4_append_0 : decode cX4_append 0 = .ok (.iload_n 1, 1) := by decide +kernel
theorem dX4_append_1 : decode cX4_append 1 = .ok (.bipush 8, 2) := by decide +kernel
theorem dX4_append_3 : decode cX4_append 3 = .ok (.imul, 1) := by decide +kernel
theorem dX4_append_4 : decode cX4_append 4 = .ok (.iload_n 2, 1) := by decide +kernel
theorem dX4_append_5 : decode cX4_append 5 = .ok (.iadd, 1) := by decide +kernel
theorem dX4_append_6 : decode cX4_append 6 = .ok (.istore 4, 2) := by decide +kernel
theorem dX4_append_8 : decode cX4_append 8 = .ok (.iload 4, 2) := by decide +kernel
theorem dX4_append_10 : decode cX4_append 10 = .ok (.ifCond .lt 10, 3) := by decide +kernel
theorem dX4_append_13 : decode cX4_append 13 = .ok (.iload 4, 2) := by decide +kernel
theorem dX4_append_15 : decode cX4_append 15 = .ok (.bipush 24, 2) := by decide +kernel
theorem dX4_append_17 : decode cX4_append 17 = .ok (.if_icmp .lt 4, 3) := by decide +kernel
theorem dX4_append_20 : decode cX4_append 20 = .ok (.return_, 1) := by decide +kernel
theorem dX4_append_21 : decode cX4_append 21 = .ok (.iload_n 1, 1) := by decide +kernel
theorem dX4_append_22 : decode cX4_append 22 = .ok (.bipush 40, 2) := by decide +kernel
theorem dX4_append_24 : decode cX4_append 24 = .ok (.imul, 1) := by decide +kernel
theorem dX4_append_25 : decode cX4_append 25 = .ok (.aload_n 0, 1) := by decide +kernel
theorem dX4_append_26 : decode cX4_append 26 = .ok (.getfield 15, 3) := by decide +kernel
theorem dX4_append_29 : decode cX4_append 29 = .ok (.iload 4, 2) := by decide +kernel
theorem dX4_append_31 : decode cX4_append 31 = .ok (.iaload, 1) := by decide +kernel
theorem dX4_append_32 : decode cX4_append 32 = .ok (.iadd, 1) := by decide +kernel
theorem dX4_append_33 : decode cX4_append 33 = .ok (.istore 5, 2) := by decide +kernel
theorem dX4_append_35 : decode cX4_append 35 = .ok (.aload_n 0, 1) := by decide +kernel
theorem dX4_append_36 : decode cX4_append 36 = .ok (.getfield 18, 3) := by decide +kernel
theorem dX4_append_39 : decode cX4_append 39 = .ok (.iload 4, 2) := by decide +kernel
theorem dX4_append_41 : decode cX4_append 41 = .ok (.iaload, 1) := by decide +kernel
theorem dX4_append_42 : decode cX4_append 42 = .ok (.ifCond .ne 14, 3) := by decide +kernel
theorem dX4_append_45 : decode cX4_append 45 = .ok (.aload_n 0, 1) := by decide +kernel
theorem dX4_append_46 : decode cX4_append 46 = .ok (.getfield 11, 3) := by decide +kernel
theorem dX4_append_49 : decode cX4_append 49 = .ok (.iload 4, 2) := by decide +kernel
theorem dX4_append_51 : decode cX4_append 51 = .ok (.iload_n 3, 1) := by decide +kernel
theorem dX4_append_52 : decode cX4_append 52 = .ok (.iastore, 1) := by decide +kernel
theorem dX4_append_53 : decode cX4_append 53 = .ok (.goto 23, 3) := by decide +kernel
theorem dX4_append_56 : decode cX4_append 56 = .ok (.iload 5, 2) := by decide +kernel
theorem dX4_append_58 : decode cX4_append 58 = .ok (.ifCond .lt 18, 3) := by decide +kernel
theorem dX4_append_61 : decode cX4_append 61 = .ok (.iload 5, 2) := by decide +kernel
theorem dX4_append_63 : decode cX4_append 63 = .ok (.bipush 120, 2) := by decide +kernel
theorem dX4_append_65 : decode cX4_append 65 = .ok (.if_icmp .ge 11, 3) := by decide +kernel
theorem dX4_append_68 : decode cX4_append 68 = .ok (.aload_n 0, 1) := by decide +kernel
theorem dX4_append_69 : decode cX4_append 69 = .ok (.getfield 21, 3) := by decide +kernel
theorem dX4_append_72 : decode cX4_append 72 = .ok (.iload 5, 2) := by decide +kernel
theorem dX4_append_74 : decode cX4_append 74 = .ok (.iload_n 3, 1) := by decide +kernel
theorem dX4_append_75 : decode cX4_append 75 = .ok (.iastore, 1) := by decide +kernel
theorem dX4_append_76 : decode cX4_append 76 = .ok (.aload_n 0, 1) := by decide +kernel
theorem dX4_append_77 : decode cX4_append 77 = .ok (.getfield 15, 3) := by decide +kernel
theorem dX4_append_80 : decode cX4_append 80 = .ok (.iload 4, 2) := by decide +kernel
theorem dX4_append_82 : decode cX4_append 82 = .ok (.iload_n 3, 1) := by decide +kernel
theorem dX4_append_83 : decode cX4_append 83 = .ok (.iastore, 1) := by decide +kernel
theorem dX4_append_84 : decode cX4_append 84 = .ok (.aload_n 0, 1) := by decide +kernel
theorem dX4_append_85 : decode cX4_append 85 = .ok (.getfield 18, 3) := by decide +kernel
theorem dX4_append_88 : decode cX4_append 88 = .ok (.iload 4, 2) := by decide +kernel
theorem dX4_append_90 : decode cX4_append 90 = .ok (.dup2, 1) := by decide +kernel
theorem dX4_append_91 : decode cX4_append 91 = .ok (.iaload, 1) := by decide +kernel
theorem dX4_append_92 : decode cX4_append 92 = .ok (.iconst 1, 1) := by decide +kernel
theorem dX4_append_93 : decode cX4_append 93 = .ok (.iadd, 1) := by decide +kernel
theorem dX4_append_94 : decode cX4_append 94 = .ok (.iastore, 1) := by decide +kernel
theorem dX4_append_95 : decode cX4_append 95 = .ok (.return_, 1) := by decide +kernel
theorem dX4_removeFirst_0 : decode cX4_removeFirst 0 = .ok (.iload_n 1, 1) := by decide +kernel
theorem dX4_removeFirst_1 : decode cX4_removeFirst 1 = .ok (.bipush 8, 2) := by decide +kernel
theorem dX4_removeFirst_3 : decode cX4_removeFirst 3 = .ok (.imul, 1) := by decide +kernel
theorem dX4_removeFirst_4 : decode cX4_removeFirst 4 = .ok (.iload_n 2, 1) := by decide +kernel
theorem dX4_removeFirst_5 : decode cX4_removeFirst 5 = .ok (.iadd, 1) := by decide +kernel
theorem dX4_removeFirst_6 : decode cX4_removeFirst 6 = .ok (.istore_n 3, 1) := by decide +kernel
theorem dX4_removeFirst_7 : decode cX4_removeFirst 7 = .ok (.iload_n 3, 1) := by decide +kernel
theorem dX4_removeFirst_8 : decode cX4_removeFirst 8 = .ok (.ifCond .lt 45, 3) := by decide +kernel
theorem dX4_removeFirst_11 : decode cX4_removeFirst 11 = .ok (.iload_n 3, 1) := by decide +kernel
theorem dX4_removeFirst_12 : decode cX4_removeFirst 12 = .ok (.bipush 24, 2) := by decide +kernel
theorem dX4_removeFirst_14 : decode cX4_removeFirst 14 = .ok (.if_icmp .ge 39, 3) := by decide +kernel
theorem dX4_removeFirst_17 : decode cX4_removeFirst 17 = .ok (.aload_n 0, 1) := by decide +kernel
theorem dX4_removeFirst_18 : decode cX4_removeFirst 18 = .ok (.getfield 18, 3) := by decide +kernel
theorem dX4_removeFirst_21 : decode cX4_removeFirst 21 = .ok (.iload_n 3, 1) := by decide +kernel
theorem dX4_removeFirst_22 : decode cX4_removeFirst 22 = .ok (.iaload, 1) := by decide +kernel
theorem dX4_removeFirst_23 : decode cX4_removeFirst 23 = .ok (.ifCond .le 30, 3) := by decide +kernel
theorem dX4_removeFirst_26 : decode cX4_removeFirst 26 = .ok (.aload_n 0, 1) := by decide +kernel
theorem dX4_removeFirst_27 : decode cX4_removeFirst 27 = .ok (.getfield 18, 3) := by decide +kernel
theorem dX4_removeFirst_30 : decode cX4_removeFirst 30 = .ok (.iload_n 3, 1) := by decide +kernel
theorem dX4_removeFirst_31 : decode cX4_removeFirst 31 = .ok (.dup2, 1) := by decide +kernel
theorem dX4_removeFirst_32 : decode cX4_removeFirst 32 = .ok (.iaload, 1) := by decide +kernel
theorem dX4_removeFirst_33 : decode cX4_removeFirst 33 = .ok (.iconst 1, 1) := by decide +kernel
theorem dX4_removeFirst_34 : decode cX4_removeFirst 34 = .ok (.isub, 1) := by decide +kernel
theorem dX4_removeFirst_35 : decode cX4_removeFirst 35 = .ok (.iastore, 1) := by decide +kernel
theorem dX4_removeFirst_36 : decode cX4_removeFirst 36 = .ok (.aload_n 0, 1) := by decide +kernel
theorem dX4_removeFirst_37 : decode cX4_removeFirst 37 = .ok (.getfield 11, 3) := by decide +kernel
theorem dX4_removeFirst_40 : decode cX4_removeFirst 40 = .ok (.iload_n 3, 1) := by decide +kernel
theorem dX4_removeFirst_41 : decode cX4_removeFirst 41 = .ok (.aload_n 0, 1) := by decide +kernel
theorem dX4_removeFirst_42 : decode cX4_removeFirst 42 = .ok (.iload_n 1, 1) := by decide +kernel
theorem dX4_removeFirst_43 : decode cX4_removeFirst 43 = .ok (.aload_n 0, 1) := by decide +kernel
theorem dX4_removeFirst_44 : decode cX4_removeFirst 44 = .ok (.getfield 11, 3) := by decide +kernel
theorem dX4_removeFirst_47 : decode cX4_removeFirst 47 = .ok (.iload_n 3, 1) := by decide +kernel
theorem dX4_removeFirst_48 : decode cX4_removeFirst 48 = .ok (.iaload, 1) := by decide +kernel
theorem dX4_removeFirst_49 : decode cX4_removeFirst 49 = .ok (.invokevirtual 31, 3) := by decide +kernel
theorem dX4_removeFirst_52 : decode cX4_removeFirst 52 = .ok (.iastore, 1) := by decide +kernel
theorem dX4_removeFirst_53 : decode cX4_removeFirst 53 = .ok (.return_, 1) := by decide +kernel
theorem dX4_copyFrom_0 : decode cX4_copyFrom 0 = .ok (.aload_n 1, 1) := by decide +kernel
theorem dX4_copyFrom_1 : decode cX4_copyFrom 1 = .ok (.getfield 11, 3) := by decide +kernel
theorem dX4_copyFrom_4 : decode cX4_copyFrom 4 = .ok (.iconst 0, 1) := by decide +kernel
theorem dX4_copyFrom_5 : decode cX4_copyFrom 5 = .ok (.aload_n 0, 1) := by decide +kernel
theorem dX4_copyFrom_6 : decode cX4_copyFrom 6 = .ok (.getfield 11, 3) := by decide +kernel
theorem dX4_copyFrom_9 : decode cX4_copyFrom 9 = .ok (.iconst 0, 1) := by decide +kernel
theorem dX4_copyFrom_10 : decode cX4_copyFrom 10 = .ok (.bipush 24, 2) := by decide +kernel
theorem dX4_copyFrom_12 : decode cX4_copyFrom 12 = .ok (.invokestatic 34, 3) := by decide +kernel
theorem dX4_copyFrom_15 : decode cX4_copyFrom 15 = .ok (.aload_n 1, 1) := by decide +kernel
theorem dX4_copyFrom_16 : decode cX4_copyFrom 16 = .ok (.getfield 15, 3) := by decide +kernel
theorem dX4_copyFrom_19 : decode cX4_copyFrom 19 = .ok (.iconst 0, 1) := by decide +kernel
theorem dX4_copyFrom_20 : decode cX4_copyFrom 20 = .ok (.aload_n 0, 1) := by decide +kernel
theorem dX4_copyFrom_21 : decode cX4_copyFrom 21 = .ok (.getfield 15, 3) := by decide +kernel
theorem dX4_copyFrom_24 : decode cX4_copyFrom 24 = .ok (.iconst 0, 1) := by decide +kernel
theorem dX4_copyFrom_25 : decode cX4_copyFrom 25 = .ok (.bipush 24, 2) := by decide +kernel
theorem dX4_copyFrom_27 : decode cX4_copyFrom 27 = .ok (.invokestatic 34, 3) := by decide +kernel
theorem dX4_copyFrom_30 : decode cX4_copyFrom 30 = .ok (.aload_n 1, 1) := by decide +kernel
theorem dX4_copyFrom_31 : decode cX4_copyFrom 31 = .ok (.getfield 18, 3) := by decide +kernel
theorem dX4_copyFrom_34 : decode cX4_copyFrom 34 = .ok (.iconst 0, 1) := by decide +kernel
theorem dX4_copyFrom_35 : decode cX4_copyFrom 35 = .ok (.aload_n 0, 1) := by decide +kernel
theorem dX4_copyFrom_36 : decode cX4_copyFrom 36 = .ok (.getfield 18, 3) := by decide +kernel
theorem dX4_copyFrom_39 : decode cX4_copyFrom 39 = .ok (.iconst 0, 1) := by decide +kernel
theorem dX4_copyFrom_40 : decode cX4_copyFrom 40 = .ok (.bipush 24, 2) := by decide +kernel
theorem dX4_copyFrom_42 : decode cX4_copyFrom 42 = .ok (.invokestatic 34, 3) := by decide +kernel
theorem dX4_copyFrom_45 : decode cX4_copyFrom 45 = .ok (.aload_n 1, 1) := by decide +kernel
theorem dX4_copyFrom_46 : decode cX4_copyFrom 46 = .ok (.getfield 21, 3) := by decide +kernel
theorem dX4_copyFrom_49 : decode cX4_copyFrom 49 = .ok (.iconst 0, 1) := by decide +kernel
theorem dX4_copyFrom_50 : decode cX4_copyFrom 50 = .ok (.aload_n 0, 1) := by decide +kernel
theorem dX4_copyFrom_51 : decode cX4_copyFrom 51 = .ok (.getfield 21, 3) := by decide +kernel
theorem dX4_copyFrom_54 : decode cX4_copyFrom 54 = .ok (.iconst 0, 1) := by decide +kernel
theorem dX4_copyFrom_55 : decode cX4_copyFrom 55 = .ok (.bipush 120, 2) := by decide +kernel
theorem dX4_copyFrom_57 : decode cX4_copyFrom 57 = .ok (.invokestatic 34, 3) := by decide +kernel
theorem dX4_copyFrom_60 : decode cX4_copyFrom 60 = .ok (.return_, 1) := by decide +kernel
