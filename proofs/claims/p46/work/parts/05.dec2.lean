theorem dX5_init_0 : decode cX5_init 0 = .ok (.aload_n 0, 1) := by decide +kernel
theorem dX5_init_1 : decode cX5_init 1 = .ok (.invokespecial 3, 3) := by decide +kernel
theorem dX5_init_4 : decode cX5_init 4 = .ok (.aload_n 0, 1) := by decide +kernel
theorem dX5_init_5 : decode cX5_init 5 = .ok (.bipush 30, 2) := by decide +kernel
theorem dX5_init_7 : decode cX5_init 7 = .ok (.newarray .int, 2) := by decide +kernel
theorem dX5_init_9 : decode cX5_init 9 = .ok (.putfield 9, 3) := by decide +kernel
theorem dX5_init_12 : decode cX5_init 12 = .ok (.aload_n 0, 1) := by decide +kernel
theorem dX5_init_13 : decode cX5_init 13 = .ok (.bipush 30, 2) := by decide +kernel
theorem dX5_init_15 : decode cX5_init 15 = .ok (.newarray .int, 2) := by decide +kernel
theorem dX5_init_17 : decode cX5_init 17 = .ok (.putfield 15, 3) := by decide +kernel
theorem dX5_init_20 : decode cX5_init 20 = .ok (.aload_n 0, 1) := by decide +kernel
theorem dX5_init_21 : decode cX5_init 21 = .ok (.bipush 30, 2) := by decide +kernel
theorem dX5_init_23 : decode cX5_init 23 = .ok (.newarray .int, 2) := by decide +kernel
theorem dX5_init_25 : decode cX5_init 25 = .ok (.putfield 18, 3) := by decide +kernel
theorem dX5_init_28 : decode cX5_init 28 = .ok (.aload_n 0, 1) := by decide +kernel
theorem dX5_init_29 : decode cX5_init 29 = .ok (.bipush 30, 2) := by decide +kernel
theorem dX5_init_31 : decode cX5_init 31 = .ok (.newarray .int, 2) := by decide +kernel
theorem dX5_init_33 : decode cX5_init 33 = .ok (.putfield 21, 3) := by decide +kernel
theorem dX5_init_36 : decode cX5_init 36 = .ok (.aload_n 0, 1) := by decide +kernel
theorem dX5_init_37 : decode cX5_init 37 = .ok (.iconst 0, 1) := by decide +kernel
theorem dX5_init_38 : decode cX5_init 38 = .ok (.putfield 24, 3) := by decide +kernel
theorem dX5_init_41 : decode cX5_init 41 = .ok (.aload_n 0, 1) := by decide +kernel
theorem dX5_init_42 : decode cX5_init 42 = .ok (.aload_n 1, 1) := by decide +kernel
theorem dX5_init_43 : decode cX5_init 43 = .ok (.putfield 28, 3) := by decide +kernel
theorem dX5_init_46 : decode cX5_init 46 = .ok (.aload_n 0, 1) := by decide +kernel
theorem dX5_init_47 : decode cX5_init 47 = .ok (.aload_n 2, 1) := by decide +kernel
theorem dX5_init_48 : decode cX5_init 48 = .ok (.putfield 32, 3) := by decide +kernel
theorem dX5_init_51 : decode cX5_init 51 = .ok (.return_, 1) := by decide +kernel
theorem dX6_init_0 : decode cX6_init 0 = .ok (.aload_n 0, 1) := by decide +kernel
theorem dX6_init_1 : decode cX6_init 1 = .ok (.invokespecial 3, 3) := by decide +kernel
theorem dX6_init_4 : decode cX6_init 4 = .ok (.aload_n 0, 1) := by decide +kernel
theorem dX6_init_5 : decode cX6_init 5 = .ok (.iconst 0, 1) := by decide +kernel
theorem dX6_init_6 : decode cX6_init 6 = .ok (.putfield 9, 3) := by decide +kernel
theorem dX6_init_9 : decode cX6_init 9 = .ok (.aload_n 0, 1) := by decide +kernel
theorem dX6_init_10 : decode cX6_init 10 = .ok (.bipush 8, 2) := by decide +kernel
theorem dX6_init_12 : decode cX6_init 12 = .ok (.newarray .int, 2) := by decide +kernel
theorem dX6_init_14 : decode cX6_init 14 = .ok (.putfield 15, 3) := by decide +kernel
theorem dX6_init_17 : decode cX6_init 17 = .ok (.aload_n 0, 1) := by decide +kernel
theorem dX6_init_18 : decode cX6_init 18 = .ok (.bipush 8, 2) := by decide +kernel
theorem dX6_init_20 : decode cX6_init 20 = .ok (.newarray .int, 2) := by decide +kernel
theorem dX6_init_22 : decode cX6_init 22 = .ok (.putfield 19, 3) := by decide +kernel
theorem dX6_init_25 : decode cX6_init 25 = .ok (.aload_n 0, 1) := by decide +kernel
theorem dX6_init_26 : decode cX6_init 26 = .ok (.bipush 8, 2) := by decide +kernel
theorem dX6_init_28 : decode cX6_init 28 = .ok (.newarray .int, 2) := by decide +kernel
theorem dX6_init_30 : decode cX6_init 30 = .ok (.putfield 22, 3) := by decide +kernel
theorem dX6_init_33 : decode cX6_init 33 = .ok (.aload_n 0, 1) := by decide +kernel
theorem dX6_init_34 : decode cX6_init 34 = .ok (.bipush 8, 2) := by decide +kernel
theorem dX6_init_36 : decode cX6_init 36 = .ok (.newarray .int, 2) := by decide +kernel
theorem dX6_init_38 : decode cX6_init 38 = .ok (.putfield 25, 3) := by decide +kernel
theorem dX6_init_41 : decode cX6_init 41 = .ok (.return_, 1) := by decide +kernel
theorem dX6_has_0 : decode cX6_has 0 = .ok (.iload_n 1, 1) := by decide +kernel
theorem dX6_has_1 : decode cX6_has 1 = .ok (.ifCond .lt 15, 3) := by decide +kernel
theorem dX6_has_4 : decode cX6_has 4 = .ok (.iload_n 1, 1) := by decide +kernel
theorem dX6_has_5 : decode cX6_has 5 = .ok (.aload_n 0, 1) := by decide +kernel
theorem dX6_has_6 : decode cX6_has 6 = .ok (.getfield 9, 3) := by decide +kernel
theorem dX6_has_9 : decode cX6_has 9 = .ok (.if_icmp .ge 7, 3) := by decide +kernel
theorem dX6_has_12 : decode cX6_has 12 = .ok (.iconst 1, 1) := by decide +kernel
theorem dX6_has_13 : decode cX6_has 13 = .ok (.goto 4, 3) := by decide +kernel
theorem dX6_has_16 : decode cX6_has 16 = .ok (.iconst 0, 1) := by decide +kernel
theorem dX6_has_17 : decode cX6_has 17 = .ok (.ireturn, 1) := by decide +kernel
theorem dX6_addTerminal_0 : decode cX6_addTerminal 0 = .ok (.aload_n 0, 1) := by decide +kernel
theorem dX6_addTerminal_1 : decode cX6_addTerminal 1 = .ok (.getfield 9, 3) := by decide +kernel
theorem dX6_addTerminal_4 : decode cX6_addTerminal 4 = .ok (.bipush 8, 2) := by decide +kernel
theorem dX6_addTerminal_6 : decode cX6_addTerminal 6 = .ok (.if_icmp .ge 53, 3) := by decide +kernel
theorem dX6_addTerminal_9 : decode cX6_addTerminal 9 = .ok (.aload_n 0, 1) := by decide +kernel
theorem dX6_addTerminal_10 : decode cX6_addTerminal 10 = .ok (.getfield 15, 3) := by decide +kernel
theorem dX6_addTerminal_13 : decode cX6_addTerminal 13 = .ok (.aload_n 0, 1) := by decide +kernel
theorem dX6_addTerminal_14 : decode cX6_addTerminal 14 = .ok (.getfield 9, 3) := by decide +kernel
theorem dX6_addTerminal_17 : decode cX6_addTerminal 17 = .ok (.iload_n 1, 1) := by decide +kernel
theorem dX6_addTerminal_18 : decode cX6_addTerminal 18 = .ok (.iastore, 1) := by decide +kernel
theorem dX6_addTerminal_19 : decode cX6_addTerminal 19 = .ok (.aload_n 0, 1) := by decide +kernel
theorem dX6_addTerminal_20 : decode cX6_addTerminal 20 = .ok (.getfield 19, 3) := by decide +kernel
theorem dX6_addTerminal_23 : decode cX6_addTerminal 23 = .ok (.aload_n 0, 1) := by decide +kernel
theorem dX6_addTerminal_24 : decode cX6_addTerminal 24 = .ok (.getfield 9, 3) := by decide +kernel
theorem dX6_addTerminal_27 : decode cX6_addTerminal 27 = .ok (.iconst 2, 1) := by decide +kernel
theorem dX6_addTerminal_28 : decode cX6_addTerminal 28 = .ok (.iastore, 1) := by decide +kernel
theorem dX6_addTerminal_29 : decode cX6_addTerminal 29 = .ok (.aload_n 0, 1) := by decide +kernel
theorem dX6_addTerminal_30 : decode cX6_addTerminal 30 = .ok (.getfield 22, 3) := by decide +kernel
theorem dX6_addTerminal_33 : decode cX6_addTerminal 33 = .ok (.aload_n 0, 1) := by decide +kernel
theorem dX6_addTerminal_34 : decode cX6_addTerminal 34 = .ok (.getfield 9, 3) := by decide +kernel
theorem dX6_addTerminal_37 : decode cX6_addTerminal 37 = .ok (.iconst 2, 1) := by decide +kernel
theorem dX6_addTerminal_38 : decode cX6_addTerminal 38 = .ok (.iastore, 1) := by decide +kernel
theorem dX6_addTerminal_39 : decode cX6_addTerminal 39 = .ok (.aload_n 0, 1) := by decide +kernel
theorem dX6_addTerminal_40 : decode cX6_addTerminal 40 = .ok (.getfield 25, 3) := by decide +kernel
theorem dX6_addTerminal_43 : decode cX6_addTerminal 43 = .ok (.aload_n 0, 1) := by decide +kernel
theorem dX6_addTerminal_44 : decode cX6_addTerminal 44 = .ok (.getfield 9, 3) := by decide +kernel
theorem dX6_addTerminal_47 : decode cX6_addTerminal 47 = .ok (.iconst 5, 1) := by decide +kernel
theorem dX6_addTerminal_48 : decode cX6_addTerminal 48 = .ok (.iastore, 1) := by decide +kernel
theorem dX6_addTerminal_49 : decode cX6_addTerminal 49 = .ok (.aload_n 0, 1) := by decide +kernel
theorem dX6_addTerminal_50 : decode cX6_addTerminal 50 = .ok (.dup, 1) := by decide +kernel
theorem dX6_addTerminal_51 : decode cX6_addTerminal 51 = .ok (.getfield 9, 3) := by decide +kernel
theorem dX6_addTerminal_54 : decode cX6_addTerminal 54 = .ok (.iconst 1, 1) := by decide +kernel
theorem dX6_addTerminal_55 : decode cX6_addTerminal 55 = .ok (.iadd, 1) := by decide +kernel
theorem dX6_addTerminal_56 : decode cX6_addTerminal 56 = .ok (.putfield 9, 3) := by decide +kernel
theorem dX6_addTerminal_59 : decode cX6_addTerminal 59 = .ok (.return_, 1) := by decide +kernel
theorem dX6_find_0 : decode cX6_find 0 = .ok (.iconst 0, 1) := by decide +kernel
theorem dX6_find_1 : decode cX6_find 1 = .ok (.istore_n 2, 1) := by decide +kernel
theorem dX6_find_2 : decode cX6_find 2 = .ok (.iload_n 2, 1) := by decide +kernel
theorem dX6_find_3 : decode cX6_find 3 = .ok (.aload_n 0, 1) := by decide +kernel
theorem dX6_find_4 : decode cX6_find 4 = .ok (.getfield 9, 3) := by decide +kernel
theorem dX6_find_7 : decode cX6_find 7 = .ok (.if_icmp .ge 21, 3) := by decide +kernel
theorem dX6_find_10 : decode cX6_find 10 = .ok (.aload_n 0, 1) := by decide +kernel
theorem dX6_find_11 : decode cX6_find 11 = .ok (.getfield 15, 3) := by decide +kernel
theorem dX6_find_14 : decode cX6_find 14 = .ok (.iload_n 2, 1) := by decide +kernel
theorem dX6_find_15 : decode cX6_find 15 = .ok (.iaload, 1) := by decide +kernel
theorem dX6_find_16 : decode cX6_find 16 = .ok (.iload_n 1, 1) := by decide +kernel
theorem dX6_find_17 : decode cX6_find 17 = .ok (.if_icmp .ne 5, 3) := by decide +kernel
theorem dX6_find_20 : decode cX6_find 20 = .ok (.iload_n 2, 1) := by decide +kernel
theorem dX6_find_21 : decode cX6_find 21 = .ok (.ireturn, 1) := by decide +kernel
theorem dX6_find_22 : decode cX6_find 22 = .ok (.iinc 2 1, 3) := by decide +kernel
theorem dX6_find_25 : decode cX6_find 25 = .ok (.goto (-23), 3) := by decide +kernel
theorem dX6_find_28 : decode cX6_find 28 = .ok (.iconst (-1), 1) := by decide +kernel
theorem dX6_find_29 : decode cX6_find 29 = .ok (.ireturn, 1) := by decide +kernel
theorem dX6_copyFrom_0 : decode cX6_copyFrom 0 = .ok (.aload_n 0, 1) := by decide +kernel
theorem dX6_copyFrom_1 : decode cX6_copyFrom 1 = .ok (.aload_n 1, 1) := by decide +kernel
theorem dX6_copyFrom_2 : decode cX6_copyFrom 2 = .ok (.getfield 9, 3) := by decide +kernel
theorem dX6_copyFrom_5 : decode cX6_copyFrom 5 = .ok (.putfield 9, 3) := by decide +kernel
theorem dX6_copyFrom_8 : decode cX6_copyFrom 8 = .ok (.aload_n 1, 1) := by decide +kernel
theorem dX6_copyFrom_9 : decode cX6_copyFrom 9 = .ok (.getfield 15, 3) := by decide +kernel
theorem dX6_copyFrom_12 : decode cX6_copyFrom 12 = .ok (.iconst 0, 1) := by decide +kernel
theorem dX6_copyFrom_13 : decode cX6_copyFrom 13 = .ok (.aload_n 0, 1) := by decide +kernel
theorem dX6_copyFrom_14 : decode cX6_copyFrom 14 = .ok (.getfield 15, 3) := by decide +kernel
theorem dX6_copyFrom_17 : decode cX6_copyFrom 17 = .ok (.iconst 0, 1) := by decide +kernel
theorem dX6_copyFrom_18 : decode cX6_copyFrom 18 = .ok (.bipush 8, 2) := by decide +kernel
theorem dX6_copyFrom_20 : decode cX6_copyFrom 20 = .ok (.invokestatic 32, 3) := by decide +kernel
theorem dX6_copyFrom_23 : decode cX6_copyFrom 23 = .ok (.aload_n 1, 1) := by decide +kernel
theorem dX6_copyFrom_24 : decode cX6_copyFrom 24 = .ok (.getfield 19, 3) := by decide +kernel
theorem dX6_copyFrom_27 : decode cX6_copyFrom 27 = .ok (.iconst 0, 1) := by decide +kernel
theorem dX6_copyFrom_28 : decode cX6_copyFrom 28 = .ok (.aload_n 0, 1) := by decide +kernel
theorem dX6_copyFrom_29 : decode cX6_copyFrom 29 = .ok (.getfield 19, 3) := by decide +kernel
theorem dX6_copyFrom_32 : decode cX6_copyFrom 32 = .ok (.iconst 0, 1) := by decide +kernel
theorem dX6_copyFrom_33 : decode cX6_copyFrom 33 = .ok (.bipush 8, 2) := by decide +kernel
theorem dX6_copyFrom_35 : decode cX6_copyFrom 35 = .ok (.invokestatic 32, 3) := by decide +kernel
theorem dX6_copyFrom_38 : decode cX6_copyFrom 38 = .ok (.aload_n 1, 1) := by decide +kernel
theorem dX6_copyFrom_39 : decode cX6_copyFrom 39 = .ok (.getfield 22, 3) := by decide +kernel
theorem dX6_copyFrom_42 : decode cX6_copyFrom 42 = .ok (.iconst 0, 1) := by decide +kernel
theorem dX6_copyFrom_43 : decode cX6_copyFrom 43 = .ok (.aload_n 0, 1) := by decide +kernel
theorem dX6_copyFrom_44 : decode cX6_copyFrom 44 = .ok (.getfield 22, 3) := by decide +kernel
theorem dX6_copyFrom_47 : decode cX6_copyFrom 47 = .ok (.iconst 0, 1) := by decide +kernel
theorem dX6_copyFrom_48 : decode cX6_copyFrom 48 = .ok (.bipush 8, 2) := by decide +kernel
theorem dX6_copyFrom_50 : decode cX6_copyFrom 50 = .ok (.invokestatic 32, 3) := by decide +kernel
theorem dX6_copyFrom_53 : decode cX6_copyFrom 53 = .ok (.aload_n 1, 1) := by decide +kernel
theorem dX6_copyFrom_54 : decode cX6_copyFrom 54 = .ok (.getfield 25, 3) := by decide +kernel
theorem dX6_copyFrom_57 : decode cX6_copyFrom 57 = .ok (.iconst 0, 1) := by decide +kernel
theorem dX6_copyFrom_58 : decode cX6_copyFrom 58 = .ok (.aload_n 0, 1) := by decide +kernel
theorem dX6_copyFrom_59 : decode cX6_copyFrom 59 = .ok (.getfield 25, 3) := by decide +kernel
theorem dX6_copyFrom_62 : decode cX6_copyFrom 62 = .ok (.iconst 0, 1) := by decide +kernel
theorem dX6_copyFrom_63 : decode cX6_copyFrom 63 = .ok (.bipush 8, 2) := by decide +kernel
theorem dX6_copyFrom_65 : decode cX6_copyFrom 65 = .ok (.invokestatic 32, 3) := by decide +kernel
theorem dX6_copyFrom_68 : decode cX6_copyFrom 68 = .ok (.return_, 1) := by decide +kernel
theorem dX7_init_0 : decode cX7_init 0 = .ok (.aload_n 0, 1) := by decide +kernel
theorem dX7_init_1 : decode cX7_init 1 = .ok (.invokespecial 3, 3) := by decide +kernel
theorem dX7_init_4 : decode cX7_init 4 = .ok (.aload_n 0, 1) := by decide +kernel
theorem dX7_init_5 : decode cX7_init 5 = .ok (.new 9, 3) := by decide +kernel
theorem dX7_init_8 : decode cX7_init 8 = .ok (.dup, 1) := by decide +kernel
theorem dX7_init_9 : decode cX7_init 9 = .ok (.invokespecial 11, 3) := by decide +kernel
theorem dX7_init_12 : decode cX7_init 12 = .ok (.putfield 12, 3) := by decide +kernel
theorem dX7_init_15 : decode cX7_init 15 = .ok (.aload_n 0, 1) := by decide +kernel
theorem dX7_init_16 : decode cX7_init 16 = .ok (.bipush 6, 2) := by decide +kernel
theorem dX7_init_18 : decode cX7_init 18 = .ok (.newarray .int, 2) := by decide +kernel
theorem dX7_init_20 : decode cX7_init 20 = .ok (.putfield 18, 3) := by decide +kernel
theorem dX7_init_23 : decode cX7_init 23 = .ok (.aload_n 0, 1) := by decide +kernel
theorem dX7_init_24 : decode cX7_init 24 = .ok (.bipush 16, 2) := by decide +kernel
theorem dX7_init_26 : decode cX7_init 26 = .ok (.newarray .int, 2) := by decide +kernel
theorem dX7_init_28 : decode cX7_init 28 = .ok (.putfield 22, 3) := by decide +kernel
theorem dX7_init_31 : decode cX7_init 31 = .ok (.aload_n 0, 1) := by decide +kernel
theorem dX7_init_32 : decode cX7_init 32 = .ok (.iconst 0, 1) := by decide +kernel
theorem dX7_init_33 : decode cX7_init 33 = .ok (.putfield 25, 3) := by decide +kernel
theorem dX7_init_36 : decode cX7_init 36 = .ok (.aload_n 0, 1) := by decide +kernel
theorem dX7_init_37 : decode cX7_init 37 = .ok (.iconst 1, 1) := by decide +kernel
theorem dX7_init_38 : decode cX7_init 38 = .ok (.putfield 29, 3) := by decide +kernel
theorem dX7_init_41 : decode cX7_init 41 = .ok (.aload_n 0, 1) := by decide +kernel
theorem dX7_init_42 : decode cX7_init 42 = .ok (.iconst 0, 1) := by decide +kernel
theorem dX7_init_43 : decode cX7_init 43 = .ok (.putfield 32, 3) := by decide +kernel
theorem dX7_init_46 : decode cX7_init 46 = .ok (.aload_n 0, 1) := by decide +kernel
theorem dX7_init_47 : decode cX7_init 47 = .ok (.aload_n 1, 1) := by decide +kernel
theorem dX7_init_48 : decode cX7_init 48 = .ok (.putfield 35, 3) := by decide +kernel
theorem dX7_init_51 : decode cX7_init 51 = .ok (.return_, 1) := by decide +kernel
theorem dX7_readText_0 : decode cX7_readText 0 = .ok (.aload_n 0, 1) := by decide +kernel
theorem dX7_readText_1 : decode cX7_readText 1 = .ok (.getfield 12, 3) := by decide +kernel
theorem dX7_readText_4 : decode cX7_readText 4 = .ok (.iconst 0, 1) := by decide +kernel
theorem dX7_readText_5 : decode cX7_readText 5 = .ok (.putfield 39, 3) := by decide +kernel
theorem dX7_readText_8 : decode cX7_readText 8 = .ok (.getstatic 42, 3) := by decide +kernel
theorem dX7_readText_11 : decode cX7_readText 11 = .ok (.iconst 0, 1) := by decide +kernel
theorem dX7_readText_12 : decode cX7_readText 12 = .ok (.aload_n 0, 1) := by decide +kernel
theorem dX7_readText_13 : decode cX7_readText 13 = .ok (.getfield 18, 3) := by decide +kernel
theorem dX7_readText_16 : decode cX7_readText 16 = .ok (.iconst 0, 1) := by decide +kernel
theorem dX7_readText_17 : decode cX7_readText 17 = .ok (.bipush 6, 2) := by decide +kernel
theorem dX7_readText_19 : decode cX7_readText 19 = .ok (.invokestatic 45, 3) := by decide +kernel
theorem dX7_readText_22 : decode cX7_readText 22 = .ok (.aload_n 0, 1) := by decide +kernel
theorem dX7_readText_23 : decode cX7_readText 23 = .ok (.iconst 0, 1) := by decide +kernel
theorem dX7_readText_24 : decode cX7_readText 24 = .ok (.putfield 25, 3) := by decide +kernel
theorem dX7_readText_27 : decode cX7_readText 27 = .ok (.aload_n 0, 1) := by decide +kernel
theorem dX7_readText_28 : decode cX7_readText 28 = .ok (.iconst 1, 1) := by decide +kernel
theorem dX7_readText_29 : decode cX7_readText 29 = .ok (.putfield 29, 3) := by decide +kernel
theorem dX7_readText_32 : decode cX7_readText 32 = .ok (.aload_n 0, 1) := by decide +kernel
theorem dX7_readText_33 : decode cX7_readText 33 = .ok (.iconst 0, 1) := by decide +kernel
theorem dX7_readText_34 : decode cX7_readText 34 = .ok (.putfield 32, 3) := by decide +kernel
theorem dX7_readText_37 : decode cX7_readText 37 = .ok (.aload_n 0, 1) := by decide +kernel
theorem dX7_readText_38 : decode cX7_readText 38 = .ok (.getfield 35, 3) := by decide +kernel
theorem dX7_readText_41 : decode cX7_readText 41 = .ok (.invokevirtual 51, 3) := by decide +kernel
theorem dX7_readText_44 : decode cX7_readText 44 = .ok (.iconst 0, 1) := by decide +kernel
theorem dX7_readText_45 : decode cX7_readText 45 = .ok (.istore_n 1, 1) := by decide +kernel
theorem dX7_readText_46 : decode cX7_readText 46 = .ok (.iload_n 1, 1) := by decide +kernel
theorem dX7_readText_47 : decode cX7_readText 47 = .ok (.sipush 600, 3) := by decide +kernel
theorem dX7_readText_50 : decode cX7_readText 50 = .ok (.if_icmp .ge 38, 3) := by decide +kernel
theorem dX7_readText_53 : decode cX7_readText 53 = .ok (.aload_n 0, 1) := by decide +kernel
theorem dX7_readText_54 : decode cX7_readText 54 = .ok (.getfield 35, 3) := by decide +kernel
theorem dX7_readText_57 : decode cX7_readText 57 = .ok (.invokevirtual 56, 3) := by decide +kernel
theorem dX7_readText_60 : decode cX7_readText 60 = .ok (.ifCond .ne 28, 3) := by decide +kernel
theorem dX7_readText_63 : decode cX7_readText 63 = .ok (.aload_n 0, 1) := by decide +kernel
theorem dX7_readText_64 : decode cX7_readText 64 = .ok (.invokevirtual 60, 3) := by decide +kernel
theorem dX7_readText_67 : decode cX7_readText 67 = .ok (.ifCond .eq 13, 3) := by decide +kernel
theorem dX7_readText_70 : decode cX7_readText 70 = .ok (.aload_n 0, 1) := by decide +kernel
theorem dX7_readText_71 : decode cX7_readText 71 = .ok (.getfield 35, 3) := by decide +kernel
theorem dX7_readText_74 : decode cX7_readText 74 = .ok (.invokevirtual 63, 3) := by decide +kernel
theorem dX7_readText_77 : decode cX7_readText 77 = .ok (.ifCond .ne 5, 3) := by decide +kernel
theorem dX7_readText_80 : decode cX7_readText 80 = .ok (.iconst 0, 1) := by decide +kernel
theorem dX7_readText_81 : decode cX7_readText 81 = .ok (.ireturn, 1) := by decide +kernel
theorem dX7_readText_82 : decode cX7_readText 82 = .ok (.iinc 1 1, 3) := by decide +kernel
theorem dX7_readText_85 : decode cX7_readText 85 = .ok (.goto (-39), 3) := by decide +kernel
theorem dX7_readText_88 : decode cX7_readText 88 = .ok (.aload_n 0, 1) := by decide +kernel
theorem dX7_readText_89 : decode cX7_readText 89 = .ok (.getfield 12, 3) := by decide +kernel
theorem dX7_readText_92 : decode cX7_readText 92 = .ok (.getfield 39, 3) := by decide +kernel
theorem dX7_readText_95 : decode cX7_readText 95 = .ok (.ifCond .gt 14, 3) := by decide +kernel
theorem dX7_readText_98 : decode cX7_readText 98 = .ok (.aload_n 0, 1) := by decide +kernel
theorem dX7_readText_99 : decode cX7_readText 99 = .ok (.getfield 35, 3) := by decide +kernel
theorem dX7_readText_102 : decode cX7_readText 102 = .ok (.iconst 1, 1) := by decide +kernel
theorem dX7_readText_103 : decode cX7_readText 103 = .ok (.invokevirtual 66, 3) := by decide +kernel
theorem dX7_readText_106 : decode cX7_readText 106 = .ok (.ifCond .eq 7, 3) := by decide +kernel
theorem dX7_readText_109 : decode cX7_readText 109 = .ok (.iconst 1, 1) := by decide +kernel
theorem dX7_readText_110 : decode cX7_readText 110 = .ok (.goto 4, 3) := by decide +kernel
theorem dX7_readText_113 : decode cX7_readText 113 = .ok (.iconst 0, 1) := by decide +kernel
theorem dX7_readText_114 : decode cX7_readText 114 = .ok (.ireturn, 1) := by decide +kernel
theorem dX7_readStatement_0 : decode cX7_readStatement 0 = .ok (.aload_n 0, 1) := by decide +kernel
theorem dX7_readStatement_1 : decode cX7_readStatement 1 = .ok (.getfield 35, 3) := by decide +kernel
theorem dX7_readStatement_4 : decode cX7_readStatement 4 = .ok (.ldc 70, 2) := by decide +kernel
theorem dX7_readStatement_6 : decode cX7_readStatement 6 = .ok (.invokevirtual 72, 3) := by decide +kernel
theorem dX7_readStatement_9 : decode cX7_readStatement 9 = .ok (.ifCond .eq 8, 3) := by decide +kernel
theorem dX7_readStatement_12 : decode cX7_readStatement 12 = .ok (.aload_n 0, 1) := by decide +kernel
theorem dX7_readStatement_13 : decode cX7_readStatement 13 = .ok (.invokevirtual 76, 3) := by decide +kernel
theorem dX7_readStatement_16 : decode cX7_readStatement 16 = .ok (.ireturn, 1) := by decide +kernel
theorem dX7_readStatement_17 : decode cX7_readStatement 17 = .ok (.aload_n 0, 1) := by decide +kernel
theorem dX7_readStatement_18 : decode cX7_readStatement 18 = .ok (.getfield 35, 3) := by decide +kernel
theorem dX7_readStatement_21 : decode cX7_readStatement 21 = .ok (.ldc 79, 2) := by decide +kernel
theorem dX7_readStatement_23 : decode cX7_readStatement 23 = .ok (.invokevirtual 72, 3) := by decide +kernel
theorem dX7_readStatement_26 : decode cX7_readStatement 26 = .ok (.ifCond .eq 24, 3) := by decide +kernel
theorem dX7_readStatement_29 : decode cX7_readStatement 29 = .ok (.aload_n 0, 1) := by decide +kernel
theorem dX7_readStatement_30 : decode cX7_readStatement 30 = .ok (.iconst 1, 1) := by decide +kernel
theorem dX7_readStatement_31 : decode cX7_readStatement 31 = .ok (.invokevirtual 80, 3) := by decide +kernel
theorem dX7_readStatement_34 : decode cX7_readStatement 34 = .ok (.ifCond .eq 14, 3) := by decide +kernel
theorem dX7_readStatement_37 : decode cX7_readStatement 37 = .ok (.aload_n 0, 1) := by decide +kernel
theorem dX7_readStatement_38 : decode cX7_readStatement 38 = .ok (.invokevirtual 83, 3) := by decide +kernel
theorem dX7_readStatement_41 : decode cX7_readStatement 41 = .ok (.ifCond .eq 7, 3) := by decide +kernel
theorem dX7_readStatement_44 : decode cX7_readStatement 44 = .ok (.iconst 1, 1) := by decide +kernel
theorem dX7_readStatement_45 : decode cX7_readStatement 45 = .ok (.goto 4, 3) := by decide +kernel
theorem dX7_readStatement_48 : decode cX7_readStatement 48 = .ok (.iconst 0, 1) := by decide +kernel
theorem dX7_readStatement_49 : decode cX7_readStatement 49 = .ok (.ireturn, 1) := by decide +kernel
theorem dX7_readStatement_50 : decode cX7_readStatement 50 = .ok (.aload_n 0, 1) := by decide +kernel
theorem dX7_readStatement_51 : decode cX7_readStatement 51 = .ok (.getfield 35, 3) := by decide +kernel
theorem dX7_readStatement_54 : decode cX7_readStatement 54 = .ok (.ldc 86, 2) := by decide +kernel
theorem dX7_readStatement_56 : decode cX7_readStatement 56 = .ok (.invokevirtual 72, 3) := by decide +kernel
theorem dX7_readStatement_59 : decode cX7_readStatement 59 = .ok (.ifCond .eq 26, 3) := by decide +kernel
theorem dX7_readStatement_62 : decode cX7_readStatement 62 = .ok (.aload_n 0, 1) := by decide +kernel
theorem dX7_readStatement_63 : decode cX7_readStatement 63 = .ok (.iconst 2, 1) := by decide +kernel
theorem dX7_readStatement_64 : decode cX7_readStatement 64 = .ok (.invokevirtual 80, 3) := by decide +kernel
theorem dX7_readStatement_67 : decode cX7_readStatement 67 = .ok (.ifCond .eq 16, 3) := by decide +kernel
theorem dX7_readStatement_70 : decode cX7_readStatement 70 = .ok (.aload_n 0, 1) := by decide +kernel
theorem dX7_readStatement_71 : decode cX7_readStatement 71 = .ok (.iconst 0, 1) := by decide +kernel
theorem dX7_readStatement_72 : decode cX7_readStatement 72 = .ok (.iconst 3, 1) := by decide +kernel
theorem dX7_readStatement_73 : decode cX7_readStatement 73 = .ok (.invokevirtual 88, 3) := by decide +kernel
theorem dX7_readStatement_76 : decode cX7_readStatement 76 = .ok (.ifCond .eq 7, 3) := by decide +kernel
theorem dX7_readStatement_79 : decode cX7_readStatement 79 = .ok (.iconst 1, 1) := by decide +kernel
theorem dX7_readStatement_80 : decode cX7_readStatement 80 = .ok (.goto 4, 3) := by decide +kernel
theorem dX7_readStatement_83 : decode cX7_readStatement 83 = .ok (.iconst 0, 1) := by decide +kernel
theorem dX7_readStatement_84 : decode cX7_readStatement 84 = .ok (.ireturn, 1) := by decide +kernel
theorem dX7_readStatement_85 : decode cX7_readStatement 85 = .ok (.aload_n 0, 1) := by decide +kernel
theorem dX7_readStatement_86 : decode cX7_readStatement 86 = .ok (.getfield 35, 3) := by decide +kernel
theorem dX7_readStatement_89 : decode cX7_readStatement 89 = .ok (.ldc 92, 2) := by decide +kernel
theorem dX7_readStatement_91 : decode cX7_readStatement 91 = .ok (.invokevirtual 72, 3) := by decide +kernel
theorem dX7_readStatement_94 : decode cX7_readStatement 94 = .ok (.ifCond .eq 26, 3) := by decide +kernel
theorem dX7_readStatement_97 : decode cX7_readStatement 97 = .ok (.aload_n 0, 1) := by decide +kernel
theorem dX7_readStatement_98 : decode cX7_readStatement 98 = .ok (.iconst 4, 1) := by decide +kernel
theorem dX7_readStatement_99 : decode cX7_readStatement 99 = .ok (.invokevirtual 80, 3) := by decide +kernel
theorem dX7_readStatement_102 : decode cX7_readStatement 102 = .ok (.ifCond .eq 16, 3) := by decide +kernel
theorem dX7_readStatement_105 : decode cX7_readStatement 105 = .ok (.aload_n 0, 1) := by decide +kernel
theorem dX7_readStatement_106 : decode cX7_readStatement 106 = .ok (.iconst 4, 1) := by decide +kernel
theorem dX7_readStatement_107 : decode cX7_readStatement 107 = .ok (.iconst 4, 1) := by decide +kernel
theorem dX7_readStatement_108 : decode cX7_readStatement 108 = .ok (.invokevirtual 88, 3) := by decide +kernel
theorem dX7_readStatement_111 : decode cX7_readStatement 111 = .ok (.ifCond .eq 7, 3) := by decide +kernel
theorem dX7_readStatement_114 : decode cX7_readStatement 114 = .ok (.iconst 1, 1) := by decide +kernel
theorem dX7_readStatement_115 : decode cX7_readStatement 115 = .ok (.goto 4, 3) := by decide +kernel
theorem dX7_readStatement_118 : decode cX7_readStatement 118 = .ok (.iconst 0, 1) := by decide +kernel
theorem dX7_readStatement_119 : decode cX7_readStatement 119 = .ok (.ireturn, 1) := by decide +kernel
theorem dX7_readStatement_120 : decode cX7_readStatement 120 = .ok (.aload_n 0, 1) := by decide +kernel
theorem dX7_readStatement_121 : decode cX7_readStatement 121 = .ok (.getfield 35, 3) := by decide +kernel
theorem dX7_readStatement_124 : decode cX7_readStatement 124 = .ok (.ldc 94, 2) := by decide +kernel
theorem dX7_readStatement_126 : decode cX7_readStatement 126 = .ok (.invokevirtual 72, 3) := by decide +kernel
theorem dX7_readStatement_129 : decode cX7_readStatement 129 = .ok (.ifCond .eq 34, 3) := by decide +kernel
theorem dX7_readStatement_132 : decode cX7_readStatement 132 = .ok (.aload_n 0, 1) := by decide +kernel
theorem dX7_readStatement_133 : decode cX7_readStatement 133 = .ok (.bipush 8, 2) := by decide +kernel
theorem dX7_readStatement_135 : decode cX7_readStatement 135 = .ok (.invokevirtual 80, 3) := by decide +kernel
theorem dX7_readStatement_138 : decode cX7_readStatement 138 = .ok (.ifCond .eq 23, 3) := by decide +kernel
theorem dX7_readStatement_141 : decode cX7_readStatement 141 = .ok (.aload_n 0, 1) := by decide +kernel
theorem dX7_readStatement_142 : decode cX7_readStatement 142 = .ok (.iconst 5, 1) := by decide +kernel
theorem dX7_readStatement_143 : decode cX7_readStatement 143 = .ok (.iconst 5, 1) := by decide +kernel
theorem dX7_readStatement_144 : decode cX7_readStatement 144 = .ok (.invokevirtual 88, 3) := by decide +kernel
theorem dX7_readStatement_147 : decode cX7_readStatement 147 = .ok (.ifCond .eq 14, 3) := by decide +kernel
theorem dX7_readStatement_150 : decode cX7_readStatement 150 = .ok (.aload_n 0, 1) := by decide +kernel
theorem dX7_readStatement_151 : decode cX7_readStatement 151 = .ok (.invokevirtual 96, 3) := by decide +kernel
theorem dX7_readStatement_154 : decode cX7_readStatement 154 = .ok (.ifCond .eq 7, 3) := by decide +kernel
theorem dX7_readStatement_157 : decode cX7_readStatement 157 = .ok (.iconst 1, 1) := by decide +kernel
theorem dX7_readStatement_158 : decode cX7_readStatement 158 = .ok (.goto 4, 3) := by decide +kernel
theorem dX7_readStatement_161 : decode cX7_readStatement 161 = .ok (.iconst 0, 1) := by decide +kernel
theorem dX7_readStatement_162 : decode cX7_readStatement 162 = .ok (.ireturn, 1) := by decide +kernel
theorem dX7_readStatement_163 : decode cX7_readStatement 163 = .ok (.aload_n 0, 1) := by decide +kernel
theorem dX7_readStatement_164 : decode cX7_readStatement 164 = .ok (.getfield 35, 3) := by decide +kernel
theorem dX7_readStatement_167 : decode cX7_readStatement 167 = .ok (.iconst 1, 1) := by decide +kernel
theorem dX7_readStatement_168 : decode cX7_readStatement 168 = .ok (.invokevirtual 66, 3) := by decide +kernel
theorem dX7_readStatement_171 : decode cX7_readStatement 171 = .ok (.ireturn, 1) := by decide +kernel
theorem dX7_beginOnce_0 : decode cX7_beginOnce 0 = .ok (.aload_n 0, 1) := by decide +kernel
theorem dX7_beginOnce_1 : decode cX7_beginOnce 1 = .ok (.getfield 32, 3) := by decide +kernel
theorem dX7_beginOnce_4 : decode cX7_beginOnce 4 = .ok (.iload_n 1, 1) := by decide +kernel
theorem dX7_beginOnce_5 : decode cX7_beginOnce 5 = .ok (.iand, 1) := by decide +kernel
theorem dX7_beginOnce_6 : decode cX7_beginOnce 6 = .ok (.ifCond .eq 12, 3) := by decide +kernel
theorem dX7_beginOnce_9 : decode cX7_beginOnce 9 = .ok (.aload_n 0, 1) := by decide +kernel
theorem dX7_beginOnce_10 : decode cX7_beginOnce 10 = .ok (.getfield 35, 3) := by decide +kernel
theorem dX7_beginOnce_13 : decode cX7_beginOnce 13 = .ok (.iconst 4, 1) := by decide +kernel
theorem dX7_beginOnce_14 : decode cX7_beginOnce 14 = .ok (.invokevirtual 66, 3) := by decide +kernel
theorem dX7_beginOnce_17 : decode cX7_beginOnce 17 = .ok (.ireturn, 1) := by decide +kernel
theorem dX7_beginOnce_18 : decode cX7_beginOnce 18 = .ok (.aload_n 0, 1) := by decide +kernel
theorem dX7_beginOnce_19 : decode cX7_beginOnce 19 = .ok (.dup, 1) := by decide +kernel
theorem dX7_beginOnce_20 : decode cX7_beginOnce 20 = .ok (.getfield 32, 3) := by decide +kernel
theorem dX7_beginOnce_23 : decode cX7_beginOnce 23 = .ok (.iload_n 1, 1) := by decide +kernel
theorem dX7_beginOnce_24 : decode cX7_beginOnce 24 = .ok (.ior, 1) := by decide +kernel
theorem dX7_beginOnce_25 : decode cX7_beginOnce 25 = .ok (.putfield 32, 3) := by decide +kernel
theorem dX7_beginOnce_28 : decode cX7_beginOnce 28 = .ok (.aload_n 0, 1) := by decide +kernel
theorem dX7_beginOnce_29 : decode cX7_beginOnce 29 = .ok (.getfield 35, 3) := by decide +kernel
theorem dX7_beginOnce_32 : decode cX7_beginOnce 32 = .ok (.invokevirtual 99, 3) := by decide +kernel
theorem dX7_beginOnce_35 : decode cX7_beginOnce 35 = .ok (.iconst 1, 1) := by decide +kernel
theorem dX7_beginOnce_36 : decode cX7_beginOnce 36 = .ok (.ireturn, 1) := by decide +kernel
theorem dX7_readTerminal_0 : decode cX7_readTerminal 0 = .ok (.aload_n 0, 1) := by decide +kernel
theorem dX7_readTerminal_1 : decode cX7_readTerminal 1 = .ok (.getfield 12, 3) := by decide +kernel
theorem dX7_readTerminal_4 : decode cX7_readTerminal 4 = .ok (.getfield 39, 3) := by decide +kernel
theorem dX7_readTerminal_7 : decode cX7_readTerminal 7 = .ok (.bipush 8, 2) := by decide +kernel
theorem dX7_readTerminal_9 : decode cX7_readTerminal 9 = .ok (.if_icmp .lt 12, 3) := by decide +kernel
theorem dX7_readTerminal_12 : decode cX7_readTerminal 12 = .ok (.aload_n 0, 1) := by decide +kernel
theorem dX7_readTerminal_13 : decode cX7_readTerminal 13 = .ok (.getfield 35, 3) := by decide +kernel
theorem dX7_readTerminal_16 : decode cX7_readTerminal 16 = .ok (.iconst 5, 1) := by decide +kernel
theorem dX7_readTerminal_17 : decode cX7_readTerminal 17 = .ok (.invokevirtual 66, 3) := by decide +kernel
theorem dX7_readTerminal_20 : decode cX7_readTerminal 20 = .ok (.ireturn, 1) := by decide +kernel
theorem dX7_readTerminal_21 : decode cX7_readTerminal 21 = .ok (.aload_n 0, 1) := by decide +kernel
theorem dX7_readTerminal_22 : decode cX7_readTerminal 22 = .ok (.getfield 35, 3) := by decide +kernel
theorem dX7_readTerminal_25 : decode cX7_readTerminal 25 = .ok (.invokevirtual 99, 3) := by decide +kernel
theorem dX7_readTerminal_28 : decode cX7_readTerminal 28 = .ok (.aload_n 0, 1) := by decide +kernel
theorem dX7_readTerminal_29 : decode cX7_readTerminal 29 = .ok (.getfield 35, 3) := by decide +kernel
theorem dX7_readTerminal_32 : decode cX7_readTerminal 32 = .ok (.invokevirtual 102, 3) := by decide +kernel
theorem dX7_readTerminal_35 : decode cX7_readTerminal 35 = .ok (.istore_n 1, 1) := by decide +kernel
theorem dX7_readTerminal_36 : decode cX7_readTerminal 36 = .ok (.iload_n 1, 1) := by decide +kernel
theorem dX7_readTerminal_37 : decode cX7_readTerminal 37 = .ok (.iconst (-1), 1) := by decide +kernel
theorem dX7_readTerminal_38 : decode cX7_readTerminal 38 = .ok (.if_icmp .ne 12, 3) := by decide +kernel
theorem dX7_readTerminal_41 : decode cX7_readTerminal 41 = .ok (.aload_n 0, 1) := by decide +kernel
theorem dX7_readTerminal_42 : decode cX7_readTerminal 42 = .ok (.getfield 35, 3) := by decide +kernel
theorem dX7_readTerminal_45 : decode cX7_readTerminal 45 = .ok (.iconst 1, 1) := by decide +kernel
theorem dX7_readTerminal_46 : decode cX7_readTerminal 46 = .ok (.invokevirtual 66, 3) := by decide +kernel
theorem dX7_readTerminal_49 : decode cX7_readTerminal 49 = .ok (.ireturn, 1) := by decide +kernel
theorem dX7_readTerminal_50 : decode cX7_readTerminal 50 = .ok (.aload_n 0, 1) := by decide +kernel
theorem dX7_readTerminal_51 : decode cX7_readTerminal 51 = .ok (.getfield 12, 3) := by decide +kernel
theorem dX7_readTerminal_54 : decode cX7_readTerminal 54 = .ok (.iload_n 1, 1) := by decide +kernel
theorem dX7_readTerminal_55 : decode cX7_readTerminal 55 = .ok (.invokevirtual 106, 3) := by decide +kernel
theorem dX7_readTerminal_58 : decode cX7_readTerminal 58 = .ok (.iconst (-1), 1) := by decide +kernel
theorem dX7_readTerminal_59 : decode cX7_readTerminal 59 = .ok (.if_icmp .eq 12, 3) := by decide +kernel
theorem dX7_readTerminal_62 : decode cX7_readTerminal 62 = .ok (.aload_n 0, 1) := by decide +kernel
theorem dX7_readTerminal_63 : decode cX7_readTerminal 63 = .ok (.getfield 35, 3) := by decide +kernel
theorem dX7_readTerminal_66 : decode cX7_readTerminal 66 = .ok (.iconst 4, 1) := by decide +kernel
theorem dX7_readTerminal_67 : decode cX7_readTerminal 67 = .ok (.invokevirtual 66, 3) := by decide +kernel
theorem dX7_readTerminal_70 : decode cX7_readTerminal 70 = .ok (.ireturn, 1) := by decide +kernel
theorem dX7_readTerminal_71 : decode cX7_readTerminal 71 = .ok (.aload_n 0, 1) := by decide +kernel
theorem dX7_readTerminal_72 : decode cX7_readTerminal 72 = .ok (.getfield 12, 3) := by decide +kernel
theorem dX7_readTerminal_75 : decode cX7_readTerminal 75 = .ok (.iload_n 1, 1) := by decide +kernel
theorem dX7_readTerminal_76 : decode cX7_readTerminal 76 = .ok (.invokevirtual 110, 3) := by decide +kernel
theorem dX7_readTerminal_79 : decode cX7_readTerminal 79 = .ok (.aload_n 0, 1) := by decide +kernel
theorem dX7_readTerminal_80 : decode cX7_readTerminal 80 = .ok (.getfield 35, 3) := by decide +kernel
theorem dX7_readTerminal_83 : decode cX7_readTerminal 83 = .ok (.invokevirtual 99, 3) := by decide +kernel
theorem dX7_readTerminal_86 : decode cX7_readTerminal 86 = .ok (.aload_n 0, 1) := by decide +kernel
theorem dX7_readTerminal_87 : decode cX7_readTerminal 87 = .ok (.ldc 114, 2) := by decide +kernel
theorem dX7_readTerminal_89 : decode cX7_readTerminal 89 = .ok (.aload_n 0, 1) := by decide +kernel
theorem dX7_readTerminal_90 : decode cX7_readTerminal 90 = .ok (.getfield 12, 3) := by decide +kernel
theorem dX7_readTerminal_93 : decode cX7_readTerminal 93 = .ok (.getfield 116, 3) := by decide +kernel
theorem dX7_readTerminal_96 : decode cX7_readTerminal 96 = .ok (.iconst 1, 1) := by decide +kernel
theorem dX7_readTerminal_97 : decode cX7_readTerminal 97 = .ok (.bipush 9, 2) := by decide +kernel
theorem dX7_readTerminal_99 : decode cX7_readTerminal 99 = .ok (.invokevirtual 119, 3) := by decide +kernel
theorem dX7_readTerminal_102 : decode cX7_readTerminal 102 = .ok (.ifCond .eq 44, 3) := by decide +kernel
theorem dX7_readTerminal_105 : decode cX7_readTerminal 105 = .ok (.aload_n 0, 1) := by decide +kernel
theorem dX7_readTerminal_106 : decode cX7_readTerminal 106 = .ok (.ldc 123, 2) := by decide +kernel
theorem dX7_readTerminal_108 : decode cX7_readTerminal 108 = .ok (.aload_n 0, 1) := by decide +kernel
theorem dX7_readTerminal_109 : decode cX7_readTerminal 109 = .ok (.getfield 12, 3) := by decide +kernel
theorem dX7_readTerminal_112 : decode cX7_readTerminal 112 = .ok (.getfield 125, 3) := by decide +kernel
theorem dX7_readTerminal_115 : decode cX7_readTerminal 115 = .ok (.iconst 1, 1) := by decide +kernel
theorem dX7_readTerminal_116 : decode cX7_readTerminal 116 = .ok (.iconst 4, 1) := by decide +kernel
theorem dX7_readTerminal_117 : decode cX7_readTerminal 117 = .ok (.invokevirtual 119, 3) := by decide +kernel
theorem dX7_readTerminal_120 : decode cX7_readTerminal 120 = .ok (.ifCond .eq 26, 3) := by decide +kernel
theorem dX7_readTerminal_123 : decode cX7_readTerminal 123 = .ok (.aload_n 0, 1) := by decide +kernel
theorem dX7_readTerminal_124 : decode cX7_readTerminal 124 = .ok (.ldc 128, 2) := by decide +kernel
theorem dX7_readTerminal_126 : decode cX7_readTerminal 126 = .ok (.aload_n 0, 1) := by decide +kernel
theorem dX7_readTerminal_127 : decode cX7_readTerminal 127 = .ok (.getfield 12, 3) := by decide +kernel
theorem dX7_readTerminal_130 : decode cX7_readTerminal 130 = .ok (.getfield 130, 3) := by decide +kernel
theorem dX7_readTerminal_133 : decode cX7_readTerminal 133 = .ok (.iconst 0, 1) := by decide +kernel
theorem dX7_readTerminal_134 : decode cX7_readTerminal 134 = .ok (.bipush 30, 2) := by decide +kernel
theorem dX7_readTerminal_136 : decode cX7_readTerminal 136 = .ok (.invokevirtual 119, 3) := by decide +kernel
theorem dX7_readTerminal_139 : decode cX7_readTerminal 139 = .ok (.ifCond .eq 7, 3) := by decide +kernel
theorem dX7_readTerminal_142 : decode cX7_readTerminal 142 = .ok (.iconst 1, 1) := by decide +kernel
theorem dX7_readTerminal_143 : decode cX7_readTerminal 143 = .ok (.goto 4, 3) := by decide +kernel
theorem dX7_readTerminal_146 : decode cX7_readTerminal 146 = .ok (.iconst 0, 1) := by decide +kernel
theorem dX7_readTerminal_147 : decode cX7_readTerminal 147 = .ok (.ireturn, 1) := by decide +kernel
theorem dX7_readOption_0 : decode cX7_readOption 0 = .ok (.aload_n 0, 1) := by decide +kernel
theorem dX7_readOption_1 : decode cX7_readOption 1 = .ok (.getfield 35, 3) := by decide +kernel
theorem dX7_readOption_4 : decode cX7_readOption 4 = .ok (.aload_n 1, 1) := by decide +kernel
theorem dX7_readOption_5 : decode cX7_readOption 5 = .ok (.invokevirtual 72, 3) := by decide +kernel
theorem dX7_readOption_8 : decode cX7_readOption 8 = .ok (.ifCond .ne 5, 3) := by decide +kernel
theorem dX7_readOption_11 : decode cX7_readOption 11 = .ok (.iconst 1, 1) := by decide +kernel
theorem dX7_readOption_12 : decode cX7_readOption 12 = .ok (.ireturn, 1) := by decide +kernel
theorem dX7_readOption_13 : decode cX7_readOption 13 = .ok (.aload_n 0, 1) := by decide +kernel
theorem dX7_readOption_14 : decode cX7_readOption 14 = .ok (.getfield 35, 3) := by decide +kernel
theorem dX7_readOption_17 : decode cX7_readOption 17 = .ok (.invokevirtual 99, 3) := by decide +kernel
theorem dX7_readOption_20 : decode cX7_readOption 20 = .ok (.aload_n 0, 1) := by decide +kernel
theorem dX7_readOption_21 : decode cX7_readOption 21 = .ok (.getfield 35, 3) := by decide +kernel
theorem dX7_readOption_24 : decode cX7_readOption 24 = .ok (.iload_n 3, 1) := by decide +kernel
theorem dX7_readOption_25 : decode cX7_readOption 25 = .ok (.iload 4, 2) := by decide +kernel
theorem dX7_readOption_27 : decode cX7_readOption 27 = .ok (.invokevirtual 133, 3) := by decide +kernel
theorem dX7_readOption_30 : decode cX7_readOption 30 = .ok (.istore 5, 2) := by decide +kernel
theorem dX7_readOption_32 : decode cX7_readOption 32 = .ok (.aload_n 0, 1) := by decide +kernel
theorem dX7_readOption_33 : decode cX7_readOption 33 = .ok (.getfield 12, 3) := by decide +kernel
theorem dX7_readOption_36 : decode cX7_readOption 36 = .ok (.getfield 39, 3) := by decide +kernel
theorem dX7_readOption_39 : decode cX7_readOption 39 = .ok (.iconst 1, 1) := by decide +kernel
theorem dX7_readOption_40 : decode cX7_readOption 40 = .ok (.isub, 1) := by decide +kernel
theorem dX7_readOption_41 : decode cX7_readOption 41 = .ok (.istore 6, 2) := by decide +kernel
theorem dX7_readOption_43 : decode cX7_readOption 43 = .ok (.iload 5, 2) := by decide +kernel
theorem dX7_readOption_45 : decode cX7_readOption 45 = .ok (.iconst (-1), 1) := by decide +kernel
theorem dX7_readOption_46 : decode cX7_readOption 46 = .ok (.if_icmp .eq 8, 3) := by decide +kernel
theorem dX7_readOption_49 : decode cX7_readOption 49 = .ok (.iload 6, 2) := by decide +kernel
theorem dX7_readOption_51 : decode cX7_readOption 51 = .ok (.ifCond .ge 5, 3) := by decide +kernel
theorem dX7_readOption_54 : decode cX7_readOption 54 = .ok (.iconst 0, 1) := by decide +kernel
theorem dX7_readOption_55 : decode cX7_readOption 55 = .ok (.ireturn, 1) := by decide +kernel
theorem dX7_readOption_56 : decode cX7_readOption 56 = .ok (.aload_n 2, 1) := by decide +kernel
theorem dX7_readOption_57 : decode cX7_readOption 57 = .ok (.iload 6, 2) := by decide +kernel
theorem dX7_readOption_59 : decode cX7_readOption 59 = .ok (.iload 5, 2) := by decide +kernel
theorem dX7_readOption_61 : decode cX7_readOption 61 = .ok (.iastore, 1) := by decide +kernel
theorem dX7_readOption_62 : decode cX7_readOption 62 = .ok (.iconst 1, 1) := by decide +kernel
theorem dX7_readOption_63 : decode cX7_readOption 63 = .ok (.ireturn, 1) := by decide +kernel
theorem dX7_readList_0 : decode cX7_readList 0 = .ok (.iconst 0, 1) := by decide +kernel
theorem dX7_readList_1 : decode cX7_readList 1 = .ok (.istore_n 1, 1) := by decide +kernel
theorem dX7_readList_2 : decode cX7_readList 2 = .ok (.iload_n 1, 1) := by decide +kernel
theorem dX7_readList_3 : decode cX7_readList 3 = .ok (.sipush 600, 3) := by decide +kernel
theorem dX7_readList_6 : decode cX7_readList 6 = .ok (.if_icmp .ge 114, 3) := by decide +kernel
theorem dX7_readList_9 : decode cX7_readList 9 = .ok (.aload_n 0, 1) := by decide +kernel
theorem dX7_readList_10 : decode cX7_readList 10 = .ok (.getfield 35, 3) := by decide +kernel
theorem dX7_readList_13 : decode cX7_readList 13 = .ok (.invokevirtual 102, 3) := by decide +kernel
theorem dX7_readList_16 : decode cX7_readList 16 = .ok (.istore_n 2, 1) := by decide +kernel
theorem dX7_readList_17 : decode cX7_readList 17 = .ok (.iload_n 2, 1) := by decide +kernel
theorem dX7_readList_18 : decode cX7_readList 18 = .ok (.iconst (-1), 1) := by decide +kernel
theorem dX7_readList_19 : decode cX7_readList 19 = .ok (.if_icmp .ne 27, 3) := by decide +kernel
theorem dX7_readList_22 : decode cX7_readList 22 = .ok (.aload_n 0, 1) := by decide +kernel
theorem dX7_readList_23 : decode cX7_readList 23 = .ok (.getfield 25, 3) := by decide +kernel
theorem dX7_readList_26 : decode cX7_readList 26 = .ok (.ifCond .gt 14, 3) := by decide +kernel
theorem dX7_readList_29 : decode cX7_readList 29 = .ok (.aload_n 0, 1) := by decide +kernel
theorem dX7_readList_30 : decode cX7_readList 30 = .ok (.getfield 35, 3) := by decide +kernel
theorem dX7_readList_33 : decode cX7_readList 33 = .ok (.iconst 1, 1) := by decide +kernel
theorem dX7_readList_34 : decode cX7_readList 34 = .ok (.invokevirtual 66, 3) := by decide +kernel
theorem dX7_readList_37 : decode cX7_readList 37 = .ok (.ifCond .eq 7, 3) := by decide +kernel
theorem dX7_readList_40 : decode cX7_readList 40 = .ok (.iconst 1, 1) := by decide +kernel
theorem dX7_readList_41 : decode cX7_readList 41 = .ok (.goto 4, 3) := by decide +kernel
theorem dX7_readList_44 : decode cX7_readList 44 = .ok (.iconst 0, 1) := by decide +kernel
theorem dX7_readList_45 : decode cX7_readList 45 = .ok (.ireturn, 1) := by decide +kernel
theorem dX7_readList_46 : decode cX7_readList 46 = .ok (.aload_n 0, 1) := by decide +kernel
theorem dX7_readList_47 : decode cX7_readList 47 = .ok (.getfield 12, 3) := by decide +kernel
theorem dX7_readList_50 : decode cX7_readList 50 = .ok (.iload_n 2, 1) := by decide +kernel
theorem dX7_readList_51 : decode cX7_readList 51 = .ok (.invokevirtual 106, 3) := by decide +kernel
theorem dX7_readList_54 : decode cX7_readList 54 = .ok (.istore_n 3, 1) := by decide +kernel
theorem dX7_readList_55 : decode cX7_readList 55 = .ok (.iload_n 3, 1) := by decide +kernel
theorem dX7_readList_56 : decode cX7_readList 56 = .ok (.iconst (-1), 1) := by decide +kernel
theorem dX7_readList_57 : decode cX7_readList 57 = .ok (.if_icmp .ne 12, 3) := by decide +kernel
theorem dX7_readList_60 : decode cX7_readList 60 = .ok (.aload_n 0, 1) := by decide +kernel
theorem dX7_readList_61 : decode cX7_readList 61 = .ok (.getfield 35, 3) := by decide +kernel
theorem dX7_readList_64 : decode cX7_readList 64 = .ok (.iconst 3, 1) := by decide +kernel
theorem dX7_readList_65 : decode cX7_readList 65 = .ok (.invokevirtual 66, 3) := by decide +kernel
theorem dX7_readList_68 : decode cX7_readList 68 = .ok (.ireturn, 1) := by decide +kernel
theorem dX7_readList_69 : decode cX7_readList 69 = .ok (.aload_n 0, 1) := by decide +kernel
theorem dX7_readList_70 : decode cX7_readList 70 = .ok (.getfield 25, 3) := by decide +kernel
theorem dX7_readList_73 : decode cX7_readList 73 = .ok (.bipush 16, 2) := by decide +kernel
theorem dX7_readList_75 : decode cX7_readList 75 = .ok (.if_icmp .lt 12, 3) := by decide +kernel
theorem dX7_readList_78 : decode cX7_readList 78 = .ok (.aload_n 0, 1) := by decide +kernel
theorem dX7_readList_79 : decode cX7_readList 79 = .ok (.getfield 35, 3) := by decide +kernel
theorem dX7_readList_82 : decode cX7_readList 82 = .ok (.iconst 5, 1) := by decide +kernel
theorem dX7_readList_83 : decode cX7_readList 83 = .ok (.invokevirtual 66, 3) := by decide +kernel
theorem dX7_readList_86 : decode cX7_readList 86 = .ok (.ireturn, 1) := by decide +kernel
theorem dX7_readList_87 : decode cX7_readList 87 = .ok (.aload_n 0, 1) := by decide +kernel
theorem dX7_readList_88 : decode cX7_readList 88 = .ok (.getfield 22, 3) := by decide +kernel
theorem dX7_readList_91 : decode cX7_readList 91 = .ok (.aload_n 0, 1) := by decide +kernel
theorem dX7_readList_92 : decode cX7_readList 92 = .ok (.getfield 25, 3) := by decide +kernel
theorem dX7_readList_95 : decode cX7_readList 95 = .ok (.iload_n 3, 1) := by decide +kernel
theorem dX7_readList_96 : decode cX7_readList 96 = .ok (.iastore, 1) := by decide +kernel
theorem dX7_readList_97 : decode cX7_readList 97 = .ok (.aload_n 0, 1) := by decide +kernel
theorem dX7_readList_98 : decode cX7_readList 98 = .ok (.dup, 1) := by decide +kernel
theorem dX7_readList_99 : decode cX7_readList 99 = .ok (.getfield 25, 3) := by decide +kernel
theorem dX7_readList_102 : decode cX7_readList 102 = .ok (.iconst 1, 1) := by decide +kernel
theorem dX7_readList_103 : decode cX7_readList 103 = .ok (.iadd, 1) := by decide +kernel
theorem dX7_readList_104 : decode cX7_readList 104 = .ok (.putfield 25, 3) := by decide +kernel
theorem dX7_readList_107 : decode cX7_readList 107 = .ok (.aload_n 0, 1) := by decide +kernel
theorem dX7_readList_108 : decode cX7_readList 108 = .ok (.getfield 35, 3) := by decide +kernel
theorem dX7_readList_111 : decode cX7_readList 111 = .ok (.invokevirtual 99, 3) := by decide +kernel
theorem dX7_readList_114 : decode cX7_readList 114 = .ok (.iinc 1 1, 3) := by decide +kernel
theorem dX7_readList_117 : decode cX7_readList 117 = .ok (.goto (-115), 3) := by decide +kernel
theorem dX7_readList_120 : decode cX7_readList 120 = .ok (.aload_n 0, 1) := by decide +kernel
theorem dX7_readList_121 : decode cX7_readList 121 = .ok (.getfield 35, 3) := by decide +kernel
theorem dX7_readList_124 : decode cX7_readList 124 = .ok (.iconst 1, 1) := by decide +kernel
theorem dX7_readList_125 : decode cX7_readList 125 = .ok (.invokevirtual 66, 3) := by decide +kernel
theorem dX7_readList_128 : decode cX7_readList 128 = .ok (.ireturn, 1) := by decide +kernel
theorem dX7_readSettings_0 : decode cX7_readSettings 0 = .ok (.iload_n 1, 1) := by decide +kernel
theorem dX7_readSettings_1 : decode cX7_readSettings 1 = .ok (.istore_n 3, 1) := by decide +kernel
theorem dX7_readSettings_2 : decode cX7_readSettings 2 = .ok (.iload_n 3, 1) := by decide +kernel
theorem dX7_readSettings_3 : decode cX7_readSettings 3 = .ok (.iload_n 2, 1) := by decide +kernel
theorem dX7_readSettings_4 : decode cX7_readSettings 4 = .ok (.if_icmp .gt 44, 3) := by decide +kernel
theorem dX7_readSettings_7 : decode cX7_readSettings 7 = .ok (.aload_n 0, 1) := by decide +kernel
theorem dX7_readSettings_8 : decode cX7_readSettings 8 = .ok (.getfield 35, 3) := by decide +kernel
theorem dX7_readSettings_11 : decode cX7_readSettings 11 = .ok (.getstatic 137, 3) := by decide +kernel
theorem dX7_readSettings_14 : decode cX7_readSettings 14 = .ok (.iload_n 3, 1) := by decide +kernel
theorem dX7_readSettings_15 : decode cX7_readSettings 15 = .ok (.iaload, 1) := by decide +kernel
theorem dX7_readSettings_16 : decode cX7_readSettings 16 = .ok (.getstatic 140, 3) := by decide +kernel
theorem dX7_readSettings_19 : decode cX7_readSettings 19 = .ok (.iload_n 3, 1) := by decide +kernel
theorem dX7_readSettings_20 : decode cX7_readSettings 20 = .ok (.iaload, 1) := by decide +kernel
theorem dX7_readSettings_21 : decode cX7_readSettings 21 = .ok (.invokevirtual 133, 3) := by decide +kernel
theorem dX7_readSettings_24 : decode cX7_readSettings 24 = .ok (.istore 4, 2) := by decide +kernel
theorem dX7_readSettings_26 : decode cX7_readSettings 26 = .ok (.iload 4, 2) := by decide +kernel
theorem dX7_readSettings_28 : decode cX7_readSettings 28 = .ok (.iconst (-1), 1) := by decide +kernel
theorem dX7_readSettings_29 : decode cX7_readSettings 29 = .ok (.if_icmp .ne 5, 3) := by decide +kernel
theorem dX7_readSettings_32 : decode cX7_readSettings 32 = .ok (.iconst 0, 1) := by decide +kernel
theorem dX7_readSettings_33 : decode cX7_readSettings 33 = .ok (.ireturn, 1) := by decide +kernel
theorem dX7_readSettings_34 : decode cX7_readSettings 34 = .ok (.aload_n 0, 1) := by decide +kernel
theorem dX7_readSettings_35 : decode cX7_readSettings 35 = .ok (.getfield 18, 3) := by decide +kernel
theorem dX7_readSettings_38 : decode cX7_readSettings 38 = .ok (.iload_n 3, 1) := by decide +kernel
theorem dX7_readSettings_39 : decode cX7_readSettings 39 = .ok (.iload 4, 2) := by decide +kernel
theorem dX7_readSettings_41 : decode cX7_readSettings 41 = .ok (.iastore, 1) := by decide +kernel
theorem dX7_readSettings_42 : decode cX7_readSettings 42 = .ok (.iinc 3 1, 3) := by decide +kernel
theorem dX7_readSettings_45 : decode cX7_readSettings 45 = .ok (.goto (-43), 3) := by decide +kernel
theorem dX7_readSettings_48 : decode cX7_readSettings 48 = .ok (.iconst 1, 1) := by decide +kernel
theorem dX7_readSettings_49 : decode cX7_readSettings 49 = .ok (.ireturn, 1) := by decide +kernel
theorem dX7_readSeed_0 : decode cX7_readSeed 0 = .ok (.aload_n 0, 1) := by decide +kernel
theorem dX7_readSeed_1 : decode cX7_readSeed 1 = .ok (.getfield 35, 3) := by decide +kernel
theorem dX7_readSeed_4 : decode cX7_readSeed 4 = .ok (.iconst 0, 1) := by decide +kernel
theorem dX7_readSeed_5 : decode cX7_readSeed 5 = .ok (.sipush 9999, 3) := by decide +kernel
theorem dX7_readSeed_8 : decode cX7_readSeed 8 = .ok (.invokevirtual 133, 3) := by decide +kernel
theorem dX7_readSeed_11 : decode cX7_readSeed 11 = .ok (.istore_n 1, 1) := by decide +kernel
theorem dX7_readSeed_12 : decode cX7_readSeed 12 = .ok (.iload_n 1, 1) := by decide +kernel
theorem dX7_readSeed_13 : decode cX7_readSeed 13 = .ok (.iconst (-1), 1) := by decide +kernel
theorem dX7_readSeed_14 : decode cX7_readSeed 14 = .ok (.if_icmp .ne 5, 3) := by decide +kernel
theorem dX7_readSeed_17 : decode cX7_readSeed 17 = .ok (.iconst 0, 1) := by decide +kernel
theorem dX7_readSeed_18 : decode cX7_readSeed 18 = .ok (.ireturn, 1) := by decide +kernel
theorem dX7_readSeed_19 : decode cX7_readSeed 19 = .ok (.aload_n 0, 1) := by decide +kernel
theorem dX7_readSeed_20 : decode cX7_readSeed 20 = .ok (.iload_n 1, 1) := by decide +kernel
theorem dX7_readSeed_21 : decode cX7_readSeed 21 = .ok (.putfield 29, 3) := by decide +kernel
theorem dX7_readSeed_24 : decode cX7_readSeed 24 = .ok (.iconst 1, 1) := by decide +kernel
theorem dX7_readSeed_25 : decode cX7_readSeed 25 = .ok (.ireturn, 1) := by decide +kernel
theorem dX8_init_0 : decode cX8_init 0 = .ok (.aload_n 0, 1) := by decide +kernel
theorem dX8_init_1 : decode cX8_init 1 = .ok (.invokespecial 3, 3) := by decide +kernel
theorem dX8_init_4 : decode cX8_init 4 = .ok (.aload_n 0, 1) := by decide +kernel
theorem dX8_init_5 : decode cX8_init 5 = .ok (.bipush 8, 2) := by decide +kernel
theorem dX8_init_7 : decode cX8_init 7 = .ok (.newarray .int, 2) := by decide +kernel
theorem dX8_init_9 : decode cX8_init 9 = .ok (.putfield 9, 3) := by decide +kernel
theorem dX8_init_12 : decode cX8_init 12 = .ok (.aload_n 0, 1) := by decide +kernel
theorem dX8_init_13 : decode cX8_init 13 = .ok (.bipush 8, 2) := by decide +kernel
theorem dX8_init_15 : decode cX8_init 15 = .ok (.newarray .int, 2) := by decide +kernel
theorem dX8_init_17 : decode cX8_init 17 = .ok (.putfield 15, 3) := by decide +kernel
theorem dX8_init_20 : decode cX8_init 20 = .ok (.aload_n 0, 1) := by decide +kernel
theorem dX8_init_21 : decode cX8_init 21 = .ok (.bipush 8, 2) := by decide +kernel
theorem dX8_init_23 : decode cX8_init 23 = .ok (.newarray .int, 2) := by decide +kernel
theorem dX8_init_25 : decode cX8_init 25 = .ok (.putfield 18, 3) := by decide +kernel
theorem dX8_init_28 : decode cX8_init 28 = .ok (.aload_n 0, 1) := by decide +kernel
theorem dX8_init_29 : decode cX8_init 29 = .ok (.bipush 8, 2) := by decide +kernel
theorem dX8_init_31 : decode cX8_init 31 = .ok (.newarray .int, 2) := by decide +kernel
theorem dX8_init_33 : decode cX8_init 33 = .ok (.putfield 21, 3) := by decide +kernel
theorem dX8_init_36 : decode cX8_init 36 = .ok (.aload_n 0, 1) := by decide +kernel
theorem dX8_init_37 : decode cX8_init 37 = .ok (.bipush 8, 2) := by decide +kernel
theorem dX8_init_39 : decode cX8_init 39 = .ok (.newarray .int, 2) := by decide +kernel
theorem dX8_init_41 : decode cX8_init 41 = .ok (.putfield 24, 3) := by decide +kernel
theorem dX8_init_44 : decode cX8_init 44 = .ok (.aload_n 0, 1) := by decide +kernel
theorem dX8_init_45 : decode cX8_init 45 = .ok (.bipush 8, 2) := by decide +kernel
theorem dX8_init_47 : decode cX8_init 47 = .ok (.newarray .int, 2) := by decide +kernel
theorem dX8_init_49 : decode cX8_init 49 = .ok (.putfield 27, 3) := by decide +kernel
theorem dX8_init_52 : decode cX8_init 52 = .ok (.aload_n 0, 1) := by decide +kernel
theorem dX8_init_53 : decode cX8_init 53 = .ok (.bipush 8, 2) := by decide +kernel
theorem dX8_init_55 : decode cX8_init 55 = .ok (.newarray .int, 2) := by decide +kernel
theorem dX8_init_57 : decode cX8_init 57 = .ok (.putfield 30, 3) := by decide +kernel
theorem dX8_init_60 : decode cX8_init 60 = .ok (.aload_n 0, 1) := by decide +kernel
theorem dX8_init_61 : decode cX8_init 61 = .ok (.bipush 8, 2) := by decide +kernel
theorem dX8_init_63 : decode cX8_init 63 = .ok (.newarray .int, 2) := by decide +kernel
theorem dX8_init_65 : decode cX8_init 65 = .ok (.putfield 33, 3) := by decide +kernel
theorem dX8_init_68 : decode cX8_init 68 = .ok (.aload_n 0, 1) := by decide +kernel
theorem dX8_init_69 : decode cX8_init 69 = .ok (.bipush 32, 2) := by decide +kernel
theorem dX8_init_71 : decode cX8_init 71 = .ok (.newarray .int, 2) := by decide +kernel
theorem dX8_init_73 : decode cX8_init 73 = .ok (.putfield 36, 3) := by decide +kernel
theorem dX8_init_76 : decode cX8_init 76 = .ok (.return_, 1) := by decide +kernel
theorem dX8_clear_0 : decode cX8_clear 0 = .ok (.iconst 0, 1) := by decide +kernel
theorem dX8_clear_1 : decode cX8_clear 1 = .ok (.istore_n 1, 1) := by decide +kernel
theorem dX8_clear_2 : decode cX8_clear 2 = .ok (.iload_n 1, 1) := by decide +kernel
theorem dX8_clear_3 : decode cX8_clear 3 = .ok (.bipush 8, 2) := by decide +kernel
theorem dX8_clear_5 : decode cX8_clear 5 = .ok (.if_icmp .ge 65, 3) := by decide +kernel
theorem dX8_clear_8 : decode cX8_clear 8 = .ok (.aload_n 0, 1) := by decide +kernel
theorem dX8_clear_9 : decode cX8_clear 9 = .ok (.getfield 9, 3) := by decide +kernel
theorem dX8_clear_12 : decode cX8_clear 12 = .ok (.iload_n 1, 1) := by decide +kernel
theorem dX8_clear_13 : decode cX8_clear 13 = .ok (.iconst 1, 1) := by decide +kernel
theorem dX8_clear_14 : decode cX8_clear 14 = .ok (.iastore, 1) := by decide +kernel
theorem dX8_clear_15 : decode cX8_clear 15 = .ok (.aload_n 0, 1) := by decide +kernel
theorem dX8_clear_16 : decode cX8_clear 16 = .ok (.getfield 15, 3) := by decide +kernel
theorem dX8_clear_19 : decode cX8_clear 19 = .ok (.iload_n 1, 1) := by decide +kernel
theorem dX8_clear_20 : decode cX8_clear 20 = .ok (.iconst 1, 1) := by decide +kernel
theorem dX8_clear_21 : decode cX8_clear 21 = .ok (.iastore, 1) := by decide +kernel
theorem dX8_clear_22 : decode cX8_clear 22 = .ok (.aload_n 0, 1) := by decide +kernel
theorem dX8_clear_23 : decode cX8_clear 23 = .ok (.getfield 18, 3) := by decide +kernel
theorem dX8_clear_26 : decode cX8_clear 26 = .ok (.iload_n 1, 1) := by decide +kernel
theorem dX8_clear_27 : decode cX8_clear 27 = .ok (.iconst 0, 1) := by decide +kernel
theorem dX8_clear_28 : decode cX8_clear 28 = .ok (.iastore, 1) := by decide +kernel
theorem dX8_clear_29 : decode cX8_clear 29 = .ok (.aload_n 0, 1) := by decide +kernel
theorem dX8_clear_30 : decode cX8_clear 30 = .ok (.getfield 21, 3) := by decide +kernel
theorem dX8_clear_33 : decode cX8_clear 33 = .ok (.iload_n 1, 1) := by decide +kernel
theorem dX8_clear_34 : decode cX8_clear 34 = .ok (.iconst 0, 1) := by decide +kernel
theorem dX8_clear_35 : decode cX8_clear 35 = .ok (.iastore, 1) := by decide +kernel
theorem dX8_clear_36 : decode cX8_clear 36 = .ok (.aload_n 0, 1) := by decide +kernel
theorem dX8_clear_37 : decode cX8_clear 37 = .ok (.getfield 24, 3) := by decide +kernel
theorem dX8_clear_40 : decode cX8_clear 40 = .ok (.iload_n 1, 1) := by decide +kernel
theorem dX8_clear_41 : decode cX8_clear 41 = .ok (.iconst 0, 1) := by decide +kernel
theorem dX8_clear_42 : decode cX8_clear 42 = .ok (.iastore, 1) := by decide +kernel
theorem dX8_clear_43 : decode cX8_clear 43 = .ok (.aload_n 0, 1) := by decide +kernel
theorem dX8_clear_44 : decode cX8_clear 44 = .ok (.getfield 27, 3) := by decide +kernel
theorem dX8_clear_47 : decode cX8_clear 47 = .ok (.iload_n 1, 1) := by decide +kernel
theorem dX8_clear_48 : decode cX8_clear 48 = .ok (.iconst 0, 1) := by decide +kernel
theorem dX8_clear_49 : decode cX8_clear 49 = .ok (.iastore, 1) := by decide +kernel
theorem dX8_clear_50 : decode cX8_clear 50 = .ok (.aload_n 0, 1) := by decide +kernel
theorem dX8_clear_51 : decode cX8_clear 51 = .ok (.getfield 30, 3) := by decide +kernel
theorem dX8_clear_54 : decode cX8_clear 54 = .ok (.iload_n 1, 1) := by decide +kernel
theorem dX8_clear_55 : decode cX8_clear 55 = .ok (.iconst 0, 1) := by decide +kernel
theorem dX8_clear_56 : decode cX8_clear 56 = .ok (.iastore, 1) := by decide +kernel
theorem dX8_clear_57 : decode cX8_clear 57 = .ok (.aload_n 0, 1) := by decide +kernel
theorem dX8_clear_58 : decode cX8_clear 58 = .ok (.getfield 33, 3) := by decide +kernel
theorem dX8_clear_61 : decode cX8_clear 61 = .ok (.iload_n 1, 1) := by decide +kernel
theorem dX8_clear_62 : decode cX8_clear 62 = .ok (.iconst 0, 1) := by decide +kernel
theorem dX8_clear_63 : decode cX8_clear 63 = .ok (.iastore, 1) := by decide +kernel
theorem dX8_clear_64 : decode cX8_clear 64 = .ok (.iinc 1 1, 3) := by decide +kernel
theorem dX8_clear_67 : decode cX8_clear 67 = .ok (.goto (-65), 3) := by decide +kernel
theorem dX8_clear_70 : decode cX8_clear 70 = .ok (.iconst 0, 1) := by decide +kernel
theorem dX8_clear_71 : decode cX8_clear 71 = .ok (.istore_n 1, 1) := by decide +kernel
theorem dX8_clear_72 : decode cX8_clear 72 = .ok (.iload_n 1, 1) := by decide +kernel
theorem dX8_clear_73 : decode cX8_clear 73 = .ok (.bipush 32, 2) := by decide +kernel
theorem dX8_clear_75 : decode cX8_clear 75 = .ok (.if_icmp .ge 16, 3) := by decide +kernel
theorem dX8_clear_78 : decode cX8_clear 78 = .ok (.aload_n 0, 1) := by decide +kernel
theorem dX8_clear_79 : decode cX8_clear 79 = .ok (.getfield 36, 3) := by decide +kernel
theorem dX8_clear_82 : decode cX8_clear 82 = .ok (.iload_n 1, 1) := by decide +kernel
theorem dX8_clear_83 : decode cX8_clear 83 = .ok (.iconst 0, 1) := by decide +kernel
theorem dX8_clear_84 : decode cX8_clear 84 = .ok (.iastore, 1) := by decide +kernel
theorem dX8_clear_85 : decode cX8_clear 85 = .ok (.iinc 1 1, 3) := by decide +kernel
theorem dX8_clear_88 : decode cX8_clear 88 = .ok (.goto (-16), 3) := by decide +kernel
theorem dX8_clear_91 : decode cX8_clear 91 = .ok (.return_, 1) := by decide +kernel
theorem dX8_countOften_0 : decode cX8_countOften 0 = .ok (.iload_n 1, 1) := by decide +kernel
theorem dX8_countOften_1 : decode cX8_countOften 1 = .ok (.bipush 8, 2) := by decide +kernel
theorem dX8_countOften_3 : decode cX8_countOften 3 = .ok (.imul, 1) := by decide +kernel
theorem dX8_countOften_4 : decode cX8_countOften 4 = .ok (.iload_n 2, 1) := by decide +kernel
theorem dX8_countOften_5 : decode cX8_countOften 5 = .ok (.iadd, 1) := by decide +kernel
theorem dX8_countOften_6 : decode cX8_countOften 6 = .ok (.istore_n 3, 1) := by decide +kernel
theorem dX8_countOften_7 : decode cX8_countOften 7 = .ok (.iload_n 3, 1) := by decide +kernel
theorem dX8_countOften_8 : decode cX8_countOften 8 = .ok (.ifCond .lt 19, 3) := by decide +kernel
theorem dX8_countOften_11 : decode cX8_countOften 11 = .ok (.iload_n 3, 1) := by decide +kernel
theorem dX8_countOften_12 : decode cX8_countOften 12 = .ok (.bipush 32, 2) := by decide +kernel
theorem dX8_countOften_14 : decode cX8_countOften 14 = .ok (.if_icmp .ge 13, 3) := by decide +kernel
theorem dX8_countOften_17 : decode cX8_countOften 17 = .ok (.aload_n 0, 1) := by decide +kernel
theorem dX8_countOften_18 : decode cX8_countOften 18 = .ok (.getfield 36, 3) := by decide +kernel
theorem dX8_countOften_21 : decode cX8_countOften 21 = .ok (.iload_n 3, 1) := by decide +kernel
theorem dX8_countOften_22 : decode cX8_countOften 22 = .ok (.dup2, 1) := by decide +kernel
theorem dX8_countOften_23 : decode cX8_countOften 23 = .ok (.iaload, 1) := by decide +kernel
theorem dX8_countOften_24 : decode cX8_countOften 24 = .ok (.iconst 1, 1) := by decide +kernel
theorem dX8_countOften_25 : decode cX8_countOften 25 = .ok (.iadd, 1) := by decide +kernel
theorem dX8_countOften_26 : decode cX8_countOften 26 = .ok (.iastore, 1) := by decide +kernel
theorem dX8_countOften_27 : decode cX8_countOften 27 = .ok (.return_, 1) := by decide +kernel
theorem dX8_oftenOf_0 : decode cX8_oftenOf 0 = .ok (.iload_n 1, 1) := by decide +kernel
theorem dX8_oftenOf_1 : decode cX8_oftenOf 1 = .ok (.bipush 8, 2) := by decide +kernel
theorem dX8_oftenOf_3 : decode cX8_oftenOf 3 = .ok (.imul, 1) := by decide +kernel
theorem dX8_oftenOf_4 : decode cX8_oftenOf 4 = .ok (.iload_n 2, 1) := by decide +kernel
theorem dX8_oftenOf_5 : decode cX8_oftenOf 5 = .ok (.iadd, 1) := by decide +kernel
theorem dX8_oftenOf_6 : decode cX8_oftenOf 6 = .ok (.istore_n 3, 1) := by decide +kernel
theorem dX8_oftenOf_7 : decode cX8_oftenOf 7 = .ok (.iload_n 3, 1) := by decide +kernel
theorem dX8_oftenOf_8 : decode cX8_oftenOf 8 = .ok (.ifCond .lt 18, 3) := by decide +kernel
theorem dX8_oftenOf_11 : decode cX8_oftenOf 11 = .ok (.iload_n 3, 1) := by decide +kernel
theorem dX8_oftenOf_12 : decode cX8_oftenOf 12 = .ok (.bipush 32, 2) := by decide +kernel
theorem dX8_oftenOf_14 : decode cX8_oftenOf 14 = .ok (.if_icmp .ge 12, 3) := by decide +kernel
theorem dX8_oftenOf_17 : decode cX8_oftenOf 17 = .ok (.aload_n 0, 1) := by decide +kernel
theorem dX8_oftenOf_18 : decode cX8_oftenOf 18 = .ok (.getfield 36, 3) := by decide +kernel
theorem dX8_oftenOf_21 : decode cX8_oftenOf 21 = .ok (.iload_n 3, 1) := by decide +kernel
theorem dX8_oftenOf_22 : decode cX8_oftenOf 22 = .ok (.iaload, 1) := by decide +kernel
theorem dX8_oftenOf_23 : decode cX8_oftenOf 23 = .ok (.goto 4, 3) := by decide +kernel
theorem dX8_oftenOf_26 : decode cX8_oftenOf 26 = .ok (.iconst 0, 1) := by decide +kernel
theorem dX8_oftenOf_27 : decode cX8_oftenOf 27 = .ok (.ireturn, 1) := by decide +kernel
theorem dX8_copyFrom_0 : decode cX8_copyFrom 0 = .ok (.aload_n 1, 1) := by decide +kernel
theorem dX8_copyFrom_1 : decode cX8_copyFrom 1 = .ok (.getfield 9, 3) := by decide +kernel
theorem dX8_copyFrom_4 : decode cX8_copyFrom 4 = .ok (.iconst 0, 1) := by decide +kernel
theorem dX8_copyFrom_5 : decode cX8_copyFrom 5 = .ok (.aload_n 0, 1) := by decide +kernel
theorem dX8_copyFrom_6 : decode cX8_copyFrom 6 = .ok (.getfield 9, 3) := by decide +kernel
theorem dX8_copyFrom_9 : decode cX8_copyFrom 9 = .ok (.iconst 0, 1) := by decide +kernel
theorem dX8_copyFrom_10 : decode cX8_copyFrom 10 = .ok (.bipush 8, 2) := by decide +kernel
theorem dX8_copyFrom_12 : decode cX8_copyFrom 12 = .ok (.invokestatic 39, 3) := by decide +kernel
theorem dX8_copyFrom_15 : decode cX8_copyFrom 15 = .ok (.aload_n 1, 1) := by decide +kernel
theorem dX8_copyFrom_16 : decode cX8_copyFrom 16 = .ok (.getfield 15, 3) := by decide +kernel
theorem dX8_copyFrom_19 : decode cX8_copyFrom 19 = .ok (.iconst 0, 1) := by decide +kernel
theorem dX8_copyFrom_20 : decode cX8_copyFrom 20 = .ok (.aload_n 0, 1) := by decide +kernel
theorem dX8_copyFrom_21 : decode cX8_copyFrom 21 = .ok (.getfield 15, 3) := by decide +kernel
theorem dX8_copyFrom_24 : decode cX8_copyFrom 24 = .ok (.iconst 0, 1) := by decide +kernel
theorem dX8_copyFrom_25 : decode cX8_copyFrom 25 = .ok (.bipush 8, 2) := by decide +kernel
theorem dX8_copyFrom_27 : decode cX8_copyFrom 27 = .ok (.invokestatic 39, 3) := by decide +kernel
theorem dX8_copyFrom_30 : decode cX8_copyFrom 30 = .ok (.aload_n 1, 1) := by decide +kernel
theorem dX8_copyFrom_31 : decode cX8_copyFrom 31 = .ok (.getfield 18, 3) := by decide +kernel
theorem dX8_copyFrom_34 : decode cX8_copyFrom 34 = .ok (.iconst 0, 1) := by decide +kernel
theorem dX8_copyFrom_35 : decode cX8_copyFrom 35 = .ok (.aload_n 0, 1) := by decide +kernel
theorem dX8_copyFrom_36 : decode cX8_copyFrom 36 = .ok (.getfield 18, 3) := by decide +kernel
theorem dX8_copyFrom_39 : decode cX8_copyFrom 39 = .ok (.iconst 0, 1) := by decide +kernel
theorem dX8_copyFrom_40 : decode cX8_copyFrom 40 = .ok (.bipush 8, 2) := by decide +kernel
theorem dX8_copyFrom_42 : decode cX8_copyFrom 42 = .ok (.invokestatic 39, 3) := by decide +kernel
theorem dX8_copyFrom_45 : decode cX8_copyFrom 45 = .ok (.aload_n 1, 1) := by decide +kernel
theorem dX8_copyFrom_46 : decode cX8_copyFrom 46 = .ok (.getfield 21, 3) := by decide +kernel
theorem dX8_copyFrom_49 : decode cX8_copyFrom 49 = .ok (.iconst 0, 1) := by decide +kernel
theorem dX8_copyFrom_50 : decode cX8_copyFrom 50 = .ok (.aload_n 0, 1) := by decide +kernel
theorem dX8_copyFrom_51 : decode cX8_copyFrom 51 = .ok (.getfield 21, 3) := by decide +kernel
theorem dX8_copyFrom_54 : decode cX8_copyFrom 54 = .ok (.iconst 0, 1) := by decide +kernel
theorem dX8_copyFrom_55 : decode cX8_copyFrom 55 = .ok (.bipush 8, 2) := by decide +kernel
theorem dX8_copyFrom_57 : decode cX8_copyFrom 57 = .ok (.invokestatic 39, 3) := by decide +kernel
theorem dX8_copyFrom_60 : decode cX8_copyFrom 60 = .ok (.aload_n 1, 1) := by decide +kernel
theorem dX8_copyFrom_61 : decode cX8_copyFrom 61 = .ok (.getfield 24, 3) := by decide +kernel
theorem dX8_copyFrom_64 : decode cX8_copyFrom 64 = .ok (.iconst 0, 1) := by decide +kernel
theorem dX8_copyFrom_65 : decode cX8_copyFrom 65 = .ok (.aload_n 0, 1) := by decide +kernel
theorem dX8_copyFrom_66 : decode cX8_copyFrom 66 = .ok (.getfield 24, 3) := by decide +kernel
theorem dX8_copyFrom_69 : decode cX8_copyFrom 69 = .ok (.iconst 0, 1) := by decide +kernel
theorem dX8_copyFrom_70 : decode cX8_copyFrom 70 = .ok (.bipush 8, 2) := by decide +kernel
theorem dX8_copyFrom_72 : decode cX8_copyFrom 72 = .ok (.invokestatic 39, 3) := by decide +kernel
theorem dX8_copyFrom_75 : decode cX8_copyFrom 75 = .ok (.aload_n 1, 1) := by decide +kernel
theorem dX8_copyFrom_76 : decode cX8_copyFrom 76 = .ok (.getfield 27, 3) := by decide +kernel
theorem dX8_copyFrom_79 : decode cX8_copyFrom 79 = .ok (.iconst 0, 1) := by decide +kernel
theorem dX8_copyFrom_80 : decode cX8_copyFrom 80 = .ok (.aload_n 0, 1) := by decide +kernel
theorem dX8_copyFrom_81 : decode cX8_copyFrom 81 = .ok (.getfield 27, 3) := by decide +kernel
theorem dX8_copyFrom_84 : decode cX8_copyFrom 84 = .ok (.iconst 0, 1) := by decide +kernel
theorem dX8_copyFrom_85 : decode cX8_copyFrom 85 = .ok (.bipush 8, 2) := by decide +kernel
theorem dX8_copyFrom_87 : decode cX8_copyFrom 87 = .ok (.invokestatic 39, 3) := by decide +kernel
theorem dX8_copyFrom_90 : decode cX8_copyFrom 90 = .ok (.aload_n 1, 1) := by decide +kernel
theorem dX8_copyFrom_91 : decode cX8_copyFrom 91 = .ok (.getfield 30, 3) := by decide +kernel
theorem dX8_copyFrom_94 : decode cX8_copyFrom 94 = .ok (.iconst 0, 1) := by decide +kernel
theorem dX8_copyFrom_95 : decode cX8_copyFrom 95 = .ok (.aload_n 0, 1) := by decide +kernel
theorem dX8_copyFrom_96 : decode cX8_copyFrom 96 = .ok (.getfield 30, 3) := by decide +kernel
theorem dX8_copyFrom_99 : decode cX8_copyFrom 99 = .ok (.iconst 0, 1) := by decide +kernel
theorem dX8_copyFrom_100 : decode cX8_copyFrom 100 = .ok (.bipush 8, 2) := by decide +kernel
theorem dX8_copyFrom_102 : decode cX8_copyFrom 102 = .ok (.invokestatic 39, 3) := by decide +kernel
theorem dX8_copyFrom_105 : decode cX8_copyFrom 105 = .ok (.aload_n 1, 1) := by decide +kernel
theorem dX8_copyFrom_106 : decode cX8_copyFrom 106 = .ok (.getfield 33, 3) := by decide +kernel
theorem dX8_copyFrom_109 : decode cX8_copyFrom 109 = .ok (.iconst 0, 1) := by decide +kernel
theorem dX8_copyFrom_110 : decode cX8_copyFrom 110 = .ok (.aload_n 0, 1) := by decide +kernel
theorem dX8_copyFrom_111 : decode cX8_copyFrom 111 = .ok (.getfield 33, 3) := by decide +kernel
theorem dX8_copyFrom_114 : decode cX8_copyFrom 114 = .ok (.iconst 0, 1) := by decide +kernel
theorem dX8_copyFrom_115 : decode cX8_copyFrom 115 = .ok (.bipush 8, 2) := by decide +kernel
theorem dX8_copyFrom_117 : decode cX8_copyFrom 117 = .ok (.invokestatic 39, 3) := by decide +kernel
theorem dX8_copyFrom_120 : decode cX8_copyFrom 120 = .ok (.aload_n 1, 1) := by decide +kernel
theorem dX8_copyFrom_121 : decode cX8_copyFrom 121 = .ok (.getfield 36, 3) := by decide +kernel
theorem dX8_copyFrom_124 : decode cX8_copyFrom 124 = .ok (.iconst 0, 1) := by decide +kernel
theorem dX8_copyFrom_125 : decode cX8_copyFrom 125 = .ok (.aload_n 0, 1) := by decide +kernel
theorem dX8_copyFrom_126 : decode cX8_copyFrom 126 = .ok (.getfield 36, 3) := by decide +kernel
theorem dX8_copyFrom_129 : decode cX8_copyFrom 129 = .ok (.iconst 0, 1) := by decide +kernel
theorem dX8_copyFrom_130 : decode cX8_copyFrom 130 = .ok (.bipush 32, 2) := by decide +kernel
theorem dX8_copyFrom_132 : decode cX8_copyFrom 132 = .ok (.invokestatic 39, 3) := by decide +kernel
theorem dX8_copyFrom_135 : decode cX8_copyFrom 135 = .ok (.return_, 1) := by decide +kernel
theorem dX9_init_0 : decode cX9_init 0 = .ok (.aload_n 0, 1) := by decide +kernel
theorem dX9_init_1 : decode cX9_init 1 = .ok (.invokespecial 3, 3) := by decide +kernel
theorem dX9_init_4 : decode cX9_init 4 = .ok (.aload_n 0, 1) := by decide +kernel
theorem dX9_init_5 : decode cX9_init 5 = .ok (.sipush 600, 3) := by decide +kernel
theorem dX9_init_8 : decode cX9_init 8 = .ok (.newarray .int, 2) := by decide +kernel
theorem dX9_init_10 : decode cX9_init 10 = .ok (.putfield 9, 3) := by decide +kernel
theorem dX9_init_13 : decode cX9_init 13 = .ok (.aload_n 0, 1) := by decide +kernel
theorem dX9_init_14 : decode cX9_init 14 = .ok (.iconst 0, 1) := by decide +kernel
theorem dX9_init_15 : decode cX9_init 15 = .ok (.putfield 15, 3) := by decide +kernel
theorem dX9_init_18 : decode cX9_init 18 = .ok (.aload_n 0, 1) := by decide +kernel
theorem dX9_init_19 : decode cX9_init 19 = .ok (.iconst 3, 1) := by decide +kernel
theorem dX9_init_20 : decode cX9_init 20 = .ok (.putfield 19, 3) := by decide +kernel
theorem dX9_init_23 : decode cX9_init 23 = .ok (.aload_n 0, 1) := by decide +kernel
theorem dX9_init_24 : decode cX9_init 24 = .ok (.iconst 0, 1) := by decide +kernel
theorem dX9_init_25 : decode cX9_init 25 = .ok (.putfield 22, 3) := by decide +kernel
theorem dX9_init_28 : decode cX9_init 28 = .ok (.aload_n 0, 1) := by decide +kernel
theorem dX9_init_29 : decode cX9_init 29 = .ok (.iconst 0, 1) := by decide +kernel
theorem dX9_init_30 : decode cX9_init 30 = .ok (.putfield 25, 3) := by decide +kernel
theorem dX9_init_33 : decode cX9_init 33 = .ok (.aload_n 0, 1) := by decide +kernel
theorem dX9_init_34 : decode cX9_init 34 = .ok (.iconst 0, 1) := by decide +kernel
theorem dX9_init_35 : decode cX9_init 35 = .ok (.putfield 28, 3) := by decide +kernel
theorem dX9_init_38 : decode cX9_init 38 = .ok (.aload_n 0, 1) := by decide +kernel
theorem dX9_init_39 : decode cX9_init 39 = .ok (.iconst (-1), 1) := by decide +kernel
theorem dX9_init_40 : decode cX9_init 40 = .ok (.putfield 31, 3) := by decide +kernel
theorem dX9_init_43 : decode cX9_init 43 = .ok (.return_, 1) := by decide +kernel
theorem dX9_addByte_0 : decode cX9_addByte 0 = .ok (.aload_n 0, 1) := by decide +kernel
theorem dX9_addByte_1 : decode cX9_addByte 1 = .ok (.getfield 15, 3) := by decide +kernel
theorem dX9_addByte_4 : decode cX9_addByte 4 = .ok (.sipush 600, 3) := by decide +kernel
theorem dX9_addByte_7 : decode cX9_addByte 7 = .ok (.if_icmp .ge 23, 3) := by decide +kernel
theorem dX9_addByte_10 : decode cX9_addByte 10 = .ok (.aload_n 0, 1) := by decide +kernel
theorem dX9_addByte_11 : decode cX9_addByte 11 = .ok (.getfield 9, 3) := by decide +kernel
theorem dX9_addByte_14 : decode cX9_addByte 14 = .ok (.aload_n 0, 1) := by decide +kernel
theorem dX9_addByte_15 : decode cX9_addByte 15 = .ok (.getfield 15, 3) := by decide +kernel
theorem dX9_addByte_18 : decode cX9_addByte 18 = .ok (.iload_n 1, 1) := by decide +kernel
theorem dX9_addByte_19 : decode cX9_addByte 19 = .ok (.iastore, 1) := by decide +kernel
theorem dX9_addByte_20 : decode cX9_addByte 20 = .ok (.aload_n 0, 1) := by decide +kernel
theorem dX9_addByte_21 : decode cX9_addByte 21 = .ok (.dup, 1) := by decide +kernel
theorem dX9_addByte_22 : decode cX9_addByte 22 = .ok (.getfield 15, 3) := by decide +kernel
theorem dX9_addByte_25 : decode cX9_addByte 25 = .ok (.iconst 1, 1) := by decide +kernel
theorem dX9_addByte_26 : decode cX9_addByte 26 = .ok (.iadd, 1) := by decide +kernel
theorem dX9_addByte_27 : decode cX9_addByte 27 = .ok (.putfield 15, 3) := by decide +kernel
theorem dX9_addByte_30 : decode cX9_addByte 30 = .ok (.return_, 1) := by decide +kernel
theorem dX9_addFourBytes_0 : decode cX9_addFourBytes 0 = .ok (.bipush 24, 2) := by decide +kernel
theorem dX9_addFourBytes_2 : decode cX9_addFourBytes 2 = .ok (.istore_n 2, 1) := by decide +kernel
theorem dX9_addFourBytes_3 : decode cX9_addFourBytes 3 = .ok (.iload_n 2, 1) := by decide +kernel
theorem dX9_addFourBytes_4 : decode cX9_addFourBytes 4 = .ok (.ifCond .lt 20, 3) := by decide +kernel
theorem dX9_addFourBytes_7 : decode cX9_addFourBytes 7 = .ok (.aload_n 0, 1) := by decide +kernel
theorem dX9_addFourBytes_8 : decode cX9_addFourBytes 8 = .ok (.iload_n 1, 1) := by decide +kernel
theorem dX9_addFourBytes_9 : decode cX9_addFourBytes 9 = .ok (.iload_n 2, 1) := by decide +kernel
theorem dX9_addFourBytes_10 : decode cX9_addFourBytes 10 = .ok (.ishr, 1) := by decide +kernel
theorem dX9_addFourBytes_11 : decode cX9_addFourBytes 11 = .ok (.sipush 255, 3) := by decide +kernel
theorem dX9_addFourBytes_14 : decode cX9_addFourBytes 14 = .ok (.iand, 1) := by decide +kernel
theorem dX9_addFourBytes_15 : decode cX9_addFourBytes 15 = .ok (.invokevirtual 34, 3) := by decide +kernel
theorem dX9_addFourBytes_18 : decode cX9_addFourBytes 18 = .ok (.iinc 2 (-8), 3) := by decide +kernel
theorem dX9_addFourBytes_21 : decode cX9_addFourBytes 21 = .ok (.goto (-18), 3) := by decide +kernel
theorem dX9_addFourBytes_24 : decode cX9_addFourBytes 24 = .ok (.return_, 1) := by decide +kernel
theorem dX9_begin_0 : decode cX9_begin 0 = .ok (.aload_n 0, 1) := by decide +kernel
theorem dX9_begin_1 : decode cX9_begin 1 = .ok (.iconst 0, 1) := by decide +kernel
theorem dX9_begin_2 : decode cX9_begin 2 = .ok (.putfield 28, 3) := by decide +kernel
theorem dX9_begin_5 : decode cX9_begin 5 = .ok (.aload_n 0, 1) := by decide +kernel
theorem dX9_begin_6 : decode cX9_begin 6 = .ok (.iconst (-1), 1) := by decide +kernel
theorem dX9_begin_7 : decode cX9_begin 7 = .ok (.putfield 31, 3) := by decide +kernel
theorem dX9_begin_10 : decode cX9_begin 10 = .ok (.aload_n 0, 1) := by decide +kernel
theorem dX9_begin_11 : decode cX9_begin 11 = .ok (.iconst 0, 1) := by decide +kernel
theorem dX9_begin_12 : decode cX9_begin 12 = .ok (.putfield 25, 3) := by decide +kernel
theorem dX9_begin_15 : decode cX9_begin 15 = .ok (.aload_n 0, 1) := by decide +kernel
theorem dX9_begin_16 : decode cX9_begin 16 = .ok (.invokevirtual 38, 3) := by decide +kernel
theorem dX9_begin_19 : decode cX9_begin 19 = .ok (.return_, 1) := by decide +kernel
theorem dX9_advance_0 : decode cX9_advance 0 = .ok (.aload_n 0, 1) := by decide +kernel
theorem dX9_advance_1 : decode cX9_advance 1 = .ok (.getfield 25, 3) := by decide +kernel
theorem dX9_advance_4 : decode cX9_advance 4 = .ok (.aload_n 0, 1) := by decide +kernel
theorem dX9_advance_5 : decode cX9_advance 5 = .ok (.getfield 15, 3) := by decide +kernel
theorem dX9_advance_8 : decode cX9_advance 8 = .ok (.if_icmp .ge 44, 3) := by decide +kernel
theorem dX9_advance_11 : decode cX9_advance 11 = .ok (.aload_n 0, 1) := by decide +kernel
theorem dX9_advance_12 : decode cX9_advance 12 = .ok (.getfield 9, 3) := by decide +kernel
theorem dX9_advance_15 : decode cX9_advance 15 = .ok (.aload_n 0, 1) := by decide +kernel
theorem dX9_advance_16 : decode cX9_advance 16 = .ok (.getfield 25, 3) := by decide +kernel
theorem dX9_advance_19 : decode cX9_advance 19 = .ok (.iaload, 1) := by decide +kernel
theorem dX9_advance_20 : decode cX9_advance 20 = .ok (.bipush 32, 2) := by decide +kernel
theorem dX9_advance_22 : decode cX9_advance 22 = .ok (.if_icmp .eq 17, 3) := by decide +kernel
theorem dX9_advance_25 : decode cX9_advance 25 = .ok (.aload_n 0, 1) := by decide +kernel
theorem dX9_advance_26 : decode cX9_advance 26 = .ok (.getfield 9, 3) := by decide +kernel
theorem dX9_advance_29 : decode cX9_advance 29 = .ok (.aload_n 0, 1) := by decide +kernel
theorem dX9_advance_30 : decode cX9_advance 30 = .ok (.getfield 25, 3) := by decide +kernel
theorem dX9_advance_33 : decode cX9_advance 33 = .ok (.iaload, 1) := by decide +kernel
theorem dX9_advance_34 : decode cX9_advance 34 = .ok (.bipush 10, 2) := by decide +kernel
theorem dX9_advance_36 : decode cX9_advance 36 = .ok (.if_icmp .ne 16, 3) := by decide +kernel
theorem dX9_advance_39 : decode cX9_advance 39 = .ok (.aload_n 0, 1) := by decide +kernel
theorem dX9_advance_40 : decode cX9_advance 40 = .ok (.dup, 1) := by decide +kernel
theorem dX9_advance_41 : decode cX9_advance 41 = .ok (.getfield 25, 3) := by decide +kernel
theorem dX9_advance_44 : decode cX9_advance 44 = .ok (.iconst 1, 1) := by decide +kernel
theorem dX9_advance_45 : decode cX9_advance 45 = .ok (.iadd, 1) := by decide +kernel
theorem dX9_advance_46 : decode cX9_advance 46 = .ok (.putfield 25, 3) := by decide +kernel
theorem dX9_advance_49 : decode cX9_advance 49 = .ok (.goto (-49), 3) := by decide +kernel
theorem dX9_advance_52 : decode cX9_advance 52 = .ok (.aload_n 0, 1) := by decide +kernel
theorem dX9_advance_53 : decode cX9_advance 53 = .ok (.aload_n 0, 1) := by decide +kernel
theorem dX9_advance_54 : decode cX9_advance 54 = .ok (.getfield 25, 3) := by decide +kernel
theorem dX9_advance_57 : decode cX9_advance 57 = .ok (.putfield 22, 3) := by decide +kernel
theorem dX9_advance_60 : decode cX9_advance 60 = .ok (.aload_n 0, 1) := by decide +kernel
theorem dX9_advance_61 : decode cX9_advance 61 = .ok (.getfield 25, 3) := by decide +kernel
theorem dX9_advance_64 : decode cX9_advance 64 = .ok (.aload_n 0, 1) := by decide +kernel
theorem dX9_advance_65 : decode cX9_advance 65 = .ok (.getfield 15, 3) := by decide +kernel
theorem dX9_advance_68 : decode cX9_advance 68 = .ok (.if_icmp .lt 9, 3) := by decide +kernel
theorem dX9_advance_71 : decode cX9_advance 71 = .ok (.aload_n 0, 1) := by decide +kernel
theorem dX9_advance_72 : decode cX9_advance 72 = .ok (.iconst 3, 1) := by decide +kernel
theorem dX9_advance_73 : decode cX9_advance 73 = .ok (.putfield 19, 3) := by decide +kernel
theorem dX9_advance_76 : decode cX9_advance 76 = .ok (.return_, 1) := by decide +kernel
theorem dX9_advance_77 : decode cX9_advance 77 = .ok (.aload_n 0, 1) := by decide +kernel
theorem dX9_advance_78 : decode cX9_advance 78 = .ok (.getfield 9, 3) := by decide +kernel
theorem dX9_advance_81 : decode cX9_advance 81 = .ok (.aload_n 0, 1) := by decide +kernel
theorem dX9_advance_82 : decode cX9_advance 82 = .ok (.getfield 25, 3) := by decide +kernel
theorem dX9_advance_85 : decode cX9_advance 85 = .ok (.iaload, 1) := by decide +kernel
theorem dX9_advance_86 : decode cX9_advance 86 = .ok (.istore_n 1, 1) := by decide +kernel
theorem dX9_advance_87 : decode cX9_advance 87 = .ok (.aload_n 0, 1) := by decide +kernel
theorem dX9_advance_88 : decode cX9_advance 88 = .ok (.dup, 1) := by decide +kernel
theorem dX9_advance_89 : decode cX9_advance 89 = .ok (.getfield 25, 3) := by decide +kernel
theorem dX9_advance_92 : decode cX9_advance 92 = .ok (.iconst 1, 1) := by decide +kernel
theorem dX9_advance_93 : decode cX9_advance 93 = .ok (.iadd, 1) := by decide +kernel
theorem dX9_advance_94 : decode cX9_advance 94 = .ok (.putfield 25, 3) := by decide +kernel
theorem dX9_advance_97 : decode cX9_advance 97 = .ok (.iload_n 1, 1) := by decide +kernel
theorem dX9_advance_98 : decode cX9_advance 98 = .ok (.bipush 97, 2) := by decide +kernel
theorem dX9_advance_100 : decode cX9_advance 100 = .ok (.if_icmp .lt 66, 3) := by decide +kernel
theorem dX9_advance_103 : decode cX9_advance 103 = .ok (.iload_n 1, 1) := by decide +kernel
theorem dX9_advance_104 : decode cX9_advance 104 = .ok (.bipush 122, 2) := by decide +kernel
theorem dX9_advance_106 : decode cX9_advance 106 = .ok (.if_icmp .gt 60, 3) := by decide +kernel
theorem dX9_advance_109 : decode cX9_advance 109 = .ok (.aload_n 0, 1) := by decide +kernel
theorem dX9_advance_110 : decode cX9_advance 110 = .ok (.iconst 0, 1) := by decide +kernel
theorem dX9_advance_111 : decode cX9_advance 111 = .ok (.putfield 19, 3) := by decide +kernel
theorem dX9_advance_114 : decode cX9_advance 114 = .ok (.aload_n 0, 1) := by decide +kernel
theorem dX9_advance_115 : decode cX9_advance 115 = .ok (.getfield 25, 3) := by decide +kernel
theorem dX9_advance_118 : decode cX9_advance 118 = .ok (.aload_n 0, 1) := by decide +kernel
theorem dX9_advance_119 : decode cX9_advance 119 = .ok (.getfield 15, 3) := by decide +kernel
theorem dX9_advance_122 : decode cX9_advance 122 = .ok (.if_icmp .ge 148, 3) := by decide +kernel
theorem dX9_advance_125 : decode cX9_advance 125 = .ok (.aload_n 0, 1) := by decide +kernel
theorem dX9_advance_126 : decode cX9_advance 126 = .ok (.getfield 9, 3) := by decide +kernel
theorem dX9_advance_129 : decode cX9_advance 129 = .ok (.aload_n 0, 1) := by decide +kernel
theorem dX9_advance_130 : decode cX9_advance 130 = .ok (.getfield 25, 3) := by decide +kernel
theorem dX9_advance_133 : decode cX9_advance 133 = .ok (.iaload, 1) := by decide +kernel
theorem dX9_advance_134 : decode cX9_advance 134 = .ok (.bipush 97, 2) := by decide +kernel
theorem dX9_advance_136 : decode cX9_advance 136 = .ok (.if_icmp .lt 134, 3) := by decide +kernel
theorem dX9_advance_139 : decode cX9_advance 139 = .ok (.aload_n 0, 1) := by decide +kernel
theorem dX9_advance_140 : decode cX9_advance 140 = .ok (.getfield 9, 3) := by decide +kernel
theorem dX9_advance_143 : decode cX9_advance 143 = .ok (.aload_n 0, 1) := by decide +kernel
theorem dX9_advance_144 : decode cX9_advance 144 = .ok (.getfield 25, 3) := by decide +kernel
theorem dX9_advance_147 : decode cX9_advance 147 = .ok (.iaload, 1) := by decide +kernel
theorem dX9_advance_148 : decode cX9_advance 148 = .ok (.bipush 122, 2) := by decide +kernel
theorem dX9_advance_150 : decode cX9_advance 150 = .ok (.if_icmp .gt 120, 3) := by decide +kernel
theorem dX9_advance_153 : decode cX9_advance 153 = .ok (.aload_n 0, 1) := by decide +kernel
theorem dX9_advance_154 : decode cX9_advance 154 = .ok (.dup, 1) := by decide +kernel
theorem dX9_advance_155 : decode cX9_advance 155 = .ok (.getfield 25, 3) := by decide +kernel
theorem dX9_advance_158 : decode cX9_advance 158 = .ok (.iconst 1, 1) := by decide +kernel
theorem dX9_advance_159 : decode cX9_advance 159 = .ok (.iadd, 1) := by decide +kernel
theorem dX9_advance_160 : decode cX9_advance 160 = .ok (.putfield 25, 3) := by decide +kernel
theorem dX9_advance_163 : decode cX9_advance 163 = .ok (.goto (-49), 3) := by decide +kernel
theorem dX9_advance_166 : decode cX9_advance 166 = .ok (.iload_n 1, 1) := by decide +kernel
theorem dX9_advance_167 : decode cX9_advance 167 = .ok (.bipush 48, 2) := by decide +kernel
theorem dX9_advance_169 : decode cX9_advance 169 = .ok (.if_icmp .lt 86, 3) := by decide +kernel
theorem dX9_advance_172 : decode cX9_advance 172 = .ok (.iload_n 1, 1) := by decide +kernel
theorem dX9_advance_173 : decode cX9_advance 173 = .ok (.bipush 57, 2) := by decide +kernel
theorem dX9_advance_175 : decode cX9_advance 175 = .ok (.if_icmp .gt 80, 3) := by decide +kernel
theorem dX9_advance_178 : decode cX9_advance 178 = .ok (.aload_n 0, 1) := by decide +kernel
theorem dX9_advance_179 : decode cX9_advance 179 = .ok (.getfield 25, 3) := by decide +kernel
theorem dX9_advance_182 : decode cX9_advance 182 = .ok (.aload_n 0, 1) := by decide +kernel
theorem dX9_advance_183 : decode cX9_advance 183 = .ok (.getfield 15, 3) := by decide +kernel
theorem dX9_advance_186 : decode cX9_advance 186 = .ok (.if_icmp .ge 44, 3) := by decide +kernel
theorem dX9_advance_189 : decode cX9_advance 189 = .ok (.aload_n 0, 1) := by decide +kernel
theorem dX9_advance_190 : decode cX9_advance 190 = .ok (.getfield 9, 3) := by decide +kernel
theorem dX9_advance_193 : decode cX9_advance 193 = .ok (.aload_n 0, 1) := by decide +kernel
theorem dX9_advance_194 : decode cX9_advance 194 = .ok (.getfield 25, 3) := by decide +kernel
theorem dX9_advance_197 : decode cX9_advance 197 = .ok (.iaload, 1) := by decide +kernel
theorem dX9_advance_198 : decode cX9_advance 198 = .ok (.bipush 48, 2) := by decide +kernel
theorem dX9_advance_200 : decode cX9_advance 200 = .ok (.if_icmp .lt 30, 3) := by decide +kernel
theorem dX9_advance_203 : decode cX9_advance 203 = .ok (.aload_n 0, 1) := by decide +kernel
theorem dX9_advance_204 : decode cX9_advance 204 = .ok (.getfield 9, 3) := by decide +kernel
theorem dX9_advance_207 : decode cX9_advance 207 = .ok (.aload_n 0, 1) := by decide +kernel
theorem dX9_advance_208 : decode cX9_advance 208 = .ok (.getfield 25, 3) := by decide +kernel
theorem dX9_advance_211 : decode cX9_advance 211 = .ok (.iaload, 1) := by decide +kernel
theorem dX9_advance_212 : decode cX9_advance 212 = .ok (.bipush 57, 2) := by decide +kernel
theorem dX9_advance_214 : decode cX9_advance 214 = .ok (.if_icmp .gt 16, 3) := by decide +kernel
theorem dX9_advance_217 : decode cX9_advance 217 = .ok (.aload_n 0, 1) := by decide +kernel
theorem dX9_advance_218 : decode cX9_advance 218 = .ok (.dup, 1) := by decide +kernel
theorem dX9_advance_219 : decode cX9_advance 219 = .ok (.getfield 25, 3) := by decide +kernel
theorem dX9_advance_222 : decode cX9_advance 222 = .ok (.iconst 1, 1) := by decide +kernel
theorem dX9_advance_223 : decode cX9_advance 223 = .ok (.iadd, 1) := by decide +kernel
theorem dX9_advance_224 : decode cX9_advance 224 = .ok (.putfield 25, 3) := by decide +kernel
theorem dX9_advance_227 : decode cX9_advance 227 = .ok (.goto (-49), 3) := by decide +kernel
theorem dX9_advance_230 : decode cX9_advance 230 = .ok (.aload_n 0, 1) := by decide +kernel
theorem dX9_advance_231 : decode cX9_advance 231 = .ok (.aload_n 0, 1) := by decide +kernel
theorem dX9_advance_232 : decode cX9_advance 232 = .ok (.getfield 25, 3) := by decide +kernel
theorem dX9_advance_235 : decode cX9_advance 235 = .ok (.aload_n 0, 1) := by decide +kernel
theorem dX9_advance_236 : decode cX9_advance 236 = .ok (.getfield 22, 3) := by decide +kernel
theorem dX9_advance_239 : decode cX9_advance 239 = .ok (.isub, 1) := by decide +kernel
theorem dX9_advance_240 : decode cX9_advance 240 = .ok (.iconst 4, 1) := by decide +kernel
theorem dX9_advance_241 : decode cX9_advance 241 = .ok (.if_icmp .le 7, 3) := by decide +kernel
theorem dX9_advance_244 : decode cX9_advance 244 = .ok (.iconst 4, 1) := by decide +kernel
theorem dX9_advance_245 : decode cX9_advance 245 = .ok (.goto 4, 3) := by decide +kernel
theorem dX9_advance_248 : decode cX9_advance 248 = .ok (.iconst 1, 1) := by decide +kernel
theorem dX9_advance_249 : decode cX9_advance 249 = .ok (.putfield 19, 3) := by decide +kernel
theorem dX9_advance_252 : decode cX9_advance 252 = .ok (.goto 18, 3) := by decide +kernel
theorem dX9_advance_255 : decode cX9_advance 255 = .ok (.aload_n 0, 1) := by decide +kernel
theorem dX9_advance_256 : decode cX9_advance 256 = .ok (.iload_n 1, 1) := by decide +kernel
theorem dX9_advance_257 : decode cX9_advance 257 = .ok (.bipush 59, 2) := by decide +kernel
theorem dX9_advance_259 : decode cX9_advance 259 = .ok (.if_icmp .ne 7, 3) := by decide +kernel
theorem dX9_advance_262 : decode cX9_advance 262 = .ok (.iconst 2, 1) := by decide +kernel
theorem dX9_advance_263 : decode cX9_advance 263 = .ok (.goto 4, 3) := by decide +kernel
theorem dX9_advance_266 : decode cX9_advance 266 = .ok (.iconst 4, 1) := by decide +kernel
theorem dX9_advance_267 : decode cX9_advance 267 = .ok (.putfield 19, 3) := by decide +kernel
theorem dX9_advance_270 : decode cX9_advance 270 = .ok (.return_, 1) := by decide +kernel
theorem dX9_isAtEnd_0 : decode cX9_isAtEnd 0 = .ok (.aload_n 0, 1) := by decide +kernel
theorem dX9_isAtEnd_1 : decode cX9_isAtEnd 1 = .ok (.getfield 19, 3) := by decide +kernel
theorem dX9_isAtEnd_4 : decode cX9_isAtEnd 4 = .ok (.iconst 3, 1) := by decide +kernel
theorem dX9_isAtEnd_5 : decode cX9_isAtEnd 5 = .ok (.if_icmp .ne 7, 3) := by decide +kernel
theorem dX9_isAtEnd_8 : decode cX9_isAtEnd 8 = .ok (.iconst 1, 1) := by decide +kernel
theorem dX9_isAtEnd_9 : decode cX9_isAtEnd 9 = .ok (.goto 4, 3) := by decide +kernel
theorem dX9_isAtEnd_12 : decode cX9_isAtEnd 12 = .ok (.iconst 0, 1) := by decide +kernel
theorem dX9_isAtEnd_13 : decode cX9_isAtEnd 13 = .ok (.ireturn, 1) := by decide +kernel
theorem dX9_isAtWord_0 : decode cX9_isAtWord 0 = .ok (.aload_n 0, 1) := by decide +kernel
theorem dX9_isAtWord_1 : decode cX9_isAtWord 1 = .ok (.getfield 19, 3) := by decide +kernel
theorem dX9_isAtWord_4 : decode cX9_isAtWord 4 = .ok (.ifCond .ne 19, 3) := by decide +kernel
theorem dX9_isAtWord_7 : decode cX9_isAtWord 7 = .ok (.aload_n 0, 1) := by decide +kernel
theorem dX9_isAtWord_8 : decode cX9_isAtWord 8 = .ok (.getfield 25, 3) := by decide +kernel
theorem dX9_isAtWord_11 : decode cX9_isAtWord 11 = .ok (.aload_n 0, 1) := by decide +kernel
theorem dX9_isAtWord_12 : decode cX9_isAtWord 12 = .ok (.getfield 22, 3) := by decide +kernel
theorem dX9_isAtWord_15 : decode cX9_isAtWord 15 = .ok (.isub, 1) := by decide +kernel
theorem dX9_isAtWord_16 : decode cX9_isAtWord 16 = .ok (.aload_n 1, 1) := by decide +kernel
theorem dX9_isAtWord_17 : decode cX9_isAtWord 17 = .ok (.invokevirtual 41, 3) := by decide +kernel
theorem dX9_isAtWord_20 : decode cX9_isAtWord 20 = .ok (.if_icmp .eq 5, 3) := by decide +kernel
theorem dX9_isAtWord_23 : decode cX9_isAtWord 23 = .ok (.iconst 0, 1) := by decide +kernel
theorem dX9_isAtWord_24 : decode cX9_isAtWord 24 = .ok (.ireturn, 1) := by decide +kernel
theorem dX9_isAtWord_25 : decode cX9_isAtWord 25 = .ok (.iconst 0, 1) := by decide +kernel
theorem dX9_isAtWord_26 : decode cX9_isAtWord 26 = .ok (.istore_n 2, 1) := by decide +kernel
theorem dX9_isAtWord_27 : decode cX9_isAtWord 27 = .ok (.iload_n 2, 1) := by decide +kernel
theorem dX9_isAtWord_28 : decode cX9_isAtWord 28 = .ok (.aload_n 1, 1) := by decide +kernel
theorem dX9_isAtWord_29 : decode cX9_isAtWord 29 = .ok (.invokevirtual 41, 3) := by decide +kernel
theorem dX9_isAtWord_32 : decode cX9_isAtWord 32 = .ok (.if_icmp .ge 30, 3) := by decide +kernel
theorem dX9_isAtWord_35 : decode cX9_isAtWord 35 = .ok (.aload_n 0, 1) := by decide +kernel
theorem dX9_isAtWord_36 : decode cX9_isAtWord 36 = .ok (.getfield 9, 3) := by decide +kernel
theorem dX9_isAtWord_39 : decode cX9_isAtWord 39 = .ok (.aload_n 0, 1) := by decide +kernel
theorem dX9_isAtWord_40 : decode cX9_isAtWord 40 = .ok (.getfield 22, 3) := by decide +kernel
theorem dX9_isAtWord_43 : decode cX9_isAtWord 43 = .ok (.iload_n 2, 1) := by decide +kernel
theorem dX9_isAtWord_44 : decode cX9_isAtWord 44 = .ok (.iadd, 1) := by decide +kernel
theorem dX9_isAtWord_45 : decode cX9_isAtWord 45 = .ok (.iaload, 1) := by decide +kernel
theorem dX9_isAtWord_46 : decode cX9_isAtWord 46 = .ok (.aload_n 1, 1) := by decide +kernel
theorem dX9_isAtWord_47 : decode cX9_isAtWord 47 = .ok (.iload_n 2, 1) := by decide +kernel
theorem dX9_isAtWord_48 : decode cX9_isAtWord 48 = .ok (.invokevirtual 46, 3) := by decide +kernel
theorem dX9_isAtWord_51 : decode cX9_isAtWord 51 = .ok (.if_icmp .eq 5, 3) := by decide +kernel
theorem dX9_isAtWord_54 : decode cX9_isAtWord 54 = .ok (.iconst 0, 1) := by decide +kernel
theorem dX9_isAtWord_55 : decode cX9_isAtWord 55 = .ok (.ireturn, 1) := by decide +kernel
theorem dX9_isAtWord_56 : decode cX9_isAtWord 56 = .ok (.iinc 2 1, 3) := by decide +kernel
theorem dX9_isAtWord_59 : decode cX9_isAtWord 59 = .ok (.goto (-32), 3) := by decide +kernel
theorem dX9_isAtWord_62 : decode cX9_isAtWord 62 = .ok (.iconst 1, 1) := by decide +kernel
theorem dX9_isAtWord_63 : decode cX9_isAtWord 63 = .ok (.ireturn, 1) := by decide +kernel
theorem dX9_nameHere_0 : decode cX9_nameHere 0 = .ok (.aload_n 0, 1) := by decide +kernel
theorem dX9_nameHere_1 : decode cX9_nameHere 1 = .ok (.getfield 19, 3) := by decide +kernel
theorem dX9_nameHere_4 : decode cX9_nameHere 4 = .ok (.ifCond .ne 26, 3) := by decide +kernel
theorem dX9_nameHere_7 : decode cX9_nameHere 7 = .ok (.aload_n 0, 1) := by decide +kernel
theorem dX9_nameHere_8 : decode cX9_nameHere 8 = .ok (.getfield 25, 3) := by decide +kernel
theorem dX9_nameHere_11 : decode cX9_nameHere 11 = .ok (.aload_n 0, 1) := by decide +kernel
theorem dX9_nameHere_12 : decode cX9_nameHere 12 = .ok (.getfield 22, 3) := by decide +kernel
theorem dX9_nameHere_15 : decode cX9_nameHere 15 = .ok (.isub, 1) := by decide +kernel
theorem dX9_nameHere_16 : decode cX9_nameHere 16 = .ok (.bipush 6, 2) := by decide +kernel
theorem dX9_nameHere_18 : decode cX9_nameHere 18 = .ok (.if_icmp .gt 12, 3) := by decide +kernel
theorem dX9_nameHere_21 : decode cX9_nameHere 21 = .ok (.aload_n 0, 1) := by decide +kernel
theorem dX9_nameHere_22 : decode cX9_nameHere 22 = .ok (.ldc 50, 2) := by decide +kernel
theorem dX9_nameHere_24 : decode cX9_nameHere 24 = .ok (.invokevirtual 52, 3) := by decide +kernel
theorem dX9_nameHere_27 : decode cX9_nameHere 27 = .ok (.ifCond .eq 5, 3) := by decide +kernel
theorem dX9_nameHere_30 : decode cX9_nameHere 30 = .ok (.iconst (-1), 1) := by decide +kernel
theorem dX9_nameHere_31 : decode cX9_nameHere 31 = .ok (.ireturn, 1) := by decide +kernel
theorem dX9_nameHere_32 : decode cX9_nameHere 32 = .ok (.iconst 0, 1) := by decide +kernel
theorem dX9_nameHere_33 : decode cX9_nameHere 33 = .ok (.istore_n 1, 1) := by decide +kernel
theorem dX9_nameHere_34 : decode cX9_nameHere 34 = .ok (.aload_n 0, 1) := by decide +kernel
theorem dX9_nameHere_35 : decode cX9_nameHere 35 = .ok (.getfield 25, 3) := by decide +kernel
theorem dX9_nameHere_38 : decode cX9_nameHere 38 = .ok (.iconst 1, 1) := by decide +kernel
theorem dX9_nameHere_39 : decode cX9_nameHere 39 = .ok (.isub, 1) := by decide +kernel
theorem dX9_nameHere_40 : decode cX9_nameHere 40 = .ok (.istore_n 2, 1) := by decide +kernel
theorem dX9_nameHere_41 : decode cX9_nameHere 41 = .ok (.iload_n 2, 1) := by decide +kernel
theorem dX9_nameHere_42 : decode cX9_nameHere 42 = .ok (.aload_n 0, 1) := by decide +kernel
theorem dX9_nameHere_43 : decode cX9_nameHere 43 = .ok (.getfield 22, 3) := by decide +kernel
theorem dX9_nameHere_46 : decode cX9_nameHere 46 = .ok (.if_icmp .lt 25, 3) := by decide +kernel
theorem dX9_nameHere_49 : decode cX9_nameHere 49 = .ok (.iload_n 1, 1) := by decide +kernel
theorem dX9_nameHere_50 : decode cX9_nameHere 50 = .ok (.iconst 5, 1) := by decide +kernel
theorem dX9_nameHere_51 : decode cX9_nameHere 51 = .ok (.ishl, 1) := by decide +kernel
theorem dX9_nameHere_52 : decode cX9_nameHere 52 = .ok (.aload_n 0, 1) := by decide +kernel
theorem dX9_nameHere_53 : decode cX9_nameHere 53 = .ok (.getfield 9, 3) := by decide +kernel
theorem dX9_nameHere_56 : decode cX9_nameHere 56 = .ok (.iload_n 2, 1) := by decide +kernel
theorem dX9_nameHere_57 : decode cX9_nameHere 57 = .ok (.iaload, 1) := by decide +kernel
theorem dX9_nameHere_58 : decode cX9_nameHere 58 = .ok (.bipush 97, 2) := by decide +kernel
theorem dX9_nameHere_60 : decode cX9_nameHere 60 = .ok (.isub, 1) := by decide +kernel
theorem dX9_nameHere_61 : decode cX9_nameHere 61 = .ok (.iconst 1, 1) := by decide +kernel
theorem dX9_nameHere_62 : decode cX9_nameHere 62 = .ok (.iadd, 1) := by decide +kernel
theorem dX9_nameHere_63 : decode cX9_nameHere 63 = .ok (.ior, 1) := by decide +kernel
theorem dX9_nameHere_64 : decode cX9_nameHere 64 = .ok (.istore_n 1, 1) := by decide +kernel
theorem dX9_nameHere_65 : decode cX9_nameHere 65 = .ok (.iinc 2 (-1), 3) := by decide +kernel
theorem dX9_nameHere_68 : decode cX9_nameHere 68 = .ok (.goto (-27), 3) := by decide +kernel
theorem dX9_nameHere_71 : decode cX9_nameHere 71 = .ok (.iload_n 1, 1) := by decide +kernel
theorem dX9_nameHere_72 : decode cX9_nameHere 72 = .ok (.ireturn, 1) := by decide +kernel
theorem dX9_numberHere_0 : decode cX9_numberHere 0 = .ok (.iconst 0, 1) := by decide +kernel
theorem dX9_numberHere_1 : decode cX9_numberHere 1 = .ok (.istore_n 1, 1) := by decide +kernel
theorem dX9_numberHere_2 : decode cX9_numberHere 2 = .ok (.aload_n 0, 1) := by decide +kernel
theorem dX9_numberHere_3 : decode cX9_numberHere 3 = .ok (.getfield 22, 3) := by decide +kernel
theorem dX9_numberHere_6 : decode cX9_numberHere 6 = .ok (.istore_n 2, 1) := by decide +kernel
theorem dX9_numberHere_7 : decode cX9_numberHere 7 = .ok (.iload_n 2, 1) := by decide +kernel
theorem dX9_numberHere_8 : decode cX9_numberHere 8 = .ok (.aload_n 0, 1) := by decide +kernel
theorem dX9_numberHere_9 : decode cX9_numberHere 9 = .ok (.getfield 25, 3) := by decide +kernel
theorem dX9_numberHere_12 : decode cX9_numberHere 12 = .ok (.if_icmp .ge 24, 3) := by decide +kernel
theorem dX9_numberHere_15 : decode cX9_numberHere 15 = .ok (.bipush 10, 2) := by decide +kernel
theorem dX9_numberHere_17 : decode cX9_numberHere 17 = .ok (.iload_n 1, 1) := by decide +kernel
theorem dX9_numberHere_18 : decode cX9_numberHere 18 = .ok (.imul, 1) := by decide +kernel
theorem dX9_numberHere_19 : decode cX9_numberHere 19 = .ok (.aload_n 0, 1) := by decide +kernel
theorem dX9_numberHere_20 : decode cX9_numberHere 20 = .ok (.getfield 9, 3) := by decide +kernel
theorem dX9_numberHere_23 : decode cX9_numberHere 23 = .ok (.iload_n 2, 1) := by decide +kernel
theorem dX9_numberHere_24 : decode cX9_numberHere 24 = .ok (.iaload, 1) := by decide +kernel
theorem dX9_numberHere_25 : decode cX9_numberHere 25 = .ok (.iadd, 1) := by decide +kernel
theorem dX9_numberHere_26 : decode cX9_numberHere 26 = .ok (.bipush 48, 2) := by decide +kernel
theorem dX9_numberHere_28 : decode cX9_numberHere 28 = .ok (.isub, 1) := by decide +kernel
theorem dX9_numberHere_29 : decode cX9_numberHere 29 = .ok (.istore_n 1, 1) := by decide +kernel
theorem dX9_numberHere_30 : decode cX9_numberHere 30 = .ok (.iinc 2 1, 3) := by decide +kernel
theorem dX9_numberHere_33 : decode cX9_numberHere 33 = .ok (.goto (-26), 3) := by decide +kernel
theorem dX9_numberHere_36 : decode cX9_numberHere 36 = .ok (.iload_n 1, 1) := by decide +kernel
theorem dX9_numberHere_37 : decode cX9_numberHere 37 = .ok (.ireturn, 1) := by decide +kernel
theorem dX9_fail_0 : decode cX9_fail 0 = .ok (.aload_n 0, 1) := by decide +kernel
theorem dX9_fail_1 : decode cX9_fail 1 = .ok (.iload_n 1, 1) := by decide +kernel
theorem dX9_fail_2 : decode cX9_fail 2 = .ok (.putfield 28, 3) := by decide +kernel
theorem dX9_fail_5 : decode cX9_fail 5 = .ok (.aload_n 0, 1) := by decide +kernel
theorem dX9_fail_6 : decode cX9_fail 6 = .ok (.aload_n 0, 1) := by decide +kernel
theorem dX9_fail_7 : decode cX9_fail 7 = .ok (.getfield 22, 3) := by decide +kernel
theorem dX9_fail_10 : decode cX9_fail 10 = .ok (.putfield 31, 3) := by decide +kernel
theorem dX9_fail_13 : decode cX9_fail 13 = .ok (.iconst 0, 1) := by decide +kernel
theorem dX9_fail_14 : decode cX9_fail 14 = .ok (.ireturn, 1) := by decide +kernel
theorem dX9_readNumber_0 : decode cX9_readNumber 0 = .ok (.aload_n 0, 1) := by decide +kernel
theorem dX9_readNumber_1 : decode cX9_readNumber 1 = .ok (.getfield 19, 3) := by decide +kernel
theorem dX9_readNumber_4 : decode cX9_readNumber 4 = .ok (.iconst 1, 1) := by decide +kernel
theorem dX9_readNumber_5 : decode cX9_readNumber 5 = .ok (.if_icmp .eq 11, 3) := by decide +kernel
theorem dX9_readNumber_8 : decode cX9_readNumber 8 = .ok (.aload_n 0, 1) := by decide +kernel
theorem dX9_readNumber_9 : decode cX9_readNumber 9 = .ok (.iconst 1, 1) := by decide +kernel
theorem dX9_readNumber_10 : decode cX9_readNumber 10 = .ok (.invokevirtual 58, 3) := by decide +kernel
theorem dX9_readNumber_13 : decode cX9_readNumber 13 = .ok (.pop, 1) := by decide +kernel
theorem dX9_readNumber_14 : decode cX9_readNumber 14 = .ok (.iconst (-1), 1) := by decide +kernel
theorem dX9_readNumber_15 : decode cX9_readNumber 15 = .ok (.ireturn, 1) := by decide +kernel
theorem dX9_readNumber_16 : decode cX9_readNumber 16 = .ok (.aload_n 0, 1) := by decide +kernel
theorem dX9_readNumber_17 : decode cX9_readNumber 17 = .ok (.invokevirtual 62, 3) := by decide +kernel
theorem dX9_readNumber_20 : decode cX9_readNumber 20 = .ok (.istore_n 3, 1) := by decide +kernel
theorem dX9_readNumber_21 : decode cX9_readNumber 21 = .ok (.iload_n 3, 1) := by decide +kernel
theorem dX9_readNumber_22 : decode cX9_readNumber 22 = .ok (.iload_n 1, 1) := by decide +kernel
theorem dX9_readNumber_23 : decode cX9_readNumber 23 = .ok (.if_icmp .lt 8, 3) := by decide +kernel
theorem dX9_readNumber_26 : decode cX9_readNumber 26 = .ok (.iload_n 3, 1) := by decide +kernel
theorem dX9_readNumber_27 : decode cX9_readNumber 27 = .ok (.iload_n 2, 1) := by decide +kernel
theorem dX9_readNumber_28 : decode cX9_readNumber 28 = .ok (.if_icmp .le 11, 3) := by decide +kernel
theorem dX9_readNumber_31 : decode cX9_readNumber 31 = .ok (.aload_n 0, 1) := by decide +kernel
theorem dX9_readNumber_32 : decode cX9_readNumber 32 = .ok (.iconst 2, 1) := by decide +kernel
theorem dX9_readNumber_33 : decode cX9_readNumber 33 = .ok (.invokevirtual 58, 3) := by decide +kernel
theorem dX9_readNumber_36 : decode cX9_readNumber 36 = .ok (.pop, 1) := by decide +kernel
theorem dX9_readNumber_37 : decode cX9_readNumber 37 = .ok (.iconst (-1), 1) := by decide +kernel
theorem dX9_readNumber_38 : decode cX9_readNumber 38 = .ok (.ireturn, 1) := by decide +kernel
theorem dX9_readNumber_39 : decode cX9_readNumber 39 = .ok (.aload_n 0, 1) := by decide +kernel
theorem dX9_readNumber_40 : decode cX9_readNumber 40 = .ok (.invokevirtual 38, 3) := by decide +kernel
theorem dX9_readNumber_43 : decode cX9_readNumber 43 = .ok (.iload_n 3, 1) := by decide +kernel
theorem dX9_readNumber_44 : decode cX9_readNumber 44 = .ok (.ireturn, 1) := by decide +kernel
theorem dX9_readSemicolon_0 : decode cX9_readSemicolon 0 = .ok (.aload_n 0, 1) := by decide +kernel
theorem dX9_readSemicolon_1 : decode cX9_readSemicolon 1 = .ok (.getfield 19, 3) := by decide +kernel
theorem dX9_readSemicolon_4 : decode cX9_readSemicolon 4 = .ok (.iconst 2, 1) := by decide +kernel
theorem dX9_readSemicolon_5 : decode cX9_readSemicolon 5 = .ok (.if_icmp .eq 9, 3) := by decide +kernel
theorem dX9_readSemicolon_8 : decode cX9_readSemicolon 8 = .ok (.aload_n 0, 1) := by decide +kernel
theorem dX9_readSemicolon_9 : decode cX9_readSemicolon 9 = .ok (.iconst 1, 1) := by decide +kernel
theorem dX9_readSemicolon_10 : decode cX9_readSemicolon 10 = .ok (.invokevirtual 58, 3) := by decide +kernel
theorem dX9_readSemicolon_13 : decode cX9_readSemicolon 13 = .ok (.ireturn, 1) := by decide +kernel
theorem dX9_readSemicolon_14 : decode cX9_readSemicolon 14 = .ok (.aload_n 0, 1) := by decide +kernel
theorem dX9_readSemicolon_15 : decode cX9_readSemicolon 15 = .ok (.invokevirtual 38, 3) := by decide +kernel
theorem dX9_readSemicolon_18 : decode cX9_readSemicolon 18 = .ok (.iconst 1, 1) := by decide +kernel
theorem dX9_readSemicolon_19 : decode cX9_readSemicolon 19 = .ok (.ireturn, 1) := by decide +kernel
theorem dX10_init_0 : decode cX10_init 0 = .ok (.aload_n 0, 1) := by decide +kernel
theorem dX10_init_1 : decode cX10_init 1 = .ok (.invokespecial 3, 3) := by decide +kernel
theorem dX10_init_4 : decode cX10_init 4 = .ok (.aload_n 0, 1) := by decide +kernel
theorem dX10_init_5 : decode cX10_init 5 = .ok (.iconst 0, 1) := by decide +kernel
theorem dX10_init_6 : decode cX10_init 6 = .ok (.putfield 9, 3) := by decide +kernel
theorem dX10_init_9 : decode cX10_init 9 = .ok (.aload_n 0, 1) := by decide +kernel
theorem dX10_init_10 : decode cX10_init 10 = .ok (.iconst 0, 1) := by decide +kernel
theorem dX10_init_11 : decode cX10_init 11 = .ok (.putfield 15, 3) := by decide +kernel
theorem dX10_init_14 : decode cX10_init 14 = .ok (.aload_n 0, 1) := by decide +kernel
theorem dX10_init_15 : decode cX10_init 15 = .ok (.bipush 100, 2) := by decide +kernel
theorem dX10_init_17 : decode cX10_init 17 = .ok (.newarray .int, 2) := by decide +kernel
theorem dX10_init_19 : decode cX10_init 19 = .ok (.putfield 18, 3) := by decide +kernel
theorem dX10_init_22 : decode cX10_init 22 = .ok (.return_, 1) := by decide +kernel
theorem dX10_clear_0 : decode cX10_clear 0 = .ok (.aload_n 0, 1) := by decide +kernel
theorem dX10_clear_1 : decode cX10_clear 1 = .ok (.iconst 0, 1) := by decide +kernel
theorem dX10_clear_2 : decode cX10_clear 2 = .ok (.putfield 9, 3) := by decide +kernel
theorem dX10_clear_5 : decode cX10_clear 5 = .ok (.aload_n 0, 1) := by decide +kernel
theorem dX10_clear_6 : decode cX10_clear 6 = .ok (.iconst 0, 1) := by decide +kernel
theorem dX10_clear_7 : decode cX10_clear 7 = .ok (.putfield 15, 3) := by decide +kernel
theorem dX10_clear_10 : decode cX10_clear 10 = .ok (.return_, 1) := by decide +kernel
theorem dX10_add_0 : decode cX10_add 0 = .ok (.aload_n 0, 1) := by decide +kernel
theorem dX10_add_1 : decode cX10_add 1 = .ok (.getfield 15, 3) := by decide +kernel
theorem dX10_add_4 : decode cX10_add 4 = .ok (.iconst 5, 1) := by decide +kernel
theorem dX10_add_5 : decode cX10_add 5 = .ok (.imul, 1) := by decide +kernel
theorem dX10_add_6 : decode cX10_add 6 = .ok (.istore 6, 2) := by decide +kernel
theorem dX10_add_8 : decode cX10_add 8 = .ok (.aload_n 0, 1) := by decide +kernel
theorem dX10_add_9 : decode cX10_add 9 = .ok (.getfield 18, 3) := by decide +kernel
theorem dX10_add_12 : decode cX10_add 12 = .ok (.iload 6, 2) := by decide +kernel
theorem dX10_add_14 : decode cX10_add 14 = .ok (.iload_n 1, 1) := by decide +kernel
theorem dX10_add_15 : decode cX10_add 15 = .ok (.iastore, 1) := by decide +kernel
theorem dX10_add_16 : decode cX10_add 16 = .ok (.aload_n 0, 1) := by decide +kernel
theorem dX10_add_17 : decode cX10_add 17 = .ok (.getfield 18, 3) := by decide +kernel
theorem dX10_add_20 : decode cX10_add 20 = .ok (.iload 6, 2) := by decide +kernel
theorem dX10_add_22 : decode cX10_add 22 = .ok (.iconst 1, 1) := by decide +kernel
theorem dX10_add_23 : decode cX10_add 23 = .ok (.iadd, 1) := by decide +kernel
theorem dX10_add_24 : decode cX10_add 24 = .ok (.iload_n 2, 1) := by decide +kernel
theorem dX10_add_25 : decode cX10_add 25 = .ok (.iastore, 1) := by decide +kernel
theorem dX10_add_26 : decode cX10_add 26 = .ok (.aload_n 0, 1) := by decide +kernel
theorem dX10_add_27 : decode cX10_add 27 = .ok (.getfield 18, 3) := by decide +kernel
theorem dX10_add_30 : decode cX10_add 30 = .ok (.iload 6, 2) := by decide +kernel
theorem dX10_add_32 : decode cX10_add 32 = .ok (.iconst 2, 1) := by decide +kernel
theorem dX10_add_33 : decode cX10_add 33 = .ok (.iadd, 1) := by decide +kernel
theorem dX10_add_34 : decode cX10_add 34 = .ok (.iload_n 3, 1) := by decide +kernel
theorem dX10_add_35 : decode cX10_add 35 = .ok (.iastore, 1) := by decide +kernel
theorem dX10_add_36 : decode cX10_add 36 = .ok (.aload_n 0, 1) := by decide +kernel
theorem dX10_add_37 : decode cX10_add 37 = .ok (.getfield 18, 3) := by decide +kernel
theorem dX10_add_40 : decode cX10_add 40 = .ok (.iload 6, 2) := by decide +kernel
theorem dX10_add_42 : decode cX10_add 42 = .ok (.iconst 3, 1) := by decide +kernel
theorem dX10_add_43 : decode cX10_add 43 = .ok (.iadd, 1) := by decide +kernel
theorem dX10_add_44 : decode cX10_add 44 = .ok (.iload 4, 2) := by decide +kernel
theorem dX10_add_46 : decode cX10_add 46 = .ok (.iastore, 1) := by decide +kernel
theorem dX10_add_47 : decode cX10_add 47 = .ok (.aload_n 0, 1) := by decide +kernel
theorem dX10_add_48 : decode cX10_add 48 = .ok (.getfield 18, 3) := by decide +kernel
theorem dX10_add_51 : decode cX10_add 51 = .ok (.iload 6, 2) := by decide +kernel
theorem dX10_add_53 : decode cX10_add 53 = .ok (.iconst 4, 1) := by decide +kernel
theorem dX10_add_54 : decode cX10_add 54 = .ok (.iadd, 1) := by decide +kernel
theorem dX10_add_55 : decode cX10_add 55 = .ok (.iload 5, 2) := by decide +kernel
theorem dX10_add_57 : decode cX10_add 57 = .ok (.iastore, 1) := by decide +kernel
theorem dX10_add_58 : decode cX10_add 58 = .ok (.aload_n 0, 1) := by decide +kernel
theorem dX10_add_59 : decode cX10_add 59 = .ok (.aload_n 0, 1) := by decide +kernel
theorem dX10_add_60 : decode cX10_add 60 = .ok (.getfield 15, 3) := by decide +kernel
theorem dX10_add_63 : decode cX10_add 63 = .ok (.iconst 1, 1) := by decide +kernel
theorem dX10_add_64 : decode cX10_add 64 = .ok (.iadd, 1) := by decide +kernel
theorem dX10_add_65 : decode cX10_add 65 = .ok (.bipush 20, 2) := by decide +kernel
theorem dX10_add_67 : decode cX10_add 67 = .ok (.irem, 1) := by decide +kernel
theorem dX10_add_68 : decode cX10_add 68 = .ok (.putfield 15, 3) := by decide +kernel
theorem dX10_add_71 : decode cX10_add 71 = .ok (.aload_n 0, 1) := by decide +kernel
theorem dX10_add_72 : decode cX10_add 72 = .ok (.getfield 9, 3) := by decide +kernel
theorem dX10_add_75 : decode cX10_add 75 = .ok (.bipush 20, 2) := by decide +kernel
theorem dX10_add_77 : decode cX10_add 77 = .ok (.if_icmp .ge 13, 3) := by decide +kernel
theorem dX10_add_80 : decode cX10_add 80 = .ok (.aload_n 0, 1) := by decide +kernel
theorem dX10_add_81 : decode cX10_add 81 = .ok (.dup, 1) := by decide +kernel
theorem dX10_add_82 : decode cX10_add 82 = .ok (.getfield 9, 3) := by decide +kernel
theorem dX10_add_85 : decode cX10_add 85 = .ok (.iconst 1, 1) := by decide +kernel
theorem dX10_add_86 : decode cX10_add 86 = .ok (.iadd, 1) := by decide +kernel
theorem dX10_add_87 : decode cX10_add 87 = .ok (.putfield 9, 3) := by decide +kernel
theorem dX10_add_90 : decode cX10_add 90 = .ok (.return_, 1) := by decide +kernel
theorem dX10_numberOf_0 : decode cX10_numberOf 0 = .ok (.aload_n 0, 1) := by decide +kernel
theorem dX10_numberOf_1 : decode cX10_numberOf 1 = .ok (.getfield 15, 3) := by decide +kernel
theorem dX10_numberOf_4 : decode cX10_numberOf 4 = .ok (.iconst 1, 1) := by decide +kernel
theorem dX10_numberOf_5 : decode cX10_numberOf 5 = .ok (.isub, 1) := by decide +kernel
theorem dX10_numberOf_6 : decode cX10_numberOf 6 = .ok (.iload_n 1, 1) := by decide +kernel
theorem dX10_numberOf_7 : decode cX10_numberOf 7 = .ok (.isub, 1) := by decide +kernel
theorem dX10_numberOf_8 : decode cX10_numberOf 8 = .ok (.bipush 40, 2) := by decide +kernel
theorem dX10_numberOf_10 : decode cX10_numberOf 10 = .ok (.iadd, 1) := by decide +kernel
theorem dX10_numberOf_11 : decode cX10_numberOf 11 = .ok (.bipush 20, 2) := by decide +kernel
theorem dX10_numberOf_13 : decode cX10_numberOf 13 = .ok (.irem, 1) := by decide +kernel
theorem dX10_numberOf_14 : decode cX10_numberOf 14 = .ok (.istore_n 3, 1) := by decide +kernel
theorem dX10_numberOf_15 : decode cX10_numberOf 15 = .ok (.aload_n 0, 1) := by decide +kernel
theorem dX10_numberOf_16 : decode cX10_numberOf 16 = .ok (.getfield 18, 3) := by decide +kernel
theorem dX10_numberOf_19 : decode cX10_numberOf 19 = .ok (.iload_n 3, 1) := by decide +kernel
theorem dX10_numberOf_20 : decode cX10_numberOf 20 = .ok (.iconst 5, 1) := by decide +kernel
theorem dX10_numberOf_21 : decode cX10_numberOf 21 = .ok (.imul, 1) := by decide +kernel
theorem dX10_numberOf_22 : decode cX10_numberOf 22 = .ok (.iload_n 2, 1) := by decide +kernel
theorem dX10_numberOf_23 : decode cX10_numberOf 23 = .ok (.iadd, 1) := by decide +kernel
theorem dX10_numberOf_24 : decode cX10_numberOf 24 = .ok (.iaload, 1) := by decide +kernel
theorem dX10_numberOf_25 : decode cX10_numberOf 25 = .ok (.ireturn, 1) := by decide +kernel
theorem dX10_copyFrom_0 : decode cX10_copyFrom 0 = .ok (.aload_n 0, 1) := by decide +kernel
theorem dX10_copyFrom_1 : decode cX10_copyFrom 1 = .ok (.aload_n 1, 1) := by decide +kernel
theorem dX10_copyFrom_2 : decode cX10_copyFrom 2 = .ok (.getfield 9, 3) := by decide +kernel
theorem dX10_copyFrom_5 : decode cX10_copyFrom 5 = .ok (.putfield 9, 3) := by decide +kernel
theorem dX10_copyFrom_8 : decode cX10_copyFrom 8 = .ok (.aload_n 0, 1) := by decide +kernel
theorem dX10_copyFrom_9 : decode cX10_copyFrom 9 = .ok (.aload_n 1, 1) := by decide +kernel
theorem dX10_copyFrom_10 : decode cX10_copyFrom 10 = .ok (.getfield 15, 3) := by decide +kernel
theorem dX10_copyFrom_13 : decode cX10_copyFrom 13 = .ok (.putfield 15, 3) := by decide +kernel
theorem dX10_copyFrom_16 : decode cX10_copyFrom 16 = .ok (.aload_n 1, 1) := by decide +kernel
theorem dX10_copyFrom_17 : decode cX10_copyFrom 17 = .ok (.getfield 18, 3) := by decide +kernel
theorem dX10_copyFrom_20 : decode cX10_copyFrom 20 = .ok (.iconst 0, 1) := by decide +kernel
theorem dX10_copyFrom_21 : decode cX10_copyFrom 21 = .ok (.aload_n 0, 1) := by decide +kernel
theorem dX10_copyFrom_22 : decode cX10_copyFrom 22 = .ok (.getfield 18, 3) := by decide +kernel
theorem dX10_copyFrom_25 : decode cX10_copyFrom 25 = .ok (.iconst 0, 1) := by decide +kernel
theorem dX10_copyFrom_26 : decode cX10_copyFrom 26 = .ok (.bipush 100, 2) := by decide +kernel
theorem dX10_copyFrom_28 : decode cX10_copyFrom 28 = .ok (.invokestatic 22, 3) := by decide +kernel
theorem dX10_copyFrom_31 : decode cX10_copyFrom 31 = .ok (.return_, 1) := by decide +kernel
