theorem dX0_init_0 : decode cX0_init 0 = .ok (.aload_n 0, 1) := by decide +kernel
theorem dX0_init_1 : decode cX0_init 1 = .ok (.invokespecial 3, 3) := by decide +kernel
theorem dX0_init_4 : decode cX0_init 4 = .ok (.aload_n 0, 1) := by decide +kernel
theorem dX0_init_5 : decode cX0_init 5 = .ok (.bipush 6, 2) := by decide +kernel
theorem dX0_init_7 : decode cX0_init 7 = .ok (.newarray .int, 2) := by decide +kernel
theorem dX0_init_9 : decode cX0_init 9 = .ok (.putfield 9, 3) := by decide +kernel
theorem dX0_init_12 : decode cX0_init 12 = .ok (.return_, 1) := by decide +kernel
theorem dX0_search_0 : decode cX0_search 0 = .ok (.aload_n 0, 1) := by decide +kernel
theorem dX0_search_1 : decode cX0_search 1 = .ok (.aload_n 1, 1) := by decide +kernel
theorem dX0_search_2 : decode cX0_search 2 = .ok (.iload_n 3, 1) := by decide +kernel
theorem dX0_search_3 : decode cX0_search 3 = .ok (.invokevirtual 15, 3) := by decide +kernel
theorem dX0_search_6 : decode cX0_search 6 = .ok (.aload_n 0, 1) := by decide +kernel
theorem dX0_search_7 : decode cX0_search 7 = .ok (.iconst (-1), 1) := by decide +kernel
theorem dX0_search_8 : decode cX0_search 8 = .ok (.putfield 19, 3) := by decide +kernel
theorem dX0_search_11 : decode cX0_search 11 = .ok (.aload_n 0, 1) := by decide +kernel
theorem dX0_search_12 : decode cX0_search 12 = .ok (.iconst 0, 1) := by decide +kernel
theorem dX0_search_13 : decode cX0_search 13 = .ok (.putfield 23, 3) := by decide +kernel
theorem dX0_search_16 : decode cX0_search 16 = .ok (.iconst 0, 1) := by decide +kernel
theorem dX0_search_17 : decode cX0_search 17 = .ok (.istore 4, 2) := by decide +kernel
theorem dX0_search_19 : decode cX0_search 19 = .ok (.iload 4, 2) := by decide +kernel
theorem dX0_search_21 : decode cX0_search 21 = .ok (.aload_n 1, 1) := by decide +kernel
theorem dX0_search_22 : decode cX0_search 22 = .ok (.getfield 26, 3) := by decide +kernel
theorem dX0_search_25 : decode cX0_search 25 = .ok (.getfield 32, 3) := by decide +kernel
theorem dX0_search_28 : decode cX0_search 28 = .ok (.if_icmp .ge 68, 3) := by decide +kernel
theorem dX0_search_31 : decode cX0_search 31 = .ok (.aload_n 0, 1) := by decide +kernel
theorem dX0_search_32 : decode cX0_search 32 = .ok (.getfield 9, 3) := by decide +kernel
theorem dX0_search_35 : decode cX0_search 35 = .ok (.iload 4, 2) := by decide +kernel
theorem dX0_search_37 : decode cX0_search 37 = .ok (.iaload, 1) := by decide +kernel
theorem dX0_search_38 : decode cX0_search 38 = .ok (.ifCond .le 52, 3) := by decide +kernel
theorem dX0_search_41 : decode cX0_search 41 = .ok (.aload_n 1, 1) := by decide +kernel
theorem dX0_search_42 : decode cX0_search 42 = .ok (.getfield 36, 3) := by decide +kernel
theorem dX0_search_45 : decode cX0_search 45 = .ok (.iload 4, 2) := by decide +kernel
theorem dX0_search_47 : decode cX0_search 47 = .ok (.iaload, 1) := by decide +kernel
theorem dX0_search_48 : decode cX0_search 48 = .ok (.iload_n 2, 1) := by decide +kernel
theorem dX0_search_49 : decode cX0_search 49 = .ok (.if_icmp .ne 41, 3) := by decide +kernel
theorem dX0_search_52 : decode cX0_search 52 = .ok (.aload_n 0, 1) := by decide +kernel
theorem dX0_search_53 : decode cX0_search 53 = .ok (.getfield 19, 3) := by decide +kernel
theorem dX0_search_56 : decode cX0_search 56 = .ok (.ifCond .lt 17, 3) := by decide +kernel
theorem dX0_search_59 : decode cX0_search 59 = .ok (.aload_n 0, 1) := by decide +kernel
theorem dX0_search_60 : decode cX0_search 60 = .ok (.getfield 9, 3) := by decide +kernel
theorem dX0_search_63 : decode cX0_search 63 = .ok (.iload 4, 2) := by decide +kernel
theorem dX0_search_65 : decode cX0_search 65 = .ok (.iaload, 1) := by decide +kernel
theorem dX0_search_66 : decode cX0_search 66 = .ok (.aload_n 0, 1) := by decide +kernel
theorem dX0_search_67 : decode cX0_search 67 = .ok (.getfield 23, 3) := by decide +kernel
theorem dX0_search_70 : decode cX0_search 70 = .ok (.if_icmp .ge 20, 3) := by decide +kernel
theorem dX0_search_73 : decode cX0_search 73 = .ok (.aload_n 0, 1) := by decide +kernel
theorem dX0_search_74 : decode cX0_search 74 = .ok (.iload 4, 2) := by decide +kernel
theorem dX0_search_76 : decode cX0_search 76 = .ok (.putfield 19, 3) := by decide +kernel
theorem dX0_search_79 : decode cX0_search 79 = .ok (.aload_n 0, 1) := by decide +kernel
theorem dX0_search_80 : decode cX0_search 80 = .ok (.aload_n 0, 1) := by decide +kernel
theorem dX0_search_81 : decode cX0_search 81 = .ok (.getfield 9, 3) := by decide +kernel
theorem dX0_search_84 : decode cX0_search 84 = .ok (.iload 4, 2) := by decide +kernel
theorem dX0_search_86 : decode cX0_search 86 = .ok (.iaload, 1) := by decide +kernel
theorem dX0_search_87 : decode cX0_search 87 = .ok (.putfield 23, 3) := by decide +kernel
theorem dX0_search_90 : decode cX0_search 90 = .ok (.iinc 4 1, 3) := by decide +kernel
theorem dX0_search_93 : decode cX0_search 93 = .ok (.goto (-74), 3) := by decide +kernel
theorem dX0_search_96 : decode cX0_search 96 = .ok (.return_, 1) := by decide +kernel
theorem dX0_countFrom_0 : decode cX0_countFrom 0 = .ok (.aload_n 1, 1) := by decide +kernel
theorem dX0_countFrom_1 : decode cX0_countFrom 1 = .ok (.invokevirtual 39, 3) := by decide +kernel
theorem dX0_countFrom_4 : decode cX0_countFrom 4 = .ok (.istore_n 3, 1) := by decide +kernel
theorem dX0_countFrom_5 : decode cX0_countFrom 5 = .ok (.iconst 0, 1) := by decide +kernel
theorem dX0_countFrom_6 : decode cX0_countFrom 6 = .ok (.istore 4, 2) := by decide +kernel
theorem dX0_countFrom_8 : decode cX0_countFrom 8 = .ok (.iload 4, 2) := by decide +kernel
theorem dX0_countFrom_10 : decode cX0_countFrom 10 = .ok (.aload_n 1, 1) := by decide +kernel
theorem dX0_countFrom_11 : decode cX0_countFrom 11 = .ok (.getfield 26, 3) := by decide +kernel
theorem dX0_countFrom_14 : decode cX0_countFrom 14 = .ok (.getfield 32, 3) := by decide +kernel
theorem dX0_countFrom_17 : decode cX0_countFrom 17 = .ok (.if_icmp .ge 41, 3) := by decide +kernel
theorem dX0_countFrom_20 : decode cX0_countFrom 20 = .ok (.aload_n 0, 1) := by decide +kernel
theorem dX0_countFrom_21 : decode cX0_countFrom 21 = .ok (.getfield 9, 3) := by decide +kernel
theorem dX0_countFrom_24 : decode cX0_countFrom 24 = .ok (.iload 4, 2) := by decide +kernel
theorem dX0_countFrom_26 : decode cX0_countFrom 26 = .ok (.iload_n 3, 1) := by decide +kernel
theorem dX0_countFrom_27 : decode cX0_countFrom 27 = .ok (.iload 4, 2) := by decide +kernel
theorem dX0_countFrom_29 : decode cX0_countFrom 29 = .ok (.invokestatic 43, 3) := by decide +kernel
theorem dX0_countFrom_32 : decode cX0_countFrom 32 = .ok (.ifCond .eq 18, 3) := by decide +kernel
theorem dX0_countFrom_35 : decode cX0_countFrom 35 = .ok (.aload_n 1, 1) := by decide +kernel
theorem dX0_countFrom_36 : decode cX0_countFrom 36 = .ok (.getfield 36, 3) := by decide +kernel
theorem dX0_countFrom_39 : decode cX0_countFrom 39 = .ok (.iload 4, 2) := by decide +kernel
theorem dX0_countFrom_41 : decode cX0_countFrom 41 = .ok (.iaload, 1) := by decide +kernel
theorem dX0_countFrom_42 : decode cX0_countFrom 42 = .ok (.iload_n 2, 1) := by decide +kernel
theorem dX0_countFrom_43 : decode cX0_countFrom 43 = .ok (.if_icmp .ne 7, 3) := by decide +kernel
theorem dX0_countFrom_46 : decode cX0_countFrom 46 = .ok (.iconst 1, 1) := by decide +kernel
theorem dX0_countFrom_47 : decode cX0_countFrom 47 = .ok (.goto 4, 3) := by decide +kernel
theorem dX0_countFrom_50 : decode cX0_countFrom 50 = .ok (.iconst 0, 1) := by decide +kernel
theorem dX0_countFrom_51 : decode cX0_countFrom 51 = .ok (.iastore, 1) := by decide +kernel
theorem dX0_countFrom_52 : decode cX0_countFrom 52 = .ok (.iinc 4 1, 3) := by decide +kernel
theorem dX0_countFrom_55 : decode cX0_countFrom 55 = .ok (.goto (-47), 3) := by decide +kernel
theorem dX0_countFrom_58 : decode cX0_countFrom 58 = .ok (.iconst 1, 1) := by decide +kernel
theorem dX0_countFrom_59 : decode cX0_countFrom 59 = .ok (.istore 4, 2) := by decide +kernel
theorem dX0_countFrom_61 : decode cX0_countFrom 61 = .ok (.iload 4, 2) := by decide +kernel
theorem dX0_countFrom_63 : decode cX0_countFrom 63 = .ok (.aload_n 1, 1) := by decide +kernel
theorem dX0_countFrom_64 : decode cX0_countFrom 64 = .ok (.getfield 26, 3) := by decide +kernel
theorem dX0_countFrom_67 : decode cX0_countFrom 67 = .ok (.getfield 32, 3) := by decide +kernel
theorem dX0_countFrom_70 : decode cX0_countFrom 70 = .ok (.if_icmp .ge 72, 3) := by decide +kernel
theorem dX0_countFrom_73 : decode cX0_countFrom 73 = .ok (.iconst 0, 1) := by decide +kernel
theorem dX0_countFrom_74 : decode cX0_countFrom 74 = .ok (.istore 5, 2) := by decide +kernel
theorem dX0_countFrom_76 : decode cX0_countFrom 76 = .ok (.iload 5, 2) := by decide +kernel
theorem dX0_countFrom_78 : decode cX0_countFrom 78 = .ok (.aload_n 1, 1) := by decide +kernel
theorem dX0_countFrom_79 : decode cX0_countFrom 79 = .ok (.getfield 26, 3) := by decide +kernel
theorem dX0_countFrom_82 : decode cX0_countFrom 82 = .ok (.getfield 32, 3) := by decide +kernel
theorem dX0_countFrom_85 : decode cX0_countFrom 85 = .ok (.if_icmp .ge 51, 3) := by decide +kernel
theorem dX0_countFrom_88 : decode cX0_countFrom 88 = .ok (.aload_n 0, 1) := by decide +kernel
theorem dX0_countFrom_89 : decode cX0_countFrom 89 = .ok (.getfield 9, 3) := by decide +kernel
theorem dX0_countFrom_92 : decode cX0_countFrom 92 = .ok (.iload 5, 2) := by decide +kernel
theorem dX0_countFrom_94 : decode cX0_countFrom 94 = .ok (.iaload, 1) := by decide +kernel
theorem dX0_countFrom_95 : decode cX0_countFrom 95 = .ok (.ifCond .ne 35, 3) := by decide +kernel
theorem dX0_countFrom_98 : decode cX0_countFrom 98 = .ok (.iload_n 3, 1) := by decide +kernel
theorem dX0_countFrom_99 : decode cX0_countFrom 99 = .ok (.iload 5, 2) := by decide +kernel
theorem dX0_countFrom_101 : decode cX0_countFrom 101 = .ok (.invokestatic 43, 3) := by decide +kernel
theorem dX0_countFrom_104 : decode cX0_countFrom 104 = .ok (.ifCond .eq 26, 3) := by decide +kernel
theorem dX0_countFrom_107 : decode cX0_countFrom 107 = .ok (.aload_n 0, 1) := by decide +kernel
theorem dX0_countFrom_108 : decode cX0_countFrom 108 = .ok (.aload_n 1, 1) := by decide +kernel
theorem dX0_countFrom_109 : decode cX0_countFrom 109 = .ok (.iload 5, 2) := by decide +kernel
theorem dX0_countFrom_111 : decode cX0_countFrom 111 = .ok (.iload 4, 2) := by decide +kernel
theorem dX0_countFrom_113 : decode cX0_countFrom 113 = .ok (.invokevirtual 47, 3) := by decide +kernel
theorem dX0_countFrom_116 : decode cX0_countFrom 116 = .ok (.ifCond .eq 14, 3) := by decide +kernel
theorem dX0_countFrom_119 : decode cX0_countFrom 119 = .ok (.aload_n 0, 1) := by decide +kernel
theorem dX0_countFrom_120 : decode cX0_countFrom 120 = .ok (.getfield 9, 3) := by decide +kernel
theorem dX0_countFrom_123 : decode cX0_countFrom 123 = .ok (.iload 5, 2) := by decide +kernel
theorem dX0_countFrom_125 : decode cX0_countFrom 125 = .ok (.iload 4, 2) := by decide +kernel
theorem dX0_countFrom_127 : decode cX0_countFrom 127 = .ok (.iconst 1, 1) := by decide +kernel
theorem dX0_countFrom_128 : decode cX0_countFrom 128 = .ok (.iadd, 1) := by decide +kernel
theorem dX0_countFrom_129 : decode cX0_countFrom 129 = .ok (.iastore, 1) := by decide +kernel
theorem dX0_countFrom_130 : decode cX0_countFrom 130 = .ok (.iinc 5 1, 3) := by decide +kernel
theorem dX0_countFrom_133 : decode cX0_countFrom 133 = .ok (.goto (-57), 3) := by decide +kernel
theorem dX0_countFrom_136 : decode cX0_countFrom 136 = .ok (.iinc 4 1, 3) := by decide +kernel
theorem dX0_countFrom_139 : decode cX0_countFrom 139 = .ok (.goto (-78), 3) := by decide +kernel
theorem dX0_countFrom_142 : decode cX0_countFrom 142 = .ok (.return_, 1) := by decide +kernel
theorem dX0_reaches_0 : decode cX0_reaches 0 = .ok (.iconst 0, 1) := by decide +kernel
theorem dX0_reaches_1 : decode cX0_reaches 1 = .ok (.istore 4, 2) := by decide +kernel
theorem dX0_reaches_3 : decode cX0_reaches 3 = .ok (.iload 4, 2) := by decide +kernel
theorem dX0_reaches_5 : decode cX0_reaches 5 = .ok (.aload_n 1, 1) := by decide +kernel
theorem dX0_reaches_6 : decode cX0_reaches 6 = .ok (.getfield 26, 3) := by decide +kernel
theorem dX0_reaches_9 : decode cX0_reaches 9 = .ok (.getfield 32, 3) := by decide +kernel
theorem dX0_reaches_12 : decode cX0_reaches 12 = .ok (.if_icmp .ge 43, 3) := by decide +kernel
theorem dX0_reaches_15 : decode cX0_reaches 15 = .ok (.aload_n 0, 1) := by decide +kernel
theorem dX0_reaches_16 : decode cX0_reaches 16 = .ok (.getfield 9, 3) := by decide +kernel
theorem dX0_reaches_19 : decode cX0_reaches 19 = .ok (.iload 4, 2) := by decide +kernel
theorem dX0_reaches_21 : decode cX0_reaches 21 = .ok (.iaload, 1) := by decide +kernel
theorem dX0_reaches_22 : decode cX0_reaches 22 = .ok (.iload_n 3, 1) := by decide +kernel
theorem dX0_reaches_23 : decode cX0_reaches 23 = .ok (.if_icmp .ne 26, 3) := by decide +kernel
theorem dX0_reaches_26 : decode cX0_reaches 26 = .ok (.aload_n 1, 1) := by decide +kernel
theorem dX0_reaches_27 : decode cX0_reaches 27 = .ok (.getfield 36, 3) := by decide +kernel
theorem dX0_reaches_30 : decode cX0_reaches 30 = .ok (.iload_n 2, 1) := by decide +kernel
theorem dX0_reaches_31 : decode cX0_reaches 31 = .ok (.iaload, 1) := by decide +kernel
theorem dX0_reaches_32 : decode cX0_reaches 32 = .ok (.aload_n 1, 1) := by decide +kernel
theorem dX0_reaches_33 : decode cX0_reaches 33 = .ok (.getfield 36, 3) := by decide +kernel
theorem dX0_reaches_36 : decode cX0_reaches 36 = .ok (.iload 4, 2) := by decide +kernel
theorem dX0_reaches_38 : decode cX0_reaches 38 = .ok (.iaload, 1) := by decide +kernel
theorem dX0_reaches_39 : decode cX0_reaches 39 = .ok (.isub, 1) := by decide +kernel
theorem dX0_reaches_40 : decode cX0_reaches 40 = .ok (.invokestatic 51, 3) := by decide +kernel
theorem dX0_reaches_43 : decode cX0_reaches 43 = .ok (.iconst 2, 1) := by decide +kernel
theorem dX0_reaches_44 : decode cX0_reaches 44 = .ok (.if_icmp .gt 5, 3) := by decide +kernel
theorem dX0_reaches_47 : decode cX0_reaches 47 = .ok (.iconst 1, 1) := by decide +kernel
theorem dX0_reaches_48 : decode cX0_reaches 48 = .ok (.ireturn, 1) := by decide +kernel
theorem dX0_reaches_49 : decode cX0_reaches 49 = .ok (.iinc 4 1, 3) := by decide +kernel
theorem dX0_reaches_52 : decode cX0_reaches 52 = .ok (.goto (-49), 3) := by decide +kernel
theorem dX0_reaches_55 : decode cX0_reaches 55 = .ok (.iconst 0, 1) := by decide +kernel
theorem dX0_reaches_56 : decode cX0_reaches 56 = .ok (.ireturn, 1) := by decide +kernel
theorem dX1_init_0 : decode cX1_init 0 = .ok (.aload_n 0, 1) := by decide +kernel
theorem dX1_init_1 : decode cX1_init 1 = .ok (.invokespecial 3, 3) := by decide +kernel
theorem dX1_init_4 : decode cX1_init 4 = .ok (.aload_n 0, 1) := by decide +kernel
theorem dX1_init_5 : decode cX1_init 5 = .ok (.aload_n 1, 1) := by decide +kernel
theorem dX1_init_6 : decode cX1_init 6 = .ok (.bipush 8, 2) := by decide +kernel
theorem dX1_init_8 : decode cX1_init 8 = .ok (.invokestatic 9, 3) := by decide +kernel
theorem dX1_init_11 : decode cX1_init 11 = .ok (.putfield 13, 3) := by decide +kernel
theorem dX1_init_14 : decode cX1_init 14 = .ok (.return_, 1) := by decide +kernel
theorem dX1_add_0 : decode cX1_add 0 = .ok (.aload_n 0, 1) := by decide +kernel
theorem dX1_add_1 : decode cX1_add 1 = .ok (.getfield 13, 3) := by decide +kernel
theorem dX1_add_4 : decode cX1_add 4 = .ok (.aload_n 0, 1) := by decide +kernel
theorem dX1_add_5 : decode cX1_add 5 = .ok (.getfield 19, 3) := by decide +kernel
theorem dX1_add_8 : decode cX1_add 8 = .ok (.aload_n 0, 1) := by decide +kernel
theorem dX1_add_9 : decode cX1_add 9 = .ok (.getfield 23, 3) := by decide +kernel
theorem dX1_add_12 : decode cX1_add 12 = .ok (.iadd, 1) := by decide +kernel
theorem dX1_add_13 : decode cX1_add 13 = .ok (.bipush 8, 2) := by decide +kernel
theorem dX1_add_15 : decode cX1_add 15 = .ok (.irem, 1) := by decide +kernel
theorem dX1_add_16 : decode cX1_add 16 = .ok (.aaload, 1) := by decide +kernel
theorem dX1_add_17 : decode cX1_add 17 = .ok (.aload_n 1, 1) := by decide +kernel
theorem dX1_add_18 : decode cX1_add 18 = .ok (.invokevirtual 26, 3) := by decide +kernel
theorem dX1_add_21 : decode cX1_add 21 = .ok (.aload_n 0, 1) := by decide +kernel
theorem dX1_add_22 : decode cX1_add 22 = .ok (.getfield 23, 3) := by decide +kernel
theorem dX1_add_25 : decode cX1_add 25 = .ok (.bipush 8, 2) := by decide +kernel
theorem dX1_add_27 : decode cX1_add 27 = .ok (.if_icmp .ge 16, 3) := by decide +kernel
theorem dX1_add_30 : decode cX1_add 30 = .ok (.aload_n 0, 1) := by decide +kernel
theorem dX1_add_31 : decode cX1_add 31 = .ok (.dup, 1) := by decide +kernel
theorem dX1_add_32 : decode cX1_add 32 = .ok (.getfield 23, 3) := by decide +kernel
theorem dX1_add_35 : decode cX1_add 35 = .ok (.iconst 1, 1) := by decide +kernel
theorem dX1_add_36 : decode cX1_add 36 = .ok (.iadd, 1) := by decide +kernel
theorem dX1_add_37 : decode cX1_add 37 = .ok (.putfield 23, 3) := by decide +kernel
theorem dX1_add_40 : decode cX1_add 40 = .ok (.goto 16, 3) := by decide +kernel
theorem dX1_add_43 : decode cX1_add 43 = .ok (.aload_n 0, 1) := by decide +kernel
theorem dX1_add_44 : decode cX1_add 44 = .ok (.aload_n 0, 1) := by decide +kernel
theorem dX1_add_45 : decode cX1_add 45 = .ok (.getfield 19, 3) := by decide +kernel
theorem dX1_add_48 : decode cX1_add 48 = .ok (.iconst 1, 1) := by decide +kernel
theorem dX1_add_49 : decode cX1_add 49 = .ok (.iadd, 1) := by decide +kernel
theorem dX1_add_50 : decode cX1_add 50 = .ok (.bipush 8, 2) := by decide +kernel
theorem dX1_add_52 : decode cX1_add 52 = .ok (.irem, 1) := by decide +kernel
theorem dX1_add_53 : decode cX1_add 53 = .ok (.putfield 19, 3) := by decide +kernel
theorem dX1_add_56 : decode cX1_add 56 = .ok (.return_, 1) := by decide +kernel
theorem dX1_takeLastInto_0 : decode cX1_takeLastInto 0 = .ok (.aload_n 0, 1) := by decide +kernel
theorem dX1_takeLastInto_1 : decode cX1_takeLastInto 1 = .ok (.getfield 23, 3) := by decide +kernel
theorem dX1_takeLastInto_4 : decode cX1_takeLastInto 4 = .ok (.ifCond .le 34, 3) := by decide +kernel
theorem dX1_takeLastInto_7 : decode cX1_takeLastInto 7 = .ok (.aload_n 0, 1) := by decide +kernel
theorem dX1_takeLastInto_8 : decode cX1_takeLastInto 8 = .ok (.dup, 1) := by decide +kernel
theorem dX1_takeLastInto_9 : decode cX1_takeLastInto 9 = .ok (.getfield 23, 3) := by decide +kernel
theorem dX1_takeLastInto_12 : decode cX1_takeLastInto 12 = .ok (.iconst 1, 1) := by decide +kernel
theorem dX1_takeLastInto_13 : decode cX1_takeLastInto 13 = .ok (.isub, 1) := by decide +kernel
theorem dX1_takeLastInto_14 : decode cX1_takeLastInto 14 = .ok (.putfield 23, 3) := by decide +kernel
theorem dX1_takeLastInto_17 : decode cX1_takeLastInto 17 = .ok (.aload_n 1, 1) := by decide +kernel
theorem dX1_takeLastInto_18 : decode cX1_takeLastInto 18 = .ok (.aload_n 0, 1) := by decide +kernel
theorem dX1_takeLastInto_19 : decode cX1_takeLastInto 19 = .ok (.getfield 13, 3) := by decide +kernel
theorem dX1_takeLastInto_22 : decode cX1_takeLastInto 22 = .ok (.aload_n 0, 1) := by decide +kernel
theorem dX1_takeLastInto_23 : decode cX1_takeLastInto 23 = .ok (.getfield 19, 3) := by decide +kernel
theorem dX1_takeLastInto_26 : decode cX1_takeLastInto 26 = .ok (.aload_n 0, 1) := by decide +kernel
theorem dX1_takeLastInto_27 : decode cX1_takeLastInto 27 = .ok (.getfield 23, 3) := by decide +kernel
theorem dX1_takeLastInto_30 : decode cX1_takeLastInto 30 = .ok (.iadd, 1) := by decide +kernel
theorem dX1_takeLastInto_31 : decode cX1_takeLastInto 31 = .ok (.bipush 8, 2) := by decide +kernel
theorem dX1_takeLastInto_33 : decode cX1_takeLastInto 33 = .ok (.irem, 1) := by decide +kernel
theorem dX1_takeLastInto_34 : decode cX1_takeLastInto 34 = .ok (.aaload, 1) := by decide +kernel
theorem dX1_takeLastInto_35 : decode cX1_takeLastInto 35 = .ok (.invokevirtual 26, 3) := by decide +kernel
theorem dX1_takeLastInto_38 : decode cX1_takeLastInto 38 = .ok (.return_, 1) := by decide +kernel
theorem dX1_clear_0 : decode cX1_clear 0 = .ok (.aload_n 0, 1) := by decide +kernel
theorem dX1_clear_1 : decode cX1_clear 1 = .ok (.iconst 0, 1) := by decide +kernel
theorem dX1_clear_2 : decode cX1_clear 2 = .ok (.putfield 23, 3) := by decide +kernel
theorem dX1_clear_5 : decode cX1_clear 5 = .ok (.return_, 1) := by decide +kernel
theorem dX2_init_0 : decode cX2_init 0 = .ok (.aload_n 0, 1) := by decide +kernel
theorem dX2_init_1 : decode cX2_init 1 = .ok (.invokespecial 3, 3) := by decide +kernel
theorem dX2_init_4 : decode cX2_init 4 = .ok (.aload_n 0, 1) := by decide +kernel
theorem dX2_init_5 : decode cX2_init 5 = .ok (.bipush 6, 2) := by decide +kernel
theorem dX2_init_7 : decode cX2_init 7 = .ok (.putfield 9, 3) := by decide +kernel
theorem dX2_init_10 : decode cX2_init 10 = .ok (.aload_n 0, 1) := by decide +kernel
theorem dX2_init_11 : decode cX2_init 11 = .ok (.bipush 6, 2) := by decide +kernel
theorem dX2_init_13 : decode cX2_init 13 = .ok (.newarray .int, 2) := by decide +kernel
theorem dX2_init_15 : decode cX2_init 15 = .ok (.putfield 15, 3) := by decide +kernel
theorem dX2_init_18 : decode cX2_init 18 = .ok (.aload_n 0, 1) := by decide +kernel
theorem dX2_init_19 : decode cX2_init 19 = .ok (.iconst 5, 1) := by decide +kernel
theorem dX2_init_20 : decode cX2_init 20 = .ok (.newarray .int, 2) := by decide +kernel
theorem dX2_init_22 : decode cX2_init 22 = .ok (.putfield 19, 3) := by decide +kernel
theorem dX2_init_25 : decode cX2_init 25 = .ok (.aload_n 0, 1) := by decide +kernel
theorem dX2_init_26 : decode cX2_init 26 = .ok (.iconst 5, 1) := by decide +kernel
theorem dX2_init_27 : decode cX2_init 27 = .ok (.newarray .int, 2) := by decide +kernel
theorem dX2_init_29 : decode cX2_init 29 = .ok (.putfield 22, 3) := by decide +kernel
theorem dX2_init_32 : decode cX2_init 32 = .ok (.return_, 1) := by decide +kernel
theorem dX2_clear_0 : decode cX2_clear 0 = .ok (.aload_n 0, 1) := by decide +kernel
theorem dX2_clear_1 : decode cX2_clear 1 = .ok (.bipush 6, 2) := by decide +kernel
theorem dX2_clear_3 : decode cX2_clear 3 = .ok (.putfield 9, 3) := by decide +kernel
theorem dX2_clear_6 : decode cX2_clear 6 = .ok (.aload_n 0, 1) := by decide +kernel
theorem dX2_clear_7 : decode cX2_clear 7 = .ok (.iconst 0, 1) := by decide +kernel
theorem dX2_clear_8 : decode cX2_clear 8 = .ok (.putfield 25, 3) := by decide +kernel
theorem dX2_clear_11 : decode cX2_clear 11 = .ok (.aload_n 0, 1) := by decide +kernel
theorem dX2_clear_12 : decode cX2_clear 12 = .ok (.iconst 0, 1) := by decide +kernel
theorem dX2_clear_13 : decode cX2_clear 13 = .ok (.putfield 28, 3) := by decide +kernel
theorem dX2_clear_16 : decode cX2_clear 16 = .ok (.return_, 1) := by decide +kernel
theorem dX2_copyFrom_0 : decode cX2_copyFrom 0 = .ok (.aload_n 0, 1) := by decide +kernel
theorem dX2_copyFrom_1 : decode cX2_copyFrom 1 = .ok (.aload_n 1, 1) := by decide +kernel
theorem dX2_copyFrom_2 : decode cX2_copyFrom 2 = .ok (.getfield 9, 3) := by decide +kernel
theorem dX2_copyFrom_5 : decode cX2_copyFrom 5 = .ok (.putfield 9, 3) := by decide +kernel
theorem dX2_copyFrom_8 : decode cX2_copyFrom 8 = .ok (.aload_n 0, 1) := by decide +kernel
theorem dX2_copyFrom_9 : decode cX2_copyFrom 9 = .ok (.aload_n 1, 1) := by decide +kernel
theorem dX2_copyFrom_10 : decode cX2_copyFrom 10 = .ok (.getfield 25, 3) := by decide +kernel
theorem dX2_copyFrom_13 : decode cX2_copyFrom 13 = .ok (.putfield 25, 3) := by decide +kernel
theorem dX2_copyFrom_16 : decode cX2_copyFrom 16 = .ok (.aload_n 0, 1) := by decide +kernel
theorem dX2_copyFrom_17 : decode cX2_copyFrom 17 = .ok (.aload_n 1, 1) := by decide +kernel
theorem dX2_copyFrom_18 : decode cX2_copyFrom 18 = .ok (.getfield 28, 3) := by decide +kernel
theorem dX2_copyFrom_21 : decode cX2_copyFrom 21 = .ok (.putfield 28, 3) := by decide +kernel
theorem dX2_copyFrom_24 : decode cX2_copyFrom 24 = .ok (.aload_n 1, 1) := by decide +kernel
theorem dX2_copyFrom_25 : decode cX2_copyFrom 25 = .ok (.getfield 15, 3) := by decide +kernel
theorem dX2_copyFrom_28 : decode cX2_copyFrom 28 = .ok (.iconst 0, 1) := by decide +kernel
theorem dX2_copyFrom_29 : decode cX2_copyFrom 29 = .ok (.aload_n 0, 1) := by decide +kernel
theorem dX2_copyFrom_30 : decode cX2_copyFrom 30 = .ok (.getfield 15, 3) := by decide +kernel
theorem dX2_copyFrom_33 : decode cX2_copyFrom 33 = .ok (.iconst 0, 1) := by decide +kernel
theorem dX2_copyFrom_34 : decode cX2_copyFrom 34 = .ok (.bipush 6, 2) := by decide +kernel
theorem dX2_copyFrom_36 : decode cX2_copyFrom 36 = .ok (.invokestatic 31, 3) := by decide +kernel
theorem dX2_copyFrom_39 : decode cX2_copyFrom 39 = .ok (.aload_n 1, 1) := by decide +kernel
theorem dX2_copyFrom_40 : decode cX2_copyFrom 40 = .ok (.getfield 19, 3) := by decide +kernel
theorem dX2_copyFrom_43 : decode cX2_copyFrom 43 = .ok (.iconst 0, 1) := by decide +kernel
theorem dX2_copyFrom_44 : decode cX2_copyFrom 44 = .ok (.aload_n 0, 1) := by decide +kernel
theorem dX2_copyFrom_45 : decode cX2_copyFrom 45 = .ok (.getfield 19, 3) := by decide +kernel
theorem dX2_copyFrom_48 : decode cX2_copyFrom 48 = .ok (.iconst 0, 1) := by decide +kernel
theorem dX2_copyFrom_49 : decode cX2_copyFrom 49 = .ok (.iconst 5, 1) := by decide +kernel
theorem dX2_copyFrom_50 : decode cX2_copyFrom 50 = .ok (.invokestatic 31, 3) := by decide +kernel
theorem dX2_copyFrom_53 : decode cX2_copyFrom 53 = .ok (.aload_n 1, 1) := by decide +kernel
theorem dX2_copyFrom_54 : decode cX2_copyFrom 54 = .ok (.getfield 22, 3) := by decide +kernel
theorem dX2_copyFrom_57 : decode cX2_copyFrom 57 = .ok (.iconst 0, 1) := by decide +kernel
theorem dX2_copyFrom_58 : decode cX2_copyFrom 58 = .ok (.aload_n 0, 1) := by decide +kernel
theorem dX2_copyFrom_59 : decode cX2_copyFrom 59 = .ok (.getfield 22, 3) := by decide +kernel
theorem dX2_copyFrom_62 : decode cX2_copyFrom 62 = .ok (.iconst 0, 1) := by decide +kernel
theorem dX2_copyFrom_63 : decode cX2_copyFrom 63 = .ok (.iconst 5, 1) := by decide +kernel
theorem dX2_copyFrom_64 : decode cX2_copyFrom 64 = .ok (.invokestatic 31, 3) := by decide +kernel
theorem dX2_copyFrom_67 : decode cX2_copyFrom 67 = .ok (.return_, 1) := by decide +kernel
theorem dX3_init_0 : decode cX3_init 0 = .ok (.aload_n 0, 1) := by decide +kernel
theorem dX3_init_1 : decode cX3_init 1 = .ok (.invokespecial 3, 3) := by decide +kernel
theorem dX3_init_4 : decode cX3_init 4 = .ok (.aload_n 0, 1) := by decide +kernel
theorem dX3_init_5 : decode cX3_init 5 = .ok (.bipush 6, 2) := by decide +kernel
theorem dX3_init_7 : decode cX3_init 7 = .ok (.newarray .int, 2) := by decide +kernel
theorem dX3_init_9 : decode cX3_init 9 = .ok (.putfield 9, 3) := by decide +kernel
theorem dX3_init_12 : decode cX3_init 12 = .ok (.aload_n 0, 1) := by decide +kernel
theorem dX3_init_13 : decode cX3_init 13 = .ok (.iconst 5, 1) := by decide +kernel
theorem dX3_init_14 : decode cX3_init 14 = .ok (.newarray .int, 2) := by decide +kernel
theorem dX3_init_16 : decode cX3_init 16 = .ok (.putfield 15, 3) := by decide +kernel
theorem dX3_init_19 : decode cX3_init 19 = .ok (.aload_n 0, 1) := by decide +kernel
theorem dX3_init_20 : decode cX3_init 20 = .ok (.bipush 10, 2) := by decide +kernel
theorem dX3_init_22 : decode cX3_init 22 = .ok (.newarray .int, 2) := by decide +kernel
theorem dX3_init_24 : decode cX3_init 24 = .ok (.putfield 18, 3) := by decide +kernel
theorem dX3_init_27 : decode cX3_init 27 = .ok (.aload_n 0, 1) := by decide +kernel
theorem dX3_init_28 : decode cX3_init 28 = .ok (.bipush 6, 2) := by decide +kernel
theorem dX3_init_30 : decode cX3_init 30 = .ok (.newarray .int, 2) := by decide +kernel
theorem dX3_init_32 : decode cX3_init 32 = .ok (.putfield 21, 3) := by decide +kernel
theorem dX3_init_35 : decode cX3_init 35 = .ok (.aload_n 0, 1) := by decide +kernel
theorem dX3_init_36 : decode cX3_init 36 = .ok (.aload_n 1, 1) := by decide +kernel
theorem dX3_init_37 : decode cX3_init 37 = .ok (.putfield 24, 3) := by decide +kernel
theorem dX3_init_40 : decode cX3_init 40 = .ok (.return_, 1) := by decide +kernel
theorem dX3_search_0 : decode cX3_search 0 = .ok (.aload_n 0, 1) := by decide +kernel
theorem dX3_search_1 : decode cX3_search 1 = .ok (.getfield 24, 3) := by decide +kernel
theorem dX3_search_4 : decode cX3_search 4 = .ok (.aload_n 1, 1) := by decide +kernel
theorem dX3_search_5 : decode cX3_search 5 = .ok (.invokevirtual 28, 3) := by decide +kernel
theorem dX3_search_8 : decode cX3_search 8 = .ok (.aload_n 0, 1) := by decide +kernel
theorem dX3_search_9 : decode cX3_search 9 = .ok (.iconst (-1), 1) := by decide +kernel
theorem dX3_search_10 : decode cX3_search 10 = .ok (.putfield 34, 3) := by decide +kernel
theorem dX3_search_13 : decode cX3_search 13 = .ok (.aload_n 0, 1) := by decide +kernel
theorem dX3_search_14 : decode cX3_search 14 = .ok (.aload_n 0, 1) := by decide +kernel
theorem dX3_search_15 : decode cX3_search 15 = .ok (.getfield 24, 3) := by decide +kernel
theorem dX3_search_18 : decode cX3_search 18 = .ok (.getfield 38, 3) := by decide +kernel
theorem dX3_search_21 : decode cX3_search 21 = .ok (.getfield 42, 3) := by decide +kernel
theorem dX3_search_24 : decode cX3_search 24 = .ok (.aload_n 0, 1) := by decide +kernel
theorem dX3_search_25 : decode cX3_search 25 = .ok (.getfield 24, 3) := by decide +kernel
theorem dX3_search_28 : decode cX3_search 28 = .ok (.invokevirtual 47, 3) := by decide +kernel
theorem dX3_search_31 : decode cX3_search 31 = .ok (.isub, 1) := by decide +kernel
theorem dX3_search_32 : decode cX3_search 32 = .ok (.putfield 51, 3) := by decide +kernel
theorem dX3_search_35 : decode cX3_search 35 = .ok (.iconst 0, 1) := by decide +kernel
theorem dX3_search_36 : decode cX3_search 36 = .ok (.istore_n 2, 1) := by decide +kernel
theorem dX3_search_37 : decode cX3_search 37 = .ok (.iload_n 2, 1) := by decide +kernel
theorem dX3_search_38 : decode cX3_search 38 = .ok (.bipush 10, 2) := by decide +kernel
theorem dX3_search_40 : decode cX3_search 40 = .ok (.if_icmp .ge 16, 3) := by decide +kernel
theorem dX3_search_43 : decode cX3_search 43 = .ok (.aload_n 0, 1) := by decide +kernel
theorem dX3_search_44 : decode cX3_search 44 = .ok (.getfield 18, 3) := by decide +kernel
theorem dX3_search_47 : decode cX3_search 47 = .ok (.iload_n 2, 1) := by decide +kernel
theorem dX3_search_48 : decode cX3_search 48 = .ok (.iconst 0, 1) := by decide +kernel
theorem dX3_search_49 : decode cX3_search 49 = .ok (.iastore, 1) := by decide +kernel
theorem dX3_search_50 : decode cX3_search 50 = .ok (.iinc 2 1, 3) := by decide +kernel
theorem dX3_search_53 : decode cX3_search 53 = .ok (.goto (-16), 3) := by decide +kernel
theorem dX3_search_56 : decode cX3_search 56 = .ok (.iconst 0, 1) := by decide +kernel
theorem dX3_search_57 : decode cX3_search 57 = .ok (.istore_n 2, 1) := by decide +kernel
theorem dX3_search_58 : decode cX3_search 58 = .ok (.iload_n 2, 1) := by decide +kernel
theorem dX3_search_59 : decode cX3_search 59 = .ok (.aload_n 0, 1) := by decide +kernel
theorem dX3_search_60 : decode cX3_search 60 = .ok (.getfield 24, 3) := by decide +kernel
theorem dX3_search_63 : decode cX3_search 63 = .ok (.getfield 38, 3) := by decide +kernel
theorem dX3_search_66 : decode cX3_search 66 = .ok (.getfield 54, 3) := by decide +kernel
theorem dX3_search_69 : decode cX3_search 69 = .ok (.if_icmp .ge 20, 3) := by decide +kernel
theorem dX3_search_72 : decode cX3_search 72 = .ok (.aload_n 0, 1) := by decide +kernel
theorem dX3_search_73 : decode cX3_search 73 = .ok (.getfield 15, 3) := by decide +kernel
theorem dX3_search_76 : decode cX3_search 76 = .ok (.iload_n 2, 1) := by decide +kernel
theorem dX3_search_77 : decode cX3_search 77 = .ok (.aload_n 0, 1) := by decide +kernel
theorem dX3_search_78 : decode cX3_search 78 = .ok (.iload_n 2, 1) := by decide +kernel
theorem dX3_search_79 : decode cX3_search 79 = .ok (.invokevirtual 57, 3) := by decide +kernel
theorem dX3_search_82 : decode cX3_search 82 = .ok (.iastore, 1) := by decide +kernel
theorem dX3_search_83 : decode cX3_search 83 = .ok (.iinc 2 1, 3) := by decide +kernel
theorem dX3_search_86 : decode cX3_search 86 = .ok (.goto (-28), 3) := by decide +kernel
theorem dX3_search_89 : decode cX3_search 89 = .ok (.iconst 1, 1) := by decide +kernel
theorem dX3_search_90 : decode cX3_search 90 = .ok (.istore_n 2, 1) := by decide +kernel
theorem dX3_search_91 : decode cX3_search 91 = .ok (.iconst 0, 1) := by decide +kernel
theorem dX3_search_92 : decode cX3_search 92 = .ok (.istore_n 3, 1) := by decide +kernel
theorem dX3_search_93 : decode cX3_search 93 = .ok (.iload_n 3, 1) := by decide +kernel
theorem dX3_search_94 : decode cX3_search 94 = .ok (.aload_n 0, 1) := by decide +kernel
theorem dX3_search_95 : decode cX3_search 95 = .ok (.getfield 24, 3) := by decide +kernel
theorem dX3_search_98 : decode cX3_search 98 = .ok (.getfield 38, 3) := by decide +kernel
theorem dX3_search_101 : decode cX3_search 101 = .ok (.getfield 42, 3) := by decide +kernel
theorem dX3_search_104 : decode cX3_search 104 = .ok (.if_icmp .ge 51, 3) := by decide +kernel
theorem dX3_search_107 : decode cX3_search 107 = .ok (.aload_n 0, 1) := by decide +kernel
theorem dX3_search_108 : decode cX3_search 108 = .ok (.getfield 9, 3) := by decide +kernel
theorem dX3_search_111 : decode cX3_search 111 = .ok (.iload_n 3, 1) := by decide +kernel
theorem dX3_search_112 : decode cX3_search 112 = .ok (.aload_n 0, 1) := by decide +kernel
theorem dX3_search_113 : decode cX3_search 113 = .ok (.iload_n 3, 1) := by decide +kernel
theorem dX3_search_114 : decode cX3_search 114 = .ok (.invokevirtual 61, 3) := by decide +kernel
theorem dX3_search_117 : decode cX3_search 117 = .ok (.iastore, 1) := by decide +kernel
theorem dX3_search_118 : decode cX3_search 118 = .ok (.iload_n 2, 1) := by decide +kernel
theorem dX3_search_119 : decode cX3_search 119 = .ok (.ifCond .eq 28, 3) := by decide +kernel
theorem dX3_search_122 : decode cX3_search 122 = .ok (.aload_n 0, 1) := by decide +kernel
theorem dX3_search_123 : decode cX3_search 123 = .ok (.getfield 24, 3) := by decide +kernel
theorem dX3_search_126 : decode cX3_search 126 = .ok (.getfield 64, 3) := by decide +kernel
theorem dX3_search_129 : decode cX3_search 129 = .ok (.iload_n 3, 1) := by decide +kernel
theorem dX3_search_130 : decode cX3_search 130 = .ok (.baload, 1) := by decide +kernel
theorem dX3_search_131 : decode cX3_search 131 = .ok (.ifCond .ne 12, 3) := by decide +kernel
theorem dX3_search_134 : decode cX3_search 134 = .ok (.aload_n 0, 1) := by decide +kernel
theorem dX3_search_135 : decode cX3_search 135 = .ok (.getfield 9, 3) := by decide +kernel
theorem dX3_search_138 : decode cX3_search 138 = .ok (.iload_n 3, 1) := by decide +kernel
theorem dX3_search_139 : decode cX3_search 139 = .ok (.iaload, 1) := by decide +kernel
theorem dX3_search_140 : decode cX3_search 140 = .ok (.ifCond .eq 7, 3) := by decide +kernel
theorem dX3_search_143 : decode cX3_search 143 = .ok (.iconst 1, 1) := by decide +kernel
theorem dX3_search_144 : decode cX3_search 144 = .ok (.goto 4, 3) := by decide +kernel
theorem dX3_search_147 : decode cX3_search 147 = .ok (.iconst 0, 1) := by decide +kernel
theorem dX3_search_148 : decode cX3_search 148 = .ok (.istore_n 2, 1) := by decide +kernel
theorem dX3_search_149 : decode cX3_search 149 = .ok (.iinc 3 1, 3) := by decide +kernel
theorem dX3_search_152 : decode cX3_search 152 = .ok (.goto (-59), 3) := by decide +kernel
theorem dX3_search_155 : decode cX3_search 155 = .ok (.iload_n 2, 1) := by decide +kernel
theorem dX3_search_156 : decode cX3_search 156 = .ok (.ifCond .eq 8, 3) := by decide +kernel
theorem dX3_search_159 : decode cX3_search 159 = .ok (.aload_n 0, 1) := by decide +kernel
theorem dX3_search_160 : decode cX3_search 160 = .ok (.iconst 0, 1) := by decide +kernel
theorem dX3_search_161 : decode cX3_search 161 = .ok (.invokevirtual 68, 3) := by decide +kernel
theorem dX3_search_164 : decode cX3_search 164 = .ok (.return_, 1) := by decide +kernel
theorem dX3_placesOf_0 : decode cX3_placesOf 0 = .ok (.iconst 1, 1) := by decide +kernel
theorem dX3_placesOf_1 : decode cX3_placesOf 1 = .ok (.aload_n 0, 1) := by decide +kernel
theorem dX3_placesOf_2 : decode cX3_placesOf 2 = .ok (.getfield 24, 3) := by decide +kernel
theorem dX3_placesOf_5 : decode cX3_placesOf 5 = .ok (.getfield 72, 3) := by decide +kernel
theorem dX3_placesOf_8 : decode cX3_placesOf 8 = .ok (.iload_n 1, 1) := by decide +kernel
theorem dX3_placesOf_9 : decode cX3_placesOf 9 = .ok (.iaload, 1) := by decide +kernel
theorem dX3_placesOf_10 : decode cX3_placesOf 10 = .ok (.ishl, 1) := by decide +kernel
theorem dX3_placesOf_11 : decode cX3_placesOf 11 = .ok (.istore_n 2, 1) := by decide +kernel
theorem dX3_placesOf_12 : decode cX3_placesOf 12 = .ok (.iconst 0, 1) := by decide +kernel
theorem dX3_placesOf_13 : decode cX3_placesOf 13 = .ok (.istore_n 3, 1) := by decide +kernel
theorem dX3_placesOf_14 : decode cX3_placesOf 14 = .ok (.iload_n 3, 1) := by decide +kernel
theorem dX3_placesOf_15 : decode cX3_placesOf 15 = .ok (.aload_n 0, 1) := by decide +kernel
theorem dX3_placesOf_16 : decode cX3_placesOf 16 = .ok (.getfield 24, 3) := by decide +kernel
theorem dX3_placesOf_19 : decode cX3_placesOf 19 = .ok (.getfield 38, 3) := by decide +kernel
theorem dX3_placesOf_22 : decode cX3_placesOf 22 = .ok (.getfield 54, 3) := by decide +kernel
theorem dX3_placesOf_25 : decode cX3_placesOf 25 = .ok (.if_icmp .ge 26, 3) := by decide +kernel
theorem dX3_placesOf_28 : decode cX3_placesOf 28 = .ok (.iload_n 2, 1) := by decide +kernel
theorem dX3_placesOf_29 : decode cX3_placesOf 29 = .ok (.iconst 1, 1) := by decide +kernel
theorem dX3_placesOf_30 : decode cX3_placesOf 30 = .ok (.aload_n 0, 1) := by decide +kernel
theorem dX3_placesOf_31 : decode cX3_placesOf 31 = .ok (.getfield 24, 3) := by decide +kernel
theorem dX3_placesOf_34 : decode cX3_placesOf 34 = .ok (.getfield 38, 3) := by decide +kernel
theorem dX3_placesOf_37 : decode cX3_placesOf 37 = .ok (.getfield 75, 3) := by decide +kernel
theorem dX3_placesOf_40 : decode cX3_placesOf 40 = .ok (.iload_n 3, 1) := by decide +kernel
theorem dX3_placesOf_41 : decode cX3_placesOf 41 = .ok (.iaload, 1) := by decide +kernel
theorem dX3_placesOf_42 : decode cX3_placesOf 42 = .ok (.ishl, 1) := by decide +kernel
theorem dX3_placesOf_43 : decode cX3_placesOf 43 = .ok (.ior, 1) := by decide +kernel
theorem dX3_placesOf_44 : decode cX3_placesOf 44 = .ok (.istore_n 2, 1) := by decide +kernel
theorem dX3_placesOf_45 : decode cX3_placesOf 45 = .ok (.iinc 3 1, 3) := by decide +kernel
theorem dX3_placesOf_48 : decode cX3_placesOf 48 = .ok (.goto (-34), 3) := by decide +kernel
theorem dX3_placesOf_51 : decode cX3_placesOf 51 = .ok (.iconst 0, 1) := by decide +kernel
theorem dX3_placesOf_52 : decode cX3_placesOf 52 = .ok (.istore_n 3, 1) := by decide +kernel
theorem dX3_placesOf_53 : decode cX3_placesOf 53 = .ok (.iload_n 3, 1) := by decide +kernel
theorem dX3_placesOf_54 : decode cX3_placesOf 54 = .ok (.aload_n 0, 1) := by decide +kernel
theorem dX3_placesOf_55 : decode cX3_placesOf 55 = .ok (.getfield 24, 3) := by decide +kernel
theorem dX3_placesOf_58 : decode cX3_placesOf 58 = .ok (.getfield 38, 3) := by decide +kernel
theorem dX3_placesOf_61 : decode cX3_placesOf 61 = .ok (.getfield 78, 3) := by decide +kernel
theorem dX3_placesOf_64 : decode cX3_placesOf 64 = .ok (.if_icmp .ge 32, 3) := by decide +kernel
theorem dX3_placesOf_67 : decode cX3_placesOf 67 = .ok (.aload_n 0, 1) := by decide +kernel
theorem dX3_placesOf_68 : decode cX3_placesOf 68 = .ok (.iload_n 1, 1) := by decide +kernel
theorem dX3_placesOf_69 : decode cX3_placesOf 69 = .ok (.iload_n 3, 1) := by decide +kernel
theorem dX3_placesOf_70 : decode cX3_placesOf 70 = .ok (.aload_n 0, 1) := by decide +kernel
theorem dX3_placesOf_71 : decode cX3_placesOf 71 = .ok (.getfield 51, 3) := by decide +kernel
theorem dX3_placesOf_74 : decode cX3_placesOf 74 = .ok (.iconst 1, 1) := by decide +kernel
theorem dX3_placesOf_75 : decode cX3_placesOf 75 = .ok (.isub, 1) := by decide +kernel
theorem dX3_placesOf_76 : decode cX3_placesOf 76 = .ok (.invokevirtual 81, 3) := by decide +kernel
theorem dX3_placesOf_79 : decode cX3_placesOf 79 = .ok (.ifCond .eq 11, 3) := by decide +kernel
theorem dX3_placesOf_82 : decode cX3_placesOf 82 = .ok (.iload_n 2, 1) := by decide +kernel
theorem dX3_placesOf_83 : decode cX3_placesOf 83 = .ok (.iconst 1, 1) := by decide +kernel
theorem dX3_placesOf_84 : decode cX3_placesOf 84 = .ok (.iload_n 3, 1) := by decide +kernel
theorem dX3_placesOf_85 : decode cX3_placesOf 85 = .ok (.ishl, 1) := by decide +kernel
theorem dX3_placesOf_86 : decode cX3_placesOf 86 = .ok (.iconst (-1), 1) := by decide +kernel
theorem dX3_placesOf_87 : decode cX3_placesOf 87 = .ok (.ixor, 1) := by decide +kernel
theorem dX3_placesOf_88 : decode cX3_placesOf 88 = .ok (.iand, 1) := by decide +kernel
theorem dX3_placesOf_89 : decode cX3_placesOf 89 = .ok (.istore_n 2, 1) := by decide +kernel
theorem dX3_placesOf_90 : decode cX3_placesOf 90 = .ok (.iinc 3 1, 3) := by decide +kernel
theorem dX3_placesOf_93 : decode cX3_placesOf 93 = .ok (.goto (-40), 3) := by decide +kernel
theorem dX3_placesOf_96 : decode cX3_placesOf 96 = .ok (.iload_n 2, 1) := by decide +kernel
theorem dX3_placesOf_97 : decode cX3_placesOf 97 = .ok (.ireturn, 1) := by decide +kernel
theorem dX3_isFrozenAmong_0 : decode cX3_isFrozenAmong 0 = .ok (.aload_n 0, 1) := by decide +kernel
theorem dX3_isFrozenAmong_1 : decode cX3_isFrozenAmong 1 = .ok (.getfield 24, 3) := by decide +kernel
theorem dX3_isFrozenAmong_4 : decode cX3_isFrozenAmong 4 = .ok (.iload_n 3, 1) := by decide +kernel
theorem dX3_isFrozenAmong_5 : decode cX3_isFrozenAmong 5 = .ok (.aload_n 0, 1) := by decide +kernel
theorem dX3_isFrozenAmong_6 : decode cX3_isFrozenAmong 6 = .ok (.getfield 24, 3) := by decide +kernel
theorem dX3_isFrozenAmong_9 : decode cX3_isFrozenAmong 9 = .ok (.getfield 38, 3) := by decide +kernel
theorem dX3_isFrozenAmong_12 : decode cX3_isFrozenAmong 12 = .ok (.getfield 85, 3) := by decide +kernel
theorem dX3_isFrozenAmong_15 : decode cX3_isFrozenAmong 15 = .ok (.iload_n 1, 1) := by decide +kernel
theorem dX3_isFrozenAmong_16 : decode cX3_isFrozenAmong 16 = .ok (.iaload, 1) := by decide +kernel
theorem dX3_isFrozenAmong_17 : decode cX3_isFrozenAmong 17 = .ok (.aload_n 0, 1) := by decide +kernel
theorem dX3_isFrozenAmong_18 : decode cX3_isFrozenAmong 18 = .ok (.getfield 24, 3) := by decide +kernel
theorem dX3_isFrozenAmong_21 : decode cX3_isFrozenAmong 21 = .ok (.getfield 88, 3) := by decide +kernel
theorem dX3_isFrozenAmong_24 : decode cX3_isFrozenAmong 24 = .ok (.iload_n 1, 1) := by decide +kernel
theorem dX3_isFrozenAmong_25 : decode cX3_isFrozenAmong 25 = .ok (.iaload, 1) := by decide +kernel
theorem dX3_isFrozenAmong_26 : decode cX3_isFrozenAmong 26 = .ok (.iload_n 2, 1) := by decide +kernel
theorem dX3_isFrozenAmong_27 : decode cX3_isFrozenAmong 27 = .ok (.invokevirtual 91, 3) := by decide +kernel
theorem dX3_isFrozenAmong_30 : decode cX3_isFrozenAmong 30 = .ok (.aload_n 0, 1) := by decide +kernel
theorem dX3_isFrozenAmong_31 : decode cX3_isFrozenAmong 31 = .ok (.getfield 24, 3) := by decide +kernel
theorem dX3_isFrozenAmong_34 : decode cX3_isFrozenAmong 34 = .ok (.getfield 95, 3) := by decide +kernel
theorem dX3_isFrozenAmong_37 : decode cX3_isFrozenAmong 37 = .ok (.iload_n 1, 1) := by decide +kernel
theorem dX3_isFrozenAmong_38 : decode cX3_isFrozenAmong 38 = .ok (.iaload, 1) := by decide +kernel
theorem dX3_isFrozenAmong_39 : decode cX3_isFrozenAmong 39 = .ok (.if_icmp .le 7, 3) := by decide +kernel
theorem dX3_isFrozenAmong_42 : decode cX3_isFrozenAmong 42 = .ok (.iconst 1, 1) := by decide +kernel
theorem dX3_isFrozenAmong_43 : decode cX3_isFrozenAmong 43 = .ok (.goto 4, 3) := by decide +kernel
theorem dX3_isFrozenAmong_46 : decode cX3_isFrozenAmong 46 = .ok (.iconst 0, 1) := by decide +kernel
theorem dX3_isFrozenAmong_47 : decode cX3_isFrozenAmong 47 = .ok (.ireturn, 1) := by decide +kernel
theorem dX3_needOfNextEasier_0 : decode cX3_needOfNextEasier 0 = .ok (.iconst 0, 1) := by decide +kernel
theorem dX3_needOfNextEasier_1 : decode cX3_needOfNextEasier 1 = .ok (.istore_n 2, 1) := by decide +kernel
theorem dX3_needOfNextEasier_2 : decode cX3_needOfNextEasier 2 = .ok (.iconst 0, 1) := by decide +kernel
theorem dX3_needOfNextEasier_3 : decode cX3_needOfNextEasier 3 = .ok (.istore_n 3, 1) := by decide +kernel
theorem dX3_needOfNextEasier_4 : decode cX3_needOfNextEasier 4 = .ok (.iload_n 3, 1) := by decide +kernel
theorem dX3_needOfNextEasier_5 : decode cX3_needOfNextEasier 5 = .ok (.aload_n 0, 1) := by decide +kernel
theorem dX3_needOfNextEasier_6 : decode cX3_needOfNextEasier 6 = .ok (.getfield 24, 3) := by decide +kernel
theorem dX3_needOfNextEasier_9 : decode cX3_needOfNextEasier 9 = .ok (.getfield 38, 3) := by decide +kernel
theorem dX3_needOfNextEasier_12 : decode cX3_needOfNextEasier 12 = .ok (.getfield 54, 3) := by decide +kernel
theorem dX3_needOfNextEasier_15 : decode cX3_needOfNextEasier 15 = .ok (.if_icmp .ge 62, 3) := by decide +kernel
theorem dX3_needOfNextEasier_18 : decode cX3_needOfNextEasier 18 = .ok (.aload_n 0, 1) := by decide +kernel
theorem dX3_needOfNextEasier_19 : decode cX3_needOfNextEasier 19 = .ok (.getfield 24, 3) := by decide +kernel
theorem dX3_needOfNextEasier_22 : decode cX3_needOfNextEasier 22 = .ok (.getfield 38, 3) := by decide +kernel
theorem dX3_needOfNextEasier_25 : decode cX3_needOfNextEasier 25 = .ok (.getfield 75, 3) := by decide +kernel
theorem dX3_needOfNextEasier_28 : decode cX3_needOfNextEasier 28 = .ok (.iload_n 3, 1) := by decide +kernel
theorem dX3_needOfNextEasier_29 : decode cX3_needOfNextEasier 29 = .ok (.iaload, 1) := by decide +kernel
theorem dX3_needOfNextEasier_30 : decode cX3_needOfNextEasier 30 = .ok (.aload_n 0, 1) := by decide +kernel
theorem dX3_needOfNextEasier_31 : decode cX3_needOfNextEasier 31 = .ok (.getfield 24, 3) := by decide +kernel
theorem dX3_needOfNextEasier_34 : decode cX3_needOfNextEasier 34 = .ok (.getfield 38, 3) := by decide +kernel
theorem dX3_needOfNextEasier_37 : decode cX3_needOfNextEasier 37 = .ok (.getfield 75, 3) := by decide +kernel
theorem dX3_needOfNextEasier_40 : decode cX3_needOfNextEasier 40 = .ok (.iload_n 1, 1) := by decide +kernel
theorem dX3_needOfNextEasier_41 : decode cX3_needOfNextEasier 41 = .ok (.iaload, 1) := by decide +kernel
theorem dX3_needOfNextEasier_42 : decode cX3_needOfNextEasier 42 = .ok (.if_icmp .ne 29, 3) := by decide +kernel
theorem dX3_needOfNextEasier_45 : decode cX3_needOfNextEasier 45 = .ok (.aload_n 0, 1) := by decide +kernel
theorem dX3_needOfNextEasier_46 : decode cX3_needOfNextEasier 46 = .ok (.iload_n 3, 1) := by decide +kernel
theorem dX3_needOfNextEasier_47 : decode cX3_needOfNextEasier 47 = .ok (.iload_n 1, 1) := by decide +kernel
theorem dX3_needOfNextEasier_48 : decode cX3_needOfNextEasier 48 = .ok (.invokevirtual 98, 3) := by decide +kernel
theorem dX3_needOfNextEasier_51 : decode cX3_needOfNextEasier 51 = .ok (.ifCond .eq 20, 3) := by decide +kernel
theorem dX3_needOfNextEasier_54 : decode cX3_needOfNextEasier 54 = .ok (.iload_n 2, 1) := by decide +kernel
theorem dX3_needOfNextEasier_55 : decode cX3_needOfNextEasier 55 = .ok (.aload_n 0, 1) := by decide +kernel
theorem dX3_needOfNextEasier_56 : decode cX3_needOfNextEasier 56 = .ok (.getfield 24, 3) := by decide +kernel
theorem dX3_needOfNextEasier_59 : decode cX3_needOfNextEasier 59 = .ok (.getfield 38, 3) := by decide +kernel
theorem dX3_needOfNextEasier_62 : decode cX3_needOfNextEasier 62 = .ok (.getfield 102, 3) := by decide +kernel
theorem dX3_needOfNextEasier_65 : decode cX3_needOfNextEasier 65 = .ok (.iload_n 3, 1) := by decide +kernel
theorem dX3_needOfNextEasier_66 : decode cX3_needOfNextEasier 66 = .ok (.iaload, 1) := by decide +kernel
theorem dX3_needOfNextEasier_67 : decode cX3_needOfNextEasier 67 = .ok (.invokestatic 105, 3) := by decide +kernel
theorem dX3_needOfNextEasier_70 : decode cX3_needOfNextEasier 70 = .ok (.istore_n 2, 1) := by decide +kernel
theorem dX3_needOfNextEasier_71 : decode cX3_needOfNextEasier 71 = .ok (.iinc 3 1, 3) := by decide +kernel
theorem dX3_needOfNextEasier_74 : decode cX3_needOfNextEasier 74 = .ok (.goto (-70), 3) := by decide +kernel
theorem dX3_needOfNextEasier_77 : decode cX3_needOfNextEasier 77 = .ok (.iload_n 2, 1) := by decide +kernel
theorem dX3_needOfNextEasier_78 : decode cX3_needOfNextEasier 78 = .ok (.ireturn, 1) := by decide +kernel
theorem dX3_isEasier_0 : decode cX3_isEasier 0 = .ok (.aload_n 0, 1) := by decide +kernel
theorem dX3_isEasier_1 : decode cX3_isEasier 1 = .ok (.getfield 24, 3) := by decide +kernel
theorem dX3_isEasier_4 : decode cX3_isEasier 4 = .ok (.getfield 38, 3) := by decide +kernel
theorem dX3_isEasier_7 : decode cX3_isEasier 7 = .ok (.getfield 102, 3) := by decide +kernel
theorem dX3_isEasier_10 : decode cX3_isEasier 10 = .ok (.iload_n 2, 1) := by decide +kernel
theorem dX3_isEasier_11 : decode cX3_isEasier 11 = .ok (.iaload, 1) := by decide +kernel
theorem dX3_isEasier_12 : decode cX3_isEasier 12 = .ok (.aload_n 0, 1) := by decide +kernel
theorem dX3_isEasier_13 : decode cX3_isEasier 13 = .ok (.getfield 24, 3) := by decide +kernel
theorem dX3_isEasier_16 : decode cX3_isEasier 16 = .ok (.getfield 38, 3) := by decide +kernel
theorem dX3_isEasier_19 : decode cX3_isEasier 19 = .ok (.getfield 102, 3) := by decide +kernel
theorem dX3_isEasier_22 : decode cX3_isEasier 22 = .ok (.iload_n 1, 1) := by decide +kernel
theorem dX3_isEasier_23 : decode cX3_isEasier 23 = .ok (.iaload, 1) := by decide +kernel
theorem dX3_isEasier_24 : decode cX3_isEasier 24 = .ok (.isub, 1) := by decide +kernel
theorem dX3_isEasier_25 : decode cX3_isEasier 25 = .ok (.istore_n 3, 1) := by decide +kernel
theorem dX3_isEasier_26 : decode cX3_isEasier 26 = .ok (.iload_n 3, 1) := by decide +kernel
theorem dX3_isEasier_27 : decode cX3_isEasier 27 = .ok (.ifCond .gt 12, 3) := by decide +kernel
theorem dX3_isEasier_30 : decode cX3_isEasier 30 = .ok (.iload_n 3, 1) := by decide +kernel
theorem dX3_isEasier_31 : decode cX3_isEasier 31 = .ok (.ifCond .ne 12, 3) := by decide +kernel
theorem dX3_isEasier_34 : decode cX3_isEasier 34 = .ok (.iload_n 1, 1) := by decide +kernel
theorem dX3_isEasier_35 : decode cX3_isEasier 35 = .ok (.iload_n 2, 1) := by decide +kernel
theorem dX3_isEasier_36 : decode cX3_isEasier 36 = .ok (.if_icmp .ge 7, 3) := by decide +kernel
theorem dX3_isEasier_39 : decode cX3_isEasier 39 = .ok (.iconst 1, 1) := by decide +kernel
theorem dX3_isEasier_40 : decode cX3_isEasier 40 = .ok (.goto 4, 3) := by decide +kernel
theorem dX3_isEasier_43 : decode cX3_isEasier 43 = .ok (.iconst 0, 1) := by decide +kernel
theorem dX3_isEasier_44 : decode cX3_isEasier 44 = .ok (.ireturn, 1) := by decide +kernel
theorem dX3_putFrom_0 : decode cX3_putFrom 0 = .ok (.aload_n 0, 1) := by decide +kernel
theorem dX3_putFrom_1 : decode cX3_putFrom 1 = .ok (.invokevirtual 111, 3) := by decide +kernel
theorem dX3_putFrom_4 : decode cX3_putFrom 4 = .ok (.aload_n 0, 1) := by decide +kernel
theorem dX3_putFrom_5 : decode cX3_putFrom 5 = .ok (.getfield 34, 3) := by decide +kernel
theorem dX3_putFrom_8 : decode cX3_putFrom 8 = .ok (.if_icmp .le 11, 3) := by decide +kernel
theorem dX3_putFrom_11 : decode cX3_putFrom 11 = .ok (.aload_n 0, 1) := by decide +kernel
theorem dX3_putFrom_12 : decode cX3_putFrom 12 = .ok (.iload_n 1, 1) := by decide +kernel
theorem dX3_putFrom_13 : decode cX3_putFrom 13 = .ok (.invokevirtual 114, 3) := by decide +kernel
theorem dX3_putFrom_16 : decode cX3_putFrom 16 = .ok (.ifCond .eq 4, 3) := by decide +kernel
theorem dX3_putFrom_19 : decode cX3_putFrom 19 = .ok (.return_, 1) := by decide +kernel
theorem dX3_putFrom_20 : decode cX3_putFrom 20 = .ok (.iload_n 1, 1) := by decide +kernel
theorem dX3_putFrom_21 : decode cX3_putFrom 21 = .ok (.aload_n 0, 1) := by decide +kernel
theorem dX3_putFrom_22 : decode cX3_putFrom 22 = .ok (.getfield 24, 3) := by decide +kernel
theorem dX3_putFrom_25 : decode cX3_putFrom 25 = .ok (.getfield 38, 3) := by decide +kernel
theorem dX3_putFrom_28 : decode cX3_putFrom 28 = .ok (.getfield 42, 3) := by decide +kernel
theorem dX3_putFrom_31 : decode cX3_putFrom 31 = .ok (.if_icmp .lt 10, 3) := by decide +kernel
theorem dX3_putFrom_34 : decode cX3_putFrom 34 = .ok (.aload_n 0, 1) := by decide +kernel
theorem dX3_putFrom_35 : decode cX3_putFrom 35 = .ok (.invokevirtual 118, 3) := by decide +kernel
theorem dX3_putFrom_38 : decode cX3_putFrom 38 = .ok (.goto 86, 3) := by decide +kernel
theorem dX3_putFrom_41 : decode cX3_putFrom 41 = .ok (.aload_n 0, 1) := by decide +kernel
theorem dX3_putFrom_42 : decode cX3_putFrom 42 = .ok (.getfield 24, 3) := by decide +kernel
theorem dX3_putFrom_45 : decode cX3_putFrom 45 = .ok (.getfield 64, 3) := by decide +kernel
theorem dX3_putFrom_48 : decode cX3_putFrom 48 = .ok (.iload_n 1, 1) := by decide +kernel
theorem dX3_putFrom_49 : decode cX3_putFrom 49 = .ok (.baload, 1) := by decide +kernel
theorem dX3_putFrom_50 : decode cX3_putFrom 50 = .ok (.ifCond .eq 13, 3) := by decide +kernel
theorem dX3_putFrom_53 : decode cX3_putFrom 53 = .ok (.aload_n 0, 1) := by decide +kernel
theorem dX3_putFrom_54 : decode cX3_putFrom 54 = .ok (.iload_n 1, 1) := by decide +kernel
theorem dX3_putFrom_55 : decode cX3_putFrom 55 = .ok (.iconst 1, 1) := by decide +kernel
theorem dX3_putFrom_56 : decode cX3_putFrom 56 = .ok (.iadd, 1) := by decide +kernel
theorem dX3_putFrom_57 : decode cX3_putFrom 57 = .ok (.invokevirtual 68, 3) := by decide +kernel
theorem dX3_putFrom_60 : decode cX3_putFrom 60 = .ok (.goto 64, 3) := by decide +kernel
theorem dX3_putFrom_63 : decode cX3_putFrom 63 = .ok (.aload_n 0, 1) := by decide +kernel
theorem dX3_putFrom_64 : decode cX3_putFrom 64 = .ok (.dup, 1) := by decide +kernel
theorem dX3_putFrom_65 : decode cX3_putFrom 65 = .ok (.getfield 51, 3) := by decide +kernel
theorem dX3_putFrom_68 : decode cX3_putFrom 68 = .ok (.iconst 1, 1) := by decide +kernel
theorem dX3_putFrom_69 : decode cX3_putFrom 69 = .ok (.isub, 1) := by decide +kernel
theorem dX3_putFrom_70 : decode cX3_putFrom 70 = .ok (.putfield 51, 3) := by decide +kernel
theorem dX3_putFrom_73 : decode cX3_putFrom 73 = .ok (.iconst 0, 1) := by decide +kernel
theorem dX3_putFrom_74 : decode cX3_putFrom 74 = .ok (.istore_n 2, 1) := by decide +kernel
theorem dX3_putFrom_75 : decode cX3_putFrom 75 = .ok (.iload_n 2, 1) := by decide +kernel
theorem dX3_putFrom_76 : decode cX3_putFrom 76 = .ok (.aload_n 0, 1) := by decide +kernel
theorem dX3_putFrom_77 : decode cX3_putFrom 77 = .ok (.getfield 24, 3) := by decide +kernel
theorem dX3_putFrom_80 : decode cX3_putFrom 80 = .ok (.getfield 38, 3) := by decide +kernel
theorem dX3_putFrom_83 : decode cX3_putFrom 83 = .ok (.getfield 78, 3) := by decide +kernel
theorem dX3_putFrom_86 : decode cX3_putFrom 86 = .ok (.if_icmp .ge 28, 3) := by decide +kernel
theorem dX3_putFrom_89 : decode cX3_putFrom 89 = .ok (.aload_n 0, 1) := by decide +kernel
theorem dX3_putFrom_90 : decode cX3_putFrom 90 = .ok (.getfield 9, 3) := by decide +kernel
theorem dX3_putFrom_93 : decode cX3_putFrom 93 = .ok (.iload_n 1, 1) := by decide +kernel
theorem dX3_putFrom_94 : decode cX3_putFrom 94 = .ok (.iaload, 1) := by decide +kernel
theorem dX3_putFrom_95 : decode cX3_putFrom 95 = .ok (.iload_n 2, 1) := by decide +kernel
theorem dX3_putFrom_96 : decode cX3_putFrom 96 = .ok (.invokestatic 121, 3) := by decide +kernel
theorem dX3_putFrom_99 : decode cX3_putFrom 99 = .ok (.ifCond .eq 9, 3) := by decide +kernel
theorem dX3_putFrom_102 : decode cX3_putFrom 102 = .ok (.aload_n 0, 1) := by decide +kernel
theorem dX3_putFrom_103 : decode cX3_putFrom 103 = .ok (.iload_n 1, 1) := by decide +kernel
theorem dX3_putFrom_104 : decode cX3_putFrom 104 = .ok (.iload_n 2, 1) := by decide +kernel
theorem dX3_putFrom_105 : decode cX3_putFrom 105 = .ok (.invokevirtual 124, 3) := by decide +kernel
theorem dX3_putFrom_108 : decode cX3_putFrom 108 = .ok (.iinc 2 1, 3) := by decide +kernel
theorem dX3_putFrom_111 : decode cX3_putFrom 111 = .ok (.goto (-36), 3) := by decide +kernel
theorem dX3_putFrom_114 : decode cX3_putFrom 114 = .ok (.aload_n 0, 1) := by decide +kernel
theorem dX3_putFrom_115 : decode cX3_putFrom 115 = .ok (.dup, 1) := by decide +kernel
theorem dX3_putFrom_116 : decode cX3_putFrom 116 = .ok (.getfield 51, 3) := by decide +kernel
theorem dX3_putFrom_119 : decode cX3_putFrom 119 = .ok (.iconst 1, 1) := by decide +kernel
theorem dX3_putFrom_120 : decode cX3_putFrom 120 = .ok (.iadd, 1) := by decide +kernel
theorem dX3_putFrom_121 : decode cX3_putFrom 121 = .ok (.putfield 51, 3) := by decide +kernel
theorem dX3_putFrom_124 : decode cX3_putFrom 124 = .ok (.return_, 1) := by decide +kernel
theorem dX3_put_0 : decode cX3_put 0 = .ok (.aload_n 0, 1) := by decide +kernel
theorem dX3_put_1 : decode cX3_put 1 = .ok (.getfield 24, 3) := by decide +kernel
theorem dX3_put_4 : decode cX3_put 4 = .ok (.getfield 72, 3) := by decide +kernel
theorem dX3_put_7 : decode cX3_put 7 = .ok (.iload_n 1, 1) := by decide +kernel
theorem dX3_put_8 : decode cX3_put 8 = .ok (.iload_n 2, 1) := by decide +kernel
theorem dX3_put_9 : decode cX3_put 9 = .ok (.iastore, 1) := by decide +kernel
theorem dX3_put_10 : decode cX3_put 10 = .ok (.aload_n 0, 1) := by decide +kernel
theorem dX3_put_11 : decode cX3_put 11 = .ok (.getfield 18, 3) := by decide +kernel
theorem dX3_put_14 : decode cX3_put 14 = .ok (.iload_n 2, 1) := by decide +kernel
theorem dX3_put_15 : decode cX3_put 15 = .ok (.dup2, 1) := by decide +kernel
theorem dX3_put_16 : decode cX3_put 16 = .ok (.iaload, 1) := by decide +kernel
theorem dX3_put_17 : decode cX3_put 17 = .ok (.iconst 1, 1) := by decide +kernel
theorem dX3_put_18 : decode cX3_put 18 = .ok (.iadd, 1) := by decide +kernel
theorem dX3_put_19 : decode cX3_put 19 = .ok (.iastore, 1) := by decide +kernel
theorem dX3_put_20 : decode cX3_put 20 = .ok (.aload_n 0, 1) := by decide +kernel
theorem dX3_put_21 : decode cX3_put 21 = .ok (.iload_n 1, 1) := by decide +kernel
theorem dX3_put_22 : decode cX3_put 22 = .ok (.iconst 1, 1) := by decide +kernel
theorem dX3_put_23 : decode cX3_put 23 = .ok (.iadd, 1) := by decide +kernel
theorem dX3_put_24 : decode cX3_put 24 = .ok (.invokevirtual 68, 3) := by decide +kernel
theorem dX3_put_27 : decode cX3_put 27 = .ok (.aload_n 0, 1) := by decide +kernel
theorem dX3_put_28 : decode cX3_put 28 = .ok (.getfield 18, 3) := by decide +kernel
theorem dX3_put_31 : decode cX3_put 31 = .ok (.iload_n 2, 1) := by decide +kernel
theorem dX3_put_32 : decode cX3_put 32 = .ok (.dup2, 1) := by decide +kernel
theorem dX3_put_33 : decode cX3_put 33 = .ok (.iaload, 1) := by decide +kernel
theorem dX3_put_34 : decode cX3_put 34 = .ok (.iconst 1, 1) := by decide +kernel
theorem dX3_put_35 : decode cX3_put 35 = .ok (.isub, 1) := by decide +kernel
theorem dX3_put_36 : decode cX3_put 36 = .ok (.iastore, 1) := by decide +kernel
theorem dX3_put_37 : decode cX3_put 37 = .ok (.return_, 1) := by decide +kernel
theorem dX3_isSurelyFrozenBefore_0 : decode cX3_isSurelyFrozenBefore 0 = .ok (.iconst 0, 1) := by decide +kernel
theorem dX3_isSurelyFrozenBefore_1 : decode cX3_isSurelyFrozenBefore 1 = .ok (.istore_n 2, 1) := by decide +kernel
theorem dX3_isSurelyFrozenBefore_2 : decode cX3_isSurelyFrozenBefore 2 = .ok (.iload_n 2, 1) := by decide +kernel
theorem dX3_isSurelyFrozenBefore_3 : decode cX3_isSurelyFrozenBefore 3 = .ok (.iload_n 1, 1) := by decide +kernel
theorem dX3_isSurelyFrozenBefore_4 : decode cX3_isSurelyFrozenBefore 4 = .ok (.if_icmp .ge 55, 3) := by decide +kernel
theorem dX3_isSurelyFrozenBefore_7 : decode cX3_isSurelyFrozenBefore 7 = .ok (.aload_n 0, 1) := by decide +kernel
theorem dX3_isSurelyFrozenBefore_8 : decode cX3_isSurelyFrozenBefore 8 = .ok (.getfield 24, 3) := by decide +kernel
theorem dX3_isSurelyFrozenBefore_11 : decode cX3_isSurelyFrozenBefore 11 = .ok (.getfield 72, 3) := by decide +kernel
theorem dX3_isSurelyFrozenBefore_14 : decode cX3_isSurelyFrozenBefore 14 = .ok (.iload_n 2, 1) := by decide +kernel
theorem dX3_isSurelyFrozenBefore_15 : decode cX3_isSurelyFrozenBefore 15 = .ok (.iaload, 1) := by decide +kernel
theorem dX3_isSurelyFrozenBefore_16 : decode cX3_isSurelyFrozenBefore 16 = .ok (.istore_n 3, 1) := by decide +kernel
theorem dX3_isSurelyFrozenBefore_17 : decode cX3_isSurelyFrozenBefore 17 = .ok (.aload_n 0, 1) := by decide +kernel
theorem dX3_isSurelyFrozenBefore_18 : decode cX3_isSurelyFrozenBefore 18 = .ok (.getfield 24, 3) := by decide +kernel
theorem dX3_isSurelyFrozenBefore_21 : decode cX3_isSurelyFrozenBefore 21 = .ok (.getfield 64, 3) := by decide +kernel
theorem dX3_isSurelyFrozenBefore_24 : decode cX3_isSurelyFrozenBefore 24 = .ok (.iload_n 2, 1) := by decide +kernel
theorem dX3_isSurelyFrozenBefore_25 : decode cX3_isSurelyFrozenBefore 25 = .ok (.baload, 1) := by decide +kernel
theorem dX3_isSurelyFrozenBefore_26 : decode cX3_isSurelyFrozenBefore 26 = .ok (.ifCond .ne 27, 3) := by decide +kernel
theorem dX3_isSurelyFrozenBefore_29 : decode cX3_isSurelyFrozenBefore 29 = .ok (.aload_n 0, 1) := by decide +kernel
theorem dX3_isSurelyFrozenBefore_30 : decode cX3_isSurelyFrozenBefore 30 = .ok (.iload_n 2, 1) := by decide +kernel
theorem dX3_isSurelyFrozenBefore_31 : decode cX3_isSurelyFrozenBefore 31 = .ok (.iload_n 3, 1) := by decide +kernel
theorem dX3_isSurelyFrozenBefore_32 : decode cX3_isSurelyFrozenBefore 32 = .ok (.aload_n 0, 1) := by decide +kernel
theorem dX3_isSurelyFrozenBefore_33 : decode cX3_isSurelyFrozenBefore 33 = .ok (.getfield 18, 3) := by decide +kernel
theorem dX3_isSurelyFrozenBefore_36 : decode cX3_isSurelyFrozenBefore 36 = .ok (.iload_n 3, 1) := by decide +kernel
theorem dX3_isSurelyFrozenBefore_37 : decode cX3_isSurelyFrozenBefore 37 = .ok (.iaload, 1) := by decide +kernel
theorem dX3_isSurelyFrozenBefore_38 : decode cX3_isSurelyFrozenBefore 38 = .ok (.iconst 1, 1) := by decide +kernel
theorem dX3_isSurelyFrozenBefore_39 : decode cX3_isSurelyFrozenBefore 39 = .ok (.isub, 1) := by decide +kernel
theorem dX3_isSurelyFrozenBefore_40 : decode cX3_isSurelyFrozenBefore 40 = .ok (.aload_n 0, 1) := by decide +kernel
theorem dX3_isSurelyFrozenBefore_41 : decode cX3_isSurelyFrozenBefore 41 = .ok (.getfield 51, 3) := by decide +kernel
theorem dX3_isSurelyFrozenBefore_44 : decode cX3_isSurelyFrozenBefore 44 = .ok (.iadd, 1) := by decide +kernel
theorem dX3_isSurelyFrozenBefore_45 : decode cX3_isSurelyFrozenBefore 45 = .ok (.invokevirtual 81, 3) := by decide +kernel
theorem dX3_isSurelyFrozenBefore_48 : decode cX3_isSurelyFrozenBefore 48 = .ok (.ifCond .eq 5, 3) := by decide +kernel
theorem dX3_isSurelyFrozenBefore_51 : decode cX3_isSurelyFrozenBefore 51 = .ok (.iconst 1, 1) := by decide +kernel
theorem dX3_isSurelyFrozenBefore_52 : decode cX3_isSurelyFrozenBefore 52 = .ok (.ireturn, 1) := by decide +kernel
theorem dX3_isSurelyFrozenBefore_53 : decode cX3_isSurelyFrozenBefore 53 = .ok (.iinc 2 1, 3) := by decide +kernel
theorem dX3_isSurelyFrozenBefore_56 : decode cX3_isSurelyFrozenBefore 56 = .ok (.goto (-54), 3) := by decide +kernel
theorem dX3_isSurelyFrozenBefore_59 : decode cX3_isSurelyFrozenBefore 59 = .ok (.iconst 0, 1) := by decide +kernel
theorem dX3_isSurelyFrozenBefore_60 : decode cX3_isSurelyFrozenBefore 60 = .ok (.ireturn, 1) := by decide +kernel
theorem dX3_mostInReach_0 : decode cX3_mostInReach 0 = .ok (.aload_n 0, 1) := by decide +kernel
theorem dX3_mostInReach_1 : decode cX3_mostInReach 1 = .ok (.getfield 51, 3) := by decide +kernel
theorem dX3_mostInReach_4 : decode cX3_mostInReach 4 = .ok (.istore_n 1, 1) := by decide +kernel
theorem dX3_mostInReach_5 : decode cX3_mostInReach 5 = .ok (.iconst 0, 1) := by decide +kernel
theorem dX3_mostInReach_6 : decode cX3_mostInReach 6 = .ok (.istore_n 2, 1) := by decide +kernel
theorem dX3_mostInReach_7 : decode cX3_mostInReach 7 = .ok (.iconst 0, 1) := by decide +kernel
theorem dX3_mostInReach_8 : decode cX3_mostInReach 8 = .ok (.istore_n 3, 1) := by decide +kernel
theorem dX3_mostInReach_9 : decode cX3_mostInReach 9 = .ok (.iload_n 3, 1) := by decide +kernel
theorem dX3_mostInReach_10 : decode cX3_mostInReach 10 = .ok (.iconst 4, 1) := by decide +kernel
theorem dX3_mostInReach_11 : decode cX3_mostInReach 11 = .ok (.if_icmp .gt 55, 3) := by decide +kernel
theorem dX3_mostInReach_14 : decode cX3_mostInReach 14 = .ok (.iconst 0, 1) := by decide +kernel
theorem dX3_mostInReach_15 : decode cX3_mostInReach 15 = .ok (.istore 4, 2) := by decide +kernel
theorem dX3_mostInReach_17 : decode cX3_mostInReach 17 = .ok (.iload 4, 2) := by decide +kernel
theorem dX3_mostInReach_19 : decode cX3_mostInReach 19 = .ok (.aload_n 0, 1) := by decide +kernel
theorem dX3_mostInReach_20 : decode cX3_mostInReach 20 = .ok (.getfield 24, 3) := by decide +kernel
theorem dX3_mostInReach_23 : decode cX3_mostInReach 23 = .ok (.getfield 38, 3) := by decide +kernel
theorem dX3_mostInReach_26 : decode cX3_mostInReach 26 = .ok (.getfield 54, 3) := by decide +kernel
theorem dX3_mostInReach_29 : decode cX3_mostInReach 29 = .ok (.if_icmp .ge 31, 3) := by decide +kernel
theorem dX3_mostInReach_32 : decode cX3_mostInReach 32 = .ok (.iload_n 3, 1) := by decide +kernel
theorem dX3_mostInReach_33 : decode cX3_mostInReach 33 = .ok (.iload_n 1, 1) := by decide +kernel
theorem dX3_mostInReach_34 : decode cX3_mostInReach 34 = .ok (.if_icmp .gt 20, 3) := by decide +kernel
theorem dX3_mostInReach_37 : decode cX3_mostInReach 37 = .ok (.aload_n 0, 1) := by decide +kernel
theorem dX3_mostInReach_38 : decode cX3_mostInReach 38 = .ok (.iload 4, 2) := by decide +kernel
theorem dX3_mostInReach_40 : decode cX3_mostInReach 40 = .ok (.invokevirtual 128, 3) := by decide +kernel
theorem dX3_mostInReach_43 : decode cX3_mostInReach 43 = .ok (.iload_n 3, 1) := by decide +kernel
theorem dX3_mostInReach_44 : decode cX3_mostInReach 44 = .ok (.if_icmp .ne 10, 3) := by decide +kernel
theorem dX3_mostInReach_47 : decode cX3_mostInReach 47 = .ok (.iload_n 1, 1) := by decide +kernel
theorem dX3_mostInReach_48 : decode cX3_mostInReach 48 = .ok (.iload_n 3, 1) := by decide +kernel
theorem dX3_mostInReach_49 : decode cX3_mostInReach 49 = .ok (.isub, 1) := by decide +kernel
theorem dX3_mostInReach_50 : decode cX3_mostInReach 50 = .ok (.istore_n 1, 1) := by decide +kernel
theorem dX3_mostInReach_51 : decode cX3_mostInReach 51 = .ok (.iinc 2 1, 3) := by decide +kernel
theorem dX3_mostInReach_54 : decode cX3_mostInReach 54 = .ok (.iinc 4 1, 3) := by decide +kernel
theorem dX3_mostInReach_57 : decode cX3_mostInReach 57 = .ok (.goto (-40), 3) := by decide +kernel
theorem dX3_mostInReach_60 : decode cX3_mostInReach 60 = .ok (.iinc 3 1, 3) := by decide +kernel
theorem dX3_mostInReach_63 : decode cX3_mostInReach 63 = .ok (.goto (-54), 3) := by decide +kernel
theorem dX3_mostInReach_66 : decode cX3_mostInReach 66 = .ok (.iload_n 2, 1) := by decide +kernel
theorem dX3_mostInReach_67 : decode cX3_mostInReach 67 = .ok (.ireturn, 1) := by decide +kernel
theorem dX3_priceOf_0 : decode cX3_priceOf 0 = .ok (.aload_n 0, 1) := by decide +kernel
theorem dX3_priceOf_1 : decode cX3_priceOf 1 = .ok (.getfield 18, 3) := by decide +kernel
theorem dX3_priceOf_4 : decode cX3_priceOf 4 = .ok (.aload_n 0, 1) := by decide +kernel
theorem dX3_priceOf_5 : decode cX3_priceOf 5 = .ok (.getfield 24, 3) := by decide +kernel
theorem dX3_priceOf_8 : decode cX3_priceOf 8 = .ok (.getfield 38, 3) := by decide +kernel
theorem dX3_priceOf_11 : decode cX3_priceOf 11 = .ok (.getfield 75, 3) := by decide +kernel
theorem dX3_priceOf_14 : decode cX3_priceOf 14 = .ok (.iload_n 1, 1) := by decide +kernel
theorem dX3_priceOf_15 : decode cX3_priceOf 15 = .ok (.iaload, 1) := by decide +kernel
theorem dX3_priceOf_16 : decode cX3_priceOf 16 = .ok (.iaload, 1) := by decide +kernel
theorem dX3_priceOf_17 : decode cX3_priceOf 17 = .ok (.istore_n 2, 1) := by decide +kernel
theorem dX3_priceOf_18 : decode cX3_priceOf 18 = .ok (.aload_n 0, 1) := by decide +kernel
theorem dX3_priceOf_19 : decode cX3_priceOf 19 = .ok (.getfield 24, 3) := by decide +kernel
theorem dX3_priceOf_22 : decode cX3_priceOf 22 = .ok (.getfield 38, 3) := by decide +kernel
theorem dX3_priceOf_25 : decode cX3_priceOf 25 = .ok (.getfield 102, 3) := by decide +kernel
theorem dX3_priceOf_28 : decode cX3_priceOf 28 = .ok (.iload_n 1, 1) := by decide +kernel
theorem dX3_priceOf_29 : decode cX3_priceOf 29 = .ok (.iaload, 1) := by decide +kernel
theorem dX3_priceOf_30 : decode cX3_priceOf 30 = .ok (.iload_n 2, 1) := by decide +kernel
theorem dX3_priceOf_31 : decode cX3_priceOf 31 = .ok (.isub, 1) := by decide +kernel
theorem dX3_priceOf_32 : decode cX3_priceOf 32 = .ok (.iconst 0, 1) := by decide +kernel
theorem dX3_priceOf_33 : decode cX3_priceOf 33 = .ok (.invokestatic 105, 3) := by decide +kernel
theorem dX3_priceOf_36 : decode cX3_priceOf 36 = .ok (.aload_n 0, 1) := by decide +kernel
theorem dX3_priceOf_37 : decode cX3_priceOf 37 = .ok (.getfield 15, 3) := by decide +kernel
theorem dX3_priceOf_40 : decode cX3_priceOf 40 = .ok (.iload_n 1, 1) := by decide +kernel
theorem dX3_priceOf_41 : decode cX3_priceOf 41 = .ok (.iaload, 1) := by decide +kernel
theorem dX3_priceOf_42 : decode cX3_priceOf 42 = .ok (.iload_n 2, 1) := by decide +kernel
theorem dX3_priceOf_43 : decode cX3_priceOf 43 = .ok (.isub, 1) := by decide +kernel
theorem dX3_priceOf_44 : decode cX3_priceOf 44 = .ok (.iconst 0, 1) := by decide +kernel
theorem dX3_priceOf_45 : decode cX3_priceOf 45 = .ok (.invokestatic 105, 3) := by decide +kernel
theorem dX3_priceOf_48 : decode cX3_priceOf 48 = .ok (.isub, 1) := by decide +kernel
theorem dX3_priceOf_49 : decode cX3_priceOf 49 = .ok (.ireturn, 1) := by decide +kernel
theorem dX3_takeIfBetter_0 : decode cX3_takeIfBetter 0 = .ok (.iconst 0, 1) := by decide +kernel
theorem dX3_takeIfBetter_1 : decode cX3_takeIfBetter 1 = .ok (.istore_n 1, 1) := by decide +kernel
theorem dX3_takeIfBetter_2 : decode cX3_takeIfBetter 2 = .ok (.iconst 0, 1) := by decide +kernel
theorem dX3_takeIfBetter_3 : decode cX3_takeIfBetter 3 = .ok (.istore_n 2, 1) := by decide +kernel
theorem dX3_takeIfBetter_4 : decode cX3_takeIfBetter 4 = .ok (.iload_n 2, 1) := by decide +kernel
theorem dX3_takeIfBetter_5 : decode cX3_takeIfBetter 5 = .ok (.aload_n 0, 1) := by decide +kernel
theorem dX3_takeIfBetter_6 : decode cX3_takeIfBetter 6 = .ok (.getfield 24, 3) := by decide +kernel
theorem dX3_takeIfBetter_9 : decode cX3_takeIfBetter 9 = .ok (.getfield 38, 3) := by decide +kernel
theorem dX3_takeIfBetter_12 : decode cX3_takeIfBetter 12 = .ok (.getfield 54, 3) := by decide +kernel
theorem dX3_takeIfBetter_15 : decode cX3_takeIfBetter 15 = .ok (.if_icmp .ge 52, 3) := by decide +kernel
theorem dX3_takeIfBetter_18 : decode cX3_takeIfBetter 18 = .ok (.iload_n 1, 1) := by decide +kernel
theorem dX3_takeIfBetter_19 : decode cX3_takeIfBetter 19 = .ok (.aload_n 0, 1) := by decide +kernel
theorem dX3_takeIfBetter_20 : decode cX3_takeIfBetter 20 = .ok (.getfield 18, 3) := by decide +kernel
theorem dX3_takeIfBetter_23 : decode cX3_takeIfBetter 23 = .ok (.aload_n 0, 1) := by decide +kernel
theorem dX3_takeIfBetter_24 : decode cX3_takeIfBetter 24 = .ok (.getfield 24, 3) := by decide +kernel
theorem dX3_takeIfBetter_27 : decode cX3_takeIfBetter 27 = .ok (.getfield 38, 3) := by decide +kernel
theorem dX3_takeIfBetter_30 : decode cX3_takeIfBetter 30 = .ok (.getfield 75, 3) := by decide +kernel
theorem dX3_takeIfBetter_33 : decode cX3_takeIfBetter 33 = .ok (.iload_n 2, 1) := by decide +kernel
theorem dX3_takeIfBetter_34 : decode cX3_takeIfBetter 34 = .ok (.iaload, 1) := by decide +kernel
theorem dX3_takeIfBetter_35 : decode cX3_takeIfBetter 35 = .ok (.iaload, 1) := by decide +kernel
theorem dX3_takeIfBetter_36 : decode cX3_takeIfBetter 36 = .ok (.aload_n 0, 1) := by decide +kernel
theorem dX3_takeIfBetter_37 : decode cX3_takeIfBetter 37 = .ok (.getfield 24, 3) := by decide +kernel
theorem dX3_takeIfBetter_40 : decode cX3_takeIfBetter 40 = .ok (.getfield 38, 3) := by decide +kernel
theorem dX3_takeIfBetter_43 : decode cX3_takeIfBetter 43 = .ok (.getfield 102, 3) := by decide +kernel
theorem dX3_takeIfBetter_46 : decode cX3_takeIfBetter 46 = .ok (.iload_n 2, 1) := by decide +kernel
theorem dX3_takeIfBetter_47 : decode cX3_takeIfBetter 47 = .ok (.iaload, 1) := by decide +kernel
theorem dX3_takeIfBetter_48 : decode cX3_takeIfBetter 48 = .ok (.if_icmp .lt 7, 3) := by decide +kernel
theorem dX3_takeIfBetter_51 : decode cX3_takeIfBetter 51 = .ok (.iconst 1, 1) := by decide +kernel
theorem dX3_takeIfBetter_52 : decode cX3_takeIfBetter 52 = .ok (.goto 4, 3) := by decide +kernel
theorem dX3_takeIfBetter_55 : decode cX3_takeIfBetter 55 = .ok (.iconst 0, 1) := by decide +kernel
theorem dX3_takeIfBetter_56 : decode cX3_takeIfBetter 56 = .ok (.invokestatic 131, 3) := by decide +kernel
theorem dX3_takeIfBetter_59 : decode cX3_takeIfBetter 59 = .ok (.iadd, 1) := by decide +kernel
theorem dX3_takeIfBetter_60 : decode cX3_takeIfBetter 60 = .ok (.istore_n 1, 1) := by decide +kernel
theorem dX3_takeIfBetter_61 : decode cX3_takeIfBetter 61 = .ok (.iinc 2 1, 3) := by decide +kernel
theorem dX3_takeIfBetter_64 : decode cX3_takeIfBetter 64 = .ok (.goto (-60), 3) := by decide +kernel
theorem dX3_takeIfBetter_67 : decode cX3_takeIfBetter 67 = .ok (.iload_n 1, 1) := by decide +kernel
theorem dX3_takeIfBetter_68 : decode cX3_takeIfBetter 68 = .ok (.aload_n 0, 1) := by decide +kernel
theorem dX3_takeIfBetter_69 : decode cX3_takeIfBetter 69 = .ok (.getfield 34, 3) := by decide +kernel
theorem dX3_takeIfBetter_72 : decode cX3_takeIfBetter 72 = .ok (.if_icmp .le 62, 3) := by decide +kernel
theorem dX3_takeIfBetter_75 : decode cX3_takeIfBetter 75 = .ok (.aload_n 0, 1) := by decide +kernel
theorem dX3_takeIfBetter_76 : decode cX3_takeIfBetter 76 = .ok (.iload_n 1, 1) := by decide +kernel
theorem dX3_takeIfBetter_77 : decode cX3_takeIfBetter 77 = .ok (.putfield 34, 3) := by decide +kernel
theorem dX3_takeIfBetter_80 : decode cX3_takeIfBetter 80 = .ok (.iconst 0, 1) := by decide +kernel
theorem dX3_takeIfBetter_81 : decode cX3_takeIfBetter 81 = .ok (.istore_n 2, 1) := by decide +kernel
theorem dX3_takeIfBetter_82 : decode cX3_takeIfBetter 82 = .ok (.iload_n 2, 1) := by decide +kernel
theorem dX3_takeIfBetter_83 : decode cX3_takeIfBetter 83 = .ok (.aload_n 0, 1) := by decide +kernel
theorem dX3_takeIfBetter_84 : decode cX3_takeIfBetter 84 = .ok (.getfield 24, 3) := by decide +kernel
theorem dX3_takeIfBetter_87 : decode cX3_takeIfBetter 87 = .ok (.getfield 38, 3) := by decide +kernel
theorem dX3_takeIfBetter_90 : decode cX3_takeIfBetter 90 = .ok (.getfield 42, 3) := by decide +kernel
theorem dX3_takeIfBetter_93 : decode cX3_takeIfBetter 93 = .ok (.if_icmp .ge 41, 3) := by decide +kernel
theorem dX3_takeIfBetter_96 : decode cX3_takeIfBetter 96 = .ok (.aload_n 0, 1) := by decide +kernel
theorem dX3_takeIfBetter_97 : decode cX3_takeIfBetter 97 = .ok (.getfield 21, 3) := by decide +kernel
theorem dX3_takeIfBetter_100 : decode cX3_takeIfBetter 100 = .ok (.iload_n 2, 1) := by decide +kernel
theorem dX3_takeIfBetter_101 : decode cX3_takeIfBetter 101 = .ok (.aload_n 0, 1) := by decide +kernel
theorem dX3_takeIfBetter_102 : decode cX3_takeIfBetter 102 = .ok (.getfield 24, 3) := by decide +kernel
theorem dX3_takeIfBetter_105 : decode cX3_takeIfBetter 105 = .ok (.getfield 64, 3) := by decide +kernel
theorem dX3_takeIfBetter_108 : decode cX3_takeIfBetter 108 = .ok (.iload_n 2, 1) := by decide +kernel
theorem dX3_takeIfBetter_109 : decode cX3_takeIfBetter 109 = .ok (.baload, 1) := by decide +kernel
theorem dX3_takeIfBetter_110 : decode cX3_takeIfBetter 110 = .ok (.ifCond .eq 8, 3) := by decide +kernel
theorem dX3_takeIfBetter_113 : decode cX3_takeIfBetter 113 = .ok (.bipush (-4), 2) := by decide +kernel
theorem dX3_takeIfBetter_115 : decode cX3_takeIfBetter 115 = .ok (.goto 12, 3) := by decide +kernel
theorem dX3_takeIfBetter_118 : decode cX3_takeIfBetter 118 = .ok (.aload_n 0, 1) := by decide +kernel
theorem dX3_takeIfBetter_119 : decode cX3_takeIfBetter 119 = .ok (.getfield 24, 3) := by decide +kernel
theorem dX3_takeIfBetter_122 : decode cX3_takeIfBetter 122 = .ok (.getfield 72, 3) := by decide +kernel
theorem dX3_takeIfBetter_125 : decode cX3_takeIfBetter 125 = .ok (.iload_n 2, 1) := by decide +kernel
theorem dX3_takeIfBetter_126 : decode cX3_takeIfBetter 126 = .ok (.iaload, 1) := by decide +kernel
theorem dX3_takeIfBetter_127 : decode cX3_takeIfBetter 127 = .ok (.iastore, 1) := by decide +kernel
theorem dX3_takeIfBetter_128 : decode cX3_takeIfBetter 128 = .ok (.iinc 2 1, 3) := by decide +kernel
theorem dX3_takeIfBetter_131 : decode cX3_takeIfBetter 131 = .ok (.goto (-49), 3) := by decide +kernel
theorem dX3_takeIfBetter_134 : decode cX3_takeIfBetter 134 = .ok (.return_, 1) := by decide +kernel
theorem dX4_init_0 : decode cX4_init 0 = .ok (.aload_n 0, 1) := by decide +kernel
theorem dX4_init_1 : decode cX4_init 1 = .ok (.invokespecial 3, 3) := by decide +kernel
theorem dX4_init_4 : decode cX4_init 4 = .ok (.aload_n 0, 1) := by decide +kernel
theorem dX4_init_5 : decode cX4_init 5 = .ok (.bipush 6, 2) := by decide +kernel
theorem dX4_init_7 : decode cX4_init 7 = .ok (.newarray .int, 2) := by decide +kernel
theorem dX4_init_9 : decode cX4_init 9 = .ok (.putfield 9, 3) := by decide +kernel
theorem dX4_init_12 : decode cX4_init 12 = .ok (.aload_n 0, 1) := by decide +kernel
theorem dX4_init_13 : decode cX4_init 13 = .ok (.bipush 6, 2) := by decide +kernel
theorem dX4_init_15 : decode cX4_init 15 = .ok (.newarray .int, 2) := by decide +kernel
theorem dX4_init_17 : decode cX4_init 17 = .ok (.putfield 15, 3) := by decide +kernel
theorem dX4_init_20 : decode cX4_init 20 = .ok (.aload_n 0, 1) := by decide +kernel
theorem dX4_init_21 : decode cX4_init 21 = .ok (.bipush 6, 2) := by decide +kernel
theorem dX4_init_23 : decode cX4_init 23 = .ok (.newarray .boolean, 2) := by decide +kernel
theorem dX4_init_25 : decode cX4_init 25 = .ok (.putfield 18, 3) := by decide +kernel
theorem dX4_init_28 : decode cX4_init 28 = .ok (.return_, 1) := by decide +kernel
theorem dX4_add_0 : decode cX4_add 0 = .ok (.aload_n 0, 1) := by decide +kernel
theorem dX4_add_1 : decode cX4_add 1 = .ok (.getfield 22, 3) := by decide +kernel
theorem dX4_add_4 : decode cX4_add 4 = .ok (.bipush 6, 2) := by decide +kernel
theorem dX4_add_6 : decode cX4_add 6 = .ok (.if_icmp .lt 5, 3) := by decide +kernel
theorem dX4_add_9 : decode cX4_add 9 = .ok (.iconst 0, 1) := by decide +kernel
theorem dX4_add_10 : decode cX4_add 10 = .ok (.ireturn, 1) := by decide +kernel
theorem dX4_add_11 : decode cX4_add 11 = .ok (.aload_n 0, 1) := by decide +kernel
theorem dX4_add_12 : decode cX4_add 12 = .ok (.getfield 9, 3) := by decide +kernel
theorem dX4_add_15 : decode cX4_add 15 = .ok (.aload_n 0, 1) := by decide +kernel
theorem dX4_add_16 : decode cX4_add 16 = .ok (.getfield 22, 3) := by decide +kernel
theorem dX4_add_19 : decode cX4_add 19 = .ok (.iload_n 1, 1) := by decide +kernel
theorem dX4_add_20 : decode cX4_add 20 = .ok (.iastore, 1) := by decide +kernel
theorem dX4_add_21 : decode cX4_add 21 = .ok (.aload_n 0, 1) := by decide +kernel
theorem dX4_add_22 : decode cX4_add 22 = .ok (.getfield 15, 3) := by decide +kernel
theorem dX4_add_25 : decode cX4_add 25 = .ok (.aload_n 0, 1) := by decide +kernel
theorem dX4_add_26 : decode cX4_add 26 = .ok (.getfield 22, 3) := by decide +kernel
theorem dX4_add_29 : decode cX4_add 29 = .ok (.iload_n 2, 1) := by decide +kernel
theorem dX4_add_30 : decode cX4_add 30 = .ok (.iastore, 1) := by decide +kernel
theorem dX4_add_31 : decode cX4_add 31 = .ok (.aload_n 0, 1) := by decide +kernel
theorem dX4_add_32 : decode cX4_add 32 = .ok (.getfield 18, 3) := by decide +kernel
theorem dX4_add_35 : decode cX4_add 35 = .ok (.aload_n 0, 1) := by decide +kernel
theorem dX4_add_36 : decode cX4_add 36 = .ok (.getfield 22, 3) := by decide +kernel
theorem dX4_add_39 : decode cX4_add 39 = .ok (.iload_n 3, 1) := by decide +kernel
theorem dX4_add_40 : decode cX4_add 40 = .ok (.bastore, 1) := by decide +kernel
theorem dX4_add_41 : decode cX4_add 41 = .ok (.aload_n 0, 1) := by decide +kernel
theorem dX4_add_42 : decode cX4_add 42 = .ok (.dup, 1) := by decide +kernel
theorem dX4_add_43 : decode cX4_add 43 = .ok (.getfield 22, 3) := by decide +kernel
theorem dX4_add_46 : decode cX4_add 46 = .ok (.iconst 1, 1) := by decide +kernel
theorem dX4_add_47 : decode cX4_add 47 = .ok (.iadd, 1) := by decide +kernel
theorem dX4_add_48 : decode cX4_add 48 = .ok (.putfield 22, 3) := by decide +kernel
theorem dX4_add_51 : decode cX4_add 51 = .ok (.iconst 1, 1) := by decide +kernel
theorem dX4_add_52 : decode cX4_add 52 = .ok (.ireturn, 1) := by decide +kernel
theorem dX4_clear_0 : decode cX4_clear 0 = .ok (.aload_n 0, 1) := by decide +kernel
theorem dX4_clear_1 : decode cX4_clear 1 = .ok (.iconst 0, 1) := by decide +kernel
theorem dX4_clear_2 : decode cX4_clear 2 = .ok (.putfield 22, 3) := by decide +kernel
theorem dX4_clear_5 : decode cX4_clear 5 = .ok (.return_, 1) := by decide +kernel
theorem dX4_wouldHold_0 : decode cX4_wouldHold 0 = .ok (.iconst 0, 1) := by decide +kernel
theorem dX4_wouldHold_1 : decode cX4_wouldHold 1 = .ok (.istore 5, 2) := by decide +kernel
theorem dX4_wouldHold_3 : decode cX4_wouldHold 3 = .ok (.iload 5, 2) := by decide +kernel
theorem dX4_wouldHold_5 : decode cX4_wouldHold 5 = .ok (.aload_n 0, 1) := by decide +kernel
theorem dX4_wouldHold_6 : decode cX4_wouldHold 6 = .ok (.getfield 22, 3) := by decide +kernel
theorem dX4_wouldHold_9 : decode cX4_wouldHold 9 = .ok (.if_icmp .ge 55, 3) := by decide +kernel
theorem dX4_wouldHold_12 : decode cX4_wouldHold 12 = .ok (.aload_n 0, 1) := by decide +kernel
theorem dX4_wouldHold_13 : decode cX4_wouldHold 13 = .ok (.getfield 9, 3) := by decide +kernel
theorem dX4_wouldHold_16 : decode cX4_wouldHold 16 = .ok (.iload 5, 2) := by decide +kernel
theorem dX4_wouldHold_18 : decode cX4_wouldHold 18 = .ok (.iaload, 1) := by decide +kernel
theorem dX4_wouldHold_19 : decode cX4_wouldHold 19 = .ok (.iload_n 2, 1) := by decide +kernel
theorem dX4_wouldHold_20 : decode cX4_wouldHold 20 = .ok (.if_icmp .ne 38, 3) := by decide +kernel
theorem dX4_wouldHold_23 : decode cX4_wouldHold 23 = .ok (.aload_n 1, 1) := by decide +kernel
theorem dX4_wouldHold_24 : decode cX4_wouldHold 24 = .ok (.iload_n 3, 1) := by decide +kernel
theorem dX4_wouldHold_25 : decode cX4_wouldHold 25 = .ok (.iload_n 2, 1) := by decide +kernel
theorem dX4_wouldHold_26 : decode cX4_wouldHold 26 = .ok (.aload_n 0, 1) := by decide +kernel
theorem dX4_wouldHold_27 : decode cX4_wouldHold 27 = .ok (.getfield 15, 3) := by decide +kernel
theorem dX4_wouldHold_30 : decode cX4_wouldHold 30 = .ok (.iload 5, 2) := by decide +kernel
theorem dX4_wouldHold_32 : decode cX4_wouldHold 32 = .ok (.iaload, 1) := by decide +kernel
theorem dX4_wouldHold_33 : decode cX4_wouldHold 33 = .ok (.invokevirtual 26, 3) := by decide +kernel
theorem dX4_wouldHold_36 : decode cX4_wouldHold 36 = .ok (.iload 4, 2) := by decide +kernel
theorem dX4_wouldHold_38 : decode cX4_wouldHold 38 = .ok (.if_icmp .le 7, 3) := by decide +kernel
theorem dX4_wouldHold_41 : decode cX4_wouldHold 41 = .ok (.iconst 1, 1) := by decide +kernel
theorem dX4_wouldHold_42 : decode cX4_wouldHold 42 = .ok (.goto 4, 3) := by decide +kernel
theorem dX4_wouldHold_45 : decode cX4_wouldHold 45 = .ok (.iconst 0, 1) := by decide +kernel
theorem dX4_wouldHold_46 : decode cX4_wouldHold 46 = .ok (.aload_n 0, 1) := by decide +kernel
theorem dX4_wouldHold_47 : decode cX4_wouldHold 47 = .ok (.getfield 18, 3) := by decide +kernel
theorem dX4_wouldHold_50 : decode cX4_wouldHold 50 = .ok (.iload 5, 2) := by decide +kernel
theorem dX4_wouldHold_52 : decode cX4_wouldHold 52 = .ok (.baload, 1) := by decide +kernel
theorem dX4_wouldHold_53 : decode cX4_wouldHold 53 = .ok (.if_icmp .eq 5, 3) := by decide +kernel
theorem dX4_wouldHold_56 : decode cX4_wouldHold 56 = .ok (.iconst 0, 1) := by decide +kernel
theorem dX4_wouldHold_57 : decode cX4_wouldHold 57 = .ok (.ireturn, 1) := by decide +kernel
theorem dX4_wouldHold_58 : decode cX4_wouldHold 58 = .ok (.iinc 5 1, 3) := by decide +kernel
theorem dX4_wouldHold_61 : decode cX4_wouldHold 61 = .ok (.goto (-58), 3) := by decide +kernel
theorem dX4_wouldHold_64 : decode cX4_wouldHold 64 = .ok (.iconst 1, 1) := by decide +kernel
theorem dX4_wouldHold_65 : decode cX4_wouldHold 65 = .ok (.ireturn, 1) := by decide +kernel
theorem dX5_init_0 : decode cX5_init 0 = .ok (.aload_n 0, 1) := by decide +kernel
theorem dX5_init_1 : decode cX5_init 1 = .ok (.invokespecial 1, 3) := by decide +kernel
theorem dX5_init_4 : decode cX5_init 4 = .ok (.aload_n 0, 1) := by decide +kernel
theorem dX5_init_5 : decode cX5_init 5 = .ok (.aload_n 1, 1) := by decide +kernel
theorem dX5_init_6 : decode cX5_init 6 = .ok (.putfield 7, 3) := by decide +kernel
theorem dX5_init_9 : decode cX5_init 9 = .ok (.return_, 1) := by decide +kernel
theorem dX5_search_0 : decode cX5_search 0 = .ok (.aload_n 0, 1) := by decide +kernel
theorem dX5_search_1 : decode cX5_search 1 = .ok (.iconst (-1), 1) := by decide +kernel
theorem dX5_search_2 : decode cX5_search 2 = .ok (.putfield 13, 3) := by decide +kernel
theorem dX5_search_5 : decode cX5_search 5 = .ok (.aload_n 0, 1) := by decide +kernel
theorem dX5_search_6 : decode cX5_search 6 = .ok (.getfield 7, 3) := by decide +kernel
theorem dX5_search_9 : decode cX5_search 9 = .ok (.aload_n 1, 1) := by decide +kernel
theorem dX5_search_10 : decode cX5_search 10 = .ok (.invokevirtual 17, 3) := by decide +kernel
theorem dX5_search_13 : decode cX5_search 13 = .ok (.iconst 0, 1) := by decide +kernel
theorem dX5_search_14 : decode cX5_search 14 = .ok (.istore_n 2, 1) := by decide +kernel
theorem dX5_search_15 : decode cX5_search 15 = .ok (.iload_n 2, 1) := by decide +kernel
theorem dX5_search_16 : decode cX5_search 16 = .ok (.aload_n 0, 1) := by decide +kernel
theorem dX5_search_17 : decode cX5_search 17 = .ok (.getfield 7, 3) := by decide +kernel
theorem dX5_search_20 : decode cX5_search 20 = .ok (.getfield 23, 3) := by decide +kernel
theorem dX5_search_23 : decode cX5_search 23 = .ok (.getfield 27, 3) := by decide +kernel
theorem dX5_search_26 : decode cX5_search 26 = .ok (.if_icmp .ge 84, 3) := by decide +kernel
theorem dX5_search_29 : decode cX5_search 29 = .ok (.iload_n 2, 1) := by decide +kernel
theorem dX5_search_30 : decode cX5_search 30 = .ok (.iconst 1, 1) := by decide +kernel
theorem dX5_search_31 : decode cX5_search 31 = .ok (.iadd, 1) := by decide +kernel
theorem dX5_search_32 : decode cX5_search 32 = .ok (.istore_n 3, 1) := by decide +kernel
theorem dX5_search_33 : decode cX5_search 33 = .ok (.iload_n 3, 1) := by decide +kernel
theorem dX5_search_34 : decode cX5_search 34 = .ok (.aload_n 0, 1) := by decide +kernel
theorem dX5_search_35 : decode cX5_search 35 = .ok (.getfield 7, 3) := by decide +kernel
theorem dX5_search_38 : decode cX5_search 38 = .ok (.getfield 23, 3) := by decide +kernel
theorem dX5_search_41 : decode cX5_search 41 = .ok (.getfield 27, 3) := by decide +kernel
theorem dX5_search_44 : decode cX5_search 44 = .ok (.if_icmp .ge 60, 3) := by decide +kernel
theorem dX5_search_47 : decode cX5_search 47 = .ok (.aload_n 0, 1) := by decide +kernel
theorem dX5_search_48 : decode cX5_search 48 = .ok (.getfield 7, 3) := by decide +kernel
theorem dX5_search_51 : decode cX5_search 51 = .ok (.getfield 32, 3) := by decide +kernel
theorem dX5_search_54 : decode cX5_search 54 = .ok (.iload_n 2, 1) := by decide +kernel
theorem dX5_search_55 : decode cX5_search 55 = .ok (.baload, 1) := by decide +kernel
theorem dX5_search_56 : decode cX5_search 56 = .ok (.ifCond .ne 42, 3) := by decide +kernel
theorem dX5_search_59 : decode cX5_search 59 = .ok (.aload_n 0, 1) := by decide +kernel
theorem dX5_search_60 : decode cX5_search 60 = .ok (.getfield 7, 3) := by decide +kernel
theorem dX5_search_63 : decode cX5_search 63 = .ok (.getfield 32, 3) := by decide +kernel
theorem dX5_search_66 : decode cX5_search 66 = .ok (.iload_n 3, 1) := by decide +kernel
theorem dX5_search_67 : decode cX5_search 67 = .ok (.baload, 1) := by decide +kernel
theorem dX5_search_68 : decode cX5_search 68 = .ok (.ifCond .ne 30, 3) := by decide +kernel
theorem dX5_search_71 : decode cX5_search 71 = .ok (.aload_n 0, 1) := by decide +kernel
theorem dX5_search_72 : decode cX5_search 72 = .ok (.getfield 7, 3) := by decide +kernel
theorem dX5_search_75 : decode cX5_search 75 = .ok (.getfield 36, 3) := by decide +kernel
theorem dX5_search_78 : decode cX5_search 78 = .ok (.iload_n 2, 1) := by decide +kernel
theorem dX5_search_79 : decode cX5_search 79 = .ok (.iaload, 1) := by decide +kernel
theorem dX5_search_80 : decode cX5_search 80 = .ok (.aload_n 0, 1) := by decide +kernel
theorem dX5_search_81 : decode cX5_search 81 = .ok (.getfield 7, 3) := by decide +kernel
theorem dX5_search_84 : decode cX5_search 84 = .ok (.getfield 36, 3) := by decide +kernel
theorem dX5_search_87 : decode cX5_search 87 = .ok (.iload_n 3, 1) := by decide +kernel
theorem dX5_search_88 : decode cX5_search 88 = .ok (.iaload, 1) := by decide +kernel
theorem dX5_search_89 : decode cX5_search 89 = .ok (.if_icmp .eq 9, 3) := by decide +kernel
theorem dX5_search_92 : decode cX5_search 92 = .ok (.aload_n 0, 1) := by decide +kernel
theorem dX5_search_93 : decode cX5_search 93 = .ok (.iload_n 2, 1) := by decide +kernel
theorem dX5_search_94 : decode cX5_search 94 = .ok (.iload_n 3, 1) := by decide +kernel
theorem dX5_search_95 : decode cX5_search 95 = .ok (.invokevirtual 40, 3) := by decide +kernel
theorem dX5_search_98 : decode cX5_search 98 = .ok (.iinc 3 1, 3) := by decide +kernel
theorem dX5_search_101 : decode cX5_search 101 = .ok (.goto (-68), 3) := by decide +kernel
theorem dX5_search_104 : decode cX5_search 104 = .ok (.iinc 2 1, 3) := by decide +kernel
theorem dX5_search_107 : decode cX5_search 107 = .ok (.goto (-92), 3) := by decide +kernel
theorem dX5_search_110 : decode cX5_search 110 = .ok (.return_, 1) := by decide +kernel
theorem dX5_takeIfBetter_0 : decode cX5_takeIfBetter 0 = .ok (.aload_n 0, 1) := by decide +kernel
theorem dX5_takeIfBetter_1 : decode cX5_takeIfBetter 1 = .ok (.iload_n 1, 1) := by decide +kernel
theorem dX5_takeIfBetter_2 : decode cX5_takeIfBetter 2 = .ok (.iload_n 2, 1) := by decide +kernel
theorem dX5_takeIfBetter_3 : decode cX5_takeIfBetter 3 = .ok (.invokevirtual 44, 3) := by decide +kernel
theorem dX5_takeIfBetter_6 : decode cX5_takeIfBetter 6 = .ok (.aload_n 0, 1) := by decide +kernel
theorem dX5_takeIfBetter_7 : decode cX5_takeIfBetter 7 = .ok (.getfield 7, 3) := by decide +kernel
theorem dX5_takeIfBetter_10 : decode cX5_takeIfBetter 10 = .ok (.invokevirtual 47, 3) := by decide +kernel
theorem dX5_takeIfBetter_13 : decode cX5_takeIfBetter 13 = .ok (.istore_n 3, 1) := by decide +kernel
theorem dX5_takeIfBetter_14 : decode cX5_takeIfBetter 14 = .ok (.aload_n 0, 1) := by decide +kernel
theorem dX5_takeIfBetter_15 : decode cX5_takeIfBetter 15 = .ok (.iload_n 1, 1) := by decide +kernel
theorem dX5_takeIfBetter_16 : decode cX5_takeIfBetter 16 = .ok (.iload_n 2, 1) := by decide +kernel
theorem dX5_takeIfBetter_17 : decode cX5_takeIfBetter 17 = .ok (.invokevirtual 44, 3) := by decide +kernel
theorem dX5_takeIfBetter_20 : decode cX5_takeIfBetter 20 = .ok (.iload_n 3, 1) := by decide +kernel
theorem dX5_takeIfBetter_21 : decode cX5_takeIfBetter 21 = .ok (.aload_n 0, 1) := by decide +kernel
theorem dX5_takeIfBetter_22 : decode cX5_takeIfBetter 22 = .ok (.getfield 13, 3) := by decide +kernel
theorem dX5_takeIfBetter_25 : decode cX5_takeIfBetter 25 = .ok (.if_icmp .le 18, 3) := by decide +kernel
theorem dX5_takeIfBetter_28 : decode cX5_takeIfBetter 28 = .ok (.aload_n 0, 1) := by decide +kernel
theorem dX5_takeIfBetter_29 : decode cX5_takeIfBetter 29 = .ok (.iload_n 3, 1) := by decide +kernel
theorem dX5_takeIfBetter_30 : decode cX5_takeIfBetter 30 = .ok (.putfield 13, 3) := by decide +kernel
theorem dX5_takeIfBetter_33 : decode cX5_takeIfBetter 33 = .ok (.aload_n 0, 1) := by decide +kernel
theorem dX5_takeIfBetter_34 : decode cX5_takeIfBetter 34 = .ok (.bipush 10, 2) := by decide +kernel
theorem dX5_takeIfBetter_36 : decode cX5_takeIfBetter 36 = .ok (.iload_n 1, 1) := by decide +kernel
theorem dX5_takeIfBetter_37 : decode cX5_takeIfBetter 37 = .ok (.imul, 1) := by decide +kernel
theorem dX5_takeIfBetter_38 : decode cX5_takeIfBetter 38 = .ok (.iload_n 2, 1) := by decide +kernel
theorem dX5_takeIfBetter_39 : decode cX5_takeIfBetter 39 = .ok (.iadd, 1) := by decide +kernel
theorem dX5_takeIfBetter_40 : decode cX5_takeIfBetter 40 = .ok (.putfield 51, 3) := by decide +kernel
theorem dX5_takeIfBetter_43 : decode cX5_takeIfBetter 43 = .ok (.return_, 1) := by decide +kernel
theorem dX5_changePlaces_0 : decode cX5_changePlaces 0 = .ok (.aload_n 0, 1) := by decide +kernel
theorem dX5_changePlaces_1 : decode cX5_changePlaces 1 = .ok (.getfield 7, 3) := by decide +kernel
theorem dX5_changePlaces_4 : decode cX5_changePlaces 4 = .ok (.getfield 36, 3) := by decide +kernel
theorem dX5_changePlaces_7 : decode cX5_changePlaces 7 = .ok (.iload_n 1, 1) := by decide +kernel
theorem dX5_changePlaces_8 : decode cX5_changePlaces 8 = .ok (.iaload, 1) := by decide +kernel
theorem dX5_changePlaces_9 : decode cX5_changePlaces 9 = .ok (.istore_n 3, 1) := by decide +kernel
theorem dX5_changePlaces_10 : decode cX5_changePlaces 10 = .ok (.aload_n 0, 1) := by decide +kernel
theorem dX5_changePlaces_11 : decode cX5_changePlaces 11 = .ok (.getfield 7, 3) := by decide +kernel
theorem dX5_changePlaces_14 : decode cX5_changePlaces 14 = .ok (.getfield 36, 3) := by decide +kernel
theorem dX5_changePlaces_17 : decode cX5_changePlaces 17 = .ok (.iload_n 1, 1) := by decide +kernel
theorem dX5_changePlaces_18 : decode cX5_changePlaces 18 = .ok (.aload_n 0, 1) := by decide +kernel
theorem dX5_changePlaces_19 : decode cX5_changePlaces 19 = .ok (.getfield 7, 3) := by decide +kernel
theorem dX5_changePlaces_22 : decode cX5_changePlaces 22 = .ok (.getfield 36, 3) := by decide +kernel
theorem dX5_changePlaces_25 : decode cX5_changePlaces 25 = .ok (.iload_n 2, 1) := by decide +kernel
theorem dX5_changePlaces_26 : decode cX5_changePlaces 26 = .ok (.iaload, 1) := by decide +kernel
theorem dX5_changePlaces_27 : decode cX5_changePlaces 27 = .ok (.iastore, 1) := by decide +kernel
theorem dX5_changePlaces_28 : decode cX5_changePlaces 28 = .ok (.aload_n 0, 1) := by decide +kernel
theorem dX5_changePlaces_29 : decode cX5_changePlaces 29 = .ok (.getfield 7, 3) := by decide +kernel
theorem dX5_changePlaces_32 : decode cX5_changePlaces 32 = .ok (.getfield 36, 3) := by decide +kernel
theorem dX5_changePlaces_35 : decode cX5_changePlaces 35 = .ok (.iload_n 2, 1) := by decide +kernel
theorem dX5_changePlaces_36 : decode cX5_changePlaces 36 = .ok (.iload_n 3, 1) := by decide +kernel
theorem dX5_changePlaces_37 : decode cX5_changePlaces 37 = .ok (.iastore, 1) := by decide +kernel
theorem dX5_changePlaces_38 : decode cX5_changePlaces 38 = .ok (.return_, 1) := by decide +kernel
theorem dX6_init_0 : decode cX6_init 0 = .ok (.aload_n 0, 1) := by decide +kernel
theorem dX6_init_1 : decode cX6_init 1 = .ok (.invokespecial 3, 3) := by decide +kernel
theorem dX6_init_4 : decode cX6_init 4 = .ok (.aload_n 0, 1) := by decide +kernel
theorem dX6_init_5 : decode cX6_init 5 = .ok (.sipush 200, 3) := by decide +kernel
theorem dX6_init_8 : decode cX6_init 8 = .ok (.newarray .char, 2) := by decide +kernel
theorem dX6_init_10 : decode cX6_init 10 = .ok (.putfield 9, 3) := by decide +kernel
theorem dX6_init_13 : decode cX6_init 13 = .ok (.aload_n 0, 1) := by decide +kernel
theorem dX6_init_14 : decode cX6_init 14 = .ok (.iconst 4, 1) := by decide +kernel
theorem dX6_init_15 : decode cX6_init 15 = .ok (.newarray .int, 2) := by decide +kernel
theorem dX6_init_17 : decode cX6_init 17 = .ok (.putfield 15, 3) := by decide +kernel
theorem dX6_init_20 : decode cX6_init 20 = .ok (.return_, 1) := by decide +kernel
theorem dX6_add_0 : decode cX6_add 0 = .ok (.aload_n 0, 1) := by decide +kernel
theorem dX6_add_1 : decode cX6_add 1 = .ok (.getfield 19, 3) := by decide +kernel
theorem dX6_add_4 : decode cX6_add 4 = .ok (.sipush 200, 3) := by decide +kernel
theorem dX6_add_7 : decode cX6_add 7 = .ok (.if_icmp .lt 5, 3) := by decide +kernel
theorem dX6_add_10 : decode cX6_add 10 = .ok (.iconst 0, 1) := by decide +kernel
theorem dX6_add_11 : decode cX6_add 11 = .ok (.ireturn, 1) := by decide +kernel
theorem dX6_add_12 : decode cX6_add 12 = .ok (.aload_n 0, 1) := by decide +kernel
theorem dX6_add_13 : decode cX6_add 13 = .ok (.getfield 9, 3) := by decide +kernel
theorem dX6_add_16 : decode cX6_add 16 = .ok (.aload_n 0, 1) := by decide +kernel
theorem dX6_add_17 : decode cX6_add 17 = .ok (.getfield 19, 3) := by decide +kernel
theorem dX6_add_20 : decode cX6_add 20 = .ok (.iload_n 1, 1) := by decide +kernel
theorem dX6_add_21 : decode cX6_add 21 = .ok (.castore, 1) := by decide +kernel
theorem dX6_add_22 : decode cX6_add 22 = .ok (.aload_n 0, 1) := by decide +kernel
theorem dX6_add_23 : decode cX6_add 23 = .ok (.dup, 1) := by decide +kernel
theorem dX6_add_24 : decode cX6_add 24 = .ok (.getfield 19, 3) := by decide +kernel
theorem dX6_add_27 : decode cX6_add 27 = .ok (.iconst 1, 1) := by decide +kernel
theorem dX6_add_28 : decode cX6_add 28 = .ok (.iadd, 1) := by decide +kernel
theorem dX6_add_29 : decode cX6_add 29 = .ok (.putfield 19, 3) := by decide +kernel
theorem dX6_add_32 : decode cX6_add 32 = .ok (.iconst 1, 1) := by decide +kernel
theorem dX6_add_33 : decode cX6_add 33 = .ok (.ireturn, 1) := by decide +kernel
theorem dX6_clear_0 : decode cX6_clear 0 = .ok (.aload_n 0, 1) := by decide +kernel
theorem dX6_clear_1 : decode cX6_clear 1 = .ok (.iconst 0, 1) := by decide +kernel
theorem dX6_clear_2 : decode cX6_clear 2 = .ok (.putfield 19, 3) := by decide +kernel
theorem dX6_clear_5 : decode cX6_clear 5 = .ok (.return_, 1) := by decide +kernel
theorem dX6_readInto_0 : decode cX6_readInto 0 = .ok (.aload_n 1, 1) := by decide +kernel
theorem dX6_readInto_1 : decode cX6_readInto 1 = .ok (.getfield 23, 3) := by decide +kernel
theorem dX6_readInto_4 : decode cX6_readInto 4 = .ok (.invokevirtual 29, 3) := by decide +kernel
theorem dX6_readInto_7 : decode cX6_readInto 7 = .ok (.aload_n 1, 1) := by decide +kernel
theorem dX6_readInto_8 : decode cX6_readInto 8 = .ok (.iconst 0, 1) := by decide +kernel
theorem dX6_readInto_9 : decode cX6_readInto 9 = .ok (.putfield 34, 3) := by decide +kernel
theorem dX6_readInto_12 : decode cX6_readInto 12 = .ok (.aload_n 0, 1) := by decide +kernel
theorem dX6_readInto_13 : decode cX6_readInto 13 = .ok (.iconst 0, 1) := by decide +kernel
theorem dX6_readInto_14 : decode cX6_readInto 14 = .ok (.putfield 37, 3) := by decide +kernel
theorem dX6_readInto_17 : decode cX6_readInto 17 = .ok (.iconst 0, 1) := by decide +kernel
theorem dX6_readInto_18 : decode cX6_readInto 18 = .ok (.istore_n 2, 1) := by decide +kernel
theorem dX6_readInto_19 : decode cX6_readInto 19 = .ok (.iload_n 2, 1) := by decide +kernel
theorem dX6_readInto_20 : decode cX6_readInto 20 = .ok (.sipush 200, 3) := by decide +kernel
theorem dX6_readInto_23 : decode cX6_readInto 23 = .ok (.if_icmp .ge 35, 3) := by decide +kernel
theorem dX6_readInto_26 : decode cX6_readInto 26 = .ok (.aload_n 0, 1) := by decide +kernel
theorem dX6_readInto_27 : decode cX6_readInto 27 = .ok (.getfield 37, 3) := by decide +kernel
theorem dX6_readInto_30 : decode cX6_readInto 30 = .ok (.aload_n 0, 1) := by decide +kernel
theorem dX6_readInto_31 : decode cX6_readInto 31 = .ok (.getfield 19, 3) := by decide +kernel
theorem dX6_readInto_34 : decode cX6_readInto 34 = .ok (.if_icmp .ge 24, 3) := by decide +kernel
theorem dX6_readInto_37 : decode cX6_readInto 37 = .ok (.aload_n 0, 1) := by decide +kernel
theorem dX6_readInto_38 : decode cX6_readInto 38 = .ok (.getfield 37, 3) := by decide +kernel
theorem dX6_readInto_41 : decode cX6_readInto 41 = .ok (.istore_n 3, 1) := by decide +kernel
theorem dX6_readInto_42 : decode cX6_readInto 42 = .ok (.aload_n 0, 1) := by decide +kernel
theorem dX6_readInto_43 : decode cX6_readInto 43 = .ok (.aload_n 1, 1) := by decide +kernel
theorem dX6_readInto_44 : decode cX6_readInto 44 = .ok (.invokevirtual 40, 3) := by decide +kernel
theorem dX6_readInto_47 : decode cX6_readInto 47 = .ok (.ifCond .ne 5, 3) := by decide +kernel
theorem dX6_readInto_50 : decode cX6_readInto 50 = .ok (.iload_n 3, 1) := by decide +kernel
theorem dX6_readInto_51 : decode cX6_readInto 51 = .ok (.ireturn, 1) := by decide +kernel
theorem dX6_readInto_52 : decode cX6_readInto 52 = .ok (.iinc 2 1, 3) := by decide +kernel
theorem dX6_readInto_55 : decode cX6_readInto 55 = .ok (.goto (-36), 3) := by decide +kernel
theorem dX6_readInto_58 : decode cX6_readInto 58 = .ok (.bipush (-4), 2) := by decide +kernel
theorem dX6_readInto_60 : decode cX6_readInto 60 = .ok (.ireturn, 1) := by decide +kernel
theorem dX6_readItem_0 : decode cX6_readItem 0 = .ok (.aload_n 0, 1) := by decide +kernel
theorem dX6_readItem_1 : decode cX6_readItem 1 = .ok (.getfield 37, 3) := by decide +kernel
theorem dX6_readItem_4 : decode cX6_readItem 4 = .ok (.ifCond .ne 7, 3) := by decide +kernel
theorem dX6_readItem_7 : decode cX6_readItem 7 = .ok (.iconst 1, 1) := by decide +kernel
theorem dX6_readItem_8 : decode cX6_readItem 8 = .ok (.goto 4, 3) := by decide +kernel
theorem dX6_readItem_11 : decode cX6_readItem 11 = .ok (.iconst 0, 1) := by decide +kernel
theorem dX6_readItem_12 : decode cX6_readItem 12 = .ok (.istore_n 2, 1) := by decide +kernel
theorem dX6_readItem_13 : decode cX6_readItem 13 = .ok (.aload_n 0, 1) := by decide +kernel
theorem dX6_readItem_14 : decode cX6_readItem 14 = .ok (.getfield 9, 3) := by decide +kernel
theorem dX6_readItem_17 : decode cX6_readItem 17 = .ok (.aload_n 0, 1) := by decide +kernel
theorem dX6_readItem_18 : decode cX6_readItem 18 = .ok (.getfield 37, 3) := by decide +kernel
theorem dX6_readItem_21 : decode cX6_readItem 21 = .ok (.caload, 1) := by decide +kernel
theorem dX6_readItem_22 : decode cX6_readItem 22 = .ok (.istore_n 3, 1) := by decide +kernel
theorem dX6_readItem_23 : decode cX6_readItem 23 = .ok (.aload_n 0, 1) := by decide +kernel
theorem dX6_readItem_24 : decode cX6_readItem 24 = .ok (.dup, 1) := by decide +kernel
theorem dX6_readItem_25 : decode cX6_readItem 25 = .ok (.getfield 37, 3) := by decide +kernel
theorem dX6_readItem_28 : decode cX6_readItem 28 = .ok (.iconst 1, 1) := by decide +kernel
theorem dX6_readItem_29 : decode cX6_readItem 29 = .ok (.iadd, 1) := by decide +kernel
theorem dX6_readItem_30 : decode cX6_readItem 30 = .ok (.putfield 37, 3) := by decide +kernel
theorem dX6_readItem_33 : decode cX6_readItem 33 = .ok (.iload_n 3, 1) := by decide +kernel
theorem dX6_readItem_34 : decode cX6_readItem 34 = .ok (.lookupswitch 110 #[(104, 34), (112, 63), (119, 85)], 34) := by decide +kernel
theorem dX6_readItem_68 : decode cX6_readItem 68 = .ok (.iload_n 2, 1) := by decide +kernel
theorem dX6_readItem_69 : decode cX6_readItem 69 = .ok (.ifCond .eq 26, 3) := by decide +kernel
theorem dX6_readItem_72 : decode cX6_readItem 72 = .ok (.aload_n 0, 1) := by decide +kernel
theorem dX6_readItem_73 : decode cX6_readItem 73 = .ok (.iconst 1, 1) := by decide +kernel
theorem dX6_readItem_74 : decode cX6_readItem 74 = .ok (.invokevirtual 44, 3) := by decide +kernel
theorem dX6_readItem_77 : decode cX6_readItem 77 = .ok (.ifCond .eq 18, 3) := by decide +kernel
theorem dX6_readItem_80 : decode cX6_readItem 80 = .ok (.aload_n 0, 1) := by decide +kernel
theorem dX6_readItem_81 : decode cX6_readItem 81 = .ok (.aload_n 1, 1) := by decide +kernel
theorem dX6_readItem_82 : decode cX6_readItem 82 = .ok (.getfield 23, 3) := by decide +kernel
theorem dX6_readItem_85 : decode cX6_readItem 85 = .ok (.invokevirtual 48, 3) := by decide +kernel
theorem dX6_readItem_88 : decode cX6_readItem 88 = .ok (.ifCond .eq 7, 3) := by decide +kernel
theorem dX6_readItem_91 : decode cX6_readItem 91 = .ok (.iconst 1, 1) := by decide +kernel
theorem dX6_readItem_92 : decode cX6_readItem 92 = .ok (.goto 4, 3) := by decide +kernel
theorem dX6_readItem_95 : decode cX6_readItem 95 = .ok (.iconst 0, 1) := by decide +kernel
theorem dX6_readItem_96 : decode cX6_readItem 96 = .ok (.ireturn, 1) := by decide +kernel
theorem dX6_readItem_97 : decode cX6_readItem 97 = .ok (.aload_n 0, 1) := by decide +kernel
theorem dX6_readItem_98 : decode cX6_readItem 98 = .ok (.iconst 4, 1) := by decide +kernel
theorem dX6_readItem_99 : decode cX6_readItem 99 = .ok (.invokevirtual 44, 3) := by decide +kernel
theorem dX6_readItem_102 : decode cX6_readItem 102 = .ok (.ifCond .eq 15, 3) := by decide +kernel
theorem dX6_readItem_105 : decode cX6_readItem 105 = .ok (.aload_n 0, 1) := by decide +kernel
theorem dX6_readItem_106 : decode cX6_readItem 106 = .ok (.aload_n 1, 1) := by decide +kernel
theorem dX6_readItem_107 : decode cX6_readItem 107 = .ok (.invokevirtual 52, 3) := by decide +kernel
theorem dX6_readItem_110 : decode cX6_readItem 110 = .ok (.ifCond .eq 7, 3) := by decide +kernel
theorem dX6_readItem_113 : decode cX6_readItem 113 = .ok (.iconst 1, 1) := by decide +kernel
theorem dX6_readItem_114 : decode cX6_readItem 114 = .ok (.goto 4, 3) := by decide +kernel
theorem dX6_readItem_117 : decode cX6_readItem 117 = .ok (.iconst 0, 1) := by decide +kernel
theorem dX6_readItem_118 : decode cX6_readItem 118 = .ok (.ireturn, 1) := by decide +kernel
theorem dX6_readItem_119 : decode cX6_readItem 119 = .ok (.aload_n 0, 1) := by decide +kernel
theorem dX6_readItem_120 : decode cX6_readItem 120 = .ok (.iconst 2, 1) := by decide +kernel
theorem dX6_readItem_121 : decode cX6_readItem 121 = .ok (.invokevirtual 44, 3) := by decide +kernel
theorem dX6_readItem_124 : decode cX6_readItem 124 = .ok (.ifCond .eq 18, 3) := by decide +kernel
theorem dX6_readItem_127 : decode cX6_readItem 127 = .ok (.aload_n 0, 1) := by decide +kernel
theorem dX6_readItem_128 : decode cX6_readItem 128 = .ok (.aload_n 1, 1) := by decide +kernel
theorem dX6_readItem_129 : decode cX6_readItem 129 = .ok (.getfield 23, 3) := by decide +kernel
theorem dX6_readItem_132 : decode cX6_readItem 132 = .ok (.invokevirtual 55, 3) := by decide +kernel
theorem dX6_readItem_135 : decode cX6_readItem 135 = .ok (.ifCond .eq 7, 3) := by decide +kernel
theorem dX6_readItem_138 : decode cX6_readItem 138 = .ok (.iconst 1, 1) := by decide +kernel
theorem dX6_readItem_139 : decode cX6_readItem 139 = .ok (.goto 4, 3) := by decide +kernel
theorem dX6_readItem_142 : decode cX6_readItem 142 = .ok (.iconst 0, 1) := by decide +kernel
theorem dX6_readItem_143 : decode cX6_readItem 143 = .ok (.ireturn, 1) := by decide +kernel
theorem dX6_readItem_144 : decode cX6_readItem 144 = .ok (.iconst 0, 1) := by decide +kernel
theorem dX6_readItem_145 : decode cX6_readItem 145 = .ok (.ireturn, 1) := by decide +kernel
theorem dX6_readNumbers_0 : decode cX6_readNumbers 0 = .ok (.iconst 0, 1) := by decide +kernel
theorem dX6_readNumbers_1 : decode cX6_readNumbers 1 = .ok (.istore_n 2, 1) := by decide +kernel
theorem dX6_readNumbers_2 : decode cX6_readNumbers 2 = .ok (.iload_n 2, 1) := by decide +kernel
theorem dX6_readNumbers_3 : decode cX6_readNumbers 3 = .ok (.iload_n 1, 1) := by decide +kernel
theorem dX6_readNumbers_4 : decode cX6_readNumbers 4 = .ok (.if_icmp .ge 78, 3) := by decide +kernel
theorem dX6_readNumbers_7 : decode cX6_readNumbers 7 = .ok (.aload_n 0, 1) := by decide +kernel
theorem dX6_readNumbers_8 : decode cX6_readNumbers 8 = .ok (.invokevirtual 58, 3) := by decide +kernel
theorem dX6_readNumbers_11 : decode cX6_readNumbers 11 = .ok (.istore_n 3, 1) := by decide +kernel
theorem dX6_readNumbers_12 : decode cX6_readNumbers 12 = .ok (.iload_n 2, 1) := by decide +kernel
theorem dX6_readNumbers_13 : decode cX6_readNumbers 13 = .ok (.iconst 1, 1) := by decide +kernel
theorem dX6_readNumbers_14 : decode cX6_readNumbers 14 = .ok (.iadd, 1) := by decide +kernel
theorem dX6_readNumbers_15 : decode cX6_readNumbers 15 = .ok (.iload_n 1, 1) := by decide +kernel
theorem dX6_readNumbers_16 : decode cX6_readNumbers 16 = .ok (.if_icmp .ge 8, 3) := by decide +kernel
theorem dX6_readNumbers_19 : decode cX6_readNumbers 19 = .ok (.bipush 44, 2) := by decide +kernel
theorem dX6_readNumbers_21 : decode cX6_readNumbers 21 = .ok (.goto 5, 3) := by decide +kernel
theorem dX6_readNumbers_24 : decode cX6_readNumbers 24 = .ok (.bipush 59, 2) := by decide +kernel
theorem dX6_readNumbers_26 : decode cX6_readNumbers 26 = .ok (.istore 4, 2) := by decide +kernel
theorem dX6_readNumbers_28 : decode cX6_readNumbers 28 = .ok (.iload_n 3, 1) := by decide +kernel
theorem dX6_readNumbers_29 : decode cX6_readNumbers 29 = .ok (.ifCond .lt 28, 3) := by decide +kernel
theorem dX6_readNumbers_32 : decode cX6_readNumbers 32 = .ok (.aload_n 0, 1) := by decide +kernel
theorem dX6_readNumbers_33 : decode cX6_readNumbers 33 = .ok (.getfield 37, 3) := by decide +kernel
theorem dX6_readNumbers_36 : decode cX6_readNumbers 36 = .ok (.aload_n 0, 1) := by decide +kernel
theorem dX6_readNumbers_37 : decode cX6_readNumbers 37 = .ok (.getfield 19, 3) := by decide +kernel
theorem dX6_readNumbers_40 : decode cX6_readNumbers 40 = .ok (.if_icmp .ge 17, 3) := by decide +kernel
theorem dX6_readNumbers_43 : decode cX6_readNumbers 43 = .ok (.aload_n 0, 1) := by decide +kernel
theorem dX6_readNumbers_44 : decode cX6_readNumbers 44 = .ok (.getfield 9, 3) := by decide +kernel
theorem dX6_readNumbers_47 : decode cX6_readNumbers 47 = .ok (.aload_n 0, 1) := by decide +kernel
theorem dX6_readNumbers_48 : decode cX6_readNumbers 48 = .ok (.getfield 37, 3) := by decide +kernel
theorem dX6_readNumbers_51 : decode cX6_readNumbers 51 = .ok (.caload, 1) := by decide +kernel
theorem dX6_readNumbers_52 : decode cX6_readNumbers 52 = .ok (.iload 4, 2) := by decide +kernel
theorem dX6_readNumbers_54 : decode cX6_readNumbers 54 = .ok (.if_icmp .eq 5, 3) := by decide +kernel
theorem dX6_readNumbers_57 : decode cX6_readNumbers 57 = .ok (.iconst 0, 1) := by decide +kernel
theorem dX6_readNumbers_58 : decode cX6_readNumbers 58 = .ok (.ireturn, 1) := by decide +kernel
theorem dX6_readNumbers_59 : decode cX6_readNumbers 59 = .ok (.aload_n 0, 1) := by decide +kernel
theorem dX6_readNumbers_60 : decode cX6_readNumbers 60 = .ok (.getfield 15, 3) := by decide +kernel
theorem dX6_readNumbers_63 : decode cX6_readNumbers 63 = .ok (.iload_n 2, 1) := by decide +kernel
theorem dX6_readNumbers_64 : decode cX6_readNumbers 64 = .ok (.iload_n 3, 1) := by decide +kernel
theorem dX6_readNumbers_65 : decode cX6_readNumbers 65 = .ok (.iastore, 1) := by decide +kernel
theorem dX6_readNumbers_66 : decode cX6_readNumbers 66 = .ok (.aload_n 0, 1) := by decide +kernel
theorem dX6_readNumbers_67 : decode cX6_readNumbers 67 = .ok (.dup, 1) := by decide +kernel
theorem dX6_readNumbers_68 : decode cX6_readNumbers 68 = .ok (.getfield 37, 3) := by decide +kernel
theorem dX6_readNumbers_71 : decode cX6_readNumbers 71 = .ok (.iconst 1, 1) := by decide +kernel
theorem dX6_readNumbers_72 : decode cX6_readNumbers 72 = .ok (.iadd, 1) := by decide +kernel
theorem dX6_readNumbers_73 : decode cX6_readNumbers 73 = .ok (.putfield 37, 3) := by decide +kernel
theorem dX6_readNumbers_76 : decode cX6_readNumbers 76 = .ok (.iinc 2 1, 3) := by decide +kernel
theorem dX6_readNumbers_79 : decode cX6_readNumbers 79 = .ok (.goto (-77), 3) := by decide +kernel
theorem dX6_readNumbers_82 : decode cX6_readNumbers 82 = .ok (.iconst 1, 1) := by decide +kernel
theorem dX6_readNumbers_83 : decode cX6_readNumbers 83 = .ok (.ireturn, 1) := by decide +kernel
theorem dX6_readNumber_0 : decode cX6_readNumber 0 = .ok (.aload_n 0, 1) := by decide +kernel
theorem dX6_readNumber_1 : decode cX6_readNumber 1 = .ok (.aload_n 0, 1) := by decide +kernel
theorem dX6_readNumber_2 : decode cX6_readNumber 2 = .ok (.getfield 37, 3) := by decide +kernel
theorem dX6_readNumber_5 : decode cX6_readNumber 5 = .ok (.invokevirtual 62, 3) := by decide +kernel
theorem dX6_readNumber_8 : decode cX6_readNumber 8 = .ok (.istore_n 1, 1) := by decide +kernel
theorem dX6_readNumber_9 : decode cX6_readNumber 9 = .ok (.iload_n 1, 1) := by decide +kernel
theorem dX6_readNumber_10 : decode cX6_readNumber 10 = .ok (.ifCond .ge 5, 3) := by decide +kernel
theorem dX6_readNumber_13 : decode cX6_readNumber 13 = .ok (.iconst (-1), 1) := by decide +kernel
theorem dX6_readNumber_14 : decode cX6_readNumber 14 = .ok (.ireturn, 1) := by decide +kernel
theorem dX6_readNumber_15 : decode cX6_readNumber 15 = .ok (.aload_n 0, 1) := by decide +kernel
theorem dX6_readNumber_16 : decode cX6_readNumber 16 = .ok (.dup, 1) := by decide +kernel
theorem dX6_readNumber_17 : decode cX6_readNumber 17 = .ok (.getfield 37, 3) := by decide +kernel
theorem dX6_readNumber_20 : decode cX6_readNumber 20 = .ok (.iconst 1, 1) := by decide +kernel
theorem dX6_readNumber_21 : decode cX6_readNumber 21 = .ok (.iadd, 1) := by decide +kernel
theorem dX6_readNumber_22 : decode cX6_readNumber 22 = .ok (.putfield 37, 3) := by decide +kernel
theorem dX6_readNumber_25 : decode cX6_readNumber 25 = .ok (.aload_n 0, 1) := by decide +kernel
theorem dX6_readNumber_26 : decode cX6_readNumber 26 = .ok (.aload_n 0, 1) := by decide +kernel
theorem dX6_readNumber_27 : decode cX6_readNumber 27 = .ok (.getfield 37, 3) := by decide +kernel
theorem dX6_readNumber_30 : decode cX6_readNumber 30 = .ok (.invokevirtual 62, 3) := by decide +kernel
theorem dX6_readNumber_33 : decode cX6_readNumber 33 = .ok (.istore_n 2, 1) := by decide +kernel
theorem dX6_readNumber_34 : decode cX6_readNumber 34 = .ok (.iload_n 2, 1) := by decide +kernel
theorem dX6_readNumber_35 : decode cX6_readNumber 35 = .ok (.ifCond .ge 5, 3) := by decide +kernel
theorem dX6_readNumber_38 : decode cX6_readNumber 38 = .ok (.iload_n 1, 1) := by decide +kernel
theorem dX6_readNumber_39 : decode cX6_readNumber 39 = .ok (.ireturn, 1) := by decide +kernel
theorem dX6_readNumber_40 : decode cX6_readNumber 40 = .ok (.aload_n 0, 1) := by decide +kernel
theorem dX6_readNumber_41 : decode cX6_readNumber 41 = .ok (.dup, 1) := by decide +kernel
theorem dX6_readNumber_42 : decode cX6_readNumber 42 = .ok (.getfield 37, 3) := by decide +kernel
theorem dX6_readNumber_45 : decode cX6_readNumber 45 = .ok (.iconst 1, 1) := by decide +kernel
theorem dX6_readNumber_46 : decode cX6_readNumber 46 = .ok (.iadd, 1) := by decide +kernel
theorem dX6_readNumber_47 : decode cX6_readNumber 47 = .ok (.putfield 37, 3) := by decide +kernel
theorem dX6_readNumber_50 : decode cX6_readNumber 50 = .ok (.iload_n 1, 1) := by decide +kernel
theorem dX6_readNumber_51 : decode cX6_readNumber 51 = .ok (.bipush 10, 2) := by decide +kernel
theorem dX6_readNumber_53 : decode cX6_readNumber 53 = .ok (.imul, 1) := by decide +kernel
theorem dX6_readNumber_54 : decode cX6_readNumber 54 = .ok (.iload_n 2, 1) := by decide +kernel
theorem dX6_readNumber_55 : decode cX6_readNumber 55 = .ok (.iadd, 1) := by decide +kernel
theorem dX6_readNumber_56 : decode cX6_readNumber 56 = .ok (.ireturn, 1) := by decide +kernel
theorem dX6_figureAt_0 : decode cX6_figureAt 0 = .ok (.iload_n 1, 1) := by decide +kernel
theorem dX6_figureAt_1 : decode cX6_figureAt 1 = .ok (.aload_n 0, 1) := by decide +kernel
theorem dX6_figureAt_2 : decode cX6_figureAt 2 = .ok (.getfield 19, 3) := by decide +kernel
theorem dX6_figureAt_5 : decode cX6_figureAt 5 = .ok (.if_icmp .ge 25, 3) := by decide +kernel
theorem dX6_figureAt_8 : decode cX6_figureAt 8 = .ok (.aload_n 0, 1) := by decide +kernel
theorem dX6_figureAt_9 : decode cX6_figureAt 9 = .ok (.getfield 9, 3) := by decide +kernel
theorem dX6_figureAt_12 : decode cX6_figureAt 12 = .ok (.iload_n 1, 1) := by decide +kernel
theorem dX6_figureAt_13 : decode cX6_figureAt 13 = .ok (.caload, 1) := by decide +kernel
theorem dX6_figureAt_14 : decode cX6_figureAt 14 = .ok (.bipush 48, 2) := by decide +kernel
theorem dX6_figureAt_16 : decode cX6_figureAt 16 = .ok (.if_icmp .lt 14, 3) := by decide +kernel
theorem dX6_figureAt_19 : decode cX6_figureAt 19 = .ok (.aload_n 0, 1) := by decide +kernel
theorem dX6_figureAt_20 : decode cX6_figureAt 20 = .ok (.getfield 9, 3) := by decide +kernel
theorem dX6_figureAt_23 : decode cX6_figureAt 23 = .ok (.iload_n 1, 1) := by decide +kernel
theorem dX6_figureAt_24 : decode cX6_figureAt 24 = .ok (.caload, 1) := by decide +kernel
theorem dX6_figureAt_25 : decode cX6_figureAt 25 = .ok (.bipush 57, 2) := by decide +kernel
theorem dX6_figureAt_27 : decode cX6_figureAt 27 = .ok (.if_icmp .le 5, 3) := by decide +kernel
theorem dX6_figureAt_30 : decode cX6_figureAt 30 = .ok (.iconst (-1), 1) := by decide +kernel
theorem dX6_figureAt_31 : decode cX6_figureAt 31 = .ok (.ireturn, 1) := by decide +kernel
theorem dX6_figureAt_32 : decode cX6_figureAt 32 = .ok (.aload_n 0, 1) := by decide +kernel
theorem dX6_figureAt_33 : decode cX6_figureAt 33 = .ok (.getfield 9, 3) := by decide +kernel
theorem dX6_figureAt_36 : decode cX6_figureAt 36 = .ok (.iload_n 1, 1) := by decide +kernel
theorem dX6_figureAt_37 : decode cX6_figureAt 37 = .ok (.caload, 1) := by decide +kernel
theorem dX6_figureAt_38 : decode cX6_figureAt 38 = .ok (.bipush 48, 2) := by decide +kernel
theorem dX6_figureAt_40 : decode cX6_figureAt 40 = .ok (.isub, 1) := by decide +kernel
theorem dX6_figureAt_41 : decode cX6_figureAt 41 = .ok (.ireturn, 1) := by decide +kernel
theorem dX6_takeSteps_0 : decode cX6_takeSteps 0 = .ok (.aload_n 1, 1) := by decide +kernel
theorem dX6_takeSteps_1 : decode cX6_takeSteps 1 = .ok (.aload_n 0, 1) := by decide +kernel
theorem dX6_takeSteps_2 : decode cX6_takeSteps 2 = .ok (.getfield 15, 3) := by decide +kernel
theorem dX6_takeSteps_5 : decode cX6_takeSteps 5 = .ok (.iconst 0, 1) := by decide +kernel
theorem dX6_takeSteps_6 : decode cX6_takeSteps 6 = .ok (.iaload, 1) := by decide +kernel
theorem dX6_takeSteps_7 : decode cX6_takeSteps 7 = .ok (.putfield 66, 3) := by decide +kernel
theorem dX6_takeSteps_10 : decode cX6_takeSteps 10 = .ok (.aload_n 0, 1) := by decide +kernel
theorem dX6_takeSteps_11 : decode cX6_takeSteps 11 = .ok (.getfield 15, 3) := by decide +kernel
theorem dX6_takeSteps_14 : decode cX6_takeSteps 14 = .ok (.iconst 0, 1) := by decide +kernel
theorem dX6_takeSteps_15 : decode cX6_takeSteps 15 = .ok (.iaload, 1) := by decide +kernel
theorem dX6_takeSteps_16 : decode cX6_takeSteps 16 = .ok (.iconst 2, 1) := by decide +kernel
theorem dX6_takeSteps_17 : decode cX6_takeSteps 17 = .ok (.bipush 10, 2) := by decide +kernel
theorem dX6_takeSteps_19 : decode cX6_takeSteps 19 = .ok (.invokestatic 69, 3) := by decide +kernel
theorem dX6_takeSteps_22 : decode cX6_takeSteps 22 = .ok (.ireturn, 1) := by decide +kernel
theorem dX6_takePerson_0 : decode cX6_takePerson 0 = .ok (.aload_n 1, 1) := by decide +kernel
theorem dX6_takePerson_1 : decode cX6_takePerson 1 = .ok (.getfield 23, 3) := by decide +kernel
theorem dX6_takePerson_4 : decode cX6_takePerson 4 = .ok (.getfield 73, 3) := by decide +kernel
theorem dX6_takePerson_7 : decode cX6_takePerson 7 = .ok (.istore_n 2, 1) := by decide +kernel
theorem dX6_takePerson_8 : decode cX6_takePerson 8 = .ok (.iload_n 2, 1) := by decide +kernel
theorem dX6_takePerson_9 : decode cX6_takePerson 9 = .ok (.bipush 6, 2) := by decide +kernel
theorem dX6_takePerson_11 : decode cX6_takePerson 11 = .ok (.if_icmp .ge 56, 3) := by decide +kernel
theorem dX6_takePerson_14 : decode cX6_takePerson 14 = .ok (.aload_n 0, 1) := by decide +kernel
theorem dX6_takePerson_15 : decode cX6_takePerson 15 = .ok (.getfield 15, 3) := by decide +kernel
theorem dX6_takePerson_18 : decode cX6_takePerson 18 = .ok (.iconst 0, 1) := by decide +kernel
theorem dX6_takePerson_19 : decode cX6_takePerson 19 = .ok (.iaload, 1) := by decide +kernel
theorem dX6_takePerson_20 : decode cX6_takePerson 20 = .ok (.iconst 4, 1) := by decide +kernel
theorem dX6_takePerson_21 : decode cX6_takePerson 21 = .ok (.if_icmp .ge 46, 3) := by decide +kernel
theorem dX6_takePerson_24 : decode cX6_takePerson 24 = .ok (.aload_n 0, 1) := by decide +kernel
theorem dX6_takePerson_25 : decode cX6_takePerson 25 = .ok (.getfield 15, 3) := by decide +kernel
theorem dX6_takePerson_28 : decode cX6_takePerson 28 = .ok (.iconst 1, 1) := by decide +kernel
theorem dX6_takePerson_29 : decode cX6_takePerson 29 = .ok (.iaload, 1) := by decide +kernel
theorem dX6_takePerson_30 : decode cX6_takePerson 30 = .ok (.aload_n 1, 1) := by decide +kernel
theorem dX6_takePerson_31 : decode cX6_takePerson 31 = .ok (.getfield 23, 3) := by decide +kernel
theorem dX6_takePerson_34 : decode cX6_takePerson 34 = .ok (.getfield 66, 3) := by decide +kernel
theorem dX6_takePerson_37 : decode cX6_takePerson 37 = .ok (.if_icmp .ge 30, 3) := by decide +kernel
theorem dX6_takePerson_40 : decode cX6_takePerson 40 = .ok (.aload_n 0, 1) := by decide +kernel
theorem dX6_takePerson_41 : decode cX6_takePerson 41 = .ok (.getfield 15, 3) := by decide +kernel
theorem dX6_takePerson_44 : decode cX6_takePerson 44 = .ok (.iconst 2, 1) := by decide +kernel
theorem dX6_takePerson_45 : decode cX6_takePerson 45 = .ok (.iaload, 1) := by decide +kernel
theorem dX6_takePerson_46 : decode cX6_takePerson 46 = .ok (.bipush 12, 2) := by decide +kernel
theorem dX6_takePerson_48 : decode cX6_takePerson 48 = .ok (.bipush 60, 2) := by decide +kernel
theorem dX6_takePerson_50 : decode cX6_takePerson 50 = .ok (.invokestatic 69, 3) := by decide +kernel
theorem dX6_takePerson_53 : decode cX6_takePerson 53 = .ok (.ifCond .eq 14, 3) := by decide +kernel
theorem dX6_takePerson_56 : decode cX6_takePerson 56 = .ok (.aload_n 0, 1) := by decide +kernel
theorem dX6_takePerson_57 : decode cX6_takePerson 57 = .ok (.getfield 15, 3) := by decide +kernel
theorem dX6_takePerson_60 : decode cX6_takePerson 60 = .ok (.iconst 3, 1) := by decide +kernel
theorem dX6_takePerson_61 : decode cX6_takePerson 61 = .ok (.iaload, 1) := by decide +kernel
theorem dX6_takePerson_62 : decode cX6_takePerson 62 = .ok (.bipush 30, 2) := by decide +kernel
theorem dX6_takePerson_64 : decode cX6_takePerson 64 = .ok (.if_icmp .le 5, 3) := by decide +kernel
theorem dX6_takePerson_67 : decode cX6_takePerson 67 = .ok (.iconst 0, 1) := by decide +kernel
theorem dX6_takePerson_68 : decode cX6_takePerson 68 = .ok (.ireturn, 1) := by decide +kernel
theorem dX6_takePerson_69 : decode cX6_takePerson 69 = .ok (.aload_n 1, 1) := by decide +kernel
theorem dX6_takePerson_70 : decode cX6_takePerson 70 = .ok (.getfield 23, 3) := by decide +kernel
theorem dX6_takePerson_73 : decode cX6_takePerson 73 = .ok (.getfield 76, 3) := by decide +kernel
theorem dX6_takePerson_76 : decode cX6_takePerson 76 = .ok (.iload_n 2, 1) := by decide +kernel
theorem dX6_takePerson_77 : decode cX6_takePerson 77 = .ok (.aload_n 0, 1) := by decide +kernel
theorem dX6_takePerson_78 : decode cX6_takePerson 78 = .ok (.getfield 15, 3) := by decide +kernel
theorem dX6_takePerson_81 : decode cX6_takePerson 81 = .ok (.iconst 0, 1) := by decide +kernel
theorem dX6_takePerson_82 : decode cX6_takePerson 82 = .ok (.iaload, 1) := by decide +kernel
theorem dX6_takePerson_83 : decode cX6_takePerson 83 = .ok (.iastore, 1) := by decide +kernel
theorem dX6_takePerson_84 : decode cX6_takePerson 84 = .ok (.aload_n 1, 1) := by decide +kernel
theorem dX6_takePerson_85 : decode cX6_takePerson 85 = .ok (.getfield 79, 3) := by decide +kernel
theorem dX6_takePerson_88 : decode cX6_takePerson 88 = .ok (.iload_n 2, 1) := by decide +kernel
theorem dX6_takePerson_89 : decode cX6_takePerson 89 = .ok (.aload_n 0, 1) := by decide +kernel
theorem dX6_takePerson_90 : decode cX6_takePerson 90 = .ok (.getfield 15, 3) := by decide +kernel
theorem dX6_takePerson_93 : decode cX6_takePerson 93 = .ok (.iconst 1, 1) := by decide +kernel
theorem dX6_takePerson_94 : decode cX6_takePerson 94 = .ok (.iaload, 1) := by decide +kernel
theorem dX6_takePerson_95 : decode cX6_takePerson 95 = .ok (.iastore, 1) := by decide +kernel
theorem dX6_takePerson_96 : decode cX6_takePerson 96 = .ok (.aload_n 1, 1) := by decide +kernel
theorem dX6_takePerson_97 : decode cX6_takePerson 97 = .ok (.getfield 82, 3) := by decide +kernel
theorem dX6_takePerson_100 : decode cX6_takePerson 100 = .ok (.iload_n 2, 1) := by decide +kernel
theorem dX6_takePerson_101 : decode cX6_takePerson 101 = .ok (.aload_n 0, 1) := by decide +kernel
theorem dX6_takePerson_102 : decode cX6_takePerson 102 = .ok (.getfield 15, 3) := by decide +kernel
theorem dX6_takePerson_105 : decode cX6_takePerson 105 = .ok (.iconst 2, 1) := by decide +kernel
theorem dX6_takePerson_106 : decode cX6_takePerson 106 = .ok (.iaload, 1) := by decide +kernel
theorem dX6_takePerson_107 : decode cX6_takePerson 107 = .ok (.iastore, 1) := by decide +kernel
theorem dX6_takePerson_108 : decode cX6_takePerson 108 = .ok (.aload_n 1, 1) := by decide +kernel
theorem dX6_takePerson_109 : decode cX6_takePerson 109 = .ok (.getfield 85, 3) := by decide +kernel
theorem dX6_takePerson_112 : decode cX6_takePerson 112 = .ok (.iload_n 2, 1) := by decide +kernel
theorem dX6_takePerson_113 : decode cX6_takePerson 113 = .ok (.aload_n 0, 1) := by decide +kernel
theorem dX6_takePerson_114 : decode cX6_takePerson 114 = .ok (.getfield 15, 3) := by decide +kernel
theorem dX6_takePerson_117 : decode cX6_takePerson 117 = .ok (.iconst 3, 1) := by decide +kernel
theorem dX6_takePerson_118 : decode cX6_takePerson 118 = .ok (.iaload, 1) := by decide +kernel
theorem dX6_takePerson_119 : decode cX6_takePerson 119 = .ok (.iastore, 1) := by decide +kernel
theorem dX6_takePerson_120 : decode cX6_takePerson 120 = .ok (.aload_n 1, 1) := by decide +kernel
theorem dX6_takePerson_121 : decode cX6_takePerson 121 = .ok (.getfield 88, 3) := by decide +kernel
theorem dX6_takePerson_124 : decode cX6_takePerson 124 = .ok (.iload_n 2, 1) := by decide +kernel
theorem dX6_takePerson_125 : decode cX6_takePerson 125 = .ok (.iconst 0, 1) := by decide +kernel
theorem dX6_takePerson_126 : decode cX6_takePerson 126 = .ok (.bastore, 1) := by decide +kernel
theorem dX6_takePerson_127 : decode cX6_takePerson 127 = .ok (.aload_n 1, 1) := by decide +kernel
theorem dX6_takePerson_128 : decode cX6_takePerson 128 = .ok (.getfield 92, 3) := by decide +kernel
theorem dX6_takePerson_131 : decode cX6_takePerson 131 = .ok (.iload_n 2, 1) := by decide +kernel
theorem dX6_takePerson_132 : decode cX6_takePerson 132 = .ok (.iconst 0, 1) := by decide +kernel
theorem dX6_takePerson_133 : decode cX6_takePerson 133 = .ok (.bastore, 1) := by decide +kernel
theorem dX6_takePerson_134 : decode cX6_takePerson 134 = .ok (.aload_n 1, 1) := by decide +kernel
theorem dX6_takePerson_135 : decode cX6_takePerson 135 = .ok (.getfield 23, 3) := by decide +kernel
theorem dX6_takePerson_138 : decode cX6_takePerson 138 = .ok (.dup, 1) := by decide +kernel
theorem dX6_takePerson_139 : decode cX6_takePerson 139 = .ok (.getfield 73, 3) := by decide +kernel
theorem dX6_takePerson_142 : decode cX6_takePerson 142 = .ok (.iconst 1, 1) := by decide +kernel
theorem dX6_takePerson_143 : decode cX6_takePerson 143 = .ok (.iadd, 1) := by decide +kernel
theorem dX6_takePerson_144 : decode cX6_takePerson 144 = .ok (.putfield 73, 3) := by decide +kernel
theorem dX6_takePerson_147 : decode cX6_takePerson 147 = .ok (.iconst 1, 1) := by decide +kernel
theorem dX6_takePerson_148 : decode cX6_takePerson 148 = .ok (.ireturn, 1) := by decide +kernel
theorem dX6_takeWork_0 : decode cX6_takeWork 0 = .ok (.aload_n 1, 1) := by decide +kernel
theorem dX6_takeWork_1 : decode cX6_takeWork 1 = .ok (.getfield 95, 3) := by decide +kernel
theorem dX6_takeWork_4 : decode cX6_takeWork 4 = .ok (.istore_n 2, 1) := by decide +kernel
theorem dX6_takeWork_5 : decode cX6_takeWork 5 = .ok (.iload_n 2, 1) := by decide +kernel
theorem dX6_takeWork_6 : decode cX6_takeWork 6 = .ok (.iconst 5, 1) := by decide +kernel
theorem dX6_takeWork_7 : decode cX6_takeWork 7 = .ok (.if_icmp .ge 30, 3) := by decide +kernel
theorem dX6_takeWork_10 : decode cX6_takeWork 10 = .ok (.aload_n 0, 1) := by decide +kernel
theorem dX6_takeWork_11 : decode cX6_takeWork 11 = .ok (.getfield 15, 3) := by decide +kernel
theorem dX6_takeWork_14 : decode cX6_takeWork 14 = .ok (.iconst 0, 1) := by decide +kernel
theorem dX6_takeWork_15 : decode cX6_takeWork 15 = .ok (.iaload, 1) := by decide +kernel
theorem dX6_takeWork_16 : decode cX6_takeWork 16 = .ok (.aload_n 1, 1) := by decide +kernel
theorem dX6_takeWork_17 : decode cX6_takeWork 17 = .ok (.getfield 66, 3) := by decide +kernel
theorem dX6_takeWork_20 : decode cX6_takeWork 20 = .ok (.if_icmp .ge 17, 3) := by decide +kernel
theorem dX6_takeWork_23 : decode cX6_takeWork 23 = .ok (.aload_n 0, 1) := by decide +kernel
theorem dX6_takeWork_24 : decode cX6_takeWork 24 = .ok (.getfield 15, 3) := by decide +kernel
theorem dX6_takeWork_27 : decode cX6_takeWork 27 = .ok (.iconst 1, 1) := by decide +kernel
theorem dX6_takeWork_28 : decode cX6_takeWork 28 = .ok (.iaload, 1) := by decide +kernel
theorem dX6_takeWork_29 : decode cX6_takeWork 29 = .ok (.iconst 1, 1) := by decide +kernel
theorem dX6_takeWork_30 : decode cX6_takeWork 30 = .ok (.iconst 4, 1) := by decide +kernel
theorem dX6_takeWork_31 : decode cX6_takeWork 31 = .ok (.invokestatic 69, 3) := by decide +kernel
theorem dX6_takeWork_34 : decode cX6_takeWork 34 = .ok (.ifCond .ne 5, 3) := by decide +kernel
theorem dX6_takeWork_37 : decode cX6_takeWork 37 = .ok (.iconst 0, 1) := by decide +kernel
theorem dX6_takeWork_38 : decode cX6_takeWork 38 = .ok (.ireturn, 1) := by decide +kernel
theorem dX6_takeWork_39 : decode cX6_takeWork 39 = .ok (.aload_n 1, 1) := by decide +kernel
theorem dX6_takeWork_40 : decode cX6_takeWork 40 = .ok (.getfield 98, 3) := by decide +kernel
theorem dX6_takeWork_43 : decode cX6_takeWork 43 = .ok (.iload_n 2, 1) := by decide +kernel
theorem dX6_takeWork_44 : decode cX6_takeWork 44 = .ok (.aload_n 0, 1) := by decide +kernel
theorem dX6_takeWork_45 : decode cX6_takeWork 45 = .ok (.getfield 15, 3) := by decide +kernel
theorem dX6_takeWork_48 : decode cX6_takeWork 48 = .ok (.iconst 0, 1) := by decide +kernel
theorem dX6_takeWork_49 : decode cX6_takeWork 49 = .ok (.iaload, 1) := by decide +kernel
theorem dX6_takeWork_50 : decode cX6_takeWork 50 = .ok (.iastore, 1) := by decide +kernel
theorem dX6_takeWork_51 : decode cX6_takeWork 51 = .ok (.aload_n 1, 1) := by decide +kernel
theorem dX6_takeWork_52 : decode cX6_takeWork 52 = .ok (.getfield 101, 3) := by decide +kernel
theorem dX6_takeWork_55 : decode cX6_takeWork 55 = .ok (.iload_n 2, 1) := by decide +kernel
theorem dX6_takeWork_56 : decode cX6_takeWork 56 = .ok (.aload_n 0, 1) := by decide +kernel
theorem dX6_takeWork_57 : decode cX6_takeWork 57 = .ok (.getfield 15, 3) := by decide +kernel
theorem dX6_takeWork_60 : decode cX6_takeWork 60 = .ok (.iconst 1, 1) := by decide +kernel
theorem dX6_takeWork_61 : decode cX6_takeWork 61 = .ok (.iaload, 1) := by decide +kernel
theorem dX6_takeWork_62 : decode cX6_takeWork 62 = .ok (.iastore, 1) := by decide +kernel
theorem dX6_takeWork_63 : decode cX6_takeWork 63 = .ok (.aload_n 1, 1) := by decide +kernel
theorem dX6_takeWork_64 : decode cX6_takeWork 64 = .ok (.dup, 1) := by decide +kernel
theorem dX6_takeWork_65 : decode cX6_takeWork 65 = .ok (.getfield 95, 3) := by decide +kernel
theorem dX6_takeWork_68 : decode cX6_takeWork 68 = .ok (.iconst 1, 1) := by decide +kernel
theorem dX6_takeWork_69 : decode cX6_takeWork 69 = .ok (.iadd, 1) := by decide +kernel
theorem dX6_takeWork_70 : decode cX6_takeWork 70 = .ok (.putfield 95, 3) := by decide +kernel
theorem dX6_takeWork_73 : decode cX6_takeWork 73 = .ok (.iconst 1, 1) := by decide +kernel
theorem dX6_takeWork_74 : decode cX6_takeWork 74 = .ok (.ireturn, 1) := by decide +kernel
theorem dX7_init_0 : decode cX7_init 0 = .ok (.aload_n 0, 1) := by decide +kernel
theorem dX7_init_1 : decode cX7_init 1 = .ok (.invokespecial 3, 3) := by decide +kernel
theorem dX7_init_4 : decode cX7_init 4 = .ok (.aload_n 0, 1) := by decide +kernel
theorem dX7_init_5 : decode cX7_init 5 = .ok (.iconst 4, 1) := by decide +kernel
theorem dX7_init_6 : decode cX7_init 6 = .ok (.newarray .int, 2) := by decide +kernel
theorem dX7_init_8 : decode cX7_init 8 = .ok (.putfield 9, 3) := by decide +kernel
theorem dX7_init_11 : decode cX7_init 11 = .ok (.aload_n 0, 1) := by decide +kernel
theorem dX7_init_12 : decode cX7_init 12 = .ok (.iconst 4, 1) := by decide +kernel
theorem dX7_init_13 : decode cX7_init 13 = .ok (.newarray .int, 2) := by decide +kernel
theorem dX7_init_15 : decode cX7_init 15 = .ok (.putfield 15, 3) := by decide +kernel
theorem dX7_init_18 : decode cX7_init 18 = .ok (.aload_n 0, 1) := by decide +kernel
theorem dX7_init_19 : decode cX7_init 19 = .ok (.aload_n 1, 1) := by decide +kernel
theorem dX7_init_20 : decode cX7_init 20 = .ok (.iconst 5, 1) := by decide +kernel
theorem dX7_init_21 : decode cX7_init 21 = .ok (.invokestatic 18, 3) := by decide +kernel
theorem dX7_init_24 : decode cX7_init 24 = .ok (.putfield 22, 3) := by decide +kernel
theorem dX7_init_27 : decode cX7_init 27 = .ok (.return_, 1) := by decide +kernel
theorem dX7_search_0 : decode cX7_search 0 = .ok (.aload_n 0, 1) := by decide +kernel
theorem dX7_search_1 : decode cX7_search 1 = .ok (.iload_n 2, 1) := by decide +kernel
theorem dX7_search_2 : decode cX7_search 2 = .ok (.iconst 4, 1) := by decide +kernel
theorem dX7_search_3 : decode cX7_search 3 = .ok (.invokestatic 26, 3) := by decide +kernel
theorem dX7_search_6 : decode cX7_search 6 = .ok (.putfield 32, 3) := by decide +kernel
theorem dX7_search_9 : decode cX7_search 9 = .ok (.aload_n 0, 1) := by decide +kernel
theorem dX7_search_10 : decode cX7_search 10 = .ok (.iconst (-1), 1) := by decide +kernel
theorem dX7_search_11 : decode cX7_search 11 = .ok (.putfield 36, 3) := by decide +kernel
theorem dX7_search_14 : decode cX7_search 14 = .ok (.aload_n 0, 1) := by decide +kernel
theorem dX7_search_15 : decode cX7_search 15 = .ok (.getfield 22, 3) := by decide +kernel
theorem dX7_search_18 : decode cX7_search 18 = .ok (.iconst 0, 1) := by decide +kernel
theorem dX7_search_19 : decode cX7_search 19 = .ok (.aaload, 1) := by decide +kernel
theorem dX7_search_20 : decode cX7_search 20 = .ok (.aload_n 1, 1) := by decide +kernel
theorem dX7_search_21 : decode cX7_search 21 = .ok (.invokevirtual 39, 3) := by decide +kernel
theorem dX7_search_24 : decode cX7_search 24 = .ok (.aload_n 0, 1) := by decide +kernel
theorem dX7_search_25 : decode cX7_search 25 = .ok (.iconst 0, 1) := by decide +kernel
theorem dX7_search_26 : decode cX7_search 26 = .ok (.invokevirtual 45, 3) := by decide +kernel
theorem dX7_search_29 : decode cX7_search 29 = .ok (.return_, 1) := by decide +kernel
theorem dX7_chooseFrom_0 : decode cX7_chooseFrom 0 = .ok (.aload_n 0, 1) := by decide +kernel
theorem dX7_chooseFrom_1 : decode cX7_chooseFrom 1 = .ok (.getfield 22, 3) := by decide +kernel
theorem dX7_chooseFrom_4 : decode cX7_chooseFrom 4 = .ok (.iload_n 1, 1) := by decide +kernel
theorem dX7_chooseFrom_5 : decode cX7_chooseFrom 5 = .ok (.aaload, 1) := by decide +kernel
theorem dX7_chooseFrom_6 : decode cX7_chooseFrom 6 = .ok (.astore_n 2, 1) := by decide +kernel
theorem dX7_chooseFrom_7 : decode cX7_chooseFrom 7 = .ok (.iload_n 1, 1) := by decide +kernel
theorem dX7_chooseFrom_8 : decode cX7_chooseFrom 8 = .ok (.aload_n 0, 1) := by decide +kernel
theorem dX7_chooseFrom_9 : decode cX7_chooseFrom 9 = .ok (.getfield 32, 3) := by decide +kernel
theorem dX7_chooseFrom_12 : decode cX7_chooseFrom 12 = .ok (.if_icmp .lt 12, 3) := by decide +kernel
theorem dX7_chooseFrom_15 : decode cX7_chooseFrom 15 = .ok (.aload_n 0, 1) := by decide +kernel
theorem dX7_chooseFrom_16 : decode cX7_chooseFrom 16 = .ok (.aload_n 2, 1) := by decide +kernel
theorem dX7_chooseFrom_17 : decode cX7_chooseFrom 17 = .ok (.invokevirtual 49, 3) := by decide +kernel
theorem dX7_chooseFrom_20 : decode cX7_chooseFrom 20 = .ok (.invokevirtual 53, 3) := by decide +kernel
theorem dX7_chooseFrom_23 : decode cX7_chooseFrom 23 = .ok (.return_, 1) := by decide +kernel
theorem dX7_chooseFrom_24 : decode cX7_chooseFrom 24 = .ok (.aload_n 0, 1) := by decide +kernel
theorem dX7_chooseFrom_25 : decode cX7_chooseFrom 25 = .ok (.iload_n 1, 1) := by decide +kernel
theorem dX7_chooseFrom_26 : decode cX7_chooseFrom 26 = .ok (.bipush (-4), 2) := by decide +kernel
theorem dX7_chooseFrom_28 : decode cX7_chooseFrom 28 = .ok (.invokevirtual 56, 3) := by decide +kernel
theorem dX7_chooseFrom_31 : decode cX7_chooseFrom 31 = .ok (.iconst 0, 1) := by decide +kernel
theorem dX7_chooseFrom_32 : decode cX7_chooseFrom 32 = .ok (.istore_n 3, 1) := by decide +kernel
theorem dX7_chooseFrom_33 : decode cX7_chooseFrom 33 = .ok (.iload_n 3, 1) := by decide +kernel
theorem dX7_chooseFrom_34 : decode cX7_chooseFrom 34 = .ok (.aload_n 2, 1) := by decide +kernel
theorem dX7_chooseFrom_35 : decode cX7_chooseFrom 35 = .ok (.getfield 60, 3) := by decide +kernel
theorem dX7_chooseFrom_38 : decode cX7_chooseFrom 38 = .ok (.getfield 64, 3) := by decide +kernel
theorem dX7_chooseFrom_41 : decode cX7_chooseFrom 41 = .ok (.if_icmp .ge 37, 3) := by decide +kernel
theorem dX7_chooseFrom_44 : decode cX7_chooseFrom 44 = .ok (.aload_n 0, 1) := by decide +kernel
theorem dX7_chooseFrom_45 : decode cX7_chooseFrom 45 = .ok (.getfield 36, 3) := by decide +kernel
theorem dX7_chooseFrom_48 : decode cX7_chooseFrom 48 = .ok (.aload_n 2, 1) := by decide +kernel
theorem dX7_chooseFrom_49 : decode cX7_chooseFrom 49 = .ok (.getfield 60, 3) := by decide +kernel
theorem dX7_chooseFrom_52 : decode cX7_chooseFrom 52 = .ok (.getfield 69, 3) := by decide +kernel
theorem dX7_chooseFrom_55 : decode cX7_chooseFrom 55 = .ok (.if_icmp .ge 23, 3) := by decide +kernel
theorem dX7_chooseFrom_58 : decode cX7_chooseFrom 58 = .ok (.aload_n 2, 1) := by decide +kernel
theorem dX7_chooseFrom_59 : decode cX7_chooseFrom 59 = .ok (.iload_n 3, 1) := by decide +kernel
theorem dX7_chooseFrom_60 : decode cX7_chooseFrom 60 = .ok (.invokevirtual 72, 3) := by decide +kernel
theorem dX7_chooseFrom_63 : decode cX7_chooseFrom 63 = .ok (.ifCond .eq 9, 3) := by decide +kernel
theorem dX7_chooseFrom_66 : decode cX7_chooseFrom 66 = .ok (.aload_n 0, 1) := by decide +kernel
theorem dX7_chooseFrom_67 : decode cX7_chooseFrom 67 = .ok (.iload_n 1, 1) := by decide +kernel
theorem dX7_chooseFrom_68 : decode cX7_chooseFrom 68 = .ok (.iload_n 3, 1) := by decide +kernel
theorem dX7_chooseFrom_69 : decode cX7_chooseFrom 69 = .ok (.invokevirtual 56, 3) := by decide +kernel
theorem dX7_chooseFrom_72 : decode cX7_chooseFrom 72 = .ok (.iinc 3 1, 3) := by decide +kernel
theorem dX7_chooseFrom_75 : decode cX7_chooseFrom 75 = .ok (.goto (-42), 3) := by decide +kernel
theorem dX7_chooseFrom_78 : decode cX7_chooseFrom 78 = .ok (.return_, 1) := by decide +kernel
theorem dX7_choose_0 : decode cX7_choose 0 = .ok (.aload_n 0, 1) := by decide +kernel
theorem dX7_choose_1 : decode cX7_choose 1 = .ok (.getfield 22, 3) := by decide +kernel
theorem dX7_choose_4 : decode cX7_choose 4 = .ok (.iload_n 1, 1) := by decide +kernel
theorem dX7_choose_5 : decode cX7_choose 5 = .ok (.iconst 1, 1) := by decide +kernel
theorem dX7_choose_6 : decode cX7_choose 6 = .ok (.iadd, 1) := by decide +kernel
theorem dX7_choose_7 : decode cX7_choose 7 = .ok (.aaload, 1) := by decide +kernel
theorem dX7_choose_8 : decode cX7_choose 8 = .ok (.astore_n 3, 1) := by decide +kernel
theorem dX7_choose_9 : decode cX7_choose 9 = .ok (.aload_n 3, 1) := by decide +kernel
theorem dX7_choose_10 : decode cX7_choose 10 = .ok (.aload_n 0, 1) := by decide +kernel
theorem dX7_choose_11 : decode cX7_choose 11 = .ok (.getfield 22, 3) := by decide +kernel
theorem dX7_choose_14 : decode cX7_choose 14 = .ok (.iload_n 1, 1) := by decide +kernel
theorem dX7_choose_15 : decode cX7_choose 15 = .ok (.aaload, 1) := by decide +kernel
theorem dX7_choose_16 : decode cX7_choose 16 = .ok (.invokevirtual 39, 3) := by decide +kernel
theorem dX7_choose_19 : decode cX7_choose 19 = .ok (.iload_n 2, 1) := by decide +kernel
theorem dX7_choose_20 : decode cX7_choose 20 = .ok (.ifCond .lt 8, 3) := by decide +kernel
theorem dX7_choose_23 : decode cX7_choose 23 = .ok (.aload_n 3, 1) := by decide +kernel
theorem dX7_choose_24 : decode cX7_choose 24 = .ok (.iload_n 2, 1) := by decide +kernel
theorem dX7_choose_25 : decode cX7_choose 25 = .ok (.invokevirtual 76, 3) := by decide +kernel
theorem dX7_choose_28 : decode cX7_choose 28 = .ok (.aload_n 3, 1) := by decide +kernel
