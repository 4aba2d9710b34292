theorem dX7_choose_29 : decode cX7_choose 29 = .ok (.invokevirtual 79, 3) := by decide +kernel
theorem dX7_choose_32 : decode cX7_choose 32 = .ok (.aload_n 0, 1) := by decide +kernel
theorem dX7_choose_33 : decode cX7_choose 33 = .ok (.getfield 9, 3) := by decide +kernel
theorem dX7_choose_36 : decode cX7_choose 36 = .ok (.iload_n 1, 1) := by decide +kernel
theorem dX7_choose_37 : decode cX7_choose 37 = .ok (.iload_n 2, 1) := by decide +kernel
theorem dX7_choose_38 : decode cX7_choose 38 = .ok (.iastore, 1) := by decide +kernel
theorem dX7_choose_39 : decode cX7_choose 39 = .ok (.aload_n 0, 1) := by decide +kernel
theorem dX7_choose_40 : decode cX7_choose 40 = .ok (.iload_n 1, 1) := by decide +kernel
theorem dX7_choose_41 : decode cX7_choose 41 = .ok (.iconst 1, 1) := by decide +kernel
theorem dX7_choose_42 : decode cX7_choose 42 = .ok (.iadd, 1) := by decide +kernel
theorem dX7_choose_43 : decode cX7_choose 43 = .ok (.invokevirtual 45, 3) := by decide +kernel
theorem dX7_choose_46 : decode cX7_choose 46 = .ok (.return_, 1) := by decide +kernel
theorem dX7_takeIfBetter_0 : decode cX7_takeIfBetter 0 = .ok (.iload_n 1, 1) := by decide +kernel
theorem dX7_takeIfBetter_1 : decode cX7_takeIfBetter 1 = .ok (.aload_n 0, 1) := by decide +kernel
theorem dX7_takeIfBetter_2 : decode cX7_takeIfBetter 2 = .ok (.getfield 36, 3) := by decide +kernel
theorem dX7_takeIfBetter_5 : decode cX7_takeIfBetter 5 = .ok (.if_icmp .le 22, 3) := by decide +kernel
theorem dX7_takeIfBetter_8 : decode cX7_takeIfBetter 8 = .ok (.aload_n 0, 1) := by decide +kernel
theorem dX7_takeIfBetter_9 : decode cX7_takeIfBetter 9 = .ok (.iload_n 1, 1) := by decide +kernel
theorem dX7_takeIfBetter_10 : decode cX7_takeIfBetter 10 = .ok (.putfield 36, 3) := by decide +kernel
theorem dX7_takeIfBetter_13 : decode cX7_takeIfBetter 13 = .ok (.aload_n 0, 1) := by decide +kernel
theorem dX7_takeIfBetter_14 : decode cX7_takeIfBetter 14 = .ok (.getfield 9, 3) := by decide +kernel
theorem dX7_takeIfBetter_17 : decode cX7_takeIfBetter 17 = .ok (.iconst 0, 1) := by decide +kernel
theorem dX7_takeIfBetter_18 : decode cX7_takeIfBetter 18 = .ok (.aload_n 0, 1) := by decide +kernel
theorem dX7_takeIfBetter_19 : decode cX7_takeIfBetter 19 = .ok (.getfield 15, 3) := by decide +kernel
theorem dX7_takeIfBetter_22 : decode cX7_takeIfBetter 22 = .ok (.iconst 0, 1) := by decide +kernel
theorem dX7_takeIfBetter_23 : decode cX7_takeIfBetter 23 = .ok (.iconst 4, 1) := by decide +kernel
theorem dX7_takeIfBetter_24 : decode cX7_takeIfBetter 24 = .ok (.invokestatic 82, 3) := by decide +kernel
theorem dX7_takeIfBetter_27 : decode cX7_takeIfBetter 27 = .ok (.return_, 1) := by decide +kernel
theorem dX8_init_0 : decode cX8_init 0 = .ok (.aload_n 0, 1) := by decide +kernel
theorem dX8_init_1 : decode cX8_init 1 = .ok (.invokespecial 3, 3) := by decide +kernel
theorem dX8_init_4 : decode cX8_init 4 = .ok (.aload_n 0, 1) := by decide +kernel
theorem dX8_init_5 : decode cX8_init 5 = .ok (.bipush 6, 2) := by decide +kernel
theorem dX8_init_7 : decode cX8_init 7 = .ok (.newarray .int, 2) := by decide +kernel
theorem dX8_init_9 : decode cX8_init 9 = .ok (.putfield 9, 3) := by decide +kernel
theorem dX8_init_12 : decode cX8_init 12 = .ok (.aload_n 0, 1) := by decide +kernel
theorem dX8_init_13 : decode cX8_init 13 = .ok (.bipush 6, 2) := by decide +kernel
theorem dX8_init_15 : decode cX8_init 15 = .ok (.newarray .int, 2) := by decide +kernel
theorem dX8_init_17 : decode cX8_init 17 = .ok (.putfield 15, 3) := by decide +kernel
theorem dX8_init_20 : decode cX8_init 20 = .ok (.aload_n 0, 1) := by decide +kernel
theorem dX8_init_21 : decode cX8_init 21 = .ok (.bipush 6, 2) := by decide +kernel
theorem dX8_init_23 : decode cX8_init 23 = .ok (.newarray .int, 2) := by decide +kernel
theorem dX8_init_25 : decode cX8_init 25 = .ok (.putfield 18, 3) := by decide +kernel
theorem dX8_init_28 : decode cX8_init 28 = .ok (.aload_n 0, 1) := by decide +kernel
theorem dX8_init_29 : decode cX8_init 29 = .ok (.bipush 6, 2) := by decide +kernel
theorem dX8_init_31 : decode cX8_init 31 = .ok (.newarray .boolean, 2) := by decide +kernel
theorem dX8_init_33 : decode cX8_init 33 = .ok (.putfield 21, 3) := by decide +kernel
theorem dX8_init_36 : decode cX8_init 36 = .ok (.aload_n 0, 1) := by decide +kernel
theorem dX8_init_37 : decode cX8_init 37 = .ok (.bipush 6, 2) := by decide +kernel
theorem dX8_init_39 : decode cX8_init 39 = .ok (.newarray .boolean, 2) := by decide +kernel
theorem dX8_init_41 : decode cX8_init 41 = .ok (.putfield 25, 3) := by decide +kernel
theorem dX8_init_44 : decode cX8_init 44 = .ok (.aload_n 0, 1) := by decide +kernel
theorem dX8_init_45 : decode cX8_init 45 = .ok (.aload_n 1, 1) := by decide +kernel
theorem dX8_init_46 : decode cX8_init 46 = .ok (.putfield 28, 3) := by decide +kernel
theorem dX8_init_49 : decode cX8_init 49 = .ok (.return_, 1) := by decide +kernel
theorem dX8_standAs_0 : decode cX8_standAs 0 = .ok (.aload_n 1, 1) := by decide +kernel
theorem dX8_standAs_1 : decode cX8_standAs 1 = .ok (.getfield 9, 3) := by decide +kernel
theorem dX8_standAs_4 : decode cX8_standAs 4 = .ok (.iconst 0, 1) := by decide +kernel
theorem dX8_standAs_5 : decode cX8_standAs 5 = .ok (.aload_n 0, 1) := by decide +kernel
theorem dX8_standAs_6 : decode cX8_standAs 6 = .ok (.getfield 9, 3) := by decide +kernel
theorem dX8_standAs_9 : decode cX8_standAs 9 = .ok (.iconst 0, 1) := by decide +kernel
theorem dX8_standAs_10 : decode cX8_standAs 10 = .ok (.bipush 6, 2) := by decide +kernel
theorem dX8_standAs_12 : decode cX8_standAs 12 = .ok (.invokestatic 32, 3) := by decide +kernel
theorem dX8_standAs_15 : decode cX8_standAs 15 = .ok (.aload_n 1, 1) := by decide +kernel
theorem dX8_standAs_16 : decode cX8_standAs 16 = .ok (.getfield 15, 3) := by decide +kernel
theorem dX8_standAs_19 : decode cX8_standAs 19 = .ok (.iconst 0, 1) := by decide +kernel
theorem dX8_standAs_20 : decode cX8_standAs 20 = .ok (.aload_n 0, 1) := by decide +kernel
theorem dX8_standAs_21 : decode cX8_standAs 21 = .ok (.getfield 15, 3) := by decide +kernel
theorem dX8_standAs_24 : decode cX8_standAs 24 = .ok (.iconst 0, 1) := by decide +kernel
theorem dX8_standAs_25 : decode cX8_standAs 25 = .ok (.bipush 6, 2) := by decide +kernel
theorem dX8_standAs_27 : decode cX8_standAs 27 = .ok (.invokestatic 32, 3) := by decide +kernel
theorem dX8_standAs_30 : decode cX8_standAs 30 = .ok (.aload_n 1, 1) := by decide +kernel
theorem dX8_standAs_31 : decode cX8_standAs 31 = .ok (.getfield 18, 3) := by decide +kernel
theorem dX8_standAs_34 : decode cX8_standAs 34 = .ok (.iconst 0, 1) := by decide +kernel
theorem dX8_standAs_35 : decode cX8_standAs 35 = .ok (.aload_n 0, 1) := by decide +kernel
theorem dX8_standAs_36 : decode cX8_standAs 36 = .ok (.getfield 18, 3) := by decide +kernel
theorem dX8_standAs_39 : decode cX8_standAs 39 = .ok (.iconst 0, 1) := by decide +kernel
theorem dX8_standAs_40 : decode cX8_standAs 40 = .ok (.bipush 6, 2) := by decide +kernel
theorem dX8_standAs_42 : decode cX8_standAs 42 = .ok (.invokestatic 32, 3) := by decide +kernel
theorem dX8_standAs_45 : decode cX8_standAs 45 = .ok (.aload_n 1, 1) := by decide +kernel
theorem dX8_standAs_46 : decode cX8_standAs 46 = .ok (.getfield 21, 3) := by decide +kernel
theorem dX8_standAs_49 : decode cX8_standAs 49 = .ok (.iconst 0, 1) := by decide +kernel
theorem dX8_standAs_50 : decode cX8_standAs 50 = .ok (.aload_n 0, 1) := by decide +kernel
theorem dX8_standAs_51 : decode cX8_standAs 51 = .ok (.getfield 21, 3) := by decide +kernel
theorem dX8_standAs_54 : decode cX8_standAs 54 = .ok (.iconst 0, 1) := by decide +kernel
theorem dX8_standAs_55 : decode cX8_standAs 55 = .ok (.bipush 6, 2) := by decide +kernel
theorem dX8_standAs_57 : decode cX8_standAs 57 = .ok (.invokestatic 32, 3) := by decide +kernel
theorem dX8_standAs_60 : decode cX8_standAs 60 = .ok (.aload_n 1, 1) := by decide +kernel
theorem dX8_standAs_61 : decode cX8_standAs 61 = .ok (.getfield 25, 3) := by decide +kernel
theorem dX8_standAs_64 : decode cX8_standAs 64 = .ok (.iconst 0, 1) := by decide +kernel
theorem dX8_standAs_65 : decode cX8_standAs 65 = .ok (.aload_n 0, 1) := by decide +kernel
theorem dX8_standAs_66 : decode cX8_standAs 66 = .ok (.getfield 25, 3) := by decide +kernel
theorem dX8_standAs_69 : decode cX8_standAs 69 = .ok (.iconst 0, 1) := by decide +kernel
theorem dX8_standAs_70 : decode cX8_standAs 70 = .ok (.bipush 6, 2) := by decide +kernel
theorem dX8_standAs_72 : decode cX8_standAs 72 = .ok (.invokestatic 32, 3) := by decide +kernel
theorem dX8_standAs_75 : decode cX8_standAs 75 = .ok (.aload_n 0, 1) := by decide +kernel
theorem dX8_standAs_76 : decode cX8_standAs 76 = .ok (.aload_n 1, 1) := by decide +kernel
theorem dX8_standAs_77 : decode cX8_standAs 77 = .ok (.getfield 38, 3) := by decide +kernel
theorem dX8_standAs_80 : decode cX8_standAs 80 = .ok (.putfield 38, 3) := by decide +kernel
theorem dX8_standAs_83 : decode cX8_standAs 83 = .ok (.return_, 1) := by decide +kernel
theorem dX8_fearOn_0 : decode cX8_fearOn 0 = .ok (.aload_n 0, 1) := by decide +kernel
theorem dX8_fearOn_1 : decode cX8_fearOn 1 = .ok (.aload_n 0, 1) := by decide +kernel
theorem dX8_fearOn_2 : decode cX8_fearOn 2 = .ok (.getfield 28, 3) := by decide +kernel
theorem dX8_fearOn_5 : decode cX8_fearOn 5 = .ok (.getfield 42, 3) := by decide +kernel
theorem dX8_fearOn_8 : decode cX8_fearOn 8 = .ok (.iload_n 1, 1) := by decide +kernel
theorem dX8_fearOn_9 : decode cX8_fearOn 9 = .ok (.iaload, 1) := by decide +kernel
theorem dX8_fearOn_10 : decode cX8_fearOn 10 = .ok (.iload_n 1, 1) := by decide +kernel
theorem dX8_fearOn_11 : decode cX8_fearOn 11 = .ok (.iload_n 2, 1) := by decide +kernel
theorem dX8_fearOn_12 : decode cX8_fearOn 12 = .ok (.invokevirtual 47, 3) := by decide +kernel
theorem dX8_fearOn_15 : decode cX8_fearOn 15 = .ok (.ireturn, 1) := by decide +kernel
theorem dX8_fearAs_0 : decode cX8_fearAs 0 = .ok (.iconst 0, 1) := by decide +kernel
theorem dX8_fearAs_1 : decode cX8_fearAs 1 = .ok (.istore 4, 2) := by decide +kernel
theorem dX8_fearAs_3 : decode cX8_fearAs 3 = .ok (.iconst 0, 1) := by decide +kernel
theorem dX8_fearAs_4 : decode cX8_fearAs 4 = .ok (.istore 5, 2) := by decide +kernel
theorem dX8_fearAs_6 : decode cX8_fearAs 6 = .ok (.iload_n 1, 1) := by decide +kernel
theorem dX8_fearAs_7 : decode cX8_fearAs 7 = .ok (.iconst 3, 1) := by decide +kernel
theorem dX8_fearAs_8 : decode cX8_fearAs 8 = .ok (.if_icmp .ne 51, 3) := by decide +kernel
theorem dX8_fearAs_11 : decode cX8_fearAs 11 = .ok (.iload 5, 2) := by decide +kernel
theorem dX8_fearAs_13 : decode cX8_fearAs 13 = .ok (.aload_n 0, 1) := by decide +kernel
theorem dX8_fearAs_14 : decode cX8_fearAs 14 = .ok (.getfield 28, 3) := by decide +kernel
theorem dX8_fearAs_17 : decode cX8_fearAs 17 = .ok (.getfield 51, 3) := by decide +kernel
theorem dX8_fearAs_20 : decode cX8_fearAs 20 = .ok (.if_icmp .ge 39, 3) := by decide +kernel
theorem dX8_fearAs_23 : decode cX8_fearAs 23 = .ok (.iload 5, 2) := by decide +kernel
theorem dX8_fearAs_25 : decode cX8_fearAs 25 = .ok (.iload_n 2, 1) := by decide +kernel
theorem dX8_fearAs_26 : decode cX8_fearAs 26 = .ok (.if_icmp .eq 27, 3) := by decide +kernel
theorem dX8_fearAs_29 : decode cX8_fearAs 29 = .ok (.aload_n 0, 1) := by decide +kernel
theorem dX8_fearAs_30 : decode cX8_fearAs 30 = .ok (.getfield 21, 3) := by decide +kernel
theorem dX8_fearAs_33 : decode cX8_fearAs 33 = .ok (.iload 5, 2) := by decide +kernel
theorem dX8_fearAs_35 : decode cX8_fearAs 35 = .ok (.baload, 1) := by decide +kernel
theorem dX8_fearAs_36 : decode cX8_fearAs 36 = .ok (.ifCond .ne 17, 3) := by decide +kernel
theorem dX8_fearAs_39 : decode cX8_fearAs 39 = .ok (.aload_n 0, 1) := by decide +kernel
theorem dX8_fearAs_40 : decode cX8_fearAs 40 = .ok (.getfield 9, 3) := by decide +kernel
theorem dX8_fearAs_43 : decode cX8_fearAs 43 = .ok (.iload 5, 2) := by decide +kernel
theorem dX8_fearAs_45 : decode cX8_fearAs 45 = .ok (.iaload, 1) := by decide +kernel
theorem dX8_fearAs_46 : decode cX8_fearAs 46 = .ok (.iload_n 3, 1) := by decide +kernel
theorem dX8_fearAs_47 : decode cX8_fearAs 47 = .ok (.if_icmp .ne 6, 3) := by decide +kernel
theorem dX8_fearAs_50 : decode cX8_fearAs 50 = .ok (.iinc 4 1, 3) := by decide +kernel
theorem dX8_fearAs_53 : decode cX8_fearAs 53 = .ok (.iinc 5 1, 3) := by decide +kernel
theorem dX8_fearAs_56 : decode cX8_fearAs 56 = .ok (.goto (-50), 3) := by decide +kernel
theorem dX8_fearAs_59 : decode cX8_fearAs 59 = .ok (.aload_n 0, 1) := by decide +kernel
theorem dX8_fearAs_60 : decode cX8_fearAs 60 = .ok (.iload 4, 2) := by decide +kernel
theorem dX8_fearAs_62 : decode cX8_fearAs 62 = .ok (.iload_n 1, 1) := by decide +kernel
theorem dX8_fearAs_63 : decode cX8_fearAs 63 = .ok (.aload_n 0, 1) := by decide +kernel
theorem dX8_fearAs_64 : decode cX8_fearAs 64 = .ok (.getfield 15, 3) := by decide +kernel
theorem dX8_fearAs_67 : decode cX8_fearAs 67 = .ok (.iload_n 2, 1) := by decide +kernel
theorem dX8_fearAs_68 : decode cX8_fearAs 68 = .ok (.iaload, 1) := by decide +kernel
theorem dX8_fearAs_69 : decode cX8_fearAs 69 = .ok (.iload_n 3, 1) := by decide +kernel
theorem dX8_fearAs_70 : decode cX8_fearAs 70 = .ok (.invokevirtual 54, 3) := by decide +kernel
theorem dX8_fearAs_73 : decode cX8_fearAs 73 = .ok (.ireturn, 1) := by decide +kernel
theorem dX8_fearAmong_0 : decode cX8_fearAmong 0 = .ok (.aload_n 0, 1) := by decide +kernel
theorem dX8_fearAmong_1 : decode cX8_fearAmong 1 = .ok (.getfield 28, 3) := by decide +kernel
theorem dX8_fearAmong_4 : decode cX8_fearAmong 4 = .ok (.getfield 58, 3) := by decide +kernel
theorem dX8_fearAmong_7 : decode cX8_fearAmong 7 = .ok (.iconst 1, 1) := by decide +kernel
theorem dX8_fearAmong_8 : decode cX8_fearAmong 8 = .ok (.isub, 1) := by decide +kernel
theorem dX8_fearAmong_9 : decode cX8_fearAmong 9 = .ok (.iload 4, 2) := by decide +kernel
theorem dX8_fearAmong_11 : decode cX8_fearAmong 11 = .ok (.isub, 1) := by decide +kernel
theorem dX8_fearAmong_12 : decode cX8_fearAmong 12 = .ok (.istore 5, 2) := by decide +kernel
theorem dX8_fearAmong_14 : decode cX8_fearAmong 14 = .ok (.iload_n 2, 1) := by decide +kernel
theorem dX8_fearAmong_15 : decode cX8_fearAmong 15 = .ok (.tableswitch 67 1 3 #[25, 28, 50], 25) := by decide +kernel
theorem dX8_fearAmong_40 : decode cX8_fearAmong 40 = .ok (.iload 5, 2) := by decide +kernel
theorem dX8_fearAmong_42 : decode cX8_fearAmong 42 = .ok (.ireturn, 1) := by decide +kernel
theorem dX8_fearAmong_43 : decode cX8_fearAmong 43 = .ok (.iconst 2, 1) := by decide +kernel
theorem dX8_fearAmong_44 : decode cX8_fearAmong 44 = .ok (.iload 5, 2) := by decide +kernel
theorem dX8_fearAmong_46 : decode cX8_fearAmong 46 = .ok (.imul, 1) := by decide +kernel
theorem dX8_fearAmong_47 : decode cX8_fearAmong 47 = .ok (.iload_n 3, 1) := by decide +kernel
theorem dX8_fearAmong_48 : decode cX8_fearAmong 48 = .ok (.bipush 20, 2) := by decide +kernel
theorem dX8_fearAmong_50 : decode cX8_fearAmong 50 = .ok (.if_icmp .le 12, 3) := by decide +kernel
theorem dX8_fearAmong_53 : decode cX8_fearAmong 53 = .ok (.iload_n 3, 1) := by decide +kernel
theorem dX8_fearAmong_54 : decode cX8_fearAmong 54 = .ok (.bipush 20, 2) := by decide +kernel
theorem dX8_fearAmong_56 : decode cX8_fearAmong 56 = .ok (.isub, 1) := by decide +kernel
theorem dX8_fearAmong_57 : decode cX8_fearAmong 57 = .ok (.iconst 5, 1) := by decide +kernel
theorem dX8_fearAmong_58 : decode cX8_fearAmong 58 = .ok (.idiv, 1) := by decide +kernel
theorem dX8_fearAmong_59 : decode cX8_fearAmong 59 = .ok (.goto 4, 3) := by decide +kernel
theorem dX8_fearAmong_62 : decode cX8_fearAmong 62 = .ok (.iconst 0, 1) := by decide +kernel
theorem dX8_fearAmong_63 : decode cX8_fearAmong 63 = .ok (.iadd, 1) := by decide +kernel
theorem dX8_fearAmong_64 : decode cX8_fearAmong 64 = .ok (.ireturn, 1) := by decide +kernel
theorem dX8_fearAmong_65 : decode cX8_fearAmong 65 = .ok (.iload 5, 2) := by decide +kernel
theorem dX8_fearAmong_67 : decode cX8_fearAmong 67 = .ok (.iload_n 1, 1) := by decide +kernel
theorem dX8_fearAmong_68 : decode cX8_fearAmong 68 = .ok (.if_icmp .le 12, 3) := by decide +kernel
theorem dX8_fearAmong_71 : decode cX8_fearAmong 71 = .ok (.iconst 2, 1) := by decide +kernel
theorem dX8_fearAmong_72 : decode cX8_fearAmong 72 = .ok (.iload 5, 2) := by decide +kernel
theorem dX8_fearAmong_74 : decode cX8_fearAmong 74 = .ok (.iload_n 1, 1) := by decide +kernel
theorem dX8_fearAmong_75 : decode cX8_fearAmong 75 = .ok (.isub, 1) := by decide +kernel
theorem dX8_fearAmong_76 : decode cX8_fearAmong 76 = .ok (.imul, 1) := by decide +kernel
theorem dX8_fearAmong_77 : decode cX8_fearAmong 77 = .ok (.goto 4, 3) := by decide +kernel
theorem dX8_fearAmong_80 : decode cX8_fearAmong 80 = .ok (.iconst 0, 1) := by decide +kernel
theorem dX8_fearAmong_81 : decode cX8_fearAmong 81 = .ok (.ireturn, 1) := by decide +kernel
theorem dX8_fearAmong_82 : decode cX8_fearAmong 82 = .ok (.iconst 2, 1) := by decide +kernel
theorem dX8_fearAmong_83 : decode cX8_fearAmong 83 = .ok (.iload 5, 2) := by decide +kernel
theorem dX8_fearAmong_85 : decode cX8_fearAmong 85 = .ok (.imul, 1) := by decide +kernel
theorem dX8_fearAmong_86 : decode cX8_fearAmong 86 = .ok (.ireturn, 1) := by decide +kernel
theorem dX8_isFrozen_0 : decode cX8_isFrozen 0 = .ok (.aload_n 0, 1) := by decide +kernel
theorem dX8_isFrozen_1 : decode cX8_isFrozen 1 = .ok (.getfield 21, 3) := by decide +kernel
theorem dX8_isFrozen_4 : decode cX8_isFrozen 4 = .ok (.iload_n 1, 1) := by decide +kernel
theorem dX8_isFrozen_5 : decode cX8_isFrozen 5 = .ok (.baload, 1) := by decide +kernel
theorem dX8_isFrozen_6 : decode cX8_isFrozen 6 = .ok (.ifCond .ne 36, 3) := by decide +kernel
theorem dX8_isFrozen_9 : decode cX8_isFrozen 9 = .ok (.aload_n 0, 1) := by decide +kernel
theorem dX8_isFrozen_10 : decode cX8_isFrozen 10 = .ok (.aload_n 0, 1) := by decide +kernel
theorem dX8_isFrozen_11 : decode cX8_isFrozen 11 = .ok (.getfield 28, 3) := by decide +kernel
theorem dX8_isFrozen_14 : decode cX8_isFrozen 14 = .ok (.getfield 42, 3) := by decide +kernel
theorem dX8_isFrozen_17 : decode cX8_isFrozen 17 = .ok (.iload_n 1, 1) := by decide +kernel
theorem dX8_isFrozen_18 : decode cX8_isFrozen 18 = .ok (.iaload, 1) := by decide +kernel
theorem dX8_isFrozen_19 : decode cX8_isFrozen 19 = .ok (.iload_n 1, 1) := by decide +kernel
theorem dX8_isFrozen_20 : decode cX8_isFrozen 20 = .ok (.aload_n 0, 1) := by decide +kernel
theorem dX8_isFrozen_21 : decode cX8_isFrozen 21 = .ok (.getfield 9, 3) := by decide +kernel
theorem dX8_isFrozen_24 : decode cX8_isFrozen 24 = .ok (.iload_n 1, 1) := by decide +kernel
theorem dX8_isFrozen_25 : decode cX8_isFrozen 25 = .ok (.iaload, 1) := by decide +kernel
theorem dX8_isFrozen_26 : decode cX8_isFrozen 26 = .ok (.invokevirtual 47, 3) := by decide +kernel
theorem dX8_isFrozen_29 : decode cX8_isFrozen 29 = .ok (.aload_n 0, 1) := by decide +kernel
theorem dX8_isFrozen_30 : decode cX8_isFrozen 30 = .ok (.getfield 18, 3) := by decide +kernel
theorem dX8_isFrozen_33 : decode cX8_isFrozen 33 = .ok (.iload_n 1, 1) := by decide +kernel
theorem dX8_isFrozen_34 : decode cX8_isFrozen 34 = .ok (.iaload, 1) := by decide +kernel
theorem dX8_isFrozen_35 : decode cX8_isFrozen 35 = .ok (.if_icmp .le 7, 3) := by decide +kernel
theorem dX8_isFrozen_38 : decode cX8_isFrozen 38 = .ok (.iconst 1, 1) := by decide +kernel
theorem dX8_isFrozen_39 : decode cX8_isFrozen 39 = .ok (.goto 4, 3) := by decide +kernel
theorem dX8_isFrozen_42 : decode cX8_isFrozen 42 = .ok (.iconst 0, 1) := by decide +kernel
theorem dX8_isFrozen_43 : decode cX8_isFrozen 43 = .ok (.ireturn, 1) := by decide +kernel
theorem dX8_isSteady_0 : decode cX8_isSteady 0 = .ok (.aload_n 0, 1) := by decide +kernel
theorem dX8_isSteady_1 : decode cX8_isSteady 1 = .ok (.getfield 21, 3) := by decide +kernel
theorem dX8_isSteady_4 : decode cX8_isSteady 4 = .ok (.iload_n 1, 1) := by decide +kernel
theorem dX8_isSteady_5 : decode cX8_isSteady 5 = .ok (.baload, 1) := by decide +kernel
theorem dX8_isSteady_6 : decode cX8_isSteady 6 = .ok (.ifCond .ne 36, 3) := by decide +kernel
theorem dX8_isSteady_9 : decode cX8_isSteady 9 = .ok (.aload_n 0, 1) := by decide +kernel
theorem dX8_isSteady_10 : decode cX8_isSteady 10 = .ok (.aload_n 0, 1) := by decide +kernel
theorem dX8_isSteady_11 : decode cX8_isSteady 11 = .ok (.getfield 28, 3) := by decide +kernel
theorem dX8_isSteady_14 : decode cX8_isSteady 14 = .ok (.getfield 42, 3) := by decide +kernel
theorem dX8_isSteady_17 : decode cX8_isSteady 17 = .ok (.iload_n 1, 1) := by decide +kernel
theorem dX8_isSteady_18 : decode cX8_isSteady 18 = .ok (.iaload, 1) := by decide +kernel
theorem dX8_isSteady_19 : decode cX8_isSteady 19 = .ok (.iload_n 1, 1) := by decide +kernel
theorem dX8_isSteady_20 : decode cX8_isSteady 20 = .ok (.aload_n 0, 1) := by decide +kernel
theorem dX8_isSteady_21 : decode cX8_isSteady 21 = .ok (.getfield 9, 3) := by decide +kernel
theorem dX8_isSteady_24 : decode cX8_isSteady 24 = .ok (.iload_n 1, 1) := by decide +kernel
theorem dX8_isSteady_25 : decode cX8_isSteady 25 = .ok (.iaload, 1) := by decide +kernel
theorem dX8_isSteady_26 : decode cX8_isSteady 26 = .ok (.invokevirtual 47, 3) := by decide +kernel
theorem dX8_isSteady_29 : decode cX8_isSteady 29 = .ok (.aload_n 0, 1) := by decide +kernel
theorem dX8_isSteady_30 : decode cX8_isSteady 30 = .ok (.getfield 18, 3) := by decide +kernel
theorem dX8_isSteady_33 : decode cX8_isSteady 33 = .ok (.iload_n 1, 1) := by decide +kernel
theorem dX8_isSteady_34 : decode cX8_isSteady 34 = .ok (.iaload, 1) := by decide +kernel
theorem dX8_isSteady_35 : decode cX8_isSteady 35 = .ok (.if_icmp .gt 7, 3) := by decide +kernel
theorem dX8_isSteady_38 : decode cX8_isSteady 38 = .ok (.iconst 1, 1) := by decide +kernel
theorem dX8_isSteady_39 : decode cX8_isSteady 39 = .ok (.goto 4, 3) := by decide +kernel
theorem dX8_isSteady_42 : decode cX8_isSteady 42 = .ok (.iconst 0, 1) := by decide +kernel
theorem dX8_isSteady_43 : decode cX8_isSteady 43 = .ok (.ireturn, 1) := by decide +kernel
theorem dX8_frozenBits_0 : decode cX8_frozenBits 0 = .ok (.iconst 0, 1) := by decide +kernel
theorem dX8_frozenBits_1 : decode cX8_frozenBits 1 = .ok (.istore_n 1, 1) := by decide +kernel
theorem dX8_frozenBits_2 : decode cX8_frozenBits 2 = .ok (.iconst 0, 1) := by decide +kernel
theorem dX8_frozenBits_3 : decode cX8_frozenBits 3 = .ok (.istore_n 2, 1) := by decide +kernel
theorem dX8_frozenBits_4 : decode cX8_frozenBits 4 = .ok (.iload_n 2, 1) := by decide +kernel
theorem dX8_frozenBits_5 : decode cX8_frozenBits 5 = .ok (.aload_n 0, 1) := by decide +kernel
theorem dX8_frozenBits_6 : decode cX8_frozenBits 6 = .ok (.getfield 28, 3) := by decide +kernel
theorem dX8_frozenBits_9 : decode cX8_frozenBits 9 = .ok (.getfield 51, 3) := by decide +kernel
theorem dX8_frozenBits_12 : decode cX8_frozenBits 12 = .ok (.if_icmp .ge 23, 3) := by decide +kernel
theorem dX8_frozenBits_15 : decode cX8_frozenBits 15 = .ok (.aload_n 0, 1) := by decide +kernel
theorem dX8_frozenBits_16 : decode cX8_frozenBits 16 = .ok (.iload_n 2, 1) := by decide +kernel
theorem dX8_frozenBits_17 : decode cX8_frozenBits 17 = .ok (.invokevirtual 61, 3) := by decide +kernel
theorem dX8_frozenBits_20 : decode cX8_frozenBits 20 = .ok (.ifCond .eq 9, 3) := by decide +kernel
theorem dX8_frozenBits_23 : decode cX8_frozenBits 23 = .ok (.iload_n 1, 1) := by decide +kernel
theorem dX8_frozenBits_24 : decode cX8_frozenBits 24 = .ok (.iconst 1, 1) := by decide +kernel
theorem dX8_frozenBits_25 : decode cX8_frozenBits 25 = .ok (.iload_n 2, 1) := by decide +kernel
theorem dX8_frozenBits_26 : decode cX8_frozenBits 26 = .ok (.ishl, 1) := by decide +kernel
theorem dX8_frozenBits_27 : decode cX8_frozenBits 27 = .ok (.ior, 1) := by decide +kernel
theorem dX8_frozenBits_28 : decode cX8_frozenBits 28 = .ok (.istore_n 1, 1) := by decide +kernel
theorem dX8_frozenBits_29 : decode cX8_frozenBits 29 = .ok (.iinc 2 1, 3) := by decide +kernel
theorem dX8_frozenBits_32 : decode cX8_frozenBits 32 = .ok (.goto (-28), 3) := by decide +kernel
theorem dX8_frozenBits_35 : decode cX8_frozenBits 35 = .ok (.iload_n 1, 1) := by decide +kernel
theorem dX8_frozenBits_36 : decode cX8_frozenBits 36 = .ok (.ireturn, 1) := by decide +kernel
theorem dX8_steadyBits_0 : decode cX8_steadyBits 0 = .ok (.iconst 0, 1) := by decide +kernel
theorem dX8_steadyBits_1 : decode cX8_steadyBits 1 = .ok (.istore_n 1, 1) := by decide +kernel
theorem dX8_steadyBits_2 : decode cX8_steadyBits 2 = .ok (.iconst 0, 1) := by decide +kernel
theorem dX8_steadyBits_3 : decode cX8_steadyBits 3 = .ok (.istore_n 2, 1) := by decide +kernel
theorem dX8_steadyBits_4 : decode cX8_steadyBits 4 = .ok (.iload_n 2, 1) := by decide +kernel
theorem dX8_steadyBits_5 : decode cX8_steadyBits 5 = .ok (.aload_n 0, 1) := by decide +kernel
theorem dX8_steadyBits_6 : decode cX8_steadyBits 6 = .ok (.getfield 28, 3) := by decide +kernel
theorem dX8_steadyBits_9 : decode cX8_steadyBits 9 = .ok (.getfield 51, 3) := by decide +kernel
theorem dX8_steadyBits_12 : decode cX8_steadyBits 12 = .ok (.if_icmp .ge 23, 3) := by decide +kernel
theorem dX8_steadyBits_15 : decode cX8_steadyBits 15 = .ok (.aload_n 0, 1) := by decide +kernel
theorem dX8_steadyBits_16 : decode cX8_steadyBits 16 = .ok (.iload_n 2, 1) := by decide +kernel
theorem dX8_steadyBits_17 : decode cX8_steadyBits 17 = .ok (.invokevirtual 65, 3) := by decide +kernel
theorem dX8_steadyBits_20 : decode cX8_steadyBits 20 = .ok (.ifCond .eq 9, 3) := by decide +kernel
theorem dX8_steadyBits_23 : decode cX8_steadyBits 23 = .ok (.iload_n 1, 1) := by decide +kernel
theorem dX8_steadyBits_24 : decode cX8_steadyBits 24 = .ok (.iconst 1, 1) := by decide +kernel
theorem dX8_steadyBits_25 : decode cX8_steadyBits 25 = .ok (.iload_n 2, 1) := by decide +kernel
theorem dX8_steadyBits_26 : decode cX8_steadyBits 26 = .ok (.ishl, 1) := by decide +kernel
theorem dX8_steadyBits_27 : decode cX8_steadyBits 27 = .ok (.ior, 1) := by decide +kernel
theorem dX8_steadyBits_28 : decode cX8_steadyBits 28 = .ok (.istore_n 1, 1) := by decide +kernel
theorem dX8_steadyBits_29 : decode cX8_steadyBits 29 = .ok (.iinc 2 1, 3) := by decide +kernel
theorem dX8_steadyBits_32 : decode cX8_steadyBits 32 = .ok (.goto (-28), 3) := by decide +kernel
theorem dX8_steadyBits_35 : decode cX8_steadyBits 35 = .ok (.iload_n 1, 1) := by decide +kernel
theorem dX8_steadyBits_36 : decode cX8_steadyBits 36 = .ok (.ireturn, 1) := by decide +kernel
theorem dX8_isDone_0 : decode cX8_isDone 0 = .ok (.iconst 0, 1) := by decide +kernel
theorem dX8_isDone_1 : decode cX8_isDone 1 = .ok (.istore_n 3, 1) := by decide +kernel
theorem dX8_isDone_2 : decode cX8_isDone 2 = .ok (.iconst 0, 1) := by decide +kernel
theorem dX8_isDone_3 : decode cX8_isDone 3 = .ok (.istore 4, 2) := by decide +kernel
theorem dX8_isDone_5 : decode cX8_isDone 5 = .ok (.iload 4, 2) := by decide +kernel
theorem dX8_isDone_7 : decode cX8_isDone 7 = .ok (.aload_n 0, 1) := by decide +kernel
theorem dX8_isDone_8 : decode cX8_isDone 8 = .ok (.getfield 28, 3) := by decide +kernel
theorem dX8_isDone_11 : decode cX8_isDone 11 = .ok (.getfield 51, 3) := by decide +kernel
theorem dX8_isDone_14 : decode cX8_isDone 14 = .ok (.if_icmp .ge 40, 3) := by decide +kernel
theorem dX8_isDone_17 : decode cX8_isDone 17 = .ok (.iload_n 2, 1) := by decide +kernel
theorem dX8_isDone_18 : decode cX8_isDone 18 = .ok (.iload 4, 2) := by decide +kernel
theorem dX8_isDone_20 : decode cX8_isDone 20 = .ok (.invokestatic 68, 3) := by decide +kernel
theorem dX8_isDone_23 : decode cX8_isDone 23 = .ok (.ifCond .eq 25, 3) := by decide +kernel
theorem dX8_isDone_26 : decode cX8_isDone 26 = .ok (.aload_n 0, 1) := by decide +kernel
theorem dX8_isDone_27 : decode cX8_isDone 27 = .ok (.getfield 9, 3) := by decide +kernel
theorem dX8_isDone_30 : decode cX8_isDone 30 = .ok (.iload 4, 2) := by decide +kernel
theorem dX8_isDone_32 : decode cX8_isDone 32 = .ok (.iaload, 1) := by decide +kernel
theorem dX8_isDone_33 : decode cX8_isDone 33 = .ok (.aload_n 0, 1) := by decide +kernel
theorem dX8_isDone_34 : decode cX8_isDone 34 = .ok (.getfield 28, 3) := by decide +kernel
theorem dX8_isDone_37 : decode cX8_isDone 37 = .ok (.getfield 72, 3) := by decide +kernel
theorem dX8_isDone_40 : decode cX8_isDone 40 = .ok (.iload_n 1, 1) := by decide +kernel
theorem dX8_isDone_41 : decode cX8_isDone 41 = .ok (.iaload, 1) := by decide +kernel
theorem dX8_isDone_42 : decode cX8_isDone 42 = .ok (.if_icmp .ne 6, 3) := by decide +kernel
theorem dX8_isDone_45 : decode cX8_isDone 45 = .ok (.iinc 3 1, 3) := by decide +kernel
theorem dX8_isDone_48 : decode cX8_isDone 48 = .ok (.iinc 4 1, 3) := by decide +kernel
theorem dX8_isDone_51 : decode cX8_isDone 51 = .ok (.goto (-46), 3) := by decide +kernel
theorem dX8_isDone_54 : decode cX8_isDone 54 = .ok (.iload_n 3, 1) := by decide +kernel
theorem dX8_isDone_55 : decode cX8_isDone 55 = .ok (.aload_n 0, 1) := by decide +kernel
theorem dX8_isDone_56 : decode cX8_isDone 56 = .ok (.getfield 28, 3) := by decide +kernel
theorem dX8_isDone_59 : decode cX8_isDone 59 = .ok (.getfield 75, 3) := by decide +kernel
theorem dX8_isDone_62 : decode cX8_isDone 62 = .ok (.iload_n 1, 1) := by decide +kernel
theorem dX8_isDone_63 : decode cX8_isDone 63 = .ok (.iaload, 1) := by decide +kernel
theorem dX8_isDone_64 : decode cX8_isDone 64 = .ok (.if_icmp .lt 7, 3) := by decide +kernel
theorem dX8_isDone_67 : decode cX8_isDone 67 = .ok (.iconst 1, 1) := by decide +kernel
theorem dX8_isDone_68 : decode cX8_isDone 68 = .ok (.goto 4, 3) := by decide +kernel
theorem dX8_isDone_71 : decode cX8_isDone 71 = .ok (.iconst 0, 1) := by decide +kernel
theorem dX8_isDone_72 : decode cX8_isDone 72 = .ok (.ireturn, 1) := by decide +kernel
theorem dX8_doneMany_0 : decode cX8_doneMany 0 = .ok (.aload_n 0, 1) := by decide +kernel
theorem dX8_doneMany_1 : decode cX8_doneMany 1 = .ok (.invokevirtual 78, 3) := by decide +kernel
theorem dX8_doneMany_4 : decode cX8_doneMany 4 = .ok (.istore_n 1, 1) := by decide +kernel
theorem dX8_doneMany_5 : decode cX8_doneMany 5 = .ok (.iconst 0, 1) := by decide +kernel
theorem dX8_doneMany_6 : decode cX8_doneMany 6 = .ok (.istore_n 2, 1) := by decide +kernel
theorem dX8_doneMany_7 : decode cX8_doneMany 7 = .ok (.iconst 0, 1) := by decide +kernel
theorem dX8_doneMany_8 : decode cX8_doneMany 8 = .ok (.istore_n 3, 1) := by decide +kernel
theorem dX8_doneMany_9 : decode cX8_doneMany 9 = .ok (.iload_n 3, 1) := by decide +kernel
theorem dX8_doneMany_10 : decode cX8_doneMany 10 = .ok (.aload_n 0, 1) := by decide +kernel
theorem dX8_doneMany_11 : decode cX8_doneMany 11 = .ok (.getfield 28, 3) := by decide +kernel
theorem dX8_doneMany_14 : decode cX8_doneMany 14 = .ok (.getfield 82, 3) := by decide +kernel
theorem dX8_doneMany_17 : decode cX8_doneMany 17 = .ok (.if_icmp .ge 21, 3) := by decide +kernel
theorem dX8_doneMany_20 : decode cX8_doneMany 20 = .ok (.aload_n 0, 1) := by decide +kernel
theorem dX8_doneMany_21 : decode cX8_doneMany 21 = .ok (.iload_n 3, 1) := by decide +kernel
theorem dX8_doneMany_22 : decode cX8_doneMany 22 = .ok (.iload_n 1, 1) := by decide +kernel
theorem dX8_doneMany_23 : decode cX8_doneMany 23 = .ok (.invokevirtual 85, 3) := by decide +kernel
theorem dX8_doneMany_26 : decode cX8_doneMany 26 = .ok (.ifCond .eq 6, 3) := by decide +kernel
theorem dX8_doneMany_29 : decode cX8_doneMany 29 = .ok (.iinc 2 1, 3) := by decide +kernel
theorem dX8_doneMany_32 : decode cX8_doneMany 32 = .ok (.iinc 3 1, 3) := by decide +kernel
theorem dX8_doneMany_35 : decode cX8_doneMany 35 = .ok (.goto (-26), 3) := by decide +kernel
theorem dX8_doneMany_38 : decode cX8_doneMany 38 = .ok (.iload_n 2, 1) := by decide +kernel
theorem dX8_doneMany_39 : decode cX8_doneMany 39 = .ok (.ireturn, 1) := by decide +kernel
theorem dX8_goneMany_0 : decode cX8_goneMany 0 = .ok (.iconst 0, 1) := by decide +kernel
theorem dX8_goneMany_1 : decode cX8_goneMany 1 = .ok (.istore_n 1, 1) := by decide +kernel
theorem dX8_goneMany_2 : decode cX8_goneMany 2 = .ok (.iconst 0, 1) := by decide +kernel
theorem dX8_goneMany_3 : decode cX8_goneMany 3 = .ok (.istore_n 2, 1) := by decide +kernel
theorem dX8_goneMany_4 : decode cX8_goneMany 4 = .ok (.iload_n 2, 1) := by decide +kernel
theorem dX8_goneMany_5 : decode cX8_goneMany 5 = .ok (.aload_n 0, 1) := by decide +kernel
theorem dX8_goneMany_6 : decode cX8_goneMany 6 = .ok (.getfield 28, 3) := by decide +kernel
theorem dX8_goneMany_9 : decode cX8_goneMany 9 = .ok (.getfield 51, 3) := by decide +kernel
theorem dX8_goneMany_12 : decode cX8_goneMany 12 = .ok (.if_icmp .ge 21, 3) := by decide +kernel
theorem dX8_goneMany_15 : decode cX8_goneMany 15 = .ok (.iload_n 1, 1) := by decide +kernel
theorem dX8_goneMany_16 : decode cX8_goneMany 16 = .ok (.aload_n 0, 1) := by decide +kernel
theorem dX8_goneMany_17 : decode cX8_goneMany 17 = .ok (.getfield 21, 3) := by decide +kernel
theorem dX8_goneMany_20 : decode cX8_goneMany 20 = .ok (.iload_n 2, 1) := by decide +kernel
theorem dX8_goneMany_21 : decode cX8_goneMany 21 = .ok (.baload, 1) := by decide +kernel
theorem dX8_goneMany_22 : decode cX8_goneMany 22 = .ok (.invokestatic 88, 3) := by decide +kernel
theorem dX8_goneMany_25 : decode cX8_goneMany 25 = .ok (.iadd, 1) := by decide +kernel
theorem dX8_goneMany_26 : decode cX8_goneMany 26 = .ok (.istore_n 1, 1) := by decide +kernel
theorem dX8_goneMany_27 : decode cX8_goneMany 27 = .ok (.iinc 2 1, 3) := by decide +kernel
theorem dX8_goneMany_30 : decode cX8_goneMany 30 = .ok (.goto (-26), 3) := by decide +kernel
theorem dX8_goneMany_33 : decode cX8_goneMany 33 = .ok (.iload_n 1, 1) := by decide +kernel
theorem dX8_goneMany_34 : decode cX8_goneMany 34 = .ok (.ireturn, 1) := by decide +kernel
theorem dX8_stepsTogether_0 : decode cX8_stepsTogether 0 = .ok (.iconst 0, 1) := by decide +kernel
theorem dX8_stepsTogether_1 : decode cX8_stepsTogether 1 = .ok (.istore_n 1, 1) := by decide +kernel
theorem dX8_stepsTogether_2 : decode cX8_stepsTogether 2 = .ok (.iconst 0, 1) := by decide +kernel
theorem dX8_stepsTogether_3 : decode cX8_stepsTogether 3 = .ok (.istore_n 2, 1) := by decide +kernel
theorem dX8_stepsTogether_4 : decode cX8_stepsTogether 4 = .ok (.iload_n 2, 1) := by decide +kernel
theorem dX8_stepsTogether_5 : decode cX8_stepsTogether 5 = .ok (.aload_n 0, 1) := by decide +kernel
theorem dX8_stepsTogether_6 : decode cX8_stepsTogether 6 = .ok (.getfield 28, 3) := by decide +kernel
theorem dX8_stepsTogether_9 : decode cX8_stepsTogether 9 = .ok (.getfield 51, 3) := by decide +kernel
theorem dX8_stepsTogether_12 : decode cX8_stepsTogether 12 = .ok (.if_icmp .ge 31, 3) := by decide +kernel
theorem dX8_stepsTogether_15 : decode cX8_stepsTogether 15 = .ok (.iload_n 1, 1) := by decide +kernel
theorem dX8_stepsTogether_16 : decode cX8_stepsTogether 16 = .ok (.aload_n 0, 1) := by decide +kernel
theorem dX8_stepsTogether_17 : decode cX8_stepsTogether 17 = .ok (.getfield 21, 3) := by decide +kernel
theorem dX8_stepsTogether_20 : decode cX8_stepsTogether 20 = .ok (.iload_n 2, 1) := by decide +kernel
theorem dX8_stepsTogether_21 : decode cX8_stepsTogether 21 = .ok (.baload, 1) := by decide +kernel
theorem dX8_stepsTogether_22 : decode cX8_stepsTogether 22 = .ok (.ifCond .eq 7, 3) := by decide +kernel
theorem dX8_stepsTogether_25 : decode cX8_stepsTogether 25 = .ok (.iconst 0, 1) := by decide +kernel
theorem dX8_stepsTogether_26 : decode cX8_stepsTogether 26 = .ok (.goto 9, 3) := by decide +kernel
theorem dX8_stepsTogether_29 : decode cX8_stepsTogether 29 = .ok (.aload_n 0, 1) := by decide +kernel
theorem dX8_stepsTogether_30 : decode cX8_stepsTogether 30 = .ok (.getfield 9, 3) := by decide +kernel
theorem dX8_stepsTogether_33 : decode cX8_stepsTogether 33 = .ok (.iload_n 2, 1) := by decide +kernel
theorem dX8_stepsTogether_34 : decode cX8_stepsTogether 34 = .ok (.iaload, 1) := by decide +kernel
theorem dX8_stepsTogether_35 : decode cX8_stepsTogether 35 = .ok (.iadd, 1) := by decide +kernel
theorem dX8_stepsTogether_36 : decode cX8_stepsTogether 36 = .ok (.istore_n 1, 1) := by decide +kernel
theorem dX8_stepsTogether_37 : decode cX8_stepsTogether 37 = .ok (.iinc 2 1, 3) := by decide +kernel
theorem dX8_stepsTogether_40 : decode cX8_stepsTogether 40 = .ok (.goto (-36), 3) := by decide +kernel
theorem dX8_stepsTogether_43 : decode cX8_stepsTogether 43 = .ok (.iload_n 1, 1) := by decide +kernel
theorem dX8_stepsTogether_44 : decode cX8_stepsTogether 44 = .ok (.ireturn, 1) := by decide +kernel
theorem dX8_goYears_0 : decode cX8_goYears 0 = .ok (.iconst 0, 1) := by decide +kernel
theorem dX8_goYears_1 : decode cX8_goYears 1 = .ok (.istore_n 2, 1) := by decide +kernel
theorem dX8_goYears_2 : decode cX8_goYears 2 = .ok (.iload_n 2, 1) := by decide +kernel
theorem dX8_goYears_3 : decode cX8_goYears 3 = .ok (.iload_n 1, 1) := by decide +kernel
theorem dX8_goYears_4 : decode cX8_goYears 4 = .ok (.if_icmp .ge 13, 3) := by decide +kernel
theorem dX8_goYears_7 : decode cX8_goYears 7 = .ok (.aload_n 0, 1) := by decide +kernel
theorem dX8_goYears_8 : decode cX8_goYears 8 = .ok (.invokevirtual 92, 3) := by decide +kernel
theorem dX8_goYears_11 : decode cX8_goYears 11 = .ok (.iinc 2 1, 3) := by decide +kernel
theorem dX8_goYears_14 : decode cX8_goYears 14 = .ok (.goto (-12), 3) := by decide +kernel
theorem dX8_goYears_17 : decode cX8_goYears 17 = .ok (.return_, 1) := by decide +kernel
theorem dX8_goYear_0 : decode cX8_goYear 0 = .ok (.iconst 0, 1) := by decide +kernel
theorem dX8_goYear_1 : decode cX8_goYear 1 = .ok (.istore_n 1, 1) := by decide +kernel
theorem dX8_goYear_2 : decode cX8_goYear 2 = .ok (.iconst 0, 1) := by decide +kernel
theorem dX8_goYear_3 : decode cX8_goYear 3 = .ok (.istore_n 2, 1) := by decide +kernel
theorem dX8_goYear_4 : decode cX8_goYear 4 = .ok (.iconst 0, 1) := by decide +kernel
theorem dX8_goYear_5 : decode cX8_goYear 5 = .ok (.istore_n 3, 1) := by decide +kernel
theorem dX8_goYear_6 : decode cX8_goYear 6 = .ok (.iload_n 3, 1) := by decide +kernel
theorem dX8_goYear_7 : decode cX8_goYear 7 = .ok (.aload_n 0, 1) := by decide +kernel
theorem dX8_goYear_8 : decode cX8_goYear 8 = .ok (.getfield 28, 3) := by decide +kernel
theorem dX8_goYear_11 : decode cX8_goYear 11 = .ok (.getfield 51, 3) := by decide +kernel
theorem dX8_goYear_14 : decode cX8_goYear 14 = .ok (.if_icmp .ge 74, 3) := by decide +kernel
theorem dX8_goYear_17 : decode cX8_goYear 17 = .ok (.aload_n 0, 1) := by decide +kernel
theorem dX8_goYear_18 : decode cX8_goYear 18 = .ok (.iload_n 3, 1) := by decide +kernel
theorem dX8_goYear_19 : decode cX8_goYear 19 = .ok (.aload_n 0, 1) := by decide +kernel
theorem dX8_goYear_20 : decode cX8_goYear 20 = .ok (.getfield 9, 3) := by decide +kernel
theorem dX8_goYear_23 : decode cX8_goYear 23 = .ok (.iload_n 3, 1) := by decide +kernel
theorem dX8_goYear_24 : decode cX8_goYear 24 = .ok (.iaload, 1) := by decide +kernel
theorem dX8_goYear_25 : decode cX8_goYear 25 = .ok (.invokevirtual 95, 3) := by decide +kernel
theorem dX8_goYear_28 : decode cX8_goYear 28 = .ok (.aload_n 0, 1) := by decide +kernel
theorem dX8_goYear_29 : decode cX8_goYear 29 = .ok (.getfield 18, 3) := by decide +kernel
theorem dX8_goYear_32 : decode cX8_goYear 32 = .ok (.iload_n 3, 1) := by decide +kernel
theorem dX8_goYear_33 : decode cX8_goYear 33 = .ok (.iaload, 1) := by decide +kernel
theorem dX8_goYear_34 : decode cX8_goYear 34 = .ok (.isub, 1) := by decide +kernel
theorem dX8_goYear_35 : decode cX8_goYear 35 = .ok (.istore 4, 2) := by decide +kernel
theorem dX8_goYear_37 : decode cX8_goYear 37 = .ok (.aload_n 0, 1) := by decide +kernel
theorem dX8_goYear_38 : decode cX8_goYear 38 = .ok (.getfield 21, 3) := by decide +kernel
theorem dX8_goYear_41 : decode cX8_goYear 41 = .ok (.iload_n 3, 1) := by decide +kernel
theorem dX8_goYear_42 : decode cX8_goYear 42 = .ok (.baload, 1) := by decide +kernel
theorem dX8_goYear_43 : decode cX8_goYear 43 = .ok (.ifCond .ne 19, 3) := by decide +kernel
theorem dX8_goYear_46 : decode cX8_goYear 46 = .ok (.iload 4, 2) := by decide +kernel
theorem dX8_goYear_48 : decode cX8_goYear 48 = .ok (.bipush 8, 2) := by decide +kernel
theorem dX8_goYear_50 : decode cX8_goYear 50 = .ok (.if_icmp .lt 12, 3) := by decide +kernel
theorem dX8_goYear_53 : decode cX8_goYear 53 = .ok (.iload_n 2, 1) := by decide +kernel
theorem dX8_goYear_54 : decode cX8_goYear 54 = .ok (.iconst 1, 1) := by decide +kernel
theorem dX8_goYear_55 : decode cX8_goYear 55 = .ok (.iload_n 3, 1) := by decide +kernel
theorem dX8_goYear_56 : decode cX8_goYear 56 = .ok (.ishl, 1) := by decide +kernel
theorem dX8_goYear_57 : decode cX8_goYear 57 = .ok (.ior, 1) := by decide +kernel
theorem dX8_goYear_58 : decode cX8_goYear 58 = .ok (.istore_n 2, 1) := by decide +kernel
theorem dX8_goYear_59 : decode cX8_goYear 59 = .ok (.goto 23, 3) := by decide +kernel
theorem dX8_goYear_62 : decode cX8_goYear 62 = .ok (.aload_n 0, 1) := by decide +kernel
theorem dX8_goYear_63 : decode cX8_goYear 63 = .ok (.getfield 21, 3) := by decide +kernel
theorem dX8_goYear_66 : decode cX8_goYear 66 = .ok (.iload_n 3, 1) := by decide +kernel
theorem dX8_goYear_67 : decode cX8_goYear 67 = .ok (.baload, 1) := by decide +kernel
theorem dX8_goYear_68 : decode cX8_goYear 68 = .ok (.ifCond .ne 14, 3) := by decide +kernel
theorem dX8_goYear_71 : decode cX8_goYear 71 = .ok (.iload 4, 2) := by decide +kernel
theorem dX8_goYear_73 : decode cX8_goYear 73 = .ok (.ifCond .le 9, 3) := by decide +kernel
theorem dX8_goYear_76 : decode cX8_goYear 76 = .ok (.iload_n 1, 1) := by decide +kernel
theorem dX8_goYear_77 : decode cX8_goYear 77 = .ok (.iconst 1, 1) := by decide +kernel
theorem dX8_goYear_78 : decode cX8_goYear 78 = .ok (.iload_n 3, 1) := by decide +kernel
theorem dX8_goYear_79 : decode cX8_goYear 79 = .ok (.ishl, 1) := by decide +kernel
theorem dX8_goYear_80 : decode cX8_goYear 80 = .ok (.ior, 1) := by decide +kernel
theorem dX8_goYear_81 : decode cX8_goYear 81 = .ok (.istore_n 1, 1) := by decide +kernel
theorem dX8_goYear_82 : decode cX8_goYear 82 = .ok (.iinc 3 1, 3) := by decide +kernel
theorem dX8_goYear_85 : decode cX8_goYear 85 = .ok (.goto (-79), 3) := by decide +kernel
theorem dX8_goYear_88 : decode cX8_goYear 88 = .ok (.iconst 0, 1) := by decide +kernel
theorem dX8_goYear_89 : decode cX8_goYear 89 = .ok (.istore_n 3, 1) := by decide +kernel
theorem dX8_goYear_90 : decode cX8_goYear 90 = .ok (.iload_n 3, 1) := by decide +kernel
theorem dX8_goYear_91 : decode cX8_goYear 91 = .ok (.aload_n 0, 1) := by decide +kernel
theorem dX8_goYear_92 : decode cX8_goYear 92 = .ok (.getfield 28, 3) := by decide +kernel
theorem dX8_goYear_95 : decode cX8_goYear 95 = .ok (.getfield 51, 3) := by decide +kernel
theorem dX8_goYear_98 : decode cX8_goYear 98 = .ok (.if_icmp .ge 104, 3) := by decide +kernel
theorem dX8_goYear_101 : decode cX8_goYear 101 = .ok (.iload_n 2, 1) := by decide +kernel
theorem dX8_goYear_102 : decode cX8_goYear 102 = .ok (.iload_n 3, 1) := by decide +kernel
theorem dX8_goYear_103 : decode cX8_goYear 103 = .ok (.invokestatic 68, 3) := by decide +kernel
theorem dX8_goYear_106 : decode cX8_goYear 106 = .ok (.ifCond .eq 13, 3) := by decide +kernel
theorem dX8_goYear_109 : decode cX8_goYear 109 = .ok (.aload_n 0, 1) := by decide +kernel
theorem dX8_goYear_110 : decode cX8_goYear 110 = .ok (.getfield 21, 3) := by decide +kernel
theorem dX8_goYear_113 : decode cX8_goYear 113 = .ok (.iload_n 3, 1) := by decide +kernel
theorem dX8_goYear_114 : decode cX8_goYear 114 = .ok (.iconst 1, 1) := by decide +kernel
theorem dX8_goYear_115 : decode cX8_goYear 115 = .ok (.bastore, 1) := by decide +kernel
theorem dX8_goYear_116 : decode cX8_goYear 116 = .ok (.goto 54, 3) := by decide +kernel
theorem dX8_goYear_119 : decode cX8_goYear 119 = .ok (.aload_n 0, 1) := by decide +kernel
theorem dX8_goYear_120 : decode cX8_goYear 120 = .ok (.getfield 21, 3) := by decide +kernel
theorem dX8_goYear_123 : decode cX8_goYear 123 = .ok (.iload_n 3, 1) := by decide +kernel
theorem dX8_goYear_124 : decode cX8_goYear 124 = .ok (.baload, 1) := by decide +kernel
theorem dX8_goYear_125 : decode cX8_goYear 125 = .ok (.ifCond .ne 45, 3) := by decide +kernel
theorem dX8_goYear_128 : decode cX8_goYear 128 = .ok (.aload_n 0, 1) := by decide +kernel
theorem dX8_goYear_129 : decode cX8_goYear 129 = .ok (.getfield 18, 3) := by decide +kernel
theorem dX8_goYear_132 : decode cX8_goYear 132 = .ok (.iload_n 3, 1) := by decide +kernel
theorem dX8_goYear_133 : decode cX8_goYear 133 = .ok (.iload_n 1, 1) := by decide +kernel
theorem dX8_goYear_134 : decode cX8_goYear 134 = .ok (.iload_n 3, 1) := by decide +kernel
theorem dX8_goYear_135 : decode cX8_goYear 135 = .ok (.invokestatic 68, 3) := by decide +kernel
theorem dX8_goYear_138 : decode cX8_goYear 138 = .ok (.ifCond .eq 18, 3) := by decide +kernel
theorem dX8_goYear_141 : decode cX8_goYear 141 = .ok (.aload_n 0, 1) := by decide +kernel
theorem dX8_goYear_142 : decode cX8_goYear 142 = .ok (.getfield 18, 3) := by decide +kernel
theorem dX8_goYear_145 : decode cX8_goYear 145 = .ok (.iload_n 3, 1) := by decide +kernel
theorem dX8_goYear_146 : decode cX8_goYear 146 = .ok (.iaload, 1) := by decide +kernel
theorem dX8_goYear_147 : decode cX8_goYear 147 = .ok (.iconst 1, 1) := by decide +kernel
theorem dX8_goYear_148 : decode cX8_goYear 148 = .ok (.isub, 1) := by decide +kernel
theorem dX8_goYear_149 : decode cX8_goYear 149 = .ok (.iconst 0, 1) := by decide +kernel
theorem dX8_goYear_150 : decode cX8_goYear 150 = .ok (.invokestatic 99, 3) := by decide +kernel
theorem dX8_goYear_153 : decode cX8_goYear 153 = .ok (.goto 16, 3) := by decide +kernel
theorem dX8_goYear_156 : decode cX8_goYear 156 = .ok (.aload_n 0, 1) := by decide +kernel
theorem dX8_goYear_157 : decode cX8_goYear 157 = .ok (.getfield 18, 3) := by decide +kernel
theorem dX8_goYear_160 : decode cX8_goYear 160 = .ok (.iload_n 3, 1) := by decide +kernel
theorem dX8_goYear_161 : decode cX8_goYear 161 = .ok (.iaload, 1) := by decide +kernel
theorem dX8_goYear_162 : decode cX8_goYear 162 = .ok (.iconst 1, 1) := by decide +kernel
theorem dX8_goYear_163 : decode cX8_goYear 163 = .ok (.iadd, 1) := by decide +kernel
theorem dX8_goYear_164 : decode cX8_goYear 164 = .ok (.bipush 30, 2) := by decide +kernel
theorem dX8_goYear_166 : decode cX8_goYear 166 = .ok (.invokestatic 104, 3) := by decide +kernel
theorem dX8_goYear_169 : decode cX8_goYear 169 = .ok (.iastore, 1) := by decide +kernel
theorem dX8_goYear_170 : decode cX8_goYear 170 = .ok (.aload_n 0, 1) := by decide +kernel
theorem dX8_goYear_171 : decode cX8_goYear 171 = .ok (.getfield 15, 3) := by decide +kernel
theorem dX8_goYear_174 : decode cX8_goYear 174 = .ok (.iload_n 3, 1) := by decide +kernel
theorem dX8_goYear_175 : decode cX8_goYear 175 = .ok (.aload_n 0, 1) := by decide +kernel
theorem dX8_goYear_176 : decode cX8_goYear 176 = .ok (.getfield 15, 3) := by decide +kernel
theorem dX8_goYear_179 : decode cX8_goYear 179 = .ok (.iload_n 3, 1) := by decide +kernel
theorem dX8_goYear_180 : decode cX8_goYear 180 = .ok (.iaload, 1) := by decide +kernel
theorem dX8_goYear_181 : decode cX8_goYear 181 = .ok (.iconst 1, 1) := by decide +kernel
theorem dX8_goYear_182 : decode cX8_goYear 182 = .ok (.iadd, 1) := by decide +kernel
theorem dX8_goYear_183 : decode cX8_goYear 183 = .ok (.bipush 99, 2) := by decide +kernel
theorem dX8_goYear_185 : decode cX8_goYear 185 = .ok (.invokestatic 104, 3) := by decide +kernel
theorem dX8_goYear_188 : decode cX8_goYear 188 = .ok (.iastore, 1) := by decide +kernel
theorem dX8_goYear_189 : decode cX8_goYear 189 = .ok (.aload_n 0, 1) := by decide +kernel
theorem dX8_goYear_190 : decode cX8_goYear 190 = .ok (.getfield 25, 3) := by decide +kernel
theorem dX8_goYear_193 : decode cX8_goYear 193 = .ok (.iload_n 3, 1) := by decide +kernel
theorem dX8_goYear_194 : decode cX8_goYear 194 = .ok (.iconst 0, 1) := by decide +kernel
theorem dX8_goYear_195 : decode cX8_goYear 195 = .ok (.bastore, 1) := by decide +kernel
theorem dX8_goYear_196 : decode cX8_goYear 196 = .ok (.iinc 3 1, 3) := by decide +kernel
theorem dX8_goYear_199 : decode cX8_goYear 199 = .ok (.goto (-109), 3) := by decide +kernel
theorem dX8_goYear_202 : decode cX8_goYear 202 = .ok (.aload_n 0, 1) := by decide +kernel
theorem dX8_goYear_203 : decode cX8_goYear 203 = .ok (.dup, 1) := by decide +kernel
theorem dX8_goYear_204 : decode cX8_goYear 204 = .ok (.getfield 38, 3) := by decide +kernel
theorem dX8_goYear_207 : decode cX8_goYear 207 = .ok (.iconst 1, 1) := by decide +kernel
theorem dX8_goYear_208 : decode cX8_goYear 208 = .ok (.iadd, 1) := by decide +kernel
theorem dX8_goYear_209 : decode cX8_goYear 209 = .ok (.putfield 38, 3) := by decide +kernel
theorem dX8_goYear_212 : decode cX8_goYear 212 = .ok (.return_, 1) := by decide +kernel
theorem dX8_mayGoDown_0 : decode cX8_mayGoDown 0 = .ok (.aload_n 0, 1) := by decide +kernel
theorem dX8_mayGoDown_1 : decode cX8_mayGoDown 1 = .ok (.getfield 9, 3) := by decide +kernel
theorem dX8_mayGoDown_4 : decode cX8_mayGoDown 4 = .ok (.iload_n 1, 1) := by decide +kernel
theorem dX8_mayGoDown_5 : decode cX8_mayGoDown 5 = .ok (.iaload, 1) := by decide +kernel
theorem dX8_mayGoDown_6 : decode cX8_mayGoDown 6 = .ok (.ifCond .le 15, 3) := by decide +kernel
theorem dX8_mayGoDown_9 : decode cX8_mayGoDown 9 = .ok (.aload_n 0, 1) := by decide +kernel
theorem dX8_mayGoDown_10 : decode cX8_mayGoDown 10 = .ok (.iload_n 1, 1) := by decide +kernel
theorem dX8_mayGoDown_11 : decode cX8_mayGoDown 11 = .ok (.invokevirtual 65, 3) := by decide +kernel
theorem dX8_mayGoDown_14 : decode cX8_mayGoDown 14 = .ok (.ifCond .eq 7, 3) := by decide +kernel
theorem dX8_mayGoDown_17 : decode cX8_mayGoDown 17 = .ok (.iconst 1, 1) := by decide +kernel
theorem dX8_mayGoDown_18 : decode cX8_mayGoDown 18 = .ok (.goto 4, 3) := by decide +kernel
theorem dX8_mayGoDown_21 : decode cX8_mayGoDown 21 = .ok (.iconst 0, 1) := by decide +kernel
theorem dX8_mayGoDown_22 : decode cX8_mayGoDown 22 = .ok (.ireturn, 1) := by decide +kernel
theorem dX8_goDown_0 : decode cX8_goDown 0 = .ok (.aload_n 0, 1) := by decide +kernel
theorem dX8_goDown_1 : decode cX8_goDown 1 = .ok (.getfield 9, 3) := by decide +kernel
theorem dX8_goDown_4 : decode cX8_goDown 4 = .ok (.iload_n 1, 1) := by decide +kernel
theorem dX8_goDown_5 : decode cX8_goDown 5 = .ok (.dup2, 1) := by decide +kernel
theorem dX8_goDown_6 : decode cX8_goDown 6 = .ok (.iaload, 1) := by decide +kernel
theorem dX8_goDown_7 : decode cX8_goDown 7 = .ok (.iconst 1, 1) := by decide +kernel
theorem dX8_goDown_8 : decode cX8_goDown 8 = .ok (.isub, 1) := by decide +kernel
theorem dX8_goDown_9 : decode cX8_goDown 9 = .ok (.iastore, 1) := by decide +kernel
theorem dX8_goDown_10 : decode cX8_goDown 10 = .ok (.return_, 1) := by decide +kernel
theorem dX8_mayGoUp_0 : decode cX8_mayGoUp 0 = .ok (.aload_n 0, 1) := by decide +kernel
theorem dX8_mayGoUp_1 : decode cX8_mayGoUp 1 = .ok (.getfield 9, 3) := by decide +kernel
theorem dX8_mayGoUp_4 : decode cX8_mayGoUp 4 = .ok (.iload_n 1, 1) := by decide +kernel
theorem dX8_mayGoUp_5 : decode cX8_mayGoUp 5 = .ok (.iaload, 1) := by decide +kernel
theorem dX8_mayGoUp_6 : decode cX8_mayGoUp 6 = .ok (.aload_n 0, 1) := by decide +kernel
theorem dX8_mayGoUp_7 : decode cX8_mayGoUp 7 = .ok (.getfield 28, 3) := by decide +kernel
theorem dX8_mayGoUp_10 : decode cX8_mayGoUp 10 = .ok (.getfield 58, 3) := by decide +kernel
theorem dX8_mayGoUp_13 : decode cX8_mayGoUp 13 = .ok (.iconst 1, 1) := by decide +kernel
theorem dX8_mayGoUp_14 : decode cX8_mayGoUp 14 = .ok (.isub, 1) := by decide +kernel
theorem dX8_mayGoUp_15 : decode cX8_mayGoUp 15 = .ok (.if_icmp .ge 16, 3) := by decide +kernel
theorem dX8_mayGoUp_18 : decode cX8_mayGoUp 18 = .ok (.aload_n 0, 1) := by decide +kernel
theorem dX8_mayGoUp_19 : decode cX8_mayGoUp 19 = .ok (.getfield 21, 3) := by decide +kernel
theorem dX8_mayGoUp_22 : decode cX8_mayGoUp 22 = .ok (.iload_n 1, 1) := by decide +kernel
theorem dX8_mayGoUp_23 : decode cX8_mayGoUp 23 = .ok (.baload, 1) := by decide +kernel
theorem dX8_mayGoUp_24 : decode cX8_mayGoUp 24 = .ok (.ifCond .ne 7, 3) := by decide +kernel
theorem dX8_mayGoUp_27 : decode cX8_mayGoUp 27 = .ok (.iconst 1, 1) := by decide +kernel
theorem dX8_mayGoUp_28 : decode cX8_mayGoUp 28 = .ok (.goto 4, 3) := by decide +kernel
theorem dX8_mayGoUp_31 : decode cX8_mayGoUp 31 = .ok (.iconst 0, 1) := by decide +kernel
theorem dX8_mayGoUp_32 : decode cX8_mayGoUp 32 = .ok (.ireturn, 1) := by decide +kernel
theorem dX8_goUp_0 : decode cX8_goUp 0 = .ok (.aload_n 0, 1) := by decide +kernel
theorem dX8_goUp_1 : decode cX8_goUp 1 = .ok (.getfield 9, 3) := by decide +kernel
theorem dX8_goUp_4 : decode cX8_goUp 4 = .ok (.iload_n 1, 1) := by decide +kernel
theorem dX8_goUp_5 : decode cX8_goUp 5 = .ok (.dup2, 1) := by decide +kernel
theorem dX8_goUp_6 : decode cX8_goUp 6 = .ok (.iaload, 1) := by decide +kernel
theorem dX8_goUp_7 : decode cX8_goUp 7 = .ok (.iconst 1, 1) := by decide +kernel
theorem dX8_goUp_8 : decode cX8_goUp 8 = .ok (.iadd, 1) := by decide +kernel
theorem dX8_goUp_9 : decode cX8_goUp 9 = .ok (.iastore, 1) := by decide +kernel
theorem dX8_goUp_10 : decode cX8_goUp 10 = .ok (.return_, 1) := by decide +kernel
theorem dX8_mayBeCalled_0 : decode cX8_mayBeCalled 0 = .ok (.aload_n 0, 1) := by decide +kernel
theorem dX8_mayBeCalled_1 : decode cX8_mayBeCalled 1 = .ok (.getfield 21, 3) := by decide +kernel
theorem dX8_mayBeCalled_4 : decode cX8_mayBeCalled 4 = .ok (.iload_n 1, 1) := by decide +kernel
theorem dX8_mayBeCalled_5 : decode cX8_mayBeCalled 5 = .ok (.baload, 1) := by decide +kernel
theorem dX8_mayBeCalled_6 : decode cX8_mayBeCalled 6 = .ok (.ifCond .ne 16, 3) := by decide +kernel
theorem dX8_mayBeCalled_9 : decode cX8_mayBeCalled 9 = .ok (.aload_n 0, 1) := by decide +kernel
theorem dX8_mayBeCalled_10 : decode cX8_mayBeCalled 10 = .ok (.getfield 25, 3) := by decide +kernel
theorem dX8_mayBeCalled_13 : decode cX8_mayBeCalled 13 = .ok (.iload_n 1, 1) := by decide +kernel
theorem dX8_mayBeCalled_14 : decode cX8_mayBeCalled 14 = .ok (.baload, 1) := by decide +kernel
theorem dX8_mayBeCalled_15 : decode cX8_mayBeCalled 15 = .ok (.ifCond .ne 7, 3) := by decide +kernel
theorem dX8_mayBeCalled_18 : decode cX8_mayBeCalled 18 = .ok (.iconst 1, 1) := by decide +kernel
theorem dX8_mayBeCalled_19 : decode cX8_mayBeCalled 19 = .ok (.goto 4, 3) := by decide +kernel
theorem dX8_mayBeCalled_22 : decode cX8_mayBeCalled 22 = .ok (.iconst 0, 1) := by decide +kernel
theorem dX8_mayBeCalled_23 : decode cX8_mayBeCalled 23 = .ok (.ireturn, 1) := by decide +kernel
theorem dX8_hearCall_0 : decode cX8_hearCall 0 = .ok (.iconst 0, 1) := by decide +kernel
theorem dX8_hearCall_1 : decode cX8_hearCall 1 = .ok (.istore_n 2, 1) := by decide +kernel
theorem dX8_hearCall_2 : decode cX8_hearCall 2 = .ok (.iconst 0, 1) := by decide +kernel
theorem dX8_hearCall_3 : decode cX8_hearCall 3 = .ok (.istore_n 3, 1) := by decide +kernel
theorem dX8_hearCall_4 : decode cX8_hearCall 4 = .ok (.iload_n 3, 1) := by decide +kernel
theorem dX8_hearCall_5 : decode cX8_hearCall 5 = .ok (.aload_n 0, 1) := by decide +kernel
theorem dX8_hearCall_6 : decode cX8_hearCall 6 = .ok (.getfield 28, 3) := by decide +kernel
theorem dX8_hearCall_9 : decode cX8_hearCall 9 = .ok (.getfield 51, 3) := by decide +kernel
theorem dX8_hearCall_12 : decode cX8_hearCall 12 = .ok (.if_icmp .ge 35, 3) := by decide +kernel
theorem dX8_hearCall_15 : decode cX8_hearCall 15 = .ok (.aload_n 0, 1) := by decide +kernel
theorem dX8_hearCall_16 : decode cX8_hearCall 16 = .ok (.getfield 9, 3) := by decide +kernel
theorem dX8_hearCall_19 : decode cX8_hearCall 19 = .ok (.iload_n 3, 1) := by decide +kernel
theorem dX8_hearCall_20 : decode cX8_hearCall 20 = .ok (.iaload, 1) := by decide +kernel
theorem dX8_hearCall_21 : decode cX8_hearCall 21 = .ok (.aload_n 0, 1) := by decide +kernel
theorem dX8_hearCall_22 : decode cX8_hearCall 22 = .ok (.getfield 9, 3) := by decide +kernel
theorem dX8_hearCall_25 : decode cX8_hearCall 25 = .ok (.iload_n 1, 1) := by decide +kernel
theorem dX8_hearCall_26 : decode cX8_hearCall 26 = .ok (.iaload, 1) := by decide +kernel
theorem dX8_hearCall_27 : decode cX8_hearCall 27 = .ok (.if_icmp .le 14, 3) := by decide +kernel
theorem dX8_hearCall_30 : decode cX8_hearCall 30 = .ok (.aload_n 0, 1) := by decide +kernel
theorem dX8_hearCall_31 : decode cX8_hearCall 31 = .ok (.iload_n 3, 1) := by decide +kernel
theorem dX8_hearCall_32 : decode cX8_hearCall 32 = .ok (.invokevirtual 65, 3) := by decide +kernel
theorem dX8_hearCall_35 : decode cX8_hearCall 35 = .ok (.ifCond .eq 6, 3) := by decide +kernel
theorem dX8_hearCall_38 : decode cX8_hearCall 38 = .ok (.iinc 2 1, 3) := by decide +kernel
theorem dX8_hearCall_41 : decode cX8_hearCall 41 = .ok (.iinc 3 1, 3) := by decide +kernel
theorem dX8_hearCall_44 : decode cX8_hearCall 44 = .ok (.goto (-40), 3) := by decide +kernel
theorem dX8_hearCall_47 : decode cX8_hearCall 47 = .ok (.aload_n 0, 1) := by decide +kernel
theorem dX8_hearCall_48 : decode cX8_hearCall 48 = .ok (.getfield 18, 3) := by decide +kernel
theorem dX8_hearCall_51 : decode cX8_hearCall 51 = .ok (.iload_n 1, 1) := by decide +kernel
theorem dX8_hearCall_52 : decode cX8_hearCall 52 = .ok (.aload_n 0, 1) := by decide +kernel
theorem dX8_hearCall_53 : decode cX8_hearCall 53 = .ok (.getfield 18, 3) := by decide +kernel
theorem dX8_hearCall_56 : decode cX8_hearCall 56 = .ok (.iload_n 1, 1) := by decide +kernel
theorem dX8_hearCall_57 : decode cX8_hearCall 57 = .ok (.iaload, 1) := by decide +kernel
theorem dX8_hearCall_58 : decode cX8_hearCall 58 = .ok (.iload_n 2, 1) := by decide +kernel
theorem dX8_hearCall_59 : decode cX8_hearCall 59 = .ok (.iadd, 1) := by decide +kernel
theorem dX8_hearCall_60 : decode cX8_hearCall 60 = .ok (.bipush 30, 2) := by decide +kernel
theorem dX8_hearCall_62 : decode cX8_hearCall 62 = .ok (.invokestatic 104, 3) := by decide +kernel
theorem dX8_hearCall_65 : decode cX8_hearCall 65 = .ok (.iastore, 1) := by decide +kernel
theorem dX8_hearCall_66 : decode cX8_hearCall 66 = .ok (.aload_n 0, 1) := by decide +kernel
theorem dX8_hearCall_67 : decode cX8_hearCall 67 = .ok (.getfield 25, 3) := by decide +kernel
theorem dX8_hearCall_70 : decode cX8_hearCall 70 = .ok (.iload_n 1, 1) := by decide +kernel
theorem dX8_hearCall_71 : decode cX8_hearCall 71 = .ok (.iconst 1, 1) := by decide +kernel
theorem dX8_hearCall_72 : decode cX8_hearCall 72 = .ok (.bastore, 1) := by decide +kernel
theorem dX8_hearCall_73 : decode cX8_hearCall 73 = .ok (.return_, 1) := by decide +kernel
theorem dX8_actBy_0 : decode cX8_actBy 0 = .ok (.aload_n 0, 1) := by decide +kernel
theorem dX8_actBy_1 : decode cX8_actBy 1 = .ok (.getfield 28, 3) := by decide +kernel
theorem dX8_actBy_4 : decode cX8_actBy 4 = .ok (.getfield 51, 3) := by decide +kernel
theorem dX8_actBy_7 : decode cX8_actBy 7 = .ok (.iconst 1, 1) := by decide +kernel
theorem dX8_actBy_8 : decode cX8_actBy 8 = .ok (.if_icmp .ge 4, 3) := by decide +kernel
theorem dX8_actBy_11 : decode cX8_actBy 11 = .ok (.return_, 1) := by decide +kernel
theorem dX8_actBy_12 : decode cX8_actBy 12 = .ok (.iload_n 1, 1) := by decide +kernel
theorem dX8_actBy_13 : decode cX8_actBy 13 = .ok (.aload_n 0, 1) := by decide +kernel
theorem dX8_actBy_14 : decode cX8_actBy 14 = .ok (.getfield 28, 3) := by decide +kernel
theorem dX8_actBy_17 : decode cX8_actBy 17 = .ok (.getfield 51, 3) := by decide +kernel
theorem dX8_actBy_20 : decode cX8_actBy 20 = .ok (.irem, 1) := by decide +kernel
theorem dX8_actBy_21 : decode cX8_actBy 21 = .ok (.istore_n 2, 1) := by decide +kernel
theorem dX8_actBy_22 : decode cX8_actBy 22 = .ok (.iload_n 1, 1) := by decide +kernel
theorem dX8_actBy_23 : decode cX8_actBy 23 = .ok (.bipush 8, 2) := by decide +kernel
theorem dX8_actBy_25 : decode cX8_actBy 25 = .ok (.idiv, 1) := by decide +kernel
theorem dX8_actBy_26 : decode cX8_actBy 26 = .ok (.bipush 6, 2) := by decide +kernel
theorem dX8_actBy_28 : decode cX8_actBy 28 = .ok (.irem, 1) := by decide +kernel
theorem dX8_actBy_29 : decode cX8_actBy 29 = .ok (.istore_n 3, 1) := by decide +kernel
theorem dX8_actBy_30 : decode cX8_actBy 30 = .ok (.iload_n 3, 1) := by decide +kernel
theorem dX8_actBy_31 : decode cX8_actBy 31 = .ok (.iconst 1, 1) := by decide +kernel
theorem dX8_actBy_32 : decode cX8_actBy 32 = .ok (.if_icmp .gt 19, 3) := by decide +kernel
theorem dX8_actBy_35 : decode cX8_actBy 35 = .ok (.aload_n 0, 1) := by decide +kernel
theorem dX8_actBy_36 : decode cX8_actBy 36 = .ok (.iload_n 2, 1) := by decide +kernel
theorem dX8_actBy_37 : decode cX8_actBy 37 = .ok (.invokevirtual 107, 3) := by decide +kernel
theorem dX8_actBy_40 : decode cX8_actBy 40 = .ok (.ifCond .eq 11, 3) := by decide +kernel
theorem dX8_actBy_43 : decode cX8_actBy 43 = .ok (.aload_n 0, 1) := by decide +kernel
theorem dX8_actBy_44 : decode cX8_actBy 44 = .ok (.iload_n 2, 1) := by decide +kernel
theorem dX8_actBy_45 : decode cX8_actBy 45 = .ok (.invokevirtual 110, 3) := by decide +kernel
theorem dX8_actBy_48 : decode cX8_actBy 48 = .ok (.goto 42, 3) := by decide +kernel
theorem dX8_actBy_51 : decode cX8_actBy 51 = .ok (.iload_n 3, 1) := by decide +kernel
theorem dX8_actBy_52 : decode cX8_actBy 52 = .ok (.iconst 2, 1) := by decide +kernel
theorem dX8_actBy_53 : decode cX8_actBy 53 = .ok (.if_icmp .ne 19, 3) := by decide +kernel
theorem dX8_actBy_56 : decode cX8_actBy 56 = .ok (.aload_n 0, 1) := by decide +kernel
theorem dX8_actBy_57 : decode cX8_actBy 57 = .ok (.iload_n 2, 1) := by decide +kernel
theorem dX8_actBy_58 : decode cX8_actBy 58 = .ok (.invokevirtual 114, 3) := by decide +kernel
theorem dX8_actBy_61 : decode cX8_actBy 61 = .ok (.ifCond .eq 11, 3) := by decide +kernel
theorem dX8_actBy_64 : decode cX8_actBy 64 = .ok (.aload_n 0, 1) := by decide +kernel
theorem dX8_actBy_65 : decode cX8_actBy 65 = .ok (.iload_n 2, 1) := by decide +kernel
theorem dX8_actBy_66 : decode cX8_actBy 66 = .ok (.invokevirtual 117, 3) := by decide +kernel
theorem dX8_actBy_69 : decode cX8_actBy 69 = .ok (.goto 21, 3) := by decide +kernel
theorem dX8_actBy_72 : decode cX8_actBy 72 = .ok (.iload_n 3, 1) := by decide +kernel
theorem dX8_actBy_73 : decode cX8_actBy 73 = .ok (.iconst 3, 1) := by decide +kernel
theorem dX8_actBy_74 : decode cX8_actBy 74 = .ok (.if_icmp .ne 16, 3) := by decide +kernel
theorem dX8_actBy_77 : decode cX8_actBy 77 = .ok (.aload_n 0, 1) := by decide +kernel
theorem dX8_actBy_78 : decode cX8_actBy 78 = .ok (.iload_n 2, 1) := by decide +kernel
theorem dX8_actBy_79 : decode cX8_actBy 79 = .ok (.invokevirtual 120, 3) := by decide +kernel
theorem dX8_actBy_82 : decode cX8_actBy 82 = .ok (.ifCond .eq 8, 3) := by decide +kernel
theorem dX8_actBy_85 : decode cX8_actBy 85 = .ok (.aload_n 0, 1) := by decide +kernel
theorem dX8_actBy_86 : decode cX8_actBy 86 = .ok (.iload_n 2, 1) := by decide +kernel
theorem dX8_actBy_87 : decode cX8_actBy 87 = .ok (.invokevirtual 123, 3) := by decide +kernel
theorem dX8_actBy_90 : decode cX8_actBy 90 = .ok (.return_, 1) := by decide +kernel
theorem dX9_init_0 : decode cX9_init 0 = .ok (.aload_n 0, 1) := by decide +kernel
theorem dX9_init_1 : decode cX9_init 1 = .ok (.invokespecial 1, 3) := by decide +kernel
theorem dX9_init_4 : decode cX9_init 4 = .ok (.aload_n 0, 1) := by decide +kernel
theorem dX9_init_5 : decode cX9_init 5 = .ok (.new 7, 3) := by decide +kernel
theorem dX9_init_8 : decode cX9_init 8 = .ok (.dup, 1) := by decide +kernel
theorem dX9_init_9 : decode cX9_init 9 = .ok (.invokespecial 9, 3) := by decide +kernel
theorem dX9_init_12 : decode cX9_init 12 = .ok (.putfield 10, 3) := by decide +kernel
theorem dX9_init_15 : decode cX9_init 15 = .ok (.aload_n 0, 1) := by decide +kernel
theorem dX9_init_16 : decode cX9_init 16 = .ok (.new 16, 3) := by decide +kernel
theorem dX9_init_19 : decode cX9_init 19 = .ok (.dup, 1) := by decide +kernel
theorem dX9_init_20 : decode cX9_init 20 = .ok (.new 18, 3) := by decide +kernel
theorem dX9_init_23 : decode cX9_init 23 = .ok (.dup, 1) := by decide +kernel
theorem dX9_init_24 : decode cX9_init 24 = .ok (.invokespecial 20, 3) := by decide +kernel
theorem dX9_init_27 : decode cX9_init 27 = .ok (.invokespecial 21, 3) := by decide +kernel
theorem dX9_init_30 : decode cX9_init 30 = .ok (.putfield 24, 3) := by decide +kernel
theorem dX9_init_33 : decode cX9_init 33 = .ok (.new 18, 3) := by decide +kernel
theorem dX9_init_36 : decode cX9_init 36 = .ok (.dup, 1) := by decide +kernel
theorem dX9_init_37 : decode cX9_init 37 = .ok (.invokespecial 20, 3) := by decide +kernel
theorem dX9_init_40 : decode cX9_init 40 = .ok (.astore_n 1, 1) := by decide +kernel
theorem dX9_init_41 : decode cX9_init 41 = .ok (.aload_n 0, 1) := by decide +kernel
theorem dX9_init_42 : decode cX9_init 42 = .ok (.new 16, 3) := by decide +kernel
theorem dX9_init_45 : decode cX9_init 45 = .ok (.dup, 1) := by decide +kernel
theorem dX9_init_46 : decode cX9_init 46 = .ok (.aload_n 1, 1) := by decide +kernel
theorem dX9_init_47 : decode cX9_init 47 = .ok (.invokespecial 21, 3) := by decide +kernel
theorem dX9_init_50 : decode cX9_init 50 = .ok (.putfield 28, 3) := by decide +kernel
theorem dX9_init_53 : decode cX9_init 53 = .ok (.aload_n 0, 1) := by decide +kernel
theorem dX9_init_54 : decode cX9_init 54 = .ok (.new 16, 3) := by decide +kernel
theorem dX9_init_57 : decode cX9_init 57 = .ok (.dup, 1) := by decide +kernel
theorem dX9_init_58 : decode cX9_init 58 = .ok (.aload_n 1, 1) := by decide +kernel
theorem dX9_init_59 : decode cX9_init 59 = .ok (.invokespecial 21, 3) := by decide +kernel
theorem dX9_init_62 : decode cX9_init 62 = .ok (.putfield 31, 3) := by decide +kernel
theorem dX9_init_65 : decode cX9_init 65 = .ok (.aload_n 0, 1) := by decide +kernel
theorem dX9_init_66 : decode cX9_init 66 = .ok (.new 34, 3) := by decide +kernel
theorem dX9_init_69 : decode cX9_init 69 = .ok (.dup, 1) := by decide +kernel
theorem dX9_init_70 : decode cX9_init 70 = .ok (.aload_n 1, 1) := by decide +kernel
theorem dX9_init_71 : decode cX9_init 71 = .ok (.invokespecial 36, 3) := by decide +kernel
theorem dX9_init_74 : decode cX9_init 74 = .ok (.putfield 37, 3) := by decide +kernel
theorem dX9_init_77 : decode cX9_init 77 = .ok (.aload_n 0, 1) := by decide +kernel
theorem dX9_init_78 : decode cX9_init 78 = .ok (.aload_n 1, 1) := by decide +kernel
theorem dX9_init_79 : decode cX9_init 79 = .ok (.iconst 2, 1) := by decide +kernel
theorem dX9_init_80 : decode cX9_init 80 = .ok (.invokestatic 41, 3) := by decide +kernel
theorem dX9_init_83 : decode cX9_init 83 = .ok (.putfield 45, 3) := by decide +kernel
theorem dX9_init_86 : decode cX9_init 86 = .ok (.aload_n 0, 1) := by decide +kernel
theorem dX9_init_87 : decode cX9_init 87 = .ok (.new 49, 3) := by decide +kernel
theorem dX9_init_90 : decode cX9_init 90 = .ok (.dup, 1) := by decide +kernel
theorem dX9_init_91 : decode cX9_init 91 = .ok (.invokespecial 51, 3) := by decide +kernel
theorem dX9_init_94 : decode cX9_init 94 = .ok (.putfield 52, 3) := by decide +kernel
theorem dX9_init_97 : decode cX9_init 97 = .ok (.aload_n 0, 1) := by decide +kernel
theorem dX9_init_98 : decode cX9_init 98 = .ok (.new 56, 3) := by decide +kernel
theorem dX9_init_101 : decode cX9_init 101 = .ok (.dup, 1) := by decide +kernel
theorem dX9_init_102 : decode cX9_init 102 = .ok (.new 16, 3) := by decide +kernel
theorem dX9_init_105 : decode cX9_init 105 = .ok (.dup, 1) := by decide +kernel
theorem dX9_init_106 : decode cX9_init 106 = .ok (.aload_n 1, 1) := by decide +kernel
theorem dX9_init_107 : decode cX9_init 107 = .ok (.invokespecial 21, 3) := by decide +kernel
theorem dX9_init_110 : decode cX9_init 110 = .ok (.invokespecial 58, 3) := by decide +kernel
theorem dX9_init_113 : decode cX9_init 113 = .ok (.putfield 61, 3) := by decide +kernel
theorem dX9_init_116 : decode cX9_init 116 = .ok (.aload_n 0, 1) := by decide +kernel
theorem dX9_init_117 : decode cX9_init 117 = .ok (.new 65, 3) := by decide +kernel
theorem dX9_init_120 : decode cX9_init 120 = .ok (.dup, 1) := by decide +kernel
theorem dX9_init_121 : decode cX9_init 121 = .ok (.aload_n 1, 1) := by decide +kernel
theorem dX9_init_122 : decode cX9_init 122 = .ok (.invokespecial 67, 3) := by decide +kernel
theorem dX9_init_125 : decode cX9_init 125 = .ok (.putfield 68, 3) := by decide +kernel
theorem dX9_init_128 : decode cX9_init 128 = .ok (.aload_n 0, 1) := by decide +kernel
theorem dX9_init_129 : decode cX9_init 129 = .ok (.new 72, 3) := by decide +kernel
theorem dX9_init_132 : decode cX9_init 132 = .ok (.dup, 1) := by decide +kernel
theorem dX9_init_133 : decode cX9_init 133 = .ok (.new 16, 3) := by decide +kernel
theorem dX9_init_136 : decode cX9_init 136 = .ok (.dup, 1) := by decide +kernel
theorem dX9_init_137 : decode cX9_init 137 = .ok (.aload_n 1, 1) := by decide +kernel
theorem dX9_init_138 : decode cX9_init 138 = .ok (.invokespecial 21, 3) := by decide +kernel
theorem dX9_init_141 : decode cX9_init 141 = .ok (.invokespecial 74, 3) := by decide +kernel
theorem dX9_init_144 : decode cX9_init 144 = .ok (.putfield 75, 3) := by decide +kernel
theorem dX9_init_147 : decode cX9_init 147 = .ok (.aload_n 0, 1) := by decide +kernel
theorem dX9_init_148 : decode cX9_init 148 = .ok (.new 79, 3) := by decide +kernel
theorem dX9_init_151 : decode cX9_init 151 = .ok (.dup, 1) := by decide +kernel
theorem dX9_init_152 : decode cX9_init 152 = .ok (.invokespecial 81, 3) := by decide +kernel
theorem dX9_init_155 : decode cX9_init 155 = .ok (.putfield 82, 3) := by decide +kernel
theorem dX9_init_158 : decode cX9_init 158 = .ok (.iconst 0, 1) := by decide +kernel
theorem dX9_init_159 : decode cX9_init 159 = .ok (.istore_n 2, 1) := by decide +kernel
theorem dX9_init_160 : decode cX9_init 160 = .ok (.iload_n 2, 1) := by decide +kernel
theorem dX9_init_161 : decode cX9_init 161 = .ok (.ldc 86, 2) := by decide +kernel
theorem dX9_init_163 : decode cX9_init 163 = .ok (.invokevirtual 88, 3) := by decide +kernel
theorem dX9_init_166 : decode cX9_init 166 = .ok (.if_icmp .ge 23, 3) := by decide +kernel
theorem dX9_init_169 : decode cX9_init 169 = .ok (.aload_n 0, 1) := by decide +kernel
theorem dX9_init_170 : decode cX9_init 170 = .ok (.getfield 10, 3) := by decide +kernel
theorem dX9_init_173 : decode cX9_init 173 = .ok (.ldc 86, 2) := by decide +kernel
theorem dX9_init_175 : decode cX9_init 175 = .ok (.iload_n 2, 1) := by decide +kernel
theorem dX9_init_176 : decode cX9_init 176 = .ok (.invokevirtual 94, 3) := by decide +kernel
theorem dX9_init_179 : decode cX9_init 179 = .ok (.invokevirtual 98, 3) := by decide +kernel
theorem dX9_init_182 : decode cX9_init 182 = .ok (.pop, 1) := by decide +kernel
theorem dX9_init_183 : decode cX9_init 183 = .ok (.iinc 2 1, 3) := by decide +kernel
theorem dX9_init_186 : decode cX9_init 186 = .ok (.goto (-26), 3) := by decide +kernel
theorem dX9_init_189 : decode cX9_init 189 = .ok (.aload_n 0, 1) := by decide +kernel
theorem dX9_init_190 : decode cX9_init 190 = .ok (.getfield 10, 3) := by decide +kernel
theorem dX9_init_193 : decode cX9_init 193 = .ok (.aload_n 0, 1) := by decide +kernel
theorem dX9_init_194 : decode cX9_init 194 = .ok (.getfield 24, 3) := by decide +kernel
theorem dX9_init_197 : decode cX9_init 197 = .ok (.invokevirtual 102, 3) := by decide +kernel
theorem dX9_init_200 : decode cX9_init 200 = .ok (.pop, 1) := by decide +kernel
theorem dX9_init_201 : decode cX9_init 201 = .ok (.aload_n 0, 1) := by decide +kernel
theorem dX9_init_202 : decode cX9_init 202 = .ok (.invokevirtual 106, 3) := by decide +kernel
theorem dX9_init_205 : decode cX9_init 205 = .ok (.aload_n 0, 1) := by decide +kernel
theorem dX9_init_206 : decode cX9_init 206 = .ok (.getfield 10, 3) := by decide +kernel
theorem dX9_init_209 : decode cX9_init 209 = .ok (.invokevirtual 109, 3) := by decide +kernel
theorem dX9_init_212 : decode cX9_init 212 = .ok (.return_, 1) := by decide +kernel
theorem dX9_write_0 : decode cX9_write 0 = .ok (.iload_n 1, 1) := by decide +kernel
theorem dX9_write_1 : decode cX9_write 1 = .ok (.bipush 32, 2) := by decide +kernel
theorem dX9_write_3 : decode cX9_write 3 = .ok (.bipush 126, 2) := by decide +kernel
theorem dX9_write_5 : decode cX9_write 5 = .ok (.invokestatic 112, 3) := by decide +kernel
theorem dX9_write_8 : decode cX9_write 8 = .ok (.ifCond .ne 5, 3) := by decide +kernel
theorem dX9_write_11 : decode cX9_write 11 = .ok (.iconst (-1), 1) := by decide +kernel
theorem dX9_write_12 : decode cX9_write 12 = .ok (.ireturn, 1) := by decide +kernel
theorem dX9_write_13 : decode cX9_write 13 = .ok (.aload_n 0, 1) := by decide +kernel
theorem dX9_write_14 : decode cX9_write 14 = .ok (.getfield 10, 3) := by decide +kernel
theorem dX9_write_17 : decode cX9_write 17 = .ok (.iload_n 1, 1) := by decide +kernel
theorem dX9_write_18 : decode cX9_write 18 = .ok (.i2c, 1) := by decide +kernel
theorem dX9_write_19 : decode cX9_write 19 = .ok (.invokevirtual 98, 3) := by decide +kernel
theorem dX9_write_22 : decode cX9_write 22 = .ok (.ifCond .eq 13, 3) := by decide +kernel
theorem dX9_write_25 : decode cX9_write 25 = .ok (.aload_n 0, 1) := by decide +kernel
theorem dX9_write_26 : decode cX9_write 26 = .ok (.getfield 10, 3) := by decide +kernel
theorem dX9_write_29 : decode cX9_write 29 = .ok (.getfield 116, 3) := by decide +kernel
theorem dX9_write_32 : decode cX9_write 32 = .ok (.goto 5, 3) := by decide +kernel
theorem dX9_write_35 : decode cX9_write 35 = .ok (.bipush (-3), 2) := by decide +kernel
theorem dX9_write_37 : decode cX9_write 37 = .ok (.ireturn, 1) := by decide +kernel
theorem dX9_wipe_0 : decode cX9_wipe 0 = .ok (.aload_n 0, 1) := by decide +kernel
theorem dX9_wipe_1 : decode cX9_wipe 1 = .ok (.getfield 10, 3) := by decide +kernel
theorem dX9_wipe_4 : decode cX9_wipe 4 = .ok (.getfield 116, 3) := by decide +kernel
theorem dX9_wipe_7 : decode cX9_wipe 7 = .ok (.istore_n 1, 1) := by decide +kernel
theorem dX9_wipe_8 : decode cX9_wipe 8 = .ok (.aload_n 0, 1) := by decide +kernel
theorem dX9_wipe_9 : decode cX9_wipe 9 = .ok (.getfield 10, 3) := by decide +kernel
theorem dX9_wipe_12 : decode cX9_wipe 12 = .ok (.invokevirtual 109, 3) := by decide +kernel
theorem dX9_wipe_15 : decode cX9_wipe 15 = .ok (.iload_n 1, 1) := by decide +kernel
theorem dX9_wipe_16 : decode cX9_wipe 16 = .ok (.ireturn, 1) := by decide +kernel
theorem dX9_fault_0 : decode cX9_fault 0 = .ok (.aload_n 0, 1) := by decide +kernel
theorem dX9_fault_1 : decode cX9_fault 1 = .ok (.getfield 10, 3) := by decide +kernel
theorem dX9_fault_4 : decode cX9_fault 4 = .ok (.aload_n 0, 1) := by decide +kernel
theorem dX9_fault_5 : decode cX9_fault 5 = .ok (.getfield 24, 3) := by decide +kernel
theorem dX9_fault_8 : decode cX9_fault 8 = .ok (.invokevirtual 102, 3) := by decide +kernel
theorem dX9_fault_11 : decode cX9_fault 11 = .ok (.ireturn, 1) := by decide +kernel
theorem dX9_lay_0 : decode cX9_lay 0 = .ok (.aload_n 0, 1) := by decide +kernel
theorem dX9_lay_1 : decode cX9_lay 1 = .ok (.getfield 10, 3) := by decide +kernel
theorem dX9_lay_4 : decode cX9_lay 4 = .ok (.aload_n 0, 1) := by decide +kernel
theorem dX9_lay_5 : decode cX9_lay 5 = .ok (.getfield 24, 3) := by decide +kernel
theorem dX9_lay_8 : decode cX9_lay 8 = .ok (.invokevirtual 102, 3) := by decide +kernel
theorem dX9_lay_11 : decode cX9_lay 11 = .ok (.bipush (-4), 2) := by decide +kernel
theorem dX9_lay_13 : decode cX9_lay 13 = .ok (.if_icmp .ne 16, 3) := by decide +kernel
theorem dX9_lay_16 : decode cX9_lay 16 = .ok (.aload_n 0, 1) := by decide +kernel
theorem dX9_lay_17 : decode cX9_lay 17 = .ok (.getfield 24, 3) := by decide +kernel
theorem dX9_lay_20 : decode cX9_lay 20 = .ok (.getfield 119, 3) := by decide +kernel
theorem dX9_lay_23 : decode cX9_lay 23 = .ok (.getfield 123, 3) := by decide +kernel
theorem dX9_lay_26 : decode cX9_lay 26 = .ok (.ifCond .ne 6, 3) := by decide +kernel
theorem dX9_lay_29 : decode cX9_lay 29 = .ok (.bipush (-2), 2) := by decide +kernel
theorem dX9_lay_31 : decode cX9_lay 31 = .ok (.ireturn, 1) := by decide +kernel
theorem dX9_lay_32 : decode cX9_lay 32 = .ok (.aload_n 0, 1) := by decide +kernel
theorem dX9_lay_33 : decode cX9_lay 33 = .ok (.invokevirtual 106, 3) := by decide +kernel
theorem dX9_lay_36 : decode cX9_lay 36 = .ok (.aload_n 0, 1) := by decide +kernel
theorem dX9_lay_37 : decode cX9_lay 37 = .ok (.getfield 28, 3) := by decide +kernel
theorem dX9_lay_40 : decode cX9_lay 40 = .ok (.getfield 119, 3) := by decide +kernel
theorem dX9_lay_43 : decode cX9_lay 43 = .ok (.getfield 123, 3) := by decide +kernel
theorem dX9_lay_46 : decode cX9_lay 46 = .ok (.ireturn, 1) := by decide +kernel
theorem dX9_person_0 : decode cX9_person 0 = .ok (.aload_n 0, 1) := by decide +kernel
theorem dX9_person_1 : decode cX9_person 1 = .ok (.iload_n 1, 1) := by decide +kernel
theorem dX9_person_2 : decode cX9_person 2 = .ok (.invokevirtual 126, 3) := by decide +kernel
theorem dX9_person_5 : decode cX9_person 5 = .ok (.ifCond .ne 5, 3) := by decide +kernel
theorem dX9_person_8 : decode cX9_person 8 = .ok (.iconst (-1), 1) := by decide +kernel
theorem dX9_person_9 : decode cX9_person 9 = .ok (.ireturn, 1) := by decide +kernel
theorem dX9_person_10 : decode cX9_person 10 = .ok (.iload_n 2, 1) := by decide +kernel
theorem dX9_person_11 : decode cX9_person 11 = .ok (.tableswitch 143 0 7 #[45, 58, 68, 78, 88, 106, 118, 131], 45) := by decide +kernel
theorem dX9_person_56 : decode cX9_person 56 = .ok (.aload_n 0, 1) := by decide +kernel
theorem dX9_person_57 : decode cX9_person 57 = .ok (.getfield 28, 3) := by decide +kernel
theorem dX9_person_60 : decode cX9_person 60 = .ok (.getfield 119, 3) := by decide +kernel
theorem dX9_person_63 : decode cX9_person 63 = .ok (.getfield 130, 3) := by decide +kernel
theorem dX9_person_66 : decode cX9_person 66 = .ok (.iload_n 1, 1) := by decide +kernel
theorem dX9_person_67 : decode cX9_person 67 = .ok (.iaload, 1) := by decide +kernel
theorem dX9_person_68 : decode cX9_person 68 = .ok (.ireturn, 1) := by decide +kernel
theorem dX9_person_69 : decode cX9_person 69 = .ok (.aload_n 0, 1) := by decide +kernel
theorem dX9_person_70 : decode cX9_person 70 = .ok (.getfield 28, 3) := by decide +kernel
theorem dX9_person_73 : decode cX9_person 73 = .ok (.getfield 134, 3) := by decide +kernel
theorem dX9_person_76 : decode cX9_person 76 = .ok (.iload_n 1, 1) := by decide +kernel
theorem dX9_person_77 : decode cX9_person 77 = .ok (.iaload, 1) := by decide +kernel
theorem dX9_person_78 : decode cX9_person 78 = .ok (.ireturn, 1) := by decide +kernel
theorem dX9_person_79 : decode cX9_person 79 = .ok (.aload_n 0, 1) := by decide +kernel
theorem dX9_person_80 : decode cX9_person 80 = .ok (.getfield 28, 3) := by decide +kernel
theorem dX9_person_83 : decode cX9_person 83 = .ok (.getfield 137, 3) := by decide +kernel
theorem dX9_person_86 : decode cX9_person 86 = .ok (.iload_n 1, 1) := by decide +kernel
theorem dX9_person_87 : decode cX9_person 87 = .ok (.iaload, 1) := by decide +kernel
theorem dX9_person_88 : decode cX9_person 88 = .ok (.ireturn, 1) := by decide +kernel
theorem dX9_person_89 : decode cX9_person 89 = .ok (.aload_n 0, 1) := by decide +kernel
theorem dX9_person_90 : decode cX9_person 90 = .ok (.getfield 28, 3) := by decide +kernel
theorem dX9_person_93 : decode cX9_person 93 = .ok (.getfield 140, 3) := by decide +kernel
theorem dX9_person_96 : decode cX9_person 96 = .ok (.iload_n 1, 1) := by decide +kernel
theorem dX9_person_97 : decode cX9_person 97 = .ok (.iaload, 1) := by decide +kernel
theorem dX9_person_98 : decode cX9_person 98 = .ok (.ireturn, 1) := by decide +kernel
theorem dX9_person_99 : decode cX9_person 99 = .ok (.aload_n 0, 1) := by decide +kernel
theorem dX9_person_100 : decode cX9_person 100 = .ok (.getfield 28, 3) := by decide +kernel
theorem dX9_person_103 : decode cX9_person 103 = .ok (.iload_n 1, 1) := by decide +kernel
theorem dX9_person_104 : decode cX9_person 104 = .ok (.aload_n 0, 1) := by decide +kernel
theorem dX9_person_105 : decode cX9_person 105 = .ok (.getfield 28, 3) := by decide +kernel
theorem dX9_person_108 : decode cX9_person 108 = .ok (.getfield 134, 3) := by decide +kernel
theorem dX9_person_111 : decode cX9_person 111 = .ok (.iload_n 1, 1) := by decide +kernel
theorem dX9_person_112 : decode cX9_person 112 = .ok (.iaload, 1) := by decide +kernel
theorem dX9_person_113 : decode cX9_person 113 = .ok (.invokevirtual 143, 3) := by decide +kernel
theorem dX9_person_116 : decode cX9_person 116 = .ok (.ireturn, 1) := by decide +kernel
theorem dX9_person_117 : decode cX9_person 117 = .ok (.aload_n 0, 1) := by decide +kernel
theorem dX9_person_118 : decode cX9_person 118 = .ok (.getfield 28, 3) := by decide +kernel
theorem dX9_person_121 : decode cX9_person 121 = .ok (.iload_n 1, 1) := by decide +kernel
theorem dX9_person_122 : decode cX9_person 122 = .ok (.invokevirtual 147, 3) := by decide +kernel
theorem dX9_person_125 : decode cX9_person 125 = .ok (.invokestatic 150, 3) := by decide +kernel
theorem dX9_person_128 : decode cX9_person 128 = .ok (.ireturn, 1) := by decide +kernel
theorem dX9_person_129 : decode cX9_person 129 = .ok (.aload_n 0, 1) := by decide +kernel
theorem dX9_person_130 : decode cX9_person 130 = .ok (.getfield 28, 3) := by decide +kernel
theorem dX9_person_133 : decode cX9_person 133 = .ok (.getfield 154, 3) := by decide +kernel
theorem dX9_person_136 : decode cX9_person 136 = .ok (.iload_n 1, 1) := by decide +kernel
theorem dX9_person_137 : decode cX9_person 137 = .ok (.baload, 1) := by decide +kernel
theorem dX9_person_138 : decode cX9_person 138 = .ok (.invokestatic 150, 3) := by decide +kernel
theorem dX9_person_141 : decode cX9_person 141 = .ok (.ireturn, 1) := by decide +kernel
theorem dX9_person_142 : decode cX9_person 142 = .ok (.aload_n 0, 1) := by decide +kernel
theorem dX9_person_143 : decode cX9_person 143 = .ok (.getfield 28, 3) := by decide +kernel
theorem dX9_person_146 : decode cX9_person 146 = .ok (.iload_n 1, 1) := by decide +kernel
theorem dX9_person_147 : decode cX9_person 147 = .ok (.invokevirtual 158, 3) := by decide +kernel
theorem dX9_person_150 : decode cX9_person 150 = .ok (.invokestatic 150, 3) := by decide +kernel
theorem dX9_person_153 : decode cX9_person 153 = .ok (.ireturn, 1) := by decide +kernel
theorem dX9_person_154 : decode cX9_person 154 = .ok (.iconst (-1), 1) := by decide +kernel
theorem dX9_person_155 : decode cX9_person 155 = .ok (.ireturn, 1) := by decide +kernel
theorem dX9_fear_0 : decode cX9_fear 0 = .ok (.aload_n 0, 1) := by decide +kernel
theorem dX9_fear_1 : decode cX9_fear 1 = .ok (.iload_n 1, 1) := by decide +kernel
theorem dX9_fear_2 : decode cX9_fear 2 = .ok (.invokevirtual 126, 3) := by decide +kernel
theorem dX9_fear_5 : decode cX9_fear 5 = .ok (.ifCond .eq 23, 3) := by decide +kernel
theorem dX9_fear_8 : decode cX9_fear 8 = .ok (.aload_n 0, 1) := by decide +kernel
theorem dX9_fear_9 : decode cX9_fear 9 = .ok (.iload_n 2, 1) := by decide +kernel
theorem dX9_fear_10 : decode cX9_fear 10 = .ok (.invokevirtual 161, 3) := by decide +kernel
theorem dX9_fear_13 : decode cX9_fear 13 = .ok (.ifCond .eq 15, 3) := by decide +kernel
theorem dX9_fear_16 : decode cX9_fear 16 = .ok (.aload_n 0, 1) := by decide +kernel
theorem dX9_fear_17 : decode cX9_fear 17 = .ok (.getfield 28, 3) := by decide +kernel
theorem dX9_fear_20 : decode cX9_fear 20 = .ok (.iload_n 1, 1) := by decide +kernel
theorem dX9_fear_21 : decode cX9_fear 21 = .ok (.iload_n 2, 1) := by decide +kernel
theorem dX9_fear_22 : decode cX9_fear 22 = .ok (.invokevirtual 143, 3) := by decide +kernel
theorem dX9_fear_25 : decode cX9_fear 25 = .ok (.goto 4, 3) := by decide +kernel
theorem dX9_fear_28 : decode cX9_fear 28 = .ok (.iconst (-1), 1) := by decide +kernel
theorem dX9_fear_29 : decode cX9_fear 29 = .ok (.ireturn, 1) := by decide +kernel
theorem dX9_work_0 : decode cX9_work 0 = .ok (.iload_n 1, 1) := by decide +kernel
theorem dX9_work_1 : decode cX9_work 1 = .ok (.iconst 0, 1) := by decide +kernel
theorem dX9_work_2 : decode cX9_work 2 = .ok (.aload_n 0, 1) := by decide +kernel
theorem dX9_work_3 : decode cX9_work 3 = .ok (.getfield 28, 3) := by decide +kernel
theorem dX9_work_6 : decode cX9_work 6 = .ok (.getfield 119, 3) := by decide +kernel
theorem dX9_work_9 : decode cX9_work 9 = .ok (.getfield 164, 3) := by decide +kernel
theorem dX9_work_12 : decode cX9_work 12 = .ok (.iconst 1, 1) := by decide +kernel
theorem dX9_work_13 : decode cX9_work 13 = .ok (.isub, 1) := by decide +kernel
theorem dX9_work_14 : decode cX9_work 14 = .ok (.invokestatic 112, 3) := by decide +kernel
theorem dX9_work_17 : decode cX9_work 17 = .ok (.ifCond .ne 5, 3) := by decide +kernel
theorem dX9_work_20 : decode cX9_work 20 = .ok (.iconst (-1), 1) := by decide +kernel
theorem dX9_work_21 : decode cX9_work 21 = .ok (.ireturn, 1) := by decide +kernel
theorem dX9_work_22 : decode cX9_work 22 = .ok (.iload_n 2, 1) := by decide +kernel
theorem dX9_work_23 : decode cX9_work 23 = .ok (.tableswitch 70 0 2 #[25, 38, 51], 25) := by decide +kernel
theorem dX9_work_48 : decode cX9_work 48 = .ok (.aload_n 0, 1) := by decide +kernel
theorem dX9_work_49 : decode cX9_work 49 = .ok (.getfield 28, 3) := by decide +kernel
theorem dX9_work_52 : decode cX9_work 52 = .ok (.getfield 119, 3) := by decide +kernel
theorem dX9_work_55 : decode cX9_work 55 = .ok (.getfield 167, 3) := by decide +kernel
theorem dX9_work_58 : decode cX9_work 58 = .ok (.iload_n 1, 1) := by decide +kernel
theorem dX9_work_59 : decode cX9_work 59 = .ok (.iaload, 1) := by decide +kernel
theorem dX9_work_60 : decode cX9_work 60 = .ok (.ireturn, 1) := by decide +kernel
theorem dX9_work_61 : decode cX9_work 61 = .ok (.aload_n 0, 1) := by decide +kernel
theorem dX9_work_62 : decode cX9_work 62 = .ok (.getfield 28, 3) := by decide +kernel
theorem dX9_work_65 : decode cX9_work 65 = .ok (.getfield 119, 3) := by decide +kernel
theorem dX9_work_68 : decode cX9_work 68 = .ok (.getfield 170, 3) := by decide +kernel
theorem dX9_work_71 : decode cX9_work 71 = .ok (.iload_n 1, 1) := by decide +kernel
theorem dX9_work_72 : decode cX9_work 72 = .ok (.iaload, 1) := by decide +kernel
theorem dX9_work_73 : decode cX9_work 73 = .ok (.ireturn, 1) := by decide +kernel
theorem dX9_work_74 : decode cX9_work 74 = .ok (.aload_n 0, 1) := by decide +kernel
theorem dX9_work_75 : decode cX9_work 75 = .ok (.getfield 28, 3) := by decide +kernel
theorem dX9_work_78 : decode cX9_work 78 = .ok (.iload_n 1, 1) := by decide +kernel
theorem dX9_work_79 : decode cX9_work 79 = .ok (.aload_n 0, 1) := by decide +kernel
theorem dX9_work_80 : decode cX9_work 80 = .ok (.getfield 28, 3) := by decide +kernel
theorem dX9_work_83 : decode cX9_work 83 = .ok (.invokevirtual 173, 3) := by decide +kernel
theorem dX9_work_86 : decode cX9_work 86 = .ok (.invokevirtual 176, 3) := by decide +kernel
theorem dX9_work_89 : decode cX9_work 89 = .ok (.invokestatic 150, 3) := by decide +kernel
theorem dX9_work_92 : decode cX9_work 92 = .ok (.ireturn, 1) := by decide +kernel
theorem dX9_work_93 : decode cX9_work 93 = .ok (.iconst (-1), 1) := by decide +kernel
theorem dX9_work_94 : decode cX9_work 94 = .ok (.ireturn, 1) := by decide +kernel
theorem dX9_pass_0 : decode cX9_pass 0 = .ok (.iload_n 1, 1) := by decide +kernel
theorem dX9_pass_1 : decode cX9_pass 1 = .ok (.iconst 1, 1) := by decide +kernel
theorem dX9_pass_2 : decode cX9_pass 2 = .ok (.bipush 40, 2) := by decide +kernel
theorem dX9_pass_4 : decode cX9_pass 4 = .ok (.invokestatic 112, 3) := by decide +kernel
theorem dX9_pass_7 : decode cX9_pass 7 = .ok (.ifCond .ne 5, 3) := by decide +kernel
theorem dX9_pass_10 : decode cX9_pass 10 = .ok (.iconst (-1), 1) := by decide +kernel
theorem dX9_pass_11 : decode cX9_pass 11 = .ok (.ireturn, 1) := by decide +kernel
theorem dX9_pass_12 : decode cX9_pass 12 = .ok (.aload_n 0, 1) := by decide +kernel
theorem dX9_pass_13 : decode cX9_pass 13 = .ok (.getfield 28, 3) := by decide +kernel
theorem dX9_pass_16 : decode cX9_pass 16 = .ok (.getfield 180, 3) := by decide +kernel
theorem dX9_pass_19 : decode cX9_pass 19 = .ok (.iload_n 1, 1) := by decide +kernel
theorem dX9_pass_20 : decode cX9_pass 20 = .ok (.iadd, 1) := by decide +kernel
theorem dX9_pass_21 : decode cX9_pass 21 = .ok (.sipush 999, 3) := by decide +kernel
theorem dX9_pass_24 : decode cX9_pass 24 = .ok (.if_icmp .le 6, 3) := by decide +kernel
theorem dX9_pass_27 : decode cX9_pass 27 = .ok (.bipush (-2), 2) := by decide +kernel
theorem dX9_pass_29 : decode cX9_pass 29 = .ok (.ireturn, 1) := by decide +kernel
theorem dX9_pass_30 : decode cX9_pass 30 = .ok (.aload_n 0, 1) := by decide +kernel
theorem dX9_pass_31 : decode cX9_pass 31 = .ok (.getfield 37, 3) := by decide +kernel
theorem dX9_pass_34 : decode cX9_pass 34 = .ok (.aload_n 0, 1) := by decide +kernel
theorem dX9_pass_35 : decode cX9_pass 35 = .ok (.getfield 28, 3) := by decide +kernel
theorem dX9_pass_38 : decode cX9_pass 38 = .ok (.invokevirtual 183, 3) := by decide +kernel
theorem dX9_pass_41 : decode cX9_pass 41 = .ok (.aload_n 0, 1) := by decide +kernel
theorem dX9_pass_42 : decode cX9_pass 42 = .ok (.getfield 28, 3) := by decide +kernel
theorem dX9_pass_45 : decode cX9_pass 45 = .ok (.iload_n 1, 1) := by decide +kernel
theorem dX9_pass_46 : decode cX9_pass 46 = .ok (.invokevirtual 185, 3) := by decide +kernel
theorem dX9_pass_49 : decode cX9_pass 49 = .ok (.aload_n 0, 1) := by decide +kernel
theorem dX9_pass_50 : decode cX9_pass 50 = .ok (.getfield 28, 3) := by decide +kernel
theorem dX9_pass_53 : decode cX9_pass 53 = .ok (.getfield 180, 3) := by decide +kernel
theorem dX9_pass_56 : decode cX9_pass 56 = .ok (.ireturn, 1) := by decide +kernel
theorem dX9_promote_0 : decode cX9_promote 0 = .ok (.aload_n 0, 1) := by decide +kernel
theorem dX9_promote_1 : decode cX9_promote 1 = .ok (.iload_n 1, 1) := by decide +kernel
theorem dX9_promote_2 : decode cX9_promote 2 = .ok (.invokevirtual 126, 3) := by decide +kernel
theorem dX9_promote_5 : decode cX9_promote 5 = .ok (.ifCond .ne 5, 3) := by decide +kernel
theorem dX9_promote_8 : decode cX9_promote 8 = .ok (.iconst (-1), 1) := by decide +kernel
theorem dX9_promote_9 : decode cX9_promote 9 = .ok (.ireturn, 1) := by decide +kernel
theorem dX9_promote_10 : decode cX9_promote 10 = .ok (.aload_n 0, 1) := by decide +kernel
theorem dX9_promote_11 : decode cX9_promote 11 = .ok (.getfield 28, 3) := by decide +kernel
theorem dX9_promote_14 : decode cX9_promote 14 = .ok (.iload_n 1, 1) := by decide +kernel
theorem dX9_promote_15 : decode cX9_promote 15 = .ok (.invokevirtual 189, 3) := by decide +kernel
theorem dX9_promote_18 : decode cX9_promote 18 = .ok (.ifCond .ne 6, 3) := by decide +kernel
theorem dX9_promote_21 : decode cX9_promote 21 = .ok (.bipush (-2), 2) := by decide +kernel
theorem dX9_promote_23 : decode cX9_promote 23 = .ok (.ireturn, 1) := by decide +kernel
theorem dX9_promote_24 : decode cX9_promote 24 = .ok (.aload_n 0, 1) := by decide +kernel
theorem dX9_promote_25 : decode cX9_promote 25 = .ok (.getfield 37, 3) := by decide +kernel
theorem dX9_promote_28 : decode cX9_promote 28 = .ok (.aload_n 0, 1) := by decide +kernel
theorem dX9_promote_29 : decode cX9_promote 29 = .ok (.getfield 28, 3) := by decide +kernel
theorem dX9_promote_32 : decode cX9_promote 32 = .ok (.invokevirtual 183, 3) := by decide +kernel
theorem dX9_promote_35 : decode cX9_promote 35 = .ok (.aload_n 0, 1) := by decide +kernel
theorem dX9_promote_36 : decode cX9_promote 36 = .ok (.getfield 28, 3) := by decide +kernel
theorem dX9_promote_39 : decode cX9_promote 39 = .ok (.iload_n 1, 1) := by decide +kernel
theorem dX9_promote_40 : decode cX9_promote 40 = .ok (.invokevirtual 192, 3) := by decide +kernel
theorem dX9_promote_43 : decode cX9_promote 43 = .ok (.aload_n 0, 1) := by decide +kernel
theorem dX9_promote_44 : decode cX9_promote 44 = .ok (.getfield 28, 3) := by decide +kernel
theorem dX9_promote_47 : decode cX9_promote 47 = .ok (.getfield 134, 3) := by decide +kernel
theorem dX9_promote_50 : decode cX9_promote 50 = .ok (.iload_n 1, 1) := by decide +kernel
theorem dX9_promote_51 : decode cX9_promote 51 = .ok (.iaload, 1) := by decide +kernel
theorem dX9_promote_52 : decode cX9_promote 52 = .ok (.ireturn, 1) := by decide +kernel
theorem dX9_hoist_0 : decode cX9_hoist 0 = .ok (.aload_n 0, 1) := by decide +kernel
theorem dX9_hoist_1 : decode cX9_hoist 1 = .ok (.iload_n 1, 1) := by decide +kernel
theorem dX9_hoist_2 : decode cX9_hoist 2 = .ok (.invokevirtual 126, 3) := by decide +kernel
theorem dX9_hoist_5 : decode cX9_hoist 5 = .ok (.ifCond .ne 5, 3) := by decide +kernel
theorem dX9_hoist_8 : decode cX9_hoist 8 = .ok (.iconst (-1), 1) := by decide +kernel
theorem dX9_hoist_9 : decode cX9_hoist 9 = .ok (.ireturn, 1) := by decide +kernel
theorem dX9_hoist_10 : decode cX9_hoist 10 = .ok (.aload_n 0, 1) := by decide +kernel
theorem dX9_hoist_11 : decode cX9_hoist 11 = .ok (.getfield 28, 3) := by decide +kernel
theorem dX9_hoist_14 : decode cX9_hoist 14 = .ok (.iload_n 1, 1) := by decide +kernel
theorem dX9_hoist_15 : decode cX9_hoist 15 = .ok (.invokevirtual 195, 3) := by decide +kernel
theorem dX9_hoist_18 : decode cX9_hoist 18 = .ok (.ifCond .ne 6, 3) := by decide +kernel
theorem dX9_hoist_21 : decode cX9_hoist 21 = .ok (.bipush (-2), 2) := by decide +kernel
theorem dX9_hoist_23 : decode cX9_hoist 23 = .ok (.ireturn, 1) := by decide +kernel
theorem dX9_hoist_24 : decode cX9_hoist 24 = .ok (.aload_n 0, 1) := by decide +kernel
theorem dX9_hoist_25 : decode cX9_hoist 25 = .ok (.getfield 37, 3) := by decide +kernel
theorem dX9_hoist_28 : decode cX9_hoist 28 = .ok (.aload_n 0, 1) := by decide +kernel
theorem dX9_hoist_29 : decode cX9_hoist 29 = .ok (.getfield 28, 3) := by decide +kernel
theorem dX9_hoist_32 : decode cX9_hoist 32 = .ok (.invokevirtual 183, 3) := by decide +kernel
theorem dX9_hoist_35 : decode cX9_hoist 35 = .ok (.aload_n 0, 1) := by decide +kernel
theorem dX9_hoist_36 : decode cX9_hoist 36 = .ok (.getfield 28, 3) := by decide +kernel
theorem dX9_hoist_39 : decode cX9_hoist 39 = .ok (.iload_n 1, 1) := by decide +kernel
theorem dX9_hoist_40 : decode cX9_hoist 40 = .ok (.invokevirtual 198, 3) := by decide +kernel
theorem dX9_hoist_43 : decode cX9_hoist 43 = .ok (.aload_n 0, 1) := by decide +kernel
theorem dX9_hoist_44 : decode cX9_hoist 44 = .ok (.getfield 28, 3) := by decide +kernel
theorem dX9_hoist_47 : decode cX9_hoist 47 = .ok (.getfield 134, 3) := by decide +kernel
theorem dX9_hoist_50 : decode cX9_hoist 50 = .ok (.iload_n 1, 1) := by decide +kernel
theorem dX9_hoist_51 : decode cX9_hoist 51 = .ok (.iaload, 1) := by decide +kernel
theorem dX9_hoist_52 : decode cX9_hoist 52 = .ok (.ireturn, 1) := by decide +kernel
theorem dX9_call_0 : decode cX9_call 0 = .ok (.aload_n 0, 1) := by decide +kernel
theorem dX9_call_1 : decode cX9_call 1 = .ok (.iload_n 1, 1) := by decide +kernel
theorem dX9_call_2 : decode cX9_call 2 = .ok (.invokevirtual 126, 3) := by decide +kernel
theorem dX9_call_5 : decode cX9_call 5 = .ok (.ifCond .ne 5, 3) := by decide +kernel
theorem dX9_call_8 : decode cX9_call 8 = .ok (.iconst (-1), 1) := by decide +kernel
theorem dX9_call_9 : decode cX9_call 9 = .ok (.ireturn, 1) := by decide +kernel
theorem dX9_call_10 : decode cX9_call 10 = .ok (.aload_n 0, 1) := by decide +kernel
theorem dX9_call_11 : decode cX9_call 11 = .ok (.getfield 28, 3) := by decide +kernel
theorem dX9_call_14 : decode cX9_call 14 = .ok (.iload_n 1, 1) := by decide +kernel
theorem dX9_call_15 : decode cX9_call 15 = .ok (.invokevirtual 158, 3) := by decide +kernel
theorem dX9_call_18 : decode cX9_call 18 = .ok (.ifCond .ne 6, 3) := by decide +kernel
theorem dX9_call_21 : decode cX9_call 21 = .ok (.bipush (-2), 2) := by decide +kernel
theorem dX9_call_23 : decode cX9_call 23 = .ok (.ireturn, 1) := by decide +kernel
theorem dX9_call_24 : decode cX9_call 24 = .ok (.aload_n 0, 1) := by decide +kernel
theorem dX9_call_25 : decode cX9_call 25 = .ok (.getfield 37, 3) := by decide +kernel
theorem dX9_call_28 : decode cX9_call 28 = .ok (.aload_n 0, 1) := by decide +kernel
theorem dX9_call_29 : decode cX9_call 29 = .ok (.getfield 28, 3) := by decide +kernel
theorem dX9_call_32 : decode cX9_call 32 = .ok (.invokevirtual 183, 3) := by decide +kernel
theorem dX9_call_35 : decode cX9_call 35 = .ok (.aload_n 0, 1) := by decide +kernel
theorem dX9_call_36 : decode cX9_call 36 = .ok (.getfield 28, 3) := by decide +kernel
theorem dX9_call_39 : decode cX9_call 39 = .ok (.iload_n 1, 1) := by decide +kernel
theorem dX9_call_40 : decode cX9_call 40 = .ok (.invokevirtual 201, 3) := by decide +kernel
theorem dX9_call_43 : decode cX9_call 43 = .ok (.aload_n 0, 1) := by decide +kernel
theorem dX9_call_44 : decode cX9_call 44 = .ok (.getfield 28, 3) := by decide +kernel
theorem dX9_call_47 : decode cX9_call 47 = .ok (.getfield 140, 3) := by decide +kernel
theorem dX9_call_50 : decode cX9_call 50 = .ok (.iload_n 1, 1) := by decide +kernel
theorem dX9_call_51 : decode cX9_call 51 = .ok (.iaload, 1) := by decide +kernel
theorem dX9_call_52 : decode cX9_call 52 = .ok (.ireturn, 1) := by decide +kernel
theorem dX9_undo_0 : decode cX9_undo 0 = .ok (.aload_n 0, 1) := by decide +kernel
theorem dX9_undo_1 : decode cX9_undo 1 = .ok (.getfield 37, 3) := by decide +kernel
theorem dX9_undo_4 : decode cX9_undo 4 = .ok (.getfield 204, 3) := by decide +kernel
theorem dX9_undo_7 : decode cX9_undo 7 = .ok (.ifCond .ne 6, 3) := by decide +kernel
theorem dX9_undo_10 : decode cX9_undo 10 = .ok (.bipush (-2), 2) := by decide +kernel
theorem dX9_undo_12 : decode cX9_undo 12 = .ok (.ireturn, 1) := by decide +kernel
theorem dX9_undo_13 : decode cX9_undo 13 = .ok (.aload_n 0, 1) := by decide +kernel
theorem dX9_undo_14 : decode cX9_undo 14 = .ok (.getfield 37, 3) := by decide +kernel
theorem dX9_undo_17 : decode cX9_undo 17 = .ok (.aload_n 0, 1) := by decide +kernel
theorem dX9_undo_18 : decode cX9_undo 18 = .ok (.getfield 28, 3) := by decide +kernel
theorem dX9_undo_21 : decode cX9_undo 21 = .ok (.invokevirtual 207, 3) := by decide +kernel
theorem dX9_undo_24 : decode cX9_undo 24 = .ok (.aload_n 0, 1) := by decide +kernel
theorem dX9_undo_25 : decode cX9_undo 25 = .ok (.getfield 37, 3) := by decide +kernel
theorem dX9_undo_28 : decode cX9_undo 28 = .ok (.getfield 204, 3) := by decide +kernel
theorem dX9_undo_31 : decode cX9_undo 31 = .ok (.ireturn, 1) := by decide +kernel
theorem dX9_behind_0 : decode cX9_behind 0 = .ok (.iload_n 1, 1) := by decide +kernel
theorem dX9_behind_1 : decode cX9_behind 1 = .ok (.iconst 0, 1) := by decide +kernel
theorem dX9_behind_2 : decode cX9_behind 2 = .ok (.bipush 40, 2) := by decide +kernel
theorem dX9_behind_4 : decode cX9_behind 4 = .ok (.invokestatic 112, 3) := by decide +kernel
theorem dX9_behind_7 : decode cX9_behind 7 = .ok (.ifCond .eq 20, 3) := by decide +kernel
theorem dX9_behind_10 : decode cX9_behind 10 = .ok (.aload_n 0, 1) := by decide +kernel
theorem dX9_behind_11 : decode cX9_behind 11 = .ok (.iload_n 2, 1) := by decide +kernel
theorem dX9_behind_12 : decode cX9_behind 12 = .ok (.invokevirtual 126, 3) := by decide +kernel
theorem dX9_behind_15 : decode cX9_behind 15 = .ok (.ifCond .eq 12, 3) := by decide +kernel
theorem dX9_behind_18 : decode cX9_behind 18 = .ok (.iload_n 3, 1) := by decide +kernel
theorem dX9_behind_19 : decode cX9_behind 19 = .ok (.iconst 0, 1) := by decide +kernel
theorem dX9_behind_20 : decode cX9_behind 20 = .ok (.iconst 1, 1) := by decide +kernel
theorem dX9_behind_21 : decode cX9_behind 21 = .ok (.invokestatic 112, 3) := by decide +kernel
theorem dX9_behind_24 : decode cX9_behind 24 = .ok (.ifCond .ne 5, 3) := by decide +kernel
theorem dX9_behind_27 : decode cX9_behind 27 = .ok (.iconst (-1), 1) := by decide +kernel
theorem dX9_behind_28 : decode cX9_behind 28 = .ok (.ireturn, 1) := by decide +kernel
theorem dX9_behind_29 : decode cX9_behind 29 = .ok (.aload_n 0, 1) := by decide +kernel
theorem dX9_behind_30 : decode cX9_behind 30 = .ok (.getfield 31, 3) := by decide +kernel
theorem dX9_behind_33 : decode cX9_behind 33 = .ok (.aload_n 0, 1) := by decide +kernel
theorem dX9_behind_34 : decode cX9_behind 34 = .ok (.getfield 28, 3) := by decide +kernel
theorem dX9_behind_37 : decode cX9_behind 37 = .ok (.invokevirtual 210, 3) := by decide +kernel
theorem dX9_behind_40 : decode cX9_behind 40 = .ok (.aload_n 0, 1) := by decide +kernel
theorem dX9_behind_41 : decode cX9_behind 41 = .ok (.getfield 31, 3) := by decide +kernel
theorem dX9_behind_44 : decode cX9_behind 44 = .ok (.iload_n 1, 1) := by decide +kernel
theorem dX9_behind_45 : decode cX9_behind 45 = .ok (.invokevirtual 185, 3) := by decide +kernel
theorem dX9_behind_48 : decode cX9_behind 48 = .ok (.iload_n 3, 1) := by decide +kernel
theorem dX9_behind_49 : decode cX9_behind 49 = .ok (.ifCond .ne 18, 3) := by decide +kernel
theorem dX9_behind_52 : decode cX9_behind 52 = .ok (.aload_n 0, 1) := by decide +kernel
theorem dX9_behind_53 : decode cX9_behind 53 = .ok (.getfield 31, 3) := by decide +kernel
theorem dX9_behind_56 : decode cX9_behind 56 = .ok (.getfield 154, 3) := by decide +kernel
theorem dX9_behind_59 : decode cX9_behind 59 = .ok (.iload_n 2, 1) := by decide +kernel
theorem dX9_behind_60 : decode cX9_behind 60 = .ok (.baload, 1) := by decide +kernel
theorem dX9_behind_61 : decode cX9_behind 61 = .ok (.invokestatic 150, 3) := by decide +kernel
theorem dX9_behind_64 : decode cX9_behind 64 = .ok (.goto 12, 3) := by decide +kernel
theorem dX9_behind_67 : decode cX9_behind 67 = .ok (.aload_n 0, 1) := by decide +kernel
theorem dX9_behind_68 : decode cX9_behind 68 = .ok (.getfield 31, 3) := by decide +kernel
theorem dX9_behind_71 : decode cX9_behind 71 = .ok (.getfield 140, 3) := by decide +kernel
theorem dX9_behind_74 : decode cX9_behind 74 = .ok (.iload_n 2, 1) := by decide +kernel
theorem dX9_behind_75 : decode cX9_behind 75 = .ok (.iaload, 1) := by decide +kernel
theorem dX9_behind_76 : decode cX9_behind 76 = .ok (.ireturn, 1) := by decide +kernel
theorem dX9_lowest_0 : decode cX9_lowest 0 = .ok (.aload_n 0, 1) := by decide +kernel
theorem dX9_lowest_1 : decode cX9_lowest 1 = .ok (.iload_n 1, 1) := by decide +kernel
theorem dX9_lowest_2 : decode cX9_lowest 2 = .ok (.invokevirtual 126, 3) := by decide +kernel
theorem dX9_lowest_5 : decode cX9_lowest 5 = .ok (.ifCond .ne 5, 3) := by decide +kernel
theorem dX9_lowest_8 : decode cX9_lowest 8 = .ok (.iconst (-1), 1) := by decide +kernel
theorem dX9_lowest_9 : decode cX9_lowest 9 = .ok (.ireturn, 1) := by decide +kernel
theorem dX9_lowest_10 : decode cX9_lowest 10 = .ok (.aload_n 0, 1) := by decide +kernel
theorem dX9_lowest_11 : decode cX9_lowest 11 = .ok (.getfield 28, 3) := by decide +kernel
theorem dX9_lowest_14 : decode cX9_lowest 14 = .ok (.iload_n 1, 1) := by decide +kernel
theorem dX9_lowest_15 : decode cX9_lowest 15 = .ok (.invokevirtual 213, 3) := by decide +kernel
theorem dX9_lowest_18 : decode cX9_lowest 18 = .ok (.ifCond .ne 6, 3) := by decide +kernel
theorem dX9_lowest_21 : decode cX9_lowest 21 = .ok (.bipush (-2), 2) := by decide +kernel
theorem dX9_lowest_23 : decode cX9_lowest 23 = .ok (.ireturn, 1) := by decide +kernel
theorem dX9_lowest_24 : decode cX9_lowest 24 = .ok (.aload_n 0, 1) := by decide +kernel
theorem dX9_lowest_25 : decode cX9_lowest 25 = .ok (.getfield 28, 3) := by decide +kernel
theorem dX9_lowest_28 : decode cX9_lowest 28 = .ok (.getfield 134, 3) := by decide +kernel
theorem dX9_lowest_31 : decode cX9_lowest 31 = .ok (.iload_n 1, 1) := by decide +kernel
theorem dX9_lowest_32 : decode cX9_lowest 32 = .ok (.iaload, 1) := by decide +kernel
theorem dX9_lowest_33 : decode cX9_lowest 33 = .ok (.istore_n 2, 1) := by decide +kernel
theorem dX9_lowest_34 : decode cX9_lowest 34 = .ok (.iload_n 2, 1) := by decide +kernel
theorem dX9_lowest_35 : decode cX9_lowest 35 = .ok (.ifCond .le 32, 3) := by decide +kernel
theorem dX9_lowest_38 : decode cX9_lowest 38 = .ok (.aload_n 0, 1) := by decide +kernel
theorem dX9_lowest_39 : decode cX9_lowest 39 = .ok (.getfield 28, 3) := by decide +kernel
theorem dX9_lowest_42 : decode cX9_lowest 42 = .ok (.iload_n 1, 1) := by decide +kernel
theorem dX9_lowest_43 : decode cX9_lowest 43 = .ok (.iload_n 2, 1) := by decide +kernel
theorem dX9_lowest_44 : decode cX9_lowest 44 = .ok (.iconst 1, 1) := by decide +kernel
theorem dX9_lowest_45 : decode cX9_lowest 45 = .ok (.isub, 1) := by decide +kernel
theorem dX9_lowest_46 : decode cX9_lowest 46 = .ok (.invokevirtual 143, 3) := by decide +kernel
theorem dX9_lowest_49 : decode cX9_lowest 49 = .ok (.aload_n 0, 1) := by decide +kernel
theorem dX9_lowest_50 : decode cX9_lowest 50 = .ok (.getfield 28, 3) := by decide +kernel
theorem dX9_lowest_53 : decode cX9_lowest 53 = .ok (.getfield 140, 3) := by decide +kernel
theorem dX9_lowest_56 : decode cX9_lowest 56 = .ok (.iload_n 1, 1) := by decide +kernel
theorem dX9_lowest_57 : decode cX9_lowest 57 = .ok (.iaload, 1) := by decide +kernel
theorem dX9_lowest_58 : decode cX9_lowest 58 = .ok (.if_icmp .gt 9, 3) := by decide +kernel
theorem dX9_lowest_61 : decode cX9_lowest 61 = .ok (.iinc 2 (-1), 3) := by decide +kernel
theorem dX9_lowest_64 : decode cX9_lowest 64 = .ok (.goto (-30), 3) := by decide +kernel
theorem dX9_lowest_67 : decode cX9_lowest 67 = .ok (.iload_n 2, 1) := by decide +kernel
theorem dX9_lowest_68 : decode cX9_lowest 68 = .ok (.ireturn, 1) := by decide +kernel
theorem dX9_posting_0 : decode cX9_posting 0 = .ok (.iload_n 1, 1) := by decide +kernel
theorem dX9_posting_1 : decode cX9_posting 1 = .ok (.iconst (-1), 1) := by decide +kernel
theorem dX9_posting_2 : decode cX9_posting 2 = .ok (.if_icmp .eq 13, 3) := by decide +kernel
theorem dX9_posting_5 : decode cX9_posting 5 = .ok (.aload_n 0, 1) := by decide +kernel
theorem dX9_posting_6 : decode cX9_posting 6 = .ok (.iload_n 1, 1) := by decide +kernel
theorem dX9_posting_7 : decode cX9_posting 7 = .ok (.invokevirtual 126, 3) := by decide +kernel
theorem dX9_posting_10 : decode cX9_posting 10 = .ok (.ifCond .ne 5, 3) := by decide +kernel
theorem dX9_posting_13 : decode cX9_posting 13 = .ok (.iconst (-1), 1) := by decide +kernel
theorem dX9_posting_14 : decode cX9_posting 14 = .ok (.ireturn, 1) := by decide +kernel
theorem dX9_posting_15 : decode cX9_posting 15 = .ok (.aload_n 0, 1) := by decide +kernel
theorem dX9_posting_16 : decode cX9_posting 16 = .ok (.getfield 61, 3) := by decide +kernel
theorem dX9_posting_19 : decode cX9_posting 19 = .ok (.aload_n 0, 1) := by decide +kernel
theorem dX9_posting_20 : decode cX9_posting 20 = .ok (.getfield 28, 3) := by decide +kernel
theorem dX9_posting_23 : decode cX9_posting 23 = .ok (.invokevirtual 216, 3) := by decide +kernel
theorem dX9_posting_26 : decode cX9_posting 26 = .ok (.aload_n 0, 1) := by decide +kernel
theorem dX9_posting_27 : decode cX9_posting 27 = .ok (.getfield 61, 3) := by decide +kernel
theorem dX9_posting_30 : decode cX9_posting 30 = .ok (.getfield 219, 3) := by decide +kernel
theorem dX9_posting_33 : decode cX9_posting 33 = .ok (.ifCond .ge 6, 3) := by decide +kernel
theorem dX9_posting_36 : decode cX9_posting 36 = .ok (.bipush (-4), 2) := by decide +kernel
theorem dX9_posting_38 : decode cX9_posting 38 = .ok (.ireturn, 1) := by decide +kernel
theorem dX9_posting_39 : decode cX9_posting 39 = .ok (.iload_n 1, 1) := by decide +kernel
theorem dX9_posting_40 : decode cX9_posting 40 = .ok (.iconst (-1), 1) := by decide +kernel
theorem dX9_posting_41 : decode cX9_posting 41 = .ok (.if_icmp .ne 13, 3) := by decide +kernel
theorem dX9_posting_44 : decode cX9_posting 44 = .ok (.aload_n 0, 1) := by decide +kernel
theorem dX9_posting_45 : decode cX9_posting 45 = .ok (.getfield 61, 3) := by decide +kernel
theorem dX9_posting_48 : decode cX9_posting 48 = .ok (.getfield 219, 3) := by decide +kernel
theorem dX9_posting_51 : decode cX9_posting 51 = .ok (.goto 12, 3) := by decide +kernel
theorem dX9_posting_54 : decode cX9_posting 54 = .ok (.aload_n 0, 1) := by decide +kernel
theorem dX9_posting_55 : decode cX9_posting 55 = .ok (.getfield 61, 3) := by decide +kernel
theorem dX9_posting_58 : decode cX9_posting 58 = .ok (.getfield 222, 3) := by decide +kernel
theorem dX9_posting_61 : decode cX9_posting 61 = .ok (.iload_n 1, 1) := by decide +kernel
theorem dX9_posting_62 : decode cX9_posting 62 = .ok (.iaload, 1) := by decide +kernel
theorem dX9_posting_63 : decode cX9_posting 63 = .ok (.ireturn, 1) := by decide +kernel
theorem dX9_timetable_0 : decode cX9_timetable 0 = .ok (.iload_n 1, 1) := by decide +kernel
theorem dX9_timetable_1 : decode cX9_timetable 1 = .ok (.iconst 1, 1) := by decide +kernel
theorem dX9_timetable_2 : decode cX9_timetable 2 = .ok (.iconst 4, 1) := by decide +kernel
theorem dX9_timetable_3 : decode cX9_timetable 3 = .ok (.invokestatic 112, 3) := by decide +kernel
theorem dX9_timetable_6 : decode cX9_timetable 6 = .ok (.ifCond .eq 12, 3) := by decide +kernel
theorem dX9_timetable_9 : decode cX9_timetable 9 = .ok (.iload_n 2, 1) := by decide +kernel
theorem dX9_timetable_10 : decode cX9_timetable 10 = .ok (.iconst (-1), 1) := by decide +kernel
theorem dX9_timetable_11 : decode cX9_timetable 11 = .ok (.iconst 3, 1) := by decide +kernel
theorem dX9_timetable_12 : decode cX9_timetable 12 = .ok (.invokestatic 112, 3) := by decide +kernel
theorem dX9_timetable_15 : decode cX9_timetable 15 = .ok (.ifCond .ne 5, 3) := by decide +kernel
theorem dX9_timetable_18 : decode cX9_timetable 18 = .ok (.iconst (-1), 1) := by decide +kernel
theorem dX9_timetable_19 : decode cX9_timetable 19 = .ok (.ireturn, 1) := by decide +kernel
theorem dX9_timetable_20 : decode cX9_timetable 20 = .ok (.aload_n 0, 1) := by decide +kernel
theorem dX9_timetable_21 : decode cX9_timetable 21 = .ok (.getfield 68, 3) := by decide +kernel
theorem dX9_timetable_24 : decode cX9_timetable 24 = .ok (.aload_n 0, 1) := by decide +kernel
theorem dX9_timetable_25 : decode cX9_timetable 25 = .ok (.getfield 28, 3) := by decide +kernel
theorem dX9_timetable_28 : decode cX9_timetable 28 = .ok (.iload_n 1, 1) := by decide +kernel
theorem dX9_timetable_29 : decode cX9_timetable 29 = .ok (.invokevirtual 225, 3) := by decide +kernel
theorem dX9_timetable_32 : decode cX9_timetable 32 = .ok (.iload_n 2, 1) := by decide +kernel
theorem dX9_timetable_33 : decode cX9_timetable 33 = .ok (.iconst (-1), 1) := by decide +kernel
theorem dX9_timetable_34 : decode cX9_timetable 34 = .ok (.if_icmp .ne 11, 3) := by decide +kernel
theorem dX9_timetable_37 : decode cX9_timetable 37 = .ok (.aload_n 0, 1) := by decide +kernel
theorem dX9_timetable_38 : decode cX9_timetable 38 = .ok (.getfield 68, 3) := by decide +kernel
theorem dX9_timetable_41 : decode cX9_timetable 41 = .ok (.getfield 228, 3) := by decide +kernel
theorem dX9_timetable_44 : decode cX9_timetable 44 = .ok (.ireturn, 1) := by decide +kernel
theorem dX9_timetable_45 : decode cX9_timetable 45 = .ok (.iload_n 2, 1) := by decide +kernel
theorem dX9_timetable_46 : decode cX9_timetable 46 = .ok (.iload_n 1, 1) := by decide +kernel
theorem dX9_timetable_47 : decode cX9_timetable 47 = .ok (.if_icmp .ge 15, 3) := by decide +kernel
theorem dX9_timetable_50 : decode cX9_timetable 50 = .ok (.aload_n 0, 1) := by decide +kernel
theorem dX9_timetable_51 : decode cX9_timetable 51 = .ok (.getfield 68, 3) := by decide +kernel
theorem dX9_timetable_54 : decode cX9_timetable 54 = .ok (.getfield 229, 3) := by decide +kernel
theorem dX9_timetable_57 : decode cX9_timetable 57 = .ok (.iload_n 2, 1) := by decide +kernel
theorem dX9_timetable_58 : decode cX9_timetable 58 = .ok (.iaload, 1) := by decide +kernel
theorem dX9_timetable_59 : decode cX9_timetable 59 = .ok (.goto 5, 3) := by decide +kernel
theorem dX9_timetable_62 : decode cX9_timetable 62 = .ok (.bipush (-4), 2) := by decide +kernel
theorem dX9_timetable_64 : decode cX9_timetable 64 = .ok (.ireturn, 1) := by decide +kernel
theorem dX9_swap_0 : decode cX9_swap 0 = .ok (.iload_n 1, 1) := by decide +kernel
theorem dX9_swap_1 : decode cX9_swap 1 = .ok (.iconst 0, 1) := by decide +kernel
theorem dX9_swap_2 : decode cX9_swap 2 = .ok (.iconst 1, 1) := by decide +kernel
theorem dX9_swap_3 : decode cX9_swap 3 = .ok (.invokestatic 112, 3) := by decide +kernel
theorem dX9_swap_6 : decode cX9_swap 6 = .ok (.ifCond .ne 5, 3) := by decide +kernel
theorem dX9_swap_9 : decode cX9_swap 9 = .ok (.iconst (-1), 1) := by decide +kernel
theorem dX9_swap_10 : decode cX9_swap 10 = .ok (.ireturn, 1) := by decide +kernel
theorem dX9_swap_11 : decode cX9_swap 11 = .ok (.aload_n 0, 1) := by decide +kernel
theorem dX9_swap_12 : decode cX9_swap 12 = .ok (.getfield 75, 3) := by decide +kernel
theorem dX9_swap_15 : decode cX9_swap 15 = .ok (.aload_n 0, 1) := by decide +kernel
theorem dX9_swap_16 : decode cX9_swap 16 = .ok (.getfield 28, 3) := by decide +kernel
theorem dX9_swap_19 : decode cX9_swap 19 = .ok (.invokevirtual 230, 3) := by decide +kernel
theorem dX9_swap_22 : decode cX9_swap 22 = .ok (.aload_n 0, 1) := by decide +kernel
theorem dX9_swap_23 : decode cX9_swap 23 = .ok (.getfield 75, 3) := by decide +kernel
theorem dX9_swap_26 : decode cX9_swap 26 = .ok (.getfield 231, 3) := by decide +kernel
theorem dX9_swap_29 : decode cX9_swap 29 = .ok (.ifCond .ge 6, 3) := by decide +kernel
theorem dX9_swap_32 : decode cX9_swap 32 = .ok (.bipush (-4), 2) := by decide +kernel
theorem dX9_swap_34 : decode cX9_swap 34 = .ok (.ireturn, 1) := by decide +kernel
theorem dX9_swap_35 : decode cX9_swap 35 = .ok (.iload_n 1, 1) := by decide +kernel
theorem dX9_swap_36 : decode cX9_swap 36 = .ok (.ifCond .ne 13, 3) := by decide +kernel
theorem dX9_swap_39 : decode cX9_swap 39 = .ok (.aload_n 0, 1) := by decide +kernel
theorem dX9_swap_40 : decode cX9_swap 40 = .ok (.getfield 75, 3) := by decide +kernel
theorem dX9_swap_43 : decode cX9_swap 43 = .ok (.getfield 232, 3) := by decide +kernel
theorem dX9_swap_46 : decode cX9_swap 46 = .ok (.goto 10, 3) := by decide +kernel
theorem dX9_swap_49 : decode cX9_swap 49 = .ok (.aload_n 0, 1) := by decide +kernel
theorem dX9_swap_50 : decode cX9_swap 50 = .ok (.getfield 75, 3) := by decide +kernel
theorem dX9_swap_53 : decode cX9_swap 53 = .ok (.getfield 231, 3) := by decide +kernel
theorem dX9_swap_56 : decode cX9_swap 56 = .ok (.ireturn, 1) := by decide +kernel
theorem dX9_can_0 : decode cX9_can 0 = .ok (.aload_n 0, 1) := by decide +kernel
theorem dX9_can_1 : decode cX9_can 1 = .ok (.iload_n 1, 1) := by decide +kernel
theorem dX9_can_2 : decode cX9_can 2 = .ok (.invokevirtual 161, 3) := by decide +kernel
theorem dX9_can_5 : decode cX9_can 5 = .ok (.ifCond .eq 20, 3) := by decide +kernel
theorem dX9_can_8 : decode cX9_can 8 = .ok (.aload_n 0, 1) := by decide +kernel
theorem dX9_can_9 : decode cX9_can 9 = .ok (.iload_n 2, 1) := by decide +kernel
theorem dX9_can_10 : decode cX9_can 10 = .ok (.invokevirtual 161, 3) := by decide +kernel
theorem dX9_can_13 : decode cX9_can 13 = .ok (.ifCond .eq 12, 3) := by decide +kernel
theorem dX9_can_16 : decode cX9_can 16 = .ok (.iload_n 3, 1) := by decide +kernel
theorem dX9_can_17 : decode cX9_can 17 = .ok (.iconst 0, 1) := by decide +kernel
theorem dX9_can_18 : decode cX9_can 18 = .ok (.iconst 1, 1) := by decide +kernel
theorem dX9_can_19 : decode cX9_can 19 = .ok (.invokestatic 112, 3) := by decide +kernel
theorem dX9_can_22 : decode cX9_can 22 = .ok (.ifCond .ne 5, 3) := by decide +kernel
theorem dX9_can_25 : decode cX9_can 25 = .ok (.iconst (-1), 1) := by decide +kernel
theorem dX9_can_26 : decode cX9_can 26 = .ok (.ireturn, 1) := by decide +kernel
theorem dX9_can_27 : decode cX9_can 27 = .ok (.aload_n 0, 1) := by decide +kernel
theorem dX9_can_28 : decode cX9_can 28 = .ok (.getfield 82, 3) := by decide +kernel
theorem dX9_can_31 : decode cX9_can 31 = .ok (.aload_n 0, 1) := by decide +kernel
theorem dX9_can_32 : decode cX9_can 32 = .ok (.getfield 28, 3) := by decide +kernel
theorem dX9_can_35 : decode cX9_can 35 = .ok (.iload_n 1, 1) := by decide +kernel
theorem dX9_can_36 : decode cX9_can 36 = .ok (.iload_n 2, 1) := by decide +kernel
theorem dX9_can_37 : decode cX9_can 37 = .ok (.invokevirtual 235, 3) := by decide +kernel
theorem dX9_can_40 : decode cX9_can 40 = .ok (.aload_n 0, 1) := by decide +kernel
theorem dX9_can_41 : decode cX9_can 41 = .ok (.getfield 82, 3) := by decide +kernel
theorem dX9_can_44 : decode cX9_can 44 = .ok (.getfield 238, 3) := by decide +kernel
theorem dX9_can_47 : decode cX9_can 47 = .ok (.ifCond .ge 6, 3) := by decide +kernel
theorem dX9_can_50 : decode cX9_can 50 = .ok (.bipush (-4), 2) := by decide +kernel
theorem dX9_can_52 : decode cX9_can 52 = .ok (.ireturn, 1) := by decide +kernel
theorem dX9_can_53 : decode cX9_can 53 = .ok (.iload_n 3, 1) := by decide +kernel
theorem dX9_can_54 : decode cX9_can 54 = .ok (.ifCond .ne 13, 3) := by decide +kernel
theorem dX9_can_57 : decode cX9_can 57 = .ok (.aload_n 0, 1) := by decide +kernel
theorem dX9_can_58 : decode cX9_can 58 = .ok (.getfield 82, 3) := by decide +kernel
theorem dX9_can_61 : decode cX9_can 61 = .ok (.getfield 241, 3) := by decide +kernel
theorem dX9_can_64 : decode cX9_can 64 = .ok (.goto 10, 3) := by decide +kernel
theorem dX9_can_67 : decode cX9_can 67 = .ok (.aload_n 0, 1) := by decide +kernel
theorem dX9_can_68 : decode cX9_can 68 = .ok (.getfield 82, 3) := by decide +kernel
theorem dX9_can_71 : decode cX9_can 71 = .ok (.getfield 238, 3) := by decide +kernel
theorem dX9_can_74 : decode cX9_can 74 = .ok (.ireturn, 1) := by decide +kernel
theorem dX9_seen_0 : decode cX9_seen 0 = .ok (.aload_n 0, 1) := by decide +kernel
theorem dX9_seen_1 : decode cX9_seen 1 = .ok (.iload_n 1, 1) := by decide +kernel
theorem dX9_seen_2 : decode cX9_seen 2 = .ok (.invokevirtual 126, 3) := by decide +kernel
theorem dX9_seen_5 : decode cX9_seen 5 = .ok (.ifCond .eq 20, 3) := by decide +kernel
theorem dX9_seen_8 : decode cX9_seen 8 = .ok (.aload_n 0, 1) := by decide +kernel
theorem dX9_seen_9 : decode cX9_seen 9 = .ok (.iload_n 2, 1) := by decide +kernel
theorem dX9_seen_10 : decode cX9_seen 10 = .ok (.invokevirtual 161, 3) := by decide +kernel
theorem dX9_seen_13 : decode cX9_seen 13 = .ok (.ifCond .eq 12, 3) := by decide +kernel
theorem dX9_seen_16 : decode cX9_seen 16 = .ok (.iload_n 3, 1) := by decide +kernel
theorem dX9_seen_17 : decode cX9_seen 17 = .ok (.iconst 0, 1) := by decide +kernel
theorem dX9_seen_18 : decode cX9_seen 18 = .ok (.iconst 1, 1) := by decide +kernel
theorem dX9_seen_19 : decode cX9_seen 19 = .ok (.invokestatic 112, 3) := by decide +kernel
theorem dX9_seen_22 : decode cX9_seen 22 = .ok (.ifCond .ne 5, 3) := by decide +kernel
theorem dX9_seen_25 : decode cX9_seen 25 = .ok (.iconst (-1), 1) := by decide +kernel
theorem dX9_seen_26 : decode cX9_seen 26 = .ok (.ireturn, 1) := by decide +kernel
theorem dX9_seen_27 : decode cX9_seen 27 = .ok (.aload_n 0, 1) := by decide +kernel
theorem dX9_seen_28 : decode cX9_seen 28 = .ok (.getfield 52, 3) := by decide +kernel
theorem dX9_seen_31 : decode cX9_seen 31 = .ok (.iload_n 1, 1) := by decide +kernel
theorem dX9_seen_32 : decode cX9_seen 32 = .ok (.iload_n 2, 1) := by decide +kernel
theorem dX9_seen_33 : decode cX9_seen 33 = .ok (.iload_n 3, 1) := by decide +kernel
theorem dX9_seen_34 : decode cX9_seen 34 = .ok (.iconst 1, 1) := by decide +kernel
theorem dX9_seen_35 : decode cX9_seen 35 = .ok (.if_icmp .ne 7, 3) := by decide +kernel
theorem dX9_seen_38 : decode cX9_seen 38 = .ok (.iconst 1, 1) := by decide +kernel
theorem dX9_seen_39 : decode cX9_seen 39 = .ok (.goto 4, 3) := by decide +kernel
theorem dX9_seen_42 : decode cX9_seen 42 = .ok (.iconst 0, 1) := by decide +kernel
theorem dX9_seen_43 : decode cX9_seen 43 = .ok (.invokevirtual 244, 3) := by decide +kernel
theorem dX9_seen_46 : decode cX9_seen 46 = .ok (.ifCond .eq 13, 3) := by decide +kernel
theorem dX9_seen_49 : decode cX9_seen 49 = .ok (.aload_n 0, 1) := by decide +kernel
theorem dX9_seen_50 : decode cX9_seen 50 = .ok (.getfield 52, 3) := by decide +kernel
theorem dX9_seen_53 : decode cX9_seen 53 = .ok (.getfield 247, 3) := by decide +kernel
theorem dX9_seen_56 : decode cX9_seen 56 = .ok (.goto 5, 3) := by decide +kernel
theorem dX9_seen_59 : decode cX9_seen 59 = .ok (.bipush (-3), 2) := by decide +kernel
theorem dX9_seen_61 : decode cX9_seen 61 = .ok (.ireturn, 1) := by decide +kernel
theorem dX9_forget_0 : decode cX9_forget 0 = .ok (.aload_n 0, 1) := by decide +kernel
theorem dX9_forget_1 : decode cX9_forget 1 = .ok (.getfield 52, 3) := by decide +kernel
theorem dX9_forget_4 : decode cX9_forget 4 = .ok (.getfield 247, 3) := by decide +kernel
theorem dX9_forget_7 : decode cX9_forget 7 = .ok (.istore_n 1, 1) := by decide +kernel
theorem dX9_forget_8 : decode cX9_forget 8 = .ok (.aload_n 0, 1) := by decide +kernel
theorem dX9_forget_9 : decode cX9_forget 9 = .ok (.getfield 52, 3) := by decide +kernel
theorem dX9_forget_12 : decode cX9_forget 12 = .ok (.invokevirtual 248, 3) := by decide +kernel
theorem dX9_forget_15 : decode cX9_forget 15 = .ok (.iload_n 1, 1) := by decide +kernel
theorem dX9_forget_16 : decode cX9_forget 16 = .ok (.ireturn, 1) := by decide +kernel
theorem dX9_nerves_0 : decode cX9_nerves 0 = .ok (.aload_n 0, 1) := by decide +kernel
theorem dX9_nerves_1 : decode cX9_nerves 1 = .ok (.iload_n 1, 1) := by decide +kernel
theorem dX9_nerves_2 : decode cX9_nerves 2 = .ok (.invokevirtual 126, 3) := by decide +kernel
theorem dX9_nerves_5 : decode cX9_nerves 5 = .ok (.ifCond .eq 12, 3) := by decide +kernel
theorem dX9_nerves_8 : decode cX9_nerves 8 = .ok (.iload_n 2, 1) := by decide +kernel
theorem dX9_nerves_9 : decode cX9_nerves 9 = .ok (.iconst 0, 1) := by decide +kernel
theorem dX9_nerves_10 : decode cX9_nerves 10 = .ok (.iconst 1, 1) := by decide +kernel
theorem dX9_nerves_11 : decode cX9_nerves 11 = .ok (.invokestatic 112, 3) := by decide +kernel
theorem dX9_nerves_14 : decode cX9_nerves 14 = .ok (.ifCond .ne 5, 3) := by decide +kernel
theorem dX9_nerves_17 : decode cX9_nerves 17 = .ok (.iconst (-1), 1) := by decide +kernel
theorem dX9_nerves_18 : decode cX9_nerves 18 = .ok (.ireturn, 1) := by decide +kernel
theorem dX9_nerves_19 : decode cX9_nerves 19 = .ok (.iconst 0, 1) := by decide +kernel
theorem dX9_nerves_20 : decode cX9_nerves 20 = .ok (.istore_n 3, 1) := by decide +kernel
theorem dX9_nerves_21 : decode cX9_nerves 21 = .ok (.bipush (-4), 2) := by decide +kernel
theorem dX9_nerves_23 : decode cX9_nerves 23 = .ok (.istore 4, 2) := by decide +kernel
theorem dX9_nerves_25 : decode cX9_nerves 25 = .ok (.bipush 30, 2) := by decide +kernel
theorem dX9_nerves_27 : decode cX9_nerves 27 = .ok (.istore 5, 2) := by decide +kernel
theorem dX9_nerves_29 : decode cX9_nerves 29 = .ok (.iload 5, 2) := by decide +kernel
theorem dX9_nerves_31 : decode cX9_nerves 31 = .ok (.ifCond .lt 45, 3) := by decide +kernel
theorem dX9_nerves_34 : decode cX9_nerves 34 = .ok (.aload_n 0, 1) := by decide +kernel
theorem dX9_nerves_35 : decode cX9_nerves 35 = .ok (.getfield 52, 3) := by decide +kernel
theorem dX9_nerves_38 : decode cX9_nerves 38 = .ok (.aload_n 0, 1) := by decide +kernel
theorem dX9_nerves_39 : decode cX9_nerves 39 = .ok (.getfield 28, 3) := by decide +kernel
theorem dX9_nerves_42 : decode cX9_nerves 42 = .ok (.iload_n 1, 1) := by decide +kernel
theorem dX9_nerves_43 : decode cX9_nerves 43 = .ok (.aload_n 0, 1) := by decide +kernel
theorem dX9_nerves_44 : decode cX9_nerves 44 = .ok (.getfield 28, 3) := by decide +kernel
theorem dX9_nerves_47 : decode cX9_nerves 47 = .ok (.getfield 119, 3) := by decide +kernel
theorem dX9_nerves_50 : decode cX9_nerves 50 = .ok (.getfield 130, 3) := by decide +kernel
theorem dX9_nerves_53 : decode cX9_nerves 53 = .ok (.iload_n 1, 1) := by decide +kernel
theorem dX9_nerves_54 : decode cX9_nerves 54 = .ok (.iaload, 1) := by decide +kernel
theorem dX9_nerves_55 : decode cX9_nerves 55 = .ok (.iload 5, 2) := by decide +kernel
theorem dX9_nerves_57 : decode cX9_nerves 57 = .ok (.invokevirtual 249, 3) := by decide +kernel
theorem dX9_nerves_60 : decode cX9_nerves 60 = .ok (.ifCond .eq 10, 3) := by decide +kernel
theorem dX9_nerves_63 : decode cX9_nerves 63 = .ok (.iinc 3 1, 3) := by decide +kernel
theorem dX9_nerves_66 : decode cX9_nerves 66 = .ok (.iload 5, 2) := by decide +kernel
theorem dX9_nerves_68 : decode cX9_nerves 68 = .ok (.istore 4, 2) := by decide +kernel
theorem dX9_nerves_70 : decode cX9_nerves 70 = .ok (.iinc 5 (-1), 3) := by decide +kernel
theorem dX9_nerves_73 : decode cX9_nerves 73 = .ok (.goto (-44), 3) := by decide +kernel
theorem dX9_nerves_76 : decode cX9_nerves 76 = .ok (.iload_n 2, 1) := by decide +kernel
theorem dX9_nerves_77 : decode cX9_nerves 77 = .ok (.ifCond .ne 7, 3) := by decide +kernel
theorem dX9_nerves_80 : decode cX9_nerves 80 = .ok (.iload_n 3, 1) := by decide +kernel
theorem dX9_nerves_81 : decode cX9_nerves 81 = .ok (.goto 5, 3) := by decide +kernel
theorem dX9_nerves_84 : decode cX9_nerves 84 = .ok (.iload 4, 2) := by decide +kernel
theorem dX9_nerves_86 : decode cX9_nerves 86 = .ok (.ireturn, 1) := by decide +kernel
theorem dX9_kinds_0 : decode cX9_kinds 0 = .ok (.aload_n 0, 1) := by decide +kernel
theorem dX9_kinds_1 : decode cX9_kinds 1 = .ok (.iload_n 1, 1) := by decide +kernel
theorem dX9_kinds_2 : decode cX9_kinds 2 = .ok (.invokevirtual 126, 3) := by decide +kernel
theorem dX9_kinds_5 : decode cX9_kinds 5 = .ok (.ifCond .ne 5, 3) := by decide +kernel
theorem dX9_kinds_8 : decode cX9_kinds 8 = .ok (.iconst (-1), 1) := by decide +kernel
theorem dX9_kinds_9 : decode cX9_kinds 9 = .ok (.ireturn, 1) := by decide +kernel
theorem dX9_kinds_10 : decode cX9_kinds 10 = .ok (.iconst 0, 1) := by decide +kernel
theorem dX9_kinds_11 : decode cX9_kinds 11 = .ok (.istore_n 2, 1) := by decide +kernel
theorem dX9_kinds_12 : decode cX9_kinds 12 = .ok (.iconst 0, 1) := by decide +kernel
theorem dX9_kinds_13 : decode cX9_kinds 13 = .ok (.istore_n 3, 1) := by decide +kernel
theorem dX9_kinds_14 : decode cX9_kinds 14 = .ok (.iload_n 3, 1) := by decide +kernel
theorem dX9_kinds_15 : decode cX9_kinds 15 = .ok (.iconst 4, 1) := by decide +kernel
theorem dX9_kinds_16 : decode cX9_kinds 16 = .ok (.if_icmp .ge 40, 3) := by decide +kernel
theorem dX9_kinds_19 : decode cX9_kinds 19 = .ok (.aload_n 0, 1) := by decide +kernel
theorem dX9_kinds_20 : decode cX9_kinds 20 = .ok (.getfield 52, 3) := by decide +kernel
theorem dX9_kinds_23 : decode cX9_kinds 23 = .ok (.aload_n 0, 1) := by decide +kernel
theorem dX9_kinds_24 : decode cX9_kinds 24 = .ok (.getfield 28, 3) := by decide +kernel
theorem dX9_kinds_27 : decode cX9_kinds 27 = .ok (.iload_n 1, 1) := by decide +kernel
theorem dX9_kinds_28 : decode cX9_kinds 28 = .ok (.iload_n 3, 1) := by decide +kernel
theorem dX9_kinds_29 : decode cX9_kinds 29 = .ok (.aload_n 0, 1) := by decide +kernel
theorem dX9_kinds_30 : decode cX9_kinds 30 = .ok (.getfield 28, 3) := by decide +kernel
theorem dX9_kinds_33 : decode cX9_kinds 33 = .ok (.getfield 140, 3) := by decide +kernel
theorem dX9_kinds_36 : decode cX9_kinds 36 = .ok (.iload_n 1, 1) := by decide +kernel
theorem dX9_kinds_37 : decode cX9_kinds 37 = .ok (.iaload, 1) := by decide +kernel
theorem dX9_kinds_38 : decode cX9_kinds 38 = .ok (.invokevirtual 249, 3) := by decide +kernel
theorem dX9_kinds_41 : decode cX9_kinds 41 = .ok (.ifCond .eq 9, 3) := by decide +kernel
theorem dX9_kinds_44 : decode cX9_kinds 44 = .ok (.iload_n 2, 1) := by decide +kernel
theorem dX9_kinds_45 : decode cX9_kinds 45 = .ok (.iconst 1, 1) := by decide +kernel
theorem dX9_kinds_46 : decode cX9_kinds 46 = .ok (.iload_n 3, 1) := by decide +kernel
theorem dX9_kinds_47 : decode cX9_kinds 47 = .ok (.ishl, 1) := by decide +kernel
theorem dX9_kinds_48 : decode cX9_kinds 48 = .ok (.ior, 1) := by decide +kernel
theorem dX9_kinds_49 : decode cX9_kinds 49 = .ok (.istore_n 2, 1) := by decide +kernel
theorem dX9_kinds_50 : decode cX9_kinds 50 = .ok (.iinc 3 1, 3) := by decide +kernel
theorem dX9_kinds_53 : decode cX9_kinds 53 = .ok (.goto (-39), 3) := by decide +kernel
theorem dX9_kinds_56 : decode cX9_kinds 56 = .ok (.iload_n 2, 1) := by decide +kernel
theorem dX9_kinds_57 : decode cX9_kinds 57 = .ok (.ireturn, 1) := by decide +kernel
theorem dX9_likely_0 : decode cX9_likely 0 = .ok (.iload_n 1, 1) := by decide +kernel
theorem dX9_likely_1 : decode cX9_likely 1 = .ok (.iconst 0, 1) := by decide +kernel
theorem dX9_likely_2 : decode cX9_likely 2 = .ok (.iconst 5, 1) := by decide +kernel
theorem dX9_likely_3 : decode cX9_likely 3 = .ok (.invokestatic 112, 3) := by decide +kernel
theorem dX9_likely_6 : decode cX9_likely 6 = .ok (.ifCond .eq 22, 3) := by decide +kernel
theorem dX9_likely_9 : decode cX9_likely 9 = .ok (.iload_n 2, 1) := by decide +kernel
theorem dX9_likely_10 : decode cX9_likely 10 = .ok (.iconst 0, 1) := by decide +kernel
theorem dX9_likely_11 : decode cX9_likely 11 = .ok (.bipush 10, 2) := by decide +kernel
theorem dX9_likely_13 : decode cX9_likely 13 = .ok (.invokestatic 112, 3) := by decide +kernel
theorem dX9_likely_16 : decode cX9_likely 16 = .ok (.ifCond .eq 12, 3) := by decide +kernel
theorem dX9_likely_19 : decode cX9_likely 19 = .ok (.iload_n 3, 1) := by decide +kernel
theorem dX9_likely_20 : decode cX9_likely 20 = .ok (.iconst 0, 1) := by decide +kernel
theorem dX9_likely_21 : decode cX9_likely 21 = .ok (.iconst 1, 1) := by decide +kernel
theorem dX9_likely_22 : decode cX9_likely 22 = .ok (.invokestatic 112, 3) := by decide +kernel
theorem dX9_likely_25 : decode cX9_likely 25 = .ok (.ifCond .ne 5, 3) := by decide +kernel
theorem dX9_likely_28 : decode cX9_likely 28 = .ok (.iconst (-1), 1) := by decide +kernel
theorem dX9_likely_29 : decode cX9_likely 29 = .ok (.ireturn, 1) := by decide +kernel
theorem dX9_likely_30 : decode cX9_likely 30 = .ok (.aload_n 0, 1) := by decide +kernel
theorem dX9_likely_31 : decode cX9_likely 31 = .ok (.getfield 28, 3) := by decide +kernel
theorem dX9_likely_34 : decode cX9_likely 34 = .ok (.invokevirtual 253, 3) := by decide +kernel
theorem dX9_likely_37 : decode cX9_likely 37 = .ok (.istore 4, 2) := by decide +kernel
theorem dX9_likely_39 : decode cX9_likely 39 = .ok (.iconst 0, 1) := by decide +kernel
theorem dX9_likely_40 : decode cX9_likely 40 = .ok (.istore 5, 2) := by decide +kernel
theorem dX9_likely_42 : decode cX9_likely 42 = .ok (.iconst 0, 1) := by decide +kernel
theorem dX9_likely_43 : decode cX9_likely 43 = .ok (.istore 6, 2) := by decide +kernel
theorem dX9_likely_45 : decode cX9_likely 45 = .ok (.iload 6, 2) := by decide +kernel
theorem dX9_likely_47 : decode cX9_likely 47 = .ok (.bipush 64, 2) := by decide +kernel
theorem dX9_likely_49 : decode cX9_likely 49 = .ok (.if_icmp .ge 42, 3) := by decide +kernel
theorem dX9_likely_52 : decode cX9_likely 52 = .ok (.iload 6, 2) := by decide +kernel
theorem dX9_likely_54 : decode cX9_likely 54 = .ok (.iload 4, 2) := by decide +kernel
theorem dX9_likely_56 : decode cX9_likely 56 = .ok (.iconst (-1), 1) := by decide +kernel
theorem dX9_likely_57 : decode cX9_likely 57 = .ok (.ixor, 1) := by decide +kernel
theorem dX9_likely_58 : decode cX9_likely 58 = .ok (.iand, 1) := by decide +kernel
theorem dX9_likely_59 : decode cX9_likely 59 = .ok (.ifCond .ne 26, 3) := by decide +kernel
theorem dX9_likely_62 : decode cX9_likely 62 = .ok (.aload_n 0, 1) := by decide +kernel
theorem dX9_likely_63 : decode cX9_likely 63 = .ok (.iload 6, 2) := by decide +kernel
theorem dX9_likely_65 : decode cX9_likely 65 = .ok (.invokevirtual 256, 3) := by decide +kernel
theorem dX9_likely_68 : decode cX9_likely 68 = .ok (.iload_n 1, 1) := by decide +kernel
theorem dX9_likely_69 : decode cX9_likely 69 = .ok (.if_icmp .lt 16, 3) := by decide +kernel
theorem dX9_likely_72 : decode cX9_likely 72 = .ok (.iload 5, 2) := by decide +kernel
theorem dX9_likely_74 : decode cX9_likely 74 = .ok (.iload 4, 2) := by decide +kernel
theorem dX9_likely_76 : decode cX9_likely 76 = .ok (.iload 6, 2) := by decide +kernel
theorem dX9_likely_78 : decode cX9_likely 78 = .ok (.iload_n 2, 1) := by decide +kernel
theorem dX9_likely_79 : decode cX9_likely 79 = .ok (.invokestatic 260, 3) := by decide +kernel
theorem dX9_likely_82 : decode cX9_likely 82 = .ok (.iadd, 1) := by decide +kernel
theorem dX9_likely_83 : decode cX9_likely 83 = .ok (.istore 5, 2) := by decide +kernel
theorem dX9_likely_85 : decode cX9_likely 85 = .ok (.iinc 6 1, 3) := by decide +kernel
theorem dX9_likely_88 : decode cX9_likely 88 = .ok (.goto (-43), 3) := by decide +kernel
theorem dX9_likely_91 : decode cX9_likely 91 = .ok (.bipush 10, 2) := by decide +kernel
theorem dX9_likely_93 : decode cX9_likely 93 = .ok (.iload 4, 2) := by decide +kernel
theorem dX9_likely_95 : decode cX9_likely 95 = .ok (.invokestatic 264, 3) := by decide +kernel
theorem dX9_likely_98 : decode cX9_likely 98 = .ok (.invokestatic 269, 3) := by decide +kernel
theorem dX9_likely_101 : decode cX9_likely 101 = .ok (.istore 6, 2) := by decide +kernel
theorem dX9_likely_103 : decode cX9_likely 103 = .ok (.iload 5, 2) := by decide +kernel
theorem dX9_likely_105 : decode cX9_likely 105 = .ok (.iload 6, 2) := by decide +kernel
theorem dX9_likely_107 : decode cX9_likely 107 = .ok (.invokestatic 272, 3) := by decide +kernel
theorem dX9_likely_110 : decode cX9_likely 110 = .ok (.istore 7, 2) := by decide +kernel
theorem dX9_likely_112 : decode cX9_likely 112 = .ok (.iload 7, 2) := by decide +kernel
theorem dX9_likely_114 : decode cX9_likely 114 = .ok (.iconst 1, 1) := by decide +kernel
theorem dX9_likely_115 : decode cX9_likely 115 = .ok (.if_icmp .ge 5, 3) := by decide +kernel
theorem dX9_likely_118 : decode cX9_likely 118 = .ok (.iconst (-1), 1) := by decide +kernel
theorem dX9_likely_119 : decode cX9_likely 119 = .ok (.ireturn, 1) := by decide +kernel
theorem dX9_likely_120 : decode cX9_likely 120 = .ok (.iload_n 3, 1) := by decide +kernel
theorem dX9_likely_121 : decode cX9_likely 121 = .ok (.ifCond .ne 11, 3) := by decide +kernel
theorem dX9_likely_124 : decode cX9_likely 124 = .ok (.iload 5, 2) := by decide +kernel
theorem dX9_likely_126 : decode cX9_likely 126 = .ok (.iload 7, 2) := by decide +kernel
theorem dX9_likely_128 : decode cX9_likely 128 = .ok (.idiv, 1) := by decide +kernel
theorem dX9_likely_129 : decode cX9_likely 129 = .ok (.goto 8, 3) := by decide +kernel
theorem dX9_likely_132 : decode cX9_likely 132 = .ok (.iload 6, 2) := by decide +kernel
theorem dX9_likely_134 : decode cX9_likely 134 = .ok (.iload 7, 2) := by decide +kernel
