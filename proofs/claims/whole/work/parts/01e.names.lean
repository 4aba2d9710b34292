theorem dX10_person_71 : decode cX10_person 71 = .ok (.iconst 3, 1) := by decide +kernel
theorem dX10_person_72 : decode cX10_person 72 = .ok (.iload_n 1, 1) := by decide +kernel
theorem dX10_person_73 : decode cX10_person 73 = .ok (.iadd, 1) := by decide +kernel
theorem dX10_person_74 : decode cX10_person 74 = .ok (.iaload, 1) := by decide +kernel
theorem dX10_person_75 : decode cX10_person 75 = .ok (.ireturn, 1) := by decide +kernel
theorem dX10_person_76 : decode cX10_person 76 = .ok (.aload_n 0, 1) := by decide +kernel
theorem dX10_person_77 : decode cX10_person 77 = .ok (.getfield 16, 3) := by decide +kernel
theorem dX10_person_80 : decode cX10_person 80 = .ok (.bipush 9, 2) := by decide +kernel
theorem dX10_person_82 : decode cX10_person 82 = .ok (.iload_n 1, 1) := by decide +kernel
theorem dX10_person_83 : decode cX10_person 83 = .ok (.iadd, 1) := by decide +kernel
theorem dX10_person_84 : decode cX10_person 84 = .ok (.iaload, 1) := by decide +kernel
theorem dX10_person_85 : decode cX10_person 85 = .ok (.ireturn, 1) := by decide +kernel
theorem dX10_person_86 : decode cX10_person 86 = .ok (.aload_n 0, 1) := by decide +kernel
theorem dX10_person_87 : decode cX10_person 87 = .ok (.getfield 16, 3) := by decide +kernel
theorem dX10_person_90 : decode cX10_person 90 = .ok (.bipush 15, 2) := by decide +kernel
theorem dX10_person_92 : decode cX10_person 92 = .ok (.iload_n 1, 1) := by decide +kernel
theorem dX10_person_93 : decode cX10_person 93 = .ok (.iadd, 1) := by decide +kernel
theorem dX10_person_94 : decode cX10_person 94 = .ok (.iaload, 1) := by decide +kernel
theorem dX10_person_95 : decode cX10_person 95 = .ok (.ireturn, 1) := by decide +kernel
theorem dX10_person_96 : decode cX10_person 96 = .ok (.aload_n 0, 1) := by decide +kernel
theorem dX10_person_97 : decode cX10_person 97 = .ok (.iload_n 1, 1) := by decide +kernel
theorem dX10_person_98 : decode cX10_person 98 = .ok (.invokevirtual 147, 3) := by decide +kernel
theorem dX10_person_101 : decode cX10_person 101 = .ok (.ireturn, 1) := by decide +kernel
theorem dX10_person_102 : decode cX10_person 102 = .ok (.aload_n 0, 1) := by decide +kernel
theorem dX10_person_103 : decode cX10_person 103 = .ok (.invokevirtual 150, 3) := by decide +kernel
theorem dX10_person_106 : decode cX10_person 106 = .ok (.iload_n 1, 1) := by decide +kernel
theorem dX10_person_107 : decode cX10_person 107 = .ok (.invokestatic 139, 3) := by decide +kernel
theorem dX10_person_110 : decode cX10_person 110 = .ok (.ifCond .eq 7, 3) := by decide +kernel
theorem dX10_person_113 : decode cX10_person 113 = .ok (.iconst 1, 1) := by decide +kernel
theorem dX10_person_114 : decode cX10_person 114 = .ok (.goto 4, 3) := by decide +kernel
theorem dX10_person_117 : decode cX10_person 117 = .ok (.iconst 0, 1) := by decide +kernel
theorem dX10_person_118 : decode cX10_person 118 = .ok (.ireturn, 1) := by decide +kernel
theorem dX10_person_119 : decode cX10_person 119 = .ok (.aload_n 0, 1) := by decide +kernel
theorem dX10_person_120 : decode cX10_person 120 = .ok (.getfield 16, 3) := by decide +kernel
theorem dX10_person_123 : decode cX10_person 123 = .ok (.iconst 1, 1) := by decide +kernel
theorem dX10_person_124 : decode cX10_person 124 = .ok (.iaload, 1) := by decide +kernel
theorem dX10_person_125 : decode cX10_person 125 = .ok (.iload_n 1, 1) := by decide +kernel
theorem dX10_person_126 : decode cX10_person 126 = .ok (.invokestatic 139, 3) := by decide +kernel
theorem dX10_person_129 : decode cX10_person 129 = .ok (.ifCond .eq 7, 3) := by decide +kernel
theorem dX10_person_132 : decode cX10_person 132 = .ok (.iconst 1, 1) := by decide +kernel
theorem dX10_person_133 : decode cX10_person 133 = .ok (.goto 4, 3) := by decide +kernel
theorem dX10_person_136 : decode cX10_person 136 = .ok (.iconst 0, 1) := by decide +kernel
theorem dX10_person_137 : decode cX10_person 137 = .ok (.ireturn, 1) := by decide +kernel
theorem dX10_person_138 : decode cX10_person 138 = .ok (.aload_n 0, 1) := by decide +kernel
theorem dX10_person_139 : decode cX10_person 139 = .ok (.iload_n 1, 1) := by decide +kernel
theorem dX10_person_140 : decode cX10_person 140 = .ok (.invokevirtual 162, 3) := by decide +kernel
theorem dX10_person_143 : decode cX10_person 143 = .ok (.ifCond .eq 7, 3) := by decide +kernel
theorem dX10_person_146 : decode cX10_person 146 = .ok (.iconst 1, 1) := by decide +kernel
theorem dX10_person_147 : decode cX10_person 147 = .ok (.goto 4, 3) := by decide +kernel
theorem dX10_person_150 : decode cX10_person 150 = .ok (.iconst 0, 1) := by decide +kernel
theorem dX10_person_151 : decode cX10_person 151 = .ok (.ireturn, 1) := by decide +kernel
theorem dX10_person_152 : decode cX10_person 152 = .ok (.iconst (-1), 1) := by decide +kernel
theorem dX10_person_153 : decode cX10_person 153 = .ok (.ireturn, 1) := by decide +kernel
theorem dX10_fear_0 : decode cX10_fear 0 = .ok (.aload_n 0, 1) := by decide +kernel
theorem dX10_fear_1 : decode cX10_fear 1 = .ok (.iload_n 1, 1) := by decide +kernel
theorem dX10_fear_2 : decode cX10_fear 2 = .ok (.invokevirtual 156, 3) := by decide +kernel
theorem dX10_fear_5 : decode cX10_fear 5 = .ok (.ifCond .eq 11, 3) := by decide +kernel
theorem dX10_fear_8 : decode cX10_fear 8 = .ok (.aload_n 0, 1) := by decide +kernel
theorem dX10_fear_9 : decode cX10_fear 9 = .ok (.iload_n 2, 1) := by decide +kernel
theorem dX10_fear_10 : decode cX10_fear 10 = .ok (.invokevirtual 165, 3) := by decide +kernel
theorem dX10_fear_13 : decode cX10_fear 13 = .ok (.ifCond .ne 5, 3) := by decide +kernel
theorem dX10_fear_16 : decode cX10_fear 16 = .ok (.iconst (-1), 1) := by decide +kernel
theorem dX10_fear_17 : decode cX10_fear 17 = .ok (.ireturn, 1) := by decide +kernel
theorem dX10_fear_18 : decode cX10_fear 18 = .ok (.aload_n 0, 1) := by decide +kernel
theorem dX10_fear_19 : decode cX10_fear 19 = .ok (.invokevirtual 159, 3) := by decide +kernel
theorem dX10_fear_22 : decode cX10_fear 22 = .ok (.aload_n 0, 1) := by decide +kernel
theorem dX10_fear_23 : decode cX10_fear 23 = .ok (.iload_n 1, 1) := by decide +kernel
theorem dX10_fear_24 : decode cX10_fear 24 = .ok (.iload_n 2, 1) := by decide +kernel
theorem dX10_fear_25 : decode cX10_fear 25 = .ok (.aload_n 0, 1) := by decide +kernel
theorem dX10_fear_26 : decode cX10_fear 26 = .ok (.getfield 7, 3) := by decide +kernel
theorem dX10_fear_29 : decode cX10_fear 29 = .ok (.iload_n 1, 1) := by decide +kernel
theorem dX10_fear_30 : decode cX10_fear 30 = .ok (.iaload, 1) := by decide +kernel
theorem dX10_fear_31 : decode cX10_fear 31 = .ok (.invokevirtual 143, 3) := by decide +kernel
theorem dX10_fear_34 : decode cX10_fear 34 = .ok (.ireturn, 1) := by decide +kernel
theorem dX10_work_0 : decode cX10_work 0 = .ok (.iload_n 1, 1) := by decide +kernel
theorem dX10_work_1 : decode cX10_work 1 = .ok (.iconst 0, 1) := by decide +kernel
theorem dX10_work_2 : decode cX10_work 2 = .ok (.aload_n 0, 1) := by decide +kernel
theorem dX10_work_3 : decode cX10_work 3 = .ok (.getfield 127, 3) := by decide +kernel
theorem dX10_work_6 : decode cX10_work 6 = .ok (.iconst 1, 1) := by decide +kernel
theorem dX10_work_7 : decode cX10_work 7 = .ok (.isub, 1) := by decide +kernel
theorem dX10_work_8 : decode cX10_work 8 = .ok (.invokestatic 76, 3) := by decide +kernel
theorem dX10_work_11 : decode cX10_work 11 = .ok (.ifCond .eq 12, 3) := by decide +kernel
theorem dX10_work_14 : decode cX10_work 14 = .ok (.iload_n 2, 1) := by decide +kernel
theorem dX10_work_15 : decode cX10_work 15 = .ok (.iconst 0, 1) := by decide +kernel
theorem dX10_work_16 : decode cX10_work 16 = .ok (.iconst 2, 1) := by decide +kernel
theorem dX10_work_17 : decode cX10_work 17 = .ok (.invokestatic 76, 3) := by decide +kernel
theorem dX10_work_20 : decode cX10_work 20 = .ok (.ifCond .ne 5, 3) := by decide +kernel
theorem dX10_work_23 : decode cX10_work 23 = .ok (.iconst (-1), 1) := by decide +kernel
theorem dX10_work_24 : decode cX10_work 24 = .ok (.ireturn, 1) := by decide +kernel
theorem dX10_work_25 : decode cX10_work 25 = .ok (.aload_n 0, 1) := by decide +kernel
theorem dX10_work_26 : decode cX10_work 26 = .ok (.invokevirtual 159, 3) := by decide +kernel
theorem dX10_work_29 : decode cX10_work 29 = .ok (.iload_n 2, 1) := by decide +kernel
theorem dX10_work_30 : decode cX10_work 30 = .ok (.iconst 2, 1) := by decide +kernel
theorem dX10_work_31 : decode cX10_work 31 = .ok (.if_icmp .ge 16, 3) := by decide +kernel
theorem dX10_work_34 : decode cX10_work 34 = .ok (.aload_n 0, 1) := by decide +kernel
theorem dX10_work_35 : decode cX10_work 35 = .ok (.getfield 13, 3) := by decide +kernel
theorem dX10_work_38 : decode cX10_work 38 = .ok (.iconst 2, 1) := by decide +kernel
theorem dX10_work_39 : decode cX10_work 39 = .ok (.iload_n 1, 1) := by decide +kernel
theorem dX10_work_40 : decode cX10_work 40 = .ok (.imul, 1) := by decide +kernel
theorem dX10_work_41 : decode cX10_work 41 = .ok (.iload_n 2, 1) := by decide +kernel
theorem dX10_work_42 : decode cX10_work 42 = .ok (.iadd, 1) := by decide +kernel
theorem dX10_work_43 : decode cX10_work 43 = .ok (.iaload, 1) := by decide +kernel
theorem dX10_work_44 : decode cX10_work 44 = .ok (.goto 20, 3) := by decide +kernel
theorem dX10_work_47 : decode cX10_work 47 = .ok (.aload_n 0, 1) := by decide +kernel
theorem dX10_work_48 : decode cX10_work 48 = .ok (.iload_n 1, 1) := by decide +kernel
theorem dX10_work_49 : decode cX10_work 49 = .ok (.aload_n 0, 1) := by decide +kernel
theorem dX10_work_50 : decode cX10_work 50 = .ok (.invokevirtual 150, 3) := by decide +kernel
theorem dX10_work_53 : decode cX10_work 53 = .ok (.invokevirtual 153, 3) := by decide +kernel
theorem dX10_work_56 : decode cX10_work 56 = .ok (.ifCond .eq 7, 3) := by decide +kernel
theorem dX10_work_59 : decode cX10_work 59 = .ok (.iconst 1, 1) := by decide +kernel
theorem dX10_work_60 : decode cX10_work 60 = .ok (.goto 4, 3) := by decide +kernel
theorem dX10_work_63 : decode cX10_work 63 = .ok (.iconst 0, 1) := by decide +kernel
theorem dX10_work_64 : decode cX10_work 64 = .ok (.ireturn, 1) := by decide +kernel
theorem dX10_becomes_0 : decode cX10_becomes 0 = .ok (.aload_n 0, 1) := by decide +kernel
theorem dX10_becomes_1 : decode cX10_becomes 1 = .ok (.getfield 130, 3) := by decide +kernel
theorem dX10_becomes_4 : decode cX10_becomes 4 = .ok (.bipush 8, 2) := by decide +kernel
theorem dX10_becomes_6 : decode cX10_becomes 6 = .ok (.if_icmp .ne 43, 3) := by decide +kernel
theorem dX10_becomes_9 : decode cX10_becomes 9 = .ok (.iconst 0, 1) := by decide +kernel
theorem dX10_becomes_10 : decode cX10_becomes 10 = .ok (.istore_n 1, 1) := by decide +kernel
theorem dX10_becomes_11 : decode cX10_becomes 11 = .ok (.iload_n 1, 1) := by decide +kernel
theorem dX10_becomes_12 : decode cX10_becomes 12 = .ok (.sipush 147, 3) := by decide +kernel
theorem dX10_becomes_15 : decode cX10_becomes 15 = .ok (.if_icmp .ge 24, 3) := by decide +kernel
theorem dX10_becomes_18 : decode cX10_becomes 18 = .ok (.aload_n 0, 1) := by decide +kernel
theorem dX10_becomes_19 : decode cX10_becomes 19 = .ok (.getfield 19, 3) := by decide +kernel
theorem dX10_becomes_22 : decode cX10_becomes 22 = .ok (.iload_n 1, 1) := by decide +kernel
theorem dX10_becomes_23 : decode cX10_becomes 23 = .ok (.aload_n 0, 1) := by decide +kernel
theorem dX10_becomes_24 : decode cX10_becomes 24 = .ok (.getfield 19, 3) := by decide +kernel
theorem dX10_becomes_27 : decode cX10_becomes 27 = .ok (.iload_n 1, 1) := by decide +kernel
theorem dX10_becomes_28 : decode cX10_becomes 28 = .ok (.bipush 21, 2) := by decide +kernel
theorem dX10_becomes_30 : decode cX10_becomes 30 = .ok (.iadd, 1) := by decide +kernel
theorem dX10_becomes_31 : decode cX10_becomes 31 = .ok (.iaload, 1) := by decide +kernel
theorem dX10_becomes_32 : decode cX10_becomes 32 = .ok (.iastore, 1) := by decide +kernel
theorem dX10_becomes_33 : decode cX10_becomes 33 = .ok (.iinc 1 1, 3) := by decide +kernel
theorem dX10_becomes_36 : decode cX10_becomes 36 = .ok (.goto (-25), 3) := by decide +kernel
theorem dX10_becomes_39 : decode cX10_becomes 39 = .ok (.aload_n 0, 1) := by decide +kernel
theorem dX10_becomes_40 : decode cX10_becomes 40 = .ok (.dup, 1) := by decide +kernel
theorem dX10_becomes_41 : decode cX10_becomes 41 = .ok (.getfield 130, 3) := by decide +kernel
theorem dX10_becomes_44 : decode cX10_becomes 44 = .ok (.iconst 1, 1) := by decide +kernel
theorem dX10_becomes_45 : decode cX10_becomes 45 = .ok (.isub, 1) := by decide +kernel
theorem dX10_becomes_46 : decode cX10_becomes 46 = .ok (.putfield 130, 3) := by decide +kernel
theorem dX10_becomes_49 : decode cX10_becomes 49 = .ok (.aload_n 0, 1) := by decide +kernel
theorem dX10_becomes_50 : decode cX10_becomes 50 = .ok (.getfield 19, 3) := by decide +kernel
theorem dX10_becomes_53 : decode cX10_becomes 53 = .ok (.bipush 21, 2) := by decide +kernel
theorem dX10_becomes_55 : decode cX10_becomes 55 = .ok (.aload_n 0, 1) := by decide +kernel
theorem dX10_becomes_56 : decode cX10_becomes 56 = .ok (.getfield 130, 3) := by decide +kernel
theorem dX10_becomes_59 : decode cX10_becomes 59 = .ok (.imul, 1) := by decide +kernel
theorem dX10_becomes_60 : decode cX10_becomes 60 = .ok (.aload_n 0, 1) := by decide +kernel
theorem dX10_becomes_61 : decode cX10_becomes 61 = .ok (.getfield 16, 3) := by decide +kernel
theorem dX10_becomes_64 : decode cX10_becomes 64 = .ok (.iconst 0, 1) := by decide +kernel
theorem dX10_becomes_65 : decode cX10_becomes 65 = .ok (.bipush 21, 2) := by decide +kernel
theorem dX10_becomes_67 : decode cX10_becomes 67 = .ok (.invokestatic 123, 3) := by decide +kernel
theorem dX10_becomes_70 : decode cX10_becomes 70 = .ok (.aload_n 0, 1) := by decide +kernel
theorem dX10_becomes_71 : decode cX10_becomes 71 = .ok (.dup, 1) := by decide +kernel
theorem dX10_becomes_72 : decode cX10_becomes 72 = .ok (.getfield 130, 3) := by decide +kernel
theorem dX10_becomes_75 : decode cX10_becomes 75 = .ok (.iconst 1, 1) := by decide +kernel
theorem dX10_becomes_76 : decode cX10_becomes 76 = .ok (.iadd, 1) := by decide +kernel
theorem dX10_becomes_77 : decode cX10_becomes 77 = .ok (.putfield 130, 3) := by decide +kernel
theorem dX10_becomes_80 : decode cX10_becomes 80 = .ok (.aload_n 0, 1) := by decide +kernel
theorem dX10_becomes_81 : decode cX10_becomes 81 = .ok (.getfield 16, 3) := by decide +kernel
theorem dX10_becomes_84 : decode cX10_becomes 84 = .ok (.iconst 0, 1) := by decide +kernel
theorem dX10_becomes_85 : decode cX10_becomes 85 = .ok (.aload_n 0, 1) := by decide +kernel
theorem dX10_becomes_86 : decode cX10_becomes 86 = .ok (.getfield 43, 3) := by decide +kernel
theorem dX10_becomes_89 : decode cX10_becomes 89 = .ok (.iconst 0, 1) := by decide +kernel
theorem dX10_becomes_90 : decode cX10_becomes 90 = .ok (.bipush 21, 2) := by decide +kernel
theorem dX10_becomes_92 : decode cX10_becomes 92 = .ok (.invokestatic 123, 3) := by decide +kernel
theorem dX10_becomes_95 : decode cX10_becomes 95 = .ok (.return_, 1) := by decide +kernel
theorem dX10_pass_0 : decode cX10_pass 0 = .ok (.iload_n 1, 1) := by decide +kernel
theorem dX10_pass_1 : decode cX10_pass 1 = .ok (.iconst 1, 1) := by decide +kernel
theorem dX10_pass_2 : decode cX10_pass 2 = .ok (.bipush 40, 2) := by decide +kernel
theorem dX10_pass_4 : decode cX10_pass 4 = .ok (.invokestatic 76, 3) := by decide +kernel
theorem dX10_pass_7 : decode cX10_pass 7 = .ok (.ifCond .ne 5, 3) := by decide +kernel
theorem dX10_pass_10 : decode cX10_pass 10 = .ok (.iconst (-1), 1) := by decide +kernel
theorem dX10_pass_11 : decode cX10_pass 11 = .ok (.ireturn, 1) := by decide +kernel
theorem dX10_pass_12 : decode cX10_pass 12 = .ok (.aload_n 0, 1) := by decide +kernel
theorem dX10_pass_13 : decode cX10_pass 13 = .ok (.getfield 16, 3) := by decide +kernel
theorem dX10_pass_16 : decode cX10_pass 16 = .ok (.iconst 0, 1) := by decide +kernel
theorem dX10_pass_17 : decode cX10_pass 17 = .ok (.iaload, 1) := by decide +kernel
theorem dX10_pass_18 : decode cX10_pass 18 = .ok (.iload_n 1, 1) := by decide +kernel
theorem dX10_pass_19 : decode cX10_pass 19 = .ok (.iadd, 1) := by decide +kernel
theorem dX10_pass_20 : decode cX10_pass 20 = .ok (.sipush 999, 3) := by decide +kernel
theorem dX10_pass_23 : decode cX10_pass 23 = .ok (.if_icmp .le 6, 3) := by decide +kernel
theorem dX10_pass_26 : decode cX10_pass 26 = .ok (.bipush (-2), 2) := by decide +kernel
theorem dX10_pass_28 : decode cX10_pass 28 = .ok (.ireturn, 1) := by decide +kernel
theorem dX10_pass_29 : decode cX10_pass 29 = .ok (.aload_n 0, 1) := by decide +kernel
theorem dX10_pass_30 : decode cX10_pass 30 = .ok (.invokevirtual 159, 3) := by decide +kernel
theorem dX10_pass_33 : decode cX10_pass 33 = .ok (.iconst 0, 1) := by decide +kernel
theorem dX10_pass_34 : decode cX10_pass 34 = .ok (.istore_n 2, 1) := by decide +kernel
theorem dX10_pass_35 : decode cX10_pass 35 = .ok (.iload_n 2, 1) := by decide +kernel
theorem dX10_pass_36 : decode cX10_pass 36 = .ok (.iload_n 1, 1) := by decide +kernel
theorem dX10_pass_37 : decode cX10_pass 37 = .ok (.if_icmp .ge 13, 3) := by decide +kernel
theorem dX10_pass_40 : decode cX10_pass 40 = .ok (.aload_n 0, 1) := by decide +kernel
theorem dX10_pass_41 : decode cX10_pass 41 = .ok (.invokevirtual 168, 3) := by decide +kernel
theorem dX10_pass_44 : decode cX10_pass 44 = .ok (.iinc 2 1, 3) := by decide +kernel
theorem dX10_pass_47 : decode cX10_pass 47 = .ok (.goto (-12), 3) := by decide +kernel
theorem dX10_pass_50 : decode cX10_pass 50 = .ok (.aload_n 0, 1) := by decide +kernel
theorem dX10_pass_51 : decode cX10_pass 51 = .ok (.invokevirtual 171, 3) := by decide +kernel
theorem dX10_pass_54 : decode cX10_pass 54 = .ok (.aload_n 0, 1) := by decide +kernel
theorem dX10_pass_55 : decode cX10_pass 55 = .ok (.getfield 16, 3) := by decide +kernel
theorem dX10_pass_58 : decode cX10_pass 58 = .ok (.iconst 0, 1) := by decide +kernel
theorem dX10_pass_59 : decode cX10_pass 59 = .ok (.iaload, 1) := by decide +kernel
theorem dX10_pass_60 : decode cX10_pass 60 = .ok (.ireturn, 1) := by decide +kernel
theorem dX10_promote_0 : decode cX10_promote 0 = .ok (.aload_n 0, 1) := by decide +kernel
theorem dX10_promote_1 : decode cX10_promote 1 = .ok (.iload_n 1, 1) := by decide +kernel
theorem dX10_promote_2 : decode cX10_promote 2 = .ok (.invokevirtual 156, 3) := by decide +kernel
theorem dX10_promote_5 : decode cX10_promote 5 = .ok (.ifCond .ne 5, 3) := by decide +kernel
theorem dX10_promote_8 : decode cX10_promote 8 = .ok (.iconst (-1), 1) := by decide +kernel
theorem dX10_promote_9 : decode cX10_promote 9 = .ok (.ireturn, 1) := by decide +kernel
theorem dX10_promote_10 : decode cX10_promote 10 = .ok (.aload_n 0, 1) := by decide +kernel
theorem dX10_promote_11 : decode cX10_promote 11 = .ok (.invokevirtual 159, 3) := by decide +kernel
theorem dX10_promote_14 : decode cX10_promote 14 = .ok (.aload_n 0, 1) := by decide +kernel
theorem dX10_promote_15 : decode cX10_promote 15 = .ok (.iload_n 1, 1) := by decide +kernel
theorem dX10_promote_16 : decode cX10_promote 16 = .ok (.invokevirtual 174, 3) := by decide +kernel
theorem dX10_promote_19 : decode cX10_promote 19 = .ok (.ifCond .ne 6, 3) := by decide +kernel
theorem dX10_promote_22 : decode cX10_promote 22 = .ok (.bipush (-2), 2) := by decide +kernel
theorem dX10_promote_24 : decode cX10_promote 24 = .ok (.ireturn, 1) := by decide +kernel
theorem dX10_promote_25 : decode cX10_promote 25 = .ok (.aload_n 0, 1) := by decide +kernel
theorem dX10_promote_26 : decode cX10_promote 26 = .ok (.getfield 43, 3) := by decide +kernel
theorem dX10_promote_29 : decode cX10_promote 29 = .ok (.iconst 3, 1) := by decide +kernel
theorem dX10_promote_30 : decode cX10_promote 30 = .ok (.iload_n 1, 1) := by decide +kernel
theorem dX10_promote_31 : decode cX10_promote 31 = .ok (.iadd, 1) := by decide +kernel
theorem dX10_promote_32 : decode cX10_promote 32 = .ok (.dup2, 1) := by decide +kernel
theorem dX10_promote_33 : decode cX10_promote 33 = .ok (.iaload, 1) := by decide +kernel
theorem dX10_promote_34 : decode cX10_promote 34 = .ok (.iconst 1, 1) := by decide +kernel
theorem dX10_promote_35 : decode cX10_promote 35 = .ok (.isub, 1) := by decide +kernel
theorem dX10_promote_36 : decode cX10_promote 36 = .ok (.iastore, 1) := by decide +kernel
theorem dX10_promote_37 : decode cX10_promote 37 = .ok (.aload_n 0, 1) := by decide +kernel
theorem dX10_promote_38 : decode cX10_promote 38 = .ok (.invokevirtual 171, 3) := by decide +kernel
theorem dX10_promote_41 : decode cX10_promote 41 = .ok (.aload_n 0, 1) := by decide +kernel
theorem dX10_promote_42 : decode cX10_promote 42 = .ok (.getfield 16, 3) := by decide +kernel
theorem dX10_promote_45 : decode cX10_promote 45 = .ok (.iconst 3, 1) := by decide +kernel
theorem dX10_promote_46 : decode cX10_promote 46 = .ok (.iload_n 1, 1) := by decide +kernel
theorem dX10_promote_47 : decode cX10_promote 47 = .ok (.iadd, 1) := by decide +kernel
theorem dX10_promote_48 : decode cX10_promote 48 = .ok (.iaload, 1) := by decide +kernel
theorem dX10_promote_49 : decode cX10_promote 49 = .ok (.ireturn, 1) := by decide +kernel
theorem dX10_hoist_0 : decode cX10_hoist 0 = .ok (.aload_n 0, 1) := by decide +kernel
theorem dX10_hoist_1 : decode cX10_hoist 1 = .ok (.iload_n 1, 1) := by decide +kernel
theorem dX10_hoist_2 : decode cX10_hoist 2 = .ok (.invokevirtual 156, 3) := by decide +kernel
theorem dX10_hoist_5 : decode cX10_hoist 5 = .ok (.ifCond .ne 5, 3) := by decide +kernel
theorem dX10_hoist_8 : decode cX10_hoist 8 = .ok (.iconst (-1), 1) := by decide +kernel
theorem dX10_hoist_9 : decode cX10_hoist 9 = .ok (.ireturn, 1) := by decide +kernel
theorem dX10_hoist_10 : decode cX10_hoist 10 = .ok (.aload_n 0, 1) := by decide +kernel
theorem dX10_hoist_11 : decode cX10_hoist 11 = .ok (.invokevirtual 159, 3) := by decide +kernel
theorem dX10_hoist_14 : decode cX10_hoist 14 = .ok (.aload_n 0, 1) := by decide +kernel
theorem dX10_hoist_15 : decode cX10_hoist 15 = .ok (.iload_n 1, 1) := by decide +kernel
theorem dX10_hoist_16 : decode cX10_hoist 16 = .ok (.invokevirtual 177, 3) := by decide +kernel
theorem dX10_hoist_19 : decode cX10_hoist 19 = .ok (.ifCond .ne 6, 3) := by decide +kernel
theorem dX10_hoist_22 : decode cX10_hoist 22 = .ok (.bipush (-2), 2) := by decide +kernel
theorem dX10_hoist_24 : decode cX10_hoist 24 = .ok (.ireturn, 1) := by decide +kernel
theorem dX10_hoist_25 : decode cX10_hoist 25 = .ok (.aload_n 0, 1) := by decide +kernel
theorem dX10_hoist_26 : decode cX10_hoist 26 = .ok (.getfield 43, 3) := by decide +kernel
theorem dX10_hoist_29 : decode cX10_hoist 29 = .ok (.iconst 3, 1) := by decide +kernel
theorem dX10_hoist_30 : decode cX10_hoist 30 = .ok (.iload_n 1, 1) := by decide +kernel
theorem dX10_hoist_31 : decode cX10_hoist 31 = .ok (.iadd, 1) := by decide +kernel
theorem dX10_hoist_32 : decode cX10_hoist 32 = .ok (.dup2, 1) := by decide +kernel
theorem dX10_hoist_33 : decode cX10_hoist 33 = .ok (.iaload, 1) := by decide +kernel
theorem dX10_hoist_34 : decode cX10_hoist 34 = .ok (.iconst 1, 1) := by decide +kernel
theorem dX10_hoist_35 : decode cX10_hoist 35 = .ok (.iadd, 1) := by decide +kernel
theorem dX10_hoist_36 : decode cX10_hoist 36 = .ok (.iastore, 1) := by decide +kernel
theorem dX10_hoist_37 : decode cX10_hoist 37 = .ok (.aload_n 0, 1) := by decide +kernel
theorem dX10_hoist_38 : decode cX10_hoist 38 = .ok (.invokevirtual 171, 3) := by decide +kernel
theorem dX10_hoist_41 : decode cX10_hoist 41 = .ok (.aload_n 0, 1) := by decide +kernel
theorem dX10_hoist_42 : decode cX10_hoist 42 = .ok (.getfield 16, 3) := by decide +kernel
theorem dX10_hoist_45 : decode cX10_hoist 45 = .ok (.iconst 3, 1) := by decide +kernel
theorem dX10_hoist_46 : decode cX10_hoist 46 = .ok (.iload_n 1, 1) := by decide +kernel
theorem dX10_hoist_47 : decode cX10_hoist 47 = .ok (.iadd, 1) := by decide +kernel
theorem dX10_hoist_48 : decode cX10_hoist 48 = .ok (.iaload, 1) := by decide +kernel
theorem dX10_hoist_49 : decode cX10_hoist 49 = .ok (.ireturn, 1) := by decide +kernel
theorem dX10_call_0 : decode cX10_call 0 = .ok (.aload_n 0, 1) := by decide +kernel
theorem dX10_call_1 : decode cX10_call 1 = .ok (.iload_n 1, 1) := by decide +kernel
theorem dX10_call_2 : decode cX10_call 2 = .ok (.invokevirtual 156, 3) := by decide +kernel
theorem dX10_call_5 : decode cX10_call 5 = .ok (.ifCond .ne 5, 3) := by decide +kernel
theorem dX10_call_8 : decode cX10_call 8 = .ok (.iconst (-1), 1) := by decide +kernel
theorem dX10_call_9 : decode cX10_call 9 = .ok (.ireturn, 1) := by decide +kernel
theorem dX10_call_10 : decode cX10_call 10 = .ok (.aload_n 0, 1) := by decide +kernel
theorem dX10_call_11 : decode cX10_call 11 = .ok (.invokevirtual 159, 3) := by decide +kernel
theorem dX10_call_14 : decode cX10_call 14 = .ok (.aload_n 0, 1) := by decide +kernel
theorem dX10_call_15 : decode cX10_call 15 = .ok (.iload_n 1, 1) := by decide +kernel
theorem dX10_call_16 : decode cX10_call 16 = .ok (.invokevirtual 162, 3) := by decide +kernel
theorem dX10_call_19 : decode cX10_call 19 = .ok (.ifCond .ne 6, 3) := by decide +kernel
theorem dX10_call_22 : decode cX10_call 22 = .ok (.bipush (-2), 2) := by decide +kernel
theorem dX10_call_24 : decode cX10_call 24 = .ok (.ireturn, 1) := by decide +kernel
theorem dX10_call_25 : decode cX10_call 25 = .ok (.aload_n 0, 1) := by decide +kernel
theorem dX10_call_26 : decode cX10_call 26 = .ok (.iload_n 1, 1) := by decide +kernel
theorem dX10_call_27 : decode cX10_call 27 = .ok (.invokevirtual 180, 3) := by decide +kernel
theorem dX10_call_30 : decode cX10_call 30 = .ok (.aload_n 0, 1) := by decide +kernel
theorem dX10_call_31 : decode cX10_call 31 = .ok (.invokevirtual 171, 3) := by decide +kernel
theorem dX10_call_34 : decode cX10_call 34 = .ok (.aload_n 0, 1) := by decide +kernel
theorem dX10_call_35 : decode cX10_call 35 = .ok (.getfield 16, 3) := by decide +kernel
theorem dX10_call_38 : decode cX10_call 38 = .ok (.bipush 15, 2) := by decide +kernel
theorem dX10_call_40 : decode cX10_call 40 = .ok (.iload_n 1, 1) := by decide +kernel
theorem dX10_call_41 : decode cX10_call 41 = .ok (.iadd, 1) := by decide +kernel
theorem dX10_call_42 : decode cX10_call 42 = .ok (.iaload, 1) := by decide +kernel
theorem dX10_call_43 : decode cX10_call 43 = .ok (.ireturn, 1) := by decide +kernel
theorem dX10_undo_0 : decode cX10_undo 0 = .ok (.aload_n 0, 1) := by decide +kernel
theorem dX10_undo_1 : decode cX10_undo 1 = .ok (.getfield 130, 3) := by decide +kernel
theorem dX10_undo_4 : decode cX10_undo 4 = .ok (.ifCond .ne 6, 3) := by decide +kernel
theorem dX10_undo_7 : decode cX10_undo 7 = .ok (.bipush (-2), 2) := by decide +kernel
theorem dX10_undo_9 : decode cX10_undo 9 = .ok (.ireturn, 1) := by decide +kernel
theorem dX10_undo_10 : decode cX10_undo 10 = .ok (.aload_n 0, 1) := by decide +kernel
theorem dX10_undo_11 : decode cX10_undo 11 = .ok (.dup, 1) := by decide +kernel
theorem dX10_undo_12 : decode cX10_undo 12 = .ok (.getfield 130, 3) := by decide +kernel
theorem dX10_undo_15 : decode cX10_undo 15 = .ok (.iconst 1, 1) := by decide +kernel
theorem dX10_undo_16 : decode cX10_undo 16 = .ok (.isub, 1) := by decide +kernel
theorem dX10_undo_17 : decode cX10_undo 17 = .ok (.putfield 130, 3) := by decide +kernel
theorem dX10_undo_20 : decode cX10_undo 20 = .ok (.aload_n 0, 1) := by decide +kernel
theorem dX10_undo_21 : decode cX10_undo 21 = .ok (.getfield 16, 3) := by decide +kernel
theorem dX10_undo_24 : decode cX10_undo 24 = .ok (.iconst 0, 1) := by decide +kernel
theorem dX10_undo_25 : decode cX10_undo 25 = .ok (.aload_n 0, 1) := by decide +kernel
theorem dX10_undo_26 : decode cX10_undo 26 = .ok (.getfield 19, 3) := by decide +kernel
theorem dX10_undo_29 : decode cX10_undo 29 = .ok (.bipush 21, 2) := by decide +kernel
theorem dX10_undo_31 : decode cX10_undo 31 = .ok (.aload_n 0, 1) := by decide +kernel
theorem dX10_undo_32 : decode cX10_undo 32 = .ok (.getfield 130, 3) := by decide +kernel
theorem dX10_undo_35 : decode cX10_undo 35 = .ok (.imul, 1) := by decide +kernel
theorem dX10_undo_36 : decode cX10_undo 36 = .ok (.bipush 21, 2) := by decide +kernel
theorem dX10_undo_38 : decode cX10_undo 38 = .ok (.invokestatic 123, 3) := by decide +kernel
theorem dX10_undo_41 : decode cX10_undo 41 = .ok (.aload_n 0, 1) := by decide +kernel
theorem dX10_undo_42 : decode cX10_undo 42 = .ok (.getfield 130, 3) := by decide +kernel
theorem dX10_undo_45 : decode cX10_undo 45 = .ok (.ireturn, 1) := by decide +kernel
theorem dX10_behind_0 : decode cX10_behind 0 = .ok (.iload_n 1, 1) := by decide +kernel
theorem dX10_behind_1 : decode cX10_behind 1 = .ok (.iconst 0, 1) := by decide +kernel
theorem dX10_behind_2 : decode cX10_behind 2 = .ok (.bipush 40, 2) := by decide +kernel
theorem dX10_behind_4 : decode cX10_behind 4 = .ok (.invokestatic 76, 3) := by decide +kernel
theorem dX10_behind_7 : decode cX10_behind 7 = .ok (.ifCond .eq 20, 3) := by decide +kernel
theorem dX10_behind_10 : decode cX10_behind 10 = .ok (.aload_n 0, 1) := by decide +kernel
theorem dX10_behind_11 : decode cX10_behind 11 = .ok (.iload_n 2, 1) := by decide +kernel
theorem dX10_behind_12 : decode cX10_behind 12 = .ok (.invokevirtual 156, 3) := by decide +kernel
theorem dX10_behind_15 : decode cX10_behind 15 = .ok (.ifCond .eq 12, 3) := by decide +kernel
theorem dX10_behind_18 : decode cX10_behind 18 = .ok (.iload_n 3, 1) := by decide +kernel
theorem dX10_behind_19 : decode cX10_behind 19 = .ok (.iconst 0, 1) := by decide +kernel
theorem dX10_behind_20 : decode cX10_behind 20 = .ok (.iconst 1, 1) := by decide +kernel
theorem dX10_behind_21 : decode cX10_behind 21 = .ok (.invokestatic 76, 3) := by decide +kernel
theorem dX10_behind_24 : decode cX10_behind 24 = .ok (.ifCond .ne 5, 3) := by decide +kernel
theorem dX10_behind_27 : decode cX10_behind 27 = .ok (.iconst (-1), 1) := by decide +kernel
theorem dX10_behind_28 : decode cX10_behind 28 = .ok (.ireturn, 1) := by decide +kernel
theorem dX10_behind_29 : decode cX10_behind 29 = .ok (.aload_n 0, 1) := by decide +kernel
theorem dX10_behind_30 : decode cX10_behind 30 = .ok (.invokevirtual 159, 3) := by decide +kernel
theorem dX10_behind_33 : decode cX10_behind 33 = .ok (.iconst 0, 1) := by decide +kernel
theorem dX10_behind_34 : decode cX10_behind 34 = .ok (.istore 4, 2) := by decide +kernel
theorem dX10_behind_36 : decode cX10_behind 36 = .ok (.iload 4, 2) := by decide +kernel
theorem dX10_behind_38 : decode cX10_behind 38 = .ok (.iload_n 1, 1) := by decide +kernel
theorem dX10_behind_39 : decode cX10_behind 39 = .ok (.if_icmp .ge 13, 3) := by decide +kernel
theorem dX10_behind_42 : decode cX10_behind 42 = .ok (.aload_n 0, 1) := by decide +kernel
theorem dX10_behind_43 : decode cX10_behind 43 = .ok (.invokevirtual 168, 3) := by decide +kernel
theorem dX10_behind_46 : decode cX10_behind 46 = .ok (.iinc 4 1, 3) := by decide +kernel
theorem dX10_behind_49 : decode cX10_behind 49 = .ok (.goto (-13), 3) := by decide +kernel
theorem dX10_behind_52 : decode cX10_behind 52 = .ok (.iload_n 3, 1) := by decide +kernel
theorem dX10_behind_53 : decode cX10_behind 53 = .ok (.ifCond .ne 16, 3) := by decide +kernel
theorem dX10_behind_56 : decode cX10_behind 56 = .ok (.aload_n 0, 1) := by decide +kernel
theorem dX10_behind_57 : decode cX10_behind 57 = .ok (.getfield 43, 3) := by decide +kernel
theorem dX10_behind_60 : decode cX10_behind 60 = .ok (.iconst 1, 1) := by decide +kernel
theorem dX10_behind_61 : decode cX10_behind 61 = .ok (.iaload, 1) := by decide +kernel
theorem dX10_behind_62 : decode cX10_behind 62 = .ok (.iload_n 2, 1) := by decide +kernel
theorem dX10_behind_63 : decode cX10_behind 63 = .ok (.ishr, 1) := by decide +kernel
theorem dX10_behind_64 : decode cX10_behind 64 = .ok (.iconst 1, 1) := by decide +kernel
theorem dX10_behind_65 : decode cX10_behind 65 = .ok (.iand, 1) := by decide +kernel
theorem dX10_behind_66 : decode cX10_behind 66 = .ok (.goto 12, 3) := by decide +kernel
theorem dX10_behind_69 : decode cX10_behind 69 = .ok (.aload_n 0, 1) := by decide +kernel
theorem dX10_behind_70 : decode cX10_behind 70 = .ok (.getfield 43, 3) := by decide +kernel
theorem dX10_behind_73 : decode cX10_behind 73 = .ok (.bipush 15, 2) := by decide +kernel
theorem dX10_behind_75 : decode cX10_behind 75 = .ok (.iload_n 2, 1) := by decide +kernel
theorem dX10_behind_76 : decode cX10_behind 76 = .ok (.iadd, 1) := by decide +kernel
theorem dX10_behind_77 : decode cX10_behind 77 = .ok (.iaload, 1) := by decide +kernel
theorem dX10_behind_78 : decode cX10_behind 78 = .ok (.ireturn, 1) := by decide +kernel
theorem dX10_lowest_0 : decode cX10_lowest 0 = .ok (.aload_n 0, 1) := by decide +kernel
theorem dX10_lowest_1 : decode cX10_lowest 1 = .ok (.iload_n 1, 1) := by decide +kernel
theorem dX10_lowest_2 : decode cX10_lowest 2 = .ok (.invokevirtual 156, 3) := by decide +kernel
theorem dX10_lowest_5 : decode cX10_lowest 5 = .ok (.ifCond .ne 5, 3) := by decide +kernel
theorem dX10_lowest_8 : decode cX10_lowest 8 = .ok (.iconst (-1), 1) := by decide +kernel
theorem dX10_lowest_9 : decode cX10_lowest 9 = .ok (.ireturn, 1) := by decide +kernel
theorem dX10_lowest_10 : decode cX10_lowest 10 = .ok (.aload_n 0, 1) := by decide +kernel
theorem dX10_lowest_11 : decode cX10_lowest 11 = .ok (.invokevirtual 159, 3) := by decide +kernel
theorem dX10_lowest_14 : decode cX10_lowest 14 = .ok (.aload_n 0, 1) := by decide +kernel
theorem dX10_lowest_15 : decode cX10_lowest 15 = .ok (.invokevirtual 150, 3) := by decide +kernel
theorem dX10_lowest_18 : decode cX10_lowest 18 = .ok (.aload_n 0, 1) := by decide +kernel
theorem dX10_lowest_19 : decode cX10_lowest 19 = .ok (.getfield 43, 3) := by decide +kernel
theorem dX10_lowest_22 : decode cX10_lowest 22 = .ok (.iconst 1, 1) := by decide +kernel
theorem dX10_lowest_23 : decode cX10_lowest 23 = .ok (.iaload, 1) := by decide +kernel
theorem dX10_lowest_24 : decode cX10_lowest 24 = .ok (.ior, 1) := by decide +kernel
theorem dX10_lowest_25 : decode cX10_lowest 25 = .ok (.iload_n 1, 1) := by decide +kernel
theorem dX10_lowest_26 : decode cX10_lowest 26 = .ok (.invokestatic 139, 3) := by decide +kernel
theorem dX10_lowest_29 : decode cX10_lowest 29 = .ok (.ifCond .eq 6, 3) := by decide +kernel
theorem dX10_lowest_32 : decode cX10_lowest 32 = .ok (.bipush (-2), 2) := by decide +kernel
theorem dX10_lowest_34 : decode cX10_lowest 34 = .ok (.ireturn, 1) := by decide +kernel
theorem dX10_lowest_35 : decode cX10_lowest 35 = .ok (.aload_n 0, 1) := by decide +kernel
theorem dX10_lowest_36 : decode cX10_lowest 36 = .ok (.getfield 43, 3) := by decide +kernel
theorem dX10_lowest_39 : decode cX10_lowest 39 = .ok (.iconst 3, 1) := by decide +kernel
theorem dX10_lowest_40 : decode cX10_lowest 40 = .ok (.iload_n 1, 1) := by decide +kernel
theorem dX10_lowest_41 : decode cX10_lowest 41 = .ok (.iadd, 1) := by decide +kernel
theorem dX10_lowest_42 : decode cX10_lowest 42 = .ok (.iaload, 1) := by decide +kernel
theorem dX10_lowest_43 : decode cX10_lowest 43 = .ok (.istore_n 2, 1) := by decide +kernel
theorem dX10_lowest_44 : decode cX10_lowest 44 = .ok (.iload_n 2, 1) := by decide +kernel
theorem dX10_lowest_45 : decode cX10_lowest 45 = .ok (.ifCond .le 35, 3) := by decide +kernel
theorem dX10_lowest_48 : decode cX10_lowest 48 = .ok (.aload_n 0, 1) := by decide +kernel
theorem dX10_lowest_49 : decode cX10_lowest 49 = .ok (.iload_n 1, 1) := by decide +kernel
theorem dX10_lowest_50 : decode cX10_lowest 50 = .ok (.iload_n 2, 1) := by decide +kernel
theorem dX10_lowest_51 : decode cX10_lowest 51 = .ok (.iconst 1, 1) := by decide +kernel
theorem dX10_lowest_52 : decode cX10_lowest 52 = .ok (.isub, 1) := by decide +kernel
theorem dX10_lowest_53 : decode cX10_lowest 53 = .ok (.aload_n 0, 1) := by decide +kernel
theorem dX10_lowest_54 : decode cX10_lowest 54 = .ok (.getfield 7, 3) := by decide +kernel
theorem dX10_lowest_57 : decode cX10_lowest 57 = .ok (.iload_n 1, 1) := by decide +kernel
theorem dX10_lowest_58 : decode cX10_lowest 58 = .ok (.iaload, 1) := by decide +kernel
theorem dX10_lowest_59 : decode cX10_lowest 59 = .ok (.invokevirtual 143, 3) := by decide +kernel
theorem dX10_lowest_62 : decode cX10_lowest 62 = .ok (.aload_n 0, 1) := by decide +kernel
theorem dX10_lowest_63 : decode cX10_lowest 63 = .ok (.getfield 43, 3) := by decide +kernel
theorem dX10_lowest_66 : decode cX10_lowest 66 = .ok (.bipush 15, 2) := by decide +kernel
theorem dX10_lowest_68 : decode cX10_lowest 68 = .ok (.iload_n 1, 1) := by decide +kernel
theorem dX10_lowest_69 : decode cX10_lowest 69 = .ok (.iadd, 1) := by decide +kernel
theorem dX10_lowest_70 : decode cX10_lowest 70 = .ok (.iaload, 1) := by decide +kernel
theorem dX10_lowest_71 : decode cX10_lowest 71 = .ok (.if_icmp .gt 9, 3) := by decide +kernel
theorem dX10_lowest_74 : decode cX10_lowest 74 = .ok (.iinc 2 (-1), 3) := by decide +kernel
theorem dX10_lowest_77 : decode cX10_lowest 77 = .ok (.goto (-33), 3) := by decide +kernel
theorem dX10_lowest_80 : decode cX10_lowest 80 = .ok (.iload_n 2, 1) := by decide +kernel
theorem dX10_lowest_81 : decode cX10_lowest 81 = .ok (.ireturn, 1) := by decide +kernel
theorem dX10_mayBe_0 : decode cX10_mayBe 0 = .ok (.iconst 1, 1) := by decide +kernel
theorem dX10_mayBe_1 : decode cX10_mayBe 1 = .ok (.aload_n 0, 1) := by decide +kernel
theorem dX10_mayBe_2 : decode cX10_mayBe 2 = .ok (.getfield 16, 3) := by decide +kernel
theorem dX10_mayBe_5 : decode cX10_mayBe 5 = .ok (.iconst 3, 1) := by decide +kernel
theorem dX10_mayBe_6 : decode cX10_mayBe 6 = .ok (.iload_n 1, 1) := by decide +kernel
theorem dX10_mayBe_7 : decode cX10_mayBe 7 = .ok (.iadd, 1) := by decide +kernel
theorem dX10_mayBe_8 : decode cX10_mayBe 8 = .ok (.iaload, 1) := by decide +kernel
theorem dX10_mayBe_9 : decode cX10_mayBe 9 = .ok (.ishl, 1) := by decide +kernel
theorem dX10_mayBe_10 : decode cX10_mayBe 10 = .ok (.istore_n 2, 1) := by decide +kernel
theorem dX10_mayBe_11 : decode cX10_mayBe 11 = .ok (.iconst 0, 1) := by decide +kernel
theorem dX10_mayBe_12 : decode cX10_mayBe 12 = .ok (.istore_n 3, 1) := by decide +kernel
theorem dX10_mayBe_13 : decode cX10_mayBe 13 = .ok (.iload_n 3, 1) := by decide +kernel
theorem dX10_mayBe_14 : decode cX10_mayBe 14 = .ok (.aload_n 0, 1) := by decide +kernel
theorem dX10_mayBe_15 : decode cX10_mayBe 15 = .ok (.getfield 127, 3) := by decide +kernel
theorem dX10_mayBe_18 : decode cX10_mayBe 18 = .ok (.if_icmp .ge 39, 3) := by decide +kernel
theorem dX10_mayBe_21 : decode cX10_mayBe 21 = .ok (.iload_n 2, 1) := by decide +kernel
theorem dX10_mayBe_22 : decode cX10_mayBe 22 = .ok (.aload_n 0, 1) := by decide +kernel
theorem dX10_mayBe_23 : decode cX10_mayBe 23 = .ok (.getfield 16, 3) := by decide +kernel
theorem dX10_mayBe_26 : decode cX10_mayBe 26 = .ok (.iconst 1, 1) := by decide +kernel
theorem dX10_mayBe_27 : decode cX10_mayBe 27 = .ok (.iaload, 1) := by decide +kernel
theorem dX10_mayBe_28 : decode cX10_mayBe 28 = .ok (.iload_n 1, 1) := by decide +kernel
theorem dX10_mayBe_29 : decode cX10_mayBe 29 = .ok (.invokestatic 139, 3) := by decide +kernel
theorem dX10_mayBe_32 : decode cX10_mayBe 32 = .ok (.ifCond .eq 7, 3) := by decide +kernel
theorem dX10_mayBe_35 : decode cX10_mayBe 35 = .ok (.iconst 0, 1) := by decide +kernel
theorem dX10_mayBe_36 : decode cX10_mayBe 36 = .ok (.goto 13, 3) := by decide +kernel
theorem dX10_mayBe_39 : decode cX10_mayBe 39 = .ok (.iconst 1, 1) := by decide +kernel
theorem dX10_mayBe_40 : decode cX10_mayBe 40 = .ok (.aload_n 0, 1) := by decide +kernel
theorem dX10_mayBe_41 : decode cX10_mayBe 41 = .ok (.getfield 13, 3) := by decide +kernel
theorem dX10_mayBe_44 : decode cX10_mayBe 44 = .ok (.iconst 2, 1) := by decide +kernel
theorem dX10_mayBe_45 : decode cX10_mayBe 45 = .ok (.iload_n 3, 1) := by decide +kernel
theorem dX10_mayBe_46 : decode cX10_mayBe 46 = .ok (.imul, 1) := by decide +kernel
theorem dX10_mayBe_47 : decode cX10_mayBe 47 = .ok (.iaload, 1) := by decide +kernel
theorem dX10_mayBe_48 : decode cX10_mayBe 48 = .ok (.ishl, 1) := by decide +kernel
theorem dX10_mayBe_49 : decode cX10_mayBe 49 = .ok (.ior, 1) := by decide +kernel
theorem dX10_mayBe_50 : decode cX10_mayBe 50 = .ok (.istore_n 2, 1) := by decide +kernel
theorem dX10_mayBe_51 : decode cX10_mayBe 51 = .ok (.iinc 3 1, 3) := by decide +kernel
theorem dX10_mayBe_54 : decode cX10_mayBe 54 = .ok (.goto (-41), 3) := by decide +kernel
theorem dX10_mayBe_57 : decode cX10_mayBe 57 = .ok (.iload_n 2, 1) := by decide +kernel
theorem dX10_mayBe_58 : decode cX10_mayBe 58 = .ok (.ireturn, 1) := by decide +kernel
theorem dX10_putsNext_0 : decode cX10_putsNext 0 = .ok (.aload_n 0, 1) := by decide +kernel
theorem dX10_putsNext_1 : decode cX10_putsNext 1 = .ok (.getfield 73, 3) := by decide +kernel
theorem dX10_putsNext_4 : decode cX10_putsNext 4 = .ok (.iconst 1, 1) := by decide +kernel
theorem dX10_putsNext_5 : decode cX10_putsNext 5 = .ok (.isub, 1) := by decide +kernel
theorem dX10_putsNext_6 : decode cX10_putsNext 6 = .ok (.istore_n 1, 1) := by decide +kernel
theorem dX10_putsNext_7 : decode cX10_putsNext 7 = .ok (.iload_n 1, 1) := by decide +kernel
theorem dX10_putsNext_8 : decode cX10_putsNext 8 = .ok (.ifCond .lt 79, 3) := by decide +kernel
theorem dX10_putsNext_11 : decode cX10_putsNext 11 = .ok (.aload_n 0, 1) := by decide +kernel
theorem dX10_putsNext_12 : decode cX10_putsNext 12 = .ok (.iload_n 1, 1) := by decide +kernel
theorem dX10_putsNext_13 : decode cX10_putsNext 13 = .ok (.invokevirtual 184, 3) := by decide +kernel
theorem dX10_putsNext_16 : decode cX10_putsNext 16 = .ok (.istore_n 2, 1) := by decide +kernel
theorem dX10_putsNext_17 : decode cX10_putsNext 17 = .ok (.aload_n 0, 1) := by decide +kernel
theorem dX10_putsNext_18 : decode cX10_putsNext 18 = .ok (.getfield 43, 3) := by decide +kernel
theorem dX10_putsNext_21 : decode cX10_putsNext 21 = .ok (.iconst 3, 1) := by decide +kernel
theorem dX10_putsNext_22 : decode cX10_putsNext 22 = .ok (.iload_n 1, 1) := by decide +kernel
theorem dX10_putsNext_23 : decode cX10_putsNext 23 = .ok (.iadd, 1) := by decide +kernel
theorem dX10_putsNext_24 : decode cX10_putsNext 24 = .ok (.iaload, 1) := by decide +kernel
theorem dX10_putsNext_25 : decode cX10_putsNext 25 = .ok (.iconst 1, 1) := by decide +kernel
theorem dX10_putsNext_26 : decode cX10_putsNext 26 = .ok (.iadd, 1) := by decide +kernel
theorem dX10_putsNext_27 : decode cX10_putsNext 27 = .ok (.istore_n 3, 1) := by decide +kernel
theorem dX10_putsNext_28 : decode cX10_putsNext 28 = .ok (.iload_n 3, 1) := by decide +kernel
theorem dX10_putsNext_29 : decode cX10_putsNext 29 = .ok (.aload_n 0, 1) := by decide +kernel
theorem dX10_putsNext_30 : decode cX10_putsNext 30 = .ok (.getfield 80, 3) := by decide +kernel
theorem dX10_putsNext_33 : decode cX10_putsNext 33 = .ok (.if_icmp .ge 17, 3) := by decide +kernel
theorem dX10_putsNext_36 : decode cX10_putsNext 36 = .ok (.iload_n 2, 1) := by decide +kernel
theorem dX10_putsNext_37 : decode cX10_putsNext 37 = .ok (.iload_n 3, 1) := by decide +kernel
theorem dX10_putsNext_38 : decode cX10_putsNext 38 = .ok (.invokestatic 139, 3) := by decide +kernel
theorem dX10_putsNext_41 : decode cX10_putsNext 41 = .ok (.ifCond .ne 9, 3) := by decide +kernel
theorem dX10_putsNext_44 : decode cX10_putsNext 44 = .ok (.iinc 3 1, 3) := by decide +kernel
theorem dX10_putsNext_47 : decode cX10_putsNext 47 = .ok (.goto (-19), 3) := by decide +kernel
theorem dX10_putsNext_50 : decode cX10_putsNext 50 = .ok (.iload_n 3, 1) := by decide +kernel
theorem dX10_putsNext_51 : decode cX10_putsNext 51 = .ok (.aload_n 0, 1) := by decide +kernel
theorem dX10_putsNext_52 : decode cX10_putsNext 52 = .ok (.getfield 80, 3) := by decide +kernel
theorem dX10_putsNext_55 : decode cX10_putsNext 55 = .ok (.if_icmp .ge 14, 3) := by decide +kernel
theorem dX10_putsNext_58 : decode cX10_putsNext 58 = .ok (.aload_n 0, 1) := by decide +kernel
theorem dX10_putsNext_59 : decode cX10_putsNext 59 = .ok (.getfield 43, 3) := by decide +kernel
theorem dX10_putsNext_62 : decode cX10_putsNext 62 = .ok (.iconst 3, 1) := by decide +kernel
theorem dX10_putsNext_63 : decode cX10_putsNext 63 = .ok (.iload_n 1, 1) := by decide +kernel
theorem dX10_putsNext_64 : decode cX10_putsNext 64 = .ok (.iadd, 1) := by decide +kernel
theorem dX10_putsNext_65 : decode cX10_putsNext 65 = .ok (.iload_n 3, 1) := by decide +kernel
theorem dX10_putsNext_66 : decode cX10_putsNext 66 = .ok (.iastore, 1) := by decide +kernel
theorem dX10_putsNext_67 : decode cX10_putsNext 67 = .ok (.iconst 1, 1) := by decide +kernel
theorem dX10_putsNext_68 : decode cX10_putsNext 68 = .ok (.ireturn, 1) := by decide +kernel
theorem dX10_putsNext_69 : decode cX10_putsNext 69 = .ok (.aload_n 0, 1) := by decide +kernel
theorem dX10_putsNext_70 : decode cX10_putsNext 70 = .ok (.getfield 43, 3) := by decide +kernel
theorem dX10_putsNext_73 : decode cX10_putsNext 73 = .ok (.iconst 3, 1) := by decide +kernel
theorem dX10_putsNext_74 : decode cX10_putsNext 74 = .ok (.iload_n 1, 1) := by decide +kernel
theorem dX10_putsNext_75 : decode cX10_putsNext 75 = .ok (.iadd, 1) := by decide +kernel
theorem dX10_putsNext_76 : decode cX10_putsNext 76 = .ok (.iload_n 2, 1) := by decide +kernel
theorem dX10_putsNext_77 : decode cX10_putsNext 77 = .ok (.invokestatic 187, 3) := by decide +kernel
theorem dX10_putsNext_80 : decode cX10_putsNext 80 = .ok (.iastore, 1) := by decide +kernel
theorem dX10_putsNext_81 : decode cX10_putsNext 81 = .ok (.iinc 1 (-1), 3) := by decide +kernel
theorem dX10_putsNext_84 : decode cX10_putsNext 84 = .ok (.goto (-77), 3) := by decide +kernel
theorem dX10_putsNext_87 : decode cX10_putsNext 87 = .ok (.iconst 0, 1) := by decide +kernel
theorem dX10_putsNext_88 : decode cX10_putsNext 88 = .ok (.ireturn, 1) := by decide +kernel
theorem dX10_leastOf_0 : decode cX10_leastOf 0 = .ok (.iconst 0, 1) := by decide +kernel
theorem dX10_leastOf_1 : decode cX10_leastOf 1 = .ok (.istore_n 1, 1) := by decide +kernel
theorem dX10_leastOf_2 : decode cX10_leastOf 2 = .ok (.iload_n 0, 1) := by decide +kernel
theorem dX10_leastOf_3 : decode cX10_leastOf 3 = .ok (.iload_n 1, 1) := by decide +kernel
theorem dX10_leastOf_4 : decode cX10_leastOf 4 = .ok (.invokestatic 139, 3) := by decide +kernel
theorem dX10_leastOf_7 : decode cX10_leastOf 7 = .ok (.ifCond .ne 9, 3) := by decide +kernel
theorem dX10_leastOf_10 : decode cX10_leastOf 10 = .ok (.iinc 1 1, 3) := by decide +kernel
theorem dX10_leastOf_13 : decode cX10_leastOf 13 = .ok (.goto (-11), 3) := by decide +kernel
theorem dX10_leastOf_16 : decode cX10_leastOf 16 = .ok (.iload_n 1, 1) := by decide +kernel
theorem dX10_leastOf_17 : decode cX10_leastOf 17 = .ok (.ireturn, 1) := by decide +kernel
theorem dX10_posting_0 : decode cX10_posting 0 = .ok (.iload_n 1, 1) := by decide +kernel
theorem dX10_posting_1 : decode cX10_posting 1 = .ok (.iconst (-1), 1) := by decide +kernel
theorem dX10_posting_2 : decode cX10_posting 2 = .ok (.aload_n 0, 1) := by decide +kernel
theorem dX10_posting_3 : decode cX10_posting 3 = .ok (.getfield 73, 3) := by decide +kernel
theorem dX10_posting_6 : decode cX10_posting 6 = .ok (.iconst 1, 1) := by decide +kernel
theorem dX10_posting_7 : decode cX10_posting 7 = .ok (.isub, 1) := by decide +kernel
theorem dX10_posting_8 : decode cX10_posting 8 = .ok (.invokestatic 76, 3) := by decide +kernel
theorem dX10_posting_11 : decode cX10_posting 11 = .ok (.ifCond .ne 5, 3) := by decide +kernel
theorem dX10_posting_14 : decode cX10_posting 14 = .ok (.iconst (-1), 1) := by decide +kernel
theorem dX10_posting_15 : decode cX10_posting 15 = .ok (.ireturn, 1) := by decide +kernel
theorem dX10_posting_16 : decode cX10_posting 16 = .ok (.aload_n 0, 1) := by decide +kernel
theorem dX10_posting_17 : decode cX10_posting 17 = .ok (.invokevirtual 159, 3) := by decide +kernel
theorem dX10_posting_20 : decode cX10_posting 20 = .ok (.iconst 0, 1) := by decide +kernel
theorem dX10_posting_21 : decode cX10_posting 21 = .ok (.istore_n 2, 1) := by decide +kernel
theorem dX10_posting_22 : decode cX10_posting 22 = .ok (.iload_n 2, 1) := by decide +kernel
theorem dX10_posting_23 : decode cX10_posting 23 = .ok (.aload_n 0, 1) := by decide +kernel
theorem dX10_posting_24 : decode cX10_posting 24 = .ok (.getfield 73, 3) := by decide +kernel
theorem dX10_posting_27 : decode cX10_posting 27 = .ok (.if_icmp .ge 25, 3) := by decide +kernel
theorem dX10_posting_30 : decode cX10_posting 30 = .ok (.aload_n 0, 1) := by decide +kernel
theorem dX10_posting_31 : decode cX10_posting 31 = .ok (.getfield 43, 3) := by decide +kernel
theorem dX10_posting_34 : decode cX10_posting 34 = .ok (.iconst 3, 1) := by decide +kernel
theorem dX10_posting_35 : decode cX10_posting 35 = .ok (.iload_n 2, 1) := by decide +kernel
theorem dX10_posting_36 : decode cX10_posting 36 = .ok (.iadd, 1) := by decide +kernel
theorem dX10_posting_37 : decode cX10_posting 37 = .ok (.aload_n 0, 1) := by decide +kernel
theorem dX10_posting_38 : decode cX10_posting 38 = .ok (.iload_n 2, 1) := by decide +kernel
theorem dX10_posting_39 : decode cX10_posting 39 = .ok (.invokevirtual 184, 3) := by decide +kernel
theorem dX10_posting_42 : decode cX10_posting 42 = .ok (.invokestatic 187, 3) := by decide +kernel
theorem dX10_posting_45 : decode cX10_posting 45 = .ok (.iastore, 1) := by decide +kernel
theorem dX10_posting_46 : decode cX10_posting 46 = .ok (.iinc 2 1, 3) := by decide +kernel
theorem dX10_posting_49 : decode cX10_posting 49 = .ok (.goto (-27), 3) := by decide +kernel
theorem dX10_posting_52 : decode cX10_posting 52 = .ok (.bipush (-4), 2) := by decide +kernel
theorem dX10_posting_54 : decode cX10_posting 54 = .ok (.istore_n 2, 1) := by decide +kernel
theorem dX10_posting_55 : decode cX10_posting 55 = .ok (.iconst 1, 1) := by decide +kernel
theorem dX10_posting_56 : decode cX10_posting 56 = .ok (.istore_n 3, 1) := by decide +kernel
theorem dX10_posting_57 : decode cX10_posting 57 = .ok (.iload_n 3, 1) := by decide +kernel
theorem dX10_posting_58 : decode cX10_posting 58 = .ok (.ifCond .eq 53, 3) := by decide +kernel
theorem dX10_posting_61 : decode cX10_posting 61 = .ok (.aload_n 0, 1) := by decide +kernel
theorem dX10_posting_62 : decode cX10_posting 62 = .ok (.invokevirtual 150, 3) := by decide +kernel
theorem dX10_posting_65 : decode cX10_posting 65 = .ok (.ifCond .ne 10, 3) := by decide +kernel
theorem dX10_posting_68 : decode cX10_posting 68 = .ok (.aload_n 0, 1) := by decide +kernel
theorem dX10_posting_69 : decode cX10_posting 69 = .ok (.invokevirtual 190, 3) := by decide +kernel
theorem dX10_posting_72 : decode cX10_posting 72 = .ok (.goto 5, 3) := by decide +kernel
theorem dX10_posting_75 : decode cX10_posting 75 = .ok (.bipush (-4), 2) := by decide +kernel
theorem dX10_posting_77 : decode cX10_posting 77 = .ok (.istore 4, 2) := by decide +kernel
theorem dX10_posting_79 : decode cX10_posting 79 = .ok (.iload 4, 2) := by decide +kernel
theorem dX10_posting_81 : decode cX10_posting 81 = .ok (.iload_n 2, 1) := by decide +kernel
theorem dX10_posting_82 : decode cX10_posting 82 = .ok (.if_icmp .le 21, 3) := by decide +kernel
theorem dX10_posting_85 : decode cX10_posting 85 = .ok (.iload 4, 2) := by decide +kernel
theorem dX10_posting_87 : decode cX10_posting 87 = .ok (.istore_n 2, 1) := by decide +kernel
theorem dX10_posting_88 : decode cX10_posting 88 = .ok (.aload_n 0, 1) := by decide +kernel
theorem dX10_posting_89 : decode cX10_posting 89 = .ok (.getfield 46, 3) := by decide +kernel
theorem dX10_posting_92 : decode cX10_posting 92 = .ok (.iconst 0, 1) := by decide +kernel
theorem dX10_posting_93 : decode cX10_posting 93 = .ok (.aload_n 0, 1) := by decide +kernel
theorem dX10_posting_94 : decode cX10_posting 94 = .ok (.getfield 43, 3) := by decide +kernel
theorem dX10_posting_97 : decode cX10_posting 97 = .ok (.iconst 3, 1) := by decide +kernel
theorem dX10_posting_98 : decode cX10_posting 98 = .ok (.bipush 6, 2) := by decide +kernel
theorem dX10_posting_100 : decode cX10_posting 100 = .ok (.invokestatic 123, 3) := by decide +kernel
theorem dX10_posting_103 : decode cX10_posting 103 = .ok (.aload_n 0, 1) := by decide +kernel
theorem dX10_posting_104 : decode cX10_posting 104 = .ok (.invokevirtual 193, 3) := by decide +kernel
theorem dX10_posting_107 : decode cX10_posting 107 = .ok (.istore_n 3, 1) := by decide +kernel
theorem dX10_posting_108 : decode cX10_posting 108 = .ok (.goto (-51), 3) := by decide +kernel
theorem dX10_posting_111 : decode cX10_posting 111 = .ok (.iload_n 1, 1) := by decide +kernel
theorem dX10_posting_112 : decode cX10_posting 112 = .ok (.ifCond .lt 7, 3) := by decide +kernel
theorem dX10_posting_115 : decode cX10_posting 115 = .ok (.iload_n 2, 1) := by decide +kernel
theorem dX10_posting_116 : decode cX10_posting 116 = .ok (.ifCond .ge 7, 3) := by decide +kernel
theorem dX10_posting_119 : decode cX10_posting 119 = .ok (.iload_n 2, 1) := by decide +kernel
theorem dX10_posting_120 : decode cX10_posting 120 = .ok (.goto 27, 3) := by decide +kernel
theorem dX10_posting_123 : decode cX10_posting 123 = .ok (.aload_n 0, 1) := by decide +kernel
theorem dX10_posting_124 : decode cX10_posting 124 = .ok (.getfield 16, 3) := by decide +kernel
theorem dX10_posting_127 : decode cX10_posting 127 = .ok (.iconst 1, 1) := by decide +kernel
theorem dX10_posting_128 : decode cX10_posting 128 = .ok (.iaload, 1) := by decide +kernel
theorem dX10_posting_129 : decode cX10_posting 129 = .ok (.iload_n 1, 1) := by decide +kernel
theorem dX10_posting_130 : decode cX10_posting 130 = .ok (.invokestatic 139, 3) := by decide +kernel
theorem dX10_posting_133 : decode cX10_posting 133 = .ok (.ifCond .eq 8, 3) := by decide +kernel
theorem dX10_posting_136 : decode cX10_posting 136 = .ok (.bipush (-4), 2) := by decide +kernel
theorem dX10_posting_138 : decode cX10_posting 138 = .ok (.goto 9, 3) := by decide +kernel
theorem dX10_posting_141 : decode cX10_posting 141 = .ok (.aload_n 0, 1) := by decide +kernel
theorem dX10_posting_142 : decode cX10_posting 142 = .ok (.getfield 46, 3) := by decide +kernel
theorem dX10_posting_145 : decode cX10_posting 145 = .ok (.iload_n 1, 1) := by decide +kernel
theorem dX10_posting_146 : decode cX10_posting 146 = .ok (.iaload, 1) := by decide +kernel
theorem dX10_posting_147 : decode cX10_posting 147 = .ok (.ireturn, 1) := by decide +kernel
theorem dX10_sevens_0 : decode cX10_sevens 0 = .ok (.iconst 1, 1) := by decide +kernel
theorem dX10_sevens_1 : decode cX10_sevens 1 = .ok (.istore_n 1, 1) := by decide +kernel
theorem dX10_sevens_2 : decode cX10_sevens 2 = .ok (.iconst 0, 1) := by decide +kernel
theorem dX10_sevens_3 : decode cX10_sevens 3 = .ok (.istore_n 2, 1) := by decide +kernel
theorem dX10_sevens_4 : decode cX10_sevens 4 = .ok (.iload_n 2, 1) := by decide +kernel
theorem dX10_sevens_5 : decode cX10_sevens 5 = .ok (.iload_n 0, 1) := by decide +kernel
theorem dX10_sevens_6 : decode cX10_sevens 6 = .ok (.if_icmp .ge 14, 3) := by decide +kernel
theorem dX10_sevens_9 : decode cX10_sevens 9 = .ok (.iload_n 1, 1) := by decide +kernel
theorem dX10_sevens_10 : decode cX10_sevens 10 = .ok (.bipush 7, 2) := by decide +kernel
theorem dX10_sevens_12 : decode cX10_sevens 12 = .ok (.imul, 1) := by decide +kernel
theorem dX10_sevens_13 : decode cX10_sevens 13 = .ok (.istore_n 1, 1) := by decide +kernel
theorem dX10_sevens_14 : decode cX10_sevens 14 = .ok (.iinc 2 1, 3) := by decide +kernel
theorem dX10_sevens_17 : decode cX10_sevens 17 = .ok (.goto (-13), 3) := by decide +kernel
theorem dX10_sevens_20 : decode cX10_sevens 20 = .ok (.iload_n 1, 1) := by decide +kernel
theorem dX10_sevens_21 : decode cX10_sevens 21 = .ok (.ireturn, 1) := by decide +kernel
theorem dX10_doneBy_0 : decode cX10_doneBy 0 = .ok (.aload_n 0, 1) := by decide +kernel
theorem dX10_doneBy_1 : decode cX10_doneBy 1 = .ok (.invokevirtual 159, 3) := by decide +kernel
theorem dX10_doneBy_4 : decode cX10_doneBy 4 = .ok (.iload_n 2, 1) := by decide +kernel
theorem dX10_doneBy_5 : decode cX10_doneBy 5 = .ok (.iconst 1, 1) := by decide +kernel
theorem dX10_doneBy_6 : decode cX10_doneBy 6 = .ok (.isub, 1) := by decide +kernel
theorem dX10_doneBy_7 : decode cX10_doneBy 7 = .ok (.istore_n 3, 1) := by decide +kernel
theorem dX10_doneBy_8 : decode cX10_doneBy 8 = .ok (.iload_n 3, 1) := by decide +kernel
theorem dX10_doneBy_9 : decode cX10_doneBy 9 = .ok (.ifCond .lt 69, 3) := by decide +kernel
theorem dX10_doneBy_12 : decode cX10_doneBy 12 = .ok (.iload_n 1, 1) := by decide +kernel
theorem dX10_doneBy_13 : decode cX10_doneBy 13 = .ok (.iload_n 3, 1) := by decide +kernel
theorem dX10_doneBy_14 : decode cX10_doneBy 14 = .ok (.invokestatic 196, 3) := by decide +kernel
theorem dX10_doneBy_17 : decode cX10_doneBy 17 = .ok (.idiv, 1) := by decide +kernel
theorem dX10_doneBy_18 : decode cX10_doneBy 18 = .ok (.bipush 7, 2) := by decide +kernel
theorem dX10_doneBy_20 : decode cX10_doneBy 20 = .ok (.irem, 1) := by decide +kernel
theorem dX10_doneBy_21 : decode cX10_doneBy 21 = .ok (.iconst 1, 1) := by decide +kernel
theorem dX10_doneBy_22 : decode cX10_doneBy 22 = .ok (.isub, 1) := by decide +kernel
theorem dX10_doneBy_23 : decode cX10_doneBy 23 = .ok (.istore 4, 2) := by decide +kernel
theorem dX10_doneBy_25 : decode cX10_doneBy 25 = .ok (.iload 4, 2) := by decide +kernel
theorem dX10_doneBy_27 : decode cX10_doneBy 27 = .ok (.aload_n 0, 1) := by decide +kernel
theorem dX10_doneBy_28 : decode cX10_doneBy 28 = .ok (.getfield 73, 3) := by decide +kernel
theorem dX10_doneBy_31 : decode cX10_doneBy 31 = .ok (.if_icmp .ge 17, 3) := by decide +kernel
theorem dX10_doneBy_34 : decode cX10_doneBy 34 = .ok (.iload 4, 2) := by decide +kernel
theorem dX10_doneBy_36 : decode cX10_doneBy 36 = .ok (.ifCond .lt 14, 3) := by decide +kernel
theorem dX10_doneBy_39 : decode cX10_doneBy 39 = .ok (.aload_n 0, 1) := by decide +kernel
theorem dX10_doneBy_40 : decode cX10_doneBy 40 = .ok (.iload 4, 2) := by decide +kernel
theorem dX10_doneBy_42 : decode cX10_doneBy 42 = .ok (.invokevirtual 174, 3) := by decide +kernel
theorem dX10_doneBy_45 : decode cX10_doneBy 45 = .ok (.ifCond .ne 5, 3) := by decide +kernel
theorem dX10_doneBy_48 : decode cX10_doneBy 48 = .ok (.iconst (-1), 1) := by decide +kernel
theorem dX10_doneBy_49 : decode cX10_doneBy 49 = .ok (.ireturn, 1) := by decide +kernel
theorem dX10_doneBy_50 : decode cX10_doneBy 50 = .ok (.iload 4, 2) := by decide +kernel
theorem dX10_doneBy_52 : decode cX10_doneBy 52 = .ok (.ifCond .lt 16, 3) := by decide +kernel
theorem dX10_doneBy_55 : decode cX10_doneBy 55 = .ok (.aload_n 0, 1) := by decide +kernel
theorem dX10_doneBy_56 : decode cX10_doneBy 56 = .ok (.getfield 43, 3) := by decide +kernel
theorem dX10_doneBy_59 : decode cX10_doneBy 59 = .ok (.iconst 3, 1) := by decide +kernel
theorem dX10_doneBy_60 : decode cX10_doneBy 60 = .ok (.iload 4, 2) := by decide +kernel
theorem dX10_doneBy_62 : decode cX10_doneBy 62 = .ok (.iadd, 1) := by decide +kernel
theorem dX10_doneBy_63 : decode cX10_doneBy 63 = .ok (.dup2, 1) := by decide +kernel
theorem dX10_doneBy_64 : decode cX10_doneBy 64 = .ok (.iaload, 1) := by decide +kernel
theorem dX10_doneBy_65 : decode cX10_doneBy 65 = .ok (.iconst 1, 1) := by decide +kernel
theorem dX10_doneBy_66 : decode cX10_doneBy 66 = .ok (.isub, 1) := by decide +kernel
theorem dX10_doneBy_67 : decode cX10_doneBy 67 = .ok (.iastore, 1) := by decide +kernel
theorem dX10_doneBy_68 : decode cX10_doneBy 68 = .ok (.aload_n 0, 1) := by decide +kernel
theorem dX10_doneBy_69 : decode cX10_doneBy 69 = .ok (.invokevirtual 168, 3) := by decide +kernel
theorem dX10_doneBy_72 : decode cX10_doneBy 72 = .ok (.iinc 3 (-1), 3) := by decide +kernel
theorem dX10_doneBy_75 : decode cX10_doneBy 75 = .ok (.goto (-67), 3) := by decide +kernel
theorem dX10_doneBy_78 : decode cX10_doneBy 78 = .ok (.aload_n 0, 1) := by decide +kernel
theorem dX10_doneBy_79 : decode cX10_doneBy 79 = .ok (.invokevirtual 190, 3) := by decide +kernel
theorem dX10_doneBy_82 : decode cX10_doneBy 82 = .ok (.ireturn, 1) := by decide +kernel
theorem dX10_timetable_0 : decode cX10_timetable 0 = .ok (.iload_n 1, 1) := by decide +kernel
theorem dX10_timetable_1 : decode cX10_timetable 1 = .ok (.iconst 1, 1) := by decide +kernel
theorem dX10_timetable_2 : decode cX10_timetable 2 = .ok (.iconst 4, 1) := by decide +kernel
theorem dX10_timetable_3 : decode cX10_timetable 3 = .ok (.invokestatic 76, 3) := by decide +kernel
theorem dX10_timetable_6 : decode cX10_timetable 6 = .ok (.ifCond .eq 12, 3) := by decide +kernel
theorem dX10_timetable_9 : decode cX10_timetable 9 = .ok (.iload_n 2, 1) := by decide +kernel
theorem dX10_timetable_10 : decode cX10_timetable 10 = .ok (.iconst (-1), 1) := by decide +kernel
theorem dX10_timetable_11 : decode cX10_timetable 11 = .ok (.iconst 3, 1) := by decide +kernel
theorem dX10_timetable_12 : decode cX10_timetable 12 = .ok (.invokestatic 76, 3) := by decide +kernel
theorem dX10_timetable_15 : decode cX10_timetable 15 = .ok (.ifCond .ne 5, 3) := by decide +kernel
theorem dX10_timetable_18 : decode cX10_timetable 18 = .ok (.iconst (-1), 1) := by decide +kernel
theorem dX10_timetable_19 : decode cX10_timetable 19 = .ok (.ireturn, 1) := by decide +kernel
theorem dX10_timetable_20 : decode cX10_timetable 20 = .ok (.iconst (-1), 1) := by decide +kernel
theorem dX10_timetable_21 : decode cX10_timetable 21 = .ok (.istore_n 3, 1) := by decide +kernel
theorem dX10_timetable_22 : decode cX10_timetable 22 = .ok (.iconst 0, 1) := by decide +kernel
theorem dX10_timetable_23 : decode cX10_timetable 23 = .ok (.istore 4, 2) := by decide +kernel
theorem dX10_timetable_25 : decode cX10_timetable 25 = .ok (.iconst 0, 1) := by decide +kernel
theorem dX10_timetable_26 : decode cX10_timetable 26 = .ok (.istore 5, 2) := by decide +kernel
theorem dX10_timetable_28 : decode cX10_timetable 28 = .ok (.iload 5, 2) := by decide +kernel
theorem dX10_timetable_30 : decode cX10_timetable 30 = .ok (.iload_n 1, 1) := by decide +kernel
theorem dX10_timetable_31 : decode cX10_timetable 31 = .ok (.invokestatic 196, 3) := by decide +kernel
theorem dX10_timetable_34 : decode cX10_timetable 34 = .ok (.if_icmp .ge 46, 3) := by decide +kernel
theorem dX10_timetable_37 : decode cX10_timetable 37 = .ok (.aload_n 0, 1) := by decide +kernel
theorem dX10_timetable_38 : decode cX10_timetable 38 = .ok (.iload 5, 2) := by decide +kernel
theorem dX10_timetable_40 : decode cX10_timetable 40 = .ok (.iload_n 1, 1) := by decide +kernel
theorem dX10_timetable_41 : decode cX10_timetable 41 = .ok (.invokevirtual 199, 3) := by decide +kernel
theorem dX10_timetable_44 : decode cX10_timetable 44 = .ok (.istore 6, 2) := by decide +kernel
theorem dX10_timetable_46 : decode cX10_timetable 46 = .ok (.iload 6, 2) := by decide +kernel
theorem dX10_timetable_48 : decode cX10_timetable 48 = .ok (.iload_n 3, 1) := by decide +kernel
theorem dX10_timetable_49 : decode cX10_timetable 49 = .ok (.if_icmp .le 8, 3) := by decide +kernel
theorem dX10_timetable_52 : decode cX10_timetable 52 = .ok (.iload 5, 2) := by decide +kernel
theorem dX10_timetable_54 : decode cX10_timetable 54 = .ok (.goto 5, 3) := by decide +kernel
theorem dX10_timetable_57 : decode cX10_timetable 57 = .ok (.iload 4, 2) := by decide +kernel
theorem dX10_timetable_59 : decode cX10_timetable 59 = .ok (.istore 4, 2) := by decide +kernel
theorem dX10_timetable_61 : decode cX10_timetable 61 = .ok (.iload 6, 2) := by decide +kernel
theorem dX10_timetable_63 : decode cX10_timetable 63 = .ok (.iload_n 3, 1) := by decide +kernel
theorem dX10_timetable_64 : decode cX10_timetable 64 = .ok (.if_icmp .le 8, 3) := by decide +kernel
theorem dX10_timetable_67 : decode cX10_timetable 67 = .ok (.iload 6, 2) := by decide +kernel
theorem dX10_timetable_69 : decode cX10_timetable 69 = .ok (.goto 4, 3) := by decide +kernel
theorem dX10_timetable_72 : decode cX10_timetable 72 = .ok (.iload_n 3, 1) := by decide +kernel
theorem dX10_timetable_73 : decode cX10_timetable 73 = .ok (.istore_n 3, 1) := by decide +kernel
theorem dX10_timetable_74 : decode cX10_timetable 74 = .ok (.iinc 5 1, 3) := by decide +kernel
theorem dX10_timetable_77 : decode cX10_timetable 77 = .ok (.goto (-49), 3) := by decide +kernel
theorem dX10_timetable_80 : decode cX10_timetable 80 = .ok (.iload_n 2, 1) := by decide +kernel
theorem dX10_timetable_81 : decode cX10_timetable 81 = .ok (.ifCond .ge 5, 3) := by decide +kernel
theorem dX10_timetable_84 : decode cX10_timetable 84 = .ok (.iload_n 3, 1) := by decide +kernel
theorem dX10_timetable_85 : decode cX10_timetable 85 = .ok (.ireturn, 1) := by decide +kernel
theorem dX10_timetable_86 : decode cX10_timetable 86 = .ok (.iload_n 2, 1) := by decide +kernel
theorem dX10_timetable_87 : decode cX10_timetable 87 = .ok (.iload_n 1, 1) := by decide +kernel
theorem dX10_timetable_88 : decode cX10_timetable 88 = .ok (.if_icmp .ge 22, 3) := by decide +kernel
theorem dX10_timetable_91 : decode cX10_timetable 91 = .ok (.iload 4, 2) := by decide +kernel
theorem dX10_timetable_93 : decode cX10_timetable 93 = .ok (.iload_n 1, 1) := by decide +kernel
theorem dX10_timetable_94 : decode cX10_timetable 94 = .ok (.iconst 1, 1) := by decide +kernel
theorem dX10_timetable_95 : decode cX10_timetable 95 = .ok (.isub, 1) := by decide +kernel
theorem dX10_timetable_96 : decode cX10_timetable 96 = .ok (.iload_n 2, 1) := by decide +kernel
theorem dX10_timetable_97 : decode cX10_timetable 97 = .ok (.isub, 1) := by decide +kernel
theorem dX10_timetable_98 : decode cX10_timetable 98 = .ok (.invokestatic 196, 3) := by decide +kernel
theorem dX10_timetable_101 : decode cX10_timetable 101 = .ok (.idiv, 1) := by decide +kernel
theorem dX10_timetable_102 : decode cX10_timetable 102 = .ok (.bipush 7, 2) := by decide +kernel
theorem dX10_timetable_104 : decode cX10_timetable 104 = .ok (.irem, 1) := by decide +kernel
theorem dX10_timetable_105 : decode cX10_timetable 105 = .ok (.iconst 1, 1) := by decide +kernel
theorem dX10_timetable_106 : decode cX10_timetable 106 = .ok (.isub, 1) := by decide +kernel
theorem dX10_timetable_107 : decode cX10_timetable 107 = .ok (.goto 4, 3) := by decide +kernel
theorem dX10_timetable_110 : decode cX10_timetable 110 = .ok (.iconst (-1), 1) := by decide +kernel
theorem dX10_timetable_111 : decode cX10_timetable 111 = .ok (.istore 5, 2) := by decide +kernel
theorem dX10_timetable_113 : decode cX10_timetable 113 = .ok (.iload 5, 2) := by decide +kernel
theorem dX10_timetable_115 : decode cX10_timetable 115 = .ok (.ifCond .ge 8, 3) := by decide +kernel
theorem dX10_timetable_118 : decode cX10_timetable 118 = .ok (.bipush (-4), 2) := by decide +kernel
theorem dX10_timetable_120 : decode cX10_timetable 120 = .ok (.goto 5, 3) := by decide +kernel
theorem dX10_timetable_123 : decode cX10_timetable 123 = .ok (.iload 5, 2) := by decide +kernel
theorem dX10_timetable_125 : decode cX10_timetable 125 = .ok (.ireturn, 1) := by decide +kernel
theorem dX10_swap_0 : decode cX10_swap 0 = .ok (.iload_n 1, 1) := by decide +kernel
theorem dX10_swap_1 : decode cX10_swap 1 = .ok (.iconst 0, 1) := by decide +kernel
theorem dX10_swap_2 : decode cX10_swap 2 = .ok (.iconst 1, 1) := by decide +kernel
theorem dX10_swap_3 : decode cX10_swap 3 = .ok (.invokestatic 76, 3) := by decide +kernel
theorem dX10_swap_6 : decode cX10_swap 6 = .ok (.ifCond .ne 5, 3) := by decide +kernel
theorem dX10_swap_9 : decode cX10_swap 9 = .ok (.iconst (-1), 1) := by decide +kernel
theorem dX10_swap_10 : decode cX10_swap 10 = .ok (.ireturn, 1) := by decide +kernel
theorem dX10_swap_11 : decode cX10_swap 11 = .ok (.bipush (-4), 2) := by decide +kernel
theorem dX10_swap_13 : decode cX10_swap 13 = .ok (.istore_n 2, 1) := by decide +kernel
theorem dX10_swap_14 : decode cX10_swap 14 = .ok (.bipush (-4), 2) := by decide +kernel
theorem dX10_swap_16 : decode cX10_swap 16 = .ok (.istore_n 3, 1) := by decide +kernel
theorem dX10_swap_17 : decode cX10_swap 17 = .ok (.iconst 0, 1) := by decide +kernel
theorem dX10_swap_18 : decode cX10_swap 18 = .ok (.istore 4, 2) := by decide +kernel
theorem dX10_swap_20 : decode cX10_swap 20 = .ok (.iload 4, 2) := by decide +kernel
theorem dX10_swap_22 : decode cX10_swap 22 = .ok (.aload_n 0, 1) := by decide +kernel
theorem dX10_swap_23 : decode cX10_swap 23 = .ok (.getfield 73, 3) := by decide +kernel
theorem dX10_swap_26 : decode cX10_swap 26 = .ok (.if_icmp .ge 157, 3) := by decide +kernel
theorem dX10_swap_29 : decode cX10_swap 29 = .ok (.iload 4, 2) := by decide +kernel
theorem dX10_swap_31 : decode cX10_swap 31 = .ok (.iconst 1, 1) := by decide +kernel
theorem dX10_swap_32 : decode cX10_swap 32 = .ok (.iadd, 1) := by decide +kernel
theorem dX10_swap_33 : decode cX10_swap 33 = .ok (.istore 5, 2) := by decide +kernel
theorem dX10_swap_35 : decode cX10_swap 35 = .ok (.iload 5, 2) := by decide +kernel
theorem dX10_swap_37 : decode cX10_swap 37 = .ok (.aload_n 0, 1) := by decide +kernel
theorem dX10_swap_38 : decode cX10_swap 38 = .ok (.getfield 73, 3) := by decide +kernel
theorem dX10_swap_41 : decode cX10_swap 41 = .ok (.if_icmp .ge 136, 3) := by decide +kernel
theorem dX10_swap_44 : decode cX10_swap 44 = .ok (.aload_n 0, 1) := by decide +kernel
theorem dX10_swap_45 : decode cX10_swap 45 = .ok (.getfield 16, 3) := by decide +kernel
theorem dX10_swap_48 : decode cX10_swap 48 = .ok (.iconst 1, 1) := by decide +kernel
theorem dX10_swap_49 : decode cX10_swap 49 = .ok (.iaload, 1) := by decide +kernel
theorem dX10_swap_50 : decode cX10_swap 50 = .ok (.iload 4, 2) := by decide +kernel
theorem dX10_swap_52 : decode cX10_swap 52 = .ok (.invokestatic 139, 3) := by decide +kernel
theorem dX10_swap_55 : decode cX10_swap 55 = .ok (.ifCond .ne 116, 3) := by decide +kernel
theorem dX10_swap_58 : decode cX10_swap 58 = .ok (.aload_n 0, 1) := by decide +kernel
theorem dX10_swap_59 : decode cX10_swap 59 = .ok (.getfield 16, 3) := by decide +kernel
theorem dX10_swap_62 : decode cX10_swap 62 = .ok (.iconst 1, 1) := by decide +kernel
theorem dX10_swap_63 : decode cX10_swap 63 = .ok (.iaload, 1) := by decide +kernel
theorem dX10_swap_64 : decode cX10_swap 64 = .ok (.iload 5, 2) := by decide +kernel
theorem dX10_swap_66 : decode cX10_swap 66 = .ok (.invokestatic 139, 3) := by decide +kernel
theorem dX10_swap_69 : decode cX10_swap 69 = .ok (.ifCond .ne 102, 3) := by decide +kernel
theorem dX10_swap_72 : decode cX10_swap 72 = .ok (.aload_n 0, 1) := by decide +kernel
theorem dX10_swap_73 : decode cX10_swap 73 = .ok (.getfield 16, 3) := by decide +kernel
theorem dX10_swap_76 : decode cX10_swap 76 = .ok (.iconst 3, 1) := by decide +kernel
theorem dX10_swap_77 : decode cX10_swap 77 = .ok (.iload 4, 2) := by decide +kernel
theorem dX10_swap_79 : decode cX10_swap 79 = .ok (.iadd, 1) := by decide +kernel
theorem dX10_swap_80 : decode cX10_swap 80 = .ok (.iaload, 1) := by decide +kernel
theorem dX10_swap_81 : decode cX10_swap 81 = .ok (.aload_n 0, 1) := by decide +kernel
theorem dX10_swap_82 : decode cX10_swap 82 = .ok (.getfield 16, 3) := by decide +kernel
theorem dX10_swap_85 : decode cX10_swap 85 = .ok (.iconst 3, 1) := by decide +kernel
theorem dX10_swap_86 : decode cX10_swap 86 = .ok (.iload 5, 2) := by decide +kernel
theorem dX10_swap_88 : decode cX10_swap 88 = .ok (.iadd, 1) := by decide +kernel
theorem dX10_swap_89 : decode cX10_swap 89 = .ok (.iaload, 1) := by decide +kernel
theorem dX10_swap_90 : decode cX10_swap 90 = .ok (.if_icmp .eq 81, 3) := by decide +kernel
theorem dX10_swap_93 : decode cX10_swap 93 = .ok (.aload_n 0, 1) := by decide +kernel
theorem dX10_swap_94 : decode cX10_swap 94 = .ok (.invokevirtual 159, 3) := by decide +kernel
theorem dX10_swap_97 : decode cX10_swap 97 = .ok (.aload_n 0, 1) := by decide +kernel
theorem dX10_swap_98 : decode cX10_swap 98 = .ok (.getfield 43, 3) := by decide +kernel
theorem dX10_swap_101 : decode cX10_swap 101 = .ok (.iconst 3, 1) := by decide +kernel
theorem dX10_swap_102 : decode cX10_swap 102 = .ok (.iload 4, 2) := by decide +kernel
theorem dX10_swap_104 : decode cX10_swap 104 = .ok (.iadd, 1) := by decide +kernel
theorem dX10_swap_105 : decode cX10_swap 105 = .ok (.aload_n 0, 1) := by decide +kernel
theorem dX10_swap_106 : decode cX10_swap 106 = .ok (.getfield 16, 3) := by decide +kernel
theorem dX10_swap_109 : decode cX10_swap 109 = .ok (.iconst 3, 1) := by decide +kernel
theorem dX10_swap_110 : decode cX10_swap 110 = .ok (.iload 5, 2) := by decide +kernel
theorem dX10_swap_112 : decode cX10_swap 112 = .ok (.iadd, 1) := by decide +kernel
theorem dX10_swap_113 : decode cX10_swap 113 = .ok (.iaload, 1) := by decide +kernel
theorem dX10_swap_114 : decode cX10_swap 114 = .ok (.iastore, 1) := by decide +kernel
theorem dX10_swap_115 : decode cX10_swap 115 = .ok (.aload_n 0, 1) := by decide +kernel
theorem dX10_swap_116 : decode cX10_swap 116 = .ok (.getfield 43, 3) := by decide +kernel
theorem dX10_swap_119 : decode cX10_swap 119 = .ok (.iconst 3, 1) := by decide +kernel
theorem dX10_swap_120 : decode cX10_swap 120 = .ok (.iload 5, 2) := by decide +kernel
theorem dX10_swap_122 : decode cX10_swap 122 = .ok (.iadd, 1) := by decide +kernel
theorem dX10_swap_123 : decode cX10_swap 123 = .ok (.aload_n 0, 1) := by decide +kernel
theorem dX10_swap_124 : decode cX10_swap 124 = .ok (.getfield 16, 3) := by decide +kernel
theorem dX10_swap_127 : decode cX10_swap 127 = .ok (.iconst 3, 1) := by decide +kernel
theorem dX10_swap_128 : decode cX10_swap 128 = .ok (.iload 4, 2) := by decide +kernel
theorem dX10_swap_130 : decode cX10_swap 130 = .ok (.iadd, 1) := by decide +kernel
theorem dX10_swap_131 : decode cX10_swap 131 = .ok (.iaload, 1) := by decide +kernel
theorem dX10_swap_132 : decode cX10_swap 132 = .ok (.iastore, 1) := by decide +kernel
theorem dX10_swap_133 : decode cX10_swap 133 = .ok (.aload_n 0, 1) := by decide +kernel
theorem dX10_swap_134 : decode cX10_swap 134 = .ok (.invokevirtual 190, 3) := by decide +kernel
theorem dX10_swap_137 : decode cX10_swap 137 = .ok (.istore 6, 2) := by decide +kernel
theorem dX10_swap_139 : decode cX10_swap 139 = .ok (.iload 6, 2) := by decide +kernel
theorem dX10_swap_141 : decode cX10_swap 141 = .ok (.iload_n 3, 1) := by decide +kernel
theorem dX10_swap_142 : decode cX10_swap 142 = .ok (.if_icmp .le 14, 3) := by decide +kernel
theorem dX10_swap_145 : decode cX10_swap 145 = .ok (.bipush 10, 2) := by decide +kernel
theorem dX10_swap_147 : decode cX10_swap 147 = .ok (.iload 4, 2) := by decide +kernel
theorem dX10_swap_149 : decode cX10_swap 149 = .ok (.imul, 1) := by decide +kernel
theorem dX10_swap_150 : decode cX10_swap 150 = .ok (.iload 5, 2) := by decide +kernel
theorem dX10_swap_152 : decode cX10_swap 152 = .ok (.iadd, 1) := by decide +kernel
theorem dX10_swap_153 : decode cX10_swap 153 = .ok (.goto 4, 3) := by decide +kernel
theorem dX10_swap_156 : decode cX10_swap 156 = .ok (.iload_n 2, 1) := by decide +kernel
theorem dX10_swap_157 : decode cX10_swap 157 = .ok (.istore_n 2, 1) := by decide +kernel
theorem dX10_swap_158 : decode cX10_swap 158 = .ok (.iload 6, 2) := by decide +kernel
theorem dX10_swap_160 : decode cX10_swap 160 = .ok (.iload_n 3, 1) := by decide +kernel
theorem dX10_swap_161 : decode cX10_swap 161 = .ok (.if_icmp .le 8, 3) := by decide +kernel
theorem dX10_swap_164 : decode cX10_swap 164 = .ok (.iload 6, 2) := by decide +kernel
theorem dX10_swap_166 : decode cX10_swap 166 = .ok (.goto 4, 3) := by decide +kernel
theorem dX10_swap_169 : decode cX10_swap 169 = .ok (.iload_n 3, 1) := by decide +kernel
theorem dX10_swap_170 : decode cX10_swap 170 = .ok (.istore_n 3, 1) := by decide +kernel
theorem dX10_swap_171 : decode cX10_swap 171 = .ok (.iinc 5 1, 3) := by decide +kernel
theorem dX10_swap_174 : decode cX10_swap 174 = .ok (.goto (-139), 3) := by decide +kernel
theorem dX10_swap_177 : decode cX10_swap 177 = .ok (.iinc 4 1, 3) := by decide +kernel
theorem dX10_swap_180 : decode cX10_swap 180 = .ok (.goto (-160), 3) := by decide +kernel
theorem dX10_swap_183 : decode cX10_swap 183 = .ok (.iload_n 1, 1) := by decide +kernel
theorem dX10_swap_184 : decode cX10_swap 184 = .ok (.ifCond .ne 7, 3) := by decide +kernel
theorem dX10_swap_187 : decode cX10_swap 187 = .ok (.iload_n 2, 1) := by decide +kernel
theorem dX10_swap_188 : decode cX10_swap 188 = .ok (.goto 4, 3) := by decide +kernel
theorem dX10_swap_191 : decode cX10_swap 191 = .ok (.iload_n 3, 1) := by decide +kernel
theorem dX10_swap_192 : decode cX10_swap 192 = .ok (.ireturn, 1) := by decide +kernel
theorem dX10_can_0 : decode cX10_can 0 = .ok (.aload_n 0, 1) := by decide +kernel
theorem dX10_can_1 : decode cX10_can 1 = .ok (.iload_n 1, 1) := by decide +kernel
theorem dX10_can_2 : decode cX10_can 2 = .ok (.invokevirtual 165, 3) := by decide +kernel
theorem dX10_can_5 : decode cX10_can 5 = .ok (.ifCond .eq 20, 3) := by decide +kernel
theorem dX10_can_8 : decode cX10_can 8 = .ok (.aload_n 0, 1) := by decide +kernel
theorem dX10_can_9 : decode cX10_can 9 = .ok (.iload_n 2, 1) := by decide +kernel
theorem dX10_can_10 : decode cX10_can 10 = .ok (.invokevirtual 165, 3) := by decide +kernel
theorem dX10_can_13 : decode cX10_can 13 = .ok (.ifCond .eq 12, 3) := by decide +kernel
theorem dX10_can_16 : decode cX10_can 16 = .ok (.iload_n 3, 1) := by decide +kernel
theorem dX10_can_17 : decode cX10_can 17 = .ok (.iconst 0, 1) := by decide +kernel
theorem dX10_can_18 : decode cX10_can 18 = .ok (.iconst 1, 1) := by decide +kernel
theorem dX10_can_19 : decode cX10_can 19 = .ok (.invokestatic 76, 3) := by decide +kernel
theorem dX10_can_22 : decode cX10_can 22 = .ok (.ifCond .ne 5, 3) := by decide +kernel
theorem dX10_can_25 : decode cX10_can 25 = .ok (.iconst (-1), 1) := by decide +kernel
theorem dX10_can_26 : decode cX10_can 26 = .ok (.ireturn, 1) := by decide +kernel
theorem dX10_can_27 : decode cX10_can 27 = .ok (.aload_n 0, 1) := by decide +kernel
theorem dX10_can_28 : decode cX10_can 28 = .ok (.invokevirtual 159, 3) := by decide +kernel
theorem dX10_can_31 : decode cX10_can 31 = .ok (.aload_n 0, 1) := by decide +kernel
theorem dX10_can_32 : decode cX10_can 32 = .ok (.invokevirtual 150, 3) := by decide +kernel
theorem dX10_can_35 : decode cX10_can 35 = .ok (.aload_n 0, 1) := by decide +kernel
theorem dX10_can_36 : decode cX10_can 36 = .ok (.getfield 43, 3) := by decide +kernel
theorem dX10_can_39 : decode cX10_can 39 = .ok (.iconst 1, 1) := by decide +kernel
theorem dX10_can_40 : decode cX10_can 40 = .ok (.iaload, 1) := by decide +kernel
theorem dX10_can_41 : decode cX10_can 41 = .ok (.ior, 1) := by decide +kernel
theorem dX10_can_42 : decode cX10_can 42 = .ok (.istore 4, 2) := by decide +kernel
theorem dX10_can_44 : decode cX10_can 44 = .ok (.iconst 0, 1) := by decide +kernel
theorem dX10_can_45 : decode cX10_can 45 = .ok (.istore 5, 2) := by decide +kernel
theorem dX10_can_47 : decode cX10_can 47 = .ok (.iload 5, 2) := by decide +kernel
theorem dX10_can_49 : decode cX10_can 49 = .ok (.aload_n 0, 1) := by decide +kernel
theorem dX10_can_50 : decode cX10_can 50 = .ok (.getfield 73, 3) := by decide +kernel
theorem dX10_can_53 : decode cX10_can 53 = .ok (.if_icmp .ge 45, 3) := by decide +kernel
theorem dX10_can_56 : decode cX10_can 56 = .ok (.aload_n 0, 1) := by decide +kernel
theorem dX10_can_57 : decode cX10_can 57 = .ok (.getfield 49, 3) := by decide +kernel
theorem dX10_can_60 : decode cX10_can 60 = .ok (.iload 5, 2) := by decide +kernel
theorem dX10_can_62 : decode cX10_can 62 = .ok (.iload 4, 2) := by decide +kernel
theorem dX10_can_64 : decode cX10_can 64 = .ok (.iload 5, 2) := by decide +kernel
theorem dX10_can_66 : decode cX10_can 66 = .ok (.invokestatic 139, 3) := by decide +kernel
theorem dX10_can_69 : decode cX10_can 69 = .ok (.ifCond .ne 20, 3) := by decide +kernel
theorem dX10_can_72 : decode cX10_can 72 = .ok (.aload_n 0, 1) := by decide +kernel
theorem dX10_can_73 : decode cX10_can 73 = .ok (.getfield 43, 3) := by decide +kernel
theorem dX10_can_76 : decode cX10_can 76 = .ok (.iconst 3, 1) := by decide +kernel
theorem dX10_can_77 : decode cX10_can 77 = .ok (.iload 5, 2) := by decide +kernel
theorem dX10_can_79 : decode cX10_can 79 = .ok (.iadd, 1) := by decide +kernel
theorem dX10_can_80 : decode cX10_can 80 = .ok (.iaload, 1) := by decide +kernel
theorem dX10_can_81 : decode cX10_can 81 = .ok (.iload_n 2, 1) := by decide +kernel
theorem dX10_can_82 : decode cX10_can 82 = .ok (.if_icmp .ne 7, 3) := by decide +kernel
theorem dX10_can_85 : decode cX10_can 85 = .ok (.iconst 1, 1) := by decide +kernel
theorem dX10_can_86 : decode cX10_can 86 = .ok (.goto 5, 3) := by decide +kernel
theorem dX10_can_89 : decode cX10_can 89 = .ok (.bipush 100, 2) := by decide +kernel
theorem dX10_can_91 : decode cX10_can 91 = .ok (.iastore, 1) := by decide +kernel
theorem dX10_can_92 : decode cX10_can 92 = .ok (.iinc 5 1, 3) := by decide +kernel
theorem dX10_can_95 : decode cX10_can 95 = .ok (.goto (-48), 3) := by decide +kernel
theorem dX10_can_98 : decode cX10_can 98 = .ok (.iconst 0, 1) := by decide +kernel
theorem dX10_can_99 : decode cX10_can 99 = .ok (.istore 5, 2) := by decide +kernel
theorem dX10_can_101 : decode cX10_can 101 = .ok (.iload 5, 2) := by decide +kernel
theorem dX10_can_103 : decode cX10_can 103 = .ok (.aload_n 0, 1) := by decide +kernel
theorem dX10_can_104 : decode cX10_can 104 = .ok (.getfield 73, 3) := by decide +kernel
theorem dX10_can_107 : decode cX10_can 107 = .ok (.if_icmp .ge 154, 3) := by decide +kernel
theorem dX10_can_110 : decode cX10_can 110 = .ok (.iconst 0, 1) := by decide +kernel
theorem dX10_can_111 : decode cX10_can 111 = .ok (.istore 6, 2) := by decide +kernel
theorem dX10_can_113 : decode cX10_can 113 = .ok (.iload 6, 2) := by decide +kernel
theorem dX10_can_115 : decode cX10_can 115 = .ok (.aload_n 0, 1) := by decide +kernel
theorem dX10_can_116 : decode cX10_can 116 = .ok (.getfield 73, 3) := by decide +kernel
theorem dX10_can_119 : decode cX10_can 119 = .ok (.if_icmp .ge 136, 3) := by decide +kernel
theorem dX10_can_122 : decode cX10_can 122 = .ok (.iconst 0, 1) := by decide +kernel
theorem dX10_can_123 : decode cX10_can 123 = .ok (.istore 7, 2) := by decide +kernel
theorem dX10_can_125 : decode cX10_can 125 = .ok (.iload 7, 2) := by decide +kernel
theorem dX10_can_127 : decode cX10_can 127 = .ok (.aload_n 0, 1) := by decide +kernel
theorem dX10_can_128 : decode cX10_can 128 = .ok (.getfield 73, 3) := by decide +kernel
theorem dX10_can_131 : decode cX10_can 131 = .ok (.if_icmp .ge 118, 3) := by decide +kernel
theorem dX10_can_134 : decode cX10_can 134 = .ok (.aload_n 0, 1) := by decide +kernel
theorem dX10_can_135 : decode cX10_can 135 = .ok (.getfield 43, 3) := by decide +kernel
theorem dX10_can_138 : decode cX10_can 138 = .ok (.iconst 3, 1) := by decide +kernel
theorem dX10_can_139 : decode cX10_can 139 = .ok (.iload 6, 2) := by decide +kernel
theorem dX10_can_141 : decode cX10_can 141 = .ok (.iadd, 1) := by decide +kernel
theorem dX10_can_142 : decode cX10_can 142 = .ok (.iaload, 1) := by decide +kernel
theorem dX10_can_143 : decode cX10_can 143 = .ok (.aload_n 0, 1) := by decide +kernel
theorem dX10_can_144 : decode cX10_can 144 = .ok (.getfield 43, 3) := by decide +kernel
theorem dX10_can_147 : decode cX10_can 147 = .ok (.iconst 3, 1) := by decide +kernel
theorem dX10_can_148 : decode cX10_can 148 = .ok (.iload 7, 2) := by decide +kernel
theorem dX10_can_150 : decode cX10_can 150 = .ok (.iadd, 1) := by decide +kernel
theorem dX10_can_151 : decode cX10_can 151 = .ok (.iaload, 1) := by decide +kernel
theorem dX10_can_152 : decode cX10_can 152 = .ok (.isub, 1) := by decide +kernel
theorem dX10_can_153 : decode cX10_can 153 = .ok (.istore 8, 2) := by decide +kernel
theorem dX10_can_155 : decode cX10_can 155 = .ok (.iload 4, 2) := by decide +kernel
theorem dX10_can_157 : decode cX10_can 157 = .ok (.iload 6, 2) := by decide +kernel
theorem dX10_can_159 : decode cX10_can 159 = .ok (.invokestatic 139, 3) := by decide +kernel
theorem dX10_can_162 : decode cX10_can 162 = .ok (.ifCond .ne 47, 3) := by decide +kernel
theorem dX10_can_165 : decode cX10_can 165 = .ok (.iload 4, 2) := by decide +kernel
theorem dX10_can_167 : decode cX10_can 167 = .ok (.iload 7, 2) := by decide +kernel
theorem dX10_can_169 : decode cX10_can 169 = .ok (.invokestatic 139, 3) := by decide +kernel
theorem dX10_can_172 : decode cX10_can 172 = .ok (.ifCond .ne 37, 3) := by decide +kernel
theorem dX10_can_175 : decode cX10_can 175 = .ok (.iload 8, 2) := by decide +kernel
theorem dX10_can_177 : decode cX10_can 177 = .ok (.bipush (-2), 2) := by decide +kernel
theorem dX10_can_179 : decode cX10_can 179 = .ok (.iconst 2, 1) := by decide +kernel
theorem dX10_can_180 : decode cX10_can 180 = .ok (.invokestatic 76, 3) := by decide +kernel
theorem dX10_can_183 : decode cX10_can 183 = .ok (.ifCond .eq 26, 3) := by decide +kernel
theorem dX10_can_186 : decode cX10_can 186 = .ok (.aload_n 0, 1) := by decide +kernel
theorem dX10_can_187 : decode cX10_can 187 = .ok (.getfield 49, 3) := by decide +kernel
theorem dX10_can_190 : decode cX10_can 190 = .ok (.iload 7, 2) := by decide +kernel
theorem dX10_can_192 : decode cX10_can 192 = .ok (.iaload, 1) := by decide +kernel
theorem dX10_can_193 : decode cX10_can 193 = .ok (.iconst 1, 1) := by decide +kernel
theorem dX10_can_194 : decode cX10_can 194 = .ok (.iadd, 1) := by decide +kernel
theorem dX10_can_195 : decode cX10_can 195 = .ok (.aload_n 0, 1) := by decide +kernel
theorem dX10_can_196 : decode cX10_can 196 = .ok (.getfield 49, 3) := by decide +kernel
theorem dX10_can_199 : decode cX10_can 199 = .ok (.iload 6, 2) := by decide +kernel
theorem dX10_can_201 : decode cX10_can 201 = .ok (.iaload, 1) := by decide +kernel
theorem dX10_can_202 : decode cX10_can 202 = .ok (.if_icmp .ge 7, 3) := by decide +kernel
theorem dX10_can_205 : decode cX10_can 205 = .ok (.iconst 1, 1) := by decide +kernel
theorem dX10_can_206 : decode cX10_can 206 = .ok (.goto 4, 3) := by decide +kernel
theorem dX10_can_209 : decode cX10_can 209 = .ok (.iconst 0, 1) := by decide +kernel
theorem dX10_can_210 : decode cX10_can 210 = .ok (.istore 9, 2) := by decide +kernel
theorem dX10_can_212 : decode cX10_can 212 = .ok (.aload_n 0, 1) := by decide +kernel
theorem dX10_can_213 : decode cX10_can 213 = .ok (.getfield 49, 3) := by decide +kernel
theorem dX10_can_216 : decode cX10_can 216 = .ok (.iload 6, 2) := by decide +kernel
theorem dX10_can_218 : decode cX10_can 218 = .ok (.iload 9, 2) := by decide +kernel
theorem dX10_can_220 : decode cX10_can 220 = .ok (.ifCond .eq 15, 3) := by decide +kernel
theorem dX10_can_223 : decode cX10_can 223 = .ok (.aload_n 0, 1) := by decide +kernel
theorem dX10_can_224 : decode cX10_can 224 = .ok (.getfield 49, 3) := by decide +kernel
theorem dX10_can_227 : decode cX10_can 227 = .ok (.iload 7, 2) := by decide +kernel
theorem dX10_can_229 : decode cX10_can 229 = .ok (.iaload, 1) := by decide +kernel
theorem dX10_can_230 : decode cX10_can 230 = .ok (.iconst 1, 1) := by decide +kernel
theorem dX10_can_231 : decode cX10_can 231 = .ok (.iadd, 1) := by decide +kernel
theorem dX10_can_232 : decode cX10_can 232 = .ok (.goto 10, 3) := by decide +kernel
theorem dX10_can_235 : decode cX10_can 235 = .ok (.aload_n 0, 1) := by decide +kernel
theorem dX10_can_236 : decode cX10_can 236 = .ok (.getfield 49, 3) := by decide +kernel
theorem dX10_can_239 : decode cX10_can 239 = .ok (.iload 6, 2) := by decide +kernel
theorem dX10_can_241 : decode cX10_can 241 = .ok (.iaload, 1) := by decide +kernel
theorem dX10_can_242 : decode cX10_can 242 = .ok (.iastore, 1) := by decide +kernel
theorem dX10_can_243 : decode cX10_can 243 = .ok (.iinc 7 1, 3) := by decide +kernel
theorem dX10_can_246 : decode cX10_can 246 = .ok (.goto (-121), 3) := by decide +kernel
theorem dX10_can_249 : decode cX10_can 249 = .ok (.iinc 6 1, 3) := by decide +kernel
theorem dX10_can_252 : decode cX10_can 252 = .ok (.goto (-139), 3) := by decide +kernel
theorem dX10_can_255 : decode cX10_can 255 = .ok (.iinc 5 1, 3) := by decide +kernel
theorem dX10_can_258 : decode cX10_can 258 = .ok (.goto (-157), 3) := by decide +kernel
theorem dX10_can_261 : decode cX10_can 261 = .ok (.bipush (-4), 2) := by decide +kernel
theorem dX10_can_263 : decode cX10_can 263 = .ok (.istore 5, 2) := by decide +kernel
theorem dX10_can_265 : decode cX10_can 265 = .ok (.bipush 100, 2) := by decide +kernel
theorem dX10_can_267 : decode cX10_can 267 = .ok (.istore 6, 2) := by decide +kernel
theorem dX10_can_269 : decode cX10_can 269 = .ok (.iconst 0, 1) := by decide +kernel
theorem dX10_can_270 : decode cX10_can 270 = .ok (.istore 7, 2) := by decide +kernel
theorem dX10_can_272 : decode cX10_can 272 = .ok (.iload 7, 2) := by decide +kernel
theorem dX10_can_274 : decode cX10_can 274 = .ok (.aload_n 0, 1) := by decide +kernel
theorem dX10_can_275 : decode cX10_can 275 = .ok (.getfield 73, 3) := by decide +kernel
theorem dX10_can_278 : decode cX10_can 278 = .ok (.if_icmp .ge 74, 3) := by decide +kernel
theorem dX10_can_281 : decode cX10_can 281 = .ok (.aload_n 0, 1) := by decide +kernel
theorem dX10_can_282 : decode cX10_can 282 = .ok (.getfield 43, 3) := by decide +kernel
theorem dX10_can_285 : decode cX10_can 285 = .ok (.iconst 3, 1) := by decide +kernel
theorem dX10_can_286 : decode cX10_can 286 = .ok (.iload 7, 2) := by decide +kernel
theorem dX10_can_288 : decode cX10_can 288 = .ok (.iadd, 1) := by decide +kernel
theorem dX10_can_289 : decode cX10_can 289 = .ok (.iaload, 1) := by decide +kernel
theorem dX10_can_290 : decode cX10_can 290 = .ok (.iload_n 1, 1) := by decide +kernel
theorem dX10_can_291 : decode cX10_can 291 = .ok (.if_icmp .ne 19, 3) := by decide +kernel
theorem dX10_can_294 : decode cX10_can 294 = .ok (.aload_n 0, 1) := by decide +kernel
theorem dX10_can_295 : decode cX10_can 295 = .ok (.getfield 49, 3) := by decide +kernel
theorem dX10_can_298 : decode cX10_can 298 = .ok (.iload 7, 2) := by decide +kernel
theorem dX10_can_300 : decode cX10_can 300 = .ok (.iaload, 1) := by decide +kernel
theorem dX10_can_301 : decode cX10_can 301 = .ok (.iload 6, 2) := by decide +kernel
theorem dX10_can_303 : decode cX10_can 303 = .ok (.if_icmp .ge 7, 3) := by decide +kernel
theorem dX10_can_306 : decode cX10_can 306 = .ok (.iconst 1, 1) := by decide +kernel
theorem dX10_can_307 : decode cX10_can 307 = .ok (.goto 4, 3) := by decide +kernel
theorem dX10_can_310 : decode cX10_can 310 = .ok (.iconst 0, 1) := by decide +kernel
theorem dX10_can_311 : decode cX10_can 311 = .ok (.istore 8, 2) := by decide +kernel
theorem dX10_can_313 : decode cX10_can 313 = .ok (.iload 8, 2) := by decide +kernel
theorem dX10_can_315 : decode cX10_can 315 = .ok (.ifCond .eq 8, 3) := by decide +kernel
theorem dX10_can_318 : decode cX10_can 318 = .ok (.iload 7, 2) := by decide +kernel
theorem dX10_can_320 : decode cX10_can 320 = .ok (.goto 5, 3) := by decide +kernel
theorem dX10_can_323 : decode cX10_can 323 = .ok (.iload 5, 2) := by decide +kernel
theorem dX10_can_325 : decode cX10_can 325 = .ok (.istore 5, 2) := by decide +kernel
theorem dX10_can_327 : decode cX10_can 327 = .ok (.iload 8, 2) := by decide +kernel
theorem dX10_can_329 : decode cX10_can 329 = .ok (.ifCond .eq 13, 3) := by decide +kernel
theorem dX10_can_332 : decode cX10_can 332 = .ok (.aload_n 0, 1) := by decide +kernel
theorem dX10_can_333 : decode cX10_can 333 = .ok (.getfield 49, 3) := by decide +kernel
theorem dX10_can_336 : decode cX10_can 336 = .ok (.iload 7, 2) := by decide +kernel
theorem dX10_can_338 : decode cX10_can 338 = .ok (.iaload, 1) := by decide +kernel
theorem dX10_can_339 : decode cX10_can 339 = .ok (.goto 5, 3) := by decide +kernel
theorem dX10_can_342 : decode cX10_can 342 = .ok (.iload 6, 2) := by decide +kernel
theorem dX10_can_344 : decode cX10_can 344 = .ok (.istore 6, 2) := by decide +kernel
theorem dX10_can_346 : decode cX10_can 346 = .ok (.iinc 7 1, 3) := by decide +kernel
theorem dX10_can_349 : decode cX10_can 349 = .ok (.goto (-77), 3) := by decide +kernel
theorem dX10_can_352 : decode cX10_can 352 = .ok (.iload 5, 2) := by decide +kernel
theorem dX10_can_354 : decode cX10_can 354 = .ok (.ifCond .lt 8, 3) := by decide +kernel
theorem dX10_can_357 : decode cX10_can 357 = .ok (.iload_n 3, 1) := by decide +kernel
theorem dX10_can_358 : decode cX10_can 358 = .ok (.iconst 1, 1) := by decide +kernel
theorem dX10_can_359 : decode cX10_can 359 = .ok (.if_icmp .ne 8, 3) := by decide +kernel
theorem dX10_can_362 : decode cX10_can 362 = .ok (.iload 5, 2) := by decide +kernel
theorem dX10_can_364 : decode cX10_can 364 = .ok (.goto 5, 3) := by decide +kernel
theorem dX10_can_367 : decode cX10_can 367 = .ok (.iload 6, 2) := by decide +kernel
theorem dX10_can_369 : decode cX10_can 369 = .ok (.ireturn, 1) := by decide +kernel
theorem dX10_seen_0 : decode cX10_seen 0 = .ok (.aload_n 0, 1) := by decide +kernel
theorem dX10_seen_1 : decode cX10_seen 1 = .ok (.iload_n 1, 1) := by decide +kernel
theorem dX10_seen_2 : decode cX10_seen 2 = .ok (.invokevirtual 156, 3) := by decide +kernel
theorem dX10_seen_5 : decode cX10_seen 5 = .ok (.ifCond .eq 20, 3) := by decide +kernel
theorem dX10_seen_8 : decode cX10_seen 8 = .ok (.aload_n 0, 1) := by decide +kernel
theorem dX10_seen_9 : decode cX10_seen 9 = .ok (.iload_n 2, 1) := by decide +kernel
theorem dX10_seen_10 : decode cX10_seen 10 = .ok (.invokevirtual 165, 3) := by decide +kernel
theorem dX10_seen_13 : decode cX10_seen 13 = .ok (.ifCond .eq 12, 3) := by decide +kernel
theorem dX10_seen_16 : decode cX10_seen 16 = .ok (.iload_n 3, 1) := by decide +kernel
theorem dX10_seen_17 : decode cX10_seen 17 = .ok (.iconst 0, 1) := by decide +kernel
theorem dX10_seen_18 : decode cX10_seen 18 = .ok (.iconst 1, 1) := by decide +kernel
theorem dX10_seen_19 : decode cX10_seen 19 = .ok (.invokestatic 76, 3) := by decide +kernel
theorem dX10_seen_22 : decode cX10_seen 22 = .ok (.ifCond .ne 5, 3) := by decide +kernel
theorem dX10_seen_25 : decode cX10_seen 25 = .ok (.iconst (-1), 1) := by decide +kernel
theorem dX10_seen_26 : decode cX10_seen 26 = .ok (.ireturn, 1) := by decide +kernel
theorem dX10_seen_27 : decode cX10_seen 27 = .ok (.aload_n 0, 1) := by decide +kernel
theorem dX10_seen_28 : decode cX10_seen 28 = .ok (.getfield 136, 3) := by decide +kernel
theorem dX10_seen_31 : decode cX10_seen 31 = .ok (.bipush 6, 2) := by decide +kernel
theorem dX10_seen_33 : decode cX10_seen 33 = .ok (.if_icmp .ne 6, 3) := by decide +kernel
theorem dX10_seen_36 : decode cX10_seen 36 = .ok (.bipush (-3), 2) := by decide +kernel
theorem dX10_seen_38 : decode cX10_seen 38 = .ok (.ireturn, 1) := by decide +kernel
theorem dX10_seen_39 : decode cX10_seen 39 = .ok (.aload_n 0, 1) := by decide +kernel
theorem dX10_seen_40 : decode cX10_seen 40 = .ok (.getfield 25, 3) := by decide +kernel
theorem dX10_seen_43 : decode cX10_seen 43 = .ok (.iconst 3, 1) := by decide +kernel
theorem dX10_seen_44 : decode cX10_seen 44 = .ok (.aload_n 0, 1) := by decide +kernel
theorem dX10_seen_45 : decode cX10_seen 45 = .ok (.getfield 136, 3) := by decide +kernel
theorem dX10_seen_48 : decode cX10_seen 48 = .ok (.imul, 1) := by decide +kernel
theorem dX10_seen_49 : decode cX10_seen 49 = .ok (.iload_n 1, 1) := by decide +kernel
theorem dX10_seen_50 : decode cX10_seen 50 = .ok (.iastore, 1) := by decide +kernel
theorem dX10_seen_51 : decode cX10_seen 51 = .ok (.aload_n 0, 1) := by decide +kernel
theorem dX10_seen_52 : decode cX10_seen 52 = .ok (.getfield 25, 3) := by decide +kernel
theorem dX10_seen_55 : decode cX10_seen 55 = .ok (.iconst 3, 1) := by decide +kernel
theorem dX10_seen_56 : decode cX10_seen 56 = .ok (.aload_n 0, 1) := by decide +kernel
theorem dX10_seen_57 : decode cX10_seen 57 = .ok (.getfield 136, 3) := by decide +kernel
theorem dX10_seen_60 : decode cX10_seen 60 = .ok (.imul, 1) := by decide +kernel
theorem dX10_seen_61 : decode cX10_seen 61 = .ok (.iconst 1, 1) := by decide +kernel
theorem dX10_seen_62 : decode cX10_seen 62 = .ok (.iadd, 1) := by decide +kernel
theorem dX10_seen_63 : decode cX10_seen 63 = .ok (.iload_n 2, 1) := by decide +kernel
theorem dX10_seen_64 : decode cX10_seen 64 = .ok (.iastore, 1) := by decide +kernel
theorem dX10_seen_65 : decode cX10_seen 65 = .ok (.aload_n 0, 1) := by decide +kernel
theorem dX10_seen_66 : decode cX10_seen 66 = .ok (.getfield 25, 3) := by decide +kernel
theorem dX10_seen_69 : decode cX10_seen 69 = .ok (.iconst 3, 1) := by decide +kernel
theorem dX10_seen_70 : decode cX10_seen 70 = .ok (.aload_n 0, 1) := by decide +kernel
theorem dX10_seen_71 : decode cX10_seen 71 = .ok (.getfield 136, 3) := by decide +kernel
theorem dX10_seen_74 : decode cX10_seen 74 = .ok (.imul, 1) := by decide +kernel
theorem dX10_seen_75 : decode cX10_seen 75 = .ok (.iconst 2, 1) := by decide +kernel
theorem dX10_seen_76 : decode cX10_seen 76 = .ok (.iadd, 1) := by decide +kernel
theorem dX10_seen_77 : decode cX10_seen 77 = .ok (.iload_n 3, 1) := by decide +kernel
theorem dX10_seen_78 : decode cX10_seen 78 = .ok (.iastore, 1) := by decide +kernel
theorem dX10_seen_79 : decode cX10_seen 79 = .ok (.aload_n 0, 1) := by decide +kernel
theorem dX10_seen_80 : decode cX10_seen 80 = .ok (.dup, 1) := by decide +kernel
theorem dX10_seen_81 : decode cX10_seen 81 = .ok (.getfield 136, 3) := by decide +kernel
theorem dX10_seen_84 : decode cX10_seen 84 = .ok (.iconst 1, 1) := by decide +kernel
theorem dX10_seen_85 : decode cX10_seen 85 = .ok (.iadd, 1) := by decide +kernel
theorem dX10_seen_86 : decode cX10_seen 86 = .ok (.putfield 136, 3) := by decide +kernel
theorem dX10_seen_89 : decode cX10_seen 89 = .ok (.aload_n 0, 1) := by decide +kernel
theorem dX10_seen_90 : decode cX10_seen 90 = .ok (.getfield 136, 3) := by decide +kernel
theorem dX10_seen_93 : decode cX10_seen 93 = .ok (.ireturn, 1) := by decide +kernel
theorem dX10_forget_0 : decode cX10_forget 0 = .ok (.aload_n 0, 1) := by decide +kernel
theorem dX10_forget_1 : decode cX10_forget 1 = .ok (.getfield 136, 3) := by decide +kernel
theorem dX10_forget_4 : decode cX10_forget 4 = .ok (.istore_n 1, 1) := by decide +kernel
theorem dX10_forget_5 : decode cX10_forget 5 = .ok (.aload_n 0, 1) := by decide +kernel
theorem dX10_forget_6 : decode cX10_forget 6 = .ok (.iconst 0, 1) := by decide +kernel
theorem dX10_forget_7 : decode cX10_forget 7 = .ok (.putfield 136, 3) := by decide +kernel
theorem dX10_forget_10 : decode cX10_forget 10 = .ok (.iload_n 1, 1) := by decide +kernel
theorem dX10_forget_11 : decode cX10_forget 11 = .ok (.ireturn, 1) := by decide +kernel
theorem dX10_isSo_0 : decode cX10_isSo 0 = .ok (.iconst 1, 1) := by decide +kernel
theorem dX10_isSo_1 : decode cX10_isSo 1 = .ok (.istore 4, 2) := by decide +kernel
theorem dX10_isSo_3 : decode cX10_isSo 3 = .ok (.iconst 0, 1) := by decide +kernel
theorem dX10_isSo_4 : decode cX10_isSo 4 = .ok (.istore 5, 2) := by decide +kernel
theorem dX10_isSo_6 : decode cX10_isSo 6 = .ok (.iload 5, 2) := by decide +kernel
theorem dX10_isSo_8 : decode cX10_isSo 8 = .ok (.aload_n 0, 1) := by decide +kernel
theorem dX10_isSo_9 : decode cX10_isSo 9 = .ok (.getfield 136, 3) := by decide +kernel
theorem dX10_isSo_12 : decode cX10_isSo 12 = .ok (.if_icmp .ge 87, 3) := by decide +kernel
theorem dX10_isSo_15 : decode cX10_isSo 15 = .ok (.aload_n 0, 1) := by decide +kernel
theorem dX10_isSo_16 : decode cX10_isSo 16 = .ok (.iload_n 1, 1) := by decide +kernel
theorem dX10_isSo_17 : decode cX10_isSo 17 = .ok (.aload_n 0, 1) := by decide +kernel
theorem dX10_isSo_18 : decode cX10_isSo 18 = .ok (.getfield 25, 3) := by decide +kernel
theorem dX10_isSo_21 : decode cX10_isSo 21 = .ok (.iconst 3, 1) := by decide +kernel
theorem dX10_isSo_22 : decode cX10_isSo 22 = .ok (.iload 5, 2) := by decide +kernel
theorem dX10_isSo_24 : decode cX10_isSo 24 = .ok (.imul, 1) := by decide +kernel
theorem dX10_isSo_25 : decode cX10_isSo 25 = .ok (.iconst 1, 1) := by decide +kernel
theorem dX10_isSo_26 : decode cX10_isSo 26 = .ok (.iadd, 1) := by decide +kernel
theorem dX10_isSo_27 : decode cX10_isSo 27 = .ok (.iaload, 1) := by decide +kernel
theorem dX10_isSo_28 : decode cX10_isSo 28 = .ok (.iload_n 2, 1) := by decide +kernel
theorem dX10_isSo_29 : decode cX10_isSo 29 = .ok (.invokevirtual 143, 3) := by decide +kernel
theorem dX10_isSo_32 : decode cX10_isSo 32 = .ok (.iload_n 3, 1) := by decide +kernel
theorem dX10_isSo_33 : decode cX10_isSo 33 = .ok (.if_icmp .le 7, 3) := by decide +kernel
theorem dX10_isSo_36 : decode cX10_isSo 36 = .ok (.iconst 1, 1) := by decide +kernel
theorem dX10_isSo_37 : decode cX10_isSo 37 = .ok (.goto 4, 3) := by decide +kernel
theorem dX10_isSo_40 : decode cX10_isSo 40 = .ok (.iconst 0, 1) := by decide +kernel
theorem dX10_isSo_41 : decode cX10_isSo 41 = .ok (.istore 6, 2) := by decide +kernel
theorem dX10_isSo_43 : decode cX10_isSo 43 = .ok (.iload 4, 2) := by decide +kernel
theorem dX10_isSo_45 : decode cX10_isSo 45 = .ok (.ifCond .eq 45, 3) := by decide +kernel
theorem dX10_isSo_48 : decode cX10_isSo 48 = .ok (.aload_n 0, 1) := by decide +kernel
theorem dX10_isSo_49 : decode cX10_isSo 49 = .ok (.getfield 25, 3) := by decide +kernel
theorem dX10_isSo_52 : decode cX10_isSo 52 = .ok (.iconst 3, 1) := by decide +kernel
theorem dX10_isSo_53 : decode cX10_isSo 53 = .ok (.iload 5, 2) := by decide +kernel
theorem dX10_isSo_55 : decode cX10_isSo 55 = .ok (.imul, 1) := by decide +kernel
theorem dX10_isSo_56 : decode cX10_isSo 56 = .ok (.iaload, 1) := by decide +kernel
theorem dX10_isSo_57 : decode cX10_isSo 57 = .ok (.iload_n 1, 1) := by decide +kernel
theorem dX10_isSo_58 : decode cX10_isSo 58 = .ok (.if_icmp .ne 28, 3) := by decide +kernel
theorem dX10_isSo_61 : decode cX10_isSo 61 = .ok (.iload 6, 2) := by decide +kernel
theorem dX10_isSo_63 : decode cX10_isSo 63 = .ok (.aload_n 0, 1) := by decide +kernel
theorem dX10_isSo_64 : decode cX10_isSo 64 = .ok (.getfield 25, 3) := by decide +kernel
theorem dX10_isSo_67 : decode cX10_isSo 67 = .ok (.iconst 3, 1) := by decide +kernel
theorem dX10_isSo_68 : decode cX10_isSo 68 = .ok (.iload 5, 2) := by decide +kernel
theorem dX10_isSo_70 : decode cX10_isSo 70 = .ok (.imul, 1) := by decide +kernel
theorem dX10_isSo_71 : decode cX10_isSo 71 = .ok (.iconst 2, 1) := by decide +kernel
theorem dX10_isSo_72 : decode cX10_isSo 72 = .ok (.iadd, 1) := by decide +kernel
theorem dX10_isSo_73 : decode cX10_isSo 73 = .ok (.iaload, 1) := by decide +kernel
theorem dX10_isSo_74 : decode cX10_isSo 74 = .ok (.iconst 1, 1) := by decide +kernel
theorem dX10_isSo_75 : decode cX10_isSo 75 = .ok (.if_icmp .ne 7, 3) := by decide +kernel
theorem dX10_isSo_78 : decode cX10_isSo 78 = .ok (.iconst 1, 1) := by decide +kernel
theorem dX10_isSo_79 : decode cX10_isSo 79 = .ok (.goto 4, 3) := by decide +kernel
theorem dX10_isSo_82 : decode cX10_isSo 82 = .ok (.iconst 0, 1) := by decide +kernel
theorem dX10_isSo_83 : decode cX10_isSo 83 = .ok (.if_icmp .ne 7, 3) := by decide +kernel
theorem dX10_isSo_86 : decode cX10_isSo 86 = .ok (.iconst 1, 1) := by decide +kernel
theorem dX10_isSo_87 : decode cX10_isSo 87 = .ok (.goto 4, 3) := by decide +kernel
theorem dX10_isSo_90 : decode cX10_isSo 90 = .ok (.iconst 0, 1) := by decide +kernel
theorem dX10_isSo_91 : decode cX10_isSo 91 = .ok (.istore 4, 2) := by decide +kernel
theorem dX10_isSo_93 : decode cX10_isSo 93 = .ok (.iinc 5 1, 3) := by decide +kernel
theorem dX10_isSo_96 : decode cX10_isSo 96 = .ok (.goto (-90), 3) := by decide +kernel
theorem dX10_isSo_99 : decode cX10_isSo 99 = .ok (.iload 4, 2) := by decide +kernel
theorem dX10_isSo_101 : decode cX10_isSo 101 = .ok (.ireturn, 1) := by decide +kernel
theorem dX10_nerves_0 : decode cX10_nerves 0 = .ok (.aload_n 0, 1) := by decide +kernel
theorem dX10_nerves_1 : decode cX10_nerves 1 = .ok (.iload_n 1, 1) := by decide +kernel
theorem dX10_nerves_2 : decode cX10_nerves 2 = .ok (.invokevirtual 156, 3) := by decide +kernel
theorem dX10_nerves_5 : decode cX10_nerves 5 = .ok (.ifCond .eq 12, 3) := by decide +kernel
theorem dX10_nerves_8 : decode cX10_nerves 8 = .ok (.iload_n 2, 1) := by decide +kernel
theorem dX10_nerves_9 : decode cX10_nerves 9 = .ok (.iconst 0, 1) := by decide +kernel
theorem dX10_nerves_10 : decode cX10_nerves 10 = .ok (.iconst 1, 1) := by decide +kernel
theorem dX10_nerves_11 : decode cX10_nerves 11 = .ok (.invokestatic 76, 3) := by decide +kernel
theorem dX10_nerves_14 : decode cX10_nerves 14 = .ok (.ifCond .ne 5, 3) := by decide +kernel
theorem dX10_nerves_17 : decode cX10_nerves 17 = .ok (.iconst (-1), 1) := by decide +kernel
theorem dX10_nerves_18 : decode cX10_nerves 18 = .ok (.ireturn, 1) := by decide +kernel
theorem dX10_nerves_19 : decode cX10_nerves 19 = .ok (.aload_n 0, 1) := by decide +kernel
theorem dX10_nerves_20 : decode cX10_nerves 20 = .ok (.invokevirtual 159, 3) := by decide +kernel
theorem dX10_nerves_23 : decode cX10_nerves 23 = .ok (.iconst 0, 1) := by decide +kernel
theorem dX10_nerves_24 : decode cX10_nerves 24 = .ok (.istore_n 3, 1) := by decide +kernel
theorem dX10_nerves_25 : decode cX10_nerves 25 = .ok (.bipush (-4), 2) := by decide +kernel
theorem dX10_nerves_27 : decode cX10_nerves 27 = .ok (.istore 4, 2) := by decide +kernel
theorem dX10_nerves_29 : decode cX10_nerves 29 = .ok (.bipush 30, 2) := by decide +kernel
theorem dX10_nerves_31 : decode cX10_nerves 31 = .ok (.istore 5, 2) := by decide +kernel
theorem dX10_nerves_33 : decode cX10_nerves 33 = .ok (.iload 5, 2) := by decide +kernel
theorem dX10_nerves_35 : decode cX10_nerves 35 = .ok (.ifCond .lt 51, 3) := by decide +kernel
theorem dX10_nerves_38 : decode cX10_nerves 38 = .ok (.aload_n 0, 1) := by decide +kernel
theorem dX10_nerves_39 : decode cX10_nerves 39 = .ok (.iload_n 1, 1) := by decide +kernel
theorem dX10_nerves_40 : decode cX10_nerves 40 = .ok (.aload_n 0, 1) := by decide +kernel
theorem dX10_nerves_41 : decode cX10_nerves 41 = .ok (.getfield 7, 3) := by decide +kernel
theorem dX10_nerves_44 : decode cX10_nerves 44 = .ok (.iload_n 1, 1) := by decide +kernel
theorem dX10_nerves_45 : decode cX10_nerves 45 = .ok (.iaload, 1) := by decide +kernel
theorem dX10_nerves_46 : decode cX10_nerves 46 = .ok (.iload 5, 2) := by decide +kernel
theorem dX10_nerves_48 : decode cX10_nerves 48 = .ok (.invokevirtual 203, 3) := by decide +kernel
theorem dX10_nerves_51 : decode cX10_nerves 51 = .ok (.istore 6, 2) := by decide +kernel
theorem dX10_nerves_53 : decode cX10_nerves 53 = .ok (.iload_n 3, 1) := by decide +kernel
theorem dX10_nerves_54 : decode cX10_nerves 54 = .ok (.iload 6, 2) := by decide +kernel
theorem dX10_nerves_56 : decode cX10_nerves 56 = .ok (.ifCond .eq 7, 3) := by decide +kernel
theorem dX10_nerves_59 : decode cX10_nerves 59 = .ok (.iconst 1, 1) := by decide +kernel
theorem dX10_nerves_60 : decode cX10_nerves 60 = .ok (.goto 4, 3) := by decide +kernel
theorem dX10_nerves_63 : decode cX10_nerves 63 = .ok (.iconst 0, 1) := by decide +kernel
theorem dX10_nerves_64 : decode cX10_nerves 64 = .ok (.iadd, 1) := by decide +kernel
theorem dX10_nerves_65 : decode cX10_nerves 65 = .ok (.istore_n 3, 1) := by decide +kernel
theorem dX10_nerves_66 : decode cX10_nerves 66 = .ok (.iload 6, 2) := by decide +kernel
theorem dX10_nerves_68 : decode cX10_nerves 68 = .ok (.ifCond .eq 8, 3) := by decide +kernel
theorem dX10_nerves_71 : decode cX10_nerves 71 = .ok (.iload 5, 2) := by decide +kernel
theorem dX10_nerves_73 : decode cX10_nerves 73 = .ok (.goto 5, 3) := by decide +kernel
theorem dX10_nerves_76 : decode cX10_nerves 76 = .ok (.iload 4, 2) := by decide +kernel
theorem dX10_nerves_78 : decode cX10_nerves 78 = .ok (.istore 4, 2) := by decide +kernel
theorem dX10_nerves_80 : decode cX10_nerves 80 = .ok (.iinc 5 (-1), 3) := by decide +kernel
theorem dX10_nerves_83 : decode cX10_nerves 83 = .ok (.goto (-50), 3) := by decide +kernel
theorem dX10_nerves_86 : decode cX10_nerves 86 = .ok (.iload_n 2, 1) := by decide +kernel
theorem dX10_nerves_87 : decode cX10_nerves 87 = .ok (.ifCond .ne 7, 3) := by decide +kernel
theorem dX10_nerves_90 : decode cX10_nerves 90 = .ok (.iload_n 3, 1) := by decide +kernel
theorem dX10_nerves_91 : decode cX10_nerves 91 = .ok (.goto 5, 3) := by decide +kernel
theorem dX10_nerves_94 : decode cX10_nerves 94 = .ok (.iload 4, 2) := by decide +kernel
theorem dX10_nerves_96 : decode cX10_nerves 96 = .ok (.ireturn, 1) := by decide +kernel
theorem dX10_kinds_0 : decode cX10_kinds 0 = .ok (.aload_n 0, 1) := by decide +kernel
theorem dX10_kinds_1 : decode cX10_kinds 1 = .ok (.iload_n 1, 1) := by decide +kernel
theorem dX10_kinds_2 : decode cX10_kinds 2 = .ok (.invokevirtual 156, 3) := by decide +kernel
theorem dX10_kinds_5 : decode cX10_kinds 5 = .ok (.ifCond .ne 5, 3) := by decide +kernel
theorem dX10_kinds_8 : decode cX10_kinds 8 = .ok (.iconst (-1), 1) := by decide +kernel
theorem dX10_kinds_9 : decode cX10_kinds 9 = .ok (.ireturn, 1) := by decide +kernel
theorem dX10_kinds_10 : decode cX10_kinds 10 = .ok (.aload_n 0, 1) := by decide +kernel
theorem dX10_kinds_11 : decode cX10_kinds 11 = .ok (.invokevirtual 159, 3) := by decide +kernel
theorem dX10_kinds_14 : decode cX10_kinds 14 = .ok (.iconst 0, 1) := by decide +kernel
theorem dX10_kinds_15 : decode cX10_kinds 15 = .ok (.istore_n 2, 1) := by decide +kernel
theorem dX10_kinds_16 : decode cX10_kinds 16 = .ok (.iconst 0, 1) := by decide +kernel
theorem dX10_kinds_17 : decode cX10_kinds 17 = .ok (.istore_n 3, 1) := by decide +kernel
theorem dX10_kinds_18 : decode cX10_kinds 18 = .ok (.iload_n 3, 1) := by decide +kernel
theorem dX10_kinds_19 : decode cX10_kinds 19 = .ok (.iconst 3, 1) := by decide +kernel
theorem dX10_kinds_20 : decode cX10_kinds 20 = .ok (.if_icmp .gt 37, 3) := by decide +kernel
theorem dX10_kinds_23 : decode cX10_kinds 23 = .ok (.iload_n 2, 1) := by decide +kernel
theorem dX10_kinds_24 : decode cX10_kinds 24 = .ok (.aload_n 0, 1) := by decide +kernel
theorem dX10_kinds_25 : decode cX10_kinds 25 = .ok (.iload_n 1, 1) := by decide +kernel
theorem dX10_kinds_26 : decode cX10_kinds 26 = .ok (.iload_n 3, 1) := by decide +kernel
theorem dX10_kinds_27 : decode cX10_kinds 27 = .ok (.aload_n 0, 1) := by decide +kernel
theorem dX10_kinds_28 : decode cX10_kinds 28 = .ok (.getfield 43, 3) := by decide +kernel
theorem dX10_kinds_31 : decode cX10_kinds 31 = .ok (.bipush 15, 2) := by decide +kernel
theorem dX10_kinds_33 : decode cX10_kinds 33 = .ok (.iload_n 1, 1) := by decide +kernel
theorem dX10_kinds_34 : decode cX10_kinds 34 = .ok (.iadd, 1) := by decide +kernel
theorem dX10_kinds_35 : decode cX10_kinds 35 = .ok (.iaload, 1) := by decide +kernel
theorem dX10_kinds_36 : decode cX10_kinds 36 = .ok (.invokevirtual 203, 3) := by decide +kernel
theorem dX10_kinds_39 : decode cX10_kinds 39 = .ok (.ifCond .eq 9, 3) := by decide +kernel
theorem dX10_kinds_42 : decode cX10_kinds 42 = .ok (.iconst 1, 1) := by decide +kernel
theorem dX10_kinds_43 : decode cX10_kinds 43 = .ok (.iload_n 3, 1) := by decide +kernel
theorem dX10_kinds_44 : decode cX10_kinds 44 = .ok (.ishl, 1) := by decide +kernel
theorem dX10_kinds_45 : decode cX10_kinds 45 = .ok (.goto 4, 3) := by decide +kernel
theorem dX10_kinds_48 : decode cX10_kinds 48 = .ok (.iconst 0, 1) := by decide +kernel
theorem dX10_kinds_49 : decode cX10_kinds 49 = .ok (.ior, 1) := by decide +kernel
theorem dX10_kinds_50 : decode cX10_kinds 50 = .ok (.istore_n 2, 1) := by decide +kernel
theorem dX10_kinds_51 : decode cX10_kinds 51 = .ok (.iinc 3 1, 3) := by decide +kernel
theorem dX10_kinds_54 : decode cX10_kinds 54 = .ok (.goto (-36), 3) := by decide +kernel
theorem dX10_kinds_57 : decode cX10_kinds 57 = .ok (.iload_n 2, 1) := by decide +kernel
theorem dX10_kinds_58 : decode cX10_kinds 58 = .ok (.ireturn, 1) := by decide +kernel
theorem dX10_least_0 : decode cX10_least 0 = .ok (.iload_n 0, 1) := by decide +kernel
theorem dX10_least_1 : decode cX10_least 1 = .ok (.istore_n 3, 1) := by decide +kernel
theorem dX10_least_2 : decode cX10_least 2 = .ok (.iload_n 1, 1) := by decide +kernel
theorem dX10_least_3 : decode cX10_least 3 = .ok (.istore 4, 2) := by decide +kernel
theorem dX10_least_5 : decode cX10_least 5 = .ok (.iload 4, 2) := by decide +kernel
theorem dX10_least_7 : decode cX10_least 7 = .ok (.ifCond .le 19, 3) := by decide +kernel
theorem dX10_least_10 : decode cX10_least 10 = .ok (.iload_n 3, 1) := by decide +kernel
theorem dX10_least_11 : decode cX10_least 11 = .ok (.iload 4, 2) := by decide +kernel
theorem dX10_least_13 : decode cX10_least 13 = .ok (.irem, 1) := by decide +kernel
theorem dX10_least_14 : decode cX10_least 14 = .ok (.istore 5, 2) := by decide +kernel
theorem dX10_least_16 : decode cX10_least 16 = .ok (.iload 4, 2) := by decide +kernel
theorem dX10_least_18 : decode cX10_least 18 = .ok (.istore_n 3, 1) := by decide +kernel
theorem dX10_least_19 : decode cX10_least 19 = .ok (.iload 5, 2) := by decide +kernel
theorem dX10_least_21 : decode cX10_least 21 = .ok (.istore 4, 2) := by decide +kernel
theorem dX10_least_23 : decode cX10_least 23 = .ok (.goto (-18), 3) := by decide +kernel
theorem dX10_least_26 : decode cX10_least 26 = .ok (.iload_n 2, 1) := by decide +kernel
theorem dX10_least_27 : decode cX10_least 27 = .ok (.ifCond .ne 7, 3) := by decide +kernel
theorem dX10_least_30 : decode cX10_least 30 = .ok (.iload_n 0, 1) := by decide +kernel
theorem dX10_least_31 : decode cX10_least 31 = .ok (.goto 4, 3) := by decide +kernel
theorem dX10_least_34 : decode cX10_least 34 = .ok (.iload_n 1, 1) := by decide +kernel
theorem dX10_least_35 : decode cX10_least 35 = .ok (.iload_n 3, 1) := by decide +kernel
theorem dX10_least_36 : decode cX10_least 36 = .ok (.idiv, 1) := by decide +kernel
theorem dX10_least_37 : decode cX10_least 37 = .ok (.ireturn, 1) := by decide +kernel
theorem dX10_likely_0 : decode cX10_likely 0 = .ok (.iload_n 1, 1) := by decide +kernel
theorem dX10_likely_1 : decode cX10_likely 1 = .ok (.iconst 0, 1) := by decide +kernel
theorem dX10_likely_2 : decode cX10_likely 2 = .ok (.iconst 5, 1) := by decide +kernel
theorem dX10_likely_3 : decode cX10_likely 3 = .ok (.invokestatic 76, 3) := by decide +kernel
theorem dX10_likely_6 : decode cX10_likely 6 = .ok (.ifCond .eq 22, 3) := by decide +kernel
theorem dX10_likely_9 : decode cX10_likely 9 = .ok (.iload_n 2, 1) := by decide +kernel
theorem dX10_likely_10 : decode cX10_likely 10 = .ok (.iconst 0, 1) := by decide +kernel
theorem dX10_likely_11 : decode cX10_likely 11 = .ok (.bipush 10, 2) := by decide +kernel
theorem dX10_likely_13 : decode cX10_likely 13 = .ok (.invokestatic 76, 3) := by decide +kernel
theorem dX10_likely_16 : decode cX10_likely 16 = .ok (.ifCond .eq 12, 3) := by decide +kernel
theorem dX10_likely_19 : decode cX10_likely 19 = .ok (.iload_n 3, 1) := by decide +kernel
theorem dX10_likely_20 : decode cX10_likely 20 = .ok (.iconst 0, 1) := by decide +kernel
theorem dX10_likely_21 : decode cX10_likely 21 = .ok (.iconst 1, 1) := by decide +kernel
theorem dX10_likely_22 : decode cX10_likely 22 = .ok (.invokestatic 76, 3) := by decide +kernel
theorem dX10_likely_25 : decode cX10_likely 25 = .ok (.ifCond .ne 5, 3) := by decide +kernel
theorem dX10_likely_28 : decode cX10_likely 28 = .ok (.iconst (-1), 1) := by decide +kernel
theorem dX10_likely_29 : decode cX10_likely 29 = .ok (.ireturn, 1) := by decide +kernel
theorem dX10_likely_30 : decode cX10_likely 30 = .ok (.aload_n 0, 1) := by decide +kernel
theorem dX10_likely_31 : decode cX10_likely 31 = .ok (.invokevirtual 159, 3) := by decide +kernel
theorem dX10_likely_34 : decode cX10_likely 34 = .ok (.aload_n 0, 1) := by decide +kernel
theorem dX10_likely_35 : decode cX10_likely 35 = .ok (.invokevirtual 150, 3) := by decide +kernel
theorem dX10_likely_38 : decode cX10_likely 38 = .ok (.istore 4, 2) := by decide +kernel
theorem dX10_likely_40 : decode cX10_likely 40 = .ok (.iconst 0, 1) := by decide +kernel
theorem dX10_likely_41 : decode cX10_likely 41 = .ok (.istore 5, 2) := by decide +kernel
theorem dX10_likely_43 : decode cX10_likely 43 = .ok (.iconst 1, 1) := by decide +kernel
theorem dX10_likely_44 : decode cX10_likely 44 = .ok (.istore 6, 2) := by decide +kernel
theorem dX10_likely_46 : decode cX10_likely 46 = .ok (.iconst 0, 1) := by decide +kernel
theorem dX10_likely_47 : decode cX10_likely 47 = .ok (.istore 7, 2) := by decide +kernel
theorem dX10_likely_49 : decode cX10_likely 49 = .ok (.iload 7, 2) := by decide +kernel
theorem dX10_likely_51 : decode cX10_likely 51 = .ok (.aload_n 0, 1) := by decide +kernel
theorem dX10_likely_52 : decode cX10_likely 52 = .ok (.getfield 73, 3) := by decide +kernel
theorem dX10_likely_55 : decode cX10_likely 55 = .ok (.if_icmp .ge 30, 3) := by decide +kernel
theorem dX10_likely_58 : decode cX10_likely 58 = .ok (.iload 6, 2) := by decide +kernel
theorem dX10_likely_60 : decode cX10_likely 60 = .ok (.iload 4, 2) := by decide +kernel
theorem dX10_likely_62 : decode cX10_likely 62 = .ok (.iload 7, 2) := by decide +kernel
theorem dX10_likely_64 : decode cX10_likely 64 = .ok (.invokestatic 139, 3) := by decide +kernel
theorem dX10_likely_67 : decode cX10_likely 67 = .ok (.ifCond .eq 8, 3) := by decide +kernel
theorem dX10_likely_70 : decode cX10_likely 70 = .ok (.bipush 10, 2) := by decide +kernel
theorem dX10_likely_72 : decode cX10_likely 72 = .ok (.goto 4, 3) := by decide +kernel
theorem dX10_likely_75 : decode cX10_likely 75 = .ok (.iconst 1, 1) := by decide +kernel
theorem dX10_likely_76 : decode cX10_likely 76 = .ok (.imul, 1) := by decide +kernel
theorem dX10_likely_77 : decode cX10_likely 77 = .ok (.istore 6, 2) := by decide +kernel
theorem dX10_likely_79 : decode cX10_likely 79 = .ok (.iinc 7 1, 3) := by decide +kernel
theorem dX10_likely_82 : decode cX10_likely 82 = .ok (.goto (-33), 3) := by decide +kernel
theorem dX10_likely_85 : decode cX10_likely 85 = .ok (.iconst 0, 1) := by decide +kernel
theorem dX10_likely_86 : decode cX10_likely 86 = .ok (.istore 7, 2) := by decide +kernel
theorem dX10_likely_88 : decode cX10_likely 88 = .ok (.iload 7, 2) := by decide +kernel
theorem dX10_likely_90 : decode cX10_likely 90 = .ok (.iconst 1, 1) := by decide +kernel
theorem dX10_likely_91 : decode cX10_likely 91 = .ok (.aload_n 0, 1) := by decide +kernel
theorem dX10_likely_92 : decode cX10_likely 92 = .ok (.getfield 73, 3) := by decide +kernel
theorem dX10_likely_95 : decode cX10_likely 95 = .ok (.ishl, 1) := by decide +kernel
theorem dX10_likely_96 : decode cX10_likely 96 = .ok (.if_icmp .ge 111, 3) := by decide +kernel
theorem dX10_likely_99 : decode cX10_likely 99 = .ok (.iload 7, 2) := by decide +kernel
theorem dX10_likely_101 : decode cX10_likely 101 = .ok (.iload 4, 2) := by decide +kernel
theorem dX10_likely_103 : decode cX10_likely 103 = .ok (.iconst (-1), 1) := by decide +kernel
theorem dX10_likely_104 : decode cX10_likely 104 = .ok (.ixor, 1) := by decide +kernel
theorem dX10_likely_105 : decode cX10_likely 105 = .ok (.iand, 1) := by decide +kernel
theorem dX10_likely_106 : decode cX10_likely 106 = .ok (.ifCond .ne 95, 3) := by decide +kernel
theorem dX10_likely_109 : decode cX10_likely 109 = .ok (.iconst 1, 1) := by decide +kernel
theorem dX10_likely_110 : decode cX10_likely 110 = .ok (.istore 8, 2) := by decide +kernel
theorem dX10_likely_112 : decode cX10_likely 112 = .ok (.iconst 0, 1) := by decide +kernel
theorem dX10_likely_113 : decode cX10_likely 113 = .ok (.istore 9, 2) := by decide +kernel
theorem dX10_likely_115 : decode cX10_likely 115 = .ok (.iload 9, 2) := by decide +kernel
theorem dX10_likely_117 : decode cX10_likely 117 = .ok (.aload_n 0, 1) := by decide +kernel
theorem dX10_likely_118 : decode cX10_likely 118 = .ok (.getfield 73, 3) := by decide +kernel
theorem dX10_likely_121 : decode cX10_likely 121 = .ok (.if_icmp .ge 46, 3) := by decide +kernel
theorem dX10_likely_124 : decode cX10_likely 124 = .ok (.iload 8, 2) := by decide +kernel
theorem dX10_likely_126 : decode cX10_likely 126 = .ok (.iload 4, 2) := by decide +kernel
theorem dX10_likely_128 : decode cX10_likely 128 = .ok (.iload 9, 2) := by decide +kernel
theorem dX10_likely_130 : decode cX10_likely 130 = .ok (.invokestatic 139, 3) := by decide +kernel
theorem dX10_likely_133 : decode cX10_likely 133 = .ok (.ifCond .ne 7, 3) := by decide +kernel
theorem dX10_likely_136 : decode cX10_likely 136 = .ok (.iconst 1, 1) := by decide +kernel
theorem dX10_likely_137 : decode cX10_likely 137 = .ok (.goto 21, 3) := by decide +kernel
theorem dX10_likely_140 : decode cX10_likely 140 = .ok (.iload 7, 2) := by decide +kernel
theorem dX10_likely_142 : decode cX10_likely 142 = .ok (.iload 9, 2) := by decide +kernel
theorem dX10_likely_144 : decode cX10_likely 144 = .ok (.invokestatic 139, 3) := by decide +kernel
theorem dX10_likely_147 : decode cX10_likely 147 = .ok (.ifCond .eq 7, 3) := by decide +kernel
theorem dX10_likely_150 : decode cX10_likely 150 = .ok (.iload_n 2, 1) := by decide +kernel
theorem dX10_likely_151 : decode cX10_likely 151 = .ok (.goto 7, 3) := by decide +kernel
theorem dX10_likely_154 : decode cX10_likely 154 = .ok (.bipush 10, 2) := by decide +kernel
theorem dX10_likely_156 : decode cX10_likely 156 = .ok (.iload_n 2, 1) := by decide +kernel
theorem dX10_likely_157 : decode cX10_likely 157 = .ok (.isub, 1) := by decide +kernel
theorem dX10_likely_158 : decode cX10_likely 158 = .ok (.imul, 1) := by decide +kernel
theorem dX10_likely_159 : decode cX10_likely 159 = .ok (.istore 8, 2) := by decide +kernel
theorem dX10_likely_161 : decode cX10_likely 161 = .ok (.iinc 9 1, 3) := by decide +kernel
theorem dX10_likely_164 : decode cX10_likely 164 = .ok (.goto (-49), 3) := by decide +kernel
theorem dX10_likely_167 : decode cX10_likely 167 = .ok (.aload_n 0, 1) := by decide +kernel
theorem dX10_likely_168 : decode cX10_likely 168 = .ok (.getfield 43, 3) := by decide +kernel
theorem dX10_likely_171 : decode cX10_likely 171 = .ok (.iconst 1, 1) := by decide +kernel
theorem dX10_likely_172 : decode cX10_likely 172 = .ok (.aload_n 0, 1) := by decide +kernel
theorem dX10_likely_173 : decode cX10_likely 173 = .ok (.getfield 16, 3) := by decide +kernel
theorem dX10_likely_176 : decode cX10_likely 176 = .ok (.iconst 1, 1) := by decide +kernel
theorem dX10_likely_177 : decode cX10_likely 177 = .ok (.iaload, 1) := by decide +kernel
theorem dX10_likely_178 : decode cX10_likely 178 = .ok (.iload 7, 2) := by decide +kernel
theorem dX10_likely_180 : decode cX10_likely 180 = .ok (.ior, 1) := by decide +kernel
theorem dX10_likely_181 : decode cX10_likely 181 = .ok (.iastore, 1) := by decide +kernel
theorem dX10_likely_182 : decode cX10_likely 182 = .ok (.iload 5, 2) := by decide +kernel
theorem dX10_likely_184 : decode cX10_likely 184 = .ok (.aload_n 0, 1) := by decide +kernel
theorem dX10_likely_185 : decode cX10_likely 185 = .ok (.invokevirtual 190, 3) := by decide +kernel
theorem dX10_likely_188 : decode cX10_likely 188 = .ok (.iload_n 1, 1) := by decide +kernel
theorem dX10_likely_189 : decode cX10_likely 189 = .ok (.if_icmp .lt 8, 3) := by decide +kernel
theorem dX10_likely_192 : decode cX10_likely 192 = .ok (.iload 8, 2) := by decide +kernel
theorem dX10_likely_194 : decode cX10_likely 194 = .ok (.goto 4, 3) := by decide +kernel
theorem dX10_likely_197 : decode cX10_likely 197 = .ok (.iconst 0, 1) := by decide +kernel
theorem dX10_likely_198 : decode cX10_likely 198 = .ok (.iadd, 1) := by decide +kernel
theorem dX10_likely_199 : decode cX10_likely 199 = .ok (.istore 5, 2) := by decide +kernel
theorem dX10_likely_201 : decode cX10_likely 201 = .ok (.iinc 7 1, 3) := by decide +kernel
theorem dX10_likely_204 : decode cX10_likely 204 = .ok (.goto (-116), 3) := by decide +kernel
theorem dX10_likely_207 : decode cX10_likely 207 = .ok (.iload 5, 2) := by decide +kernel
theorem dX10_likely_209 : decode cX10_likely 209 = .ok (.iload 6, 2) := by decide +kernel
theorem dX10_likely_211 : decode cX10_likely 211 = .ok (.iload_n 3, 1) := by decide +kernel
theorem dX10_likely_212 : decode cX10_likely 212 = .ok (.invokestatic 206, 3) := by decide +kernel
theorem dX10_likely_215 : decode cX10_likely 215 = .ok (.ireturn, 1) := by decide +kernel
theorem dX10_turns_0 : decode cX10_turns 0 = .ok (.iload_n 1, 1) := by decide +kernel
theorem dX10_turns_1 : decode cX10_turns 1 = .ok (.aload_n 0, 1) := by decide +kernel
theorem dX10_turns_2 : decode cX10_turns 2 = .ok (.getfield 73, 3) := by decide +kernel
theorem dX10_turns_5 : decode cX10_turns 5 = .ok (.irem, 1) := by decide +kernel
theorem dX10_turns_6 : decode cX10_turns 6 = .ok (.istore_n 2, 1) := by decide +kernel
theorem dX10_turns_7 : decode cX10_turns 7 = .ok (.iload_n 1, 1) := by decide +kernel
theorem dX10_turns_8 : decode cX10_turns 8 = .ok (.bipush 8, 2) := by decide +kernel
theorem dX10_turns_10 : decode cX10_turns 10 = .ok (.idiv, 1) := by decide +kernel
theorem dX10_turns_11 : decode cX10_turns 11 = .ok (.bipush 6, 2) := by decide +kernel
theorem dX10_turns_13 : decode cX10_turns 13 = .ok (.irem, 1) := by decide +kernel
theorem dX10_turns_14 : decode cX10_turns 14 = .ok (.istore_n 3, 1) := by decide +kernel
theorem dX10_turns_15 : decode cX10_turns 15 = .ok (.iload_n 3, 1) := by decide +kernel
theorem dX10_turns_16 : decode cX10_turns 16 = .ok (.iconst 2, 1) := by decide +kernel
theorem dX10_turns_17 : decode cX10_turns 17 = .ok (.if_icmp .ge 30, 3) := by decide +kernel
theorem dX10_turns_20 : decode cX10_turns 20 = .ok (.aload_n 0, 1) := by decide +kernel
theorem dX10_turns_21 : decode cX10_turns 21 = .ok (.getfield 43, 3) := by decide +kernel
theorem dX10_turns_24 : decode cX10_turns 24 = .ok (.iconst 3, 1) := by decide +kernel
theorem dX10_turns_25 : decode cX10_turns 25 = .ok (.iload_n 2, 1) := by decide +kernel
theorem dX10_turns_26 : decode cX10_turns 26 = .ok (.iadd, 1) := by decide +kernel
theorem dX10_turns_27 : decode cX10_turns 27 = .ok (.dup2, 1) := by decide +kernel
theorem dX10_turns_28 : decode cX10_turns 28 = .ok (.iaload, 1) := by decide +kernel
theorem dX10_turns_29 : decode cX10_turns 29 = .ok (.aload_n 0, 1) := by decide +kernel
theorem dX10_turns_30 : decode cX10_turns 30 = .ok (.iload_n 2, 1) := by decide +kernel
theorem dX10_turns_31 : decode cX10_turns 31 = .ok (.invokevirtual 174, 3) := by decide +kernel
theorem dX10_turns_34 : decode cX10_turns 34 = .ok (.ifCond .eq 7, 3) := by decide +kernel
theorem dX10_turns_37 : decode cX10_turns 37 = .ok (.iconst 1, 1) := by decide +kernel
theorem dX10_turns_38 : decode cX10_turns 38 = .ok (.goto 4, 3) := by decide +kernel
theorem dX10_turns_41 : decode cX10_turns 41 = .ok (.iconst 0, 1) := by decide +kernel
theorem dX10_turns_42 : decode cX10_turns 42 = .ok (.isub, 1) := by decide +kernel
theorem dX10_turns_43 : decode cX10_turns 43 = .ok (.iastore, 1) := by decide +kernel
theorem dX10_turns_44 : decode cX10_turns 44 = .ok (.goto 53, 3) := by decide +kernel
theorem dX10_turns_47 : decode cX10_turns 47 = .ok (.iload_n 3, 1) := by decide +kernel
theorem dX10_turns_48 : decode cX10_turns 48 = .ok (.iconst 2, 1) := by decide +kernel
theorem dX10_turns_49 : decode cX10_turns 49 = .ok (.if_icmp .ne 30, 3) := by decide +kernel
theorem dX10_turns_52 : decode cX10_turns 52 = .ok (.aload_n 0, 1) := by decide +kernel
theorem dX10_turns_53 : decode cX10_turns 53 = .ok (.getfield 43, 3) := by decide +kernel
theorem dX10_turns_56 : decode cX10_turns 56 = .ok (.iconst 3, 1) := by decide +kernel
theorem dX10_turns_57 : decode cX10_turns 57 = .ok (.iload_n 2, 1) := by decide +kernel
theorem dX10_turns_58 : decode cX10_turns 58 = .ok (.iadd, 1) := by decide +kernel
theorem dX10_turns_59 : decode cX10_turns 59 = .ok (.dup2, 1) := by decide +kernel
theorem dX10_turns_60 : decode cX10_turns 60 = .ok (.iaload, 1) := by decide +kernel
theorem dX10_turns_61 : decode cX10_turns 61 = .ok (.aload_n 0, 1) := by decide +kernel
theorem dX10_turns_62 : decode cX10_turns 62 = .ok (.iload_n 2, 1) := by decide +kernel
theorem dX10_turns_63 : decode cX10_turns 63 = .ok (.invokevirtual 177, 3) := by decide +kernel
theorem dX10_turns_66 : decode cX10_turns 66 = .ok (.ifCond .eq 7, 3) := by decide +kernel
theorem dX10_turns_69 : decode cX10_turns 69 = .ok (.iconst 1, 1) := by decide +kernel
theorem dX10_turns_70 : decode cX10_turns 70 = .ok (.goto 4, 3) := by decide +kernel
theorem dX10_turns_73 : decode cX10_turns 73 = .ok (.iconst 0, 1) := by decide +kernel
theorem dX10_turns_74 : decode cX10_turns 74 = .ok (.iadd, 1) := by decide +kernel
theorem dX10_turns_75 : decode cX10_turns 75 = .ok (.iastore, 1) := by decide +kernel
theorem dX10_turns_76 : decode cX10_turns 76 = .ok (.goto 21, 3) := by decide +kernel
theorem dX10_turns_79 : decode cX10_turns 79 = .ok (.iload_n 3, 1) := by decide +kernel
theorem dX10_turns_80 : decode cX10_turns 80 = .ok (.iconst 3, 1) := by decide +kernel
theorem dX10_turns_81 : decode cX10_turns 81 = .ok (.if_icmp .ne 16, 3) := by decide +kernel
theorem dX10_turns_84 : decode cX10_turns 84 = .ok (.aload_n 0, 1) := by decide +kernel
theorem dX10_turns_85 : decode cX10_turns 85 = .ok (.iload_n 2, 1) := by decide +kernel
theorem dX10_turns_86 : decode cX10_turns 86 = .ok (.invokevirtual 162, 3) := by decide +kernel
theorem dX10_turns_89 : decode cX10_turns 89 = .ok (.ifCond .eq 8, 3) := by decide +kernel
theorem dX10_turns_92 : decode cX10_turns 92 = .ok (.aload_n 0, 1) := by decide +kernel
theorem dX10_turns_93 : decode cX10_turns 93 = .ok (.iload_n 2, 1) := by decide +kernel
theorem dX10_turns_94 : decode cX10_turns 94 = .ok (.invokevirtual 180, 3) := by decide +kernel
theorem dX10_turns_97 : decode cX10_turns 97 = .ok (.aload_n 0, 1) := by decide +kernel
theorem dX10_turns_98 : decode cX10_turns 98 = .ok (.invokevirtual 168, 3) := by decide +kernel
theorem dX10_turns_101 : decode cX10_turns 101 = .ok (.return_, 1) := by decide +kernel
theorem dX10_decade_0 : decode cX10_decade 0 = .ok (.iload_n 1, 1) := by decide +kernel
theorem dX10_decade_1 : decode cX10_decade 1 = .ok (.iconst 0, 1) := by decide +kernel
theorem dX10_decade_2 : decode cX10_decade 2 = .ok (.sipush 9999, 3) := by decide +kernel
theorem dX10_decade_5 : decode cX10_decade 5 = .ok (.invokestatic 76, 3) := by decide +kernel
theorem dX10_decade_8 : decode cX10_decade 8 = .ok (.ifCond .eq 22, 3) := by decide +kernel
theorem dX10_decade_11 : decode cX10_decade 11 = .ok (.iload_n 2, 1) := by decide +kernel
theorem dX10_decade_12 : decode cX10_decade 12 = .ok (.iconst 1, 1) := by decide +kernel
theorem dX10_decade_13 : decode cX10_decade 13 = .ok (.bipush 60, 2) := by decide +kernel
theorem dX10_decade_15 : decode cX10_decade 15 = .ok (.invokestatic 76, 3) := by decide +kernel
theorem dX10_decade_18 : decode cX10_decade 18 = .ok (.ifCond .eq 12, 3) := by decide +kernel
theorem dX10_decade_21 : decode cX10_decade 21 = .ok (.iload_n 3, 1) := by decide +kernel
theorem dX10_decade_22 : decode cX10_decade 22 = .ok (.iconst 0, 1) := by decide +kernel
theorem dX10_decade_23 : decode cX10_decade 23 = .ok (.iconst 2, 1) := by decide +kernel
theorem dX10_decade_24 : decode cX10_decade 24 = .ok (.invokestatic 76, 3) := by decide +kernel
theorem dX10_decade_27 : decode cX10_decade 27 = .ok (.ifCond .ne 5, 3) := by decide +kernel
theorem dX10_decade_30 : decode cX10_decade 30 = .ok (.iconst (-1), 1) := by decide +kernel
theorem dX10_decade_31 : decode cX10_decade 31 = .ok (.ireturn, 1) := by decide +kernel
theorem dX10_decade_32 : decode cX10_decade 32 = .ok (.aload_n 0, 1) := by decide +kernel
theorem dX10_decade_33 : decode cX10_decade 33 = .ok (.invokevirtual 159, 3) := by decide +kernel
theorem dX10_decade_36 : decode cX10_decade 36 = .ok (.iconst 0, 1) := by decide +kernel
theorem dX10_decade_37 : decode cX10_decade 37 = .ok (.istore 4, 2) := by decide +kernel
theorem dX10_decade_39 : decode cX10_decade 39 = .ok (.iload 4, 2) := by decide +kernel
theorem dX10_decade_41 : decode cX10_decade 41 = .ok (.iload_n 2, 1) := by decide +kernel
theorem dX10_decade_42 : decode cX10_decade 42 = .ok (.if_icmp .ge 45, 3) := by decide +kernel
theorem dX10_decade_45 : decode cX10_decade 45 = .ok (.ldc2_w 209, 3) := by decide +kernel
theorem dX10_decade_48 : decode cX10_decade 48 = .ok (.iload_n 1, 1) := by decide +kernel
theorem dX10_decade_49 : decode cX10_decade 49 = .ok (.i2l, 1) := by decide +kernel
theorem dX10_decade_50 : decode cX10_decade 50 = .ok (.lmul, 1) := by decide +kernel
theorem dX10_decade_51 : decode cX10_decade 51 = .ok (.ldc2_w 211, 3) := by decide +kernel
theorem dX10_decade_54 : decode cX10_decade 54 = .ok (.iload 4, 2) := by decide +kernel
theorem dX10_decade_56 : decode cX10_decade 56 = .ok (.i2l, 1) := by decide +kernel
theorem dX10_decade_57 : decode cX10_decade 57 = .ok (.lmul, 1) := by decide +kernel
theorem dX10_decade_58 : decode cX10_decade 58 = .ok (.ladd, 1) := by decide +kernel
theorem dX10_decade_59 : decode cX10_decade 59 = .ok (.lconst 1, 1) := by decide +kernel
theorem dX10_decade_60 : decode cX10_decade 60 = .ok (.ladd, 1) := by decide +kernel
theorem dX10_decade_61 : decode cX10_decade 61 = .ok (.lstore 5, 2) := by decide +kernel
theorem dX10_decade_63 : decode cX10_decade 63 = .ok (.aload_n 0, 1) := by decide +kernel
theorem dX10_decade_64 : decode cX10_decade 64 = .ok (.lload 5, 2) := by decide +kernel
theorem dX10_decade_66 : decode cX10_decade 66 = .ok (.lload 5, 2) := by decide +kernel
theorem dX10_decade_68 : decode cX10_decade 68 = .ok (.lmul, 1) := by decide +kernel
theorem dX10_decade_69 : decode cX10_decade 69 = .ok (.ldc2_w 213, 3) := by decide +kernel
theorem dX10_decade_72 : decode cX10_decade 72 = .ok (.lrem, 1) := by decide +kernel
theorem dX10_decade_73 : decode cX10_decade 73 = .ok (.ldc2_w 215, 3) := by decide +kernel
theorem dX10_decade_76 : decode cX10_decade 76 = .ok (.ldiv, 1) := by decide +kernel
theorem dX10_decade_77 : decode cX10_decade 77 = .ok (.l2i, 1) := by decide +kernel
theorem dX10_decade_78 : decode cX10_decade 78 = .ok (.invokevirtual 217, 3) := by decide +kernel
theorem dX10_decade_81 : decode cX10_decade 81 = .ok (.iinc 4 1, 3) := by decide +kernel
theorem dX10_decade_84 : decode cX10_decade 84 = .ok (.goto (-45), 3) := by decide +kernel
theorem dX10_decade_87 : decode cX10_decade 87 = .ok (.iconst 0, 1) := by decide +kernel
theorem dX10_decade_88 : decode cX10_decade 88 = .ok (.istore 4, 2) := by decide +kernel
theorem dX10_decade_90 : decode cX10_decade 90 = .ok (.iconst 0, 1) := by decide +kernel
theorem dX10_decade_91 : decode cX10_decade 91 = .ok (.istore 5, 2) := by decide +kernel
theorem dX10_decade_93 : decode cX10_decade 93 = .ok (.iload 5, 2) := by decide +kernel
theorem dX10_decade_95 : decode cX10_decade 95 = .ok (.aload_n 0, 1) := by decide +kernel
theorem dX10_decade_96 : decode cX10_decade 96 = .ok (.getfield 73, 3) := by decide +kernel
