theorem dX9_likely_136 : decode cX9_likely 136 = .ok (.idiv, 1) := by decide +kernel
theorem dX9_likely_137 : decode cX9_likely 137 = .ok (.ireturn, 1) := by decide +kernel
theorem dX9_decade_0 : decode cX9_decade 0 = .ok (.iload_n 1, 1) := by decide +kernel
theorem dX9_decade_1 : decode cX9_decade 1 = .ok (.iconst 0, 1) := by decide +kernel
theorem dX9_decade_2 : decode cX9_decade 2 = .ok (.sipush 9999, 3) := by decide +kernel
theorem dX9_decade_5 : decode cX9_decade 5 = .ok (.invokestatic 112, 3) := by decide +kernel
theorem dX9_decade_8 : decode cX9_decade 8 = .ok (.ifCond .eq 22, 3) := by decide +kernel
theorem dX9_decade_11 : decode cX9_decade 11 = .ok (.iload_n 2, 1) := by decide +kernel
theorem dX9_decade_12 : decode cX9_decade 12 = .ok (.iconst 1, 1) := by decide +kernel
theorem dX9_decade_13 : decode cX9_decade 13 = .ok (.bipush 60, 2) := by decide +kernel
theorem dX9_decade_15 : decode cX9_decade 15 = .ok (.invokestatic 112, 3) := by decide +kernel
theorem dX9_decade_18 : decode cX9_decade 18 = .ok (.ifCond .eq 12, 3) := by decide +kernel
theorem dX9_decade_21 : decode cX9_decade 21 = .ok (.iload_n 3, 1) := by decide +kernel
theorem dX9_decade_22 : decode cX9_decade 22 = .ok (.iconst 0, 1) := by decide +kernel
theorem dX9_decade_23 : decode cX9_decade 23 = .ok (.iconst 2, 1) := by decide +kernel
theorem dX9_decade_24 : decode cX9_decade 24 = .ok (.invokestatic 112, 3) := by decide +kernel
theorem dX9_decade_27 : decode cX9_decade 27 = .ok (.ifCond .ne 5, 3) := by decide +kernel
theorem dX9_decade_30 : decode cX9_decade 30 = .ok (.iconst (-1), 1) := by decide +kernel
theorem dX9_decade_31 : decode cX9_decade 31 = .ok (.ireturn, 1) := by decide +kernel
theorem dX9_decade_32 : decode cX9_decade 32 = .ok (.aload_n 0, 1) := by decide +kernel
theorem dX9_decade_33 : decode cX9_decade 33 = .ok (.getfield 31, 3) := by decide +kernel
theorem dX9_decade_36 : decode cX9_decade 36 = .ok (.aload_n 0, 1) := by decide +kernel
theorem dX9_decade_37 : decode cX9_decade 37 = .ok (.getfield 28, 3) := by decide +kernel
theorem dX9_decade_40 : decode cX9_decade 40 = .ok (.invokevirtual 210, 3) := by decide +kernel
theorem dX9_decade_43 : decode cX9_decade 43 = .ok (.iconst 0, 1) := by decide +kernel
theorem dX9_decade_44 : decode cX9_decade 44 = .ok (.istore 4, 2) := by decide +kernel
theorem dX9_decade_46 : decode cX9_decade 46 = .ok (.iload 4, 2) := by decide +kernel
theorem dX9_decade_48 : decode cX9_decade 48 = .ok (.iload_n 2, 1) := by decide +kernel
theorem dX9_decade_49 : decode cX9_decade 49 = .ok (.if_icmp .ge 29, 3) := by decide +kernel
theorem dX9_decade_52 : decode cX9_decade 52 = .ok (.aload_n 0, 1) := by decide +kernel
theorem dX9_decade_53 : decode cX9_decade 53 = .ok (.getfield 31, 3) := by decide +kernel
theorem dX9_decade_56 : decode cX9_decade 56 = .ok (.iload_n 1, 1) := by decide +kernel
theorem dX9_decade_57 : decode cX9_decade 57 = .ok (.iload 4, 2) := by decide +kernel
theorem dX9_decade_59 : decode cX9_decade 59 = .ok (.invokestatic 275, 3) := by decide +kernel
theorem dX9_decade_62 : decode cX9_decade 62 = .ok (.invokevirtual 278, 3) := by decide +kernel
theorem dX9_decade_65 : decode cX9_decade 65 = .ok (.aload_n 0, 1) := by decide +kernel
theorem dX9_decade_66 : decode cX9_decade 66 = .ok (.getfield 31, 3) := by decide +kernel
theorem dX9_decade_69 : decode cX9_decade 69 = .ok (.invokevirtual 281, 3) := by decide +kernel
theorem dX9_decade_72 : decode cX9_decade 72 = .ok (.iinc 4 1, 3) := by decide +kernel
theorem dX9_decade_75 : decode cX9_decade 75 = .ok (.goto (-29), 3) := by decide +kernel
theorem dX9_decade_78 : decode cX9_decade 78 = .ok (.iload_n 3, 1) := by decide +kernel
theorem dX9_decade_79 : decode cX9_decade 79 = .ok (.lookupswitch 41 #[(0, 25), (1, 33)], 25) := by decide +kernel
theorem dX9_decade_104 : decode cX9_decade 104 = .ok (.aload_n 0, 1) := by decide +kernel
theorem dX9_decade_105 : decode cX9_decade 105 = .ok (.getfield 31, 3) := by decide +kernel
theorem dX9_decade_108 : decode cX9_decade 108 = .ok (.invokevirtual 284, 3) := by decide +kernel
theorem dX9_decade_111 : decode cX9_decade 111 = .ok (.ireturn, 1) := by decide +kernel
theorem dX9_decade_112 : decode cX9_decade 112 = .ok (.aload_n 0, 1) := by decide +kernel
theorem dX9_decade_113 : decode cX9_decade 113 = .ok (.getfield 31, 3) := by decide +kernel
theorem dX9_decade_116 : decode cX9_decade 116 = .ok (.invokevirtual 287, 3) := by decide +kernel
theorem dX9_decade_119 : decode cX9_decade 119 = .ok (.ireturn, 1) := by decide +kernel
theorem dX9_decade_120 : decode cX9_decade 120 = .ok (.aload_n 0, 1) := by decide +kernel
theorem dX9_decade_121 : decode cX9_decade 121 = .ok (.getfield 31, 3) := by decide +kernel
theorem dX9_decade_124 : decode cX9_decade 124 = .ok (.invokevirtual 290, 3) := by decide +kernel
theorem dX9_decade_127 : decode cX9_decade 127 = .ok (.ireturn, 1) := by decide +kernel
theorem dX9_keep_0 : decode cX9_keep 0 = .ok (.aload_n 0, 1) := by decide +kernel
theorem dX9_keep_1 : decode cX9_keep 1 = .ok (.getfield 293, 3) := by decide +kernel
theorem dX9_keep_4 : decode cX9_keep 4 = .ok (.iconst 2, 1) := by decide +kernel
theorem dX9_keep_5 : decode cX9_keep 5 = .ok (.if_icmp .lt 6, 3) := by decide +kernel
theorem dX9_keep_8 : decode cX9_keep 8 = .ok (.bipush (-3), 2) := by decide +kernel
theorem dX9_keep_10 : decode cX9_keep 10 = .ok (.ireturn, 1) := by decide +kernel
theorem dX9_keep_11 : decode cX9_keep 11 = .ok (.aload_n 0, 1) := by decide +kernel
theorem dX9_keep_12 : decode cX9_keep 12 = .ok (.getfield 45, 3) := by decide +kernel
theorem dX9_keep_15 : decode cX9_keep 15 = .ok (.aload_n 0, 1) := by decide +kernel
theorem dX9_keep_16 : decode cX9_keep 16 = .ok (.getfield 293, 3) := by decide +kernel
theorem dX9_keep_19 : decode cX9_keep 19 = .ok (.aaload, 1) := by decide +kernel
theorem dX9_keep_20 : decode cX9_keep 20 = .ok (.aload_n 0, 1) := by decide +kernel
theorem dX9_keep_21 : decode cX9_keep 21 = .ok (.getfield 28, 3) := by decide +kernel
theorem dX9_keep_24 : decode cX9_keep 24 = .ok (.invokevirtual 210, 3) := by decide +kernel
theorem dX9_keep_27 : decode cX9_keep 27 = .ok (.aload_n 0, 1) := by decide +kernel
theorem dX9_keep_28 : decode cX9_keep 28 = .ok (.dup, 1) := by decide +kernel
theorem dX9_keep_29 : decode cX9_keep 29 = .ok (.getfield 293, 3) := by decide +kernel
theorem dX9_keep_32 : decode cX9_keep 32 = .ok (.iconst 1, 1) := by decide +kernel
theorem dX9_keep_33 : decode cX9_keep 33 = .ok (.iadd, 1) := by decide +kernel
theorem dX9_keep_34 : decode cX9_keep 34 = .ok (.putfield 293, 3) := by decide +kernel
theorem dX9_keep_37 : decode cX9_keep 37 = .ok (.aload_n 0, 1) := by decide +kernel
theorem dX9_keep_38 : decode cX9_keep 38 = .ok (.getfield 293, 3) := by decide +kernel
theorem dX9_keep_41 : decode cX9_keep 41 = .ok (.ireturn, 1) := by decide +kernel
theorem dX9_back_0 : decode cX9_back 0 = .ok (.aload_n 0, 1) := by decide +kernel
theorem dX9_back_1 : decode cX9_back 1 = .ok (.getfield 293, 3) := by decide +kernel
theorem dX9_back_4 : decode cX9_back 4 = .ok (.ifCond .gt 6, 3) := by decide +kernel
theorem dX9_back_7 : decode cX9_back 7 = .ok (.bipush (-2), 2) := by decide +kernel
theorem dX9_back_9 : decode cX9_back 9 = .ok (.ireturn, 1) := by decide +kernel
theorem dX9_back_10 : decode cX9_back 10 = .ok (.aload_n 0, 1) := by decide +kernel
theorem dX9_back_11 : decode cX9_back 11 = .ok (.dup, 1) := by decide +kernel
theorem dX9_back_12 : decode cX9_back 12 = .ok (.getfield 293, 3) := by decide +kernel
theorem dX9_back_15 : decode cX9_back 15 = .ok (.iconst 1, 1) := by decide +kernel
theorem dX9_back_16 : decode cX9_back 16 = .ok (.isub, 1) := by decide +kernel
theorem dX9_back_17 : decode cX9_back 17 = .ok (.putfield 293, 3) := by decide +kernel
theorem dX9_back_20 : decode cX9_back 20 = .ok (.aload_n 0, 1) := by decide +kernel
theorem dX9_back_21 : decode cX9_back 21 = .ok (.getfield 28, 3) := by decide +kernel
theorem dX9_back_24 : decode cX9_back 24 = .ok (.aload_n 0, 1) := by decide +kernel
theorem dX9_back_25 : decode cX9_back 25 = .ok (.getfield 45, 3) := by decide +kernel
theorem dX9_back_28 : decode cX9_back 28 = .ok (.aload_n 0, 1) := by decide +kernel
theorem dX9_back_29 : decode cX9_back 29 = .ok (.getfield 293, 3) := by decide +kernel
theorem dX9_back_32 : decode cX9_back 32 = .ok (.aaload, 1) := by decide +kernel
theorem dX9_back_33 : decode cX9_back 33 = .ok (.invokevirtual 210, 3) := by decide +kernel
theorem dX9_back_36 : decode cX9_back 36 = .ok (.aload_n 0, 1) := by decide +kernel
theorem dX9_back_37 : decode cX9_back 37 = .ok (.getfield 37, 3) := by decide +kernel
theorem dX9_back_40 : decode cX9_back 40 = .ok (.invokevirtual 296, 3) := by decide +kernel
theorem dX9_back_43 : decode cX9_back 43 = .ok (.aload_n 0, 1) := by decide +kernel
theorem dX9_back_44 : decode cX9_back 44 = .ok (.getfield 293, 3) := by decide +kernel
theorem dX9_back_47 : decode cX9_back 47 = .ok (.ireturn, 1) := by decide +kernel
theorem dX9_count_0 : decode cX9_count 0 = .ok (.iload_n 1, 1) := by decide +kernel
theorem dX9_count_1 : decode cX9_count 1 = .ok (.tableswitch 156 0 10 #[59, 70, 81, 92, 100, 108, 119, 127, 135, 143, 148], 59) := by decide +kernel
theorem dX9_count_60 : decode cX9_count 60 = .ok (.aload_n 0, 1) := by decide +kernel
theorem dX9_count_61 : decode cX9_count 61 = .ok (.getfield 28, 3) := by decide +kernel
theorem dX9_count_64 : decode cX9_count 64 = .ok (.getfield 119, 3) := by decide +kernel
theorem dX9_count_67 : decode cX9_count 67 = .ok (.getfield 297, 3) := by decide +kernel
theorem dX9_count_70 : decode cX9_count 70 = .ok (.ireturn, 1) := by decide +kernel
theorem dX9_count_71 : decode cX9_count 71 = .ok (.aload_n 0, 1) := by decide +kernel
theorem dX9_count_72 : decode cX9_count 72 = .ok (.getfield 28, 3) := by decide +kernel
theorem dX9_count_75 : decode cX9_count 75 = .ok (.getfield 119, 3) := by decide +kernel
theorem dX9_count_78 : decode cX9_count 78 = .ok (.getfield 123, 3) := by decide +kernel
theorem dX9_count_81 : decode cX9_count 81 = .ok (.ireturn, 1) := by decide +kernel
theorem dX9_count_82 : decode cX9_count 82 = .ok (.aload_n 0, 1) := by decide +kernel
theorem dX9_count_83 : decode cX9_count 83 = .ok (.getfield 28, 3) := by decide +kernel
theorem dX9_count_86 : decode cX9_count 86 = .ok (.getfield 119, 3) := by decide +kernel
theorem dX9_count_89 : decode cX9_count 89 = .ok (.getfield 164, 3) := by decide +kernel
theorem dX9_count_92 : decode cX9_count 92 = .ok (.ireturn, 1) := by decide +kernel
theorem dX9_count_93 : decode cX9_count 93 = .ok (.aload_n 0, 1) := by decide +kernel
theorem dX9_count_94 : decode cX9_count 94 = .ok (.getfield 28, 3) := by decide +kernel
theorem dX9_count_97 : decode cX9_count 97 = .ok (.getfield 180, 3) := by decide +kernel
theorem dX9_count_100 : decode cX9_count 100 = .ok (.ireturn, 1) := by decide +kernel
theorem dX9_count_101 : decode cX9_count 101 = .ok (.aload_n 0, 1) := by decide +kernel
theorem dX9_count_102 : decode cX9_count 102 = .ok (.getfield 28, 3) := by decide +kernel
theorem dX9_count_105 : decode cX9_count 105 = .ok (.invokevirtual 284, 3) := by decide +kernel
theorem dX9_count_108 : decode cX9_count 108 = .ok (.ireturn, 1) := by decide +kernel
theorem dX9_count_109 : decode cX9_count 109 = .ok (.aload_n 0, 1) := by decide +kernel
theorem dX9_count_110 : decode cX9_count 110 = .ok (.getfield 28, 3) := by decide +kernel
theorem dX9_count_113 : decode cX9_count 113 = .ok (.invokevirtual 253, 3) := by decide +kernel
theorem dX9_count_116 : decode cX9_count 116 = .ok (.invokestatic 264, 3) := by decide +kernel
theorem dX9_count_119 : decode cX9_count 119 = .ok (.ireturn, 1) := by decide +kernel
theorem dX9_count_120 : decode cX9_count 120 = .ok (.aload_n 0, 1) := by decide +kernel
theorem dX9_count_121 : decode cX9_count 121 = .ok (.getfield 28, 3) := by decide +kernel
theorem dX9_count_124 : decode cX9_count 124 = .ok (.invokevirtual 287, 3) := by decide +kernel
theorem dX9_count_127 : decode cX9_count 127 = .ok (.ireturn, 1) := by decide +kernel
theorem dX9_count_128 : decode cX9_count 128 = .ok (.aload_n 0, 1) := by decide +kernel
theorem dX9_count_129 : decode cX9_count 129 = .ok (.getfield 52, 3) := by decide +kernel
theorem dX9_count_132 : decode cX9_count 132 = .ok (.getfield 247, 3) := by decide +kernel
theorem dX9_count_135 : decode cX9_count 135 = .ok (.ireturn, 1) := by decide +kernel
theorem dX9_count_136 : decode cX9_count 136 = .ok (.aload_n 0, 1) := by decide +kernel
theorem dX9_count_137 : decode cX9_count 137 = .ok (.getfield 37, 3) := by decide +kernel
theorem dX9_count_140 : decode cX9_count 140 = .ok (.getfield 204, 3) := by decide +kernel
theorem dX9_count_143 : decode cX9_count 143 = .ok (.ireturn, 1) := by decide +kernel
theorem dX9_count_144 : decode cX9_count 144 = .ok (.aload_n 0, 1) := by decide +kernel
theorem dX9_count_145 : decode cX9_count 145 = .ok (.getfield 293, 3) := by decide +kernel
theorem dX9_count_148 : decode cX9_count 148 = .ok (.ireturn, 1) := by decide +kernel
theorem dX9_count_149 : decode cX9_count 149 = .ok (.aload_n 0, 1) := by decide +kernel
theorem dX9_count_150 : decode cX9_count 150 = .ok (.getfield 10, 3) := by decide +kernel
theorem dX9_count_153 : decode cX9_count 153 = .ok (.getfield 116, 3) := by decide +kernel
theorem dX9_count_156 : decode cX9_count 156 = .ok (.ireturn, 1) := by decide +kernel
theorem dX9_count_157 : decode cX9_count 157 = .ok (.iconst (-1), 1) := by decide +kernel
theorem dX9_count_158 : decode cX9_count 158 = .ok (.ireturn, 1) := by decide +kernel
theorem dX9_isPerson_0 : decode cX9_isPerson 0 = .ok (.iload_n 1, 1) := by decide +kernel
theorem dX9_isPerson_1 : decode cX9_isPerson 1 = .ok (.iconst 0, 1) := by decide +kernel
theorem dX9_isPerson_2 : decode cX9_isPerson 2 = .ok (.aload_n 0, 1) := by decide +kernel
theorem dX9_isPerson_3 : decode cX9_isPerson 3 = .ok (.getfield 28, 3) := by decide +kernel
theorem dX9_isPerson_6 : decode cX9_isPerson 6 = .ok (.getfield 119, 3) := by decide +kernel
theorem dX9_isPerson_9 : decode cX9_isPerson 9 = .ok (.getfield 123, 3) := by decide +kernel
theorem dX9_isPerson_12 : decode cX9_isPerson 12 = .ok (.iconst 1, 1) := by decide +kernel
theorem dX9_isPerson_13 : decode cX9_isPerson 13 = .ok (.isub, 1) := by decide +kernel
theorem dX9_isPerson_14 : decode cX9_isPerson 14 = .ok (.invokestatic 112, 3) := by decide +kernel
theorem dX9_isPerson_17 : decode cX9_isPerson 17 = .ok (.ireturn, 1) := by decide +kernel
theorem dX9_isStep_0 : decode cX9_isStep 0 = .ok (.iload_n 1, 1) := by decide +kernel
theorem dX9_isStep_1 : decode cX9_isStep 1 = .ok (.iconst 0, 1) := by decide +kernel
theorem dX9_isStep_2 : decode cX9_isStep 2 = .ok (.aload_n 0, 1) := by decide +kernel
theorem dX9_isStep_3 : decode cX9_isStep 3 = .ok (.getfield 28, 3) := by decide +kernel
theorem dX9_isStep_6 : decode cX9_isStep 6 = .ok (.getfield 119, 3) := by decide +kernel
theorem dX9_isStep_9 : decode cX9_isStep 9 = .ok (.getfield 297, 3) := by decide +kernel
theorem dX9_isStep_12 : decode cX9_isStep 12 = .ok (.iconst 1, 1) := by decide +kernel
theorem dX9_isStep_13 : decode cX9_isStep 13 = .ok (.isub, 1) := by decide +kernel
theorem dX9_isStep_14 : decode cX9_isStep 14 = .ok (.invokestatic 112, 3) := by decide +kernel
theorem dX9_isStep_17 : decode cX9_isStep 17 = .ok (.ireturn, 1) := by decide +kernel
theorem dX9_takeDraft_0 : decode cX9_takeDraft 0 = .ok (.aload_n 0, 1) := by decide +kernel
theorem dX9_takeDraft_1 : decode cX9_takeDraft 1 = .ok (.getfield 28, 3) := by decide +kernel
theorem dX9_takeDraft_4 : decode cX9_takeDraft 4 = .ok (.getfield 119, 3) := by decide +kernel
theorem dX9_takeDraft_7 : decode cX9_takeDraft 7 = .ok (.aload_n 0, 1) := by decide +kernel
theorem dX9_takeDraft_8 : decode cX9_takeDraft 8 = .ok (.getfield 24, 3) := by decide +kernel
theorem dX9_takeDraft_11 : decode cX9_takeDraft 11 = .ok (.getfield 119, 3) := by decide +kernel
theorem dX9_takeDraft_14 : decode cX9_takeDraft 14 = .ok (.invokevirtual 300, 3) := by decide +kernel
theorem dX9_takeDraft_17 : decode cX9_takeDraft 17 = .ok (.aload_n 0, 1) := by decide +kernel
theorem dX9_takeDraft_18 : decode cX9_takeDraft 18 = .ok (.getfield 28, 3) := by decide +kernel
theorem dX9_takeDraft_21 : decode cX9_takeDraft 21 = .ok (.aload_n 0, 1) := by decide +kernel
theorem dX9_takeDraft_22 : decode cX9_takeDraft 22 = .ok (.getfield 24, 3) := by decide +kernel
theorem dX9_takeDraft_25 : decode cX9_takeDraft 25 = .ok (.invokevirtual 210, 3) := by decide +kernel
theorem dX9_takeDraft_28 : decode cX9_takeDraft 28 = .ok (.aload_n 0, 1) := by decide +kernel
theorem dX9_takeDraft_29 : decode cX9_takeDraft 29 = .ok (.getfield 37, 3) := by decide +kernel
theorem dX9_takeDraft_32 : decode cX9_takeDraft 32 = .ok (.invokevirtual 296, 3) := by decide +kernel
theorem dX9_takeDraft_35 : decode cX9_takeDraft 35 = .ok (.aload_n 0, 1) := by decide +kernel
theorem dX9_takeDraft_36 : decode cX9_takeDraft 36 = .ok (.getfield 52, 3) := by decide +kernel
theorem dX9_takeDraft_39 : decode cX9_takeDraft 39 = .ok (.invokevirtual 248, 3) := by decide +kernel
theorem dX9_takeDraft_42 : decode cX9_takeDraft 42 = .ok (.aload_n 0, 1) := by decide +kernel
theorem dX9_takeDraft_43 : decode cX9_takeDraft 43 = .ok (.iconst 0, 1) := by decide +kernel
theorem dX9_takeDraft_44 : decode cX9_takeDraft 44 = .ok (.putfield 293, 3) := by decide +kernel
theorem dX9_takeDraft_47 : decode cX9_takeDraft 47 = .ok (.return_, 1) := by decide +kernel
theorem dX9_doneIfTheseFall_0 : decode cX9_doneIfTheseFall 0 = .ok (.aload_n 0, 1) := by decide +kernel
theorem dX9_doneIfTheseFall_1 : decode cX9_doneIfTheseFall 1 = .ok (.getfield 31, 3) := by decide +kernel
theorem dX9_doneIfTheseFall_4 : decode cX9_doneIfTheseFall 4 = .ok (.aload_n 0, 1) := by decide +kernel
theorem dX9_doneIfTheseFall_5 : decode cX9_doneIfTheseFall 5 = .ok (.getfield 28, 3) := by decide +kernel
theorem dX9_doneIfTheseFall_8 : decode cX9_doneIfTheseFall 8 = .ok (.invokevirtual 210, 3) := by decide +kernel
theorem dX9_doneIfTheseFall_11 : decode cX9_doneIfTheseFall 11 = .ok (.iconst 0, 1) := by decide +kernel
theorem dX9_doneIfTheseFall_12 : decode cX9_doneIfTheseFall 12 = .ok (.istore_n 2, 1) := by decide +kernel
theorem dX9_doneIfTheseFall_13 : decode cX9_doneIfTheseFall 13 = .ok (.iload_n 2, 1) := by decide +kernel
theorem dX9_doneIfTheseFall_14 : decode cX9_doneIfTheseFall 14 = .ok (.aload_n 0, 1) := by decide +kernel
theorem dX9_doneIfTheseFall_15 : decode cX9_doneIfTheseFall 15 = .ok (.getfield 31, 3) := by decide +kernel
theorem dX9_doneIfTheseFall_18 : decode cX9_doneIfTheseFall 18 = .ok (.getfield 119, 3) := by decide +kernel
theorem dX9_doneIfTheseFall_21 : decode cX9_doneIfTheseFall 21 = .ok (.getfield 123, 3) := by decide +kernel
theorem dX9_doneIfTheseFall_24 : decode cX9_doneIfTheseFall 24 = .ok (.if_icmp .ge 27, 3) := by decide +kernel
theorem dX9_doneIfTheseFall_27 : decode cX9_doneIfTheseFall 27 = .ok (.iload_n 1, 1) := by decide +kernel
theorem dX9_doneIfTheseFall_28 : decode cX9_doneIfTheseFall 28 = .ok (.iload_n 2, 1) := by decide +kernel
theorem dX9_doneIfTheseFall_29 : decode cX9_doneIfTheseFall 29 = .ok (.invokestatic 303, 3) := by decide +kernel
theorem dX9_doneIfTheseFall_32 : decode cX9_doneIfTheseFall 32 = .ok (.ifCond .eq 13, 3) := by decide +kernel
theorem dX9_doneIfTheseFall_35 : decode cX9_doneIfTheseFall 35 = .ok (.aload_n 0, 1) := by decide +kernel
theorem dX9_doneIfTheseFall_36 : decode cX9_doneIfTheseFall 36 = .ok (.getfield 31, 3) := by decide +kernel
theorem dX9_doneIfTheseFall_39 : decode cX9_doneIfTheseFall 39 = .ok (.getfield 154, 3) := by decide +kernel
theorem dX9_doneIfTheseFall_42 : decode cX9_doneIfTheseFall 42 = .ok (.iload_n 2, 1) := by decide +kernel
theorem dX9_doneIfTheseFall_43 : decode cX9_doneIfTheseFall 43 = .ok (.iconst 1, 1) := by decide +kernel
theorem dX9_doneIfTheseFall_44 : decode cX9_doneIfTheseFall 44 = .ok (.bastore, 1) := by decide +kernel
theorem dX9_doneIfTheseFall_45 : decode cX9_doneIfTheseFall 45 = .ok (.iinc 2 1, 3) := by decide +kernel
theorem dX9_doneIfTheseFall_48 : decode cX9_doneIfTheseFall 48 = .ok (.goto (-35), 3) := by decide +kernel
theorem dX9_doneIfTheseFall_51 : decode cX9_doneIfTheseFall 51 = .ok (.aload_n 0, 1) := by decide +kernel
theorem dX9_doneIfTheseFall_52 : decode cX9_doneIfTheseFall 52 = .ok (.getfield 31, 3) := by decide +kernel
theorem dX9_doneIfTheseFall_55 : decode cX9_doneIfTheseFall 55 = .ok (.invokevirtual 287, 3) := by decide +kernel
theorem dX9_doneIfTheseFall_58 : decode cX9_doneIfTheseFall 58 = .ok (.ireturn, 1) := by decide +kernel
theorem dX9_waysOfTen_0 : decode cX9_waysOfTen 0 = .ok (.iload_n 1, 1) := by decide +kernel
theorem dX9_waysOfTen_1 : decode cX9_waysOfTen 1 = .ok (.invokestatic 264, 3) := by decide +kernel
theorem dX9_waysOfTen_4 : decode cX9_waysOfTen 4 = .ok (.istore_n 3, 1) := by decide +kernel
theorem dX9_waysOfTen_5 : decode cX9_waysOfTen 5 = .ok (.iload_n 0, 1) := by decide +kernel
theorem dX9_waysOfTen_6 : decode cX9_waysOfTen 6 = .ok (.invokestatic 264, 3) := by decide +kernel
theorem dX9_waysOfTen_9 : decode cX9_waysOfTen 9 = .ok (.iload_n 3, 1) := by decide +kernel
theorem dX9_waysOfTen_10 : decode cX9_waysOfTen 10 = .ok (.isub, 1) := by decide +kernel
theorem dX9_waysOfTen_11 : decode cX9_waysOfTen 11 = .ok (.istore 4, 2) := by decide +kernel
theorem dX9_waysOfTen_13 : decode cX9_waysOfTen 13 = .ok (.iload_n 2, 1) := by decide +kernel
theorem dX9_waysOfTen_14 : decode cX9_waysOfTen 14 = .ok (.iload_n 3, 1) := by decide +kernel
theorem dX9_waysOfTen_15 : decode cX9_waysOfTen 15 = .ok (.invokestatic 269, 3) := by decide +kernel
theorem dX9_waysOfTen_18 : decode cX9_waysOfTen 18 = .ok (.bipush 10, 2) := by decide +kernel
theorem dX9_waysOfTen_20 : decode cX9_waysOfTen 20 = .ok (.iload_n 2, 1) := by decide +kernel
theorem dX9_waysOfTen_21 : decode cX9_waysOfTen 21 = .ok (.isub, 1) := by decide +kernel
theorem dX9_waysOfTen_22 : decode cX9_waysOfTen 22 = .ok (.iload 4, 2) := by decide +kernel
theorem dX9_waysOfTen_24 : decode cX9_waysOfTen 24 = .ok (.invokestatic 269, 3) := by decide +kernel
theorem dX9_waysOfTen_27 : decode cX9_waysOfTen 27 = .ok (.imul, 1) := by decide +kernel
theorem dX9_waysOfTen_28 : decode cX9_waysOfTen 28 = .ok (.ireturn, 1) := by decide +kernel
theorem dX9_power_0 : decode cX9_power 0 = .ok (.iconst 1, 1) := by decide +kernel
theorem dX9_power_1 : decode cX9_power 1 = .ok (.istore_n 2, 1) := by decide +kernel
theorem dX9_power_2 : decode cX9_power 2 = .ok (.iconst 0, 1) := by decide +kernel
theorem dX9_power_3 : decode cX9_power 3 = .ok (.istore_n 3, 1) := by decide +kernel
theorem dX9_power_4 : decode cX9_power 4 = .ok (.iload_n 3, 1) := by decide +kernel
theorem dX9_power_5 : decode cX9_power 5 = .ok (.iload_n 1, 1) := by decide +kernel
theorem dX9_power_6 : decode cX9_power 6 = .ok (.if_icmp .ge 13, 3) := by decide +kernel
theorem dX9_power_9 : decode cX9_power 9 = .ok (.iload_n 2, 1) := by decide +kernel
theorem dX9_power_10 : decode cX9_power 10 = .ok (.iload_n 0, 1) := by decide +kernel
theorem dX9_power_11 : decode cX9_power 11 = .ok (.imul, 1) := by decide +kernel
theorem dX9_power_12 : decode cX9_power 12 = .ok (.istore_n 2, 1) := by decide +kernel
theorem dX9_power_13 : decode cX9_power 13 = .ok (.iinc 3 1, 3) := by decide +kernel
theorem dX9_power_16 : decode cX9_power 16 = .ok (.goto (-12), 3) := by decide +kernel
theorem dX9_power_19 : decode cX9_power 19 = .ok (.iload_n 2, 1) := by decide +kernel
theorem dX9_power_20 : decode cX9_power 20 = .ok (.ireturn, 1) := by decide +kernel
theorem dX9_commonDivisor_0 : decode cX9_commonDivisor 0 = .ok (.iconst 0, 1) := by decide +kernel
theorem dX9_commonDivisor_1 : decode cX9_commonDivisor 1 = .ok (.istore_n 2, 1) := by decide +kernel
theorem dX9_commonDivisor_2 : decode cX9_commonDivisor 2 = .ok (.iload_n 2, 1) := by decide +kernel
theorem dX9_commonDivisor_3 : decode cX9_commonDivisor 3 = .ok (.bipush 100, 2) := by decide +kernel
theorem dX9_commonDivisor_5 : decode cX9_commonDivisor 5 = .ok (.if_icmp .ge 21, 3) := by decide +kernel
theorem dX9_commonDivisor_8 : decode cX9_commonDivisor 8 = .ok (.iload_n 1, 1) := by decide +kernel
theorem dX9_commonDivisor_9 : decode cX9_commonDivisor 9 = .ok (.ifCond .eq 17, 3) := by decide +kernel
theorem dX9_commonDivisor_12 : decode cX9_commonDivisor 12 = .ok (.iload_n 0, 1) := by decide +kernel
theorem dX9_commonDivisor_13 : decode cX9_commonDivisor 13 = .ok (.iload_n 1, 1) := by decide +kernel
theorem dX9_commonDivisor_14 : decode cX9_commonDivisor 14 = .ok (.irem, 1) := by decide +kernel
theorem dX9_commonDivisor_15 : decode cX9_commonDivisor 15 = .ok (.istore_n 3, 1) := by decide +kernel
theorem dX9_commonDivisor_16 : decode cX9_commonDivisor 16 = .ok (.iload_n 1, 1) := by decide +kernel
theorem dX9_commonDivisor_17 : decode cX9_commonDivisor 17 = .ok (.istore_n 0, 1) := by decide +kernel
theorem dX9_commonDivisor_18 : decode cX9_commonDivisor 18 = .ok (.iload_n 3, 1) := by decide +kernel
theorem dX9_commonDivisor_19 : decode cX9_commonDivisor 19 = .ok (.istore_n 1, 1) := by decide +kernel
theorem dX9_commonDivisor_20 : decode cX9_commonDivisor 20 = .ok (.iinc 2 1, 3) := by decide +kernel
theorem dX9_commonDivisor_23 : decode cX9_commonDivisor 23 = .ok (.goto (-21), 3) := by decide +kernel
theorem dX9_commonDivisor_26 : decode cX9_commonDivisor 26 = .ok (.iload_n 0, 1) := by decide +kernel
theorem dX9_commonDivisor_27 : decode cX9_commonDivisor 27 = .ok (.ireturn, 1) := by decide +kernel
theorem dX9_drawOf_0 : decode cX9_drawOf 0 = .ok (.ldc2_w 306, 3) := by decide +kernel
theorem dX9_drawOf_3 : decode cX9_drawOf 3 = .ok (.iload_n 0, 1) := by decide +kernel
theorem dX9_drawOf_4 : decode cX9_drawOf 4 = .ok (.i2l, 1) := by decide +kernel
theorem dX9_drawOf_5 : decode cX9_drawOf 5 = .ok (.lmul, 1) := by decide +kernel
theorem dX9_drawOf_6 : decode cX9_drawOf 6 = .ok (.ldc2_w 308, 3) := by decide +kernel
theorem dX9_drawOf_9 : decode cX9_drawOf 9 = .ok (.iload_n 1, 1) := by decide +kernel
theorem dX9_drawOf_10 : decode cX9_drawOf 10 = .ok (.i2l, 1) := by decide +kernel
theorem dX9_drawOf_11 : decode cX9_drawOf 11 = .ok (.lmul, 1) := by decide +kernel
theorem dX9_drawOf_12 : decode cX9_drawOf 12 = .ok (.ladd, 1) := by decide +kernel
theorem dX9_drawOf_13 : decode cX9_drawOf 13 = .ok (.lconst 1, 1) := by decide +kernel
theorem dX9_drawOf_14 : decode cX9_drawOf 14 = .ok (.ladd, 1) := by decide +kernel
theorem dX9_drawOf_15 : decode cX9_drawOf 15 = .ok (.lstore_n 2, 1) := by decide +kernel
theorem dX9_drawOf_16 : decode cX9_drawOf 16 = .ok (.lload_n 2, 1) := by decide +kernel
theorem dX9_drawOf_17 : decode cX9_drawOf 17 = .ok (.lload_n 2, 1) := by decide +kernel
theorem dX9_drawOf_18 : decode cX9_drawOf 18 = .ok (.lmul, 1) := by decide +kernel
theorem dX9_drawOf_19 : decode cX9_drawOf 19 = .ok (.ldc2_w 310, 3) := by decide +kernel
theorem dX9_drawOf_22 : decode cX9_drawOf 22 = .ok (.lrem, 1) := by decide +kernel
theorem dX9_drawOf_23 : decode cX9_drawOf 23 = .ok (.ldc2_w 312, 3) := by decide +kernel
theorem dX9_drawOf_26 : decode cX9_drawOf 26 = .ok (.ldiv, 1) := by decide +kernel
theorem dX9_drawOf_27 : decode cX9_drawOf 27 = .ok (.l2i, 1) := by decide +kernel
theorem dX9_drawOf_28 : decode cX9_drawOf 28 = .ok (.ireturn, 1) := by decide +kernel
theorem dX9_within_0 : decode cX9_within 0 = .ok (.iload_n 0, 1) := by decide +kernel
theorem dX9_within_1 : decode cX9_within 1 = .ok (.iload_n 1, 1) := by decide +kernel
theorem dX9_within_2 : decode cX9_within 2 = .ok (.if_icmp .lt 12, 3) := by decide +kernel
theorem dX9_within_5 : decode cX9_within 5 = .ok (.iload_n 0, 1) := by decide +kernel
theorem dX9_within_6 : decode cX9_within 6 = .ok (.iload_n 2, 1) := by decide +kernel
theorem dX9_within_7 : decode cX9_within 7 = .ok (.if_icmp .gt 7, 3) := by decide +kernel
theorem dX9_within_10 : decode cX9_within 10 = .ok (.iconst 1, 1) := by decide +kernel
theorem dX9_within_11 : decode cX9_within 11 = .ok (.goto 4, 3) := by decide +kernel
theorem dX9_within_14 : decode cX9_within 14 = .ok (.iconst 0, 1) := by decide +kernel
theorem dX9_within_15 : decode cX9_within 15 = .ok (.ireturn, 1) := by decide +kernel
theorem dX9_asNumber_0 : decode cX9_asNumber 0 = .ok (.iload_n 0, 1) := by decide +kernel
theorem dX9_asNumber_1 : decode cX9_asNumber 1 = .ok (.ifCond .eq 7, 3) := by decide +kernel
theorem dX9_asNumber_4 : decode cX9_asNumber 4 = .ok (.iconst 1, 1) := by decide +kernel
theorem dX9_asNumber_5 : decode cX9_asNumber 5 = .ok (.goto 4, 3) := by decide +kernel
theorem dX9_asNumber_8 : decode cX9_asNumber 8 = .ok (.iconst 0, 1) := by decide +kernel
theorem dX9_asNumber_9 : decode cX9_asNumber 9 = .ok (.ireturn, 1) := by decide +kernel
theorem dX9_hasBit_0 : decode cX9_hasBit 0 = .ok (.iload_n 0, 1) := by decide +kernel
theorem dX9_hasBit_1 : decode cX9_hasBit 1 = .ok (.iload_n 1, 1) := by decide +kernel
theorem dX9_hasBit_2 : decode cX9_hasBit 2 = .ok (.ishr, 1) := by decide +kernel
theorem dX9_hasBit_3 : decode cX9_hasBit 3 = .ok (.iconst 1, 1) := by decide +kernel
theorem dX9_hasBit_4 : decode cX9_hasBit 4 = .ok (.iand, 1) := by decide +kernel
theorem dX9_hasBit_5 : decode cX9_hasBit 5 = .ok (.iconst 1, 1) := by decide +kernel
theorem dX9_hasBit_6 : decode cX9_hasBit 6 = .ok (.if_icmp .ne 7, 3) := by decide +kernel
theorem dX9_hasBit_9 : decode cX9_hasBit 9 = .ok (.iconst 1, 1) := by decide +kernel
theorem dX9_hasBit_10 : decode cX9_hasBit 10 = .ok (.goto 4, 3) := by decide +kernel
theorem dX9_hasBit_13 : decode cX9_hasBit 13 = .ok (.iconst 0, 1) := by decide +kernel
theorem dX9_hasBit_14 : decode cX9_hasBit 14 = .ok (.ireturn, 1) := by decide +kernel
theorem dX9_towersOf_0 : decode cX9_towersOf 0 = .ok (.iload_n 1, 1) := by decide +kernel
theorem dX9_towersOf_1 : decode cX9_towersOf 1 = .ok (.iconst 0, 1) := by decide +kernel
theorem dX9_towersOf_2 : decode cX9_towersOf 2 = .ok (.invokestatic 314, 3) := by decide +kernel
theorem dX9_towersOf_5 : decode cX9_towersOf 5 = .ok (.anewarray 16, 3) := by decide +kernel
theorem dX9_towersOf_8 : decode cX9_towersOf 8 = .ok (.astore_n 2, 1) := by decide +kernel
theorem dX9_towersOf_9 : decode cX9_towersOf 9 = .ok (.iconst 0, 1) := by decide +kernel
theorem dX9_towersOf_10 : decode cX9_towersOf 10 = .ok (.istore_n 3, 1) := by decide +kernel
theorem dX9_towersOf_11 : decode cX9_towersOf 11 = .ok (.iload_n 3, 1) := by decide +kernel
theorem dX9_towersOf_12 : decode cX9_towersOf 12 = .ok (.aload_n 2, 1) := by decide +kernel
theorem dX9_towersOf_13 : decode cX9_towersOf 13 = .ok (.arraylength, 1) := by decide +kernel
theorem dX9_towersOf_14 : decode cX9_towersOf 14 = .ok (.if_icmp .ge 20, 3) := by decide +kernel
theorem dX9_towersOf_17 : decode cX9_towersOf 17 = .ok (.aload_n 2, 1) := by decide +kernel
theorem dX9_towersOf_18 : decode cX9_towersOf 18 = .ok (.iload_n 3, 1) := by decide +kernel
theorem dX9_towersOf_19 : decode cX9_towersOf 19 = .ok (.new 16, 3) := by decide +kernel
theorem dX9_towersOf_22 : decode cX9_towersOf 22 = .ok (.dup, 1) := by decide +kernel
theorem dX9_towersOf_23 : decode cX9_towersOf 23 = .ok (.aload_n 0, 1) := by decide +kernel
theorem dX9_towersOf_24 : decode cX9_towersOf 24 = .ok (.invokespecial 21, 3) := by decide +kernel
theorem dX9_towersOf_27 : decode cX9_towersOf 27 = .ok (.aastore, 1) := by decide +kernel
theorem dX9_towersOf_28 : decode cX9_towersOf 28 = .ok (.iinc 3 1, 3) := by decide +kernel
theorem dX9_towersOf_31 : decode cX9_towersOf 31 = .ok (.goto (-20), 3) := by decide +kernel
theorem dX9_towersOf_34 : decode cX9_towersOf 34 = .ok (.aload_n 2, 1) := by decide +kernel
theorem dX9_towersOf_35 : decode cX9_towersOf 35 = .ok (.areturn, 1) := by decide +kernel
theorem dX10_init_0 : decode cX10_init 0 = .ok (.aload_n 0, 1) := by decide +kernel
theorem dX10_init_1 : decode cX10_init 1 = .ok (.invokespecial 1, 3) := by decide +kernel
theorem dX10_init_4 : decode cX10_init 4 = .ok (.aload_n 0, 1) := by decide +kernel
theorem dX10_init_5 : decode cX10_init 5 = .ok (.bipush 6, 2) := by decide +kernel
theorem dX10_init_7 : decode cX10_init 7 = .ok (.newarray .int, 2) := by decide +kernel
theorem dX10_init_9 : decode cX10_init 9 = .ok (.putfield 7, 3) := by decide +kernel
theorem dX10_init_12 : decode cX10_init 12 = .ok (.aload_n 0, 1) := by decide +kernel
theorem dX10_init_13 : decode cX10_init 13 = .ok (.bipush 10, 2) := by decide +kernel
theorem dX10_init_15 : decode cX10_init 15 = .ok (.newarray .int, 2) := by decide +kernel
theorem dX10_init_17 : decode cX10_init 17 = .ok (.putfield 13, 3) := by decide +kernel
theorem dX10_init_20 : decode cX10_init 20 = .ok (.aload_n 0, 1) := by decide +kernel
theorem dX10_init_21 : decode cX10_init 21 = .ok (.bipush 21, 2) := by decide +kernel
theorem dX10_init_23 : decode cX10_init 23 = .ok (.newarray .int, 2) := by decide +kernel
theorem dX10_init_25 : decode cX10_init 25 = .ok (.putfield 16, 3) := by decide +kernel
theorem dX10_init_28 : decode cX10_init 28 = .ok (.aload_n 0, 1) := by decide +kernel
theorem dX10_init_29 : decode cX10_init 29 = .ok (.sipush 168, 3) := by decide +kernel
theorem dX10_init_32 : decode cX10_init 32 = .ok (.newarray .int, 2) := by decide +kernel
theorem dX10_init_34 : decode cX10_init 34 = .ok (.putfield 19, 3) := by decide +kernel
theorem dX10_init_37 : decode cX10_init 37 = .ok (.aload_n 0, 1) := by decide +kernel
theorem dX10_init_38 : decode cX10_init 38 = .ok (.bipush 42, 2) := by decide +kernel
theorem dX10_init_40 : decode cX10_init 40 = .ok (.newarray .int, 2) := by decide +kernel
theorem dX10_init_42 : decode cX10_init 42 = .ok (.putfield 22, 3) := by decide +kernel
theorem dX10_init_45 : decode cX10_init 45 = .ok (.aload_n 0, 1) := by decide +kernel
theorem dX10_init_46 : decode cX10_init 46 = .ok (.bipush 18, 2) := by decide +kernel
theorem dX10_init_48 : decode cX10_init 48 = .ok (.newarray .int, 2) := by decide +kernel
theorem dX10_init_50 : decode cX10_init 50 = .ok (.putfield 25, 3) := by decide +kernel
theorem dX10_init_53 : decode cX10_init 53 = .ok (.aload_n 0, 1) := by decide +kernel
theorem dX10_init_54 : decode cX10_init 54 = .ok (.sipush 200, 3) := by decide +kernel
theorem dX10_init_57 : decode cX10_init 57 = .ok (.newarray .int, 2) := by decide +kernel
theorem dX10_init_59 : decode cX10_init 59 = .ok (.putfield 28, 3) := by decide +kernel
theorem dX10_init_62 : decode cX10_init 62 = .ok (.aload_n 0, 1) := by decide +kernel
theorem dX10_init_63 : decode cX10_init 63 = .ok (.iconst 4, 1) := by decide +kernel
theorem dX10_init_64 : decode cX10_init 64 = .ok (.newarray .int, 2) := by decide +kernel
theorem dX10_init_66 : decode cX10_init 66 = .ok (.putfield 31, 3) := by decide +kernel
theorem dX10_init_69 : decode cX10_init 69 = .ok (.aload_n 0, 1) := by decide +kernel
theorem dX10_init_70 : decode cX10_init 70 = .ok (.bipush 6, 2) := by decide +kernel
theorem dX10_init_72 : decode cX10_init 72 = .ok (.newarray .int, 2) := by decide +kernel
theorem dX10_init_74 : decode cX10_init 74 = .ok (.putfield 34, 3) := by decide +kernel
theorem dX10_init_77 : decode cX10_init 77 = .ok (.aload_n 0, 1) := by decide +kernel
theorem dX10_init_78 : decode cX10_init 78 = .ok (.bipush 21, 2) := by decide +kernel
theorem dX10_init_80 : decode cX10_init 80 = .ok (.newarray .int, 2) := by decide +kernel
theorem dX10_init_82 : decode cX10_init 82 = .ok (.putfield 37, 3) := by decide +kernel
theorem dX10_init_85 : decode cX10_init 85 = .ok (.aload_n 0, 1) := by decide +kernel
theorem dX10_init_86 : decode cX10_init 86 = .ok (.bipush 10, 2) := by decide +kernel
theorem dX10_init_88 : decode cX10_init 88 = .ok (.newarray .int, 2) := by decide +kernel
theorem dX10_init_90 : decode cX10_init 90 = .ok (.putfield 40, 3) := by decide +kernel
theorem dX10_init_93 : decode cX10_init 93 = .ok (.aload_n 0, 1) := by decide +kernel
theorem dX10_init_94 : decode cX10_init 94 = .ok (.bipush 21, 2) := by decide +kernel
theorem dX10_init_96 : decode cX10_init 96 = .ok (.newarray .int, 2) := by decide +kernel
theorem dX10_init_98 : decode cX10_init 98 = .ok (.putfield 43, 3) := by decide +kernel
theorem dX10_init_101 : decode cX10_init 101 = .ok (.aload_n 0, 1) := by decide +kernel
theorem dX10_init_102 : decode cX10_init 102 = .ok (.bipush 6, 2) := by decide +kernel
theorem dX10_init_104 : decode cX10_init 104 = .ok (.newarray .int, 2) := by decide +kernel
theorem dX10_init_106 : decode cX10_init 106 = .ok (.putfield 46, 3) := by decide +kernel
theorem dX10_init_109 : decode cX10_init 109 = .ok (.aload_n 0, 1) := by decide +kernel
theorem dX10_init_110 : decode cX10_init 110 = .ok (.bipush 6, 2) := by decide +kernel
theorem dX10_init_112 : decode cX10_init 112 = .ok (.newarray .int, 2) := by decide +kernel
theorem dX10_init_114 : decode cX10_init 114 = .ok (.putfield 49, 3) := by decide +kernel
theorem dX10_init_117 : decode cX10_init 117 = .ok (.aload_n 0, 1) := by decide +kernel
theorem dX10_init_118 : decode cX10_init 118 = .ok (.invokevirtual 52, 3) := by decide +kernel
theorem dX10_init_121 : decode cX10_init 121 = .ok (.aload_n 0, 1) := by decide +kernel
theorem dX10_init_122 : decode cX10_init 122 = .ok (.iconst 0, 1) := by decide +kernel
theorem dX10_init_123 : decode cX10_init 123 = .ok (.iconst 5, 1) := by decide +kernel
theorem dX10_init_124 : decode cX10_init 124 = .ok (.bipush 12, 2) := by decide +kernel
theorem dX10_init_126 : decode cX10_init 126 = .ok (.bipush 8, 2) := by decide +kernel
theorem dX10_init_128 : decode cX10_init 128 = .ok (.invokevirtual 55, 3) := by decide +kernel
theorem dX10_init_131 : decode cX10_init 131 = .ok (.aload_n 0, 1) := by decide +kernel
theorem dX10_init_132 : decode cX10_init 132 = .ok (.iconst 1, 1) := by decide +kernel
theorem dX10_init_133 : decode cX10_init 133 = .ok (.iconst 3, 1) := by decide +kernel
theorem dX10_init_134 : decode cX10_init 134 = .ok (.bipush 30, 2) := by decide +kernel
theorem dX10_init_136 : decode cX10_init 136 = .ok (.iconst 5, 1) := by decide +kernel
theorem dX10_init_137 : decode cX10_init 137 = .ok (.invokevirtual 55, 3) := by decide +kernel
theorem dX10_init_140 : decode cX10_init 140 = .ok (.aload_n 0, 1) := by decide +kernel
theorem dX10_init_141 : decode cX10_init 141 = .ok (.iconst 2, 1) := by decide +kernel
theorem dX10_init_142 : decode cX10_init 142 = .ok (.iconst 4, 1) := by decide +kernel
theorem dX10_init_143 : decode cX10_init 143 = .ok (.bipush 25, 2) := by decide +kernel
theorem dX10_init_145 : decode cX10_init 145 = .ok (.bipush 6, 2) := by decide +kernel
theorem dX10_init_147 : decode cX10_init 147 = .ok (.invokevirtual 55, 3) := by decide +kernel
theorem dX10_init_150 : decode cX10_init 150 = .ok (.aload_n 0, 1) := by decide +kernel
theorem dX10_init_151 : decode cX10_init 151 = .ok (.iconst 3, 1) := by decide +kernel
theorem dX10_init_152 : decode cX10_init 152 = .ok (.iconst 5, 1) := by decide +kernel
theorem dX10_init_153 : decode cX10_init 153 = .ok (.bipush 14, 2) := by decide +kernel
theorem dX10_init_155 : decode cX10_init 155 = .ok (.iconst 2, 1) := by decide +kernel
theorem dX10_init_156 : decode cX10_init 156 = .ok (.invokevirtual 55, 3) := by decide +kernel
theorem dX10_init_159 : decode cX10_init 159 = .ok (.aload_n 0, 1) := by decide +kernel
theorem dX10_init_160 : decode cX10_init 160 = .ok (.iconst 3, 1) := by decide +kernel
theorem dX10_init_161 : decode cX10_init 161 = .ok (.iconst 5, 1) := by decide +kernel
theorem dX10_init_162 : decode cX10_init 162 = .ok (.bipush 13, 2) := by decide +kernel
theorem dX10_init_164 : decode cX10_init 164 = .ok (.iconst 3, 1) := by decide +kernel
theorem dX10_init_165 : decode cX10_init 165 = .ok (.invokevirtual 55, 3) := by decide +kernel
theorem dX10_init_168 : decode cX10_init 168 = .ok (.aload_n 0, 1) := by decide +kernel
theorem dX10_init_169 : decode cX10_init 169 = .ok (.iconst 0, 1) := by decide +kernel
theorem dX10_init_170 : decode cX10_init 170 = .ok (.iconst 1, 1) := by decide +kernel
theorem dX10_init_171 : decode cX10_init 171 = .ok (.bipush 60, 2) := by decide +kernel
theorem dX10_init_173 : decode cX10_init 173 = .ok (.bipush 9, 2) := by decide +kernel
theorem dX10_init_175 : decode cX10_init 175 = .ok (.invokevirtual 55, 3) := by decide +kernel
theorem dX10_init_178 : decode cX10_init 178 = .ok (.aload_n 0, 1) := by decide +kernel
theorem dX10_init_179 : decode cX10_init 179 = .ok (.iconst 5, 1) := by decide +kernel
theorem dX10_init_180 : decode cX10_init 180 = .ok (.iconst 2, 1) := by decide +kernel
theorem dX10_init_181 : decode cX10_init 181 = .ok (.invokevirtual 59, 3) := by decide +kernel
theorem dX10_init_184 : decode cX10_init 184 = .ok (.aload_n 0, 1) := by decide +kernel
theorem dX10_init_185 : decode cX10_init 185 = .ok (.iconst 4, 1) := by decide +kernel
theorem dX10_init_186 : decode cX10_init 186 = .ok (.iconst 1, 1) := by decide +kernel
theorem dX10_init_187 : decode cX10_init 187 = .ok (.invokevirtual 59, 3) := by decide +kernel
theorem dX10_init_190 : decode cX10_init 190 = .ok (.aload_n 0, 1) := by decide +kernel
theorem dX10_init_191 : decode cX10_init 191 = .ok (.iconst 3, 1) := by decide +kernel
theorem dX10_init_192 : decode cX10_init 192 = .ok (.iconst 1, 1) := by decide +kernel
theorem dX10_init_193 : decode cX10_init 193 = .ok (.invokevirtual 59, 3) := by decide +kernel
theorem dX10_init_196 : decode cX10_init 196 = .ok (.aload_n 0, 1) := by decide +kernel
theorem dX10_init_197 : decode cX10_init 197 = .ok (.iconst 1, 1) := by decide +kernel
theorem dX10_init_198 : decode cX10_init 198 = .ok (.iconst 1, 1) := by decide +kernel
theorem dX10_init_199 : decode cX10_init 199 = .ok (.invokevirtual 59, 3) := by decide +kernel
theorem dX10_init_202 : decode cX10_init 202 = .ok (.aload_n 0, 1) := by decide +kernel
theorem dX10_init_203 : decode cX10_init 203 = .ok (.iconst 0, 1) := by decide +kernel
theorem dX10_init_204 : decode cX10_init 204 = .ok (.iconst 1, 1) := by decide +kernel
theorem dX10_init_205 : decode cX10_init 205 = .ok (.invokevirtual 59, 3) := by decide +kernel
theorem dX10_init_208 : decode cX10_init 208 = .ok (.aload_n 0, 1) := by decide +kernel
theorem dX10_init_209 : decode cX10_init 209 = .ok (.invokevirtual 63, 3) := by decide +kernel
theorem dX10_init_212 : decode cX10_init 212 = .ok (.return_, 1) := by decide +kernel
theorem dX10_tellsPerson_0 : decode cX10_tellsPerson 0 = .ok (.aload_n 0, 1) := by decide +kernel
theorem dX10_tellsPerson_1 : decode cX10_tellsPerson 1 = .ok (.getfield 34, 3) := by decide +kernel
theorem dX10_tellsPerson_4 : decode cX10_tellsPerson 4 = .ok (.aload_n 0, 1) := by decide +kernel
theorem dX10_tellsPerson_5 : decode cX10_tellsPerson 5 = .ok (.getfield 66, 3) := by decide +kernel
theorem dX10_tellsPerson_8 : decode cX10_tellsPerson 8 = .ok (.iload_n 1, 1) := by decide +kernel
theorem dX10_tellsPerson_9 : decode cX10_tellsPerson 9 = .ok (.iastore, 1) := by decide +kernel
theorem dX10_tellsPerson_10 : decode cX10_tellsPerson 10 = .ok (.aload_n 0, 1) := by decide +kernel
theorem dX10_tellsPerson_11 : decode cX10_tellsPerson 11 = .ok (.getfield 37, 3) := by decide +kernel
theorem dX10_tellsPerson_14 : decode cX10_tellsPerson 14 = .ok (.iconst 3, 1) := by decide +kernel
theorem dX10_tellsPerson_15 : decode cX10_tellsPerson 15 = .ok (.aload_n 0, 1) := by decide +kernel
theorem dX10_tellsPerson_16 : decode cX10_tellsPerson 16 = .ok (.getfield 66, 3) := by decide +kernel
theorem dX10_tellsPerson_19 : decode cX10_tellsPerson 19 = .ok (.iadd, 1) := by decide +kernel
theorem dX10_tellsPerson_20 : decode cX10_tellsPerson 20 = .ok (.iload_n 2, 1) := by decide +kernel
theorem dX10_tellsPerson_21 : decode cX10_tellsPerson 21 = .ok (.iastore, 1) := by decide +kernel
theorem dX10_tellsPerson_22 : decode cX10_tellsPerson 22 = .ok (.aload_n 0, 1) := by decide +kernel
theorem dX10_tellsPerson_23 : decode cX10_tellsPerson 23 = .ok (.getfield 37, 3) := by decide +kernel
theorem dX10_tellsPerson_26 : decode cX10_tellsPerson 26 = .ok (.bipush 9, 2) := by decide +kernel
theorem dX10_tellsPerson_28 : decode cX10_tellsPerson 28 = .ok (.aload_n 0, 1) := by decide +kernel
theorem dX10_tellsPerson_29 : decode cX10_tellsPerson 29 = .ok (.getfield 66, 3) := by decide +kernel
theorem dX10_tellsPerson_32 : decode cX10_tellsPerson 32 = .ok (.iadd, 1) := by decide +kernel
theorem dX10_tellsPerson_33 : decode cX10_tellsPerson 33 = .ok (.iload_n 3, 1) := by decide +kernel
theorem dX10_tellsPerson_34 : decode cX10_tellsPerson 34 = .ok (.iastore, 1) := by decide +kernel
theorem dX10_tellsPerson_35 : decode cX10_tellsPerson 35 = .ok (.aload_n 0, 1) := by decide +kernel
theorem dX10_tellsPerson_36 : decode cX10_tellsPerson 36 = .ok (.getfield 37, 3) := by decide +kernel
theorem dX10_tellsPerson_39 : decode cX10_tellsPerson 39 = .ok (.bipush 15, 2) := by decide +kernel
theorem dX10_tellsPerson_41 : decode cX10_tellsPerson 41 = .ok (.aload_n 0, 1) := by decide +kernel
theorem dX10_tellsPerson_42 : decode cX10_tellsPerson 42 = .ok (.getfield 66, 3) := by decide +kernel
theorem dX10_tellsPerson_45 : decode cX10_tellsPerson 45 = .ok (.iadd, 1) := by decide +kernel
theorem dX10_tellsPerson_46 : decode cX10_tellsPerson 46 = .ok (.iload 4, 2) := by decide +kernel
theorem dX10_tellsPerson_48 : decode cX10_tellsPerson 48 = .ok (.iastore, 1) := by decide +kernel
theorem dX10_tellsPerson_49 : decode cX10_tellsPerson 49 = .ok (.aload_n 0, 1) := by decide +kernel
theorem dX10_tellsPerson_50 : decode cX10_tellsPerson 50 = .ok (.dup, 1) := by decide +kernel
theorem dX10_tellsPerson_51 : decode cX10_tellsPerson 51 = .ok (.getfield 66, 3) := by decide +kernel
theorem dX10_tellsPerson_54 : decode cX10_tellsPerson 54 = .ok (.iconst 1, 1) := by decide +kernel
theorem dX10_tellsPerson_55 : decode cX10_tellsPerson 55 = .ok (.iadd, 1) := by decide +kernel
theorem dX10_tellsPerson_56 : decode cX10_tellsPerson 56 = .ok (.putfield 66, 3) := by decide +kernel
theorem dX10_tellsPerson_59 : decode cX10_tellsPerson 59 = .ok (.return_, 1) := by decide +kernel
theorem dX10_tellsWork_0 : decode cX10_tellsWork 0 = .ok (.aload_n 0, 1) := by decide +kernel
theorem dX10_tellsWork_1 : decode cX10_tellsWork 1 = .ok (.getfield 40, 3) := by decide +kernel
theorem dX10_tellsWork_4 : decode cX10_tellsWork 4 = .ok (.iconst 2, 1) := by decide +kernel
theorem dX10_tellsWork_5 : decode cX10_tellsWork 5 = .ok (.aload_n 0, 1) := by decide +kernel
theorem dX10_tellsWork_6 : decode cX10_tellsWork 6 = .ok (.getfield 70, 3) := by decide +kernel
theorem dX10_tellsWork_9 : decode cX10_tellsWork 9 = .ok (.imul, 1) := by decide +kernel
theorem dX10_tellsWork_10 : decode cX10_tellsWork 10 = .ok (.iload_n 1, 1) := by decide +kernel
theorem dX10_tellsWork_11 : decode cX10_tellsWork 11 = .ok (.iastore, 1) := by decide +kernel
theorem dX10_tellsWork_12 : decode cX10_tellsWork 12 = .ok (.aload_n 0, 1) := by decide +kernel
theorem dX10_tellsWork_13 : decode cX10_tellsWork 13 = .ok (.getfield 40, 3) := by decide +kernel
theorem dX10_tellsWork_16 : decode cX10_tellsWork 16 = .ok (.iconst 2, 1) := by decide +kernel
theorem dX10_tellsWork_17 : decode cX10_tellsWork 17 = .ok (.aload_n 0, 1) := by decide +kernel
theorem dX10_tellsWork_18 : decode cX10_tellsWork 18 = .ok (.getfield 70, 3) := by decide +kernel
theorem dX10_tellsWork_21 : decode cX10_tellsWork 21 = .ok (.imul, 1) := by decide +kernel
theorem dX10_tellsWork_22 : decode cX10_tellsWork 22 = .ok (.iconst 1, 1) := by decide +kernel
theorem dX10_tellsWork_23 : decode cX10_tellsWork 23 = .ok (.iadd, 1) := by decide +kernel
theorem dX10_tellsWork_24 : decode cX10_tellsWork 24 = .ok (.iload_n 2, 1) := by decide +kernel
theorem dX10_tellsWork_25 : decode cX10_tellsWork 25 = .ok (.iastore, 1) := by decide +kernel
theorem dX10_tellsWork_26 : decode cX10_tellsWork 26 = .ok (.aload_n 0, 1) := by decide +kernel
theorem dX10_tellsWork_27 : decode cX10_tellsWork 27 = .ok (.dup, 1) := by decide +kernel
theorem dX10_tellsWork_28 : decode cX10_tellsWork 28 = .ok (.getfield 70, 3) := by decide +kernel
theorem dX10_tellsWork_31 : decode cX10_tellsWork 31 = .ok (.iconst 1, 1) := by decide +kernel
theorem dX10_tellsWork_32 : decode cX10_tellsWork 32 = .ok (.iadd, 1) := by decide +kernel
theorem dX10_tellsWork_33 : decode cX10_tellsWork 33 = .ok (.putfield 70, 3) := by decide +kernel
theorem dX10_tellsWork_36 : decode cX10_tellsWork 36 = .ok (.return_, 1) := by decide +kernel
theorem dX10_in_0 : decode cX10_in 0 = .ok (.iload_n 0, 1) := by decide +kernel
theorem dX10_in_1 : decode cX10_in 1 = .ok (.iload_n 1, 1) := by decide +kernel
theorem dX10_in_2 : decode cX10_in 2 = .ok (.if_icmp .lt 12, 3) := by decide +kernel
theorem dX10_in_5 : decode cX10_in 5 = .ok (.iload_n 0, 1) := by decide +kernel
theorem dX10_in_6 : decode cX10_in 6 = .ok (.iload_n 2, 1) := by decide +kernel
theorem dX10_in_7 : decode cX10_in 7 = .ok (.if_icmp .gt 7, 3) := by decide +kernel
theorem dX10_in_10 : decode cX10_in 10 = .ok (.iconst 1, 1) := by decide +kernel
theorem dX10_in_11 : decode cX10_in 11 = .ok (.goto 4, 3) := by decide +kernel
theorem dX10_in_14 : decode cX10_in 14 = .ok (.iconst 0, 1) := by decide +kernel
theorem dX10_in_15 : decode cX10_in 15 = .ok (.ireturn, 1) := by decide +kernel
theorem dX10_has_0 : decode cX10_has 0 = .ok (.iload_n 0, 1) := by decide +kernel
theorem dX10_has_1 : decode cX10_has 1 = .ok (.iload_n 1, 1) := by decide +kernel
theorem dX10_has_2 : decode cX10_has 2 = .ok (.ishr, 1) := by decide +kernel
theorem dX10_has_3 : decode cX10_has 3 = .ok (.iconst 1, 1) := by decide +kernel
theorem dX10_has_4 : decode cX10_has 4 = .ok (.iand, 1) := by decide +kernel
theorem dX10_has_5 : decode cX10_has 5 = .ok (.iconst 1, 1) := by decide +kernel
theorem dX10_has_6 : decode cX10_has 6 = .ok (.if_icmp .ne 7, 3) := by decide +kernel
theorem dX10_has_9 : decode cX10_has 9 = .ok (.iconst 1, 1) := by decide +kernel
theorem dX10_has_10 : decode cX10_has 10 = .ok (.goto 4, 3) := by decide +kernel
theorem dX10_has_13 : decode cX10_has 13 = .ok (.iconst 0, 1) := by decide +kernel
theorem dX10_has_14 : decode cX10_has 14 = .ok (.ireturn, 1) := by decide +kernel
theorem dX10_bits_0 : decode cX10_bits 0 = .ok (.iconst 0, 1) := by decide +kernel
theorem dX10_bits_1 : decode cX10_bits 1 = .ok (.istore_n 1, 1) := by decide +kernel
theorem dX10_bits_2 : decode cX10_bits 2 = .ok (.iconst 0, 1) := by decide +kernel
theorem dX10_bits_3 : decode cX10_bits 3 = .ok (.istore_n 2, 1) := by decide +kernel
theorem dX10_bits_4 : decode cX10_bits 4 = .ok (.iload_n 2, 1) := by decide +kernel
theorem dX10_bits_5 : decode cX10_bits 5 = .ok (.bipush 6, 2) := by decide +kernel
theorem dX10_bits_7 : decode cX10_bits 7 = .ok (.if_icmp .ge 17, 3) := by decide +kernel
theorem dX10_bits_10 : decode cX10_bits 10 = .ok (.iload_n 1, 1) := by decide +kernel
theorem dX10_bits_11 : decode cX10_bits 11 = .ok (.iload_n 0, 1) := by decide +kernel
theorem dX10_bits_12 : decode cX10_bits 12 = .ok (.iload_n 2, 1) := by decide +kernel
theorem dX10_bits_13 : decode cX10_bits 13 = .ok (.ishr, 1) := by decide +kernel
theorem dX10_bits_14 : decode cX10_bits 14 = .ok (.iconst 1, 1) := by decide +kernel
theorem dX10_bits_15 : decode cX10_bits 15 = .ok (.iand, 1) := by decide +kernel
theorem dX10_bits_16 : decode cX10_bits 16 = .ok (.iadd, 1) := by decide +kernel
theorem dX10_bits_17 : decode cX10_bits 17 = .ok (.istore_n 1, 1) := by decide +kernel
theorem dX10_bits_18 : decode cX10_bits 18 = .ok (.iinc 2 1, 3) := by decide +kernel
theorem dX10_bits_21 : decode cX10_bits 21 = .ok (.goto (-17), 3) := by decide +kernel
theorem dX10_bits_24 : decode cX10_bits 24 = .ok (.iload_n 1, 1) := by decide +kernel
theorem dX10_bits_25 : decode cX10_bits 25 = .ok (.ireturn, 1) := by decide +kernel
theorem dX10_isPerson_0 : decode cX10_isPerson 0 = .ok (.iload_n 1, 1) := by decide +kernel
theorem dX10_isPerson_1 : decode cX10_isPerson 1 = .ok (.iconst 0, 1) := by decide +kernel
theorem dX10_isPerson_2 : decode cX10_isPerson 2 = .ok (.aload_n 0, 1) := by decide +kernel
theorem dX10_isPerson_3 : decode cX10_isPerson 3 = .ok (.getfield 73, 3) := by decide +kernel
theorem dX10_isPerson_6 : decode cX10_isPerson 6 = .ok (.iconst 1, 1) := by decide +kernel
theorem dX10_isPerson_7 : decode cX10_isPerson 7 = .ok (.isub, 1) := by decide +kernel
theorem dX10_isPerson_8 : decode cX10_isPerson 8 = .ok (.invokestatic 76, 3) := by decide +kernel
theorem dX10_isPerson_11 : decode cX10_isPerson 11 = .ok (.ireturn, 1) := by decide +kernel
theorem dX10_isStep_0 : decode cX10_isStep 0 = .ok (.iload_n 1, 1) := by decide +kernel
theorem dX10_isStep_1 : decode cX10_isStep 1 = .ok (.iconst 0, 1) := by decide +kernel
theorem dX10_isStep_2 : decode cX10_isStep 2 = .ok (.aload_n 0, 1) := by decide +kernel
theorem dX10_isStep_3 : decode cX10_isStep 3 = .ok (.getfield 80, 3) := by decide +kernel
theorem dX10_isStep_6 : decode cX10_isStep 6 = .ok (.iconst 1, 1) := by decide +kernel
theorem dX10_isStep_7 : decode cX10_isStep 7 = .ok (.isub, 1) := by decide +kernel
theorem dX10_isStep_8 : decode cX10_isStep 8 = .ok (.invokestatic 76, 3) := by decide +kernel
theorem dX10_isStep_11 : decode cX10_isStep 11 = .ok (.ireturn, 1) := by decide +kernel
theorem dX10_write_0 : decode cX10_write 0 = .ok (.iload_n 1, 1) := by decide +kernel
theorem dX10_write_1 : decode cX10_write 1 = .ok (.bipush 32, 2) := by decide +kernel
theorem dX10_write_3 : decode cX10_write 3 = .ok (.bipush 126, 2) := by decide +kernel
theorem dX10_write_5 : decode cX10_write 5 = .ok (.invokestatic 76, 3) := by decide +kernel
theorem dX10_write_8 : decode cX10_write 8 = .ok (.ifCond .ne 5, 3) := by decide +kernel
theorem dX10_write_11 : decode cX10_write 11 = .ok (.iconst (-1), 1) := by decide +kernel
theorem dX10_write_12 : decode cX10_write 12 = .ok (.ireturn, 1) := by decide +kernel
theorem dX10_write_13 : decode cX10_write 13 = .ok (.aload_n 0, 1) := by decide +kernel
theorem dX10_write_14 : decode cX10_write 14 = .ok (.getfield 83, 3) := by decide +kernel
theorem dX10_write_17 : decode cX10_write 17 = .ok (.sipush 200, 3) := by decide +kernel
theorem dX10_write_20 : decode cX10_write 20 = .ok (.if_icmp .ne 6, 3) := by decide +kernel
theorem dX10_write_23 : decode cX10_write 23 = .ok (.bipush (-3), 2) := by decide +kernel
theorem dX10_write_25 : decode cX10_write 25 = .ok (.ireturn, 1) := by decide +kernel
theorem dX10_write_26 : decode cX10_write 26 = .ok (.aload_n 0, 1) := by decide +kernel
theorem dX10_write_27 : decode cX10_write 27 = .ok (.getfield 28, 3) := by decide +kernel
theorem dX10_write_30 : decode cX10_write 30 = .ok (.aload_n 0, 1) := by decide +kernel
theorem dX10_write_31 : decode cX10_write 31 = .ok (.getfield 83, 3) := by decide +kernel
theorem dX10_write_34 : decode cX10_write 34 = .ok (.iload_n 1, 1) := by decide +kernel
theorem dX10_write_35 : decode cX10_write 35 = .ok (.iastore, 1) := by decide +kernel
theorem dX10_write_36 : decode cX10_write 36 = .ok (.aload_n 0, 1) := by decide +kernel
theorem dX10_write_37 : decode cX10_write 37 = .ok (.dup, 1) := by decide +kernel
theorem dX10_write_38 : decode cX10_write 38 = .ok (.getfield 83, 3) := by decide +kernel
theorem dX10_write_41 : decode cX10_write 41 = .ok (.iconst 1, 1) := by decide +kernel
theorem dX10_write_42 : decode cX10_write 42 = .ok (.iadd, 1) := by decide +kernel
theorem dX10_write_43 : decode cX10_write 43 = .ok (.putfield 83, 3) := by decide +kernel
theorem dX10_write_46 : decode cX10_write 46 = .ok (.aload_n 0, 1) := by decide +kernel
theorem dX10_write_47 : decode cX10_write 47 = .ok (.getfield 83, 3) := by decide +kernel
theorem dX10_write_50 : decode cX10_write 50 = .ok (.ireturn, 1) := by decide +kernel
theorem dX10_wipe_0 : decode cX10_wipe 0 = .ok (.aload_n 0, 1) := by decide +kernel
theorem dX10_wipe_1 : decode cX10_wipe 1 = .ok (.getfield 83, 3) := by decide +kernel
theorem dX10_wipe_4 : decode cX10_wipe 4 = .ok (.istore_n 1, 1) := by decide +kernel
theorem dX10_wipe_5 : decode cX10_wipe 5 = .ok (.aload_n 0, 1) := by decide +kernel
theorem dX10_wipe_6 : decode cX10_wipe 6 = .ok (.iconst 0, 1) := by decide +kernel
theorem dX10_wipe_7 : decode cX10_wipe 7 = .ok (.putfield 83, 3) := by decide +kernel
theorem dX10_wipe_10 : decode cX10_wipe 10 = .ok (.iload_n 1, 1) := by decide +kernel
theorem dX10_wipe_11 : decode cX10_wipe 11 = .ok (.ireturn, 1) := by decide +kernel
theorem dX10_letterAt_0 : decode cX10_letterAt 0 = .ok (.iload_n 1, 1) := by decide +kernel
theorem dX10_letterAt_1 : decode cX10_letterAt 1 = .ok (.aload_n 0, 1) := by decide +kernel
theorem dX10_letterAt_2 : decode cX10_letterAt 2 = .ok (.getfield 83, 3) := by decide +kernel
theorem dX10_letterAt_5 : decode cX10_letterAt 5 = .ok (.if_icmp .ge 12, 3) := by decide +kernel
theorem dX10_letterAt_8 : decode cX10_letterAt 8 = .ok (.aload_n 0, 1) := by decide +kernel
theorem dX10_letterAt_9 : decode cX10_letterAt 9 = .ok (.getfield 28, 3) := by decide +kernel
theorem dX10_letterAt_12 : decode cX10_letterAt 12 = .ok (.iload_n 1, 1) := by decide +kernel
theorem dX10_letterAt_13 : decode cX10_letterAt 13 = .ok (.iaload, 1) := by decide +kernel
theorem dX10_letterAt_14 : decode cX10_letterAt 14 = .ok (.goto 4, 3) := by decide +kernel
theorem dX10_letterAt_17 : decode cX10_letterAt 17 = .ok (.iconst (-1), 1) := by decide +kernel
theorem dX10_letterAt_18 : decode cX10_letterAt 18 = .ok (.ireturn, 1) := by decide +kernel
theorem dX10_isFigure_0 : decode cX10_isFigure 0 = .ok (.iload_n 0, 1) := by decide +kernel
theorem dX10_isFigure_1 : decode cX10_isFigure 1 = .ok (.bipush 48, 2) := by decide +kernel
theorem dX10_isFigure_3 : decode cX10_isFigure 3 = .ok (.bipush 57, 2) := by decide +kernel
theorem dX10_isFigure_5 : decode cX10_isFigure 5 = .ok (.invokestatic 76, 3) := by decide +kernel
theorem dX10_isFigure_8 : decode cX10_isFigure 8 = .ok (.ireturn, 1) := by decide +kernel
theorem dX10_readNumbers_0 : decode cX10_readNumbers 0 = .ok (.iconst 0, 1) := by decide +kernel
theorem dX10_readNumbers_1 : decode cX10_readNumbers 1 = .ok (.istore_n 2, 1) := by decide +kernel
theorem dX10_readNumbers_2 : decode cX10_readNumbers 2 = .ok (.iload_n 2, 1) := by decide +kernel
theorem dX10_readNumbers_3 : decode cX10_readNumbers 3 = .ok (.iload_n 1, 1) := by decide +kernel
theorem dX10_readNumbers_4 : decode cX10_readNumbers 4 = .ok (.if_icmp .ge 140, 3) := by decide +kernel
theorem dX10_readNumbers_7 : decode cX10_readNumbers 7 = .ok (.aload_n 0, 1) := by decide +kernel
theorem dX10_readNumbers_8 : decode cX10_readNumbers 8 = .ok (.aload_n 0, 1) := by decide +kernel
theorem dX10_readNumbers_9 : decode cX10_readNumbers 9 = .ok (.getfield 86, 3) := by decide +kernel
theorem dX10_readNumbers_12 : decode cX10_readNumbers 12 = .ok (.invokevirtual 89, 3) := by decide +kernel
theorem dX10_readNumbers_15 : decode cX10_readNumbers 15 = .ok (.invokestatic 93, 3) := by decide +kernel
theorem dX10_readNumbers_18 : decode cX10_readNumbers 18 = .ok (.ifCond .ne 5, 3) := by decide +kernel
theorem dX10_readNumbers_21 : decode cX10_readNumbers 21 = .ok (.iconst 0, 1) := by decide +kernel
theorem dX10_readNumbers_22 : decode cX10_readNumbers 22 = .ok (.ireturn, 1) := by decide +kernel
theorem dX10_readNumbers_23 : decode cX10_readNumbers 23 = .ok (.aload_n 0, 1) := by decide +kernel
theorem dX10_readNumbers_24 : decode cX10_readNumbers 24 = .ok (.getfield 31, 3) := by decide +kernel
theorem dX10_readNumbers_27 : decode cX10_readNumbers 27 = .ok (.iload_n 2, 1) := by decide +kernel
theorem dX10_readNumbers_28 : decode cX10_readNumbers 28 = .ok (.aload_n 0, 1) := by decide +kernel
theorem dX10_readNumbers_29 : decode cX10_readNumbers 29 = .ok (.aload_n 0, 1) := by decide +kernel
theorem dX10_readNumbers_30 : decode cX10_readNumbers 30 = .ok (.getfield 86, 3) := by decide +kernel
theorem dX10_readNumbers_33 : decode cX10_readNumbers 33 = .ok (.invokevirtual 89, 3) := by decide +kernel
theorem dX10_readNumbers_36 : decode cX10_readNumbers 36 = .ok (.bipush 48, 2) := by decide +kernel
theorem dX10_readNumbers_38 : decode cX10_readNumbers 38 = .ok (.isub, 1) := by decide +kernel
theorem dX10_readNumbers_39 : decode cX10_readNumbers 39 = .ok (.iastore, 1) := by decide +kernel
theorem dX10_readNumbers_40 : decode cX10_readNumbers 40 = .ok (.aload_n 0, 1) := by decide +kernel
theorem dX10_readNumbers_41 : decode cX10_readNumbers 41 = .ok (.dup, 1) := by decide +kernel
theorem dX10_readNumbers_42 : decode cX10_readNumbers 42 = .ok (.getfield 86, 3) := by decide +kernel
theorem dX10_readNumbers_45 : decode cX10_readNumbers 45 = .ok (.iconst 1, 1) := by decide +kernel
theorem dX10_readNumbers_46 : decode cX10_readNumbers 46 = .ok (.iadd, 1) := by decide +kernel
theorem dX10_readNumbers_47 : decode cX10_readNumbers 47 = .ok (.putfield 86, 3) := by decide +kernel
theorem dX10_readNumbers_50 : decode cX10_readNumbers 50 = .ok (.aload_n 0, 1) := by decide +kernel
theorem dX10_readNumbers_51 : decode cX10_readNumbers 51 = .ok (.aload_n 0, 1) := by decide +kernel
theorem dX10_readNumbers_52 : decode cX10_readNumbers 52 = .ok (.getfield 86, 3) := by decide +kernel
theorem dX10_readNumbers_55 : decode cX10_readNumbers 55 = .ok (.invokevirtual 89, 3) := by decide +kernel
theorem dX10_readNumbers_58 : decode cX10_readNumbers 58 = .ok (.invokestatic 93, 3) := by decide +kernel
theorem dX10_readNumbers_61 : decode cX10_readNumbers 61 = .ok (.ifCond .eq 40, 3) := by decide +kernel
theorem dX10_readNumbers_64 : decode cX10_readNumbers 64 = .ok (.aload_n 0, 1) := by decide +kernel
theorem dX10_readNumbers_65 : decode cX10_readNumbers 65 = .ok (.getfield 31, 3) := by decide +kernel
theorem dX10_readNumbers_68 : decode cX10_readNumbers 68 = .ok (.iload_n 2, 1) := by decide +kernel
theorem dX10_readNumbers_69 : decode cX10_readNumbers 69 = .ok (.bipush 10, 2) := by decide +kernel
theorem dX10_readNumbers_71 : decode cX10_readNumbers 71 = .ok (.aload_n 0, 1) := by decide +kernel
theorem dX10_readNumbers_72 : decode cX10_readNumbers 72 = .ok (.getfield 31, 3) := by decide +kernel
theorem dX10_readNumbers_75 : decode cX10_readNumbers 75 = .ok (.iload_n 2, 1) := by decide +kernel
theorem dX10_readNumbers_76 : decode cX10_readNumbers 76 = .ok (.iaload, 1) := by decide +kernel
theorem dX10_readNumbers_77 : decode cX10_readNumbers 77 = .ok (.imul, 1) := by decide +kernel
theorem dX10_readNumbers_78 : decode cX10_readNumbers 78 = .ok (.aload_n 0, 1) := by decide +kernel
theorem dX10_readNumbers_79 : decode cX10_readNumbers 79 = .ok (.aload_n 0, 1) := by decide +kernel
theorem dX10_readNumbers_80 : decode cX10_readNumbers 80 = .ok (.getfield 86, 3) := by decide +kernel
theorem dX10_readNumbers_83 : decode cX10_readNumbers 83 = .ok (.invokevirtual 89, 3) := by decide +kernel
theorem dX10_readNumbers_86 : decode cX10_readNumbers 86 = .ok (.iadd, 1) := by decide +kernel
theorem dX10_readNumbers_87 : decode cX10_readNumbers 87 = .ok (.bipush 48, 2) := by decide +kernel
theorem dX10_readNumbers_89 : decode cX10_readNumbers 89 = .ok (.isub, 1) := by decide +kernel
theorem dX10_readNumbers_90 : decode cX10_readNumbers 90 = .ok (.iastore, 1) := by decide +kernel
theorem dX10_readNumbers_91 : decode cX10_readNumbers 91 = .ok (.aload_n 0, 1) := by decide +kernel
theorem dX10_readNumbers_92 : decode cX10_readNumbers 92 = .ok (.dup, 1) := by decide +kernel
theorem dX10_readNumbers_93 : decode cX10_readNumbers 93 = .ok (.getfield 86, 3) := by decide +kernel
theorem dX10_readNumbers_96 : decode cX10_readNumbers 96 = .ok (.iconst 1, 1) := by decide +kernel
theorem dX10_readNumbers_97 : decode cX10_readNumbers 97 = .ok (.iadd, 1) := by decide +kernel
theorem dX10_readNumbers_98 : decode cX10_readNumbers 98 = .ok (.putfield 86, 3) := by decide +kernel
theorem dX10_readNumbers_101 : decode cX10_readNumbers 101 = .ok (.aload_n 0, 1) := by decide +kernel
theorem dX10_readNumbers_102 : decode cX10_readNumbers 102 = .ok (.aload_n 0, 1) := by decide +kernel
theorem dX10_readNumbers_103 : decode cX10_readNumbers 103 = .ok (.getfield 86, 3) := by decide +kernel
theorem dX10_readNumbers_106 : decode cX10_readNumbers 106 = .ok (.invokevirtual 89, 3) := by decide +kernel
theorem dX10_readNumbers_109 : decode cX10_readNumbers 109 = .ok (.iload_n 2, 1) := by decide +kernel
theorem dX10_readNumbers_110 : decode cX10_readNumbers 110 = .ok (.iload_n 1, 1) := by decide +kernel
theorem dX10_readNumbers_111 : decode cX10_readNumbers 111 = .ok (.iconst 1, 1) := by decide +kernel
theorem dX10_readNumbers_112 : decode cX10_readNumbers 112 = .ok (.isub, 1) := by decide +kernel
theorem dX10_readNumbers_113 : decode cX10_readNumbers 113 = .ok (.if_icmp .ge 8, 3) := by decide +kernel
theorem dX10_readNumbers_116 : decode cX10_readNumbers 116 = .ok (.bipush 44, 2) := by decide +kernel
theorem dX10_readNumbers_118 : decode cX10_readNumbers 118 = .ok (.goto 5, 3) := by decide +kernel
theorem dX10_readNumbers_121 : decode cX10_readNumbers 121 = .ok (.bipush 59, 2) := by decide +kernel
theorem dX10_readNumbers_123 : decode cX10_readNumbers 123 = .ok (.if_icmp .eq 5, 3) := by decide +kernel
theorem dX10_readNumbers_126 : decode cX10_readNumbers 126 = .ok (.iconst 0, 1) := by decide +kernel
theorem dX10_readNumbers_127 : decode cX10_readNumbers 127 = .ok (.ireturn, 1) := by decide +kernel
theorem dX10_readNumbers_128 : decode cX10_readNumbers 128 = .ok (.aload_n 0, 1) := by decide +kernel
theorem dX10_readNumbers_129 : decode cX10_readNumbers 129 = .ok (.dup, 1) := by decide +kernel
theorem dX10_readNumbers_130 : decode cX10_readNumbers 130 = .ok (.getfield 86, 3) := by decide +kernel
theorem dX10_readNumbers_133 : decode cX10_readNumbers 133 = .ok (.iconst 1, 1) := by decide +kernel
theorem dX10_readNumbers_134 : decode cX10_readNumbers 134 = .ok (.iadd, 1) := by decide +kernel
theorem dX10_readNumbers_135 : decode cX10_readNumbers 135 = .ok (.putfield 86, 3) := by decide +kernel
theorem dX10_readNumbers_138 : decode cX10_readNumbers 138 = .ok (.iinc 2 1, 3) := by decide +kernel
theorem dX10_readNumbers_141 : decode cX10_readNumbers 141 = .ok (.goto (-139), 3) := by decide +kernel
theorem dX10_readNumbers_144 : decode cX10_readNumbers 144 = .ok (.iconst 1, 1) := by decide +kernel
theorem dX10_readNumbers_145 : decode cX10_readNumbers 145 = .ok (.ireturn, 1) := by decide +kernel
theorem dX10_isTold_0 : decode cX10_isTold 0 = .ok (.aload_n 0, 1) := by decide +kernel
theorem dX10_isTold_1 : decode cX10_isTold 1 = .ok (.getfield 31, 3) := by decide +kernel
theorem dX10_isTold_4 : decode cX10_isTold 4 = .ok (.iload_n 1, 1) := by decide +kernel
theorem dX10_isTold_5 : decode cX10_isTold 5 = .ok (.iaload, 1) := by decide +kernel
theorem dX10_isTold_6 : decode cX10_isTold 6 = .ok (.iload_n 2, 1) := by decide +kernel
theorem dX10_isTold_7 : decode cX10_isTold 7 = .ok (.iload_n 3, 1) := by decide +kernel
theorem dX10_isTold_8 : decode cX10_isTold 8 = .ok (.invokestatic 76, 3) := by decide +kernel
theorem dX10_isTold_11 : decode cX10_isTold 11 = .ok (.ireturn, 1) := by decide +kernel
theorem dX10_clearTold_0 : decode cX10_clearTold 0 = .ok (.aload_n 0, 1) := by decide +kernel
theorem dX10_clearTold_1 : decode cX10_clearTold 1 = .ok (.bipush 6, 2) := by decide +kernel
theorem dX10_clearTold_3 : decode cX10_clearTold 3 = .ok (.putfield 97, 3) := by decide +kernel
theorem dX10_clearTold_6 : decode cX10_clearTold 6 = .ok (.aload_n 0, 1) := by decide +kernel
theorem dX10_clearTold_7 : decode cX10_clearTold 7 = .ok (.iconst 0, 1) := by decide +kernel
theorem dX10_clearTold_8 : decode cX10_clearTold 8 = .ok (.putfield 66, 3) := by decide +kernel
theorem dX10_clearTold_11 : decode cX10_clearTold 11 = .ok (.aload_n 0, 1) := by decide +kernel
theorem dX10_clearTold_12 : decode cX10_clearTold 12 = .ok (.iconst 0, 1) := by decide +kernel
theorem dX10_clearTold_13 : decode cX10_clearTold 13 = .ok (.putfield 70, 3) := by decide +kernel
theorem dX10_clearTold_16 : decode cX10_clearTold 16 = .ok (.iconst 0, 1) := by decide +kernel
theorem dX10_clearTold_17 : decode cX10_clearTold 17 = .ok (.istore_n 1, 1) := by decide +kernel
theorem dX10_clearTold_18 : decode cX10_clearTold 18 = .ok (.iload_n 1, 1) := by decide +kernel
theorem dX10_clearTold_19 : decode cX10_clearTold 19 = .ok (.bipush 21, 2) := by decide +kernel
theorem dX10_clearTold_21 : decode cX10_clearTold 21 = .ok (.if_icmp .ge 16, 3) := by decide +kernel
theorem dX10_clearTold_24 : decode cX10_clearTold 24 = .ok (.aload_n 0, 1) := by decide +kernel
theorem dX10_clearTold_25 : decode cX10_clearTold 25 = .ok (.getfield 37, 3) := by decide +kernel
theorem dX10_clearTold_28 : decode cX10_clearTold 28 = .ok (.iload_n 1, 1) := by decide +kernel
theorem dX10_clearTold_29 : decode cX10_clearTold 29 = .ok (.iconst 0, 1) := by decide +kernel
theorem dX10_clearTold_30 : decode cX10_clearTold 30 = .ok (.iastore, 1) := by decide +kernel
theorem dX10_clearTold_31 : decode cX10_clearTold 31 = .ok (.iinc 1 1, 3) := by decide +kernel
theorem dX10_clearTold_34 : decode cX10_clearTold 34 = .ok (.goto (-16), 3) := by decide +kernel
theorem dX10_clearTold_37 : decode cX10_clearTold 37 = .ok (.return_, 1) := by decide +kernel
theorem dX10_readHeightOf_0 : decode cX10_readHeightOf 0 = .ok (.aload_n 0, 1) := by decide +kernel
theorem dX10_readHeightOf_1 : decode cX10_readHeightOf 1 = .ok (.iconst 1, 1) := by decide +kernel
theorem dX10_readHeightOf_2 : decode cX10_readHeightOf 2 = .ok (.invokevirtual 100, 3) := by decide +kernel
theorem dX10_readHeightOf_5 : decode cX10_readHeightOf 5 = .ok (.ifCond .eq 18, 3) := by decide +kernel
theorem dX10_readHeightOf_8 : decode cX10_readHeightOf 8 = .ok (.aload_n 0, 1) := by decide +kernel
theorem dX10_readHeightOf_9 : decode cX10_readHeightOf 9 = .ok (.iconst 0, 1) := by decide +kernel
theorem dX10_readHeightOf_10 : decode cX10_readHeightOf 10 = .ok (.iconst 2, 1) := by decide +kernel
theorem dX10_readHeightOf_11 : decode cX10_readHeightOf 11 = .ok (.bipush 10, 2) := by decide +kernel
theorem dX10_readHeightOf_13 : decode cX10_readHeightOf 13 = .ok (.invokevirtual 103, 3) := by decide +kernel
theorem dX10_readHeightOf_16 : decode cX10_readHeightOf 16 = .ok (.ifCond .eq 7, 3) := by decide +kernel
theorem dX10_readHeightOf_19 : decode cX10_readHeightOf 19 = .ok (.iconst 1, 1) := by decide +kernel
theorem dX10_readHeightOf_20 : decode cX10_readHeightOf 20 = .ok (.goto 4, 3) := by decide +kernel
theorem dX10_readHeightOf_23 : decode cX10_readHeightOf 23 = .ok (.iconst 0, 1) := by decide +kernel
theorem dX10_readHeightOf_24 : decode cX10_readHeightOf 24 = .ok (.istore_n 1, 1) := by decide +kernel
theorem dX10_readHeightOf_25 : decode cX10_readHeightOf 25 = .ok (.aload_n 0, 1) := by decide +kernel
theorem dX10_readHeightOf_26 : decode cX10_readHeightOf 26 = .ok (.iload_n 1, 1) := by decide +kernel
theorem dX10_readHeightOf_27 : decode cX10_readHeightOf 27 = .ok (.ifCond .eq 12, 3) := by decide +kernel
theorem dX10_readHeightOf_30 : decode cX10_readHeightOf 30 = .ok (.aload_n 0, 1) := by decide +kernel
theorem dX10_readHeightOf_31 : decode cX10_readHeightOf 31 = .ok (.getfield 31, 3) := by decide +kernel
theorem dX10_readHeightOf_34 : decode cX10_readHeightOf 34 = .ok (.iconst 0, 1) := by decide +kernel
theorem dX10_readHeightOf_35 : decode cX10_readHeightOf 35 = .ok (.iaload, 1) := by decide +kernel
theorem dX10_readHeightOf_36 : decode cX10_readHeightOf 36 = .ok (.goto 7, 3) := by decide +kernel
theorem dX10_readHeightOf_39 : decode cX10_readHeightOf 39 = .ok (.aload_n 0, 1) := by decide +kernel
theorem dX10_readHeightOf_40 : decode cX10_readHeightOf 40 = .ok (.getfield 97, 3) := by decide +kernel
theorem dX10_readHeightOf_43 : decode cX10_readHeightOf 43 = .ok (.putfield 97, 3) := by decide +kernel
theorem dX10_readHeightOf_46 : decode cX10_readHeightOf 46 = .ok (.iload_n 1, 1) := by decide +kernel
theorem dX10_readHeightOf_47 : decode cX10_readHeightOf 47 = .ok (.ireturn, 1) := by decide +kernel
theorem dX10_readPersonItem_0 : decode cX10_readPersonItem 0 = .ok (.aload_n 0, 1) := by decide +kernel
theorem dX10_readPersonItem_1 : decode cX10_readPersonItem 1 = .ok (.getfield 66, 3) := by decide +kernel
theorem dX10_readPersonItem_4 : decode cX10_readPersonItem 4 = .ok (.bipush 6, 2) := by decide +kernel
theorem dX10_readPersonItem_6 : decode cX10_readPersonItem 6 = .ok (.if_icmp .eq 59, 3) := by decide +kernel
theorem dX10_readPersonItem_9 : decode cX10_readPersonItem 9 = .ok (.aload_n 0, 1) := by decide +kernel
theorem dX10_readPersonItem_10 : decode cX10_readPersonItem 10 = .ok (.iconst 4, 1) := by decide +kernel
theorem dX10_readPersonItem_11 : decode cX10_readPersonItem 11 = .ok (.invokevirtual 100, 3) := by decide +kernel
theorem dX10_readPersonItem_14 : decode cX10_readPersonItem 14 = .ok (.ifCond .eq 51, 3) := by decide +kernel
theorem dX10_readPersonItem_17 : decode cX10_readPersonItem 17 = .ok (.aload_n 0, 1) := by decide +kernel
theorem dX10_readPersonItem_18 : decode cX10_readPersonItem 18 = .ok (.iconst 0, 1) := by decide +kernel
theorem dX10_readPersonItem_19 : decode cX10_readPersonItem 19 = .ok (.iconst 0, 1) := by decide +kernel
theorem dX10_readPersonItem_20 : decode cX10_readPersonItem 20 = .ok (.iconst 3, 1) := by decide +kernel
theorem dX10_readPersonItem_21 : decode cX10_readPersonItem 21 = .ok (.invokevirtual 103, 3) := by decide +kernel
theorem dX10_readPersonItem_24 : decode cX10_readPersonItem 24 = .ok (.ifCond .eq 41, 3) := by decide +kernel
theorem dX10_readPersonItem_27 : decode cX10_readPersonItem 27 = .ok (.aload_n 0, 1) := by decide +kernel
theorem dX10_readPersonItem_28 : decode cX10_readPersonItem 28 = .ok (.iconst 1, 1) := by decide +kernel
theorem dX10_readPersonItem_29 : decode cX10_readPersonItem 29 = .ok (.iconst 0, 1) := by decide +kernel
theorem dX10_readPersonItem_30 : decode cX10_readPersonItem 30 = .ok (.aload_n 0, 1) := by decide +kernel
theorem dX10_readPersonItem_31 : decode cX10_readPersonItem 31 = .ok (.getfield 97, 3) := by decide +kernel
theorem dX10_readPersonItem_34 : decode cX10_readPersonItem 34 = .ok (.iconst 1, 1) := by decide +kernel
theorem dX10_readPersonItem_35 : decode cX10_readPersonItem 35 = .ok (.isub, 1) := by decide +kernel
theorem dX10_readPersonItem_36 : decode cX10_readPersonItem 36 = .ok (.invokevirtual 103, 3) := by decide +kernel
theorem dX10_readPersonItem_39 : decode cX10_readPersonItem 39 = .ok (.ifCond .eq 26, 3) := by decide +kernel
theorem dX10_readPersonItem_42 : decode cX10_readPersonItem 42 = .ok (.aload_n 0, 1) := by decide +kernel
theorem dX10_readPersonItem_43 : decode cX10_readPersonItem 43 = .ok (.iconst 2, 1) := by decide +kernel
theorem dX10_readPersonItem_44 : decode cX10_readPersonItem 44 = .ok (.bipush 12, 2) := by decide +kernel
theorem dX10_readPersonItem_46 : decode cX10_readPersonItem 46 = .ok (.bipush 60, 2) := by decide +kernel
theorem dX10_readPersonItem_48 : decode cX10_readPersonItem 48 = .ok (.invokevirtual 103, 3) := by decide +kernel
theorem dX10_readPersonItem_51 : decode cX10_readPersonItem 51 = .ok (.ifCond .eq 14, 3) := by decide +kernel
theorem dX10_readPersonItem_54 : decode cX10_readPersonItem 54 = .ok (.aload_n 0, 1) := by decide +kernel
theorem dX10_readPersonItem_55 : decode cX10_readPersonItem 55 = .ok (.iconst 3, 1) := by decide +kernel
theorem dX10_readPersonItem_56 : decode cX10_readPersonItem 56 = .ok (.iconst 0, 1) := by decide +kernel
theorem dX10_readPersonItem_57 : decode cX10_readPersonItem 57 = .ok (.bipush 30, 2) := by decide +kernel
theorem dX10_readPersonItem_59 : decode cX10_readPersonItem 59 = .ok (.invokevirtual 103, 3) := by decide +kernel
theorem dX10_readPersonItem_62 : decode cX10_readPersonItem 62 = .ok (.ifCond .ne 5, 3) := by decide +kernel
theorem dX10_readPersonItem_65 : decode cX10_readPersonItem 65 = .ok (.iconst 0, 1) := by decide +kernel
theorem dX10_readPersonItem_66 : decode cX10_readPersonItem 66 = .ok (.ireturn, 1) := by decide +kernel
theorem dX10_readPersonItem_67 : decode cX10_readPersonItem 67 = .ok (.aload_n 0, 1) := by decide +kernel
theorem dX10_readPersonItem_68 : decode cX10_readPersonItem 68 = .ok (.aload_n 0, 1) := by decide +kernel
theorem dX10_readPersonItem_69 : decode cX10_readPersonItem 69 = .ok (.getfield 31, 3) := by decide +kernel
theorem dX10_readPersonItem_72 : decode cX10_readPersonItem 72 = .ok (.iconst 0, 1) := by decide +kernel
theorem dX10_readPersonItem_73 : decode cX10_readPersonItem 73 = .ok (.iaload, 1) := by decide +kernel
theorem dX10_readPersonItem_74 : decode cX10_readPersonItem 74 = .ok (.aload_n 0, 1) := by decide +kernel
theorem dX10_readPersonItem_75 : decode cX10_readPersonItem 75 = .ok (.getfield 31, 3) := by decide +kernel
theorem dX10_readPersonItem_78 : decode cX10_readPersonItem 78 = .ok (.iconst 1, 1) := by decide +kernel
theorem dX10_readPersonItem_79 : decode cX10_readPersonItem 79 = .ok (.iaload, 1) := by decide +kernel
theorem dX10_readPersonItem_80 : decode cX10_readPersonItem 80 = .ok (.aload_n 0, 1) := by decide +kernel
theorem dX10_readPersonItem_81 : decode cX10_readPersonItem 81 = .ok (.getfield 31, 3) := by decide +kernel
theorem dX10_readPersonItem_84 : decode cX10_readPersonItem 84 = .ok (.iconst 2, 1) := by decide +kernel
theorem dX10_readPersonItem_85 : decode cX10_readPersonItem 85 = .ok (.iaload, 1) := by decide +kernel
theorem dX10_readPersonItem_86 : decode cX10_readPersonItem 86 = .ok (.aload_n 0, 1) := by decide +kernel
theorem dX10_readPersonItem_87 : decode cX10_readPersonItem 87 = .ok (.getfield 31, 3) := by decide +kernel
theorem dX10_readPersonItem_90 : decode cX10_readPersonItem 90 = .ok (.iconst 3, 1) := by decide +kernel
theorem dX10_readPersonItem_91 : decode cX10_readPersonItem 91 = .ok (.iaload, 1) := by decide +kernel
theorem dX10_readPersonItem_92 : decode cX10_readPersonItem 92 = .ok (.invokevirtual 55, 3) := by decide +kernel
theorem dX10_readPersonItem_95 : decode cX10_readPersonItem 95 = .ok (.iconst 1, 1) := by decide +kernel
theorem dX10_readPersonItem_96 : decode cX10_readPersonItem 96 = .ok (.ireturn, 1) := by decide +kernel
theorem dX10_readWorkItem_0 : decode cX10_readWorkItem 0 = .ok (.aload_n 0, 1) := by decide +kernel
theorem dX10_readWorkItem_1 : decode cX10_readWorkItem 1 = .ok (.getfield 70, 3) := by decide +kernel
theorem dX10_readWorkItem_4 : decode cX10_readWorkItem 4 = .ok (.iconst 5, 1) := by decide +kernel
theorem dX10_readWorkItem_5 : decode cX10_readWorkItem 5 = .ok (.if_icmp .eq 36, 3) := by decide +kernel
theorem dX10_readWorkItem_8 : decode cX10_readWorkItem 8 = .ok (.aload_n 0, 1) := by decide +kernel
theorem dX10_readWorkItem_9 : decode cX10_readWorkItem 9 = .ok (.iconst 2, 1) := by decide +kernel
theorem dX10_readWorkItem_10 : decode cX10_readWorkItem 10 = .ok (.invokevirtual 100, 3) := by decide +kernel
theorem dX10_readWorkItem_13 : decode cX10_readWorkItem 13 = .ok (.ifCond .eq 28, 3) := by decide +kernel
theorem dX10_readWorkItem_16 : decode cX10_readWorkItem 16 = .ok (.aload_n 0, 1) := by decide +kernel
theorem dX10_readWorkItem_17 : decode cX10_readWorkItem 17 = .ok (.iconst 0, 1) := by decide +kernel
theorem dX10_readWorkItem_18 : decode cX10_readWorkItem 18 = .ok (.iconst 0, 1) := by decide +kernel
theorem dX10_readWorkItem_19 : decode cX10_readWorkItem 19 = .ok (.aload_n 0, 1) := by decide +kernel
theorem dX10_readWorkItem_20 : decode cX10_readWorkItem 20 = .ok (.getfield 97, 3) := by decide +kernel
theorem dX10_readWorkItem_23 : decode cX10_readWorkItem 23 = .ok (.iconst 1, 1) := by decide +kernel
theorem dX10_readWorkItem_24 : decode cX10_readWorkItem 24 = .ok (.isub, 1) := by decide +kernel
theorem dX10_readWorkItem_25 : decode cX10_readWorkItem 25 = .ok (.invokevirtual 103, 3) := by decide +kernel
theorem dX10_readWorkItem_28 : decode cX10_readWorkItem 28 = .ok (.ifCond .eq 13, 3) := by decide +kernel
theorem dX10_readWorkItem_31 : decode cX10_readWorkItem 31 = .ok (.aload_n 0, 1) := by decide +kernel
theorem dX10_readWorkItem_32 : decode cX10_readWorkItem 32 = .ok (.iconst 1, 1) := by decide +kernel
theorem dX10_readWorkItem_33 : decode cX10_readWorkItem 33 = .ok (.iconst 1, 1) := by decide +kernel
theorem dX10_readWorkItem_34 : decode cX10_readWorkItem 34 = .ok (.iconst 4, 1) := by decide +kernel
theorem dX10_readWorkItem_35 : decode cX10_readWorkItem 35 = .ok (.invokevirtual 103, 3) := by decide +kernel
theorem dX10_readWorkItem_38 : decode cX10_readWorkItem 38 = .ok (.ifCond .ne 5, 3) := by decide +kernel
theorem dX10_readWorkItem_41 : decode cX10_readWorkItem 41 = .ok (.iconst 0, 1) := by decide +kernel
theorem dX10_readWorkItem_42 : decode cX10_readWorkItem 42 = .ok (.ireturn, 1) := by decide +kernel
theorem dX10_readWorkItem_43 : decode cX10_readWorkItem 43 = .ok (.aload_n 0, 1) := by decide +kernel
theorem dX10_readWorkItem_44 : decode cX10_readWorkItem 44 = .ok (.aload_n 0, 1) := by decide +kernel
theorem dX10_readWorkItem_45 : decode cX10_readWorkItem 45 = .ok (.getfield 31, 3) := by decide +kernel
theorem dX10_readWorkItem_48 : decode cX10_readWorkItem 48 = .ok (.iconst 0, 1) := by decide +kernel
theorem dX10_readWorkItem_49 : decode cX10_readWorkItem 49 = .ok (.iaload, 1) := by decide +kernel
theorem dX10_readWorkItem_50 : decode cX10_readWorkItem 50 = .ok (.aload_n 0, 1) := by decide +kernel
theorem dX10_readWorkItem_51 : decode cX10_readWorkItem 51 = .ok (.getfield 31, 3) := by decide +kernel
theorem dX10_readWorkItem_54 : decode cX10_readWorkItem 54 = .ok (.iconst 1, 1) := by decide +kernel
theorem dX10_readWorkItem_55 : decode cX10_readWorkItem 55 = .ok (.iaload, 1) := by decide +kernel
theorem dX10_readWorkItem_56 : decode cX10_readWorkItem 56 = .ok (.invokevirtual 59, 3) := by decide +kernel
theorem dX10_readWorkItem_59 : decode cX10_readWorkItem 59 = .ok (.iconst 1, 1) := by decide +kernel
theorem dX10_readWorkItem_60 : decode cX10_readWorkItem 60 = .ok (.ireturn, 1) := by decide +kernel
theorem dX10_readItem_0 : decode cX10_readItem 0 = .ok (.aload_n 0, 1) := by decide +kernel
theorem dX10_readItem_1 : decode cX10_readItem 1 = .ok (.aload_n 0, 1) := by decide +kernel
theorem dX10_readItem_2 : decode cX10_readItem 2 = .ok (.getfield 86, 3) := by decide +kernel
theorem dX10_readItem_5 : decode cX10_readItem 5 = .ok (.invokevirtual 89, 3) := by decide +kernel
theorem dX10_readItem_8 : decode cX10_readItem 8 = .ok (.istore_n 1, 1) := by decide +kernel
theorem dX10_readItem_9 : decode cX10_readItem 9 = .ok (.aload_n 0, 1) := by decide +kernel
theorem dX10_readItem_10 : decode cX10_readItem 10 = .ok (.getfield 86, 3) := by decide +kernel
theorem dX10_readItem_13 : decode cX10_readItem 13 = .ok (.ifCond .ne 7, 3) := by decide +kernel
theorem dX10_readItem_16 : decode cX10_readItem 16 = .ok (.iconst 1, 1) := by decide +kernel
theorem dX10_readItem_17 : decode cX10_readItem 17 = .ok (.goto 4, 3) := by decide +kernel
theorem dX10_readItem_20 : decode cX10_readItem 20 = .ok (.iconst 0, 1) := by decide +kernel
theorem dX10_readItem_21 : decode cX10_readItem 21 = .ok (.istore_n 2, 1) := by decide +kernel
theorem dX10_readItem_22 : decode cX10_readItem 22 = .ok (.aload_n 0, 1) := by decide +kernel
theorem dX10_readItem_23 : decode cX10_readItem 23 = .ok (.dup, 1) := by decide +kernel
theorem dX10_readItem_24 : decode cX10_readItem 24 = .ok (.getfield 86, 3) := by decide +kernel
theorem dX10_readItem_27 : decode cX10_readItem 27 = .ok (.iconst 1, 1) := by decide +kernel
theorem dX10_readItem_28 : decode cX10_readItem 28 = .ok (.iadd, 1) := by decide +kernel
theorem dX10_readItem_29 : decode cX10_readItem 29 = .ok (.putfield 86, 3) := by decide +kernel
theorem dX10_readItem_32 : decode cX10_readItem 32 = .ok (.iload_n 1, 1) := by decide +kernel
theorem dX10_readItem_33 : decode cX10_readItem 33 = .ok (.lookupswitch 62 #[(104, 35), (112, 52), (119, 57)], 35) := by decide +kernel
theorem dX10_readItem_68 : decode cX10_readItem 68 = .ok (.iload_n 2, 1) := by decide +kernel
theorem dX10_readItem_69 : decode cX10_readItem 69 = .ok (.ifCond .eq 14, 3) := by decide +kernel
theorem dX10_readItem_72 : decode cX10_readItem 72 = .ok (.aload_n 0, 1) := by decide +kernel
theorem dX10_readItem_73 : decode cX10_readItem 73 = .ok (.invokevirtual 106, 3) := by decide +kernel
theorem dX10_readItem_76 : decode cX10_readItem 76 = .ok (.ifCond .eq 7, 3) := by decide +kernel
theorem dX10_readItem_79 : decode cX10_readItem 79 = .ok (.iconst 1, 1) := by decide +kernel
theorem dX10_readItem_80 : decode cX10_readItem 80 = .ok (.goto 4, 3) := by decide +kernel
theorem dX10_readItem_83 : decode cX10_readItem 83 = .ok (.iconst 0, 1) := by decide +kernel
theorem dX10_readItem_84 : decode cX10_readItem 84 = .ok (.ireturn, 1) := by decide +kernel
theorem dX10_readItem_85 : decode cX10_readItem 85 = .ok (.aload_n 0, 1) := by decide +kernel
theorem dX10_readItem_86 : decode cX10_readItem 86 = .ok (.invokevirtual 110, 3) := by decide +kernel
theorem dX10_readItem_89 : decode cX10_readItem 89 = .ok (.ireturn, 1) := by decide +kernel
theorem dX10_readItem_90 : decode cX10_readItem 90 = .ok (.aload_n 0, 1) := by decide +kernel
theorem dX10_readItem_91 : decode cX10_readItem 91 = .ok (.invokevirtual 113, 3) := by decide +kernel
theorem dX10_readItem_94 : decode cX10_readItem 94 = .ok (.ireturn, 1) := by decide +kernel
theorem dX10_readItem_95 : decode cX10_readItem 95 = .ok (.iconst 0, 1) := by decide +kernel
theorem dX10_readItem_96 : decode cX10_readItem 96 = .ok (.ireturn, 1) := by decide +kernel
theorem dX10_fault_0 : decode cX10_fault 0 = .ok (.aload_n 0, 1) := by decide +kernel
theorem dX10_fault_1 : decode cX10_fault 1 = .ok (.iconst 0, 1) := by decide +kernel
theorem dX10_fault_2 : decode cX10_fault 2 = .ok (.putfield 86, 3) := by decide +kernel
theorem dX10_fault_5 : decode cX10_fault 5 = .ok (.aload_n 0, 1) := by decide +kernel
theorem dX10_fault_6 : decode cX10_fault 6 = .ok (.invokevirtual 52, 3) := by decide +kernel
theorem dX10_fault_9 : decode cX10_fault 9 = .ok (.aload_n 0, 1) := by decide +kernel
theorem dX10_fault_10 : decode cX10_fault 10 = .ok (.getfield 86, 3) := by decide +kernel
theorem dX10_fault_13 : decode cX10_fault 13 = .ok (.aload_n 0, 1) := by decide +kernel
theorem dX10_fault_14 : decode cX10_fault 14 = .ok (.getfield 83, 3) := by decide +kernel
theorem dX10_fault_17 : decode cX10_fault 17 = .ok (.if_icmp .ge 20, 3) := by decide +kernel
theorem dX10_fault_20 : decode cX10_fault 20 = .ok (.aload_n 0, 1) := by decide +kernel
theorem dX10_fault_21 : decode cX10_fault 21 = .ok (.getfield 86, 3) := by decide +kernel
theorem dX10_fault_24 : decode cX10_fault 24 = .ok (.istore_n 1, 1) := by decide +kernel
theorem dX10_fault_25 : decode cX10_fault 25 = .ok (.aload_n 0, 1) := by decide +kernel
theorem dX10_fault_26 : decode cX10_fault 26 = .ok (.invokevirtual 116, 3) := by decide +kernel
theorem dX10_fault_29 : decode cX10_fault 29 = .ok (.ifCond .ne 5, 3) := by decide +kernel
theorem dX10_fault_32 : decode cX10_fault 32 = .ok (.iload_n 1, 1) := by decide +kernel
theorem dX10_fault_33 : decode cX10_fault 33 = .ok (.ireturn, 1) := by decide +kernel
theorem dX10_fault_34 : decode cX10_fault 34 = .ok (.goto (-25), 3) := by decide +kernel
theorem dX10_fault_37 : decode cX10_fault 37 = .ok (.bipush (-4), 2) := by decide +kernel
theorem dX10_fault_39 : decode cX10_fault 39 = .ok (.ireturn, 1) := by decide +kernel
theorem dX10_lay_0 : decode cX10_lay 0 = .ok (.aload_n 0, 1) := by decide +kernel
theorem dX10_lay_1 : decode cX10_lay 1 = .ok (.invokevirtual 119, 3) := by decide +kernel
theorem dX10_lay_4 : decode cX10_lay 4 = .ok (.bipush (-4), 2) := by decide +kernel
theorem dX10_lay_6 : decode cX10_lay 6 = .ok (.if_icmp .ne 10, 3) := by decide +kernel
theorem dX10_lay_9 : decode cX10_lay 9 = .ok (.aload_n 0, 1) := by decide +kernel
theorem dX10_lay_10 : decode cX10_lay 10 = .ok (.getfield 66, 3) := by decide +kernel
theorem dX10_lay_13 : decode cX10_lay 13 = .ok (.ifCond .ne 6, 3) := by decide +kernel
theorem dX10_lay_16 : decode cX10_lay 16 = .ok (.bipush (-2), 2) := by decide +kernel
theorem dX10_lay_18 : decode cX10_lay 18 = .ok (.ireturn, 1) := by decide +kernel
theorem dX10_lay_19 : decode cX10_lay 19 = .ok (.aload_n 0, 1) := by decide +kernel
theorem dX10_lay_20 : decode cX10_lay 20 = .ok (.invokevirtual 63, 3) := by decide +kernel
theorem dX10_lay_23 : decode cX10_lay 23 = .ok (.aload_n 0, 1) := by decide +kernel
theorem dX10_lay_24 : decode cX10_lay 24 = .ok (.getfield 73, 3) := by decide +kernel
theorem dX10_lay_27 : decode cX10_lay 27 = .ok (.ireturn, 1) := by decide +kernel
theorem dX10_copies_0 : decode cX10_copies 0 = .ok (.iconst 0, 1) := by decide +kernel
theorem dX10_copies_1 : decode cX10_copies 1 = .ok (.istore 5, 2) := by decide +kernel
theorem dX10_copies_3 : decode cX10_copies 3 = .ok (.iload 5, 2) := by decide +kernel
theorem dX10_copies_5 : decode cX10_copies 5 = .ok (.iload 4, 2) := by decide +kernel
theorem dX10_copies_7 : decode cX10_copies 7 = .ok (.if_icmp .ge 21, 3) := by decide +kernel
theorem dX10_copies_10 : decode cX10_copies 10 = .ok (.aload_n 0, 1) := by decide +kernel
theorem dX10_copies_11 : decode cX10_copies 11 = .ok (.iload_n 1, 1) := by decide +kernel
theorem dX10_copies_12 : decode cX10_copies 12 = .ok (.iload 5, 2) := by decide +kernel
theorem dX10_copies_14 : decode cX10_copies 14 = .ok (.iadd, 1) := by decide +kernel
theorem dX10_copies_15 : decode cX10_copies 15 = .ok (.aload_n 2, 1) := by decide +kernel
theorem dX10_copies_16 : decode cX10_copies 16 = .ok (.iload_n 3, 1) := by decide +kernel
theorem dX10_copies_17 : decode cX10_copies 17 = .ok (.iload 5, 2) := by decide +kernel
theorem dX10_copies_19 : decode cX10_copies 19 = .ok (.iadd, 1) := by decide +kernel
theorem dX10_copies_20 : decode cX10_copies 20 = .ok (.iaload, 1) := by decide +kernel
theorem dX10_copies_21 : decode cX10_copies 21 = .ok (.iastore, 1) := by decide +kernel
theorem dX10_copies_22 : decode cX10_copies 22 = .ok (.iinc 5 1, 3) := by decide +kernel
theorem dX10_copies_25 : decode cX10_copies 25 = .ok (.goto (-22), 3) := by decide +kernel
theorem dX10_copies_28 : decode cX10_copies 28 = .ok (.return_, 1) := by decide +kernel
theorem dX10_settles_0 : decode cX10_settles 0 = .ok (.aload_n 0, 1) := by decide +kernel
theorem dX10_settles_1 : decode cX10_settles 1 = .ok (.aload_n 0, 1) := by decide +kernel
theorem dX10_settles_2 : decode cX10_settles 2 = .ok (.getfield 97, 3) := by decide +kernel
theorem dX10_settles_5 : decode cX10_settles 5 = .ok (.putfield 80, 3) := by decide +kernel
theorem dX10_settles_8 : decode cX10_settles 8 = .ok (.aload_n 0, 1) := by decide +kernel
theorem dX10_settles_9 : decode cX10_settles 9 = .ok (.aload_n 0, 1) := by decide +kernel
theorem dX10_settles_10 : decode cX10_settles 10 = .ok (.getfield 66, 3) := by decide +kernel
theorem dX10_settles_13 : decode cX10_settles 13 = .ok (.putfield 73, 3) := by decide +kernel
theorem dX10_settles_16 : decode cX10_settles 16 = .ok (.aload_n 0, 1) := by decide +kernel
theorem dX10_settles_17 : decode cX10_settles 17 = .ok (.getfield 7, 3) := by decide +kernel
theorem dX10_settles_20 : decode cX10_settles 20 = .ok (.iconst 0, 1) := by decide +kernel
theorem dX10_settles_21 : decode cX10_settles 21 = .ok (.aload_n 0, 1) := by decide +kernel
theorem dX10_settles_22 : decode cX10_settles 22 = .ok (.getfield 34, 3) := by decide +kernel
theorem dX10_settles_25 : decode cX10_settles 25 = .ok (.iconst 0, 1) := by decide +kernel
theorem dX10_settles_26 : decode cX10_settles 26 = .ok (.bipush 6, 2) := by decide +kernel
theorem dX10_settles_28 : decode cX10_settles 28 = .ok (.invokestatic 123, 3) := by decide +kernel
theorem dX10_settles_31 : decode cX10_settles 31 = .ok (.aload_n 0, 1) := by decide +kernel
theorem dX10_settles_32 : decode cX10_settles 32 = .ok (.aload_n 0, 1) := by decide +kernel
theorem dX10_settles_33 : decode cX10_settles 33 = .ok (.getfield 70, 3) := by decide +kernel
theorem dX10_settles_36 : decode cX10_settles 36 = .ok (.putfield 127, 3) := by decide +kernel
theorem dX10_settles_39 : decode cX10_settles 39 = .ok (.aload_n 0, 1) := by decide +kernel
theorem dX10_settles_40 : decode cX10_settles 40 = .ok (.getfield 13, 3) := by decide +kernel
theorem dX10_settles_43 : decode cX10_settles 43 = .ok (.iconst 0, 1) := by decide +kernel
theorem dX10_settles_44 : decode cX10_settles 44 = .ok (.aload_n 0, 1) := by decide +kernel
theorem dX10_settles_45 : decode cX10_settles 45 = .ok (.getfield 40, 3) := by decide +kernel
theorem dX10_settles_48 : decode cX10_settles 48 = .ok (.iconst 0, 1) := by decide +kernel
theorem dX10_settles_49 : decode cX10_settles 49 = .ok (.bipush 10, 2) := by decide +kernel
theorem dX10_settles_51 : decode cX10_settles 51 = .ok (.invokestatic 123, 3) := by decide +kernel
theorem dX10_settles_54 : decode cX10_settles 54 = .ok (.aload_n 0, 1) := by decide +kernel
theorem dX10_settles_55 : decode cX10_settles 55 = .ok (.getfield 16, 3) := by decide +kernel
theorem dX10_settles_58 : decode cX10_settles 58 = .ok (.iconst 0, 1) := by decide +kernel
theorem dX10_settles_59 : decode cX10_settles 59 = .ok (.aload_n 0, 1) := by decide +kernel
theorem dX10_settles_60 : decode cX10_settles 60 = .ok (.getfield 37, 3) := by decide +kernel
theorem dX10_settles_63 : decode cX10_settles 63 = .ok (.iconst 0, 1) := by decide +kernel
theorem dX10_settles_64 : decode cX10_settles 64 = .ok (.bipush 21, 2) := by decide +kernel
theorem dX10_settles_66 : decode cX10_settles 66 = .ok (.invokestatic 123, 3) := by decide +kernel
theorem dX10_settles_69 : decode cX10_settles 69 = .ok (.aload_n 0, 1) := by decide +kernel
theorem dX10_settles_70 : decode cX10_settles 70 = .ok (.iconst 0, 1) := by decide +kernel
theorem dX10_settles_71 : decode cX10_settles 71 = .ok (.putfield 130, 3) := by decide +kernel
theorem dX10_settles_74 : decode cX10_settles 74 = .ok (.aload_n 0, 1) := by decide +kernel
theorem dX10_settles_75 : decode cX10_settles 75 = .ok (.iconst 0, 1) := by decide +kernel
theorem dX10_settles_76 : decode cX10_settles 76 = .ok (.putfield 133, 3) := by decide +kernel
theorem dX10_settles_79 : decode cX10_settles 79 = .ok (.aload_n 0, 1) := by decide +kernel
theorem dX10_settles_80 : decode cX10_settles 80 = .ok (.iconst 0, 1) := by decide +kernel
theorem dX10_settles_81 : decode cX10_settles 81 = .ok (.putfield 136, 3) := by decide +kernel
theorem dX10_settles_84 : decode cX10_settles 84 = .ok (.return_, 1) := by decide +kernel
theorem dX10_asItIs_0 : decode cX10_asItIs 0 = .ok (.aload_n 0, 1) := by decide +kernel
theorem dX10_asItIs_1 : decode cX10_asItIs 1 = .ok (.getfield 43, 3) := by decide +kernel
theorem dX10_asItIs_4 : decode cX10_asItIs 4 = .ok (.iconst 0, 1) := by decide +kernel
theorem dX10_asItIs_5 : decode cX10_asItIs 5 = .ok (.aload_n 0, 1) := by decide +kernel
theorem dX10_asItIs_6 : decode cX10_asItIs 6 = .ok (.getfield 16, 3) := by decide +kernel
theorem dX10_asItIs_9 : decode cX10_asItIs 9 = .ok (.iconst 0, 1) := by decide +kernel
theorem dX10_asItIs_10 : decode cX10_asItIs 10 = .ok (.bipush 21, 2) := by decide +kernel
theorem dX10_asItIs_12 : decode cX10_asItIs 12 = .ok (.invokestatic 123, 3) := by decide +kernel
theorem dX10_asItIs_15 : decode cX10_asItIs 15 = .ok (.return_, 1) := by decide +kernel
theorem dX10_fearAs_0 : decode cX10_fearAs 0 = .ok (.iconst 2, 1) := by decide +kernel
theorem dX10_fearAs_1 : decode cX10_fearAs 1 = .ok (.aload_n 0, 1) := by decide +kernel
theorem dX10_fearAs_2 : decode cX10_fearAs 2 = .ok (.getfield 80, 3) := by decide +kernel
theorem dX10_fearAs_5 : decode cX10_fearAs 5 = .ok (.iconst 1, 1) := by decide +kernel
theorem dX10_fearAs_6 : decode cX10_fearAs 6 = .ok (.isub, 1) := by decide +kernel
theorem dX10_fearAs_7 : decode cX10_fearAs 7 = .ok (.iload_n 2, 1) := by decide +kernel
theorem dX10_fearAs_8 : decode cX10_fearAs 8 = .ok (.isub, 1) := by decide +kernel
theorem dX10_fearAs_9 : decode cX10_fearAs 9 = .ok (.imul, 1) := by decide +kernel
theorem dX10_fearAs_10 : decode cX10_fearAs 10 = .ok (.istore 4, 2) := by decide +kernel
theorem dX10_fearAs_12 : decode cX10_fearAs 12 = .ok (.iload_n 3, 1) := by decide +kernel
theorem dX10_fearAs_13 : decode cX10_fearAs 13 = .ok (.iconst 1, 1) := by decide +kernel
theorem dX10_fearAs_14 : decode cX10_fearAs 14 = .ok (.if_icmp .ne 8, 3) := by decide +kernel
theorem dX10_fearAs_17 : decode cX10_fearAs 17 = .ok (.iload 4, 2) := by decide +kernel
theorem dX10_fearAs_19 : decode cX10_fearAs 19 = .ok (.iconst 2, 1) := by decide +kernel
theorem dX10_fearAs_20 : decode cX10_fearAs 20 = .ok (.idiv, 1) := by decide +kernel
theorem dX10_fearAs_21 : decode cX10_fearAs 21 = .ok (.ireturn, 1) := by decide +kernel
theorem dX10_fearAs_22 : decode cX10_fearAs 22 = .ok (.iload_n 3, 1) := by decide +kernel
theorem dX10_fearAs_23 : decode cX10_fearAs 23 = .ok (.iconst 2, 1) := by decide +kernel
theorem dX10_fearAs_24 : decode cX10_fearAs 24 = .ok (.if_icmp .ne 40, 3) := by decide +kernel
theorem dX10_fearAs_27 : decode cX10_fearAs 27 = .ok (.aload_n 0, 1) := by decide +kernel
theorem dX10_fearAs_28 : decode cX10_fearAs 28 = .ok (.getfield 43, 3) := by decide +kernel
theorem dX10_fearAs_31 : decode cX10_fearAs 31 = .ok (.bipush 9, 2) := by decide +kernel
theorem dX10_fearAs_33 : decode cX10_fearAs 33 = .ok (.iload_n 1, 1) := by decide +kernel
theorem dX10_fearAs_34 : decode cX10_fearAs 34 = .ok (.iadd, 1) := by decide +kernel
theorem dX10_fearAs_35 : decode cX10_fearAs 35 = .ok (.iaload, 1) := by decide +kernel
theorem dX10_fearAs_36 : decode cX10_fearAs 36 = .ok (.bipush 20, 2) := by decide +kernel
theorem dX10_fearAs_38 : decode cX10_fearAs 38 = .ok (.if_icmp .ge 8, 3) := by decide +kernel
theorem dX10_fearAs_41 : decode cX10_fearAs 41 = .ok (.iload 4, 2) := by decide +kernel
theorem dX10_fearAs_43 : decode cX10_fearAs 43 = .ok (.goto 20, 3) := by decide +kernel
theorem dX10_fearAs_46 : decode cX10_fearAs 46 = .ok (.iload 4, 2) := by decide +kernel
theorem dX10_fearAs_48 : decode cX10_fearAs 48 = .ok (.aload_n 0, 1) := by decide +kernel
theorem dX10_fearAs_49 : decode cX10_fearAs 49 = .ok (.getfield 43, 3) := by decide +kernel
theorem dX10_fearAs_52 : decode cX10_fearAs 52 = .ok (.bipush 9, 2) := by decide +kernel
theorem dX10_fearAs_54 : decode cX10_fearAs 54 = .ok (.iload_n 1, 1) := by decide +kernel
theorem dX10_fearAs_55 : decode cX10_fearAs 55 = .ok (.iadd, 1) := by decide +kernel
theorem dX10_fearAs_56 : decode cX10_fearAs 56 = .ok (.iaload, 1) := by decide +kernel
theorem dX10_fearAs_57 : decode cX10_fearAs 57 = .ok (.bipush 20, 2) := by decide +kernel
theorem dX10_fearAs_59 : decode cX10_fearAs 59 = .ok (.isub, 1) := by decide +kernel
theorem dX10_fearAs_60 : decode cX10_fearAs 60 = .ok (.iconst 5, 1) := by decide +kernel
theorem dX10_fearAs_61 : decode cX10_fearAs 61 = .ok (.idiv, 1) := by decide +kernel
theorem dX10_fearAs_62 : decode cX10_fearAs 62 = .ok (.iadd, 1) := by decide +kernel
theorem dX10_fearAs_63 : decode cX10_fearAs 63 = .ok (.ireturn, 1) := by decide +kernel
theorem dX10_fearAs_64 : decode cX10_fearAs 64 = .ok (.iconst 0, 1) := by decide +kernel
theorem dX10_fearAs_65 : decode cX10_fearAs 65 = .ok (.istore 5, 2) := by decide +kernel
theorem dX10_fearAs_67 : decode cX10_fearAs 67 = .ok (.iload 5, 2) := by decide +kernel
theorem dX10_fearAs_69 : decode cX10_fearAs 69 = .ok (.aload_n 0, 1) := by decide +kernel
theorem dX10_fearAs_70 : decode cX10_fearAs 70 = .ok (.getfield 73, 3) := by decide +kernel
theorem dX10_fearAs_73 : decode cX10_fearAs 73 = .ok (.if_icmp .ge 57, 3) := by decide +kernel
theorem dX10_fearAs_76 : decode cX10_fearAs 76 = .ok (.iload_n 3, 1) := by decide +kernel
theorem dX10_fearAs_77 : decode cX10_fearAs 77 = .ok (.iconst 3, 1) := by decide +kernel
theorem dX10_fearAs_78 : decode cX10_fearAs 78 = .ok (.if_icmp .ne 52, 3) := by decide +kernel
theorem dX10_fearAs_81 : decode cX10_fearAs 81 = .ok (.iload 4, 2) := by decide +kernel
theorem dX10_fearAs_83 : decode cX10_fearAs 83 = .ok (.iload 5, 2) := by decide +kernel
theorem dX10_fearAs_85 : decode cX10_fearAs 85 = .ok (.iload_n 1, 1) := by decide +kernel
theorem dX10_fearAs_86 : decode cX10_fearAs 86 = .ok (.if_icmp .eq 34, 3) := by decide +kernel
theorem dX10_fearAs_89 : decode cX10_fearAs 89 = .ok (.aload_n 0, 1) := by decide +kernel
theorem dX10_fearAs_90 : decode cX10_fearAs 90 = .ok (.getfield 43, 3) := by decide +kernel
theorem dX10_fearAs_93 : decode cX10_fearAs 93 = .ok (.iconst 3, 1) := by decide +kernel
theorem dX10_fearAs_94 : decode cX10_fearAs 94 = .ok (.iload 5, 2) := by decide +kernel
theorem dX10_fearAs_96 : decode cX10_fearAs 96 = .ok (.iadd, 1) := by decide +kernel
theorem dX10_fearAs_97 : decode cX10_fearAs 97 = .ok (.iaload, 1) := by decide +kernel
theorem dX10_fearAs_98 : decode cX10_fearAs 98 = .ok (.iload_n 2, 1) := by decide +kernel
theorem dX10_fearAs_99 : decode cX10_fearAs 99 = .ok (.if_icmp .ne 21, 3) := by decide +kernel
theorem dX10_fearAs_102 : decode cX10_fearAs 102 = .ok (.aload_n 0, 1) := by decide +kernel
theorem dX10_fearAs_103 : decode cX10_fearAs 103 = .ok (.getfield 43, 3) := by decide +kernel
theorem dX10_fearAs_106 : decode cX10_fearAs 106 = .ok (.iconst 1, 1) := by decide +kernel
theorem dX10_fearAs_107 : decode cX10_fearAs 107 = .ok (.iaload, 1) := by decide +kernel
theorem dX10_fearAs_108 : decode cX10_fearAs 108 = .ok (.iload 5, 2) := by decide +kernel
theorem dX10_fearAs_110 : decode cX10_fearAs 110 = .ok (.invokestatic 139, 3) := by decide +kernel
theorem dX10_fearAs_113 : decode cX10_fearAs 113 = .ok (.ifCond .ne 7, 3) := by decide +kernel
theorem dX10_fearAs_116 : decode cX10_fearAs 116 = .ok (.iconst 2, 1) := by decide +kernel
theorem dX10_fearAs_117 : decode cX10_fearAs 117 = .ok (.goto 4, 3) := by decide +kernel
theorem dX10_fearAs_120 : decode cX10_fearAs 120 = .ok (.iconst 0, 1) := by decide +kernel
theorem dX10_fearAs_121 : decode cX10_fearAs 121 = .ok (.isub, 1) := by decide +kernel
theorem dX10_fearAs_122 : decode cX10_fearAs 122 = .ok (.istore 4, 2) := by decide +kernel
theorem dX10_fearAs_124 : decode cX10_fearAs 124 = .ok (.iinc 5 1, 3) := by decide +kernel
theorem dX10_fearAs_127 : decode cX10_fearAs 127 = .ok (.goto (-60), 3) := by decide +kernel
theorem dX10_fearAs_130 : decode cX10_fearAs 130 = .ok (.iload 4, 2) := by decide +kernel
theorem dX10_fearAs_132 : decode cX10_fearAs 132 = .ok (.ifCond .ge 7, 3) := by decide +kernel
theorem dX10_fearAs_135 : decode cX10_fearAs 135 = .ok (.iconst 0, 1) := by decide +kernel
theorem dX10_fearAs_136 : decode cX10_fearAs 136 = .ok (.goto 5, 3) := by decide +kernel
theorem dX10_fearAs_139 : decode cX10_fearAs 139 = .ok (.iload 4, 2) := by decide +kernel
theorem dX10_fearAs_141 : decode cX10_fearAs 141 = .ok (.ireturn, 1) := by decide +kernel
theorem dX10_fearOf_0 : decode cX10_fearOf 0 = .ok (.aload_n 0, 1) := by decide +kernel
theorem dX10_fearOf_1 : decode cX10_fearOf 1 = .ok (.iload_n 1, 1) := by decide +kernel
theorem dX10_fearOf_2 : decode cX10_fearOf 2 = .ok (.aload_n 0, 1) := by decide +kernel
theorem dX10_fearOf_3 : decode cX10_fearOf 3 = .ok (.getfield 43, 3) := by decide +kernel
theorem dX10_fearOf_6 : decode cX10_fearOf 6 = .ok (.iconst 3, 1) := by decide +kernel
theorem dX10_fearOf_7 : decode cX10_fearOf 7 = .ok (.iload_n 1, 1) := by decide +kernel
theorem dX10_fearOf_8 : decode cX10_fearOf 8 = .ok (.iadd, 1) := by decide +kernel
theorem dX10_fearOf_9 : decode cX10_fearOf 9 = .ok (.iaload, 1) := by decide +kernel
theorem dX10_fearOf_10 : decode cX10_fearOf 10 = .ok (.aload_n 0, 1) := by decide +kernel
theorem dX10_fearOf_11 : decode cX10_fearOf 11 = .ok (.getfield 7, 3) := by decide +kernel
theorem dX10_fearOf_14 : decode cX10_fearOf 14 = .ok (.iload_n 1, 1) := by decide +kernel
theorem dX10_fearOf_15 : decode cX10_fearOf 15 = .ok (.iaload, 1) := by decide +kernel
theorem dX10_fearOf_16 : decode cX10_fearOf 16 = .ok (.invokevirtual 143, 3) := by decide +kernel
theorem dX10_fearOf_19 : decode cX10_fearOf 19 = .ok (.ireturn, 1) := by decide +kernel
theorem dX10_frozen_0 : decode cX10_frozen 0 = .ok (.iconst 0, 1) := by decide +kernel
theorem dX10_frozen_1 : decode cX10_frozen 1 = .ok (.istore_n 1, 1) := by decide +kernel
theorem dX10_frozen_2 : decode cX10_frozen 2 = .ok (.iconst 0, 1) := by decide +kernel
theorem dX10_frozen_3 : decode cX10_frozen 3 = .ok (.istore_n 2, 1) := by decide +kernel
theorem dX10_frozen_4 : decode cX10_frozen 4 = .ok (.iload_n 2, 1) := by decide +kernel
theorem dX10_frozen_5 : decode cX10_frozen 5 = .ok (.aload_n 0, 1) := by decide +kernel
theorem dX10_frozen_6 : decode cX10_frozen 6 = .ok (.getfield 73, 3) := by decide +kernel
theorem dX10_frozen_9 : decode cX10_frozen 9 = .ok (.if_icmp .ge 49, 3) := by decide +kernel
theorem dX10_frozen_12 : decode cX10_frozen 12 = .ok (.iload_n 1, 1) := by decide +kernel
theorem dX10_frozen_13 : decode cX10_frozen 13 = .ok (.aload_n 0, 1) := by decide +kernel
theorem dX10_frozen_14 : decode cX10_frozen 14 = .ok (.getfield 43, 3) := by decide +kernel
theorem dX10_frozen_17 : decode cX10_frozen 17 = .ok (.iconst 1, 1) := by decide +kernel
theorem dX10_frozen_18 : decode cX10_frozen 18 = .ok (.iaload, 1) := by decide +kernel
theorem dX10_frozen_19 : decode cX10_frozen 19 = .ok (.iload_n 2, 1) := by decide +kernel
theorem dX10_frozen_20 : decode cX10_frozen 20 = .ok (.invokestatic 139, 3) := by decide +kernel
theorem dX10_frozen_23 : decode cX10_frozen 23 = .ok (.ifCond .ne 26, 3) := by decide +kernel
theorem dX10_frozen_26 : decode cX10_frozen 26 = .ok (.aload_n 0, 1) := by decide +kernel
theorem dX10_frozen_27 : decode cX10_frozen 27 = .ok (.iload_n 2, 1) := by decide +kernel
theorem dX10_frozen_28 : decode cX10_frozen 28 = .ok (.invokevirtual 147, 3) := by decide +kernel
theorem dX10_frozen_31 : decode cX10_frozen 31 = .ok (.aload_n 0, 1) := by decide +kernel
theorem dX10_frozen_32 : decode cX10_frozen 32 = .ok (.getfield 43, 3) := by decide +kernel
theorem dX10_frozen_35 : decode cX10_frozen 35 = .ok (.bipush 15, 2) := by decide +kernel
theorem dX10_frozen_37 : decode cX10_frozen 37 = .ok (.iload_n 2, 1) := by decide +kernel
theorem dX10_frozen_38 : decode cX10_frozen 38 = .ok (.iadd, 1) := by decide +kernel
theorem dX10_frozen_39 : decode cX10_frozen 39 = .ok (.iaload, 1) := by decide +kernel
theorem dX10_frozen_40 : decode cX10_frozen 40 = .ok (.if_icmp .le 9, 3) := by decide +kernel
theorem dX10_frozen_43 : decode cX10_frozen 43 = .ok (.iconst 1, 1) := by decide +kernel
theorem dX10_frozen_44 : decode cX10_frozen 44 = .ok (.iload_n 2, 1) := by decide +kernel
theorem dX10_frozen_45 : decode cX10_frozen 45 = .ok (.ishl, 1) := by decide +kernel
theorem dX10_frozen_46 : decode cX10_frozen 46 = .ok (.goto 4, 3) := by decide +kernel
theorem dX10_frozen_49 : decode cX10_frozen 49 = .ok (.iconst 0, 1) := by decide +kernel
theorem dX10_frozen_50 : decode cX10_frozen 50 = .ok (.ior, 1) := by decide +kernel
theorem dX10_frozen_51 : decode cX10_frozen 51 = .ok (.istore_n 1, 1) := by decide +kernel
theorem dX10_frozen_52 : decode cX10_frozen 52 = .ok (.iinc 2 1, 3) := by decide +kernel
theorem dX10_frozen_55 : decode cX10_frozen 55 = .ok (.goto (-51), 3) := by decide +kernel
theorem dX10_frozen_58 : decode cX10_frozen 58 = .ok (.iload_n 1, 1) := by decide +kernel
theorem dX10_frozen_59 : decode cX10_frozen 59 = .ok (.ireturn, 1) := by decide +kernel
theorem dX10_isDone_0 : decode cX10_isDone 0 = .ok (.iconst 0, 1) := by decide +kernel
theorem dX10_isDone_1 : decode cX10_isDone 1 = .ok (.istore_n 3, 1) := by decide +kernel
theorem dX10_isDone_2 : decode cX10_isDone 2 = .ok (.iconst 0, 1) := by decide +kernel
theorem dX10_isDone_3 : decode cX10_isDone 3 = .ok (.istore 4, 2) := by decide +kernel
theorem dX10_isDone_5 : decode cX10_isDone 5 = .ok (.iload 4, 2) := by decide +kernel
theorem dX10_isDone_7 : decode cX10_isDone 7 = .ok (.aload_n 0, 1) := by decide +kernel
theorem dX10_isDone_8 : decode cX10_isDone 8 = .ok (.getfield 73, 3) := by decide +kernel
theorem dX10_isDone_11 : decode cX10_isDone 11 = .ok (.if_icmp .ge 53, 3) := by decide +kernel
theorem dX10_isDone_14 : decode cX10_isDone 14 = .ok (.iload_n 3, 1) := by decide +kernel
theorem dX10_isDone_15 : decode cX10_isDone 15 = .ok (.aload_n 0, 1) := by decide +kernel
theorem dX10_isDone_16 : decode cX10_isDone 16 = .ok (.getfield 43, 3) := by decide +kernel
theorem dX10_isDone_19 : decode cX10_isDone 19 = .ok (.iconst 3, 1) := by decide +kernel
theorem dX10_isDone_20 : decode cX10_isDone 20 = .ok (.iload 4, 2) := by decide +kernel
theorem dX10_isDone_22 : decode cX10_isDone 22 = .ok (.iadd, 1) := by decide +kernel
theorem dX10_isDone_23 : decode cX10_isDone 23 = .ok (.iaload, 1) := by decide +kernel
theorem dX10_isDone_24 : decode cX10_isDone 24 = .ok (.aload_n 0, 1) := by decide +kernel
theorem dX10_isDone_25 : decode cX10_isDone 25 = .ok (.getfield 13, 3) := by decide +kernel
theorem dX10_isDone_28 : decode cX10_isDone 28 = .ok (.iconst 2, 1) := by decide +kernel
theorem dX10_isDone_29 : decode cX10_isDone 29 = .ok (.iload_n 1, 1) := by decide +kernel
theorem dX10_isDone_30 : decode cX10_isDone 30 = .ok (.imul, 1) := by decide +kernel
theorem dX10_isDone_31 : decode cX10_isDone 31 = .ok (.iaload, 1) := by decide +kernel
theorem dX10_isDone_32 : decode cX10_isDone 32 = .ok (.if_icmp .ne 23, 3) := by decide +kernel
theorem dX10_isDone_35 : decode cX10_isDone 35 = .ok (.iload_n 2, 1) := by decide +kernel
theorem dX10_isDone_36 : decode cX10_isDone 36 = .ok (.aload_n 0, 1) := by decide +kernel
theorem dX10_isDone_37 : decode cX10_isDone 37 = .ok (.getfield 43, 3) := by decide +kernel
theorem dX10_isDone_40 : decode cX10_isDone 40 = .ok (.iconst 1, 1) := by decide +kernel
theorem dX10_isDone_41 : decode cX10_isDone 41 = .ok (.iaload, 1) := by decide +kernel
theorem dX10_isDone_42 : decode cX10_isDone 42 = .ok (.ior, 1) := by decide +kernel
theorem dX10_isDone_43 : decode cX10_isDone 43 = .ok (.iload 4, 2) := by decide +kernel
theorem dX10_isDone_45 : decode cX10_isDone 45 = .ok (.invokestatic 139, 3) := by decide +kernel
theorem dX10_isDone_48 : decode cX10_isDone 48 = .ok (.ifCond .ne 7, 3) := by decide +kernel
theorem dX10_isDone_51 : decode cX10_isDone 51 = .ok (.iconst 1, 1) := by decide +kernel
theorem dX10_isDone_52 : decode cX10_isDone 52 = .ok (.goto 4, 3) := by decide +kernel
theorem dX10_isDone_55 : decode cX10_isDone 55 = .ok (.iconst 0, 1) := by decide +kernel
theorem dX10_isDone_56 : decode cX10_isDone 56 = .ok (.iadd, 1) := by decide +kernel
theorem dX10_isDone_57 : decode cX10_isDone 57 = .ok (.istore_n 3, 1) := by decide +kernel
theorem dX10_isDone_58 : decode cX10_isDone 58 = .ok (.iinc 4 1, 3) := by decide +kernel
theorem dX10_isDone_61 : decode cX10_isDone 61 = .ok (.goto (-56), 3) := by decide +kernel
theorem dX10_isDone_64 : decode cX10_isDone 64 = .ok (.iload_n 3, 1) := by decide +kernel
theorem dX10_isDone_65 : decode cX10_isDone 65 = .ok (.aload_n 0, 1) := by decide +kernel
theorem dX10_isDone_66 : decode cX10_isDone 66 = .ok (.getfield 13, 3) := by decide +kernel
theorem dX10_isDone_69 : decode cX10_isDone 69 = .ok (.iconst 2, 1) := by decide +kernel
theorem dX10_isDone_70 : decode cX10_isDone 70 = .ok (.iload_n 1, 1) := by decide +kernel
theorem dX10_isDone_71 : decode cX10_isDone 71 = .ok (.imul, 1) := by decide +kernel
theorem dX10_isDone_72 : decode cX10_isDone 72 = .ok (.iconst 1, 1) := by decide +kernel
theorem dX10_isDone_73 : decode cX10_isDone 73 = .ok (.iadd, 1) := by decide +kernel
theorem dX10_isDone_74 : decode cX10_isDone 74 = .ok (.iaload, 1) := by decide +kernel
theorem dX10_isDone_75 : decode cX10_isDone 75 = .ok (.if_icmp .lt 7, 3) := by decide +kernel
theorem dX10_isDone_78 : decode cX10_isDone 78 = .ok (.iconst 1, 1) := by decide +kernel
theorem dX10_isDone_79 : decode cX10_isDone 79 = .ok (.goto 4, 3) := by decide +kernel
theorem dX10_isDone_82 : decode cX10_isDone 82 = .ok (.iconst 0, 1) := by decide +kernel
theorem dX10_isDone_83 : decode cX10_isDone 83 = .ok (.ireturn, 1) := by decide +kernel
theorem dX10_done_0 : decode cX10_done 0 = .ok (.aload_n 0, 1) := by decide +kernel
theorem dX10_done_1 : decode cX10_done 1 = .ok (.invokevirtual 150, 3) := by decide +kernel
theorem dX10_done_4 : decode cX10_done 4 = .ok (.istore_n 1, 1) := by decide +kernel
theorem dX10_done_5 : decode cX10_done 5 = .ok (.iconst 0, 1) := by decide +kernel
theorem dX10_done_6 : decode cX10_done 6 = .ok (.istore_n 2, 1) := by decide +kernel
theorem dX10_done_7 : decode cX10_done 7 = .ok (.iconst 0, 1) := by decide +kernel
theorem dX10_done_8 : decode cX10_done 8 = .ok (.istore_n 3, 1) := by decide +kernel
theorem dX10_done_9 : decode cX10_done 9 = .ok (.iload_n 3, 1) := by decide +kernel
theorem dX10_done_10 : decode cX10_done 10 = .ok (.aload_n 0, 1) := by decide +kernel
theorem dX10_done_11 : decode cX10_done 11 = .ok (.getfield 127, 3) := by decide +kernel
theorem dX10_done_14 : decode cX10_done 14 = .ok (.if_icmp .ge 26, 3) := by decide +kernel
theorem dX10_done_17 : decode cX10_done 17 = .ok (.iload_n 2, 1) := by decide +kernel
theorem dX10_done_18 : decode cX10_done 18 = .ok (.aload_n 0, 1) := by decide +kernel
theorem dX10_done_19 : decode cX10_done 19 = .ok (.iload_n 3, 1) := by decide +kernel
theorem dX10_done_20 : decode cX10_done 20 = .ok (.iload_n 1, 1) := by decide +kernel
theorem dX10_done_21 : decode cX10_done 21 = .ok (.invokevirtual 153, 3) := by decide +kernel
theorem dX10_done_24 : decode cX10_done 24 = .ok (.ifCond .eq 7, 3) := by decide +kernel
theorem dX10_done_27 : decode cX10_done 27 = .ok (.iconst 1, 1) := by decide +kernel
theorem dX10_done_28 : decode cX10_done 28 = .ok (.goto 4, 3) := by decide +kernel
theorem dX10_done_31 : decode cX10_done 31 = .ok (.iconst 0, 1) := by decide +kernel
theorem dX10_done_32 : decode cX10_done 32 = .ok (.iadd, 1) := by decide +kernel
theorem dX10_done_33 : decode cX10_done 33 = .ok (.istore_n 2, 1) := by decide +kernel
theorem dX10_done_34 : decode cX10_done 34 = .ok (.iinc 3 1, 3) := by decide +kernel
theorem dX10_done_37 : decode cX10_done 37 = .ok (.goto (-28), 3) := by decide +kernel
theorem dX10_done_40 : decode cX10_done 40 = .ok (.iload_n 2, 1) := by decide +kernel
theorem dX10_done_41 : decode cX10_done 41 = .ok (.ireturn, 1) := by decide +kernel
theorem dX10_goesBy_0 : decode cX10_goesBy 0 = .ok (.aload_n 0, 1) := by decide +kernel
theorem dX10_goesBy_1 : decode cX10_goesBy 1 = .ok (.invokevirtual 150, 3) := by decide +kernel
theorem dX10_goesBy_4 : decode cX10_goesBy 4 = .ok (.istore_n 1, 1) := by decide +kernel
theorem dX10_goesBy_5 : decode cX10_goesBy 5 = .ok (.iconst 0, 1) := by decide +kernel
theorem dX10_goesBy_6 : decode cX10_goesBy 6 = .ok (.istore_n 2, 1) := by decide +kernel
theorem dX10_goesBy_7 : decode cX10_goesBy 7 = .ok (.iconst 0, 1) := by decide +kernel
theorem dX10_goesBy_8 : decode cX10_goesBy 8 = .ok (.istore_n 3, 1) := by decide +kernel
theorem dX10_goesBy_9 : decode cX10_goesBy 9 = .ok (.iload_n 3, 1) := by decide +kernel
theorem dX10_goesBy_10 : decode cX10_goesBy 10 = .ok (.aload_n 0, 1) := by decide +kernel
theorem dX10_goesBy_11 : decode cX10_goesBy 11 = .ok (.getfield 73, 3) := by decide +kernel
theorem dX10_goesBy_14 : decode cX10_goesBy 14 = .ok (.if_icmp .ge 47, 3) := by decide +kernel
theorem dX10_goesBy_17 : decode cX10_goesBy 17 = .ok (.iload_n 2, 1) := by decide +kernel
theorem dX10_goesBy_18 : decode cX10_goesBy 18 = .ok (.iload_n 1, 1) := by decide +kernel
theorem dX10_goesBy_19 : decode cX10_goesBy 19 = .ok (.iload_n 3, 1) := by decide +kernel
theorem dX10_goesBy_20 : decode cX10_goesBy 20 = .ok (.invokestatic 139, 3) := by decide +kernel
theorem dX10_goesBy_23 : decode cX10_goesBy 23 = .ok (.ifCond .eq 29, 3) := by decide +kernel
theorem dX10_goesBy_26 : decode cX10_goesBy 26 = .ok (.aload_n 0, 1) := by decide +kernel
theorem dX10_goesBy_27 : decode cX10_goesBy 27 = .ok (.iload_n 3, 1) := by decide +kernel
theorem dX10_goesBy_28 : decode cX10_goesBy 28 = .ok (.invokevirtual 147, 3) := by decide +kernel
theorem dX10_goesBy_31 : decode cX10_goesBy 31 = .ok (.aload_n 0, 1) := by decide +kernel
theorem dX10_goesBy_32 : decode cX10_goesBy 32 = .ok (.getfield 43, 3) := by decide +kernel
theorem dX10_goesBy_35 : decode cX10_goesBy 35 = .ok (.bipush 15, 2) := by decide +kernel
theorem dX10_goesBy_37 : decode cX10_goesBy 37 = .ok (.iload_n 3, 1) := by decide +kernel
theorem dX10_goesBy_38 : decode cX10_goesBy 38 = .ok (.iadd, 1) := by decide +kernel
theorem dX10_goesBy_39 : decode cX10_goesBy 39 = .ok (.iaload, 1) := by decide +kernel
theorem dX10_goesBy_40 : decode cX10_goesBy 40 = .ok (.isub, 1) := by decide +kernel
theorem dX10_goesBy_41 : decode cX10_goesBy 41 = .ok (.bipush 8, 2) := by decide +kernel
theorem dX10_goesBy_43 : decode cX10_goesBy 43 = .ok (.if_icmp .lt 9, 3) := by decide +kernel
theorem dX10_goesBy_46 : decode cX10_goesBy 46 = .ok (.iconst 1, 1) := by decide +kernel
theorem dX10_goesBy_47 : decode cX10_goesBy 47 = .ok (.iload_n 3, 1) := by decide +kernel
theorem dX10_goesBy_48 : decode cX10_goesBy 48 = .ok (.ishl, 1) := by decide +kernel
theorem dX10_goesBy_49 : decode cX10_goesBy 49 = .ok (.goto 4, 3) := by decide +kernel
theorem dX10_goesBy_52 : decode cX10_goesBy 52 = .ok (.iconst 0, 1) := by decide +kernel
theorem dX10_goesBy_53 : decode cX10_goesBy 53 = .ok (.ior, 1) := by decide +kernel
theorem dX10_goesBy_54 : decode cX10_goesBy 54 = .ok (.istore_n 2, 1) := by decide +kernel
theorem dX10_goesBy_55 : decode cX10_goesBy 55 = .ok (.iinc 3 1, 3) := by decide +kernel
theorem dX10_goesBy_58 : decode cX10_goesBy 58 = .ok (.goto (-49), 3) := by decide +kernel
theorem dX10_goesBy_61 : decode cX10_goesBy 61 = .ok (.iconst 0, 1) := by decide +kernel
theorem dX10_goesBy_62 : decode cX10_goesBy 62 = .ok (.istore_n 3, 1) := by decide +kernel
theorem dX10_goesBy_63 : decode cX10_goesBy 63 = .ok (.iload_n 3, 1) := by decide +kernel
theorem dX10_goesBy_64 : decode cX10_goesBy 64 = .ok (.aload_n 0, 1) := by decide +kernel
theorem dX10_goesBy_65 : decode cX10_goesBy 65 = .ok (.getfield 73, 3) := by decide +kernel
theorem dX10_goesBy_68 : decode cX10_goesBy 68 = .ok (.if_icmp .ge 122, 3) := by decide +kernel
theorem dX10_goesBy_71 : decode cX10_goesBy 71 = .ok (.aload_n 0, 1) := by decide +kernel
theorem dX10_goesBy_72 : decode cX10_goesBy 72 = .ok (.getfield 43, 3) := by decide +kernel
theorem dX10_goesBy_75 : decode cX10_goesBy 75 = .ok (.iconst 1, 1) := by decide +kernel
theorem dX10_goesBy_76 : decode cX10_goesBy 76 = .ok (.iaload, 1) := by decide +kernel
theorem dX10_goesBy_77 : decode cX10_goesBy 77 = .ok (.iload_n 2, 1) := by decide +kernel
theorem dX10_goesBy_78 : decode cX10_goesBy 78 = .ok (.ior, 1) := by decide +kernel
theorem dX10_goesBy_79 : decode cX10_goesBy 79 = .ok (.iload_n 3, 1) := by decide +kernel
theorem dX10_goesBy_80 : decode cX10_goesBy 80 = .ok (.invokestatic 139, 3) := by decide +kernel
theorem dX10_goesBy_83 : decode cX10_goesBy 83 = .ok (.ifCond .ne 70, 3) := by decide +kernel
theorem dX10_goesBy_86 : decode cX10_goesBy 86 = .ok (.iload_n 1, 1) := by decide +kernel
theorem dX10_goesBy_87 : decode cX10_goesBy 87 = .ok (.iload_n 3, 1) := by decide +kernel
theorem dX10_goesBy_88 : decode cX10_goesBy 88 = .ok (.invokestatic 139, 3) := by decide +kernel
theorem dX10_goesBy_91 : decode cX10_goesBy 91 = .ok (.ifCond .eq 17, 3) := by decide +kernel
theorem dX10_goesBy_94 : decode cX10_goesBy 94 = .ok (.aload_n 0, 1) := by decide +kernel
theorem dX10_goesBy_95 : decode cX10_goesBy 95 = .ok (.getfield 43, 3) := by decide +kernel
theorem dX10_goesBy_98 : decode cX10_goesBy 98 = .ok (.bipush 15, 2) := by decide +kernel
theorem dX10_goesBy_100 : decode cX10_goesBy 100 = .ok (.iload_n 3, 1) := by decide +kernel
theorem dX10_goesBy_101 : decode cX10_goesBy 101 = .ok (.iadd, 1) := by decide +kernel
theorem dX10_goesBy_102 : decode cX10_goesBy 102 = .ok (.iaload, 1) := by decide +kernel
theorem dX10_goesBy_103 : decode cX10_goesBy 103 = .ok (.iconst 1, 1) := by decide +kernel
theorem dX10_goesBy_104 : decode cX10_goesBy 104 = .ok (.isub, 1) := by decide +kernel
theorem dX10_goesBy_105 : decode cX10_goesBy 105 = .ok (.goto 14, 3) := by decide +kernel
theorem dX10_goesBy_108 : decode cX10_goesBy 108 = .ok (.aload_n 0, 1) := by decide +kernel
theorem dX10_goesBy_109 : decode cX10_goesBy 109 = .ok (.getfield 43, 3) := by decide +kernel
theorem dX10_goesBy_112 : decode cX10_goesBy 112 = .ok (.bipush 15, 2) := by decide +kernel
theorem dX10_goesBy_114 : decode cX10_goesBy 114 = .ok (.iload_n 3, 1) := by decide +kernel
theorem dX10_goesBy_115 : decode cX10_goesBy 115 = .ok (.iadd, 1) := by decide +kernel
theorem dX10_goesBy_116 : decode cX10_goesBy 116 = .ok (.iaload, 1) := by decide +kernel
theorem dX10_goesBy_117 : decode cX10_goesBy 117 = .ok (.iconst 1, 1) := by decide +kernel
theorem dX10_goesBy_118 : decode cX10_goesBy 118 = .ok (.iadd, 1) := by decide +kernel
theorem dX10_goesBy_119 : decode cX10_goesBy 119 = .ok (.istore 4, 2) := by decide +kernel
theorem dX10_goesBy_121 : decode cX10_goesBy 121 = .ok (.aload_n 0, 1) := by decide +kernel
theorem dX10_goesBy_122 : decode cX10_goesBy 122 = .ok (.getfield 43, 3) := by decide +kernel
theorem dX10_goesBy_125 : decode cX10_goesBy 125 = .ok (.bipush 15, 2) := by decide +kernel
theorem dX10_goesBy_127 : decode cX10_goesBy 127 = .ok (.iload_n 3, 1) := by decide +kernel
theorem dX10_goesBy_128 : decode cX10_goesBy 128 = .ok (.iadd, 1) := by decide +kernel
theorem dX10_goesBy_129 : decode cX10_goesBy 129 = .ok (.iload 4, 2) := by decide +kernel
theorem dX10_goesBy_131 : decode cX10_goesBy 131 = .ok (.ifCond .ge 7, 3) := by decide +kernel
theorem dX10_goesBy_134 : decode cX10_goesBy 134 = .ok (.iconst 0, 1) := by decide +kernel
theorem dX10_goesBy_135 : decode cX10_goesBy 135 = .ok (.goto 17, 3) := by decide +kernel
theorem dX10_goesBy_138 : decode cX10_goesBy 138 = .ok (.iload 4, 2) := by decide +kernel
theorem dX10_goesBy_140 : decode cX10_goesBy 140 = .ok (.bipush 30, 2) := by decide +kernel
theorem dX10_goesBy_142 : decode cX10_goesBy 142 = .ok (.if_icmp .le 8, 3) := by decide +kernel
theorem dX10_goesBy_145 : decode cX10_goesBy 145 = .ok (.bipush 30, 2) := by decide +kernel
theorem dX10_goesBy_147 : decode cX10_goesBy 147 = .ok (.goto 5, 3) := by decide +kernel
theorem dX10_goesBy_150 : decode cX10_goesBy 150 = .ok (.iload 4, 2) := by decide +kernel
theorem dX10_goesBy_152 : decode cX10_goesBy 152 = .ok (.iastore, 1) := by decide +kernel
theorem dX10_goesBy_153 : decode cX10_goesBy 153 = .ok (.aload_n 0, 1) := by decide +kernel
theorem dX10_goesBy_154 : decode cX10_goesBy 154 = .ok (.getfield 43, 3) := by decide +kernel
theorem dX10_goesBy_157 : decode cX10_goesBy 157 = .ok (.bipush 9, 2) := by decide +kernel
theorem dX10_goesBy_159 : decode cX10_goesBy 159 = .ok (.iload_n 3, 1) := by decide +kernel
theorem dX10_goesBy_160 : decode cX10_goesBy 160 = .ok (.iadd, 1) := by decide +kernel
theorem dX10_goesBy_161 : decode cX10_goesBy 161 = .ok (.dup2, 1) := by decide +kernel
theorem dX10_goesBy_162 : decode cX10_goesBy 162 = .ok (.iaload, 1) := by decide +kernel
theorem dX10_goesBy_163 : decode cX10_goesBy 163 = .ok (.aload_n 0, 1) := by decide +kernel
theorem dX10_goesBy_164 : decode cX10_goesBy 164 = .ok (.getfield 43, 3) := by decide +kernel
theorem dX10_goesBy_167 : decode cX10_goesBy 167 = .ok (.bipush 9, 2) := by decide +kernel
theorem dX10_goesBy_169 : decode cX10_goesBy 169 = .ok (.iload_n 3, 1) := by decide +kernel
theorem dX10_goesBy_170 : decode cX10_goesBy 170 = .ok (.iadd, 1) := by decide +kernel
theorem dX10_goesBy_171 : decode cX10_goesBy 171 = .ok (.iaload, 1) := by decide +kernel
theorem dX10_goesBy_172 : decode cX10_goesBy 172 = .ok (.bipush 99, 2) := by decide +kernel
theorem dX10_goesBy_174 : decode cX10_goesBy 174 = .ok (.if_icmp .ge 7, 3) := by decide +kernel
theorem dX10_goesBy_177 : decode cX10_goesBy 177 = .ok (.iconst 1, 1) := by decide +kernel
theorem dX10_goesBy_178 : decode cX10_goesBy 178 = .ok (.goto 4, 3) := by decide +kernel
theorem dX10_goesBy_181 : decode cX10_goesBy 181 = .ok (.iconst 0, 1) := by decide +kernel
theorem dX10_goesBy_182 : decode cX10_goesBy 182 = .ok (.iadd, 1) := by decide +kernel
theorem dX10_goesBy_183 : decode cX10_goesBy 183 = .ok (.iastore, 1) := by decide +kernel
theorem dX10_goesBy_184 : decode cX10_goesBy 184 = .ok (.iinc 3 1, 3) := by decide +kernel
theorem dX10_goesBy_187 : decode cX10_goesBy 187 = .ok (.goto (-124), 3) := by decide +kernel
theorem dX10_goesBy_190 : decode cX10_goesBy 190 = .ok (.aload_n 0, 1) := by decide +kernel
theorem dX10_goesBy_191 : decode cX10_goesBy 191 = .ok (.getfield 43, 3) := by decide +kernel
theorem dX10_goesBy_194 : decode cX10_goesBy 194 = .ok (.iconst 1, 1) := by decide +kernel
theorem dX10_goesBy_195 : decode cX10_goesBy 195 = .ok (.dup2, 1) := by decide +kernel
theorem dX10_goesBy_196 : decode cX10_goesBy 196 = .ok (.iaload, 1) := by decide +kernel
theorem dX10_goesBy_197 : decode cX10_goesBy 197 = .ok (.iload_n 2, 1) := by decide +kernel
theorem dX10_goesBy_198 : decode cX10_goesBy 198 = .ok (.ior, 1) := by decide +kernel
theorem dX10_goesBy_199 : decode cX10_goesBy 199 = .ok (.iastore, 1) := by decide +kernel
theorem dX10_goesBy_200 : decode cX10_goesBy 200 = .ok (.aload_n 0, 1) := by decide +kernel
theorem dX10_goesBy_201 : decode cX10_goesBy 201 = .ok (.getfield 43, 3) := by decide +kernel
theorem dX10_goesBy_204 : decode cX10_goesBy 204 = .ok (.iconst 2, 1) := by decide +kernel
theorem dX10_goesBy_205 : decode cX10_goesBy 205 = .ok (.iconst 0, 1) := by decide +kernel
theorem dX10_goesBy_206 : decode cX10_goesBy 206 = .ok (.iastore, 1) := by decide +kernel
theorem dX10_goesBy_207 : decode cX10_goesBy 207 = .ok (.aload_n 0, 1) := by decide +kernel
theorem dX10_goesBy_208 : decode cX10_goesBy 208 = .ok (.getfield 43, 3) := by decide +kernel
theorem dX10_goesBy_211 : decode cX10_goesBy 211 = .ok (.iconst 0, 1) := by decide +kernel
theorem dX10_goesBy_212 : decode cX10_goesBy 212 = .ok (.dup2, 1) := by decide +kernel
theorem dX10_goesBy_213 : decode cX10_goesBy 213 = .ok (.iaload, 1) := by decide +kernel
theorem dX10_goesBy_214 : decode cX10_goesBy 214 = .ok (.iconst 1, 1) := by decide +kernel
theorem dX10_goesBy_215 : decode cX10_goesBy 215 = .ok (.iadd, 1) := by decide +kernel
theorem dX10_goesBy_216 : decode cX10_goesBy 216 = .ok (.iastore, 1) := by decide +kernel
theorem dX10_goesBy_217 : decode cX10_goesBy 217 = .ok (.return_, 1) := by decide +kernel
theorem dX10_canPromote_0 : decode cX10_canPromote 0 = .ok (.aload_n 0, 1) := by decide +kernel
theorem dX10_canPromote_1 : decode cX10_canPromote 1 = .ok (.invokevirtual 150, 3) := by decide +kernel
theorem dX10_canPromote_4 : decode cX10_canPromote 4 = .ok (.aload_n 0, 1) := by decide +kernel
theorem dX10_canPromote_5 : decode cX10_canPromote 5 = .ok (.getfield 43, 3) := by decide +kernel
theorem dX10_canPromote_8 : decode cX10_canPromote 8 = .ok (.iconst 1, 1) := by decide +kernel
theorem dX10_canPromote_9 : decode cX10_canPromote 9 = .ok (.iaload, 1) := by decide +kernel
theorem dX10_canPromote_10 : decode cX10_canPromote 10 = .ok (.ior, 1) := by decide +kernel
theorem dX10_canPromote_11 : decode cX10_canPromote 11 = .ok (.iload_n 1, 1) := by decide +kernel
theorem dX10_canPromote_12 : decode cX10_canPromote 12 = .ok (.invokestatic 139, 3) := by decide +kernel
theorem dX10_canPromote_15 : decode cX10_canPromote 15 = .ok (.ifCond .ne 18, 3) := by decide +kernel
theorem dX10_canPromote_18 : decode cX10_canPromote 18 = .ok (.aload_n 0, 1) := by decide +kernel
theorem dX10_canPromote_19 : decode cX10_canPromote 19 = .ok (.getfield 43, 3) := by decide +kernel
theorem dX10_canPromote_22 : decode cX10_canPromote 22 = .ok (.iconst 3, 1) := by decide +kernel
theorem dX10_canPromote_23 : decode cX10_canPromote 23 = .ok (.iload_n 1, 1) := by decide +kernel
theorem dX10_canPromote_24 : decode cX10_canPromote 24 = .ok (.iadd, 1) := by decide +kernel
theorem dX10_canPromote_25 : decode cX10_canPromote 25 = .ok (.iaload, 1) := by decide +kernel
theorem dX10_canPromote_26 : decode cX10_canPromote 26 = .ok (.ifCond .le 7, 3) := by decide +kernel
theorem dX10_canPromote_29 : decode cX10_canPromote 29 = .ok (.iconst 1, 1) := by decide +kernel
theorem dX10_canPromote_30 : decode cX10_canPromote 30 = .ok (.goto 4, 3) := by decide +kernel
theorem dX10_canPromote_33 : decode cX10_canPromote 33 = .ok (.iconst 0, 1) := by decide +kernel
theorem dX10_canPromote_34 : decode cX10_canPromote 34 = .ok (.ireturn, 1) := by decide +kernel
theorem dX10_canHoist_0 : decode cX10_canHoist 0 = .ok (.aload_n 0, 1) := by decide +kernel
theorem dX10_canHoist_1 : decode cX10_canHoist 1 = .ok (.getfield 43, 3) := by decide +kernel
theorem dX10_canHoist_4 : decode cX10_canHoist 4 = .ok (.iconst 1, 1) := by decide +kernel
theorem dX10_canHoist_5 : decode cX10_canHoist 5 = .ok (.iaload, 1) := by decide +kernel
theorem dX10_canHoist_6 : decode cX10_canHoist 6 = .ok (.iload_n 1, 1) := by decide +kernel
theorem dX10_canHoist_7 : decode cX10_canHoist 7 = .ok (.invokestatic 139, 3) := by decide +kernel
theorem dX10_canHoist_10 : decode cX10_canHoist 10 = .ok (.ifCond .ne 24, 3) := by decide +kernel
theorem dX10_canHoist_13 : decode cX10_canHoist 13 = .ok (.aload_n 0, 1) := by decide +kernel
theorem dX10_canHoist_14 : decode cX10_canHoist 14 = .ok (.getfield 43, 3) := by decide +kernel
theorem dX10_canHoist_17 : decode cX10_canHoist 17 = .ok (.iconst 3, 1) := by decide +kernel
theorem dX10_canHoist_18 : decode cX10_canHoist 18 = .ok (.iload_n 1, 1) := by decide +kernel
theorem dX10_canHoist_19 : decode cX10_canHoist 19 = .ok (.iadd, 1) := by decide +kernel
theorem dX10_canHoist_20 : decode cX10_canHoist 20 = .ok (.iaload, 1) := by decide +kernel
theorem dX10_canHoist_21 : decode cX10_canHoist 21 = .ok (.aload_n 0, 1) := by decide +kernel
theorem dX10_canHoist_22 : decode cX10_canHoist 22 = .ok (.getfield 80, 3) := by decide +kernel
theorem dX10_canHoist_25 : decode cX10_canHoist 25 = .ok (.iconst 1, 1) := by decide +kernel
theorem dX10_canHoist_26 : decode cX10_canHoist 26 = .ok (.isub, 1) := by decide +kernel
theorem dX10_canHoist_27 : decode cX10_canHoist 27 = .ok (.if_icmp .ge 7, 3) := by decide +kernel
theorem dX10_canHoist_30 : decode cX10_canHoist 30 = .ok (.iconst 1, 1) := by decide +kernel
theorem dX10_canHoist_31 : decode cX10_canHoist 31 = .ok (.goto 4, 3) := by decide +kernel
theorem dX10_canHoist_34 : decode cX10_canHoist 34 = .ok (.iconst 0, 1) := by decide +kernel
theorem dX10_canHoist_35 : decode cX10_canHoist 35 = .ok (.ireturn, 1) := by decide +kernel
theorem dX10_canCall_0 : decode cX10_canCall 0 = .ok (.aload_n 0, 1) := by decide +kernel
theorem dX10_canCall_1 : decode cX10_canCall 1 = .ok (.getfield 43, 3) := by decide +kernel
theorem dX10_canCall_4 : decode cX10_canCall 4 = .ok (.iconst 1, 1) := by decide +kernel
theorem dX10_canCall_5 : decode cX10_canCall 5 = .ok (.iaload, 1) := by decide +kernel
theorem dX10_canCall_6 : decode cX10_canCall 6 = .ok (.aload_n 0, 1) := by decide +kernel
theorem dX10_canCall_7 : decode cX10_canCall 7 = .ok (.getfield 43, 3) := by decide +kernel
theorem dX10_canCall_10 : decode cX10_canCall 10 = .ok (.iconst 2, 1) := by decide +kernel
theorem dX10_canCall_11 : decode cX10_canCall 11 = .ok (.iaload, 1) := by decide +kernel
theorem dX10_canCall_12 : decode cX10_canCall 12 = .ok (.ior, 1) := by decide +kernel
theorem dX10_canCall_13 : decode cX10_canCall 13 = .ok (.iload_n 1, 1) := by decide +kernel
theorem dX10_canCall_14 : decode cX10_canCall 14 = .ok (.invokestatic 139, 3) := by decide +kernel
theorem dX10_canCall_17 : decode cX10_canCall 17 = .ok (.ifCond .ne 7, 3) := by decide +kernel
theorem dX10_canCall_20 : decode cX10_canCall 20 = .ok (.iconst 1, 1) := by decide +kernel
theorem dX10_canCall_21 : decode cX10_canCall 21 = .ok (.goto 4, 3) := by decide +kernel
theorem dX10_canCall_24 : decode cX10_canCall 24 = .ok (.iconst 0, 1) := by decide +kernel
theorem dX10_canCall_25 : decode cX10_canCall 25 = .ok (.ireturn, 1) := by decide +kernel
theorem dX10_calls_0 : decode cX10_calls 0 = .ok (.aload_n 0, 1) := by decide +kernel
theorem dX10_calls_1 : decode cX10_calls 1 = .ok (.invokevirtual 150, 3) := by decide +kernel
theorem dX10_calls_4 : decode cX10_calls 4 = .ok (.istore_n 2, 1) := by decide +kernel
theorem dX10_calls_5 : decode cX10_calls 5 = .ok (.iconst 0, 1) := by decide +kernel
theorem dX10_calls_6 : decode cX10_calls 6 = .ok (.istore_n 3, 1) := by decide +kernel
theorem dX10_calls_7 : decode cX10_calls 7 = .ok (.iload_n 3, 1) := by decide +kernel
theorem dX10_calls_8 : decode cX10_calls 8 = .ok (.aload_n 0, 1) := by decide +kernel
theorem dX10_calls_9 : decode cX10_calls 9 = .ok (.getfield 73, 3) := by decide +kernel
theorem dX10_calls_12 : decode cX10_calls 12 = .ok (.if_icmp .ge 74, 3) := by decide +kernel
theorem dX10_calls_15 : decode cX10_calls 15 = .ok (.aload_n 0, 1) := by decide +kernel
theorem dX10_calls_16 : decode cX10_calls 16 = .ok (.getfield 43, 3) := by decide +kernel
theorem dX10_calls_19 : decode cX10_calls 19 = .ok (.bipush 15, 2) := by decide +kernel
theorem dX10_calls_21 : decode cX10_calls 21 = .ok (.iload_n 1, 1) := by decide +kernel
theorem dX10_calls_22 : decode cX10_calls 22 = .ok (.iadd, 1) := by decide +kernel
theorem dX10_calls_23 : decode cX10_calls 23 = .ok (.dup2, 1) := by decide +kernel
theorem dX10_calls_24 : decode cX10_calls 24 = .ok (.iaload, 1) := by decide +kernel
theorem dX10_calls_25 : decode cX10_calls 25 = .ok (.aload_n 0, 1) := by decide +kernel
theorem dX10_calls_26 : decode cX10_calls 26 = .ok (.getfield 43, 3) := by decide +kernel
theorem dX10_calls_29 : decode cX10_calls 29 = .ok (.iconst 3, 1) := by decide +kernel
theorem dX10_calls_30 : decode cX10_calls 30 = .ok (.iload_n 3, 1) := by decide +kernel
theorem dX10_calls_31 : decode cX10_calls 31 = .ok (.iadd, 1) := by decide +kernel
theorem dX10_calls_32 : decode cX10_calls 32 = .ok (.iaload, 1) := by decide +kernel
theorem dX10_calls_33 : decode cX10_calls 33 = .ok (.aload_n 0, 1) := by decide +kernel
theorem dX10_calls_34 : decode cX10_calls 34 = .ok (.getfield 43, 3) := by decide +kernel
theorem dX10_calls_37 : decode cX10_calls 37 = .ok (.iconst 3, 1) := by decide +kernel
theorem dX10_calls_38 : decode cX10_calls 38 = .ok (.iload_n 1, 1) := by decide +kernel
theorem dX10_calls_39 : decode cX10_calls 39 = .ok (.iadd, 1) := by decide +kernel
theorem dX10_calls_40 : decode cX10_calls 40 = .ok (.iaload, 1) := by decide +kernel
theorem dX10_calls_41 : decode cX10_calls 41 = .ok (.if_icmp .le 36, 3) := by decide +kernel
theorem dX10_calls_44 : decode cX10_calls 44 = .ok (.iload_n 2, 1) := by decide +kernel
theorem dX10_calls_45 : decode cX10_calls 45 = .ok (.aload_n 0, 1) := by decide +kernel
theorem dX10_calls_46 : decode cX10_calls 46 = .ok (.getfield 43, 3) := by decide +kernel
theorem dX10_calls_49 : decode cX10_calls 49 = .ok (.iconst 1, 1) := by decide +kernel
theorem dX10_calls_50 : decode cX10_calls 50 = .ok (.iaload, 1) := by decide +kernel
theorem dX10_calls_51 : decode cX10_calls 51 = .ok (.ior, 1) := by decide +kernel
theorem dX10_calls_52 : decode cX10_calls 52 = .ok (.iload_n 3, 1) := by decide +kernel
theorem dX10_calls_53 : decode cX10_calls 53 = .ok (.invokestatic 139, 3) := by decide +kernel
theorem dX10_calls_56 : decode cX10_calls 56 = .ok (.ifCond .ne 21, 3) := by decide +kernel
theorem dX10_calls_59 : decode cX10_calls 59 = .ok (.aload_n 0, 1) := by decide +kernel
theorem dX10_calls_60 : decode cX10_calls 60 = .ok (.getfield 43, 3) := by decide +kernel
theorem dX10_calls_63 : decode cX10_calls 63 = .ok (.bipush 15, 2) := by decide +kernel
theorem dX10_calls_65 : decode cX10_calls 65 = .ok (.iload_n 1, 1) := by decide +kernel
theorem dX10_calls_66 : decode cX10_calls 66 = .ok (.iadd, 1) := by decide +kernel
theorem dX10_calls_67 : decode cX10_calls 67 = .ok (.iaload, 1) := by decide +kernel
theorem dX10_calls_68 : decode cX10_calls 68 = .ok (.bipush 30, 2) := by decide +kernel
theorem dX10_calls_70 : decode cX10_calls 70 = .ok (.if_icmp .ge 7, 3) := by decide +kernel
theorem dX10_calls_73 : decode cX10_calls 73 = .ok (.iconst 1, 1) := by decide +kernel
theorem dX10_calls_74 : decode cX10_calls 74 = .ok (.goto 4, 3) := by decide +kernel
theorem dX10_calls_77 : decode cX10_calls 77 = .ok (.iconst 0, 1) := by decide +kernel
theorem dX10_calls_78 : decode cX10_calls 78 = .ok (.iadd, 1) := by decide +kernel
theorem dX10_calls_79 : decode cX10_calls 79 = .ok (.iastore, 1) := by decide +kernel
theorem dX10_calls_80 : decode cX10_calls 80 = .ok (.iinc 3 1, 3) := by decide +kernel
theorem dX10_calls_83 : decode cX10_calls 83 = .ok (.goto (-76), 3) := by decide +kernel
theorem dX10_calls_86 : decode cX10_calls 86 = .ok (.aload_n 0, 1) := by decide +kernel
theorem dX10_calls_87 : decode cX10_calls 87 = .ok (.getfield 43, 3) := by decide +kernel
theorem dX10_calls_90 : decode cX10_calls 90 = .ok (.iconst 2, 1) := by decide +kernel
theorem dX10_calls_91 : decode cX10_calls 91 = .ok (.dup2, 1) := by decide +kernel
theorem dX10_calls_92 : decode cX10_calls 92 = .ok (.iaload, 1) := by decide +kernel
theorem dX10_calls_93 : decode cX10_calls 93 = .ok (.iconst 1, 1) := by decide +kernel
theorem dX10_calls_94 : decode cX10_calls 94 = .ok (.iload_n 1, 1) := by decide +kernel
theorem dX10_calls_95 : decode cX10_calls 95 = .ok (.ishl, 1) := by decide +kernel
theorem dX10_calls_96 : decode cX10_calls 96 = .ok (.ior, 1) := by decide +kernel
theorem dX10_calls_97 : decode cX10_calls 97 = .ok (.iastore, 1) := by decide +kernel
theorem dX10_calls_98 : decode cX10_calls 98 = .ok (.return_, 1) := by decide +kernel
theorem dX10_person_0 : decode cX10_person 0 = .ok (.aload_n 0, 1) := by decide +kernel
theorem dX10_person_1 : decode cX10_person 1 = .ok (.iload_n 1, 1) := by decide +kernel
theorem dX10_person_2 : decode cX10_person 2 = .ok (.invokevirtual 156, 3) := by decide +kernel
theorem dX10_person_5 : decode cX10_person 5 = .ok (.ifCond .ne 5, 3) := by decide +kernel
theorem dX10_person_8 : decode cX10_person 8 = .ok (.iconst (-1), 1) := by decide +kernel
theorem dX10_person_9 : decode cX10_person 9 = .ok (.ireturn, 1) := by decide +kernel
theorem dX10_person_10 : decode cX10_person 10 = .ok (.aload_n 0, 1) := by decide +kernel
theorem dX10_person_11 : decode cX10_person 11 = .ok (.invokevirtual 159, 3) := by decide +kernel
theorem dX10_person_14 : decode cX10_person 14 = .ok (.iload_n 2, 1) := by decide +kernel
theorem dX10_person_15 : decode cX10_person 15 = .ok (.tableswitch 137 0 7 #[45, 52, 61, 71, 81, 87, 104, 123], 45) := by decide +kernel
theorem dX10_person_60 : decode cX10_person 60 = .ok (.aload_n 0, 1) := by decide +kernel
theorem dX10_person_61 : decode cX10_person 61 = .ok (.getfield 7, 3) := by decide +kernel
theorem dX10_person_64 : decode cX10_person 64 = .ok (.iload_n 1, 1) := by decide +kernel
theorem dX10_person_65 : decode cX10_person 65 = .ok (.iaload, 1) := by decide +kernel
theorem dX10_person_66 : decode cX10_person 66 = .ok (.ireturn, 1) := by decide +kernel
theorem dX10_person_67 : decode cX10_person 67 = .ok (.aload_n 0, 1) := by decide +kernel
theorem dX10_person_68 : decode cX10_person 68 = .ok (.getfield 16, 3) := by decide +kernel
