theorem dX0_init_0 : decode cX0_init 0 = .ok (.aload_n 0, 1) := by decide +kernel
theorem dX0_init_1 : decode cX0_init 1 = .ok (.invokespecial 3, 3) := by decide +kernel
theorem dX0_init_4 : decode cX0_init 4 = .ok (.aload_n 0, 1) := by decide +kernel
theorem dX0_init_5 : decode cX0_init 5 = .ok (.aload_n 1, 1) := by decide +kernel
theorem dX0_init_6 : decode cX0_init 6 = .ok (.putfield 9, 3) := by decide +kernel
theorem dX0_init_9 : decode cX0_init 9 = .ok (.return_, 1) := by decide +kernel
theorem dX0_rewind_0 : decode cX0_rewind 0 = .ok (.aload_n 0, 1) := by decide +kernel
theorem dX0_rewind_1 : decode cX0_rewind 1 = .ok (.iconst 0, 1) := by decide +kernel
theorem dX0_rewind_2 : decode cX0_rewind 2 = .ok (.putfield 15, 3) := by decide +kernel
theorem dX0_rewind_5 : decode cX0_rewind 5 = .ok (.return_, 1) := by decide +kernel
theorem dX0_fail_0 : decode cX0_fail 0 = .ok (.aload_n 0, 1) := by decide +kernel
theorem dX0_fail_1 : decode cX0_fail 1 = .ok (.iload_n 1, 1) := by decide +kernel
theorem dX0_fail_2 : decode cX0_fail 2 = .ok (.putfield 19, 3) := by decide +kernel
theorem dX0_fail_5 : decode cX0_fail 5 = .ok (.iconst 0, 1) := by decide +kernel
theorem dX0_fail_6 : decode cX0_fail 6 = .ok (.ireturn, 1) := by decide +kernel
theorem dX0_skipBlanks_0 : decode cX0_skipBlanks 0 = .ok (.aload_n 0, 1) := by decide +kernel
theorem dX0_skipBlanks_1 : decode cX0_skipBlanks 1 = .ok (.getfield 15, 3) := by decide +kernel
theorem dX0_skipBlanks_4 : decode cX0_skipBlanks 4 = .ok (.aload_n 0, 1) := by decide +kernel
theorem dX0_skipBlanks_5 : decode cX0_skipBlanks 5 = .ok (.getfield 9, 3) := by decide +kernel
theorem dX0_skipBlanks_8 : decode cX0_skipBlanks 8 = .ok (.getfield 22, 3) := by decide +kernel
theorem dX0_skipBlanks_11 : decode cX0_skipBlanks 11 = .ok (.if_icmp .ge 33, 3) := by decide +kernel
theorem dX0_skipBlanks_14 : decode cX0_skipBlanks 14 = .ok (.aload_n 0, 1) := by decide +kernel
theorem dX0_skipBlanks_15 : decode cX0_skipBlanks 15 = .ok (.getfield 9, 3) := by decide +kernel
theorem dX0_skipBlanks_18 : decode cX0_skipBlanks 18 = .ok (.getfield 27, 3) := by decide +kernel
theorem dX0_skipBlanks_21 : decode cX0_skipBlanks 21 = .ok (.aload_n 0, 1) := by decide +kernel
theorem dX0_skipBlanks_22 : decode cX0_skipBlanks 22 = .ok (.getfield 15, 3) := by decide +kernel
theorem dX0_skipBlanks_25 : decode cX0_skipBlanks 25 = .ok (.caload, 1) := by decide +kernel
theorem dX0_skipBlanks_26 : decode cX0_skipBlanks 26 = .ok (.bipush 32, 2) := by decide +kernel
theorem dX0_skipBlanks_28 : decode cX0_skipBlanks 28 = .ok (.if_icmp .ne 16, 3) := by decide +kernel
theorem dX0_skipBlanks_31 : decode cX0_skipBlanks 31 = .ok (.aload_n 0, 1) := by decide +kernel
theorem dX0_skipBlanks_32 : decode cX0_skipBlanks 32 = .ok (.dup, 1) := by decide +kernel
theorem dX0_skipBlanks_33 : decode cX0_skipBlanks 33 = .ok (.getfield 15, 3) := by decide +kernel
theorem dX0_skipBlanks_36 : decode cX0_skipBlanks 36 = .ok (.iconst 1, 1) := by decide +kernel
theorem dX0_skipBlanks_37 : decode cX0_skipBlanks 37 = .ok (.iadd, 1) := by decide +kernel
theorem dX0_skipBlanks_38 : decode cX0_skipBlanks 38 = .ok (.putfield 15, 3) := by decide +kernel
theorem dX0_skipBlanks_41 : decode cX0_skipBlanks 41 = .ok (.goto (-41), 3) := by decide +kernel
theorem dX0_skipBlanks_44 : decode cX0_skipBlanks 44 = .ok (.return_, 1) := by decide +kernel
theorem dX0_isAtEnd_0 : decode cX0_isAtEnd 0 = .ok (.aload_n 0, 1) := by decide +kernel
theorem dX0_isAtEnd_1 : decode cX0_isAtEnd 1 = .ok (.invokevirtual 31, 3) := by decide +kernel
theorem dX0_isAtEnd_4 : decode cX0_isAtEnd 4 = .ok (.aload_n 0, 1) := by decide +kernel
theorem dX0_isAtEnd_5 : decode cX0_isAtEnd 5 = .ok (.getfield 15, 3) := by decide +kernel
theorem dX0_isAtEnd_8 : decode cX0_isAtEnd 8 = .ok (.aload_n 0, 1) := by decide +kernel
theorem dX0_isAtEnd_9 : decode cX0_isAtEnd 9 = .ok (.getfield 9, 3) := by decide +kernel
theorem dX0_isAtEnd_12 : decode cX0_isAtEnd 12 = .ok (.getfield 22, 3) := by decide +kernel
theorem dX0_isAtEnd_15 : decode cX0_isAtEnd 15 = .ok (.if_icmp .lt 7, 3) := by decide +kernel
theorem dX0_isAtEnd_18 : decode cX0_isAtEnd 18 = .ok (.iconst 1, 1) := by decide +kernel
theorem dX0_isAtEnd_19 : decode cX0_isAtEnd 19 = .ok (.goto 4, 3) := by decide +kernel
theorem dX0_isAtEnd_22 : decode cX0_isAtEnd 22 = .ok (.iconst 0, 1) := by decide +kernel
theorem dX0_isAtEnd_23 : decode cX0_isAtEnd 23 = .ok (.ireturn, 1) := by decide +kernel
theorem dX0_nextSign_0 : decode cX0_nextSign 0 = .ok (.aload_n 0, 1) := by decide +kernel
theorem dX0_nextSign_1 : decode cX0_nextSign 1 = .ok (.invokevirtual 31, 3) := by decide +kernel
theorem dX0_nextSign_4 : decode cX0_nextSign 4 = .ok (.aload_n 0, 1) := by decide +kernel
theorem dX0_nextSign_5 : decode cX0_nextSign 5 = .ok (.getfield 15, 3) := by decide +kernel
theorem dX0_nextSign_8 : decode cX0_nextSign 8 = .ok (.aload_n 0, 1) := by decide +kernel
theorem dX0_nextSign_9 : decode cX0_nextSign 9 = .ok (.getfield 9, 3) := by decide +kernel
theorem dX0_nextSign_12 : decode cX0_nextSign 12 = .ok (.getfield 22, 3) := by decide +kernel
theorem dX0_nextSign_15 : decode cX0_nextSign 15 = .ok (.if_icmp .ge 18, 3) := by decide +kernel
theorem dX0_nextSign_18 : decode cX0_nextSign 18 = .ok (.aload_n 0, 1) := by decide +kernel
theorem dX0_nextSign_19 : decode cX0_nextSign 19 = .ok (.getfield 9, 3) := by decide +kernel
theorem dX0_nextSign_22 : decode cX0_nextSign 22 = .ok (.getfield 27, 3) := by decide +kernel
theorem dX0_nextSign_25 : decode cX0_nextSign 25 = .ok (.aload_n 0, 1) := by decide +kernel
theorem dX0_nextSign_26 : decode cX0_nextSign 26 = .ok (.getfield 15, 3) := by decide +kernel
theorem dX0_nextSign_29 : decode cX0_nextSign 29 = .ok (.caload, 1) := by decide +kernel
theorem dX0_nextSign_30 : decode cX0_nextSign 30 = .ok (.goto 4, 3) := by decide +kernel
theorem dX0_nextSign_33 : decode cX0_nextSign 33 = .ok (.iconst 0, 1) := by decide +kernel
theorem dX0_nextSign_34 : decode cX0_nextSign 34 = .ok (.ireturn, 1) := by decide +kernel
theorem dX0_takeWord_0 : decode cX0_takeWord 0 = .ok (.aload_n 0, 1) := by decide +kernel
theorem dX0_takeWord_1 : decode cX0_takeWord 1 = .ok (.invokevirtual 31, 3) := by decide +kernel
theorem dX0_takeWord_4 : decode cX0_takeWord 4 = .ok (.aload_n 0, 1) := by decide +kernel
theorem dX0_takeWord_5 : decode cX0_takeWord 5 = .ok (.aload_n 0, 1) := by decide +kernel
theorem dX0_takeWord_6 : decode cX0_takeWord 6 = .ok (.getfield 15, 3) := by decide +kernel
theorem dX0_takeWord_9 : decode cX0_takeWord 9 = .ok (.putfield 34, 3) := by decide +kernel
theorem dX0_takeWord_12 : decode cX0_takeWord 12 = .ok (.aload_n 0, 1) := by decide +kernel
theorem dX0_takeWord_13 : decode cX0_takeWord 13 = .ok (.lconst 0, 1) := by decide +kernel
theorem dX0_takeWord_14 : decode cX0_takeWord 14 = .ok (.putfield 37, 3) := by decide +kernel
theorem dX0_takeWord_17 : decode cX0_takeWord 17 = .ok (.aload_n 0, 1) := by decide +kernel
theorem dX0_takeWord_18 : decode cX0_takeWord 18 = .ok (.getfield 15, 3) := by decide +kernel
theorem dX0_takeWord_21 : decode cX0_takeWord 21 = .ok (.aload_n 0, 1) := by decide +kernel
theorem dX0_takeWord_22 : decode cX0_takeWord 22 = .ok (.getfield 9, 3) := by decide +kernel
theorem dX0_takeWord_25 : decode cX0_takeWord 25 = .ok (.getfield 22, 3) := by decide +kernel
theorem dX0_takeWord_28 : decode cX0_takeWord 28 = .ok (.if_icmp .ge 93, 3) := by decide +kernel
theorem dX0_takeWord_31 : decode cX0_takeWord 31 = .ok (.aload_n 0, 1) := by decide +kernel
theorem dX0_takeWord_32 : decode cX0_takeWord 32 = .ok (.getfield 9, 3) := by decide +kernel
theorem dX0_takeWord_35 : decode cX0_takeWord 35 = .ok (.getfield 27, 3) := by decide +kernel
theorem dX0_takeWord_38 : decode cX0_takeWord 38 = .ok (.aload_n 0, 1) := by decide +kernel
theorem dX0_takeWord_39 : decode cX0_takeWord 39 = .ok (.getfield 15, 3) := by decide +kernel
theorem dX0_takeWord_42 : decode cX0_takeWord 42 = .ok (.caload, 1) := by decide +kernel
theorem dX0_takeWord_43 : decode cX0_takeWord 43 = .ok (.bipush 97, 2) := by decide +kernel
theorem dX0_takeWord_45 : decode cX0_takeWord 45 = .ok (.if_icmp .lt 76, 3) := by decide +kernel
theorem dX0_takeWord_48 : decode cX0_takeWord 48 = .ok (.aload_n 0, 1) := by decide +kernel
theorem dX0_takeWord_49 : decode cX0_takeWord 49 = .ok (.getfield 9, 3) := by decide +kernel
theorem dX0_takeWord_52 : decode cX0_takeWord 52 = .ok (.getfield 27, 3) := by decide +kernel
theorem dX0_takeWord_55 : decode cX0_takeWord 55 = .ok (.aload_n 0, 1) := by decide +kernel
theorem dX0_takeWord_56 : decode cX0_takeWord 56 = .ok (.getfield 15, 3) := by decide +kernel
theorem dX0_takeWord_59 : decode cX0_takeWord 59 = .ok (.caload, 1) := by decide +kernel
theorem dX0_takeWord_60 : decode cX0_takeWord 60 = .ok (.bipush 122, 2) := by decide +kernel
theorem dX0_takeWord_62 : decode cX0_takeWord 62 = .ok (.if_icmp .gt 59, 3) := by decide +kernel
theorem dX0_takeWord_65 : decode cX0_takeWord 65 = .ok (.aload_n 0, 1) := by decide +kernel
theorem dX0_takeWord_66 : decode cX0_takeWord 66 = .ok (.getfield 15, 3) := by decide +kernel
theorem dX0_takeWord_69 : decode cX0_takeWord 69 = .ok (.aload_n 0, 1) := by decide +kernel
theorem dX0_takeWord_70 : decode cX0_takeWord 70 = .ok (.getfield 34, 3) := by decide +kernel
theorem dX0_takeWord_73 : decode cX0_takeWord 73 = .ok (.isub, 1) := by decide +kernel
theorem dX0_takeWord_74 : decode cX0_takeWord 74 = .ok (.istore_n 1, 1) := by decide +kernel
theorem dX0_takeWord_75 : decode cX0_takeWord 75 = .ok (.iload_n 1, 1) := by decide +kernel
theorem dX0_takeWord_76 : decode cX0_takeWord 76 = .ok (.bipush 8, 2) := by decide +kernel
theorem dX0_takeWord_78 : decode cX0_takeWord 78 = .ok (.if_icmp .ge 30, 3) := by decide +kernel
theorem dX0_takeWord_81 : decode cX0_takeWord 81 = .ok (.aload_n 0, 1) := by decide +kernel
theorem dX0_takeWord_82 : decode cX0_takeWord 82 = .ok (.dup, 1) := by decide +kernel
theorem dX0_takeWord_83 : decode cX0_takeWord 83 = .ok (.getfield 37, 3) := by decide +kernel
theorem dX0_takeWord_86 : decode cX0_takeWord 86 = .ok (.aload_n 0, 1) := by decide +kernel
theorem dX0_takeWord_87 : decode cX0_takeWord 87 = .ok (.getfield 9, 3) := by decide +kernel
theorem dX0_takeWord_90 : decode cX0_takeWord 90 = .ok (.getfield 27, 3) := by decide +kernel
theorem dX0_takeWord_93 : decode cX0_takeWord 93 = .ok (.aload_n 0, 1) := by decide +kernel
theorem dX0_takeWord_94 : decode cX0_takeWord 94 = .ok (.getfield 15, 3) := by decide +kernel
theorem dX0_takeWord_97 : decode cX0_takeWord 97 = .ok (.caload, 1) := by decide +kernel
theorem dX0_takeWord_98 : decode cX0_takeWord 98 = .ok (.i2l, 1) := by decide +kernel
theorem dX0_takeWord_99 : decode cX0_takeWord 99 = .ok (.bipush 8, 2) := by decide +kernel
theorem dX0_takeWord_101 : decode cX0_takeWord 101 = .ok (.iload_n 1, 1) := by decide +kernel
theorem dX0_takeWord_102 : decode cX0_takeWord 102 = .ok (.imul, 1) := by decide +kernel
theorem dX0_takeWord_103 : decode cX0_takeWord 103 = .ok (.lshl, 1) := by decide +kernel
theorem dX0_takeWord_104 : decode cX0_takeWord 104 = .ok (.lor, 1) := by decide +kernel
theorem dX0_takeWord_105 : decode cX0_takeWord 105 = .ok (.putfield 37, 3) := by decide +kernel
theorem dX0_takeWord_108 : decode cX0_takeWord 108 = .ok (.aload_n 0, 1) := by decide +kernel
theorem dX0_takeWord_109 : decode cX0_takeWord 109 = .ok (.dup, 1) := by decide +kernel
theorem dX0_takeWord_110 : decode cX0_takeWord 110 = .ok (.getfield 15, 3) := by decide +kernel
theorem dX0_takeWord_113 : decode cX0_takeWord 113 = .ok (.iconst 1, 1) := by decide +kernel
theorem dX0_takeWord_114 : decode cX0_takeWord 114 = .ok (.iadd, 1) := by decide +kernel
theorem dX0_takeWord_115 : decode cX0_takeWord 115 = .ok (.putfield 15, 3) := by decide +kernel
theorem dX0_takeWord_118 : decode cX0_takeWord 118 = .ok (.goto (-101), 3) := by decide +kernel
theorem dX0_takeWord_121 : decode cX0_takeWord 121 = .ok (.aload_n 0, 1) := by decide +kernel
theorem dX0_takeWord_122 : decode cX0_takeWord 122 = .ok (.getfield 15, 3) := by decide +kernel
theorem dX0_takeWord_125 : decode cX0_takeWord 125 = .ok (.aload_n 0, 1) := by decide +kernel
theorem dX0_takeWord_126 : decode cX0_takeWord 126 = .ok (.getfield 34, 3) := by decide +kernel
theorem dX0_takeWord_129 : decode cX0_takeWord 129 = .ok (.if_icmp .le 17, 3) := by decide +kernel
theorem dX0_takeWord_132 : decode cX0_takeWord 132 = .ok (.aload_n 0, 1) := by decide +kernel
theorem dX0_takeWord_133 : decode cX0_takeWord 133 = .ok (.getfield 15, 3) := by decide +kernel
theorem dX0_takeWord_136 : decode cX0_takeWord 136 = .ok (.aload_n 0, 1) := by decide +kernel
theorem dX0_takeWord_137 : decode cX0_takeWord 137 = .ok (.getfield 34, 3) := by decide +kernel
theorem dX0_takeWord_140 : decode cX0_takeWord 140 = .ok (.isub, 1) := by decide +kernel
theorem dX0_takeWord_141 : decode cX0_takeWord 141 = .ok (.bipush 8, 2) := by decide +kernel
theorem dX0_takeWord_143 : decode cX0_takeWord 143 = .ok (.if_icmp .le 14, 3) := by decide +kernel
theorem dX0_takeWord_146 : decode cX0_takeWord 146 = .ok (.aload_n 0, 1) := by decide +kernel
theorem dX0_takeWord_147 : decode cX0_takeWord 147 = .ok (.aload_n 0, 1) := by decide +kernel
theorem dX0_takeWord_148 : decode cX0_takeWord 148 = .ok (.getfield 34, 3) := by decide +kernel
theorem dX0_takeWord_151 : decode cX0_takeWord 151 = .ok (.invokevirtual 41, 3) := by decide +kernel
theorem dX0_takeWord_154 : decode cX0_takeWord 154 = .ok (.ifCond .eq 7, 3) := by decide +kernel
theorem dX0_takeWord_157 : decode cX0_takeWord 157 = .ok (.iconst 1, 1) := by decide +kernel
theorem dX0_takeWord_158 : decode cX0_takeWord 158 = .ok (.goto 4, 3) := by decide +kernel
theorem dX0_takeWord_161 : decode cX0_takeWord 161 = .ok (.iconst 0, 1) := by decide +kernel
theorem dX0_takeWord_162 : decode cX0_takeWord 162 = .ok (.ireturn, 1) := by decide +kernel
theorem dX0_takeNumber_0 : decode cX0_takeNumber 0 = .ok (.aload_n 0, 1) := by decide +kernel
theorem dX0_takeNumber_1 : decode cX0_takeNumber 1 = .ok (.invokevirtual 31, 3) := by decide +kernel
theorem dX0_takeNumber_4 : decode cX0_takeNumber 4 = .ok (.aload_n 0, 1) := by decide +kernel
theorem dX0_takeNumber_5 : decode cX0_takeNumber 5 = .ok (.aload_n 0, 1) := by decide +kernel
theorem dX0_takeNumber_6 : decode cX0_takeNumber 6 = .ok (.getfield 15, 3) := by decide +kernel
theorem dX0_takeNumber_9 : decode cX0_takeNumber 9 = .ok (.putfield 34, 3) := by decide +kernel
theorem dX0_takeNumber_12 : decode cX0_takeNumber 12 = .ok (.aload_n 0, 1) := by decide +kernel
theorem dX0_takeNumber_13 : decode cX0_takeNumber 13 = .ok (.iconst 0, 1) := by decide +kernel
theorem dX0_takeNumber_14 : decode cX0_takeNumber 14 = .ok (.putfield 45, 3) := by decide +kernel
theorem dX0_takeNumber_17 : decode cX0_takeNumber 17 = .ok (.aload_n 0, 1) := by decide +kernel
theorem dX0_takeNumber_18 : decode cX0_takeNumber 18 = .ok (.getfield 15, 3) := by decide +kernel
theorem dX0_takeNumber_21 : decode cX0_takeNumber 21 = .ok (.aload_n 0, 1) := by decide +kernel
theorem dX0_takeNumber_22 : decode cX0_takeNumber 22 = .ok (.getfield 9, 3) := by decide +kernel
theorem dX0_takeNumber_25 : decode cX0_takeNumber 25 = .ok (.getfield 22, 3) := by decide +kernel
theorem dX0_takeNumber_28 : decode cX0_takeNumber 28 = .ok (.if_icmp .ge 90, 3) := by decide +kernel
theorem dX0_takeNumber_31 : decode cX0_takeNumber 31 = .ok (.aload_n 0, 1) := by decide +kernel
theorem dX0_takeNumber_32 : decode cX0_takeNumber 32 = .ok (.getfield 9, 3) := by decide +kernel
theorem dX0_takeNumber_35 : decode cX0_takeNumber 35 = .ok (.getfield 27, 3) := by decide +kernel
theorem dX0_takeNumber_38 : decode cX0_takeNumber 38 = .ok (.aload_n 0, 1) := by decide +kernel
theorem dX0_takeNumber_39 : decode cX0_takeNumber 39 = .ok (.getfield 15, 3) := by decide +kernel
theorem dX0_takeNumber_42 : decode cX0_takeNumber 42 = .ok (.caload, 1) := by decide +kernel
theorem dX0_takeNumber_43 : decode cX0_takeNumber 43 = .ok (.bipush 48, 2) := by decide +kernel
theorem dX0_takeNumber_45 : decode cX0_takeNumber 45 = .ok (.if_icmp .lt 73, 3) := by decide +kernel
theorem dX0_takeNumber_48 : decode cX0_takeNumber 48 = .ok (.aload_n 0, 1) := by decide +kernel
theorem dX0_takeNumber_49 : decode cX0_takeNumber 49 = .ok (.getfield 9, 3) := by decide +kernel
theorem dX0_takeNumber_52 : decode cX0_takeNumber 52 = .ok (.getfield 27, 3) := by decide +kernel
theorem dX0_takeNumber_55 : decode cX0_takeNumber 55 = .ok (.aload_n 0, 1) := by decide +kernel
theorem dX0_takeNumber_56 : decode cX0_takeNumber 56 = .ok (.getfield 15, 3) := by decide +kernel
theorem dX0_takeNumber_59 : decode cX0_takeNumber 59 = .ok (.caload, 1) := by decide +kernel
theorem dX0_takeNumber_60 : decode cX0_takeNumber 60 = .ok (.bipush 57, 2) := by decide +kernel
theorem dX0_takeNumber_62 : decode cX0_takeNumber 62 = .ok (.if_icmp .gt 56, 3) := by decide +kernel
theorem dX0_takeNumber_65 : decode cX0_takeNumber 65 = .ok (.aload_n 0, 1) := by decide +kernel
theorem dX0_takeNumber_66 : decode cX0_takeNumber 66 = .ok (.getfield 15, 3) := by decide +kernel
theorem dX0_takeNumber_69 : decode cX0_takeNumber 69 = .ok (.aload_n 0, 1) := by decide +kernel
theorem dX0_takeNumber_70 : decode cX0_takeNumber 70 = .ok (.getfield 34, 3) := by decide +kernel
theorem dX0_takeNumber_73 : decode cX0_takeNumber 73 = .ok (.isub, 1) := by decide +kernel
theorem dX0_takeNumber_74 : decode cX0_takeNumber 74 = .ok (.iload_n 1, 1) := by decide +kernel
theorem dX0_takeNumber_75 : decode cX0_takeNumber 75 = .ok (.if_icmp .ge 30, 3) := by decide +kernel
theorem dX0_takeNumber_78 : decode cX0_takeNumber 78 = .ok (.aload_n 0, 1) := by decide +kernel
theorem dX0_takeNumber_79 : decode cX0_takeNumber 79 = .ok (.aload_n 0, 1) := by decide +kernel
theorem dX0_takeNumber_80 : decode cX0_takeNumber 80 = .ok (.getfield 45, 3) := by decide +kernel
theorem dX0_takeNumber_83 : decode cX0_takeNumber 83 = .ok (.bipush 10, 2) := by decide +kernel
theorem dX0_takeNumber_85 : decode cX0_takeNumber 85 = .ok (.imul, 1) := by decide +kernel
theorem dX0_takeNumber_86 : decode cX0_takeNumber 86 = .ok (.aload_n 0, 1) := by decide +kernel
theorem dX0_takeNumber_87 : decode cX0_takeNumber 87 = .ok (.getfield 9, 3) := by decide +kernel
theorem dX0_takeNumber_90 : decode cX0_takeNumber 90 = .ok (.getfield 27, 3) := by decide +kernel
theorem dX0_takeNumber_93 : decode cX0_takeNumber 93 = .ok (.aload_n 0, 1) := by decide +kernel
theorem dX0_takeNumber_94 : decode cX0_takeNumber 94 = .ok (.getfield 15, 3) := by decide +kernel
theorem dX0_takeNumber_97 : decode cX0_takeNumber 97 = .ok (.caload, 1) := by decide +kernel
theorem dX0_takeNumber_98 : decode cX0_takeNumber 98 = .ok (.iadd, 1) := by decide +kernel
theorem dX0_takeNumber_99 : decode cX0_takeNumber 99 = .ok (.bipush 48, 2) := by decide +kernel
theorem dX0_takeNumber_101 : decode cX0_takeNumber 101 = .ok (.isub, 1) := by decide +kernel
theorem dX0_takeNumber_102 : decode cX0_takeNumber 102 = .ok (.putfield 45, 3) := by decide +kernel
theorem dX0_takeNumber_105 : decode cX0_takeNumber 105 = .ok (.aload_n 0, 1) := by decide +kernel
theorem dX0_takeNumber_106 : decode cX0_takeNumber 106 = .ok (.dup, 1) := by decide +kernel
theorem dX0_takeNumber_107 : decode cX0_takeNumber 107 = .ok (.getfield 15, 3) := by decide +kernel
theorem dX0_takeNumber_110 : decode cX0_takeNumber 110 = .ok (.iconst 1, 1) := by decide +kernel
theorem dX0_takeNumber_111 : decode cX0_takeNumber 111 = .ok (.iadd, 1) := by decide +kernel
theorem dX0_takeNumber_112 : decode cX0_takeNumber 112 = .ok (.putfield 15, 3) := by decide +kernel
theorem dX0_takeNumber_115 : decode cX0_takeNumber 115 = .ok (.goto (-98), 3) := by decide +kernel
theorem dX0_takeNumber_118 : decode cX0_takeNumber 118 = .ok (.aload_n 0, 1) := by decide +kernel
theorem dX0_takeNumber_119 : decode cX0_takeNumber 119 = .ok (.getfield 15, 3) := by decide +kernel
theorem dX0_takeNumber_122 : decode cX0_takeNumber 122 = .ok (.aload_n 0, 1) := by decide +kernel
theorem dX0_takeNumber_123 : decode cX0_takeNumber 123 = .ok (.getfield 34, 3) := by decide +kernel
theorem dX0_takeNumber_126 : decode cX0_takeNumber 126 = .ok (.if_icmp .le 28, 3) := by decide +kernel
theorem dX0_takeNumber_129 : decode cX0_takeNumber 129 = .ok (.aload_n 0, 1) := by decide +kernel
theorem dX0_takeNumber_130 : decode cX0_takeNumber 130 = .ok (.getfield 15, 3) := by decide +kernel
theorem dX0_takeNumber_133 : decode cX0_takeNumber 133 = .ok (.aload_n 0, 1) := by decide +kernel
theorem dX0_takeNumber_134 : decode cX0_takeNumber 134 = .ok (.getfield 34, 3) := by decide +kernel
theorem dX0_takeNumber_137 : decode cX0_takeNumber 137 = .ok (.isub, 1) := by decide +kernel
theorem dX0_takeNumber_138 : decode cX0_takeNumber 138 = .ok (.iload_n 1, 1) := by decide +kernel
theorem dX0_takeNumber_139 : decode cX0_takeNumber 139 = .ok (.if_icmp .gt 15, 3) := by decide +kernel
theorem dX0_takeNumber_142 : decode cX0_takeNumber 142 = .ok (.aload_n 0, 1) := by decide +kernel
theorem dX0_takeNumber_143 : decode cX0_takeNumber 143 = .ok (.getfield 45, 3) := by decide +kernel
theorem dX0_takeNumber_146 : decode cX0_takeNumber 146 = .ok (.iload_n 2, 1) := by decide +kernel
theorem dX0_takeNumber_147 : decode cX0_takeNumber 147 = .ok (.if_icmp .gt 7, 3) := by decide +kernel
theorem dX0_takeNumber_150 : decode cX0_takeNumber 150 = .ok (.iconst 1, 1) := by decide +kernel
theorem dX0_takeNumber_151 : decode cX0_takeNumber 151 = .ok (.goto 4, 3) := by decide +kernel
theorem dX0_takeNumber_154 : decode cX0_takeNumber 154 = .ok (.iconst 0, 1) := by decide +kernel
theorem dX0_takeNumber_155 : decode cX0_takeNumber 155 = .ok (.istore_n 3, 1) := by decide +kernel
theorem dX0_takeNumber_156 : decode cX0_takeNumber 156 = .ok (.iload_n 3, 1) := by decide +kernel
theorem dX0_takeNumber_157 : decode cX0_takeNumber 157 = .ok (.ifCond .ne 14, 3) := by decide +kernel
theorem dX0_takeNumber_160 : decode cX0_takeNumber 160 = .ok (.aload_n 0, 1) := by decide +kernel
theorem dX0_takeNumber_161 : decode cX0_takeNumber 161 = .ok (.aload_n 0, 1) := by decide +kernel
theorem dX0_takeNumber_162 : decode cX0_takeNumber 162 = .ok (.getfield 34, 3) := by decide +kernel
theorem dX0_takeNumber_165 : decode cX0_takeNumber 165 = .ok (.invokevirtual 41, 3) := by decide +kernel
theorem dX0_takeNumber_168 : decode cX0_takeNumber 168 = .ok (.ifCond .eq 7, 3) := by decide +kernel
theorem dX0_takeNumber_171 : decode cX0_takeNumber 171 = .ok (.iconst 1, 1) := by decide +kernel
theorem dX0_takeNumber_172 : decode cX0_takeNumber 172 = .ok (.goto 4, 3) := by decide +kernel
theorem dX0_takeNumber_175 : decode cX0_takeNumber 175 = .ok (.iconst 0, 1) := by decide +kernel
theorem dX0_takeNumber_176 : decode cX0_takeNumber 176 = .ok (.ireturn, 1) := by decide +kernel
theorem dX0_wordIs_0 : decode cX0_wordIs 0 = .ok (.aload_n 0, 1) := by decide +kernel
theorem dX0_wordIs_1 : decode cX0_wordIs 1 = .ok (.getfield 15, 3) := by decide +kernel
theorem dX0_wordIs_4 : decode cX0_wordIs 4 = .ok (.aload_n 0, 1) := by decide +kernel
theorem dX0_wordIs_5 : decode cX0_wordIs 5 = .ok (.getfield 34, 3) := by decide +kernel
theorem dX0_wordIs_8 : decode cX0_wordIs 8 = .ok (.isub, 1) := by decide +kernel
theorem dX0_wordIs_9 : decode cX0_wordIs 9 = .ok (.aload_n 1, 1) := by decide +kernel
theorem dX0_wordIs_10 : decode cX0_wordIs 10 = .ok (.invokevirtual 48, 3) := by decide +kernel
theorem dX0_wordIs_13 : decode cX0_wordIs 13 = .ok (.if_icmp .eq 5, 3) := by decide +kernel
theorem dX0_wordIs_16 : decode cX0_wordIs 16 = .ok (.iconst 0, 1) := by decide +kernel
theorem dX0_wordIs_17 : decode cX0_wordIs 17 = .ok (.ireturn, 1) := by decide +kernel
theorem dX0_wordIs_18 : decode cX0_wordIs 18 = .ok (.iconst 0, 1) := by decide +kernel
theorem dX0_wordIs_19 : decode cX0_wordIs 19 = .ok (.istore_n 2, 1) := by decide +kernel
theorem dX0_wordIs_20 : decode cX0_wordIs 20 = .ok (.iload_n 2, 1) := by decide +kernel
theorem dX0_wordIs_21 : decode cX0_wordIs 21 = .ok (.aload_n 1, 1) := by decide +kernel
theorem dX0_wordIs_22 : decode cX0_wordIs 22 = .ok (.invokevirtual 48, 3) := by decide +kernel
theorem dX0_wordIs_25 : decode cX0_wordIs 25 = .ok (.if_icmp .ge 33, 3) := by decide +kernel
theorem dX0_wordIs_28 : decode cX0_wordIs 28 = .ok (.aload_n 0, 1) := by decide +kernel
theorem dX0_wordIs_29 : decode cX0_wordIs 29 = .ok (.getfield 9, 3) := by decide +kernel
theorem dX0_wordIs_32 : decode cX0_wordIs 32 = .ok (.getfield 27, 3) := by decide +kernel
theorem dX0_wordIs_35 : decode cX0_wordIs 35 = .ok (.aload_n 0, 1) := by decide +kernel
theorem dX0_wordIs_36 : decode cX0_wordIs 36 = .ok (.getfield 34, 3) := by decide +kernel
theorem dX0_wordIs_39 : decode cX0_wordIs 39 = .ok (.iload_n 2, 1) := by decide +kernel
theorem dX0_wordIs_40 : decode cX0_wordIs 40 = .ok (.iadd, 1) := by decide +kernel
theorem dX0_wordIs_41 : decode cX0_wordIs 41 = .ok (.caload, 1) := by decide +kernel
theorem dX0_wordIs_42 : decode cX0_wordIs 42 = .ok (.aload_n 1, 1) := by decide +kernel
theorem dX0_wordIs_43 : decode cX0_wordIs 43 = .ok (.iload_n 2, 1) := by decide +kernel
theorem dX0_wordIs_44 : decode cX0_wordIs 44 = .ok (.invokevirtual 53, 3) := by decide +kernel
theorem dX0_wordIs_47 : decode cX0_wordIs 47 = .ok (.if_icmp .eq 5, 3) := by decide +kernel
theorem dX0_wordIs_50 : decode cX0_wordIs 50 = .ok (.iconst 0, 1) := by decide +kernel
theorem dX0_wordIs_51 : decode cX0_wordIs 51 = .ok (.ireturn, 1) := by decide +kernel
theorem dX0_wordIs_52 : decode cX0_wordIs 52 = .ok (.iinc 2 1, 3) := by decide +kernel
theorem dX0_wordIs_55 : decode cX0_wordIs 55 = .ok (.goto (-35), 3) := by decide +kernel
theorem dX0_wordIs_58 : decode cX0_wordIs 58 = .ok (.iconst 1, 1) := by decide +kernel
theorem dX0_wordIs_59 : decode cX0_wordIs 59 = .ok (.ireturn, 1) := by decide +kernel
theorem dX0_wordAlone_0 : decode cX0_wordAlone 0 = .ok (.aload_n 0, 1) := by decide +kernel
theorem dX0_wordAlone_1 : decode cX0_wordAlone 1 = .ok (.invokevirtual 57, 3) := by decide +kernel
theorem dX0_wordAlone_4 : decode cX0_wordAlone 4 = .ok (.aload_n 0, 1) := by decide +kernel
theorem dX0_wordAlone_5 : decode cX0_wordAlone 5 = .ok (.invokevirtual 60, 3) := by decide +kernel
theorem dX0_wordAlone_8 : decode cX0_wordAlone 8 = .ok (.ifCond .eq 17, 3) := by decide +kernel
theorem dX0_wordAlone_11 : decode cX0_wordAlone 11 = .ok (.aload_n 0, 1) := by decide +kernel
theorem dX0_wordAlone_12 : decode cX0_wordAlone 12 = .ok (.invokevirtual 64, 3) := by decide +kernel
theorem dX0_wordAlone_15 : decode cX0_wordAlone 15 = .ok (.ifCond .eq 10, 3) := by decide +kernel
theorem dX0_wordAlone_18 : decode cX0_wordAlone 18 = .ok (.aload_n 0, 1) := by decide +kernel
theorem dX0_wordAlone_19 : decode cX0_wordAlone 19 = .ok (.getfield 37, 3) := by decide +kernel
theorem dX0_wordAlone_22 : decode cX0_wordAlone 22 = .ok (.goto 4, 3) := by decide +kernel
theorem dX0_wordAlone_25 : decode cX0_wordAlone 25 = .ok (.lconst 0, 1) := by decide +kernel
theorem dX0_wordAlone_26 : decode cX0_wordAlone 26 = .ok (.lreturn, 1) := by decide +kernel
theorem dX1_init_0 : decode cX1_init 0 = .ok (.aload_n 0, 1) := by decide +kernel
theorem dX1_init_1 : decode cX1_init 1 = .ok (.invokespecial 3, 3) := by decide +kernel
theorem dX1_init_4 : decode cX1_init 4 = .ok (.return_, 1) := by decide +kernel
theorem dX1_next_0 : decode cX1_next 0 = .ok (.iload_n 1, 1) := by decide +kernel
theorem dX1_next_1 : decode cX1_next 1 = .ok (.iconst 1, 1) := by decide +kernel
theorem dX1_next_2 : decode cX1_next 2 = .ok (.if_icmp .ge 5, 3) := by decide +kernel
theorem dX1_next_5 : decode cX1_next 5 = .ok (.iconst 0, 1) := by decide +kernel
theorem dX1_next_6 : decode cX1_next 6 = .ok (.ireturn, 1) := by decide +kernel
theorem dX1_next_7 : decode cX1_next 7 = .ok (.aload_n 0, 1) := by decide +kernel
theorem dX1_next_8 : decode cX1_next 8 = .ok (.aload_n 0, 1) := by decide +kernel
theorem dX1_next_9 : decode cX1_next 9 = .ok (.getfield 9, 3) := by decide +kernel
theorem dX1_next_12 : decode cX1_next 12 = .ok (.ldc2_w 15, 3) := by decide +kernel
theorem dX1_next_15 : decode cX1_next 15 = .ok (.lmul, 1) := by decide +kernel
theorem dX1_next_16 : decode cX1_next 16 = .ok (.ldc2_w 17, 3) := by decide +kernel
theorem dX1_next_19 : decode cX1_next 19 = .ok (.ladd, 1) := by decide +kernel
theorem dX1_next_20 : decode cX1_next 20 = .ok (.putfield 9, 3) := by decide +kernel
theorem dX1_next_23 : decode cX1_next 23 = .ok (.aload_n 0, 1) := by decide +kernel
theorem dX1_next_24 : decode cX1_next 24 = .ok (.getfield 9, 3) := by decide +kernel
theorem dX1_next_27 : decode cX1_next 27 = .ok (.bipush 33, 2) := by decide +kernel
theorem dX1_next_29 : decode cX1_next 29 = .ok (.lushr, 1) := by decide +kernel
theorem dX1_next_30 : decode cX1_next 30 = .ok (.iload_n 1, 1) := by decide +kernel
theorem dX1_next_31 : decode cX1_next 31 = .ok (.i2l, 1) := by decide +kernel
theorem dX1_next_32 : decode cX1_next 32 = .ok (.lrem, 1) := by decide +kernel
theorem dX1_next_33 : decode cX1_next 33 = .ok (.l2i, 1) := by decide +kernel
theorem dX1_next_34 : decode cX1_next 34 = .ok (.ireturn, 1) := by decide +kernel
theorem dX1_drawStep_0 : decode cX1_drawStep 0 = .ok (.aload_n 0, 1) := by decide +kernel
theorem dX1_drawStep_1 : decode cX1_drawStep 1 = .ok (.bipush 8, 2) := by decide +kernel
theorem dX1_drawStep_3 : decode cX1_drawStep 3 = .ok (.invokevirtual 19, 3) := by decide +kernel
theorem dX1_drawStep_6 : decode cX1_drawStep 6 = .ok (.istore_n 3, 1) := by decide +kernel
theorem dX1_drawStep_7 : decode cX1_drawStep 7 = .ok (.iload_n 3, 1) := by decide +kernel
theorem dX1_drawStep_8 : decode cX1_drawStep 8 = .ok (.iconst 4, 1) := by decide +kernel
theorem dX1_drawStep_9 : decode cX1_drawStep 9 = .ok (.if_icmp .ge 38, 3) := by decide +kernel
theorem dX1_drawStep_12 : decode cX1_drawStep 12 = .ok (.aload_n 1, 1) := by decide +kernel
theorem dX1_drawStep_13 : decode cX1_drawStep 13 = .ok (.iconst 0, 1) := by decide +kernel
theorem dX1_drawStep_14 : decode cX1_drawStep 14 = .ok (.putfield 23, 3) := by decide +kernel
theorem dX1_drawStep_17 : decode cX1_drawStep 17 = .ok (.aload_n 1, 1) := by decide +kernel
theorem dX1_drawStep_18 : decode cX1_drawStep 18 = .ok (.aload_n 0, 1) := by decide +kernel
theorem dX1_drawStep_19 : decode cX1_drawStep 19 = .ok (.iconst 3, 1) := by decide +kernel
theorem dX1_drawStep_20 : decode cX1_drawStep 20 = .ok (.invokevirtual 19, 3) := by decide +kernel
theorem dX1_drawStep_23 : decode cX1_drawStep 23 = .ok (.putfield 29, 3) := by decide +kernel
theorem dX1_drawStep_26 : decode cX1_drawStep 26 = .ok (.aload_n 1, 1) := by decide +kernel
theorem dX1_drawStep_27 : decode cX1_drawStep 27 = .ok (.aload_n 0, 1) := by decide +kernel
theorem dX1_drawStep_28 : decode cX1_drawStep 28 = .ok (.iload_n 2, 1) := by decide +kernel
theorem dX1_drawStep_29 : decode cX1_drawStep 29 = .ok (.invokevirtual 19, 3) := by decide +kernel
theorem dX1_drawStep_32 : decode cX1_drawStep 32 = .ok (.putfield 32, 3) := by decide +kernel
theorem dX1_drawStep_35 : decode cX1_drawStep 35 = .ok (.aload_n 1, 1) := by decide +kernel
theorem dX1_drawStep_36 : decode cX1_drawStep 36 = .ok (.aload_n 0, 1) := by decide +kernel
theorem dX1_drawStep_37 : decode cX1_drawStep 37 = .ok (.iconst 4, 1) := by decide +kernel
theorem dX1_drawStep_38 : decode cX1_drawStep 38 = .ok (.invokevirtual 19, 3) := by decide +kernel
theorem dX1_drawStep_41 : decode cX1_drawStep 41 = .ok (.putfield 35, 3) := by decide +kernel
theorem dX1_drawStep_44 : decode cX1_drawStep 44 = .ok (.goto 107, 3) := by decide +kernel
theorem dX1_drawStep_47 : decode cX1_drawStep 47 = .ok (.iload_n 3, 1) := by decide +kernel
theorem dX1_drawStep_48 : decode cX1_drawStep 48 = .ok (.iconst 4, 1) := by decide +kernel
theorem dX1_drawStep_49 : decode cX1_drawStep 49 = .ok (.if_icmp .ne 20, 3) := by decide +kernel
theorem dX1_drawStep_52 : decode cX1_drawStep 52 = .ok (.aload_n 1, 1) := by decide +kernel
theorem dX1_drawStep_53 : decode cX1_drawStep 53 = .ok (.iconst 1, 1) := by decide +kernel
theorem dX1_drawStep_54 : decode cX1_drawStep 54 = .ok (.putfield 23, 3) := by decide +kernel
theorem dX1_drawStep_57 : decode cX1_drawStep 57 = .ok (.aload_n 1, 1) := by decide +kernel
theorem dX1_drawStep_58 : decode cX1_drawStep 58 = .ok (.aload_n 0, 1) := by decide +kernel
theorem dX1_drawStep_59 : decode cX1_drawStep 59 = .ok (.iconst 3, 1) := by decide +kernel
theorem dX1_drawStep_60 : decode cX1_drawStep 60 = .ok (.invokevirtual 19, 3) := by decide +kernel
theorem dX1_drawStep_63 : decode cX1_drawStep 63 = .ok (.putfield 29, 3) := by decide +kernel
theorem dX1_drawStep_66 : decode cX1_drawStep 66 = .ok (.goto 85, 3) := by decide +kernel
theorem dX1_drawStep_69 : decode cX1_drawStep 69 = .ok (.iload_n 3, 1) := by decide +kernel
theorem dX1_drawStep_70 : decode cX1_drawStep 70 = .ok (.iconst 5, 1) := by decide +kernel
theorem dX1_drawStep_71 : decode cX1_drawStep 71 = .ok (.if_icmp .ne 20, 3) := by decide +kernel
theorem dX1_drawStep_74 : decode cX1_drawStep 74 = .ok (.aload_n 1, 1) := by decide +kernel
theorem dX1_drawStep_75 : decode cX1_drawStep 75 = .ok (.iconst 2, 1) := by decide +kernel
theorem dX1_drawStep_76 : decode cX1_drawStep 76 = .ok (.putfield 23, 3) := by decide +kernel
theorem dX1_drawStep_79 : decode cX1_drawStep 79 = .ok (.aload_n 1, 1) := by decide +kernel
theorem dX1_drawStep_80 : decode cX1_drawStep 80 = .ok (.aload_n 0, 1) := by decide +kernel
theorem dX1_drawStep_81 : decode cX1_drawStep 81 = .ok (.iconst 2, 1) := by decide +kernel
theorem dX1_drawStep_82 : decode cX1_drawStep 82 = .ok (.invokevirtual 19, 3) := by decide +kernel
theorem dX1_drawStep_85 : decode cX1_drawStep 85 = .ok (.putfield 29, 3) := by decide +kernel
theorem dX1_drawStep_88 : decode cX1_drawStep 88 = .ok (.goto 63, 3) := by decide +kernel
theorem dX1_drawStep_91 : decode cX1_drawStep 91 = .ok (.aload_n 1, 1) := by decide +kernel
theorem dX1_drawStep_92 : decode cX1_drawStep 92 = .ok (.iload_n 3, 1) := by decide +kernel
theorem dX1_drawStep_93 : decode cX1_drawStep 93 = .ok (.bipush 6, 2) := by decide +kernel
theorem dX1_drawStep_95 : decode cX1_drawStep 95 = .ok (.if_icmp .ne 7, 3) := by decide +kernel
theorem dX1_drawStep_98 : decode cX1_drawStep 98 = .ok (.iconst 3, 1) := by decide +kernel
theorem dX1_drawStep_99 : decode cX1_drawStep 99 = .ok (.goto 4, 3) := by decide +kernel
theorem dX1_drawStep_102 : decode cX1_drawStep 102 = .ok (.iconst 4, 1) := by decide +kernel
theorem dX1_drawStep_103 : decode cX1_drawStep 103 = .ok (.putfield 23, 3) := by decide +kernel
theorem dX1_drawStep_106 : decode cX1_drawStep 106 = .ok (.aload_n 1, 1) := by decide +kernel
theorem dX1_drawStep_107 : decode cX1_drawStep 107 = .ok (.aload_n 0, 1) := by decide +kernel
theorem dX1_drawStep_108 : decode cX1_drawStep 108 = .ok (.iload_n 2, 1) := by decide +kernel
theorem dX1_drawStep_109 : decode cX1_drawStep 109 = .ok (.invokevirtual 19, 3) := by decide +kernel
theorem dX1_drawStep_112 : decode cX1_drawStep 112 = .ok (.putfield 29, 3) := by decide +kernel
theorem dX1_drawStep_115 : decode cX1_drawStep 115 = .ok (.aload_n 1, 1) := by decide +kernel
theorem dX1_drawStep_116 : decode cX1_drawStep 116 = .ok (.aload_n 0, 1) := by decide +kernel
theorem dX1_drawStep_117 : decode cX1_drawStep 117 = .ok (.iconst 4, 1) := by decide +kernel
theorem dX1_drawStep_118 : decode cX1_drawStep 118 = .ok (.invokevirtual 19, 3) := by decide +kernel
theorem dX1_drawStep_121 : decode cX1_drawStep 121 = .ok (.putfield 32, 3) := by decide +kernel
theorem dX1_drawStep_124 : decode cX1_drawStep 124 = .ok (.aload_n 1, 1) := by decide +kernel
theorem dX1_drawStep_125 : decode cX1_drawStep 125 = .ok (.aload_n 0, 1) := by decide +kernel
theorem dX1_drawStep_126 : decode cX1_drawStep 126 = .ok (.iconst 2, 1) := by decide +kernel
theorem dX1_drawStep_127 : decode cX1_drawStep 127 = .ok (.invokevirtual 19, 3) := by decide +kernel
theorem dX1_drawStep_130 : decode cX1_drawStep 130 = .ok (.putfield 35, 3) := by decide +kernel
theorem dX1_drawStep_133 : decode cX1_drawStep 133 = .ok (.aload_n 1, 1) := by decide +kernel
theorem dX1_drawStep_134 : decode cX1_drawStep 134 = .ok (.iload_n 3, 1) := by decide +kernel
theorem dX1_drawStep_135 : decode cX1_drawStep 135 = .ok (.bipush 6, 2) := by decide +kernel
theorem dX1_drawStep_137 : decode cX1_drawStep 137 = .ok (.if_icmp .ne 10, 3) := by decide +kernel
theorem dX1_drawStep_140 : decode cX1_drawStep 140 = .ok (.aload_n 0, 1) := by decide +kernel
theorem dX1_drawStep_141 : decode cX1_drawStep 141 = .ok (.invokevirtual 38, 3) := by decide +kernel
theorem dX1_drawStep_144 : decode cX1_drawStep 144 = .ok (.goto 4, 3) := by decide +kernel
theorem dX1_drawStep_147 : decode cX1_drawStep 147 = .ok (.lconst 0, 1) := by decide +kernel
theorem dX1_drawStep_148 : decode cX1_drawStep 148 = .ok (.putfield 42, 3) := by decide +kernel
theorem dX1_drawStep_151 : decode cX1_drawStep 151 = .ok (.return_, 1) := by decide +kernel
theorem dX1_drawWord_0 : decode cX1_drawWord 0 = .ok (.lconst 0, 1) := by decide +kernel
theorem dX1_drawWord_1 : decode cX1_drawWord 1 = .ok (.lstore_n 1, 1) := by decide +kernel
theorem dX1_drawWord_2 : decode cX1_drawWord 2 = .ok (.iconst 0, 1) := by decide +kernel
theorem dX1_drawWord_3 : decode cX1_drawWord 3 = .ok (.istore_n 3, 1) := by decide +kernel
theorem dX1_drawWord_4 : decode cX1_drawWord 4 = .ok (.iload_n 3, 1) := by decide +kernel
theorem dX1_drawWord_5 : decode cX1_drawWord 5 = .ok (.iconst 3, 1) := by decide +kernel
theorem dX1_drawWord_6 : decode cX1_drawWord 6 = .ok (.if_icmp .ge 26, 3) := by decide +kernel
theorem dX1_drawWord_9 : decode cX1_drawWord 9 = .ok (.lload_n 1, 1) := by decide +kernel
theorem dX1_drawWord_10 : decode cX1_drawWord 10 = .ok (.bipush 97, 2) := by decide +kernel
theorem dX1_drawWord_12 : decode cX1_drawWord 12 = .ok (.aload_n 0, 1) := by decide +kernel
theorem dX1_drawWord_13 : decode cX1_drawWord 13 = .ok (.iconst 3, 1) := by decide +kernel
theorem dX1_drawWord_14 : decode cX1_drawWord 14 = .ok (.invokevirtual 19, 3) := by decide +kernel
theorem dX1_drawWord_17 : decode cX1_drawWord 17 = .ok (.iadd, 1) := by decide +kernel
theorem dX1_drawWord_18 : decode cX1_drawWord 18 = .ok (.i2l, 1) := by decide +kernel
theorem dX1_drawWord_19 : decode cX1_drawWord 19 = .ok (.bipush 8, 2) := by decide +kernel
theorem dX1_drawWord_21 : decode cX1_drawWord 21 = .ok (.iload_n 3, 1) := by decide +kernel
theorem dX1_drawWord_22 : decode cX1_drawWord 22 = .ok (.imul, 1) := by decide +kernel
theorem dX1_drawWord_23 : decode cX1_drawWord 23 = .ok (.lshl, 1) := by decide +kernel
theorem dX1_drawWord_24 : decode cX1_drawWord 24 = .ok (.lor, 1) := by decide +kernel
theorem dX1_drawWord_25 : decode cX1_drawWord 25 = .ok (.lstore_n 1, 1) := by decide +kernel
theorem dX1_drawWord_26 : decode cX1_drawWord 26 = .ok (.iinc 3 1, 3) := by decide +kernel
theorem dX1_drawWord_29 : decode cX1_drawWord 29 = .ok (.goto (-25), 3) := by decide +kernel
theorem dX1_drawWord_32 : decode cX1_drawWord 32 = .ok (.lload_n 1, 1) := by decide +kernel
theorem dX1_drawWord_33 : decode cX1_drawWord 33 = .ok (.lreturn, 1) := by decide +kernel
theorem dX2_init_0 : decode cX2_init 0 = .ok (.aload_n 0, 1) := by decide +kernel
theorem dX2_init_1 : decode cX2_init 1 = .ok (.invokespecial 3, 3) := by decide +kernel
theorem dX2_init_4 : decode cX2_init 4 = .ok (.aload_n 0, 1) := by decide +kernel
theorem dX2_init_5 : decode cX2_init 5 = .ok (.bipush 100, 2) := by decide +kernel
theorem dX2_init_7 : decode cX2_init 7 = .ok (.newarray .int, 2) := by decide +kernel
theorem dX2_init_9 : decode cX2_init 9 = .ok (.putfield 11, 3) := by decide +kernel
theorem dX2_init_12 : decode cX2_init 12 = .ok (.aload_n 0, 1) := by decide +kernel
theorem dX2_init_13 : decode cX2_init 13 = .ok (.bipush 40, 2) := by decide +kernel
theorem dX2_init_15 : decode cX2_init 15 = .ok (.newarray .int, 2) := by decide +kernel
theorem dX2_init_17 : decode cX2_init 17 = .ok (.putfield 15, 3) := by decide +kernel
theorem dX2_init_20 : decode cX2_init 20 = .ok (.aload_n 0, 1) := by decide +kernel
theorem dX2_init_21 : decode cX2_init 21 = .ok (.bipush 40, 2) := by decide +kernel
theorem dX2_init_23 : decode cX2_init 23 = .ok (.newarray .long, 2) := by decide +kernel
theorem dX2_init_25 : decode cX2_init 25 = .ok (.putfield 18, 3) := by decide +kernel
theorem dX2_init_28 : decode cX2_init 28 = .ok (.return_, 1) := by decide +kernel
theorem dX2_clear_0 : decode cX2_clear 0 = .ok (.aload_n 0, 1) := by decide +kernel
theorem dX2_clear_1 : decode cX2_clear 1 = .ok (.iconst 0, 1) := by decide +kernel
theorem dX2_clear_2 : decode cX2_clear 2 = .ok (.putfield 22, 3) := by decide +kernel
theorem dX2_clear_5 : decode cX2_clear 5 = .ok (.aload_n 0, 1) := by decide +kernel
theorem dX2_clear_6 : decode cX2_clear 6 = .ok (.iconst 0, 1) := by decide +kernel
theorem dX2_clear_7 : decode cX2_clear 7 = .ok (.putfield 26, 3) := by decide +kernel
theorem dX2_clear_10 : decode cX2_clear 10 = .ok (.return_, 1) := by decide +kernel
theorem dX2_logged_0 : decode cX2_logged 0 = .ok (.aload_n 0, 1) := by decide +kernel
theorem dX2_logged_1 : decode cX2_logged 1 = .ok (.getfield 22, 3) := by decide +kernel
theorem dX2_logged_4 : decode cX2_logged 4 = .ok (.bipush 60, 2) := by decide +kernel
theorem dX2_logged_6 : decode cX2_logged 6 = .ok (.invokestatic 29, 3) := by decide +kernel
theorem dX2_logged_9 : decode cX2_logged 9 = .ok (.ireturn, 1) := by decide +kernel
theorem dX2_remember_0 : decode cX2_remember 0 = .ok (.aload_n 0, 1) := by decide +kernel
theorem dX2_remember_1 : decode cX2_remember 1 = .ok (.getfield 22, 3) := by decide +kernel
theorem dX2_remember_4 : decode cX2_remember 4 = .ok (.bipush 40, 2) := by decide +kernel
theorem dX2_remember_6 : decode cX2_remember 6 = .ok (.irem, 1) := by decide +kernel
theorem dX2_remember_7 : decode cX2_remember 7 = .ok (.istore 4, 2) := by decide +kernel
theorem dX2_remember_9 : decode cX2_remember 9 = .ok (.aload_n 0, 1) := by decide +kernel
theorem dX2_remember_10 : decode cX2_remember 10 = .ok (.getfield 15, 3) := by decide +kernel
theorem dX2_remember_13 : decode cX2_remember 13 = .ok (.iload 4, 2) := by decide +kernel
theorem dX2_remember_15 : decode cX2_remember 15 = .ok (.iload_n 1, 1) := by decide +kernel
theorem dX2_remember_16 : decode cX2_remember 16 = .ok (.iastore, 1) := by decide +kernel
theorem dX2_remember_17 : decode cX2_remember 17 = .ok (.aload_n 0, 1) := by decide +kernel
theorem dX2_remember_18 : decode cX2_remember 18 = .ok (.getfield 18, 3) := by decide +kernel
theorem dX2_remember_21 : decode cX2_remember 21 = .ok (.iload 4, 2) := by decide +kernel
theorem dX2_remember_23 : decode cX2_remember 23 = .ok (.lload_n 2, 1) := by decide +kernel
theorem dX2_remember_24 : decode cX2_remember 24 = .ok (.lastore, 1) := by decide +kernel
theorem dX2_remember_25 : decode cX2_remember 25 = .ok (.aload_n 0, 1) := by decide +kernel
theorem dX2_remember_26 : decode cX2_remember 26 = .ok (.aload_n 0, 1) := by decide +kernel
theorem dX2_remember_27 : decode cX2_remember 27 = .ok (.getfield 26, 3) := by decide +kernel
theorem dX2_remember_30 : decode cX2_remember 30 = .ok (.iconst 1, 1) := by decide +kernel
theorem dX2_remember_31 : decode cX2_remember 31 = .ok (.iadd, 1) := by decide +kernel
theorem dX2_remember_32 : decode cX2_remember 32 = .ok (.bipush 40, 2) := by decide +kernel
theorem dX2_remember_34 : decode cX2_remember 34 = .ok (.invokestatic 29, 3) := by decide +kernel
theorem dX2_remember_37 : decode cX2_remember 37 = .ok (.putfield 26, 3) := by decide +kernel
theorem dX2_remember_40 : decode cX2_remember 40 = .ok (.return_, 1) := by decide +kernel
theorem dX2_addRow_0 : decode cX2_addRow 0 = .ok (.aload_n 0, 1) := by decide +kernel
theorem dX2_addRow_1 : decode cX2_addRow 1 = .ok (.getfield 11, 3) := by decide +kernel
theorem dX2_addRow_4 : decode cX2_addRow 4 = .ok (.aload_n 0, 1) := by decide +kernel
theorem dX2_addRow_5 : decode cX2_addRow 5 = .ok (.getfield 22, 3) := by decide +kernel
theorem dX2_addRow_8 : decode cX2_addRow 8 = .ok (.bipush 100, 2) := by decide +kernel
theorem dX2_addRow_10 : decode cX2_addRow 10 = .ok (.irem, 1) := by decide +kernel
theorem dX2_addRow_11 : decode cX2_addRow 11 = .ok (.iload_n 1, 1) := by decide +kernel
theorem dX2_addRow_12 : decode cX2_addRow 12 = .ok (.bipush 10, 2) := by decide +kernel
theorem dX2_addRow_14 : decode cX2_addRow 14 = .ok (.imul, 1) := by decide +kernel
theorem dX2_addRow_15 : decode cX2_addRow 15 = .ok (.iload_n 2, 1) := by decide +kernel
theorem dX2_addRow_16 : decode cX2_addRow 16 = .ok (.iadd, 1) := by decide +kernel
theorem dX2_addRow_17 : decode cX2_addRow 17 = .ok (.bipush 10, 2) := by decide +kernel
theorem dX2_addRow_19 : decode cX2_addRow 19 = .ok (.imul, 1) := by decide +kernel
theorem dX2_addRow_20 : decode cX2_addRow 20 = .ok (.iload_n 3, 1) := by decide +kernel
theorem dX2_addRow_21 : decode cX2_addRow 21 = .ok (.iadd, 1) := by decide +kernel
theorem dX2_addRow_22 : decode cX2_addRow 22 = .ok (.iastore, 1) := by decide +kernel
theorem dX2_addRow_23 : decode cX2_addRow 23 = .ok (.aload_n 0, 1) := by decide +kernel
theorem dX2_addRow_24 : decode cX2_addRow 24 = .ok (.dup, 1) := by decide +kernel
theorem dX2_addRow_25 : decode cX2_addRow 25 = .ok (.getfield 22, 3) := by decide +kernel
theorem dX2_addRow_28 : decode cX2_addRow 28 = .ok (.iconst 1, 1) := by decide +kernel
theorem dX2_addRow_29 : decode cX2_addRow 29 = .ok (.iadd, 1) := by decide +kernel
theorem dX2_addRow_30 : decode cX2_addRow 30 = .ok (.putfield 22, 3) := by decide +kernel
theorem dX2_addRow_33 : decode cX2_addRow 33 = .ok (.return_, 1) := by decide +kernel
theorem dX2_rowAt_0 : decode cX2_rowAt 0 = .ok (.aload_n 0, 1) := by decide +kernel
theorem dX2_rowAt_1 : decode cX2_rowAt 1 = .ok (.getfield 11, 3) := by decide +kernel
theorem dX2_rowAt_4 : decode cX2_rowAt 4 = .ok (.aload_n 0, 1) := by decide +kernel
theorem dX2_rowAt_5 : decode cX2_rowAt 5 = .ok (.getfield 22, 3) := by decide +kernel
theorem dX2_rowAt_8 : decode cX2_rowAt 8 = .ok (.iconst 1, 1) := by decide +kernel
theorem dX2_rowAt_9 : decode cX2_rowAt 9 = .ok (.isub, 1) := by decide +kernel
theorem dX2_rowAt_10 : decode cX2_rowAt 10 = .ok (.iload_n 1, 1) := by decide +kernel
theorem dX2_rowAt_11 : decode cX2_rowAt 11 = .ok (.isub, 1) := by decide +kernel
theorem dX2_rowAt_12 : decode cX2_rowAt 12 = .ok (.bipush 100, 2) := by decide +kernel
theorem dX2_rowAt_14 : decode cX2_rowAt 14 = .ok (.irem, 1) := by decide +kernel
theorem dX2_rowAt_15 : decode cX2_rowAt 15 = .ok (.iaload, 1) := by decide +kernel
theorem dX2_rowAt_16 : decode cX2_rowAt 16 = .ok (.ireturn, 1) := by decide +kernel
theorem dX2_sortIn_0 : decode cX2_sortIn 0 = .ok (.iload_n 0, 1) := by decide +kernel
theorem dX2_sortIn_1 : decode cX2_sortIn 1 = .ok (.bipush 100, 2) := by decide +kernel
theorem dX2_sortIn_3 : decode cX2_sortIn 3 = .ok (.idiv, 1) := by decide +kernel
theorem dX2_sortIn_4 : decode cX2_sortIn 4 = .ok (.ireturn, 1) := by decide +kernel
theorem dX2_numberIn_0 : decode cX2_numberIn 0 = .ok (.iload_n 0, 1) := by decide +kernel
theorem dX2_numberIn_1 : decode cX2_numberIn 1 = .ok (.bipush 10, 2) := by decide +kernel
theorem dX2_numberIn_3 : decode cX2_numberIn 3 = .ok (.idiv, 1) := by decide +kernel
theorem dX2_numberIn_4 : decode cX2_numberIn 4 = .ok (.bipush 10, 2) := by decide +kernel
theorem dX2_numberIn_6 : decode cX2_numberIn 6 = .ok (.irem, 1) := by decide +kernel
theorem dX2_numberIn_7 : decode cX2_numberIn 7 = .ok (.ireturn, 1) := by decide +kernel
theorem dX2_tellableIn_0 : decode cX2_tellableIn 0 = .ok (.iload_n 0, 1) := by decide +kernel
theorem dX2_tellableIn_1 : decode cX2_tellableIn 1 = .ok (.bipush 10, 2) := by decide +kernel
theorem dX2_tellableIn_3 : decode cX2_tellableIn 3 = .ok (.irem, 1) := by decide +kernel
theorem dX2_tellableIn_4 : decode cX2_tellableIn 4 = .ok (.ireturn, 1) := by decide +kernel
theorem dX2_undoLatest_0 : decode cX2_undoLatest 0 = .ok (.aload_n 0, 1) := by decide +kernel
theorem dX2_undoLatest_1 : decode cX2_undoLatest 1 = .ok (.getfield 26, 3) := by decide +kernel
theorem dX2_undoLatest_4 : decode cX2_undoLatest 4 = .ok (.ifCond .eq 10, 3) := by decide +kernel
theorem dX2_undoLatest_7 : decode cX2_undoLatest 7 = .ok (.aload_n 0, 1) := by decide +kernel
theorem dX2_undoLatest_8 : decode cX2_undoLatest 8 = .ok (.getfield 22, 3) := by decide +kernel
theorem dX2_undoLatest_11 : decode cX2_undoLatest 11 = .ok (.ifCond .ne 4, 3) := by decide +kernel
theorem dX2_undoLatest_14 : decode cX2_undoLatest 14 = .ok (.return_, 1) := by decide +kernel
theorem dX2_undoLatest_15 : decode cX2_undoLatest 15 = .ok (.aload_n 0, 1) := by decide +kernel
theorem dX2_undoLatest_16 : decode cX2_undoLatest 16 = .ok (.dup, 1) := by decide +kernel
theorem dX2_undoLatest_17 : decode cX2_undoLatest 17 = .ok (.getfield 22, 3) := by decide +kernel
theorem dX2_undoLatest_20 : decode cX2_undoLatest 20 = .ok (.iconst 1, 1) := by decide +kernel
theorem dX2_undoLatest_21 : decode cX2_undoLatest 21 = .ok (.isub, 1) := by decide +kernel
theorem dX2_undoLatest_22 : decode cX2_undoLatest 22 = .ok (.putfield 22, 3) := by decide +kernel
theorem dX2_undoLatest_25 : decode cX2_undoLatest 25 = .ok (.aload_n 0, 1) := by decide +kernel
theorem dX2_undoLatest_26 : decode cX2_undoLatest 26 = .ok (.dup, 1) := by decide +kernel
theorem dX2_undoLatest_27 : decode cX2_undoLatest 27 = .ok (.getfield 26, 3) := by decide +kernel
theorem dX2_undoLatest_30 : decode cX2_undoLatest 30 = .ok (.iconst 1, 1) := by decide +kernel
theorem dX2_undoLatest_31 : decode cX2_undoLatest 31 = .ok (.isub, 1) := by decide +kernel
theorem dX2_undoLatest_32 : decode cX2_undoLatest 32 = .ok (.putfield 26, 3) := by decide +kernel
theorem dX2_undoLatest_35 : decode cX2_undoLatest 35 = .ok (.aload_n 0, 1) := by decide +kernel
theorem dX2_undoLatest_36 : decode cX2_undoLatest 36 = .ok (.getfield 22, 3) := by decide +kernel
theorem dX2_undoLatest_39 : decode cX2_undoLatest 39 = .ok (.bipush 40, 2) := by decide +kernel
theorem dX2_undoLatest_41 : decode cX2_undoLatest 41 = .ok (.irem, 1) := by decide +kernel
theorem dX2_undoLatest_42 : decode cX2_undoLatest 42 = .ok (.istore_n 2, 1) := by decide +kernel
theorem dX2_undoLatest_43 : decode cX2_undoLatest 43 = .ok (.aload_n 1, 1) := by decide +kernel
theorem dX2_undoLatest_44 : decode cX2_undoLatest 44 = .ok (.getfield 35, 3) := by decide +kernel
theorem dX2_undoLatest_47 : decode cX2_undoLatest 47 = .ok (.aload_n 0, 1) := by decide +kernel
theorem dX2_undoLatest_48 : decode cX2_undoLatest 48 = .ok (.getfield 15, 3) := by decide +kernel
theorem dX2_undoLatest_51 : decode cX2_undoLatest 51 = .ok (.iload_n 2, 1) := by decide +kernel
theorem dX2_undoLatest_52 : decode cX2_undoLatest 52 = .ok (.iaload, 1) := by decide +kernel
theorem dX2_undoLatest_53 : decode cX2_undoLatest 53 = .ok (.aload_n 0, 1) := by decide +kernel
theorem dX2_undoLatest_54 : decode cX2_undoLatest 54 = .ok (.getfield 18, 3) := by decide +kernel
theorem dX2_undoLatest_57 : decode cX2_undoLatest 57 = .ok (.iload_n 2, 1) := by decide +kernel
theorem dX2_undoLatest_58 : decode cX2_undoLatest 58 = .ok (.laload, 1) := by decide +kernel
theorem dX2_undoLatest_59 : decode cX2_undoLatest 59 = .ok (.lastore, 1) := by decide +kernel
theorem dX2_undoLatest_60 : decode cX2_undoLatest 60 = .ok (.return_, 1) := by decide +kernel
theorem dX2_copyLogFrom_0 : decode cX2_copyLogFrom 0 = .ok (.aload_n 1, 1) := by decide +kernel
theorem dX2_copyLogFrom_1 : decode cX2_copyLogFrom 1 = .ok (.getfield 11, 3) := by decide +kernel
theorem dX2_copyLogFrom_4 : decode cX2_copyLogFrom 4 = .ok (.iconst 0, 1) := by decide +kernel
theorem dX2_copyLogFrom_5 : decode cX2_copyLogFrom 5 = .ok (.aload_n 0, 1) := by decide +kernel
theorem dX2_copyLogFrom_6 : decode cX2_copyLogFrom 6 = .ok (.getfield 11, 3) := by decide +kernel
theorem dX2_copyLogFrom_9 : decode cX2_copyLogFrom 9 = .ok (.iconst 0, 1) := by decide +kernel
theorem dX2_copyLogFrom_10 : decode cX2_copyLogFrom 10 = .ok (.aload_n 0, 1) := by decide +kernel
theorem dX2_copyLogFrom_11 : decode cX2_copyLogFrom 11 = .ok (.getfield 11, 3) := by decide +kernel
theorem dX2_copyLogFrom_14 : decode cX2_copyLogFrom 14 = .ok (.arraylength, 1) := by decide +kernel
theorem dX2_copyLogFrom_15 : decode cX2_copyLogFrom 15 = .ok (.invokestatic 40, 3) := by decide +kernel
theorem dX2_copyLogFrom_18 : decode cX2_copyLogFrom 18 = .ok (.aload_n 0, 1) := by decide +kernel
theorem dX2_copyLogFrom_19 : decode cX2_copyLogFrom 19 = .ok (.aload_n 1, 1) := by decide +kernel
theorem dX2_copyLogFrom_20 : decode cX2_copyLogFrom 20 = .ok (.getfield 22, 3) := by decide +kernel
theorem dX2_copyLogFrom_23 : decode cX2_copyLogFrom 23 = .ok (.putfield 22, 3) := by decide +kernel
theorem dX2_copyLogFrom_26 : decode cX2_copyLogFrom 26 = .ok (.aload_n 0, 1) := by decide +kernel
theorem dX2_copyLogFrom_27 : decode cX2_copyLogFrom 27 = .ok (.iconst 0, 1) := by decide +kernel
theorem dX2_copyLogFrom_28 : decode cX2_copyLogFrom 28 = .ok (.putfield 26, 3) := by decide +kernel
theorem dX2_copyLogFrom_31 : decode cX2_copyLogFrom 31 = .ok (.return_, 1) := by decide +kernel
theorem dX3_init_0 : decode cX3_init 0 = .ok (.aload_n 0, 1) := by decide +kernel
theorem dX3_init_1 : decode cX3_init 1 = .ok (.invokespecial 3, 3) := by decide +kernel
theorem dX3_init_4 : decode cX3_init 4 = .ok (.aload_n 0, 1) := by decide +kernel
theorem dX3_init_5 : decode cX3_init 5 = .ok (.bipush 6, 2) := by decide +kernel
theorem dX3_init_7 : decode cX3_init 7 = .ok (.newarray .long, 2) := by decide +kernel
theorem dX3_init_9 : decode cX3_init 9 = .ok (.putfield 9, 3) := by decide +kernel
theorem dX3_init_12 : decode cX3_init 12 = .ok (.aload_n 0, 1) := by decide +kernel
theorem dX3_init_13 : decode cX3_init 13 = .ok (.bipush 6, 2) := by decide +kernel
theorem dX3_init_15 : decode cX3_init 15 = .ok (.newarray .int, 2) := by decide +kernel
theorem dX3_init_17 : decode cX3_init 17 = .ok (.putfield 15, 3) := by decide +kernel
theorem dX3_init_20 : decode cX3_init 20 = .ok (.aload_n 0, 1) := by decide +kernel
theorem dX3_init_21 : decode cX3_init 21 = .ok (.bipush 48, 2) := by decide +kernel
theorem dX3_init_23 : decode cX3_init 23 = .ok (.newarray .long, 2) := by decide +kernel
theorem dX3_init_25 : decode cX3_init 25 = .ok (.putfield 19, 3) := by decide +kernel
theorem dX3_init_28 : decode cX3_init 28 = .ok (.aload_n 0, 1) := by decide +kernel
theorem dX3_init_29 : decode cX3_init 29 = .ok (.bipush 24, 2) := by decide +kernel
theorem dX3_init_31 : decode cX3_init 31 = .ok (.newarray .long, 2) := by decide +kernel
theorem dX3_init_33 : decode cX3_init 33 = .ok (.putfield 22, 3) := by decide +kernel
theorem dX3_init_36 : decode cX3_init 36 = .ok (.aload_n 0, 1) := by decide +kernel
theorem dX3_init_37 : decode cX3_init 37 = .ok (.bipush 24, 2) := by decide +kernel
theorem dX3_init_39 : decode cX3_init 39 = .ok (.newarray .long, 2) := by decide +kernel
theorem dX3_init_41 : decode cX3_init 41 = .ok (.putfield 25, 3) := by decide +kernel
theorem dX3_init_44 : decode cX3_init 44 = .ok (.aload_n 0, 1) := by decide +kernel
theorem dX3_init_45 : decode cX3_init 45 = .ok (.iconst 4, 1) := by decide +kernel
theorem dX3_init_46 : decode cX3_init 46 = .ok (.newarray .long, 2) := by decide +kernel
theorem dX3_init_48 : decode cX3_init 48 = .ok (.putfield 28, 3) := by decide +kernel
theorem dX3_init_51 : decode cX3_init 51 = .ok (.aload_n 0, 1) := by decide +kernel
theorem dX3_init_52 : decode cX3_init 52 = .ok (.iconst 4, 1) := by decide +kernel
theorem dX3_init_53 : decode cX3_init 53 = .ok (.newarray .int, 2) := by decide +kernel
theorem dX3_init_55 : decode cX3_init 55 = .ok (.putfield 31, 3) := by decide +kernel
theorem dX3_init_58 : decode cX3_init 58 = .ok (.aload_n 0, 1) := by decide +kernel
theorem dX3_init_59 : decode cX3_init 59 = .ok (.bipush 32, 2) := by decide +kernel
theorem dX3_init_61 : decode cX3_init 61 = .ok (.newarray .char, 2) := by decide +kernel
theorem dX3_init_63 : decode cX3_init 63 = .ok (.putfield 34, 3) := by decide +kernel
theorem dX3_init_66 : decode cX3_init 66 = .ok (.aload_n 0, 1) := by decide +kernel
theorem dX3_init_67 : decode cX3_init 67 = .ok (.bipush 32, 2) := by decide +kernel
theorem dX3_init_69 : decode cX3_init 69 = .ok (.newarray .int, 2) := by decide +kernel
theorem dX3_init_71 : decode cX3_init 71 = .ok (.putfield 38, 3) := by decide +kernel
theorem dX3_init_74 : decode cX3_init 74 = .ok (.aload_n 0, 1) := by decide +kernel
theorem dX3_init_75 : decode cX3_init 75 = .ok (.bipush 32, 2) := by decide +kernel
theorem dX3_init_77 : decode cX3_init 77 = .ok (.newarray .int, 2) := by decide +kernel
theorem dX3_init_79 : decode cX3_init 79 = .ok (.putfield 41, 3) := by decide +kernel
theorem dX3_init_82 : decode cX3_init 82 = .ok (.aload_n 0, 1) := by decide +kernel
theorem dX3_init_83 : decode cX3_init 83 = .ok (.bipush 32, 2) := by decide +kernel
theorem dX3_init_85 : decode cX3_init 85 = .ok (.newarray .long, 2) := by decide +kernel
theorem dX3_init_87 : decode cX3_init 87 = .ok (.putfield 44, 3) := by decide +kernel
theorem dX3_init_90 : decode cX3_init 90 = .ok (.return_, 1) := by decide +kernel
theorem dX3_clear_0 : decode cX3_clear 0 = .ok (.aload_n 0, 1) := by decide +kernel
theorem dX3_clear_1 : decode cX3_clear 1 = .ok (.iconst 0, 1) := by decide +kernel
theorem dX3_clear_2 : decode cX3_clear 2 = .ok (.putfield 47, 3) := by decide +kernel
theorem dX3_clear_5 : decode cX3_clear 5 = .ok (.aload_n 0, 1) := by decide +kernel
theorem dX3_clear_6 : decode cX3_clear 6 = .ok (.iconst 0, 1) := by decide +kernel
theorem dX3_clear_7 : decode cX3_clear 7 = .ok (.putfield 51, 3) := by decide +kernel
theorem dX3_clear_10 : decode cX3_clear 10 = .ok (.aload_n 0, 1) := by decide +kernel
theorem dX3_clear_11 : decode cX3_clear 11 = .ok (.getfield 19, 3) := by decide +kernel
theorem dX3_clear_14 : decode cX3_clear 14 = .ok (.invokestatic 54, 3) := by decide +kernel
theorem dX3_clear_17 : decode cX3_clear 17 = .ok (.aload_n 0, 1) := by decide +kernel
theorem dX3_clear_18 : decode cX3_clear 18 = .ok (.getfield 22, 3) := by decide +kernel
theorem dX3_clear_21 : decode cX3_clear 21 = .ok (.invokestatic 54, 3) := by decide +kernel
theorem dX3_clear_24 : decode cX3_clear 24 = .ok (.aload_n 0, 1) := by decide +kernel
theorem dX3_clear_25 : decode cX3_clear 25 = .ok (.getfield 25, 3) := by decide +kernel
theorem dX3_clear_28 : decode cX3_clear 28 = .ok (.invokestatic 54, 3) := by decide +kernel
theorem dX3_clear_31 : decode cX3_clear 31 = .ok (.return_, 1) := by decide +kernel
theorem dX3_clearRow_0 : decode cX3_clearRow 0 = .ok (.iconst 0, 1) := by decide +kernel
theorem dX3_clearRow_1 : decode cX3_clearRow 1 = .ok (.istore_n 1, 1) := by decide +kernel
theorem dX3_clearRow_2 : decode cX3_clearRow 2 = .ok (.iload_n 1, 1) := by decide +kernel
theorem dX3_clearRow_3 : decode cX3_clearRow 3 = .ok (.aload_n 0, 1) := by decide +kernel
theorem dX3_clearRow_4 : decode cX3_clearRow 4 = .ok (.arraylength, 1) := by decide +kernel
theorem dX3_clearRow_5 : decode cX3_clearRow 5 = .ok (.if_icmp .ge 13, 3) := by decide +kernel
theorem dX3_clearRow_8 : decode cX3_clearRow 8 = .ok (.aload_n 0, 1) := by decide +kernel
theorem dX3_clearRow_9 : decode cX3_clearRow 9 = .ok (.iload_n 1, 1) := by decide +kernel
theorem dX3_clearRow_10 : decode cX3_clearRow 10 = .ok (.lconst 0, 1) := by decide +kernel
theorem dX3_clearRow_11 : decode cX3_clearRow 11 = .ok (.lastore, 1) := by decide +kernel
theorem dX3_clearRow_12 : decode cX3_clearRow 12 = .ok (.iinc 1 1, 3) := by decide +kernel
theorem dX3_clearRow_15 : decode cX3_clearRow 15 = .ok (.goto (-13), 3) := by decide +kernel
theorem dX3_clearRow_18 : decode cX3_clearRow 18 = .ok (.return_, 1) := by decide +kernel
theorem dX3_copyFrom_0 : decode cX3_copyFrom 0 = .ok (.aload_n 0, 1) := by decide +kernel
theorem dX3_copyFrom_1 : decode cX3_copyFrom 1 = .ok (.aload_n 1, 1) := by decide +kernel
theorem dX3_copyFrom_2 : decode cX3_copyFrom 2 = .ok (.getfield 47, 3) := by decide +kernel
theorem dX3_copyFrom_5 : decode cX3_copyFrom 5 = .ok (.putfield 47, 3) := by decide +kernel
theorem dX3_copyFrom_8 : decode cX3_copyFrom 8 = .ok (.aload_n 0, 1) := by decide +kernel
theorem dX3_copyFrom_9 : decode cX3_copyFrom 9 = .ok (.aload_n 1, 1) := by decide +kernel
theorem dX3_copyFrom_10 : decode cX3_copyFrom 10 = .ok (.getfield 51, 3) := by decide +kernel
theorem dX3_copyFrom_13 : decode cX3_copyFrom 13 = .ok (.putfield 51, 3) := by decide +kernel
theorem dX3_copyFrom_16 : decode cX3_copyFrom 16 = .ok (.aload_n 1, 1) := by decide +kernel
theorem dX3_copyFrom_17 : decode cX3_copyFrom 17 = .ok (.getfield 9, 3) := by decide +kernel
theorem dX3_copyFrom_20 : decode cX3_copyFrom 20 = .ok (.iconst 0, 1) := by decide +kernel
theorem dX3_copyFrom_21 : decode cX3_copyFrom 21 = .ok (.aload_n 0, 1) := by decide +kernel
theorem dX3_copyFrom_22 : decode cX3_copyFrom 22 = .ok (.getfield 9, 3) := by decide +kernel
theorem dX3_copyFrom_25 : decode cX3_copyFrom 25 = .ok (.iconst 0, 1) := by decide +kernel
theorem dX3_copyFrom_26 : decode cX3_copyFrom 26 = .ok (.aload_n 0, 1) := by decide +kernel
theorem dX3_copyFrom_27 : decode cX3_copyFrom 27 = .ok (.getfield 9, 3) := by decide +kernel
theorem dX3_copyFrom_30 : decode cX3_copyFrom 30 = .ok (.arraylength, 1) := by decide +kernel
theorem dX3_copyFrom_31 : decode cX3_copyFrom 31 = .ok (.invokestatic 58, 3) := by decide +kernel
theorem dX3_copyFrom_34 : decode cX3_copyFrom 34 = .ok (.aload_n 1, 1) := by decide +kernel
theorem dX3_copyFrom_35 : decode cX3_copyFrom 35 = .ok (.getfield 15, 3) := by decide +kernel
theorem dX3_copyFrom_38 : decode cX3_copyFrom 38 = .ok (.iconst 0, 1) := by decide +kernel
theorem dX3_copyFrom_39 : decode cX3_copyFrom 39 = .ok (.aload_n 0, 1) := by decide +kernel
theorem dX3_copyFrom_40 : decode cX3_copyFrom 40 = .ok (.getfield 15, 3) := by decide +kernel
theorem dX3_copyFrom_43 : decode cX3_copyFrom 43 = .ok (.iconst 0, 1) := by decide +kernel
theorem dX3_copyFrom_44 : decode cX3_copyFrom 44 = .ok (.aload_n 0, 1) := by decide +kernel
theorem dX3_copyFrom_45 : decode cX3_copyFrom 45 = .ok (.getfield 15, 3) := by decide +kernel
theorem dX3_copyFrom_48 : decode cX3_copyFrom 48 = .ok (.arraylength, 1) := by decide +kernel
theorem dX3_copyFrom_49 : decode cX3_copyFrom 49 = .ok (.invokestatic 58, 3) := by decide +kernel
theorem dX3_copyFrom_52 : decode cX3_copyFrom 52 = .ok (.aload_n 1, 1) := by decide +kernel
theorem dX3_copyFrom_53 : decode cX3_copyFrom 53 = .ok (.getfield 19, 3) := by decide +kernel
theorem dX3_copyFrom_56 : decode cX3_copyFrom 56 = .ok (.iconst 0, 1) := by decide +kernel
theorem dX3_copyFrom_57 : decode cX3_copyFrom 57 = .ok (.aload_n 0, 1) := by decide +kernel
theorem dX3_copyFrom_58 : decode cX3_copyFrom 58 = .ok (.getfield 19, 3) := by decide +kernel
theorem dX3_copyFrom_61 : decode cX3_copyFrom 61 = .ok (.iconst 0, 1) := by decide +kernel
theorem dX3_copyFrom_62 : decode cX3_copyFrom 62 = .ok (.aload_n 0, 1) := by decide +kernel
theorem dX3_copyFrom_63 : decode cX3_copyFrom 63 = .ok (.getfield 19, 3) := by decide +kernel
theorem dX3_copyFrom_66 : decode cX3_copyFrom 66 = .ok (.arraylength, 1) := by decide +kernel
theorem dX3_copyFrom_67 : decode cX3_copyFrom 67 = .ok (.invokestatic 58, 3) := by decide +kernel
theorem dX3_copyFrom_70 : decode cX3_copyFrom 70 = .ok (.aload_n 1, 1) := by decide +kernel
theorem dX3_copyFrom_71 : decode cX3_copyFrom 71 = .ok (.getfield 22, 3) := by decide +kernel
theorem dX3_copyFrom_74 : decode cX3_copyFrom 74 = .ok (.iconst 0, 1) := by decide +kernel
theorem dX3_copyFrom_75 : decode cX3_copyFrom 75 = .ok (.aload_n 0, 1) := by decide +kernel
theorem dX3_copyFrom_76 : decode cX3_copyFrom 76 = .ok (.getfield 22, 3) := by decide +kernel
theorem dX3_copyFrom_79 : decode cX3_copyFrom 79 = .ok (.iconst 0, 1) := by decide +kernel
theorem dX3_copyFrom_80 : decode cX3_copyFrom 80 = .ok (.aload_n 0, 1) := by decide +kernel
theorem dX3_copyFrom_81 : decode cX3_copyFrom 81 = .ok (.getfield 22, 3) := by decide +kernel
theorem dX3_copyFrom_84 : decode cX3_copyFrom 84 = .ok (.arraylength, 1) := by decide +kernel
theorem dX3_copyFrom_85 : decode cX3_copyFrom 85 = .ok (.invokestatic 58, 3) := by decide +kernel
theorem dX3_copyFrom_88 : decode cX3_copyFrom 88 = .ok (.aload_n 1, 1) := by decide +kernel
theorem dX3_copyFrom_89 : decode cX3_copyFrom 89 = .ok (.getfield 25, 3) := by decide +kernel
theorem dX3_copyFrom_92 : decode cX3_copyFrom 92 = .ok (.iconst 0, 1) := by decide +kernel
theorem dX3_copyFrom_93 : decode cX3_copyFrom 93 = .ok (.aload_n 0, 1) := by decide +kernel
theorem dX3_copyFrom_94 : decode cX3_copyFrom 94 = .ok (.getfield 25, 3) := by decide +kernel
theorem dX3_copyFrom_97 : decode cX3_copyFrom 97 = .ok (.iconst 0, 1) := by decide +kernel
theorem dX3_copyFrom_98 : decode cX3_copyFrom 98 = .ok (.aload_n 0, 1) := by decide +kernel
theorem dX3_copyFrom_99 : decode cX3_copyFrom 99 = .ok (.getfield 25, 3) := by decide +kernel
theorem dX3_copyFrom_102 : decode cX3_copyFrom 102 = .ok (.arraylength, 1) := by decide +kernel
theorem dX3_copyFrom_103 : decode cX3_copyFrom 103 = .ok (.invokestatic 58, 3) := by decide +kernel
theorem dX3_copyFrom_106 : decode cX3_copyFrom 106 = .ok (.aload_n 1, 1) := by decide +kernel
theorem dX3_copyFrom_107 : decode cX3_copyFrom 107 = .ok (.getfield 28, 3) := by decide +kernel
theorem dX3_copyFrom_110 : decode cX3_copyFrom 110 = .ok (.iconst 0, 1) := by decide +kernel
theorem dX3_copyFrom_111 : decode cX3_copyFrom 111 = .ok (.aload_n 0, 1) := by decide +kernel
theorem dX3_copyFrom_112 : decode cX3_copyFrom 112 = .ok (.getfield 28, 3) := by decide +kernel
theorem dX3_copyFrom_115 : decode cX3_copyFrom 115 = .ok (.iconst 0, 1) := by decide +kernel
theorem dX3_copyFrom_116 : decode cX3_copyFrom 116 = .ok (.aload_n 0, 1) := by decide +kernel
theorem dX3_copyFrom_117 : decode cX3_copyFrom 117 = .ok (.getfield 28, 3) := by decide +kernel
theorem dX3_copyFrom_120 : decode cX3_copyFrom 120 = .ok (.arraylength, 1) := by decide +kernel
theorem dX3_copyFrom_121 : decode cX3_copyFrom 121 = .ok (.invokestatic 58, 3) := by decide +kernel
theorem dX3_copyFrom_124 : decode cX3_copyFrom 124 = .ok (.aload_n 1, 1) := by decide +kernel
theorem dX3_copyFrom_125 : decode cX3_copyFrom 125 = .ok (.getfield 31, 3) := by decide +kernel
theorem dX3_copyFrom_128 : decode cX3_copyFrom 128 = .ok (.iconst 0, 1) := by decide +kernel
theorem dX3_copyFrom_129 : decode cX3_copyFrom 129 = .ok (.aload_n 0, 1) := by decide +kernel
theorem dX3_copyFrom_130 : decode cX3_copyFrom 130 = .ok (.getfield 31, 3) := by decide +kernel
theorem dX3_copyFrom_133 : decode cX3_copyFrom 133 = .ok (.iconst 0, 1) := by decide +kernel
theorem dX3_copyFrom_134 : decode cX3_copyFrom 134 = .ok (.aload_n 0, 1) := by decide +kernel
theorem dX3_copyFrom_135 : decode cX3_copyFrom 135 = .ok (.getfield 31, 3) := by decide +kernel
theorem dX3_copyFrom_138 : decode cX3_copyFrom 138 = .ok (.arraylength, 1) := by decide +kernel
theorem dX3_copyFrom_139 : decode cX3_copyFrom 139 = .ok (.invokestatic 58, 3) := by decide +kernel
theorem dX3_copyFrom_142 : decode cX3_copyFrom 142 = .ok (.aload_n 1, 1) := by decide +kernel
theorem dX3_copyFrom_143 : decode cX3_copyFrom 143 = .ok (.getfield 34, 3) := by decide +kernel
theorem dX3_copyFrom_146 : decode cX3_copyFrom 146 = .ok (.iconst 0, 1) := by decide +kernel
theorem dX3_copyFrom_147 : decode cX3_copyFrom 147 = .ok (.aload_n 0, 1) := by decide +kernel
theorem dX3_copyFrom_148 : decode cX3_copyFrom 148 = .ok (.getfield 34, 3) := by decide +kernel
theorem dX3_copyFrom_151 : decode cX3_copyFrom 151 = .ok (.iconst 0, 1) := by decide +kernel
theorem dX3_copyFrom_152 : decode cX3_copyFrom 152 = .ok (.aload_n 0, 1) := by decide +kernel
theorem dX3_copyFrom_153 : decode cX3_copyFrom 153 = .ok (.getfield 34, 3) := by decide +kernel
theorem dX3_copyFrom_156 : decode cX3_copyFrom 156 = .ok (.arraylength, 1) := by decide +kernel
theorem dX3_copyFrom_157 : decode cX3_copyFrom 157 = .ok (.invokestatic 58, 3) := by decide +kernel
theorem dX3_copyFrom_160 : decode cX3_copyFrom 160 = .ok (.aload_n 1, 1) := by decide +kernel
theorem dX3_copyFrom_161 : decode cX3_copyFrom 161 = .ok (.getfield 38, 3) := by decide +kernel
theorem dX3_copyFrom_164 : decode cX3_copyFrom 164 = .ok (.iconst 0, 1) := by decide +kernel
theorem dX3_copyFrom_165 : decode cX3_copyFrom 165 = .ok (.aload_n 0, 1) := by decide +kernel
theorem dX3_copyFrom_166 : decode cX3_copyFrom 166 = .ok (.getfield 38, 3) := by decide +kernel
theorem dX3_copyFrom_169 : decode cX3_copyFrom 169 = .ok (.iconst 0, 1) := by decide +kernel
theorem dX3_copyFrom_170 : decode cX3_copyFrom 170 = .ok (.aload_n 0, 1) := by decide +kernel
theorem dX3_copyFrom_171 : decode cX3_copyFrom 171 = .ok (.getfield 38, 3) := by decide +kernel
theorem dX3_copyFrom_174 : decode cX3_copyFrom 174 = .ok (.arraylength, 1) := by decide +kernel
theorem dX3_copyFrom_175 : decode cX3_copyFrom 175 = .ok (.invokestatic 58, 3) := by decide +kernel
theorem dX3_copyFrom_178 : decode cX3_copyFrom 178 = .ok (.aload_n 1, 1) := by decide +kernel
theorem dX3_copyFrom_179 : decode cX3_copyFrom 179 = .ok (.getfield 41, 3) := by decide +kernel
theorem dX3_copyFrom_182 : decode cX3_copyFrom 182 = .ok (.iconst 0, 1) := by decide +kernel
theorem dX3_copyFrom_183 : decode cX3_copyFrom 183 = .ok (.aload_n 0, 1) := by decide +kernel
theorem dX3_copyFrom_184 : decode cX3_copyFrom 184 = .ok (.getfield 41, 3) := by decide +kernel
theorem dX3_copyFrom_187 : decode cX3_copyFrom 187 = .ok (.iconst 0, 1) := by decide +kernel
theorem dX3_copyFrom_188 : decode cX3_copyFrom 188 = .ok (.aload_n 0, 1) := by decide +kernel
theorem dX3_copyFrom_189 : decode cX3_copyFrom 189 = .ok (.getfield 41, 3) := by decide +kernel
theorem dX3_copyFrom_192 : decode cX3_copyFrom 192 = .ok (.arraylength, 1) := by decide +kernel
theorem dX3_copyFrom_193 : decode cX3_copyFrom 193 = .ok (.invokestatic 58, 3) := by decide +kernel
theorem dX3_copyFrom_196 : decode cX3_copyFrom 196 = .ok (.aload_n 1, 1) := by decide +kernel
theorem dX3_copyFrom_197 : decode cX3_copyFrom 197 = .ok (.getfield 44, 3) := by decide +kernel
theorem dX3_copyFrom_200 : decode cX3_copyFrom 200 = .ok (.iconst 0, 1) := by decide +kernel
theorem dX3_copyFrom_201 : decode cX3_copyFrom 201 = .ok (.aload_n 0, 1) := by decide +kernel
theorem dX3_copyFrom_202 : decode cX3_copyFrom 202 = .ok (.getfield 44, 3) := by decide +kernel
theorem dX3_copyFrom_205 : decode cX3_copyFrom 205 = .ok (.iconst 0, 1) := by decide +kernel
theorem dX3_copyFrom_206 : decode cX3_copyFrom 206 = .ok (.aload_n 0, 1) := by decide +kernel
theorem dX3_copyFrom_207 : decode cX3_copyFrom 207 = .ok (.getfield 44, 3) := by decide +kernel
theorem dX3_copyFrom_210 : decode cX3_copyFrom 210 = .ok (.arraylength, 1) := by decide +kernel
theorem dX3_copyFrom_211 : decode cX3_copyFrom 211 = .ok (.invokestatic 58, 3) := by decide +kernel
theorem dX3_copyFrom_214 : decode cX3_copyFrom 214 = .ok (.return_, 1) := by decide +kernel
theorem dX3_nounNamed_0 : decode cX3_nounNamed 0 = .ok (.iconst 0, 1) := by decide +kernel
theorem dX3_nounNamed_1 : decode cX3_nounNamed 1 = .ok (.istore_n 3, 1) := by decide +kernel
theorem dX3_nounNamed_2 : decode cX3_nounNamed 2 = .ok (.iload_n 3, 1) := by decide +kernel
theorem dX3_nounNamed_3 : decode cX3_nounNamed 3 = .ok (.aload_n 0, 1) := by decide +kernel
theorem dX3_nounNamed_4 : decode cX3_nounNamed 4 = .ok (.getfield 47, 3) := by decide +kernel
theorem dX3_nounNamed_7 : decode cX3_nounNamed 7 = .ok (.if_icmp .ge 22, 3) := by decide +kernel
theorem dX3_nounNamed_10 : decode cX3_nounNamed 10 = .ok (.aload_n 0, 1) := by decide +kernel
theorem dX3_nounNamed_11 : decode cX3_nounNamed 11 = .ok (.getfield 9, 3) := by decide +kernel
theorem dX3_nounNamed_14 : decode cX3_nounNamed 14 = .ok (.iload_n 3, 1) := by decide +kernel
theorem dX3_nounNamed_15 : decode cX3_nounNamed 15 = .ok (.laload, 1) := by decide +kernel
theorem dX3_nounNamed_16 : decode cX3_nounNamed 16 = .ok (.lload_n 1, 1) := by decide +kernel
theorem dX3_nounNamed_17 : decode cX3_nounNamed 17 = .ok (.lcmp, 1) := by decide +kernel
theorem dX3_nounNamed_18 : decode cX3_nounNamed 18 = .ok (.ifCond .ne 5, 3) := by decide +kernel
theorem dX3_nounNamed_21 : decode cX3_nounNamed 21 = .ok (.iload_n 3, 1) := by decide +kernel
theorem dX3_nounNamed_22 : decode cX3_nounNamed 22 = .ok (.ireturn, 1) := by decide +kernel
theorem dX3_nounNamed_23 : decode cX3_nounNamed 23 = .ok (.iinc 3 1, 3) := by decide +kernel
theorem dX3_nounNamed_26 : decode cX3_nounNamed 26 = .ok (.goto (-24), 3) := by decide +kernel
theorem dX3_nounNamed_29 : decode cX3_nounNamed 29 = .ok (.iconst (-1), 1) := by decide +kernel
theorem dX3_nounNamed_30 : decode cX3_nounNamed 30 = .ok (.ireturn, 1) := by decide +kernel
theorem dX3_messageNamed_0 : decode cX3_messageNamed 0 = .ok (.iconst 0, 1) := by decide +kernel
theorem dX3_messageNamed_1 : decode cX3_messageNamed 1 = .ok (.istore_n 3, 1) := by decide +kernel
theorem dX3_messageNamed_2 : decode cX3_messageNamed 2 = .ok (.iload_n 3, 1) := by decide +kernel
theorem dX3_messageNamed_3 : decode cX3_messageNamed 3 = .ok (.aload_n 0, 1) := by decide +kernel
theorem dX3_messageNamed_4 : decode cX3_messageNamed 4 = .ok (.getfield 51, 3) := by decide +kernel
theorem dX3_messageNamed_7 : decode cX3_messageNamed 7 = .ok (.if_icmp .ge 22, 3) := by decide +kernel
theorem dX3_messageNamed_10 : decode cX3_messageNamed 10 = .ok (.aload_n 0, 1) := by decide +kernel
theorem dX3_messageNamed_11 : decode cX3_messageNamed 11 = .ok (.getfield 28, 3) := by decide +kernel
theorem dX3_messageNamed_14 : decode cX3_messageNamed 14 = .ok (.iload_n 3, 1) := by decide +kernel
theorem dX3_messageNamed_15 : decode cX3_messageNamed 15 = .ok (.laload, 1) := by decide +kernel
theorem dX3_messageNamed_16 : decode cX3_messageNamed 16 = .ok (.lload_n 1, 1) := by decide +kernel
theorem dX3_messageNamed_17 : decode cX3_messageNamed 17 = .ok (.lcmp, 1) := by decide +kernel
theorem dX3_messageNamed_18 : decode cX3_messageNamed 18 = .ok (.ifCond .ne 5, 3) := by decide +kernel
theorem dX3_messageNamed_21 : decode cX3_messageNamed 21 = .ok (.iload_n 3, 1) := by decide +kernel
theorem dX3_messageNamed_22 : decode cX3_messageNamed 22 = .ok (.ireturn, 1) := by decide +kernel
theorem dX3_messageNamed_23 : decode cX3_messageNamed 23 = .ok (.iinc 3 1, 3) := by decide +kernel
theorem dX3_messageNamed_26 : decode cX3_messageNamed 26 = .ok (.goto (-24), 3) := by decide +kernel
theorem dX3_messageNamed_29 : decode cX3_messageNamed 29 = .ok (.iconst (-1), 1) := by decide +kernel
theorem dX3_messageNamed_30 : decode cX3_messageNamed 30 = .ok (.ireturn, 1) := by decide +kernel
theorem dX3_boundSlot_0 : decode cX3_boundSlot 0 = .ok (.iload_n 0, 1) := by decide +kernel
theorem dX3_boundSlot_1 : decode cX3_boundSlot 1 = .ok (.iconst 2, 1) := by decide +kernel
theorem dX3_boundSlot_2 : decode cX3_boundSlot 2 = .ok (.imul, 1) := by decide +kernel
theorem dX3_boundSlot_3 : decode cX3_boundSlot 3 = .ok (.iload_n 1, 1) := by decide +kernel
theorem dX3_boundSlot_4 : decode cX3_boundSlot 4 = .ok (.iadd, 1) := by decide +kernel
theorem dX3_boundSlot_5 : decode cX3_boundSlot 5 = .ok (.iconst 3, 1) := by decide +kernel
theorem dX3_boundSlot_6 : decode cX3_boundSlot 6 = .ok (.imul, 1) := by decide +kernel
theorem dX3_boundSlot_7 : decode cX3_boundSlot 7 = .ok (.iload_n 2, 1) := by decide +kernel
theorem dX3_boundSlot_8 : decode cX3_boundSlot 8 = .ok (.iadd, 1) := by decide +kernel
theorem dX3_boundSlot_9 : decode cX3_boundSlot 9 = .ok (.ireturn, 1) := by decide +kernel
theorem dX3_boundWord_0 : decode cX3_boundWord 0 = .ok (.aload_n 0, 1) := by decide +kernel
theorem dX3_boundWord_1 : decode cX3_boundWord 1 = .ok (.iload_n 1, 1) := by decide +kernel
theorem dX3_boundWord_2 : decode cX3_boundWord 2 = .ok (.iload_n 2, 1) := by decide +kernel
theorem dX3_boundWord_3 : decode cX3_boundWord 3 = .ok (.iload_n 3, 1) := by decide +kernel
theorem dX3_boundWord_4 : decode cX3_boundWord 4 = .ok (.invokestatic 64, 3) := by decide +kernel
theorem dX3_boundWord_7 : decode cX3_boundWord 7 = .ok (.laload, 1) := by decide +kernel
theorem dX3_boundWord_8 : decode cX3_boundWord 8 = .ok (.lstore 4, 2) := by decide +kernel
theorem dX3_boundWord_10 : decode cX3_boundWord 10 = .ok (.lload 4, 2) := by decide +kernel
theorem dX3_boundWord_12 : decode cX3_boundWord 12 = .ok (.lconst 0, 1) := by decide +kernel
theorem dX3_boundWord_13 : decode cX3_boundWord 13 = .ok (.lcmp, 1) := by decide +kernel
theorem dX3_boundWord_14 : decode cX3_boundWord 14 = .ok (.ifCond .eq 8, 3) := by decide +kernel
theorem dX3_boundWord_17 : decode cX3_boundWord 17 = .ok (.lload 4, 2) := by decide +kernel
theorem dX3_boundWord_19 : decode cX3_boundWord 19 = .ok (.goto 11, 3) := by decide +kernel
theorem dX3_boundWord_22 : decode cX3_boundWord 22 = .ok (.aload_n 0, 1) := by decide +kernel
theorem dX3_boundWord_23 : decode cX3_boundWord 23 = .ok (.iload_n 1, 1) := by decide +kernel
theorem dX3_boundWord_24 : decode cX3_boundWord 24 = .ok (.iload_n 2, 1) := by decide +kernel
theorem dX3_boundWord_25 : decode cX3_boundWord 25 = .ok (.iconst 0, 1) := by decide +kernel
theorem dX3_boundWord_26 : decode cX3_boundWord 26 = .ok (.invokestatic 64, 3) := by decide +kernel
theorem dX3_boundWord_29 : decode cX3_boundWord 29 = .ok (.laload, 1) := by decide +kernel
theorem dX3_boundWord_30 : decode cX3_boundWord 30 = .ok (.lreturn, 1) := by decide +kernel
theorem dX3_holesAskedBy_0 : decode cX3_holesAskedBy 0 = .ok (.iconst 0, 1) := by decide +kernel
theorem dX3_holesAskedBy_1 : decode cX3_holesAskedBy 1 = .ok (.istore_n 2, 1) := by decide +kernel
theorem dX3_holesAskedBy_2 : decode cX3_holesAskedBy 2 = .ok (.iload_n 1, 1) := by decide +kernel
theorem dX3_holesAskedBy_3 : decode cX3_holesAskedBy 3 = .ok (.bipush 8, 2) := by decide +kernel
theorem dX3_holesAskedBy_5 : decode cX3_holesAskedBy 5 = .ok (.imul, 1) := by decide +kernel
theorem dX3_holesAskedBy_6 : decode cX3_holesAskedBy 6 = .ok (.istore_n 3, 1) := by decide +kernel
theorem dX3_holesAskedBy_7 : decode cX3_holesAskedBy 7 = .ok (.iload_n 3, 1) := by decide +kernel
theorem dX3_holesAskedBy_8 : decode cX3_holesAskedBy 8 = .ok (.istore 4, 2) := by decide +kernel
theorem dX3_holesAskedBy_10 : decode cX3_holesAskedBy 10 = .ok (.iload 4, 2) := by decide +kernel
theorem dX3_holesAskedBy_12 : decode cX3_holesAskedBy 12 = .ok (.iload_n 3, 1) := by decide +kernel
theorem dX3_holesAskedBy_13 : decode cX3_holesAskedBy 13 = .ok (.aload_n 0, 1) := by decide +kernel
theorem dX3_holesAskedBy_14 : decode cX3_holesAskedBy 14 = .ok (.getfield 31, 3) := by decide +kernel
theorem dX3_holesAskedBy_17 : decode cX3_holesAskedBy 17 = .ok (.iload_n 1, 1) := by decide +kernel
theorem dX3_holesAskedBy_18 : decode cX3_holesAskedBy 18 = .ok (.iaload, 1) := by decide +kernel
theorem dX3_holesAskedBy_19 : decode cX3_holesAskedBy 19 = .ok (.iadd, 1) := by decide +kernel
theorem dX3_holesAskedBy_20 : decode cX3_holesAskedBy 20 = .ok (.if_icmp .ge 69, 3) := by decide +kernel
theorem dX3_holesAskedBy_23 : decode cX3_holesAskedBy 23 = .ok (.aload_n 0, 1) := by decide +kernel
theorem dX3_holesAskedBy_24 : decode cX3_holesAskedBy 24 = .ok (.getfield 34, 3) := by decide +kernel
theorem dX3_holesAskedBy_27 : decode cX3_holesAskedBy 27 = .ok (.iload 4, 2) := by decide +kernel
theorem dX3_holesAskedBy_29 : decode cX3_holesAskedBy 29 = .ok (.caload, 1) := by decide +kernel
theorem dX3_holesAskedBy_30 : decode cX3_holesAskedBy 30 = .ok (.bipush 119, 2) := by decide +kernel
theorem dX3_holesAskedBy_32 : decode cX3_holesAskedBy 32 = .ok (.if_icmp .eq 15, 3) := by decide +kernel
theorem dX3_holesAskedBy_35 : decode cX3_holesAskedBy 35 = .ok (.iload_n 2, 1) := by decide +kernel
theorem dX3_holesAskedBy_36 : decode cX3_holesAskedBy 36 = .ok (.iconst 1, 1) := by decide +kernel
theorem dX3_holesAskedBy_37 : decode cX3_holesAskedBy 37 = .ok (.aload_n 0, 1) := by decide +kernel
theorem dX3_holesAskedBy_38 : decode cX3_holesAskedBy 38 = .ok (.getfield 38, 3) := by decide +kernel
theorem dX3_holesAskedBy_41 : decode cX3_holesAskedBy 41 = .ok (.iload 4, 2) := by decide +kernel
theorem dX3_holesAskedBy_43 : decode cX3_holesAskedBy 43 = .ok (.iaload, 1) := by decide +kernel
theorem dX3_holesAskedBy_44 : decode cX3_holesAskedBy 44 = .ok (.ishl, 1) := by decide +kernel
theorem dX3_holesAskedBy_45 : decode cX3_holesAskedBy 45 = .ok (.ior, 1) := by decide +kernel
theorem dX3_holesAskedBy_46 : decode cX3_holesAskedBy 46 = .ok (.istore_n 2, 1) := by decide +kernel
theorem dX3_holesAskedBy_47 : decode cX3_holesAskedBy 47 = .ok (.aload_n 0, 1) := by decide +kernel
theorem dX3_holesAskedBy_48 : decode cX3_holesAskedBy 48 = .ok (.getfield 34, 3) := by decide +kernel
theorem dX3_holesAskedBy_51 : decode cX3_holesAskedBy 51 = .ok (.iload 4, 2) := by decide +kernel
theorem dX3_holesAskedBy_53 : decode cX3_holesAskedBy 53 = .ok (.caload, 1) := by decide +kernel
theorem dX3_holesAskedBy_54 : decode cX3_holesAskedBy 54 = .ok (.bipush 61, 2) := by decide +kernel
theorem dX3_holesAskedBy_56 : decode cX3_holesAskedBy 56 = .ok (.if_icmp .eq 15, 3) := by decide +kernel
theorem dX3_holesAskedBy_59 : decode cX3_holesAskedBy 59 = .ok (.aload_n 0, 1) := by decide +kernel
theorem dX3_holesAskedBy_60 : decode cX3_holesAskedBy 60 = .ok (.getfield 34, 3) := by decide +kernel
theorem dX3_holesAskedBy_63 : decode cX3_holesAskedBy 63 = .ok (.iload 4, 2) := by decide +kernel
theorem dX3_holesAskedBy_65 : decode cX3_holesAskedBy 65 = .ok (.caload, 1) := by decide +kernel
theorem dX3_holesAskedBy_66 : decode cX3_holesAskedBy 66 = .ok (.bipush 33, 2) := by decide +kernel
theorem dX3_holesAskedBy_68 : decode cX3_holesAskedBy 68 = .ok (.if_icmp .ne 15, 3) := by decide +kernel
theorem dX3_holesAskedBy_71 : decode cX3_holesAskedBy 71 = .ok (.iload_n 2, 1) := by decide +kernel
theorem dX3_holesAskedBy_72 : decode cX3_holesAskedBy 72 = .ok (.iconst 1, 1) := by decide +kernel
theorem dX3_holesAskedBy_73 : decode cX3_holesAskedBy 73 = .ok (.aload_n 0, 1) := by decide +kernel
theorem dX3_holesAskedBy_74 : decode cX3_holesAskedBy 74 = .ok (.getfield 41, 3) := by decide +kernel
theorem dX3_holesAskedBy_77 : decode cX3_holesAskedBy 77 = .ok (.iload 4, 2) := by decide +kernel
theorem dX3_holesAskedBy_79 : decode cX3_holesAskedBy 79 = .ok (.iaload, 1) := by decide +kernel
theorem dX3_holesAskedBy_80 : decode cX3_holesAskedBy 80 = .ok (.ishl, 1) := by decide +kernel
theorem dX3_holesAskedBy_81 : decode cX3_holesAskedBy 81 = .ok (.ior, 1) := by decide +kernel
theorem dX3_holesAskedBy_82 : decode cX3_holesAskedBy 82 = .ok (.istore_n 2, 1) := by decide +kernel
theorem dX3_holesAskedBy_83 : decode cX3_holesAskedBy 83 = .ok (.iinc 4 1, 3) := by decide +kernel
theorem dX3_holesAskedBy_86 : decode cX3_holesAskedBy 86 = .ok (.goto (-76), 3) := by decide +kernel
theorem dX3_holesAskedBy_89 : decode cX3_holesAskedBy 89 = .ok (.iload_n 2, 1) := by decide +kernel
theorem dX3_holesAskedBy_90 : decode cX3_holesAskedBy 90 = .ok (.ireturn, 1) := by decide +kernel
theorem dX3_asksForm_0 : decode cX3_asksForm 0 = .ok (.aload_n 0, 1) := by decide +kernel
theorem dX3_asksForm_1 : decode cX3_asksForm 1 = .ok (.getfield 34, 3) := by decide +kernel
theorem dX3_asksForm_4 : decode cX3_asksForm 4 = .ok (.iload_n 1, 1) := by decide +kernel
theorem dX3_asksForm_5 : decode cX3_asksForm 5 = .ok (.caload, 1) := by decide +kernel
theorem dX3_asksForm_6 : decode cX3_asksForm 6 = .ok (.bipush 35, 2) := by decide +kernel
theorem dX3_asksForm_8 : decode cX3_asksForm 8 = .ok (.if_icmp .eq 14, 3) := by decide +kernel
theorem dX3_asksForm_11 : decode cX3_asksForm 11 = .ok (.aload_n 0, 1) := by decide +kernel
theorem dX3_asksForm_12 : decode cX3_asksForm 12 = .ok (.getfield 34, 3) := by decide +kernel
theorem dX3_asksForm_15 : decode cX3_asksForm 15 = .ok (.iload_n 1, 1) := by decide +kernel
theorem dX3_asksForm_16 : decode cX3_asksForm 16 = .ok (.caload, 1) := by decide +kernel
theorem dX3_asksForm_17 : decode cX3_asksForm 17 = .ok (.bipush 64, 2) := by decide +kernel
theorem dX3_asksForm_19 : decode cX3_asksForm 19 = .ok (.if_icmp .ne 7, 3) := by decide +kernel
theorem dX3_asksForm_22 : decode cX3_asksForm 22 = .ok (.iconst 1, 1) := by decide +kernel
theorem dX3_asksForm_23 : decode cX3_asksForm 23 = .ok (.goto 4, 3) := by decide +kernel
theorem dX3_asksForm_26 : decode cX3_asksForm 26 = .ok (.iconst 0, 1) := by decide +kernel
theorem dX3_asksForm_27 : decode cX3_asksForm 27 = .ok (.ireturn, 1) := by decide +kernel
theorem dX3_casesAskedBy_0 : decode cX3_casesAskedBy 0 = .ok (.iconst 0, 1) := by decide +kernel
theorem dX3_casesAskedBy_1 : decode cX3_casesAskedBy 1 = .ok (.istore_n 3, 1) := by decide +kernel
theorem dX3_casesAskedBy_2 : decode cX3_casesAskedBy 2 = .ok (.iload_n 1, 1) := by decide +kernel
theorem dX3_casesAskedBy_3 : decode cX3_casesAskedBy 3 = .ok (.bipush 8, 2) := by decide +kernel
theorem dX3_casesAskedBy_5 : decode cX3_casesAskedBy 5 = .ok (.imul, 1) := by decide +kernel
theorem dX3_casesAskedBy_6 : decode cX3_casesAskedBy 6 = .ok (.istore 4, 2) := by decide +kernel
theorem dX3_casesAskedBy_8 : decode cX3_casesAskedBy 8 = .ok (.iload 4, 2) := by decide +kernel
theorem dX3_casesAskedBy_10 : decode cX3_casesAskedBy 10 = .ok (.istore 5, 2) := by decide +kernel
theorem dX3_casesAskedBy_12 : decode cX3_casesAskedBy 12 = .ok (.iload 5, 2) := by decide +kernel
theorem dX3_casesAskedBy_14 : decode cX3_casesAskedBy 14 = .ok (.iload 4, 2) := by decide +kernel
theorem dX3_casesAskedBy_16 : decode cX3_casesAskedBy 16 = .ok (.aload_n 0, 1) := by decide +kernel
theorem dX3_casesAskedBy_17 : decode cX3_casesAskedBy 17 = .ok (.getfield 31, 3) := by decide +kernel
theorem dX3_casesAskedBy_20 : decode cX3_casesAskedBy 20 = .ok (.iload_n 1, 1) := by decide +kernel
theorem dX3_casesAskedBy_21 : decode cX3_casesAskedBy 21 = .ok (.iaload, 1) := by decide +kernel
theorem dX3_casesAskedBy_22 : decode cX3_casesAskedBy 22 = .ok (.iadd, 1) := by decide +kernel
theorem dX3_casesAskedBy_23 : decode cX3_casesAskedBy 23 = .ok (.if_icmp .ge 44, 3) := by decide +kernel
theorem dX3_casesAskedBy_26 : decode cX3_casesAskedBy 26 = .ok (.aload_n 0, 1) := by decide +kernel
theorem dX3_casesAskedBy_27 : decode cX3_casesAskedBy 27 = .ok (.iload 5, 2) := by decide +kernel
theorem dX3_casesAskedBy_29 : decode cX3_casesAskedBy 29 = .ok (.invokevirtual 68, 3) := by decide +kernel
theorem dX3_casesAskedBy_32 : decode cX3_casesAskedBy 32 = .ok (.ifCond .eq 29, 3) := by decide +kernel
theorem dX3_casesAskedBy_35 : decode cX3_casesAskedBy 35 = .ok (.iload_n 2, 1) := by decide +kernel
theorem dX3_casesAskedBy_36 : decode cX3_casesAskedBy 36 = .ok (.aload_n 0, 1) := by decide +kernel
theorem dX3_casesAskedBy_37 : decode cX3_casesAskedBy 37 = .ok (.getfield 38, 3) := by decide +kernel
theorem dX3_casesAskedBy_40 : decode cX3_casesAskedBy 40 = .ok (.iload 5, 2) := by decide +kernel
theorem dX3_casesAskedBy_42 : decode cX3_casesAskedBy 42 = .ok (.iaload, 1) := by decide +kernel
theorem dX3_casesAskedBy_43 : decode cX3_casesAskedBy 43 = .ok (.ishr, 1) := by decide +kernel
theorem dX3_casesAskedBy_44 : decode cX3_casesAskedBy 44 = .ok (.iconst 1, 1) := by decide +kernel
theorem dX3_casesAskedBy_45 : decode cX3_casesAskedBy 45 = .ok (.iand, 1) := by decide +kernel
theorem dX3_casesAskedBy_46 : decode cX3_casesAskedBy 46 = .ok (.ifCond .eq 15, 3) := by decide +kernel
theorem dX3_casesAskedBy_49 : decode cX3_casesAskedBy 49 = .ok (.iload_n 3, 1) := by decide +kernel
theorem dX3_casesAskedBy_50 : decode cX3_casesAskedBy 50 = .ok (.iconst 1, 1) := by decide +kernel
theorem dX3_casesAskedBy_51 : decode cX3_casesAskedBy 51 = .ok (.aload_n 0, 1) := by decide +kernel
theorem dX3_casesAskedBy_52 : decode cX3_casesAskedBy 52 = .ok (.getfield 41, 3) := by decide +kernel
theorem dX3_casesAskedBy_55 : decode cX3_casesAskedBy 55 = .ok (.iload 5, 2) := by decide +kernel
theorem dX3_casesAskedBy_57 : decode cX3_casesAskedBy 57 = .ok (.iaload, 1) := by decide +kernel
theorem dX3_casesAskedBy_58 : decode cX3_casesAskedBy 58 = .ok (.ishl, 1) := by decide +kernel
theorem dX3_casesAskedBy_59 : decode cX3_casesAskedBy 59 = .ok (.ior, 1) := by decide +kernel
theorem dX3_casesAskedBy_60 : decode cX3_casesAskedBy 60 = .ok (.istore_n 3, 1) := by decide +kernel
theorem dX3_casesAskedBy_61 : decode cX3_casesAskedBy 61 = .ok (.iinc 5 1, 3) := by decide +kernel
theorem dX3_casesAskedBy_64 : decode cX3_casesAskedBy 64 = .ok (.goto (-52), 3) := by decide +kernel
theorem dX3_casesAskedBy_67 : decode cX3_casesAskedBy 67 = .ok (.iload_n 3, 1) := by decide +kernel
theorem dX3_casesAskedBy_68 : decode cX3_casesAskedBy 68 = .ok (.ireturn, 1) := by decide +kernel
theorem dX4_init_0 : decode cX4_init 0 = .ok (.aload_n 0, 1) := by decide +kernel
theorem dX4_init_1 : decode cX4_init 1 = .ok (.invokespecial 3, 3) := by decide +kernel
theorem dX4_init_4 : decode cX4_init 4 = .ok (.aload_n 0, 1) := by decide +kernel
theorem dX4_init_5 : decode cX4_init 5 = .ok (.aload_n 1, 1) := by decide +kernel
theorem dX4_init_6 : decode cX4_init 6 = .ok (.putfield 9, 3) := by decide +kernel
theorem dX4_init_9 : decode cX4_init 9 = .ok (.aload_n 0, 1) := by decide +kernel
theorem dX4_init_10 : decode cX4_init 10 = .ok (.new 15, 3) := by decide +kernel
theorem dX4_init_13 : decode cX4_init 13 = .ok (.dup, 1) := by decide +kernel
theorem dX4_init_14 : decode cX4_init 14 = .ok (.invokespecial 17, 3) := by decide +kernel
theorem dX4_init_17 : decode cX4_init 17 = .ok (.putfield 18, 3) := by decide +kernel
theorem dX4_init_20 : decode cX4_init 20 = .ok (.return_, 1) := by decide +kernel
theorem dX4_findFault_0 : decode cX4_findFault 0 = .ok (.aload_n 0, 1) := by decide +kernel
theorem dX4_findFault_1 : decode cX4_findFault 1 = .ok (.getfield 18, 3) := by decide +kernel
theorem dX4_findFault_4 : decode cX4_findFault 4 = .ok (.invokevirtual 22, 3) := by decide +kernel
theorem dX4_findFault_7 : decode cX4_findFault 7 = .ok (.aload_n 0, 1) := by decide +kernel
theorem dX4_findFault_8 : decode cX4_findFault 8 = .ok (.getfield 9, 3) := by decide +kernel
theorem dX4_findFault_11 : decode cX4_findFault 11 = .ok (.invokevirtual 25, 3) := by decide +kernel
theorem dX4_findFault_14 : decode cX4_findFault 14 = .ok (.iconst 0, 1) := by decide +kernel
theorem dX4_findFault_15 : decode cX4_findFault 15 = .ok (.istore_n 1, 1) := by decide +kernel
theorem dX4_findFault_16 : decode cX4_findFault 16 = .ok (.iload_n 1, 1) := by decide +kernel
theorem dX4_findFault_17 : decode cX4_findFault 17 = .ok (.sipush 480, 3) := by decide +kernel
theorem dX4_findFault_20 : decode cX4_findFault 20 = .ok (.if_icmp .gt 89, 3) := by decide +kernel
theorem dX4_findFault_23 : decode cX4_findFault 23 = .ok (.aload_n 0, 1) := by decide +kernel
theorem dX4_findFault_24 : decode cX4_findFault 24 = .ok (.invokevirtual 30, 3) := by decide +kernel
theorem dX4_findFault_27 : decode cX4_findFault 27 = .ok (.ifCond .ne 11, 3) := by decide +kernel
theorem dX4_findFault_30 : decode cX4_findFault 30 = .ok (.aload_n 0, 1) := by decide +kernel
theorem dX4_findFault_31 : decode cX4_findFault 31 = .ok (.getfield 9, 3) := by decide +kernel
theorem dX4_findFault_34 : decode cX4_findFault 34 = .ok (.getfield 34, 3) := by decide +kernel
theorem dX4_findFault_37 : decode cX4_findFault 37 = .ok (.ireturn, 1) := by decide +kernel
theorem dX4_findFault_38 : decode cX4_findFault 38 = .ok (.aload_n 0, 1) := by decide +kernel
theorem dX4_findFault_39 : decode cX4_findFault 39 = .ok (.getfield 9, 3) := by decide +kernel
theorem dX4_findFault_42 : decode cX4_findFault 42 = .ok (.invokevirtual 38, 3) := by decide +kernel
theorem dX4_findFault_45 : decode cX4_findFault 45 = .ok (.ifCond .eq 25, 3) := by decide +kernel
theorem dX4_findFault_48 : decode cX4_findFault 48 = .ok (.aload_n 0, 1) := by decide +kernel
theorem dX4_findFault_49 : decode cX4_findFault 49 = .ok (.getfield 18, 3) := by decide +kernel
theorem dX4_findFault_52 : decode cX4_findFault 52 = .ok (.getfield 41, 3) := by decide +kernel
theorem dX4_findFault_55 : decode cX4_findFault 55 = .ok (.ifCond .ne 13, 3) := by decide +kernel
theorem dX4_findFault_58 : decode cX4_findFault 58 = .ok (.aload_n 0, 1) := by decide +kernel
theorem dX4_findFault_59 : decode cX4_findFault 59 = .ok (.getfield 9, 3) := by decide +kernel
theorem dX4_findFault_62 : decode cX4_findFault 62 = .ok (.getfield 44, 3) := by decide +kernel
theorem dX4_findFault_65 : decode cX4_findFault 65 = .ok (.goto 4, 3) := by decide +kernel
theorem dX4_findFault_68 : decode cX4_findFault 68 = .ok (.iconst (-1), 1) := by decide +kernel
theorem dX4_findFault_69 : decode cX4_findFault 69 = .ok (.ireturn, 1) := by decide +kernel
theorem dX4_findFault_70 : decode cX4_findFault 70 = .ok (.aload_n 0, 1) := by decide +kernel
theorem dX4_findFault_71 : decode cX4_findFault 71 = .ok (.getfield 9, 3) := by decide +kernel
theorem dX4_findFault_74 : decode cX4_findFault 74 = .ok (.invokevirtual 47, 3) := by decide +kernel
theorem dX4_findFault_77 : decode cX4_findFault 77 = .ok (.bipush 59, 2) := by decide +kernel
theorem dX4_findFault_79 : decode cX4_findFault 79 = .ok (.if_icmp .eq 11, 3) := by decide +kernel
theorem dX4_findFault_82 : decode cX4_findFault 82 = .ok (.aload_n 0, 1) := by decide +kernel
theorem dX4_findFault_83 : decode cX4_findFault 83 = .ok (.getfield 9, 3) := by decide +kernel
theorem dX4_findFault_86 : decode cX4_findFault 86 = .ok (.getfield 44, 3) := by decide +kernel
theorem dX4_findFault_89 : decode cX4_findFault 89 = .ok (.ireturn, 1) := by decide +kernel
theorem dX4_findFault_90 : decode cX4_findFault 90 = .ok (.aload_n 0, 1) := by decide +kernel
theorem dX4_findFault_91 : decode cX4_findFault 91 = .ok (.getfield 9, 3) := by decide +kernel
theorem dX4_findFault_94 : decode cX4_findFault 94 = .ok (.dup, 1) := by decide +kernel
theorem dX4_findFault_95 : decode cX4_findFault 95 = .ok (.getfield 44, 3) := by decide +kernel
theorem dX4_findFault_98 : decode cX4_findFault 98 = .ok (.iconst 1, 1) := by decide +kernel
theorem dX4_findFault_99 : decode cX4_findFault 99 = .ok (.iadd, 1) := by decide +kernel
theorem dX4_findFault_100 : decode cX4_findFault 100 = .ok (.putfield 44, 3) := by decide +kernel
theorem dX4_findFault_103 : decode cX4_findFault 103 = .ok (.iinc 1 1, 3) := by decide +kernel
theorem dX4_findFault_106 : decode cX4_findFault 106 = .ok (.goto (-90), 3) := by decide +kernel
theorem dX4_findFault_109 : decode cX4_findFault 109 = .ok (.aload_n 0, 1) := by decide +kernel
theorem dX4_findFault_110 : decode cX4_findFault 110 = .ok (.getfield 9, 3) := by decide +kernel
theorem dX4_findFault_113 : decode cX4_findFault 113 = .ok (.getfield 44, 3) := by decide +kernel
theorem dX4_findFault_116 : decode cX4_findFault 116 = .ok (.ireturn, 1) := by decide +kernel
theorem dX4_readClause_0 : decode cX4_readClause 0 = .ok (.aload_n 0, 1) := by decide +kernel
theorem dX4_readClause_1 : decode cX4_readClause 1 = .ok (.getfield 9, 3) := by decide +kernel
theorem dX4_readClause_4 : decode cX4_readClause 4 = .ok (.invokevirtual 51, 3) := by decide +kernel
theorem dX4_readClause_7 : decode cX4_readClause 7 = .ok (.ifCond .ne 5, 3) := by decide +kernel
theorem dX4_readClause_10 : decode cX4_readClause 10 = .ok (.iconst 0, 1) := by decide +kernel
theorem dX4_readClause_11 : decode cX4_readClause 11 = .ok (.ireturn, 1) := by decide +kernel
theorem dX4_readClause_12 : decode cX4_readClause 12 = .ok (.aload_n 0, 1) := by decide +kernel
theorem dX4_readClause_13 : decode cX4_readClause 13 = .ok (.getfield 9, 3) := by decide +kernel
theorem dX4_readClause_16 : decode cX4_readClause 16 = .ok (.getfield 54, 3) := by decide +kernel
theorem dX4_readClause_19 : decode cX4_readClause 19 = .ok (.istore_n 1, 1) := by decide +kernel
theorem dX4_readClause_20 : decode cX4_readClause 20 = .ok (.aload_n 0, 1) := by decide +kernel
theorem dX4_readClause_21 : decode cX4_readClause 21 = .ok (.getfield 9, 3) := by decide +kernel
theorem dX4_readClause_24 : decode cX4_readClause 24 = .ok (.ldc 57, 2) := by decide +kernel
theorem dX4_readClause_26 : decode cX4_readClause 26 = .ok (.invokevirtual 59, 3) := by decide +kernel
theorem dX4_readClause_29 : decode cX4_readClause 29 = .ok (.ifCond .eq 9, 3) := by decide +kernel
theorem dX4_readClause_32 : decode cX4_readClause 32 = .ok (.aload_n 0, 1) := by decide +kernel
theorem dX4_readClause_33 : decode cX4_readClause 33 = .ok (.iload_n 1, 1) := by decide +kernel
theorem dX4_readClause_34 : decode cX4_readClause 34 = .ok (.invokevirtual 63, 3) := by decide +kernel
theorem dX4_readClause_37 : decode cX4_readClause 37 = .ok (.ireturn, 1) := by decide +kernel
theorem dX4_readClause_38 : decode cX4_readClause 38 = .ok (.aload_n 0, 1) := by decide +kernel
theorem dX4_readClause_39 : decode cX4_readClause 39 = .ok (.getfield 9, 3) := by decide +kernel
theorem dX4_readClause_42 : decode cX4_readClause 42 = .ok (.ldc 67, 2) := by decide +kernel
theorem dX4_readClause_44 : decode cX4_readClause 44 = .ok (.invokevirtual 59, 3) := by decide +kernel
theorem dX4_readClause_47 : decode cX4_readClause 47 = .ok (.ifCond .eq 9, 3) := by decide +kernel
theorem dX4_readClause_50 : decode cX4_readClause 50 = .ok (.aload_n 0, 1) := by decide +kernel
theorem dX4_readClause_51 : decode cX4_readClause 51 = .ok (.iload_n 1, 1) := by decide +kernel
theorem dX4_readClause_52 : decode cX4_readClause 52 = .ok (.invokevirtual 69, 3) := by decide +kernel
theorem dX4_readClause_55 : decode cX4_readClause 55 = .ok (.ireturn, 1) := by decide +kernel
theorem dX4_readClause_56 : decode cX4_readClause 56 = .ok (.aload_n 0, 1) := by decide +kernel
theorem dX4_readClause_57 : decode cX4_readClause 57 = .ok (.getfield 9, 3) := by decide +kernel
theorem dX4_readClause_60 : decode cX4_readClause 60 = .ok (.ldc 72, 2) := by decide +kernel
theorem dX4_readClause_62 : decode cX4_readClause 62 = .ok (.invokevirtual 59, 3) := by decide +kernel
theorem dX4_readClause_65 : decode cX4_readClause 65 = .ok (.ifCond .eq 16, 3) := by decide +kernel
theorem dX4_readClause_68 : decode cX4_readClause 68 = .ok (.aload_n 0, 1) := by decide +kernel
theorem dX4_readClause_69 : decode cX4_readClause 69 = .ok (.iload_n 1, 1) := by decide +kernel
theorem dX4_readClause_70 : decode cX4_readClause 70 = .ok (.aload_n 0, 1) := by decide +kernel
theorem dX4_readClause_71 : decode cX4_readClause 71 = .ok (.getfield 18, 3) := by decide +kernel
theorem dX4_readClause_74 : decode cX4_readClause 74 = .ok (.getfield 74, 3) := by decide +kernel
theorem dX4_readClause_77 : decode cX4_readClause 77 = .ok (.invokevirtual 78, 3) := by decide +kernel
theorem dX4_readClause_80 : decode cX4_readClause 80 = .ok (.ireturn, 1) := by decide +kernel
theorem dX4_readClause_81 : decode cX4_readClause 81 = .ok (.aload_n 0, 1) := by decide +kernel
theorem dX4_readClause_82 : decode cX4_readClause 82 = .ok (.getfield 9, 3) := by decide +kernel
theorem dX4_readClause_85 : decode cX4_readClause 85 = .ok (.ldc 82, 2) := by decide +kernel
theorem dX4_readClause_87 : decode cX4_readClause 87 = .ok (.invokevirtual 59, 3) := by decide +kernel
theorem dX4_readClause_90 : decode cX4_readClause 90 = .ok (.ifCond .eq 16, 3) := by decide +kernel
theorem dX4_readClause_93 : decode cX4_readClause 93 = .ok (.aload_n 0, 1) := by decide +kernel
theorem dX4_readClause_94 : decode cX4_readClause 94 = .ok (.iload_n 1, 1) := by decide +kernel
theorem dX4_readClause_95 : decode cX4_readClause 95 = .ok (.aload_n 0, 1) := by decide +kernel
theorem dX4_readClause_96 : decode cX4_readClause 96 = .ok (.getfield 18, 3) := by decide +kernel
theorem dX4_readClause_99 : decode cX4_readClause 99 = .ok (.getfield 84, 3) := by decide +kernel
theorem dX4_readClause_102 : decode cX4_readClause 102 = .ok (.invokevirtual 78, 3) := by decide +kernel
theorem dX4_readClause_105 : decode cX4_readClause 105 = .ok (.ireturn, 1) := by decide +kernel
theorem dX4_readClause_106 : decode cX4_readClause 106 = .ok (.aload_n 0, 1) := by decide +kernel
theorem dX4_readClause_107 : decode cX4_readClause 107 = .ok (.getfield 9, 3) := by decide +kernel
theorem dX4_readClause_110 : decode cX4_readClause 110 = .ok (.ldc 87, 2) := by decide +kernel
theorem dX4_readClause_112 : decode cX4_readClause 112 = .ok (.invokevirtual 59, 3) := by decide +kernel
theorem dX4_readClause_115 : decode cX4_readClause 115 = .ok (.ifCond .eq 9, 3) := by decide +kernel
theorem dX4_readClause_118 : decode cX4_readClause 118 = .ok (.aload_n 0, 1) := by decide +kernel
theorem dX4_readClause_119 : decode cX4_readClause 119 = .ok (.iload_n 1, 1) := by decide +kernel
theorem dX4_readClause_120 : decode cX4_readClause 120 = .ok (.invokevirtual 89, 3) := by decide +kernel
theorem dX4_readClause_123 : decode cX4_readClause 123 = .ok (.ireturn, 1) := by decide +kernel
theorem dX4_readClause_124 : decode cX4_readClause 124 = .ok (.aload_n 0, 1) := by decide +kernel
theorem dX4_readClause_125 : decode cX4_readClause 125 = .ok (.getfield 9, 3) := by decide +kernel
theorem dX4_readClause_128 : decode cX4_readClause 128 = .ok (.iload_n 1, 1) := by decide +kernel
theorem dX4_readClause_129 : decode cX4_readClause 129 = .ok (.invokevirtual 92, 3) := by decide +kernel
theorem dX4_readClause_132 : decode cX4_readClause 132 = .ok (.ireturn, 1) := by decide +kernel
theorem dX4_readNoun_0 : decode cX4_readNoun 0 = .ok (.aload_n 0, 1) := by decide +kernel
theorem dX4_readNoun_1 : decode cX4_readNoun 1 = .ok (.getfield 18, 3) := by decide +kernel
theorem dX4_readNoun_4 : decode cX4_readNoun 4 = .ok (.getfield 41, 3) := by decide +kernel
theorem dX4_readNoun_7 : decode cX4_readNoun 7 = .ok (.istore_n 2, 1) := by decide +kernel
theorem dX4_readNoun_8 : decode cX4_readNoun 8 = .ok (.iload_n 2, 1) := by decide +kernel
theorem dX4_readNoun_9 : decode cX4_readNoun 9 = .ok (.bipush 6, 2) := by decide +kernel
theorem dX4_readNoun_11 : decode cX4_readNoun 11 = .ok (.if_icmp .lt 12, 3) := by decide +kernel
theorem dX4_readNoun_14 : decode cX4_readNoun 14 = .ok (.aload_n 0, 1) := by decide +kernel
theorem dX4_readNoun_15 : decode cX4_readNoun 15 = .ok (.getfield 9, 3) := by decide +kernel
theorem dX4_readNoun_18 : decode cX4_readNoun 18 = .ok (.iload_n 1, 1) := by decide +kernel
theorem dX4_readNoun_19 : decode cX4_readNoun 19 = .ok (.invokevirtual 92, 3) := by decide +kernel
theorem dX4_readNoun_22 : decode cX4_readNoun 22 = .ok (.ireturn, 1) := by decide +kernel
theorem dX4_readNoun_23 : decode cX4_readNoun 23 = .ok (.aload_n 0, 1) := by decide +kernel
theorem dX4_readNoun_24 : decode cX4_readNoun 24 = .ok (.getfield 9, 3) := by decide +kernel
theorem dX4_readNoun_27 : decode cX4_readNoun 27 = .ok (.invokevirtual 51, 3) := by decide +kernel
theorem dX4_readNoun_30 : decode cX4_readNoun 30 = .ok (.ifCond .ne 5, 3) := by decide +kernel
theorem dX4_readNoun_33 : decode cX4_readNoun 33 = .ok (.iconst 0, 1) := by decide +kernel
theorem dX4_readNoun_34 : decode cX4_readNoun 34 = .ok (.ireturn, 1) := by decide +kernel
theorem dX4_readNoun_35 : decode cX4_readNoun 35 = .ok (.aload_n 0, 1) := by decide +kernel
theorem dX4_readNoun_36 : decode cX4_readNoun 36 = .ok (.getfield 18, 3) := by decide +kernel
theorem dX4_readNoun_39 : decode cX4_readNoun 39 = .ok (.aload_n 0, 1) := by decide +kernel
theorem dX4_readNoun_40 : decode cX4_readNoun 40 = .ok (.getfield 9, 3) := by decide +kernel
theorem dX4_readNoun_43 : decode cX4_readNoun 43 = .ok (.getfield 95, 3) := by decide +kernel
theorem dX4_readNoun_46 : decode cX4_readNoun 46 = .ok (.invokevirtual 99, 3) := by decide +kernel
theorem dX4_readNoun_49 : decode cX4_readNoun 49 = .ok (.iconst (-1), 1) := by decide +kernel
theorem dX4_readNoun_50 : decode cX4_readNoun 50 = .ok (.if_icmp .eq 18, 3) := by decide +kernel
theorem dX4_readNoun_53 : decode cX4_readNoun 53 = .ok (.aload_n 0, 1) := by decide +kernel
theorem dX4_readNoun_54 : decode cX4_readNoun 54 = .ok (.getfield 9, 3) := by decide +kernel
theorem dX4_readNoun_57 : decode cX4_readNoun 57 = .ok (.aload_n 0, 1) := by decide +kernel
theorem dX4_readNoun_58 : decode cX4_readNoun 58 = .ok (.getfield 9, 3) := by decide +kernel
theorem dX4_readNoun_61 : decode cX4_readNoun 61 = .ok (.getfield 54, 3) := by decide +kernel
theorem dX4_readNoun_64 : decode cX4_readNoun 64 = .ok (.invokevirtual 92, 3) := by decide +kernel
theorem dX4_readNoun_67 : decode cX4_readNoun 67 = .ok (.ireturn, 1) := by decide +kernel
theorem dX4_readNoun_68 : decode cX4_readNoun 68 = .ok (.aload_n 0, 1) := by decide +kernel
theorem dX4_readNoun_69 : decode cX4_readNoun 69 = .ok (.getfield 18, 3) := by decide +kernel
theorem dX4_readNoun_72 : decode cX4_readNoun 72 = .ok (.getfield 103, 3) := by decide +kernel
theorem dX4_readNoun_75 : decode cX4_readNoun 75 = .ok (.iload_n 2, 1) := by decide +kernel
theorem dX4_readNoun_76 : decode cX4_readNoun 76 = .ok (.aload_n 0, 1) := by decide +kernel
theorem dX4_readNoun_77 : decode cX4_readNoun 77 = .ok (.getfield 9, 3) := by decide +kernel
theorem dX4_readNoun_80 : decode cX4_readNoun 80 = .ok (.getfield 95, 3) := by decide +kernel
theorem dX4_readNoun_83 : decode cX4_readNoun 83 = .ok (.lastore, 1) := by decide +kernel
theorem dX4_readNoun_84 : decode cX4_readNoun 84 = .ok (.aload_n 0, 1) := by decide +kernel
theorem dX4_readNoun_85 : decode cX4_readNoun 85 = .ok (.getfield 9, 3) := by decide +kernel
theorem dX4_readNoun_88 : decode cX4_readNoun 88 = .ok (.iconst 1, 1) := by decide +kernel
theorem dX4_readNoun_89 : decode cX4_readNoun 89 = .ok (.iconst 2, 1) := by decide +kernel
theorem dX4_readNoun_90 : decode cX4_readNoun 90 = .ok (.invokevirtual 106, 3) := by decide +kernel
theorem dX4_readNoun_93 : decode cX4_readNoun 93 = .ok (.ifCond .ne 5, 3) := by decide +kernel
theorem dX4_readNoun_96 : decode cX4_readNoun 96 = .ok (.iconst 0, 1) := by decide +kernel
theorem dX4_readNoun_97 : decode cX4_readNoun 97 = .ok (.ireturn, 1) := by decide +kernel
theorem dX4_readNoun_98 : decode cX4_readNoun 98 = .ok (.aload_n 0, 1) := by decide +kernel
theorem dX4_readNoun_99 : decode cX4_readNoun 99 = .ok (.getfield 18, 3) := by decide +kernel
theorem dX4_readNoun_102 : decode cX4_readNoun 102 = .ok (.getfield 110, 3) := by decide +kernel
theorem dX4_readNoun_105 : decode cX4_readNoun 105 = .ok (.iload_n 2, 1) := by decide +kernel
theorem dX4_readNoun_106 : decode cX4_readNoun 106 = .ok (.aload_n 0, 1) := by decide +kernel
theorem dX4_readNoun_107 : decode cX4_readNoun 107 = .ok (.getfield 9, 3) := by decide +kernel
theorem dX4_readNoun_110 : decode cX4_readNoun 110 = .ok (.getfield 114, 3) := by decide +kernel
theorem dX4_readNoun_113 : decode cX4_readNoun 113 = .ok (.iastore, 1) := by decide +kernel
theorem dX4_readNoun_114 : decode cX4_readNoun 114 = .ok (.aload_n 0, 1) := by decide +kernel
theorem dX4_readNoun_115 : decode cX4_readNoun 115 = .ok (.getfield 18, 3) := by decide +kernel
theorem dX4_readNoun_118 : decode cX4_readNoun 118 = .ok (.dup, 1) := by decide +kernel
theorem dX4_readNoun_119 : decode cX4_readNoun 119 = .ok (.getfield 41, 3) := by decide +kernel
theorem dX4_readNoun_122 : decode cX4_readNoun 122 = .ok (.iconst 1, 1) := by decide +kernel
theorem dX4_readNoun_123 : decode cX4_readNoun 123 = .ok (.iadd, 1) := by decide +kernel
theorem dX4_readNoun_124 : decode cX4_readNoun 124 = .ok (.putfield 41, 3) := by decide +kernel
theorem dX4_readNoun_127 : decode cX4_readNoun 127 = .ok (.iconst 1, 1) := by decide +kernel
theorem dX4_readNoun_128 : decode cX4_readNoun 128 = .ok (.ireturn, 1) := by decide +kernel
theorem dX4_readForm_0 : decode cX4_readForm 0 = .ok (.aload_n 0, 1) := by decide +kernel
theorem dX4_readForm_1 : decode cX4_readForm 1 = .ok (.getfield 9, 3) := by decide +kernel
theorem dX4_readForm_4 : decode cX4_readForm 4 = .ok (.invokevirtual 51, 3) := by decide +kernel
theorem dX4_readForm_7 : decode cX4_readForm 7 = .ok (.ifCond .ne 5, 3) := by decide +kernel
theorem dX4_readForm_10 : decode cX4_readForm 10 = .ok (.iconst 0, 1) := by decide +kernel
theorem dX4_readForm_11 : decode cX4_readForm 11 = .ok (.ireturn, 1) := by decide +kernel
theorem dX4_readForm_12 : decode cX4_readForm 12 = .ok (.aload_n 0, 1) := by decide +kernel
theorem dX4_readForm_13 : decode cX4_readForm 13 = .ok (.getfield 18, 3) := by decide +kernel
theorem dX4_readForm_16 : decode cX4_readForm 16 = .ok (.aload_n 0, 1) := by decide +kernel
theorem dX4_readForm_17 : decode cX4_readForm 17 = .ok (.getfield 9, 3) := by decide +kernel
theorem dX4_readForm_20 : decode cX4_readForm 20 = .ok (.getfield 95, 3) := by decide +kernel
theorem dX4_readForm_23 : decode cX4_readForm 23 = .ok (.invokevirtual 99, 3) := by decide +kernel
theorem dX4_readForm_26 : decode cX4_readForm 26 = .ok (.istore_n 2, 1) := by decide +kernel
theorem dX4_readForm_27 : decode cX4_readForm 27 = .ok (.iload_n 2, 1) := by decide +kernel
theorem dX4_readForm_28 : decode cX4_readForm 28 = .ok (.iconst (-1), 1) := by decide +kernel
theorem dX4_readForm_29 : decode cX4_readForm 29 = .ok (.if_icmp .ne 18, 3) := by decide +kernel
theorem dX4_readForm_32 : decode cX4_readForm 32 = .ok (.aload_n 0, 1) := by decide +kernel
theorem dX4_readForm_33 : decode cX4_readForm 33 = .ok (.getfield 9, 3) := by decide +kernel
theorem dX4_readForm_36 : decode cX4_readForm 36 = .ok (.aload_n 0, 1) := by decide +kernel
theorem dX4_readForm_37 : decode cX4_readForm 37 = .ok (.getfield 9, 3) := by decide +kernel
theorem dX4_readForm_40 : decode cX4_readForm 40 = .ok (.getfield 54, 3) := by decide +kernel
theorem dX4_readForm_43 : decode cX4_readForm 43 = .ok (.invokevirtual 92, 3) := by decide +kernel
theorem dX4_readForm_46 : decode cX4_readForm 46 = .ok (.ireturn, 1) := by decide +kernel
theorem dX4_readForm_47 : decode cX4_readForm 47 = .ok (.aload_n 0, 1) := by decide +kernel
theorem dX4_readForm_48 : decode cX4_readForm 48 = .ok (.getfield 9, 3) := by decide +kernel
theorem dX4_readForm_51 : decode cX4_readForm 51 = .ok (.iconst 1, 1) := by decide +kernel
theorem dX4_readForm_52 : decode cX4_readForm 52 = .ok (.iconst 3, 1) := by decide +kernel
theorem dX4_readForm_53 : decode cX4_readForm 53 = .ok (.invokevirtual 106, 3) := by decide +kernel
theorem dX4_readForm_56 : decode cX4_readForm 56 = .ok (.ifCond .ne 5, 3) := by decide +kernel
theorem dX4_readForm_59 : decode cX4_readForm 59 = .ok (.iconst 0, 1) := by decide +kernel
theorem dX4_readForm_60 : decode cX4_readForm 60 = .ok (.ireturn, 1) := by decide +kernel
theorem dX4_readForm_61 : decode cX4_readForm 61 = .ok (.aload_n 0, 1) := by decide +kernel
theorem dX4_readForm_62 : decode cX4_readForm 62 = .ok (.getfield 9, 3) := by decide +kernel
theorem dX4_readForm_65 : decode cX4_readForm 65 = .ok (.getfield 114, 3) := by decide +kernel
theorem dX4_readForm_68 : decode cX4_readForm 68 = .ok (.istore_n 3, 1) := by decide +kernel
theorem dX4_readForm_69 : decode cX4_readForm 69 = .ok (.aload_n 0, 1) := by decide +kernel
theorem dX4_readForm_70 : decode cX4_readForm 70 = .ok (.getfield 9, 3) := by decide +kernel
theorem dX4_readForm_73 : decode cX4_readForm 73 = .ok (.iconst 1, 1) := by decide +kernel
theorem dX4_readForm_74 : decode cX4_readForm 74 = .ok (.iconst 1, 1) := by decide +kernel
theorem dX4_readForm_75 : decode cX4_readForm 75 = .ok (.invokevirtual 106, 3) := by decide +kernel
theorem dX4_readForm_78 : decode cX4_readForm 78 = .ok (.ifCond .ne 5, 3) := by decide +kernel
theorem dX4_readForm_81 : decode cX4_readForm 81 = .ok (.iconst 0, 1) := by decide +kernel
theorem dX4_readForm_82 : decode cX4_readForm 82 = .ok (.ireturn, 1) := by decide +kernel
theorem dX4_readForm_83 : decode cX4_readForm 83 = .ok (.aload_n 0, 1) := by decide +kernel
theorem dX4_readForm_84 : decode cX4_readForm 84 = .ok (.iload_n 1, 1) := by decide +kernel
theorem dX4_readForm_85 : decode cX4_readForm 85 = .ok (.aload_n 0, 1) := by decide +kernel
theorem dX4_readForm_86 : decode cX4_readForm 86 = .ok (.getfield 18, 3) := by decide +kernel
theorem dX4_readForm_89 : decode cX4_readForm 89 = .ok (.getfield 117, 3) := by decide +kernel
theorem dX4_readForm_92 : decode cX4_readForm 92 = .ok (.iload_n 2, 1) := by decide +kernel
theorem dX4_readForm_93 : decode cX4_readForm 93 = .ok (.iload_n 3, 1) := by decide +kernel
theorem dX4_readForm_94 : decode cX4_readForm 94 = .ok (.aload_n 0, 1) := by decide +kernel
theorem dX4_readForm_95 : decode cX4_readForm 95 = .ok (.getfield 9, 3) := by decide +kernel
theorem dX4_readForm_98 : decode cX4_readForm 98 = .ok (.getfield 114, 3) := by decide +kernel
theorem dX4_readForm_101 : decode cX4_readForm 101 = .ok (.invokestatic 120, 3) := by decide +kernel
theorem dX4_readForm_104 : decode cX4_readForm 104 = .ok (.invokevirtual 126, 3) := by decide +kernel
theorem dX4_readForm_107 : decode cX4_readForm 107 = .ok (.ireturn, 1) := by decide +kernel
theorem dX4_readBoundWord_0 : decode cX4_readBoundWord 0 = .ok (.aload_n 0, 1) := by decide +kernel
theorem dX4_readBoundWord_1 : decode cX4_readBoundWord 1 = .ok (.getfield 9, 3) := by decide +kernel
theorem dX4_readBoundWord_4 : decode cX4_readBoundWord 4 = .ok (.iconst 1, 1) := by decide +kernel
theorem dX4_readBoundWord_5 : decode cX4_readBoundWord 5 = .ok (.iconst 3, 1) := by decide +kernel
theorem dX4_readBoundWord_6 : decode cX4_readBoundWord 6 = .ok (.invokevirtual 106, 3) := by decide +kernel
theorem dX4_readBoundWord_9 : decode cX4_readBoundWord 9 = .ok (.ifCond .ne 5, 3) := by decide +kernel
theorem dX4_readBoundWord_12 : decode cX4_readBoundWord 12 = .ok (.iconst 0, 1) := by decide +kernel
theorem dX4_readBoundWord_13 : decode cX4_readBoundWord 13 = .ok (.ireturn, 1) := by decide +kernel
theorem dX4_readBoundWord_14 : decode cX4_readBoundWord 14 = .ok (.aload_n 0, 1) := by decide +kernel
theorem dX4_readBoundWord_15 : decode cX4_readBoundWord 15 = .ok (.getfield 9, 3) := by decide +kernel
theorem dX4_readBoundWord_18 : decode cX4_readBoundWord 18 = .ok (.getfield 114, 3) := by decide +kernel
theorem dX4_readBoundWord_21 : decode cX4_readBoundWord 21 = .ok (.istore_n 3, 1) := by decide +kernel
theorem dX4_readBoundWord_22 : decode cX4_readBoundWord 22 = .ok (.aload_n 0, 1) := by decide +kernel
theorem dX4_readBoundWord_23 : decode cX4_readBoundWord 23 = .ok (.getfield 9, 3) := by decide +kernel
theorem dX4_readBoundWord_26 : decode cX4_readBoundWord 26 = .ok (.iconst 1, 1) := by decide +kernel
theorem dX4_readBoundWord_27 : decode cX4_readBoundWord 27 = .ok (.iconst 1, 1) := by decide +kernel
theorem dX4_readBoundWord_28 : decode cX4_readBoundWord 28 = .ok (.invokevirtual 106, 3) := by decide +kernel
theorem dX4_readBoundWord_31 : decode cX4_readBoundWord 31 = .ok (.ifCond .ne 5, 3) := by decide +kernel
theorem dX4_readBoundWord_34 : decode cX4_readBoundWord 34 = .ok (.iconst 0, 1) := by decide +kernel
theorem dX4_readBoundWord_35 : decode cX4_readBoundWord 35 = .ok (.ireturn, 1) := by decide +kernel
theorem dX4_readBoundWord_36 : decode cX4_readBoundWord 36 = .ok (.aload_n 0, 1) := by decide +kernel
theorem dX4_readBoundWord_37 : decode cX4_readBoundWord 37 = .ok (.getfield 9, 3) := by decide +kernel
theorem dX4_readBoundWord_40 : decode cX4_readBoundWord 40 = .ok (.getfield 114, 3) := by decide +kernel
theorem dX4_readBoundWord_43 : decode cX4_readBoundWord 43 = .ok (.istore 4, 2) := by decide +kernel
theorem dX4_readBoundWord_45 : decode cX4_readBoundWord 45 = .ok (.aload_n 0, 1) := by decide +kernel
theorem dX4_readBoundWord_46 : decode cX4_readBoundWord 46 = .ok (.getfield 9, 3) := by decide +kernel
theorem dX4_readBoundWord_49 : decode cX4_readBoundWord 49 = .ok (.iconst 1, 1) := by decide +kernel
theorem dX4_readBoundWord_50 : decode cX4_readBoundWord 50 = .ok (.iconst 2, 1) := by decide +kernel
theorem dX4_readBoundWord_51 : decode cX4_readBoundWord 51 = .ok (.invokevirtual 106, 3) := by decide +kernel
theorem dX4_readBoundWord_54 : decode cX4_readBoundWord 54 = .ok (.ifCond .ne 5, 3) := by decide +kernel
theorem dX4_readBoundWord_57 : decode cX4_readBoundWord 57 = .ok (.iconst 0, 1) := by decide +kernel
theorem dX4_readBoundWord_58 : decode cX4_readBoundWord 58 = .ok (.ireturn, 1) := by decide +kernel
theorem dX4_readBoundWord_59 : decode cX4_readBoundWord 59 = .ok (.aload_n 0, 1) := by decide +kernel
theorem dX4_readBoundWord_60 : decode cX4_readBoundWord 60 = .ok (.iload_n 1, 1) := by decide +kernel
theorem dX4_readBoundWord_61 : decode cX4_readBoundWord 61 = .ok (.aload_n 2, 1) := by decide +kernel
theorem dX4_readBoundWord_62 : decode cX4_readBoundWord 62 = .ok (.iload_n 3, 1) := by decide +kernel
theorem dX4_readBoundWord_63 : decode cX4_readBoundWord 63 = .ok (.iload 4, 2) := by decide +kernel
theorem dX4_readBoundWord_65 : decode cX4_readBoundWord 65 = .ok (.aload_n 0, 1) := by decide +kernel
theorem dX4_readBoundWord_66 : decode cX4_readBoundWord 66 = .ok (.getfield 9, 3) := by decide +kernel
theorem dX4_readBoundWord_69 : decode cX4_readBoundWord 69 = .ok (.getfield 114, 3) := by decide +kernel
theorem dX4_readBoundWord_72 : decode cX4_readBoundWord 72 = .ok (.invokestatic 130, 3) := by decide +kernel
theorem dX4_readBoundWord_75 : decode cX4_readBoundWord 75 = .ok (.invokevirtual 126, 3) := by decide +kernel
theorem dX4_readBoundWord_78 : decode cX4_readBoundWord 78 = .ok (.ireturn, 1) := by decide +kernel
theorem dX4_readWordOnce_0 : decode cX4_readWordOnce 0 = .ok (.aload_n 2, 1) := by decide +kernel
theorem dX4_readWordOnce_1 : decode cX4_readWordOnce 1 = .ok (.iload_n 3, 1) := by decide +kernel
theorem dX4_readWordOnce_2 : decode cX4_readWordOnce 2 = .ok (.laload, 1) := by decide +kernel
theorem dX4_readWordOnce_3 : decode cX4_readWordOnce 3 = .ok (.lconst 0, 1) := by decide +kernel
theorem dX4_readWordOnce_4 : decode cX4_readWordOnce 4 = .ok (.lcmp, 1) := by decide +kernel
theorem dX4_readWordOnce_5 : decode cX4_readWordOnce 5 = .ok (.ifCond .eq 12, 3) := by decide +kernel
theorem dX4_readWordOnce_8 : decode cX4_readWordOnce 8 = .ok (.aload_n 0, 1) := by decide +kernel
theorem dX4_readWordOnce_9 : decode cX4_readWordOnce 9 = .ok (.getfield 9, 3) := by decide +kernel
theorem dX4_readWordOnce_12 : decode cX4_readWordOnce 12 = .ok (.iload_n 1, 1) := by decide +kernel
theorem dX4_readWordOnce_13 : decode cX4_readWordOnce 13 = .ok (.invokevirtual 92, 3) := by decide +kernel
theorem dX4_readWordOnce_16 : decode cX4_readWordOnce 16 = .ok (.ireturn, 1) := by decide +kernel
theorem dX4_readWordOnce_17 : decode cX4_readWordOnce 17 = .ok (.aload_n 0, 1) := by decide +kernel
theorem dX4_readWordOnce_18 : decode cX4_readWordOnce 18 = .ok (.getfield 9, 3) := by decide +kernel
theorem dX4_readWordOnce_21 : decode cX4_readWordOnce 21 = .ok (.invokevirtual 51, 3) := by decide +kernel
theorem dX4_readWordOnce_24 : decode cX4_readWordOnce 24 = .ok (.ifCond .ne 5, 3) := by decide +kernel
theorem dX4_readWordOnce_27 : decode cX4_readWordOnce 27 = .ok (.iconst 0, 1) := by decide +kernel
theorem dX4_readWordOnce_28 : decode cX4_readWordOnce 28 = .ok (.ireturn, 1) := by decide +kernel
theorem dX4_readWordOnce_29 : decode cX4_readWordOnce 29 = .ok (.aload_n 2, 1) := by decide +kernel
theorem dX4_readWordOnce_30 : decode cX4_readWordOnce 30 = .ok (.iload_n 3, 1) := by decide +kernel
theorem dX4_readWordOnce_31 : decode cX4_readWordOnce 31 = .ok (.aload_n 0, 1) := by decide +kernel
theorem dX4_readWordOnce_32 : decode cX4_readWordOnce 32 = .ok (.getfield 9, 3) := by decide +kernel
theorem dX4_readWordOnce_35 : decode cX4_readWordOnce 35 = .ok (.getfield 95, 3) := by decide +kernel
theorem dX4_readWordOnce_38 : decode cX4_readWordOnce 38 = .ok (.lastore, 1) := by decide +kernel
theorem dX4_readWordOnce_39 : decode cX4_readWordOnce 39 = .ok (.iconst 1, 1) := by decide +kernel
theorem dX4_readWordOnce_40 : decode cX4_readWordOnce 40 = .ok (.ireturn, 1) := by decide +kernel
theorem dX4_readMessage_0 : decode cX4_readMessage 0 = .ok (.aload_n 0, 1) := by decide +kernel
theorem dX4_readMessage_1 : decode cX4_readMessage 1 = .ok (.getfield 18, 3) := by decide +kernel
theorem dX4_readMessage_4 : decode cX4_readMessage 4 = .ok (.getfield 133, 3) := by decide +kernel
theorem dX4_readMessage_7 : decode cX4_readMessage 7 = .ok (.istore_n 2, 1) := by decide +kernel
theorem dX4_readMessage_8 : decode cX4_readMessage 8 = .ok (.iload_n 2, 1) := by decide +kernel
theorem dX4_readMessage_9 : decode cX4_readMessage 9 = .ok (.iconst 4, 1) := by decide +kernel
theorem dX4_readMessage_10 : decode cX4_readMessage 10 = .ok (.if_icmp .lt 12, 3) := by decide +kernel
theorem dX4_readMessage_13 : decode cX4_readMessage 13 = .ok (.aload_n 0, 1) := by decide +kernel
theorem dX4_readMessage_14 : decode cX4_readMessage 14 = .ok (.getfield 9, 3) := by decide +kernel
theorem dX4_readMessage_17 : decode cX4_readMessage 17 = .ok (.iload_n 1, 1) := by decide +kernel
theorem dX4_readMessage_18 : decode cX4_readMessage 18 = .ok (.invokevirtual 92, 3) := by decide +kernel
theorem dX4_readMessage_21 : decode cX4_readMessage 21 = .ok (.ireturn, 1) := by decide +kernel
theorem dX4_readMessage_22 : decode cX4_readMessage 22 = .ok (.aload_n 0, 1) := by decide +kernel
theorem dX4_readMessage_23 : decode cX4_readMessage 23 = .ok (.getfield 9, 3) := by decide +kernel
theorem dX4_readMessage_26 : decode cX4_readMessage 26 = .ok (.invokevirtual 51, 3) := by decide +kernel
theorem dX4_readMessage_29 : decode cX4_readMessage 29 = .ok (.ifCond .ne 5, 3) := by decide +kernel
theorem dX4_readMessage_32 : decode cX4_readMessage 32 = .ok (.iconst 0, 1) := by decide +kernel
theorem dX4_readMessage_33 : decode cX4_readMessage 33 = .ok (.ireturn, 1) := by decide +kernel
theorem dX4_readMessage_34 : decode cX4_readMessage 34 = .ok (.aload_n 0, 1) := by decide +kernel
theorem dX4_readMessage_35 : decode cX4_readMessage 35 = .ok (.getfield 18, 3) := by decide +kernel
theorem dX4_readMessage_38 : decode cX4_readMessage 38 = .ok (.aload_n 0, 1) := by decide +kernel
theorem dX4_readMessage_39 : decode cX4_readMessage 39 = .ok (.getfield 9, 3) := by decide +kernel
theorem dX4_readMessage_42 : decode cX4_readMessage 42 = .ok (.getfield 95, 3) := by decide +kernel
theorem dX4_readMessage_45 : decode cX4_readMessage 45 = .ok (.invokevirtual 136, 3) := by decide +kernel
theorem dX4_readMessage_48 : decode cX4_readMessage 48 = .ok (.iconst (-1), 1) := by decide +kernel
theorem dX4_readMessage_49 : decode cX4_readMessage 49 = .ok (.if_icmp .eq 18, 3) := by decide +kernel
theorem dX4_readMessage_52 : decode cX4_readMessage 52 = .ok (.aload_n 0, 1) := by decide +kernel
theorem dX4_readMessage_53 : decode cX4_readMessage 53 = .ok (.getfield 9, 3) := by decide +kernel
theorem dX4_readMessage_56 : decode cX4_readMessage 56 = .ok (.aload_n 0, 1) := by decide +kernel
theorem dX4_readMessage_57 : decode cX4_readMessage 57 = .ok (.getfield 9, 3) := by decide +kernel
theorem dX4_readMessage_60 : decode cX4_readMessage 60 = .ok (.getfield 54, 3) := by decide +kernel
theorem dX4_readMessage_63 : decode cX4_readMessage 63 = .ok (.invokevirtual 92, 3) := by decide +kernel
theorem dX4_readMessage_66 : decode cX4_readMessage 66 = .ok (.ireturn, 1) := by decide +kernel
theorem dX4_readMessage_67 : decode cX4_readMessage 67 = .ok (.aload_n 0, 1) := by decide +kernel
theorem dX4_readMessage_68 : decode cX4_readMessage 68 = .ok (.getfield 18, 3) := by decide +kernel
theorem dX4_readMessage_71 : decode cX4_readMessage 71 = .ok (.getfield 139, 3) := by decide +kernel
theorem dX4_readMessage_74 : decode cX4_readMessage 74 = .ok (.iload_n 2, 1) := by decide +kernel
theorem dX4_readMessage_75 : decode cX4_readMessage 75 = .ok (.aload_n 0, 1) := by decide +kernel
theorem dX4_readMessage_76 : decode cX4_readMessage 76 = .ok (.getfield 9, 3) := by decide +kernel
theorem dX4_readMessage_79 : decode cX4_readMessage 79 = .ok (.getfield 95, 3) := by decide +kernel
theorem dX4_readMessage_82 : decode cX4_readMessage 82 = .ok (.lastore, 1) := by decide +kernel
theorem dX4_readMessage_83 : decode cX4_readMessage 83 = .ok (.iconst 0, 1) := by decide +kernel
theorem dX4_readMessage_84 : decode cX4_readMessage 84 = .ok (.istore_n 3, 1) := by decide +kernel
theorem dX4_readMessage_85 : decode cX4_readMessage 85 = .ok (.iload_n 3, 1) := by decide +kernel
theorem dX4_readMessage_86 : decode cX4_readMessage 86 = .ok (.bipush 8, 2) := by decide +kernel
theorem dX4_readMessage_88 : decode cX4_readMessage 88 = .ok (.if_icmp .ge 35, 3) := by decide +kernel
theorem dX4_readMessage_91 : decode cX4_readMessage 91 = .ok (.iload_n 3, 1) := by decide +kernel
theorem dX4_readMessage_92 : decode cX4_readMessage 92 = .ok (.ifCond .eq 10, 3) := by decide +kernel
theorem dX4_readMessage_95 : decode cX4_readMessage 95 = .ok (.aload_n 0, 1) := by decide +kernel
theorem dX4_readMessage_96 : decode cX4_readMessage 96 = .ok (.invokevirtual 142, 3) := by decide +kernel
theorem dX4_readMessage_99 : decode cX4_readMessage 99 = .ok (.ifCond .ne 24, 3) := by decide +kernel
theorem dX4_readMessage_102 : decode cX4_readMessage 102 = .ok (.aload_n 0, 1) := by decide +kernel
theorem dX4_readMessage_103 : decode cX4_readMessage 103 = .ok (.iload_n 2, 1) := by decide +kernel
theorem dX4_readMessage_104 : decode cX4_readMessage 104 = .ok (.bipush 8, 2) := by decide +kernel
theorem dX4_readMessage_106 : decode cX4_readMessage 106 = .ok (.imul, 1) := by decide +kernel
theorem dX4_readMessage_107 : decode cX4_readMessage 107 = .ok (.iload_n 3, 1) := by decide +kernel
theorem dX4_readMessage_108 : decode cX4_readMessage 108 = .ok (.iadd, 1) := by decide +kernel
theorem dX4_readMessage_109 : decode cX4_readMessage 109 = .ok (.invokevirtual 145, 3) := by decide +kernel
theorem dX4_readMessage_112 : decode cX4_readMessage 112 = .ok (.ifCond .ne 5, 3) := by decide +kernel
theorem dX4_readMessage_115 : decode cX4_readMessage 115 = .ok (.iconst 0, 1) := by decide +kernel
theorem dX4_readMessage_116 : decode cX4_readMessage 116 = .ok (.ireturn, 1) := by decide +kernel
theorem dX4_readMessage_117 : decode cX4_readMessage 117 = .ok (.iinc 3 1, 3) := by decide +kernel
theorem dX4_readMessage_120 : decode cX4_readMessage 120 = .ok (.goto (-35), 3) := by decide +kernel
theorem dX4_readMessage_123 : decode cX4_readMessage 123 = .ok (.aload_n 0, 1) := by decide +kernel
theorem dX4_readMessage_124 : decode cX4_readMessage 124 = .ok (.getfield 18, 3) := by decide +kernel
theorem dX4_readMessage_127 : decode cX4_readMessage 127 = .ok (.getfield 148, 3) := by decide +kernel
theorem dX4_readMessage_130 : decode cX4_readMessage 130 = .ok (.iload_n 2, 1) := by decide +kernel
theorem dX4_readMessage_131 : decode cX4_readMessage 131 = .ok (.iload_n 3, 1) := by decide +kernel
theorem dX4_readMessage_132 : decode cX4_readMessage 132 = .ok (.iastore, 1) := by decide +kernel
theorem dX4_readMessage_133 : decode cX4_readMessage 133 = .ok (.aload_n 0, 1) := by decide +kernel
theorem dX4_readMessage_134 : decode cX4_readMessage 134 = .ok (.getfield 18, 3) := by decide +kernel
theorem dX4_readMessage_137 : decode cX4_readMessage 137 = .ok (.dup, 1) := by decide +kernel
theorem dX4_readMessage_138 : decode cX4_readMessage 138 = .ok (.getfield 133, 3) := by decide +kernel
theorem dX4_readMessage_141 : decode cX4_readMessage 141 = .ok (.iconst 1, 1) := by decide +kernel
theorem dX4_readMessage_142 : decode cX4_readMessage 142 = .ok (.iadd, 1) := by decide +kernel
theorem dX4_readMessage_143 : decode cX4_readMessage 143 = .ok (.putfield 133, 3) := by decide +kernel
theorem dX4_readMessage_146 : decode cX4_readMessage 146 = .ok (.iconst 1, 1) := by decide +kernel
theorem dX4_readMessage_147 : decode cX4_readMessage 147 = .ok (.ireturn, 1) := by decide +kernel
theorem dX4_isAtClauseEnd_0 : decode cX4_isAtClauseEnd 0 = .ok (.aload_n 0, 1) := by decide +kernel
theorem dX4_isAtClauseEnd_1 : decode cX4_isAtClauseEnd 1 = .ok (.getfield 9, 3) := by decide +kernel
theorem dX4_isAtClauseEnd_4 : decode cX4_isAtClauseEnd 4 = .ok (.invokevirtual 47, 3) := by decide +kernel
theorem dX4_isAtClauseEnd_7 : decode cX4_isAtClauseEnd 7 = .ok (.istore_n 1, 1) := by decide +kernel
theorem dX4_isAtClauseEnd_8 : decode cX4_isAtClauseEnd 8 = .ok (.iload_n 1, 1) := by decide +kernel
theorem dX4_isAtClauseEnd_9 : decode cX4_isAtClauseEnd 9 = .ok (.ifCond .eq 9, 3) := by decide +kernel
theorem dX4_isAtClauseEnd_12 : decode cX4_isAtClauseEnd 12 = .ok (.iload_n 1, 1) := by decide +kernel
theorem dX4_isAtClauseEnd_13 : decode cX4_isAtClauseEnd 13 = .ok (.bipush 59, 2) := by decide +kernel
theorem dX4_isAtClauseEnd_15 : decode cX4_isAtClauseEnd 15 = .ok (.if_icmp .ne 7, 3) := by decide +kernel
theorem dX4_isAtClauseEnd_18 : decode cX4_isAtClauseEnd 18 = .ok (.iconst 1, 1) := by decide +kernel
theorem dX4_isAtClauseEnd_19 : decode cX4_isAtClauseEnd 19 = .ok (.goto 4, 3) := by decide +kernel
theorem dX4_isAtClauseEnd_22 : decode cX4_isAtClauseEnd 22 = .ok (.iconst 0, 1) := by decide +kernel
theorem dX4_isAtClauseEnd_23 : decode cX4_isAtClauseEnd 23 = .ok (.ireturn, 1) := by decide +kernel
theorem dX4_readItem_0 : decode cX4_readItem 0 = .ok (.aload_n 0, 1) := by decide +kernel
theorem dX4_readItem_1 : decode cX4_readItem 1 = .ok (.getfield 9, 3) := by decide +kernel
theorem dX4_readItem_4 : decode cX4_readItem 4 = .ok (.invokevirtual 47, 3) := by decide +kernel
theorem dX4_readItem_7 : decode cX4_readItem 7 = .ok (.istore_n 2, 1) := by decide +kernel
theorem dX4_readItem_8 : decode cX4_readItem 8 = .ok (.iload_n 2, 1) := by decide +kernel
theorem dX4_readItem_9 : decode cX4_readItem 9 = .ok (.invokestatic 151, 3) := by decide +kernel
theorem dX4_readItem_12 : decode cX4_readItem 12 = .ok (.ifCond .ne 40, 3) := by decide +kernel
theorem dX4_readItem_15 : decode cX4_readItem 15 = .ok (.aload_n 0, 1) := by decide +kernel
theorem dX4_readItem_16 : decode cX4_readItem 16 = .ok (.getfield 9, 3) := by decide +kernel
theorem dX4_readItem_19 : decode cX4_readItem 19 = .ok (.invokevirtual 51, 3) := by decide +kernel
theorem dX4_readItem_22 : decode cX4_readItem 22 = .ok (.istore_n 3, 1) := by decide +kernel
theorem dX4_readItem_23 : decode cX4_readItem 23 = .ok (.aload_n 0, 1) := by decide +kernel
theorem dX4_readItem_24 : decode cX4_readItem 24 = .ok (.getfield 18, 3) := by decide +kernel
theorem dX4_readItem_27 : decode cX4_readItem 27 = .ok (.getfield 155, 3) := by decide +kernel
theorem dX4_readItem_30 : decode cX4_readItem 30 = .ok (.iload_n 1, 1) := by decide +kernel
theorem dX4_readItem_31 : decode cX4_readItem 31 = .ok (.bipush 119, 2) := by decide +kernel
theorem dX4_readItem_33 : decode cX4_readItem 33 = .ok (.castore, 1) := by decide +kernel
theorem dX4_readItem_34 : decode cX4_readItem 34 = .ok (.aload_n 0, 1) := by decide +kernel
theorem dX4_readItem_35 : decode cX4_readItem 35 = .ok (.getfield 18, 3) := by decide +kernel
theorem dX4_readItem_38 : decode cX4_readItem 38 = .ok (.getfield 159, 3) := by decide +kernel
theorem dX4_readItem_41 : decode cX4_readItem 41 = .ok (.iload_n 1, 1) := by decide +kernel
theorem dX4_readItem_42 : decode cX4_readItem 42 = .ok (.aload_n 0, 1) := by decide +kernel
theorem dX4_readItem_43 : decode cX4_readItem 43 = .ok (.getfield 9, 3) := by decide +kernel
theorem dX4_readItem_46 : decode cX4_readItem 46 = .ok (.getfield 95, 3) := by decide +kernel
theorem dX4_readItem_49 : decode cX4_readItem 49 = .ok (.lastore, 1) := by decide +kernel
theorem dX4_readItem_50 : decode cX4_readItem 50 = .ok (.iload_n 3, 1) := by decide +kernel
theorem dX4_readItem_51 : decode cX4_readItem 51 = .ok (.ireturn, 1) := by decide +kernel
theorem dX4_readItem_52 : decode cX4_readItem 52 = .ok (.aload_n 0, 1) := by decide +kernel
theorem dX4_readItem_53 : decode cX4_readItem 53 = .ok (.getfield 9, 3) := by decide +kernel
theorem dX4_readItem_56 : decode cX4_readItem 56 = .ok (.dup, 1) := by decide +kernel
theorem dX4_readItem_57 : decode cX4_readItem 57 = .ok (.getfield 44, 3) := by decide +kernel
theorem dX4_readItem_60 : decode cX4_readItem 60 = .ok (.iconst 1, 1) := by decide +kernel
theorem dX4_readItem_61 : decode cX4_readItem 61 = .ok (.iadd, 1) := by decide +kernel
theorem dX4_readItem_62 : decode cX4_readItem 62 = .ok (.putfield 44, 3) := by decide +kernel
theorem dX4_readItem_65 : decode cX4_readItem 65 = .ok (.aload_n 0, 1) := by decide +kernel
theorem dX4_readItem_66 : decode cX4_readItem 66 = .ok (.getfield 18, 3) := by decide +kernel
theorem dX4_readItem_69 : decode cX4_readItem 69 = .ok (.getfield 155, 3) := by decide +kernel
theorem dX4_readItem_72 : decode cX4_readItem 72 = .ok (.iload_n 1, 1) := by decide +kernel
theorem dX4_readItem_73 : decode cX4_readItem 73 = .ok (.iload_n 2, 1) := by decide +kernel
theorem dX4_readItem_74 : decode cX4_readItem 74 = .ok (.castore, 1) := by decide +kernel
theorem dX4_readItem_75 : decode cX4_readItem 75 = .ok (.aload_n 0, 1) := by decide +kernel
theorem dX4_readItem_76 : decode cX4_readItem 76 = .ok (.getfield 9, 3) := by decide +kernel
theorem dX4_readItem_79 : decode cX4_readItem 79 = .ok (.iconst 1, 1) := by decide +kernel
theorem dX4_readItem_80 : decode cX4_readItem 80 = .ok (.iconst 2, 1) := by decide +kernel
theorem dX4_readItem_81 : decode cX4_readItem 81 = .ok (.invokevirtual 106, 3) := by decide +kernel
theorem dX4_readItem_84 : decode cX4_readItem 84 = .ok (.ifCond .ne 5, 3) := by decide +kernel
theorem dX4_readItem_87 : decode cX4_readItem 87 = .ok (.iconst 0, 1) := by decide +kernel
theorem dX4_readItem_88 : decode cX4_readItem 88 = .ok (.ireturn, 1) := by decide +kernel
theorem dX4_readItem_89 : decode cX4_readItem 89 = .ok (.aload_n 0, 1) := by decide +kernel
theorem dX4_readItem_90 : decode cX4_readItem 90 = .ok (.getfield 18, 3) := by decide +kernel
theorem dX4_readItem_93 : decode cX4_readItem 93 = .ok (.getfield 162, 3) := by decide +kernel
theorem dX4_readItem_96 : decode cX4_readItem 96 = .ok (.iload_n 1, 1) := by decide +kernel
theorem dX4_readItem_97 : decode cX4_readItem 97 = .ok (.aload_n 0, 1) := by decide +kernel
theorem dX4_readItem_98 : decode cX4_readItem 98 = .ok (.getfield 9, 3) := by decide +kernel
theorem dX4_readItem_101 : decode cX4_readItem 101 = .ok (.getfield 114, 3) := by decide +kernel
theorem dX4_readItem_104 : decode cX4_readItem 104 = .ok (.iastore, 1) := by decide +kernel
theorem dX4_readItem_105 : decode cX4_readItem 105 = .ok (.iload_n 2, 1) := by decide +kernel
theorem dX4_readItem_106 : decode cX4_readItem 106 = .ok (.bipush 36, 2) := by decide +kernel
theorem dX4_readItem_108 : decode cX4_readItem 108 = .ok (.if_icmp .ne 5, 3) := by decide +kernel
theorem dX4_readItem_111 : decode cX4_readItem 111 = .ok (.iconst 1, 1) := by decide +kernel
theorem dX4_readItem_112 : decode cX4_readItem 112 = .ok (.ireturn, 1) := by decide +kernel
theorem dX4_readItem_113 : decode cX4_readItem 113 = .ok (.iload_n 2, 1) := by decide +kernel
theorem dX4_readItem_114 : decode cX4_readItem 114 = .ok (.bipush 61, 2) := by decide +kernel
theorem dX4_readItem_116 : decode cX4_readItem 116 = .ok (.if_icmp .eq 9, 3) := by decide +kernel
theorem dX4_readItem_119 : decode cX4_readItem 119 = .ok (.iload_n 2, 1) := by decide +kernel
theorem dX4_readItem_120 : decode cX4_readItem 120 = .ok (.bipush 33, 2) := by decide +kernel
theorem dX4_readItem_122 : decode cX4_readItem 122 = .ok (.if_icmp .ne 7, 3) := by decide +kernel
theorem dX4_readItem_125 : decode cX4_readItem 125 = .ok (.iconst 1, 1) := by decide +kernel
theorem dX4_readItem_126 : decode cX4_readItem 126 = .ok (.goto 4, 3) := by decide +kernel
theorem dX4_readItem_129 : decode cX4_readItem 129 = .ok (.iconst 0, 1) := by decide +kernel
theorem dX4_readItem_130 : decode cX4_readItem 130 = .ok (.istore_n 3, 1) := by decide +kernel
theorem dX4_readItem_131 : decode cX4_readItem 131 = .ok (.aload_n 0, 1) := by decide +kernel
theorem dX4_readItem_132 : decode cX4_readItem 132 = .ok (.getfield 9, 3) := by decide +kernel
theorem dX4_readItem_135 : decode cX4_readItem 135 = .ok (.iconst 1, 1) := by decide +kernel
theorem dX4_readItem_136 : decode cX4_readItem 136 = .ok (.iload_n 3, 1) := by decide +kernel
theorem dX4_readItem_137 : decode cX4_readItem 137 = .ok (.ifCond .eq 7, 3) := by decide +kernel
theorem dX4_readItem_140 : decode cX4_readItem 140 = .ok (.iconst 2, 1) := by decide +kernel
theorem dX4_readItem_141 : decode cX4_readItem 141 = .ok (.goto 4, 3) := by decide +kernel
theorem dX4_readItem_144 : decode cX4_readItem 144 = .ok (.iconst 3, 1) := by decide +kernel
theorem dX4_readItem_145 : decode cX4_readItem 145 = .ok (.invokevirtual 106, 3) := by decide +kernel
theorem dX4_readItem_148 : decode cX4_readItem 148 = .ok (.ifCond .ne 5, 3) := by decide +kernel
theorem dX4_readItem_151 : decode cX4_readItem 151 = .ok (.iconst 0, 1) := by decide +kernel
theorem dX4_readItem_152 : decode cX4_readItem 152 = .ok (.ireturn, 1) := by decide +kernel
theorem dX4_readItem_153 : decode cX4_readItem 153 = .ok (.aload_n 0, 1) := by decide +kernel
theorem dX4_readItem_154 : decode cX4_readItem 154 = .ok (.getfield 18, 3) := by decide +kernel
theorem dX4_readItem_157 : decode cX4_readItem 157 = .ok (.getfield 165, 3) := by decide +kernel
theorem dX4_readItem_160 : decode cX4_readItem 160 = .ok (.iload_n 1, 1) := by decide +kernel
theorem dX4_readItem_161 : decode cX4_readItem 161 = .ok (.aload_n 0, 1) := by decide +kernel
theorem dX4_readItem_162 : decode cX4_readItem 162 = .ok (.getfield 9, 3) := by decide +kernel
theorem dX4_readItem_165 : decode cX4_readItem 165 = .ok (.getfield 114, 3) := by decide +kernel
theorem dX4_readItem_168 : decode cX4_readItem 168 = .ok (.iastore, 1) := by decide +kernel
theorem dX4_readItem_169 : decode cX4_readItem 169 = .ok (.iload_n 3, 1) := by decide +kernel
theorem dX4_readItem_170 : decode cX4_readItem 170 = .ok (.ifCond .eq 39, 3) := by decide +kernel
theorem dX4_readItem_173 : decode cX4_readItem 173 = .ok (.aload_n 0, 1) := by decide +kernel
theorem dX4_readItem_174 : decode cX4_readItem 174 = .ok (.getfield 9, 3) := by decide +kernel
theorem dX4_readItem_177 : decode cX4_readItem 177 = .ok (.getfield 114, 3) := by decide +kernel
theorem dX4_readItem_180 : decode cX4_readItem 180 = .ok (.aload_n 0, 1) := by decide +kernel
theorem dX4_readItem_181 : decode cX4_readItem 181 = .ok (.getfield 18, 3) := by decide +kernel
theorem dX4_readItem_184 : decode cX4_readItem 184 = .ok (.getfield 162, 3) := by decide +kernel
theorem dX4_readItem_187 : decode cX4_readItem 187 = .ok (.iload_n 1, 1) := by decide +kernel
theorem dX4_readItem_188 : decode cX4_readItem 188 = .ok (.iaload, 1) := by decide +kernel
theorem dX4_readItem_189 : decode cX4_readItem 189 = .ok (.if_icmp .ne 20, 3) := by decide +kernel
theorem dX4_readItem_192 : decode cX4_readItem 192 = .ok (.aload_n 0, 1) := by decide +kernel
theorem dX4_readItem_193 : decode cX4_readItem 193 = .ok (.getfield 9, 3) := by decide +kernel
theorem dX4_readItem_196 : decode cX4_readItem 196 = .ok (.aload_n 0, 1) := by decide +kernel
theorem dX4_readItem_197 : decode cX4_readItem 197 = .ok (.getfield 9, 3) := by decide +kernel
theorem dX4_readItem_200 : decode cX4_readItem 200 = .ok (.getfield 54, 3) := by decide +kernel
theorem dX4_readItem_203 : decode cX4_readItem 203 = .ok (.invokevirtual 92, 3) := by decide +kernel
theorem dX4_readItem_206 : decode cX4_readItem 206 = .ok (.ifCond .eq 7, 3) := by decide +kernel
theorem dX4_readItem_209 : decode cX4_readItem 209 = .ok (.iconst 1, 1) := by decide +kernel
theorem dX4_readItem_210 : decode cX4_readItem 210 = .ok (.goto 4, 3) := by decide +kernel
theorem dX4_readItem_213 : decode cX4_readItem 213 = .ok (.iconst 0, 1) := by decide +kernel
theorem dX4_readItem_214 : decode cX4_readItem 214 = .ok (.ireturn, 1) := by decide +kernel
theorem dX4_isItemSign_0 : decode cX4_isItemSign 0 = .ok (.iload_n 0, 1) := by decide +kernel
theorem dX4_isItemSign_1 : decode cX4_isItemSign 1 = .ok (.lookupswitch 61 #[(33, 59), (35, 59), (36, 59), (37, 59), (61, 59), (64, 59)], 59) := by decide +kernel
theorem dX4_isItemSign_60 : decode cX4_isItemSign 60 = .ok (.iconst 1, 1) := by decide +kernel
theorem dX4_isItemSign_61 : decode cX4_isItemSign 61 = .ok (.ireturn, 1) := by decide +kernel
theorem dX4_isItemSign_62 : decode cX4_isItemSign 62 = .ok (.iconst 0, 1) := by decide +kernel
theorem dX4_isItemSign_63 : decode cX4_isItemSign 63 = .ok (.ireturn, 1) := by decide +kernel
theorem dX5_init_0 : decode cX5_init 0 = .ok (.aload_n 0, 1) := by decide +kernel
theorem dX5_init_1 : decode cX5_init 1 = .ok (.invokespecial 3, 3) := by decide +kernel
theorem dX5_init_4 : decode cX5_init 4 = .ok (.aload_n 0, 1) := by decide +kernel
theorem dX5_init_5 : decode cX5_init 5 = .ok (.bipush 12, 2) := by decide +kernel
theorem dX5_init_7 : decode cX5_init 7 = .ok (.anewarray 9, 3) := by decide +kernel
theorem dX5_init_10 : decode cX5_init 10 = .ok (.putfield 11, 3) := by decide +kernel
theorem dX5_init_13 : decode cX5_init 13 = .ok (.iconst 0, 1) := by decide +kernel
theorem dX5_init_14 : decode cX5_init 14 = .ok (.istore_n 1, 1) := by decide +kernel
theorem dX5_init_15 : decode cX5_init 15 = .ok (.iload_n 1, 1) := by decide +kernel
theorem dX5_init_16 : decode cX5_init 16 = .ok (.aload_n 0, 1) := by decide +kernel
theorem dX5_init_17 : decode cX5_init 17 = .ok (.getfield 11, 3) := by decide +kernel
theorem dX5_init_20 : decode cX5_init 20 = .ok (.arraylength, 1) := by decide +kernel
theorem dX5_init_21 : decode cX5_init 21 = .ok (.if_icmp .ge 22, 3) := by decide +kernel
theorem dX5_init_24 : decode cX5_init 24 = .ok (.aload_n 0, 1) := by decide +kernel
theorem dX5_init_25 : decode cX5_init 25 = .ok (.getfield 11, 3) := by decide +kernel
theorem dX5_init_28 : decode cX5_init 28 = .ok (.iload_n 1, 1) := by decide +kernel
theorem dX5_init_29 : decode cX5_init 29 = .ok (.new 9, 3) := by decide +kernel
theorem dX5_init_32 : decode cX5_init 32 = .ok (.dup, 1) := by decide +kernel
theorem dX5_init_33 : decode cX5_init 33 = .ok (.invokespecial 17, 3) := by decide +kernel
theorem dX5_init_36 : decode cX5_init 36 = .ok (.aastore, 1) := by decide +kernel
theorem dX5_init_37 : decode cX5_init 37 = .ok (.iinc 1 1, 3) := by decide +kernel
theorem dX5_init_40 : decode cX5_init 40 = .ok (.goto (-25), 3) := by decide +kernel
theorem dX5_init_43 : decode cX5_init 43 = .ok (.return_, 1) := by decide +kernel
theorem dX6_init_0 : decode cX6_init 0 = .ok (.aload_n 0, 1) := by decide +kernel
theorem dX6_init_1 : decode cX6_init 1 = .ok (.invokespecial 3, 3) := by decide +kernel
theorem dX6_init_4 : decode cX6_init 4 = .ok (.aload_n 0, 1) := by decide +kernel
theorem dX6_init_5 : decode cX6_init 5 = .ok (.aload_n 1, 1) := by decide +kernel
theorem dX6_init_6 : decode cX6_init 6 = .ok (.putfield 9, 3) := by decide +kernel
theorem dX6_init_9 : decode cX6_init 9 = .ok (.return_, 1) := by decide +kernel
theorem dX6_findFault_0 : decode cX6_findFault 0 = .ok (.aload_n 0, 1) := by decide +kernel
theorem dX6_findFault_1 : decode cX6_findFault 1 = .ok (.getfield 9, 3) := by decide +kernel
theorem dX6_findFault_4 : decode cX6_findFault 4 = .ok (.invokevirtual 15, 3) := by decide +kernel
theorem dX6_findFault_7 : decode cX6_findFault 7 = .ok (.iconst 0, 1) := by decide +kernel
theorem dX6_findFault_8 : decode cX6_findFault 8 = .ok (.istore_n 2, 1) := by decide +kernel
theorem dX6_findFault_9 : decode cX6_findFault 9 = .ok (.iload_n 2, 1) := by decide +kernel
theorem dX6_findFault_10 : decode cX6_findFault 10 = .ok (.bipush 12, 2) := by decide +kernel
theorem dX6_findFault_12 : decode cX6_findFault 12 = .ok (.if_icmp .ge 91, 3) := by decide +kernel
theorem dX6_findFault_15 : decode cX6_findFault 15 = .ok (.aload_n 0, 1) := by decide +kernel
theorem dX6_findFault_16 : decode cX6_findFault 16 = .ok (.aload_n 1, 1) := by decide +kernel
theorem dX6_findFault_17 : decode cX6_findFault 17 = .ok (.getfield 20, 3) := by decide +kernel
theorem dX6_findFault_20 : decode cX6_findFault 20 = .ok (.iload_n 2, 1) := by decide +kernel
theorem dX6_findFault_21 : decode cX6_findFault 21 = .ok (.aaload, 1) := by decide +kernel
theorem dX6_findFault_22 : decode cX6_findFault 22 = .ok (.invokevirtual 26, 3) := by decide +kernel
theorem dX6_findFault_25 : decode cX6_findFault 25 = .ok (.ifCond .ne 11, 3) := by decide +kernel
theorem dX6_findFault_28 : decode cX6_findFault 28 = .ok (.aload_n 0, 1) := by decide +kernel
theorem dX6_findFault_29 : decode cX6_findFault 29 = .ok (.getfield 9, 3) := by decide +kernel
theorem dX6_findFault_32 : decode cX6_findFault 32 = .ok (.getfield 30, 3) := by decide +kernel
theorem dX6_findFault_35 : decode cX6_findFault 35 = .ok (.ireturn, 1) := by decide +kernel
theorem dX6_findFault_36 : decode cX6_findFault 36 = .ok (.aload_n 1, 1) := by decide +kernel
theorem dX6_findFault_37 : decode cX6_findFault 37 = .ok (.iload_n 2, 1) := by decide +kernel
theorem dX6_findFault_38 : decode cX6_findFault 38 = .ok (.iconst 1, 1) := by decide +kernel
theorem dX6_findFault_39 : decode cX6_findFault 39 = .ok (.iadd, 1) := by decide +kernel
theorem dX6_findFault_40 : decode cX6_findFault 40 = .ok (.putfield 34, 3) := by decide +kernel
theorem dX6_findFault_43 : decode cX6_findFault 43 = .ok (.aload_n 0, 1) := by decide +kernel
theorem dX6_findFault_44 : decode cX6_findFault 44 = .ok (.getfield 9, 3) := by decide +kernel
theorem dX6_findFault_47 : decode cX6_findFault 47 = .ok (.invokevirtual 37, 3) := by decide +kernel
theorem dX6_findFault_50 : decode cX6_findFault 50 = .ok (.ifCond .eq 5, 3) := by decide +kernel
theorem dX6_findFault_53 : decode cX6_findFault 53 = .ok (.iconst (-1), 1) := by decide +kernel
theorem dX6_findFault_54 : decode cX6_findFault 54 = .ok (.ireturn, 1) := by decide +kernel
theorem dX6_findFault_55 : decode cX6_findFault 55 = .ok (.aload_n 1, 1) := by decide +kernel
theorem dX6_findFault_56 : decode cX6_findFault 56 = .ok (.getfield 34, 3) := by decide +kernel
theorem dX6_findFault_59 : decode cX6_findFault 59 = .ok (.bipush 12, 2) := by decide +kernel
theorem dX6_findFault_61 : decode cX6_findFault 61 = .ok (.if_icmp .eq 15, 3) := by decide +kernel
theorem dX6_findFault_64 : decode cX6_findFault 64 = .ok (.aload_n 0, 1) := by decide +kernel
theorem dX6_findFault_65 : decode cX6_findFault 65 = .ok (.getfield 9, 3) := by decide +kernel
theorem dX6_findFault_68 : decode cX6_findFault 68 = .ok (.invokevirtual 41, 3) := by decide +kernel
theorem dX6_findFault_71 : decode cX6_findFault 71 = .ok (.bipush 59, 2) := by decide +kernel
theorem dX6_findFault_73 : decode cX6_findFault 73 = .ok (.if_icmp .eq 11, 3) := by decide +kernel
theorem dX6_findFault_76 : decode cX6_findFault 76 = .ok (.aload_n 0, 1) := by decide +kernel
theorem dX6_findFault_77 : decode cX6_findFault 77 = .ok (.getfield 9, 3) := by decide +kernel
theorem dX6_findFault_80 : decode cX6_findFault 80 = .ok (.getfield 45, 3) := by decide +kernel
theorem dX6_findFault_83 : decode cX6_findFault 83 = .ok (.ireturn, 1) := by decide +kernel
theorem dX6_findFault_84 : decode cX6_findFault 84 = .ok (.aload_n 0, 1) := by decide +kernel
theorem dX6_findFault_85 : decode cX6_findFault 85 = .ok (.getfield 9, 3) := by decide +kernel
theorem dX6_findFault_88 : decode cX6_findFault 88 = .ok (.dup, 1) := by decide +kernel
theorem dX6_findFault_89 : decode cX6_findFault 89 = .ok (.getfield 45, 3) := by decide +kernel
theorem dX6_findFault_92 : decode cX6_findFault 92 = .ok (.iconst 1, 1) := by decide +kernel
theorem dX6_findFault_93 : decode cX6_findFault 93 = .ok (.iadd, 1) := by decide +kernel
theorem dX6_findFault_94 : decode cX6_findFault 94 = .ok (.putfield 45, 3) := by decide +kernel
theorem dX6_findFault_97 : decode cX6_findFault 97 = .ok (.iinc 2 1, 3) := by decide +kernel
theorem dX6_findFault_100 : decode cX6_findFault 100 = .ok (.goto (-91), 3) := by decide +kernel
theorem dX6_findFault_103 : decode cX6_findFault 103 = .ok (.aload_n 0, 1) := by decide +kernel
theorem dX6_findFault_104 : decode cX6_findFault 104 = .ok (.getfield 9, 3) := by decide +kernel
theorem dX6_findFault_107 : decode cX6_findFault 107 = .ok (.getfield 45, 3) := by decide +kernel
theorem dX6_findFault_110 : decode cX6_findFault 110 = .ok (.ireturn, 1) := by decide +kernel
theorem dX6_readStep_0 : decode cX6_readStep 0 = .ok (.aload_n 0, 1) := by decide +kernel
theorem dX6_readStep_1 : decode cX6_readStep 1 = .ok (.getfield 9, 3) := by decide +kernel
theorem dX6_readStep_4 : decode cX6_readStep 4 = .ok (.invokevirtual 48, 3) := by decide +kernel
theorem dX6_readStep_7 : decode cX6_readStep 7 = .ok (.ifCond .ne 5, 3) := by decide +kernel
theorem dX6_readStep_10 : decode cX6_readStep 10 = .ok (.iconst 0, 1) := by decide +kernel
theorem dX6_readStep_11 : decode cX6_readStep 11 = .ok (.ireturn, 1) := by decide +kernel
theorem dX6_readStep_12 : decode cX6_readStep 12 = .ok (.aload_n 1, 1) := by decide +kernel
theorem dX6_readStep_13 : decode cX6_readStep 13 = .ok (.iconst (-1), 1) := by decide +kernel
theorem dX6_readStep_14 : decode cX6_readStep 14 = .ok (.iconst 0, 1) := by decide +kernel
theorem dX6_readStep_15 : decode cX6_readStep 15 = .ok (.iconst 0, 1) := by decide +kernel
theorem dX6_readStep_16 : decode cX6_readStep 16 = .ok (.iconst 0, 1) := by decide +kernel
theorem dX6_readStep_17 : decode cX6_readStep 17 = .ok (.lconst 0, 1) := by decide +kernel
theorem dX6_readStep_18 : decode cX6_readStep 18 = .ok (.invokevirtual 51, 3) := by decide +kernel
theorem dX6_readStep_21 : decode cX6_readStep 21 = .ok (.aload_n 0, 1) := by decide +kernel
theorem dX6_readStep_22 : decode cX6_readStep 22 = .ok (.getfield 9, 3) := by decide +kernel
theorem dX6_readStep_25 : decode cX6_readStep 25 = .ok (.ldc 57, 2) := by decide +kernel
theorem dX6_readStep_27 : decode cX6_readStep 27 = .ok (.invokevirtual 59, 3) := by decide +kernel
theorem dX6_readStep_30 : decode cX6_readStep 30 = .ok (.ifCond .eq 41, 3) := by decide +kernel
theorem dX6_readStep_33 : decode cX6_readStep 33 = .ok (.aload_n 1, 1) := by decide +kernel
theorem dX6_readStep_34 : decode cX6_readStep 34 = .ok (.iconst 0, 1) := by decide +kernel
theorem dX6_readStep_35 : decode cX6_readStep 35 = .ok (.putfield 63, 3) := by decide +kernel
theorem dX6_readStep_38 : decode cX6_readStep 38 = .ok (.aload_n 0, 1) := by decide +kernel
theorem dX6_readStep_39 : decode cX6_readStep 39 = .ok (.aload_n 1, 1) := by decide +kernel
theorem dX6_readStep_40 : decode cX6_readStep 40 = .ok (.iconst 2, 1) := by decide +kernel
theorem dX6_readStep_41 : decode cX6_readStep 41 = .ok (.invokevirtual 66, 3) := by decide +kernel
theorem dX6_readStep_44 : decode cX6_readStep 44 = .ok (.ifCond .eq 25, 3) := by decide +kernel
theorem dX6_readStep_47 : decode cX6_readStep 47 = .ok (.aload_n 0, 1) := by decide +kernel
theorem dX6_readStep_48 : decode cX6_readStep 48 = .ok (.aload_n 1, 1) := by decide +kernel
theorem dX6_readStep_49 : decode cX6_readStep 49 = .ok (.bipush 9, 2) := by decide +kernel
theorem dX6_readStep_51 : decode cX6_readStep 51 = .ok (.invokevirtual 70, 3) := by decide +kernel
theorem dX6_readStep_54 : decode cX6_readStep 54 = .ok (.ifCond .eq 15, 3) := by decide +kernel
theorem dX6_readStep_57 : decode cX6_readStep 57 = .ok (.aload_n 0, 1) := by decide +kernel
theorem dX6_readStep_58 : decode cX6_readStep 58 = .ok (.aload_n 1, 1) := by decide +kernel
theorem dX6_readStep_59 : decode cX6_readStep 59 = .ok (.invokevirtual 73, 3) := by decide +kernel
theorem dX6_readStep_62 : decode cX6_readStep 62 = .ok (.ifCond .eq 7, 3) := by decide +kernel
theorem dX6_readStep_65 : decode cX6_readStep 65 = .ok (.iconst 1, 1) := by decide +kernel
theorem dX6_readStep_66 : decode cX6_readStep 66 = .ok (.goto 4, 3) := by decide +kernel
theorem dX6_readStep_69 : decode cX6_readStep 69 = .ok (.iconst 0, 1) := by decide +kernel
theorem dX6_readStep_70 : decode cX6_readStep 70 = .ok (.ireturn, 1) := by decide +kernel
theorem dX6_readStep_71 : decode cX6_readStep 71 = .ok (.aload_n 0, 1) := by decide +kernel
theorem dX6_readStep_72 : decode cX6_readStep 72 = .ok (.getfield 9, 3) := by decide +kernel
theorem dX6_readStep_75 : decode cX6_readStep 75 = .ok (.ldc 76, 2) := by decide +kernel
theorem dX6_readStep_77 : decode cX6_readStep 77 = .ok (.invokevirtual 59, 3) := by decide +kernel
theorem dX6_readStep_80 : decode cX6_readStep 80 = .ok (.ifCond .eq 15, 3) := by decide +kernel
theorem dX6_readStep_83 : decode cX6_readStep 83 = .ok (.aload_n 1, 1) := by decide +kernel
theorem dX6_readStep_84 : decode cX6_readStep 84 = .ok (.iconst 1, 1) := by decide +kernel
theorem dX6_readStep_85 : decode cX6_readStep 85 = .ok (.putfield 63, 3) := by decide +kernel
theorem dX6_readStep_88 : decode cX6_readStep 88 = .ok (.aload_n 0, 1) := by decide +kernel
theorem dX6_readStep_89 : decode cX6_readStep 89 = .ok (.aload_n 1, 1) := by decide +kernel
theorem dX6_readStep_90 : decode cX6_readStep 90 = .ok (.iconst 2, 1) := by decide +kernel
theorem dX6_readStep_91 : decode cX6_readStep 91 = .ok (.invokevirtual 66, 3) := by decide +kernel
theorem dX6_readStep_94 : decode cX6_readStep 94 = .ok (.ireturn, 1) := by decide +kernel
theorem dX6_readStep_95 : decode cX6_readStep 95 = .ok (.aload_n 0, 1) := by decide +kernel
theorem dX6_readStep_96 : decode cX6_readStep 96 = .ok (.getfield 9, 3) := by decide +kernel
theorem dX6_readStep_99 : decode cX6_readStep 99 = .ok (.ldc 78, 2) := by decide +kernel
theorem dX6_readStep_101 : decode cX6_readStep 101 = .ok (.invokevirtual 59, 3) := by decide +kernel
theorem dX6_readStep_104 : decode cX6_readStep 104 = .ok (.ifCond .eq 15, 3) := by decide +kernel
theorem dX6_readStep_107 : decode cX6_readStep 107 = .ok (.aload_n 1, 1) := by decide +kernel
theorem dX6_readStep_108 : decode cX6_readStep 108 = .ok (.iconst 2, 1) := by decide +kernel
theorem dX6_readStep_109 : decode cX6_readStep 109 = .ok (.putfield 63, 3) := by decide +kernel
theorem dX6_readStep_112 : decode cX6_readStep 112 = .ok (.aload_n 0, 1) := by decide +kernel
theorem dX6_readStep_113 : decode cX6_readStep 113 = .ok (.aload_n 1, 1) := by decide +kernel
theorem dX6_readStep_114 : decode cX6_readStep 114 = .ok (.iconst 1, 1) := by decide +kernel
theorem dX6_readStep_115 : decode cX6_readStep 115 = .ok (.invokevirtual 66, 3) := by decide +kernel
theorem dX6_readStep_118 : decode cX6_readStep 118 = .ok (.ireturn, 1) := by decide +kernel
theorem dX6_readStep_119 : decode cX6_readStep 119 = .ok (.aload_n 0, 1) := by decide +kernel
theorem dX6_readStep_120 : decode cX6_readStep 120 = .ok (.getfield 9, 3) := by decide +kernel
theorem dX6_readStep_123 : decode cX6_readStep 123 = .ok (.ldc 80, 2) := by decide +kernel
theorem dX6_readStep_125 : decode cX6_readStep 125 = .ok (.invokevirtual 59, 3) := by decide +kernel
theorem dX6_readStep_128 : decode cX6_readStep 128 = .ok (.ifCond .eq 30, 3) := by decide +kernel
theorem dX6_readStep_131 : decode cX6_readStep 131 = .ok (.aload_n 1, 1) := by decide +kernel
theorem dX6_readStep_132 : decode cX6_readStep 132 = .ok (.iconst 3, 1) := by decide +kernel
theorem dX6_readStep_133 : decode cX6_readStep 133 = .ok (.putfield 63, 3) := by decide +kernel
theorem dX6_readStep_136 : decode cX6_readStep 136 = .ok (.aload_n 0, 1) := by decide +kernel
theorem dX6_readStep_137 : decode cX6_readStep 137 = .ok (.aload_n 1, 1) := by decide +kernel
theorem dX6_readStep_138 : decode cX6_readStep 138 = .ok (.invokevirtual 82, 3) := by decide +kernel
theorem dX6_readStep_141 : decode cX6_readStep 141 = .ok (.ifCond .eq 15, 3) := by decide +kernel
theorem dX6_readStep_144 : decode cX6_readStep 144 = .ok (.aload_n 0, 1) := by decide +kernel
theorem dX6_readStep_145 : decode cX6_readStep 145 = .ok (.aload_n 1, 1) := by decide +kernel
theorem dX6_readStep_146 : decode cX6_readStep 146 = .ok (.invokevirtual 85, 3) := by decide +kernel
theorem dX6_readStep_149 : decode cX6_readStep 149 = .ok (.ifCond .eq 7, 3) := by decide +kernel
theorem dX6_readStep_152 : decode cX6_readStep 152 = .ok (.iconst 1, 1) := by decide +kernel
theorem dX6_readStep_153 : decode cX6_readStep 153 = .ok (.goto 4, 3) := by decide +kernel
theorem dX6_readStep_156 : decode cX6_readStep 156 = .ok (.iconst 0, 1) := by decide +kernel
theorem dX6_readStep_157 : decode cX6_readStep 157 = .ok (.ireturn, 1) := by decide +kernel
theorem dX6_readStep_158 : decode cX6_readStep 158 = .ok (.aload_n 0, 1) := by decide +kernel
theorem dX6_readStep_159 : decode cX6_readStep 159 = .ok (.getfield 9, 3) := by decide +kernel
theorem dX6_readStep_162 : decode cX6_readStep 162 = .ok (.ldc 88, 2) := by decide +kernel
theorem dX6_readStep_164 : decode cX6_readStep 164 = .ok (.invokevirtual 59, 3) := by decide +kernel
theorem dX6_readStep_167 : decode cX6_readStep 167 = .ok (.ifCond .eq 14, 3) := by decide +kernel
theorem dX6_readStep_170 : decode cX6_readStep 170 = .ok (.aload_n 1, 1) := by decide +kernel
theorem dX6_readStep_171 : decode cX6_readStep 171 = .ok (.iconst 4, 1) := by decide +kernel
theorem dX6_readStep_172 : decode cX6_readStep 172 = .ok (.putfield 63, 3) := by decide +kernel
theorem dX6_readStep_175 : decode cX6_readStep 175 = .ok (.aload_n 0, 1) := by decide +kernel
theorem dX6_readStep_176 : decode cX6_readStep 176 = .ok (.aload_n 1, 1) := by decide +kernel
theorem dX6_readStep_177 : decode cX6_readStep 177 = .ok (.invokevirtual 82, 3) := by decide +kernel
theorem dX6_readStep_180 : decode cX6_readStep 180 = .ok (.ireturn, 1) := by decide +kernel
theorem dX6_readStep_181 : decode cX6_readStep 181 = .ok (.aload_n 0, 1) := by decide +kernel
theorem dX6_readStep_182 : decode cX6_readStep 182 = .ok (.getfield 9, 3) := by decide +kernel
theorem dX6_readStep_185 : decode cX6_readStep 185 = .ok (.aload_n 0, 1) := by decide +kernel
theorem dX6_readStep_186 : decode cX6_readStep 186 = .ok (.getfield 9, 3) := by decide +kernel
theorem dX6_readStep_189 : decode cX6_readStep 189 = .ok (.getfield 90, 3) := by decide +kernel
theorem dX6_readStep_192 : decode cX6_readStep 192 = .ok (.invokevirtual 93, 3) := by decide +kernel
theorem dX6_readStep_195 : decode cX6_readStep 195 = .ok (.ireturn, 1) := by decide +kernel
theorem dX6_readA_0 : decode cX6_readA 0 = .ok (.aload_n 0, 1) := by decide +kernel
theorem dX6_readA_1 : decode cX6_readA 1 = .ok (.getfield 9, 3) := by decide +kernel
theorem dX6_readA_4 : decode cX6_readA 4 = .ok (.iconst 1, 1) := by decide +kernel
theorem dX6_readA_5 : decode cX6_readA 5 = .ok (.iload_n 2, 1) := by decide +kernel
theorem dX6_readA_6 : decode cX6_readA 6 = .ok (.invokevirtual 97, 3) := by decide +kernel
theorem dX6_readA_9 : decode cX6_readA 9 = .ok (.istore_n 3, 1) := by decide +kernel
theorem dX6_readA_10 : decode cX6_readA 10 = .ok (.aload_n 1, 1) := by decide +kernel
theorem dX6_readA_11 : decode cX6_readA 11 = .ok (.aload_n 0, 1) := by decide +kernel
theorem dX6_readA_12 : decode cX6_readA 12 = .ok (.getfield 9, 3) := by decide +kernel
theorem dX6_readA_15 : decode cX6_readA 15 = .ok (.getfield 101, 3) := by decide +kernel
theorem dX6_readA_18 : decode cX6_readA 18 = .ok (.putfield 104, 3) := by decide +kernel
theorem dX6_readA_21 : decode cX6_readA 21 = .ok (.iload_n 3, 1) := by decide +kernel
theorem dX6_readA_22 : decode cX6_readA 22 = .ok (.ireturn, 1) := by decide +kernel
theorem dX6_readB_0 : decode cX6_readB 0 = .ok (.aload_n 0, 1) := by decide +kernel
theorem dX6_readB_1 : decode cX6_readB 1 = .ok (.getfield 9, 3) := by decide +kernel
theorem dX6_readB_4 : decode cX6_readB 4 = .ok (.iconst 1, 1) := by decide +kernel
theorem dX6_readB_5 : decode cX6_readB 5 = .ok (.iload_n 2, 1) := by decide +kernel
theorem dX6_readB_6 : decode cX6_readB 6 = .ok (.invokevirtual 97, 3) := by decide +kernel
theorem dX6_readB_9 : decode cX6_readB 9 = .ok (.istore_n 3, 1) := by decide +kernel
theorem dX6_readB_10 : decode cX6_readB 10 = .ok (.aload_n 1, 1) := by decide +kernel
theorem dX6_readB_11 : decode cX6_readB 11 = .ok (.aload_n 0, 1) := by decide +kernel
theorem dX6_readB_12 : decode cX6_readB 12 = .ok (.getfield 9, 3) := by decide +kernel
theorem dX6_readB_15 : decode cX6_readB 15 = .ok (.getfield 101, 3) := by decide +kernel
theorem dX6_readB_18 : decode cX6_readB 18 = .ok (.putfield 107, 3) := by decide +kernel
theorem dX6_readB_21 : decode cX6_readB 21 = .ok (.iload_n 3, 1) := by decide +kernel
theorem dX6_readB_22 : decode cX6_readB 22 = .ok (.ireturn, 1) := by decide +kernel
theorem dX6_readCount_0 : decode cX6_readCount 0 = .ok (.aload_n 0, 1) := by decide +kernel
theorem dX6_readCount_1 : decode cX6_readCount 1 = .ok (.getfield 9, 3) := by decide +kernel
theorem dX6_readCount_4 : decode cX6_readCount 4 = .ok (.iconst 2, 1) := by decide +kernel
theorem dX6_readCount_5 : decode cX6_readCount 5 = .ok (.bipush 99, 2) := by decide +kernel
theorem dX6_readCount_7 : decode cX6_readCount 7 = .ok (.invokevirtual 97, 3) := by decide +kernel
theorem dX6_readCount_10 : decode cX6_readCount 10 = .ok (.istore_n 2, 1) := by decide +kernel
theorem dX6_readCount_11 : decode cX6_readCount 11 = .ok (.aload_n 1, 1) := by decide +kernel
theorem dX6_readCount_12 : decode cX6_readCount 12 = .ok (.aload_n 0, 1) := by decide +kernel
theorem dX6_readCount_13 : decode cX6_readCount 13 = .ok (.getfield 9, 3) := by decide +kernel
theorem dX6_readCount_16 : decode cX6_readCount 16 = .ok (.getfield 101, 3) := by decide +kernel
theorem dX6_readCount_19 : decode cX6_readCount 19 = .ok (.putfield 110, 3) := by decide +kernel
theorem dX6_readCount_22 : decode cX6_readCount 22 = .ok (.iload_n 2, 1) := by decide +kernel
theorem dX6_readCount_23 : decode cX6_readCount 23 = .ok (.ireturn, 1) := by decide +kernel
theorem dX6_readSlot_0 : decode cX6_readSlot 0 = .ok (.aload_n 0, 1) := by decide +kernel
theorem dX6_readSlot_1 : decode cX6_readSlot 1 = .ok (.aload_n 1, 1) := by decide +kernel
theorem dX6_readSlot_2 : decode cX6_readSlot 2 = .ok (.bipush 9, 2) := by decide +kernel
theorem dX6_readSlot_4 : decode cX6_readSlot 4 = .ok (.invokevirtual 66, 3) := by decide +kernel
theorem dX6_readSlot_7 : decode cX6_readSlot 7 = .ok (.ifCond .eq 12, 3) := by decide +kernel
theorem dX6_readSlot_10 : decode cX6_readSlot 10 = .ok (.aload_n 0, 1) := by decide +kernel
theorem dX6_readSlot_11 : decode cX6_readSlot 11 = .ok (.aload_n 1, 1) := by decide +kernel
theorem dX6_readSlot_12 : decode cX6_readSlot 12 = .ok (.iconst 3, 1) := by decide +kernel
theorem dX6_readSlot_13 : decode cX6_readSlot 13 = .ok (.invokevirtual 70, 3) := by decide +kernel
theorem dX6_readSlot_16 : decode cX6_readSlot 16 = .ok (.ifCond .ne 5, 3) := by decide +kernel
theorem dX6_readSlot_19 : decode cX6_readSlot 19 = .ok (.iconst 0, 1) := by decide +kernel
theorem dX6_readSlot_20 : decode cX6_readSlot 20 = .ok (.ireturn, 1) := by decide +kernel
theorem dX6_readSlot_21 : decode cX6_readSlot 21 = .ok (.aload_n 0, 1) := by decide +kernel
theorem dX6_readSlot_22 : decode cX6_readSlot 22 = .ok (.getfield 9, 3) := by decide +kernel
theorem dX6_readSlot_25 : decode cX6_readSlot 25 = .ok (.iconst 1, 1) := by decide +kernel
theorem dX6_readSlot_26 : decode cX6_readSlot 26 = .ok (.iconst 1, 1) := by decide +kernel
theorem dX6_readSlot_27 : decode cX6_readSlot 27 = .ok (.invokevirtual 97, 3) := by decide +kernel
theorem dX6_readSlot_30 : decode cX6_readSlot 30 = .ok (.istore_n 2, 1) := by decide +kernel
theorem dX6_readSlot_31 : decode cX6_readSlot 31 = .ok (.aload_n 1, 1) := by decide +kernel
theorem dX6_readSlot_32 : decode cX6_readSlot 32 = .ok (.aload_n 0, 1) := by decide +kernel
theorem dX6_readSlot_33 : decode cX6_readSlot 33 = .ok (.getfield 9, 3) := by decide +kernel
theorem dX6_readSlot_36 : decode cX6_readSlot 36 = .ok (.getfield 101, 3) := by decide +kernel
theorem dX6_readSlot_39 : decode cX6_readSlot 39 = .ok (.putfield 110, 3) := by decide +kernel
theorem dX6_readSlot_42 : decode cX6_readSlot 42 = .ok (.iload_n 2, 1) := by decide +kernel
theorem dX6_readSlot_43 : decode cX6_readSlot 43 = .ok (.ireturn, 1) := by decide +kernel
theorem dX6_readWord_0 : decode cX6_readWord 0 = .ok (.aload_n 0, 1) := by decide +kernel
theorem dX6_readWord_1 : decode cX6_readWord 1 = .ok (.getfield 9, 3) := by decide +kernel
theorem dX6_readWord_4 : decode cX6_readWord 4 = .ok (.invokevirtual 48, 3) := by decide +kernel
theorem dX6_readWord_7 : decode cX6_readWord 7 = .ok (.istore_n 2, 1) := by decide +kernel
theorem dX6_readWord_8 : decode cX6_readWord 8 = .ok (.aload_n 1, 1) := by decide +kernel
theorem dX6_readWord_9 : decode cX6_readWord 9 = .ok (.aload_n 0, 1) := by decide +kernel
theorem dX6_readWord_10 : decode cX6_readWord 10 = .ok (.getfield 9, 3) := by decide +kernel
theorem dX6_readWord_13 : decode cX6_readWord 13 = .ok (.getfield 113, 3) := by decide +kernel
theorem dX6_readWord_16 : decode cX6_readWord 16 = .ok (.putfield 117, 3) := by decide +kernel
theorem dX6_readWord_19 : decode cX6_readWord 19 = .ok (.iload_n 2, 1) := by decide +kernel
theorem dX6_readWord_20 : decode cX6_readWord 20 = .ok (.ireturn, 1) := by decide +kernel
theorem dX7_init_0 : decode cX7_init 0 = .ok (.aload_n 0, 1) := by decide +kernel
theorem dX7_init_1 : decode cX7_init 1 = .ok (.invokespecial 5, 3) := by decide +kernel
theorem dX7_init_4 : decode cX7_init 4 = .ok (.aload_n 0, 1) := by decide +kernel
theorem dX7_init_5 : decode cX7_init 5 = .ok (.bipush 52, 2) := by decide +kernel
theorem dX7_init_7 : decode cX7_init 7 = .ok (.newarray .long, 2) := by decide +kernel
theorem dX7_init_9 : decode cX7_init 9 = .ok (.putfield 11, 3) := by decide +kernel
theorem dX7_init_12 : decode cX7_init 12 = .ok (.return_, 1) := by decide +kernel
theorem dX7_formCell_0 : decode cX7_formCell 0 = .ok (.iload_n 0, 1) := by decide +kernel
theorem dX7_formCell_1 : decode cX7_formCell 1 = .ok (.bipush 8, 2) := by decide +kernel
theorem dX7_formCell_3 : decode cX7_formCell 3 = .ok (.imul, 1) := by decide +kernel
theorem dX7_formCell_4 : decode cX7_formCell 4 = .ok (.iload_n 1, 1) := by decide +kernel
theorem dX7_formCell_5 : decode cX7_formCell 5 = .ok (.iconst 2, 1) := by decide +kernel
theorem dX7_formCell_6 : decode cX7_formCell 6 = .ok (.imul, 1) := by decide +kernel
theorem dX7_formCell_7 : decode cX7_formCell 7 = .ok (.iadd, 1) := by decide +kernel
theorem dX7_formCell_8 : decode cX7_formCell 8 = .ok (.iload_n 2, 1) := by decide +kernel
theorem dX7_formCell_9 : decode cX7_formCell 9 = .ok (.iadd, 1) := by decide +kernel
theorem dX7_formCell_10 : decode cX7_formCell 10 = .ok (.ireturn, 1) := by decide +kernel
theorem dX7_filling_0 : decode cX7_filling 0 = .ok (.iconst 1, 1) := by decide +kernel
theorem dX7_filling_1 : decode cX7_filling 1 = .ok (.iload_n 0, 1) := by decide +kernel
theorem dX7_filling_2 : decode cX7_filling 2 = .ok (.bipush 100, 2) := by decide +kernel
theorem dX7_filling_4 : decode cX7_filling 4 = .ok (.imul, 1) := by decide +kernel
theorem dX7_filling_5 : decode cX7_filling 5 = .ok (.iadd, 1) := by decide +kernel
theorem dX7_filling_6 : decode cX7_filling 6 = .ok (.iload_n 1, 1) := by decide +kernel
theorem dX7_filling_7 : decode cX7_filling 7 = .ok (.iadd, 1) := by decide +kernel
theorem dX7_filling_8 : decode cX7_filling 8 = .ok (.i2l, 1) := by decide +kernel
theorem dX7_filling_9 : decode cX7_filling 9 = .ok (.lreturn, 1) := by decide +kernel
theorem dX7_beginWith_0 : decode cX7_beginWith 0 = .ok (.aload_n 1, 1) := by decide +kernel
theorem dX7_beginWith_1 : decode cX7_beginWith 1 = .ok (.getfield 15, 3) := by decide +kernel
theorem dX7_beginWith_4 : decode cX7_beginWith 4 = .ok (.iconst 0, 1) := by decide +kernel
theorem dX7_beginWith_5 : decode cX7_beginWith 5 = .ok (.aload_n 0, 1) := by decide +kernel
theorem dX7_beginWith_6 : decode cX7_beginWith 6 = .ok (.getfield 11, 3) := by decide +kernel
theorem dX7_beginWith_9 : decode cX7_beginWith 9 = .ok (.iconst 0, 1) := by decide +kernel
theorem dX7_beginWith_10 : decode cX7_beginWith 10 = .ok (.bipush 48, 2) := by decide +kernel
theorem dX7_beginWith_12 : decode cX7_beginWith 12 = .ok (.invokestatic 20, 3) := by decide +kernel
theorem dX7_beginWith_15 : decode cX7_beginWith 15 = .ok (.bipush 48, 2) := by decide +kernel
theorem dX7_beginWith_17 : decode cX7_beginWith 17 = .ok (.istore_n 2, 1) := by decide +kernel
theorem dX7_beginWith_18 : decode cX7_beginWith 18 = .ok (.iload_n 2, 1) := by decide +kernel
theorem dX7_beginWith_19 : decode cX7_beginWith 19 = .ok (.aload_n 0, 1) := by decide +kernel
theorem dX7_beginWith_20 : decode cX7_beginWith 20 = .ok (.getfield 11, 3) := by decide +kernel
theorem dX7_beginWith_23 : decode cX7_beginWith 23 = .ok (.arraylength, 1) := by decide +kernel
theorem dX7_beginWith_24 : decode cX7_beginWith 24 = .ok (.if_icmp .ge 16, 3) := by decide +kernel
theorem dX7_beginWith_27 : decode cX7_beginWith 27 = .ok (.aload_n 0, 1) := by decide +kernel
theorem dX7_beginWith_28 : decode cX7_beginWith 28 = .ok (.getfield 11, 3) := by decide +kernel
theorem dX7_beginWith_31 : decode cX7_beginWith 31 = .ok (.iload_n 2, 1) := by decide +kernel
theorem dX7_beginWith_32 : decode cX7_beginWith 32 = .ok (.lconst 0, 1) := by decide +kernel
theorem dX7_beginWith_33 : decode cX7_beginWith 33 = .ok (.lastore, 1) := by decide +kernel
theorem dX7_beginWith_34 : decode cX7_beginWith 34 = .ok (.iinc 2 1, 3) := by decide +kernel
theorem dX7_beginWith_37 : decode cX7_beginWith 37 = .ok (.goto (-19), 3) := by decide +kernel
theorem dX7_beginWith_40 : decode cX7_beginWith 40 = .ok (.return_, 1) := by decide +kernel
theorem dX7_copyFrom_0 : decode cX7_copyFrom 0 = .ok (.aload_n 1, 1) := by decide +kernel
theorem dX7_copyFrom_1 : decode cX7_copyFrom 1 = .ok (.getfield 11, 3) := by decide +kernel
theorem dX7_copyFrom_4 : decode cX7_copyFrom 4 = .ok (.iconst 0, 1) := by decide +kernel
theorem dX7_copyFrom_5 : decode cX7_copyFrom 5 = .ok (.aload_n 0, 1) := by decide +kernel
theorem dX7_copyFrom_6 : decode cX7_copyFrom 6 = .ok (.getfield 11, 3) := by decide +kernel
theorem dX7_copyFrom_9 : decode cX7_copyFrom 9 = .ok (.iconst 0, 1) := by decide +kernel
theorem dX7_copyFrom_10 : decode cX7_copyFrom 10 = .ok (.aload_n 0, 1) := by decide +kernel
theorem dX7_copyFrom_11 : decode cX7_copyFrom 11 = .ok (.getfield 11, 3) := by decide +kernel
theorem dX7_copyFrom_14 : decode cX7_copyFrom 14 = .ok (.arraylength, 1) := by decide +kernel
theorem dX7_copyFrom_15 : decode cX7_copyFrom 15 = .ok (.invokestatic 20, 3) := by decide +kernel
theorem dX7_copyFrom_18 : decode cX7_copyFrom 18 = .ok (.return_, 1) := by decide +kernel
theorem dX7_isStrict_0 : decode cX7_isStrict 0 = .ok (.aload_n 0, 1) := by decide +kernel
theorem dX7_isStrict_1 : decode cX7_isStrict 1 = .ok (.getfield 11, 3) := by decide +kernel
theorem dX7_isStrict_4 : decode cX7_isStrict 4 = .ok (.bipush 51, 2) := by decide +kernel
theorem dX7_isStrict_6 : decode cX7_isStrict 6 = .ok (.laload, 1) := by decide +kernel
theorem dX7_isStrict_7 : decode cX7_isStrict 7 = .ok (.lconst 0, 1) := by decide +kernel
theorem dX7_isStrict_8 : decode cX7_isStrict 8 = .ok (.lcmp, 1) := by decide +kernel
theorem dX7_isStrict_9 : decode cX7_isStrict 9 = .ok (.ifCond .eq 7, 3) := by decide +kernel
theorem dX7_isStrict_12 : decode cX7_isStrict 12 = .ok (.iconst 1, 1) := by decide +kernel
theorem dX7_isStrict_13 : decode cX7_isStrict 13 = .ok (.goto 4, 3) := by decide +kernel
theorem dX7_isStrict_16 : decode cX7_isStrict 16 = .ok (.iconst 0, 1) := by decide +kernel
theorem dX7_isStrict_17 : decode cX7_isStrict 17 = .ok (.ireturn, 1) := by decide +kernel
theorem dX7_isOpen_0 : decode cX7_isOpen 0 = .ok (.aload_n 0, 1) := by decide +kernel
theorem dX7_isOpen_1 : decode cX7_isOpen 1 = .ok (.getfield 11, 3) := by decide +kernel
theorem dX7_isOpen_4 : decode cX7_isOpen 4 = .ok (.bipush 48, 2) := by decide +kernel
theorem dX7_isOpen_6 : decode cX7_isOpen 6 = .ok (.iload_n 1, 1) := by decide +kernel
theorem dX7_isOpen_7 : decode cX7_isOpen 7 = .ok (.iadd, 1) := by decide +kernel
theorem dX7_isOpen_8 : decode cX7_isOpen 8 = .ok (.laload, 1) := by decide +kernel
theorem dX7_isOpen_9 : decode cX7_isOpen 9 = .ok (.lconst 0, 1) := by decide +kernel
theorem dX7_isOpen_10 : decode cX7_isOpen 10 = .ok (.lcmp, 1) := by decide +kernel
theorem dX7_isOpen_11 : decode cX7_isOpen 11 = .ok (.ifCond .ne 7, 3) := by decide +kernel
theorem dX7_isOpen_14 : decode cX7_isOpen 14 = .ok (.iconst 1, 1) := by decide +kernel
theorem dX7_isOpen_15 : decode cX7_isOpen 15 = .ok (.goto 4, 3) := by decide +kernel
theorem dX7_isOpen_18 : decode cX7_isOpen 18 = .ok (.iconst 0, 1) := by decide +kernel
theorem dX7_isOpen_19 : decode cX7_isOpen 19 = .ok (.ireturn, 1) := by decide +kernel
theorem dX7_nounIn_0 : decode cX7_nounIn 0 = .ok (.aload_n 0, 1) := by decide +kernel
theorem dX7_nounIn_1 : decode cX7_nounIn 1 = .ok (.getfield 11, 3) := by decide +kernel
theorem dX7_nounIn_4 : decode cX7_nounIn 4 = .ok (.bipush 48, 2) := by decide +kernel
theorem dX7_nounIn_6 : decode cX7_nounIn 6 = .ok (.iload_n 1, 1) := by decide +kernel
theorem dX7_nounIn_7 : decode cX7_nounIn 7 = .ok (.iadd, 1) := by decide +kernel
theorem dX7_nounIn_8 : decode cX7_nounIn 8 = .ok (.laload, 1) := by decide +kernel
theorem dX7_nounIn_9 : decode cX7_nounIn 9 = .ok (.lconst 1, 1) := by decide +kernel
theorem dX7_nounIn_10 : decode cX7_nounIn 10 = .ok (.lsub, 1) := by decide +kernel
theorem dX7_nounIn_11 : decode cX7_nounIn 11 = .ok (.l2i, 1) := by decide +kernel
theorem dX7_nounIn_12 : decode cX7_nounIn 12 = .ok (.bipush 100, 2) := by decide +kernel
theorem dX7_nounIn_14 : decode cX7_nounIn 14 = .ok (.idiv, 1) := by decide +kernel
theorem dX7_nounIn_15 : decode cX7_nounIn 15 = .ok (.ireturn, 1) := by decide +kernel
theorem dX7_countIn_0 : decode cX7_countIn 0 = .ok (.aload_n 0, 1) := by decide +kernel
theorem dX7_countIn_1 : decode cX7_countIn 1 = .ok (.getfield 11, 3) := by decide +kernel
theorem dX7_countIn_4 : decode cX7_countIn 4 = .ok (.bipush 48, 2) := by decide +kernel
theorem dX7_countIn_6 : decode cX7_countIn 6 = .ok (.iload_n 1, 1) := by decide +kernel
theorem dX7_countIn_7 : decode cX7_countIn 7 = .ok (.iadd, 1) := by decide +kernel
theorem dX7_countIn_8 : decode cX7_countIn 8 = .ok (.laload, 1) := by decide +kernel
theorem dX7_countIn_9 : decode cX7_countIn 9 = .ok (.lconst 1, 1) := by decide +kernel
theorem dX7_countIn_10 : decode cX7_countIn 10 = .ok (.lsub, 1) := by decide +kernel
theorem dX7_countIn_11 : decode cX7_countIn 11 = .ok (.l2i, 1) := by decide +kernel
theorem dX7_countIn_12 : decode cX7_countIn 12 = .ok (.bipush 100, 2) := by decide +kernel
theorem dX7_countIn_14 : decode cX7_countIn 14 = .ok (.irem, 1) := by decide +kernel
theorem dX7_countIn_15 : decode cX7_countIn 15 = .ok (.ireturn, 1) := by decide +kernel
theorem dX7_numberIn_0 : decode cX7_numberIn 0 = .ok (.aload_n 0, 1) := by decide +kernel
theorem dX7_numberIn_1 : decode cX7_numberIn 1 = .ok (.getfield 11, 3) := by decide +kernel
theorem dX7_numberIn_4 : decode cX7_numberIn 4 = .ok (.bipush 48, 2) := by decide +kernel
theorem dX7_numberIn_6 : decode cX7_numberIn 6 = .ok (.iload_n 1, 1) := by decide +kernel
theorem dX7_numberIn_7 : decode cX7_numberIn 7 = .ok (.iadd, 1) := by decide +kernel
theorem dX7_numberIn_8 : decode cX7_numberIn 8 = .ok (.laload, 1) := by decide +kernel
theorem dX7_numberIn_9 : decode cX7_numberIn 9 = .ok (.lconst 1, 1) := by decide +kernel
theorem dX7_numberIn_10 : decode cX7_numberIn 10 = .ok (.lsub, 1) := by decide +kernel
theorem dX7_numberIn_11 : decode cX7_numberIn 11 = .ok (.ldc2_w 26, 3) := by decide +kernel
theorem dX7_numberIn_14 : decode cX7_numberIn 14 = .ok (.lrem, 1) := by decide +kernel
theorem dX7_numberIn_15 : decode cX7_numberIn 15 = .ok (.lconst 1, 1) := by decide +kernel
theorem dX7_numberIn_16 : decode cX7_numberIn 16 = .ok (.lcmp, 1) := by decide +kernel
theorem dX7_numberIn_17 : decode cX7_numberIn 17 = .ok (.ifCond .ne 7, 3) := by decide +kernel
theorem dX7_numberIn_20 : decode cX7_numberIn 20 = .ok (.iconst 0, 1) := by decide +kernel
theorem dX7_numberIn_21 : decode cX7_numberIn 21 = .ok (.goto 4, 3) := by decide +kernel
theorem dX7_numberIn_24 : decode cX7_numberIn 24 = .ok (.iconst 1, 1) := by decide +kernel
theorem dX7_numberIn_25 : decode cX7_numberIn 25 = .ok (.ireturn, 1) := by decide +kernel
theorem dX7_defaultOf_0 : decode cX7_defaultOf 0 = .ok (.iload_n 1, 1) := by decide +kernel
theorem dX7_defaultOf_1 : decode cX7_defaultOf 1 = .ok (.bipush 8, 2) := by decide +kernel
theorem dX7_defaultOf_3 : decode cX7_defaultOf 3 = .ok (.imul, 1) := by decide +kernel
theorem dX7_defaultOf_4 : decode cX7_defaultOf 4 = .ok (.istore 4, 2) := by decide +kernel
theorem dX7_defaultOf_6 : decode cX7_defaultOf 6 = .ok (.iload 4, 2) := by decide +kernel
theorem dX7_defaultOf_8 : decode cX7_defaultOf 8 = .ok (.iload_n 2, 1) := by decide +kernel
theorem dX7_defaultOf_9 : decode cX7_defaultOf 9 = .ok (.iconst 2, 1) := by decide +kernel
theorem dX7_defaultOf_10 : decode cX7_defaultOf 10 = .ok (.imul, 1) := by decide +kernel
theorem dX7_defaultOf_11 : decode cX7_defaultOf 11 = .ok (.iadd, 1) := by decide +kernel
theorem dX7_defaultOf_12 : decode cX7_defaultOf 12 = .ok (.istore 5, 2) := by decide +kernel
theorem dX7_defaultOf_14 : decode cX7_defaultOf 14 = .ok (.aload_n 0, 1) := by decide +kernel
theorem dX7_defaultOf_15 : decode cX7_defaultOf 15 = .ok (.getfield 11, 3) := by decide +kernel
theorem dX7_defaultOf_18 : decode cX7_defaultOf 18 = .ok (.iload 5, 2) := by decide +kernel
theorem dX7_defaultOf_20 : decode cX7_defaultOf 20 = .ok (.iload_n 3, 1) := by decide +kernel
theorem dX7_defaultOf_21 : decode cX7_defaultOf 21 = .ok (.iadd, 1) := by decide +kernel
theorem dX7_defaultOf_22 : decode cX7_defaultOf 22 = .ok (.laload, 1) := by decide +kernel
theorem dX7_defaultOf_23 : decode cX7_defaultOf 23 = .ok (.lconst 0, 1) := by decide +kernel
theorem dX7_defaultOf_24 : decode cX7_defaultOf 24 = .ok (.lcmp, 1) := by decide +kernel
theorem dX7_defaultOf_25 : decode cX7_defaultOf 25 = .ok (.ifCond .eq 5, 3) := by decide +kernel
theorem dX7_defaultOf_28 : decode cX7_defaultOf 28 = .ok (.iconst 0, 1) := by decide +kernel
theorem dX7_defaultOf_29 : decode cX7_defaultOf 29 = .ok (.ireturn, 1) := by decide +kernel
theorem dX7_defaultOf_30 : decode cX7_defaultOf 30 = .ok (.aload_n 0, 1) := by decide +kernel
theorem dX7_defaultOf_31 : decode cX7_defaultOf 31 = .ok (.getfield 11, 3) := by decide +kernel
theorem dX7_defaultOf_34 : decode cX7_defaultOf 34 = .ok (.iload 4, 2) := by decide +kernel
theorem dX7_defaultOf_36 : decode cX7_defaultOf 36 = .ok (.iload_n 3, 1) := by decide +kernel
theorem dX7_defaultOf_37 : decode cX7_defaultOf 37 = .ok (.iadd, 1) := by decide +kernel
theorem dX7_defaultOf_38 : decode cX7_defaultOf 38 = .ok (.laload, 1) := by decide +kernel
theorem dX7_defaultOf_39 : decode cX7_defaultOf 39 = .ok (.lconst 0, 1) := by decide +kernel
theorem dX7_defaultOf_40 : decode cX7_defaultOf 40 = .ok (.lcmp, 1) := by decide +kernel
theorem dX7_defaultOf_41 : decode cX7_defaultOf 41 = .ok (.ifCond .eq 5, 3) := by decide +kernel
theorem dX7_defaultOf_44 : decode cX7_defaultOf 44 = .ok (.iconst 1, 1) := by decide +kernel
theorem dX7_defaultOf_45 : decode cX7_defaultOf 45 = .ok (.ireturn, 1) := by decide +kernel
theorem dX7_defaultOf_46 : decode cX7_defaultOf 46 = .ok (.aload_n 0, 1) := by decide +kernel
theorem dX7_defaultOf_47 : decode cX7_defaultOf 47 = .ok (.getfield 11, 3) := by decide +kernel
theorem dX7_defaultOf_50 : decode cX7_defaultOf 50 = .ok (.iload 5, 2) := by decide +kernel
theorem dX7_defaultOf_52 : decode cX7_defaultOf 52 = .ok (.laload, 1) := by decide +kernel
theorem dX7_defaultOf_53 : decode cX7_defaultOf 53 = .ok (.lconst 0, 1) := by decide +kernel
theorem dX7_defaultOf_54 : decode cX7_defaultOf 54 = .ok (.lcmp, 1) := by decide +kernel
theorem dX7_defaultOf_55 : decode cX7_defaultOf 55 = .ok (.ifCond .eq 5, 3) := by decide +kernel
theorem dX7_defaultOf_58 : decode cX7_defaultOf 58 = .ok (.iconst 2, 1) := by decide +kernel
theorem dX7_defaultOf_59 : decode cX7_defaultOf 59 = .ok (.ireturn, 1) := by decide +kernel
theorem dX7_defaultOf_60 : decode cX7_defaultOf 60 = .ok (.aload_n 0, 1) := by decide +kernel
theorem dX7_defaultOf_61 : decode cX7_defaultOf 61 = .ok (.getfield 11, 3) := by decide +kernel
theorem dX7_defaultOf_64 : decode cX7_defaultOf 64 = .ok (.iload 4, 2) := by decide +kernel
theorem dX7_defaultOf_66 : decode cX7_defaultOf 66 = .ok (.laload, 1) := by decide +kernel
theorem dX7_defaultOf_67 : decode cX7_defaultOf 67 = .ok (.lconst 0, 1) := by decide +kernel
theorem dX7_defaultOf_68 : decode cX7_defaultOf 68 = .ok (.lcmp, 1) := by decide +kernel
theorem dX7_defaultOf_69 : decode cX7_defaultOf 69 = .ok (.ifCond .eq 7, 3) := by decide +kernel
theorem dX7_defaultOf_72 : decode cX7_defaultOf 72 = .ok (.iconst 3, 1) := by decide +kernel
theorem dX7_defaultOf_73 : decode cX7_defaultOf 73 = .ok (.goto 4, 3) := by decide +kernel
theorem dX7_defaultOf_76 : decode cX7_defaultOf 76 = .ok (.iconst 4, 1) := by decide +kernel
theorem dX7_defaultOf_77 : decode cX7_defaultOf 77 = .ok (.ireturn, 1) := by decide +kernel
theorem dX8_init_0 : decode cX8_init 0 = .ok (.aload_n 0, 1) := by decide +kernel
theorem dX8_init_1 : decode cX8_init 1 = .ok (.invokespecial 3, 3) := by decide +kernel
theorem dX8_init_4 : decode cX8_init 4 = .ok (.return_, 1) := by decide +kernel
theorem dX8_set_0 : decode cX8_set 0 = .ok (.aload_n 0, 1) := by decide +kernel
theorem dX8_set_1 : decode cX8_set 1 = .ok (.iload_n 1, 1) := by decide +kernel
theorem dX8_set_2 : decode cX8_set 2 = .ok (.putfield 9, 3) := by decide +kernel
theorem dX8_set_5 : decode cX8_set 5 = .ok (.aload_n 0, 1) := by decide +kernel
theorem dX8_set_6 : decode cX8_set 6 = .ok (.iload_n 2, 1) := by decide +kernel
theorem dX8_set_7 : decode cX8_set 7 = .ok (.putfield 15, 3) := by decide +kernel
theorem dX8_set_10 : decode cX8_set 10 = .ok (.aload_n 0, 1) := by decide +kernel
theorem dX8_set_11 : decode cX8_set 11 = .ok (.iload_n 3, 1) := by decide +kernel
theorem dX8_set_12 : decode cX8_set 12 = .ok (.putfield 18, 3) := by decide +kernel
theorem dX8_set_15 : decode cX8_set 15 = .ok (.aload_n 0, 1) := by decide +kernel
theorem dX8_set_16 : decode cX8_set 16 = .ok (.iload 4, 2) := by decide +kernel
theorem dX8_set_18 : decode cX8_set 18 = .ok (.putfield 21, 3) := by decide +kernel
theorem dX8_set_21 : decode cX8_set 21 = .ok (.aload_n 0, 1) := by decide +kernel
theorem dX8_set_22 : decode cX8_set 22 = .ok (.lload 5, 2) := by decide +kernel
theorem dX8_set_24 : decode cX8_set 24 = .ok (.putfield 24, 3) := by decide +kernel
theorem dX8_set_27 : decode cX8_set 27 = .ok (.return_, 1) := by decide +kernel
theorem dX8_hasThreeNumbers_0 : decode cX8_hasThreeNumbers 0 = .ok (.aload_n 0, 1) := by decide +kernel
theorem dX8_hasThreeNumbers_1 : decode cX8_hasThreeNumbers 1 = .ok (.getfield 9, 3) := by decide +kernel
theorem dX8_hasThreeNumbers_4 : decode cX8_hasThreeNumbers 4 = .ok (.ifCond .eq 19, 3) := by decide +kernel
theorem dX8_hasThreeNumbers_7 : decode cX8_hasThreeNumbers 7 = .ok (.aload_n 0, 1) := by decide +kernel
theorem dX8_hasThreeNumbers_8 : decode cX8_hasThreeNumbers 8 = .ok (.getfield 9, 3) := by decide +kernel
theorem dX8_hasThreeNumbers_11 : decode cX8_hasThreeNumbers 11 = .ok (.iconst 3, 1) := by decide +kernel
theorem dX8_hasThreeNumbers_12 : decode cX8_hasThreeNumbers 12 = .ok (.if_icmp .eq 11, 3) := by decide +kernel
theorem dX8_hasThreeNumbers_15 : decode cX8_hasThreeNumbers 15 = .ok (.aload_n 0, 1) := by decide +kernel
theorem dX8_hasThreeNumbers_16 : decode cX8_hasThreeNumbers 16 = .ok (.getfield 9, 3) := by decide +kernel
theorem dX8_hasThreeNumbers_19 : decode cX8_hasThreeNumbers 19 = .ok (.iconst 4, 1) := by decide +kernel
theorem dX8_hasThreeNumbers_20 : decode cX8_hasThreeNumbers 20 = .ok (.if_icmp .ne 7, 3) := by decide +kernel
theorem dX8_hasThreeNumbers_23 : decode cX8_hasThreeNumbers 23 = .ok (.iconst 1, 1) := by decide +kernel
theorem dX8_hasThreeNumbers_24 : decode cX8_hasThreeNumbers 24 = .ok (.goto 4, 3) := by decide +kernel
theorem dX8_hasThreeNumbers_27 : decode cX8_hasThreeNumbers 27 = .ok (.iconst 0, 1) := by decide +kernel
theorem dX8_hasThreeNumbers_28 : decode cX8_hasThreeNumbers 28 = .ok (.ireturn, 1) := by decide +kernel
theorem dX8_cell_0 : decode cX8_cell 0 = .ok (.aload_n 0, 1) := by decide +kernel
theorem dX8_cell_1 : decode cX8_cell 1 = .ok (.getfield 9, 3) := by decide +kernel
theorem dX8_cell_4 : decode cX8_cell 4 = .ok (.tableswitch 39 0 2 #[28, 28, 36], 28) := by decide +kernel
theorem dX8_cell_32 : decode cX8_cell 32 = .ok (.bipush 48, 2) := by decide +kernel
theorem dX8_cell_34 : decode cX8_cell 34 = .ok (.aload_n 0, 1) := by decide +kernel
theorem dX8_cell_35 : decode cX8_cell 35 = .ok (.getfield 15, 3) := by decide +kernel
theorem dX8_cell_38 : decode cX8_cell 38 = .ok (.iadd, 1) := by decide +kernel
theorem dX8_cell_39 : decode cX8_cell 39 = .ok (.ireturn, 1) := by decide +kernel
theorem dX8_cell_40 : decode cX8_cell 40 = .ok (.bipush 51, 2) := by decide +kernel
theorem dX8_cell_42 : decode cX8_cell 42 = .ok (.ireturn, 1) := by decide +kernel
theorem dX8_cell_43 : decode cX8_cell 43 = .ok (.aload_n 0, 1) := by decide +kernel
theorem dX8_cell_44 : decode cX8_cell 44 = .ok (.getfield 15, 3) := by decide +kernel
theorem dX8_cell_47 : decode cX8_cell 47 = .ok (.aload_n 0, 1) := by decide +kernel
theorem dX8_cell_48 : decode cX8_cell 48 = .ok (.getfield 18, 3) := by decide +kernel
theorem dX8_cell_51 : decode cX8_cell 51 = .ok (.aload_n 0, 1) := by decide +kernel
theorem dX8_cell_52 : decode cX8_cell 52 = .ok (.getfield 21, 3) := by decide +kernel
theorem dX8_cell_55 : decode cX8_cell 55 = .ok (.invokestatic 30, 3) := by decide +kernel
theorem dX8_cell_58 : decode cX8_cell 58 = .ok (.ireturn, 1) := by decide +kernel
theorem dX8_value_0 : decode cX8_value 0 = .ok (.aload_n 0, 1) := by decide +kernel
theorem dX8_value_1 : decode cX8_value 1 = .ok (.getfield 9, 3) := by decide +kernel
theorem dX8_value_4 : decode cX8_value 4 = .ok (.tableswitch 55 0 3 #[32, 55, 44, 50], 32) := by decide +kernel
theorem dX8_value_36 : decode cX8_value 36 = .ok (.aload_n 0, 1) := by decide +kernel
theorem dX8_value_37 : decode cX8_value 37 = .ok (.getfield 18, 3) := by decide +kernel
theorem dX8_value_40 : decode cX8_value 40 = .ok (.aload_n 0, 1) := by decide +kernel
theorem dX8_value_41 : decode cX8_value 41 = .ok (.getfield 21, 3) := by decide +kernel
theorem dX8_value_44 : decode cX8_value 44 = .ok (.invokestatic 34, 3) := by decide +kernel
theorem dX8_value_47 : decode cX8_value 47 = .ok (.lreturn, 1) := by decide +kernel
theorem dX8_value_48 : decode cX8_value 48 = .ok (.aload_n 0, 1) := by decide +kernel
theorem dX8_value_49 : decode cX8_value 49 = .ok (.getfield 15, 3) := by decide +kernel
theorem dX8_value_52 : decode cX8_value 52 = .ok (.i2l, 1) := by decide +kernel
theorem dX8_value_53 : decode cX8_value 53 = .ok (.lreturn, 1) := by decide +kernel
theorem dX8_value_54 : decode cX8_value 54 = .ok (.aload_n 0, 1) := by decide +kernel
theorem dX8_value_55 : decode cX8_value 55 = .ok (.getfield 24, 3) := by decide +kernel
theorem dX8_value_58 : decode cX8_value 58 = .ok (.lreturn, 1) := by decide +kernel
theorem dX8_value_59 : decode cX8_value 59 = .ok (.lconst 0, 1) := by decide +kernel
theorem dX8_value_60 : decode cX8_value 60 = .ok (.lreturn, 1) := by decide +kernel
theorem dX9_init_0 : decode cX9_init 0 = .ok (.aload_n 0, 1) := by decide +kernel
theorem dX9_init_1 : decode cX9_init 1 = .ok (.invokespecial 3, 3) := by decide +kernel
theorem dX9_init_4 : decode cX9_init 4 = .ok (.aload_n 0, 1) := by decide +kernel
theorem dX9_init_5 : decode cX9_init 5 = .ok (.sipush 480, 3) := by decide +kernel
theorem dX9_init_8 : decode cX9_init 8 = .ok (.newarray .char, 2) := by decide +kernel
theorem dX9_init_10 : decode cX9_init 10 = .ok (.putfield 9, 3) := by decide +kernel
theorem dX9_init_13 : decode cX9_init 13 = .ok (.return_, 1) := by decide +kernel
theorem dX9_bytesIn_0 : decode cX9_bytesIn 0 = .ok (.iconst 0, 1) := by decide +kernel
theorem dX9_bytesIn_1 : decode cX9_bytesIn 1 = .ok (.istore_n 1, 1) := by decide +kernel
theorem dX9_bytesIn_2 : decode cX9_bytesIn 2 = .ok (.bipush 24, 2) := by decide +kernel
theorem dX9_bytesIn_4 : decode cX9_bytesIn 4 = .ok (.istore_n 2, 1) := by decide +kernel
theorem dX9_bytesIn_5 : decode cX9_bytesIn 5 = .ok (.iload_n 2, 1) := by decide +kernel
theorem dX9_bytesIn_6 : decode cX9_bytesIn 6 = .ok (.ifCond .lt 22, 3) := by decide +kernel
theorem dX9_bytesIn_9 : decode cX9_bytesIn 9 = .ok (.iload_n 0, 1) := by decide +kernel
theorem dX9_bytesIn_10 : decode cX9_bytesIn 10 = .ok (.iload_n 2, 1) := by decide +kernel
theorem dX9_bytesIn_11 : decode cX9_bytesIn 11 = .ok (.iushr, 1) := by decide +kernel
theorem dX9_bytesIn_12 : decode cX9_bytesIn 12 = .ok (.sipush 255, 3) := by decide +kernel
theorem dX9_bytesIn_15 : decode cX9_bytesIn 15 = .ok (.iand, 1) := by decide +kernel
theorem dX9_bytesIn_16 : decode cX9_bytesIn 16 = .ok (.ifCond .eq 6, 3) := by decide +kernel
theorem dX9_bytesIn_19 : decode cX9_bytesIn 19 = .ok (.iinc 1 1, 3) := by decide +kernel
theorem dX9_bytesIn_22 : decode cX9_bytesIn 22 = .ok (.iinc 2 (-8), 3) := by decide +kernel
theorem dX9_bytesIn_25 : decode cX9_bytesIn 25 = .ok (.goto (-20), 3) := by decide +kernel
theorem dX9_bytesIn_28 : decode cX9_bytesIn 28 = .ok (.iload_n 1, 1) := by decide +kernel
theorem dX9_bytesIn_29 : decode cX9_bytesIn 29 = .ok (.ireturn, 1) := by decide +kernel
theorem dX9_add_0 : decode cX9_add 0 = .ok (.bipush 24, 2) := by decide +kernel
theorem dX9_add_2 : decode cX9_add 2 = .ok (.istore_n 2, 1) := by decide +kernel
theorem dX9_add_3 : decode cX9_add 3 = .ok (.iload_n 2, 1) := by decide +kernel
theorem dX9_add_4 : decode cX9_add 4 = .ok (.ifCond .lt 54, 3) := by decide +kernel
theorem dX9_add_7 : decode cX9_add 7 = .ok (.iload_n 1, 1) := by decide +kernel
theorem dX9_add_8 : decode cX9_add 8 = .ok (.iload_n 2, 1) := by decide +kernel
theorem dX9_add_9 : decode cX9_add 9 = .ok (.iushr, 1) := by decide +kernel
theorem dX9_add_10 : decode cX9_add 10 = .ok (.sipush 255, 3) := by decide +kernel
theorem dX9_add_13 : decode cX9_add 13 = .ok (.iand, 1) := by decide +kernel
theorem dX9_add_14 : decode cX9_add 14 = .ok (.istore_n 3, 1) := by decide +kernel
theorem dX9_add_15 : decode cX9_add 15 = .ok (.iload_n 3, 1) := by decide +kernel
theorem dX9_add_16 : decode cX9_add 16 = .ok (.ifCond .eq 36, 3) := by decide +kernel
theorem dX9_add_19 : decode cX9_add 19 = .ok (.aload_n 0, 1) := by decide +kernel
theorem dX9_add_20 : decode cX9_add 20 = .ok (.getfield 15, 3) := by decide +kernel
theorem dX9_add_23 : decode cX9_add 23 = .ok (.aload_n 0, 1) := by decide +kernel
theorem dX9_add_24 : decode cX9_add 24 = .ok (.getfield 9, 3) := by decide +kernel
theorem dX9_add_27 : decode cX9_add 27 = .ok (.arraylength, 1) := by decide +kernel
theorem dX9_add_28 : decode cX9_add 28 = .ok (.if_icmp .ge 24, 3) := by decide +kernel
theorem dX9_add_31 : decode cX9_add 31 = .ok (.aload_n 0, 1) := by decide +kernel
theorem dX9_add_32 : decode cX9_add 32 = .ok (.getfield 9, 3) := by decide +kernel
theorem dX9_add_35 : decode cX9_add 35 = .ok (.aload_n 0, 1) := by decide +kernel
theorem dX9_add_36 : decode cX9_add 36 = .ok (.getfield 15, 3) := by decide +kernel
theorem dX9_add_39 : decode cX9_add 39 = .ok (.iload_n 3, 1) := by decide +kernel
theorem dX9_add_40 : decode cX9_add 40 = .ok (.i2c, 1) := by decide +kernel
theorem dX9_add_41 : decode cX9_add 41 = .ok (.castore, 1) := by decide +kernel
theorem dX9_add_42 : decode cX9_add 42 = .ok (.aload_n 0, 1) := by decide +kernel
theorem dX9_add_43 : decode cX9_add 43 = .ok (.dup, 1) := by decide +kernel
theorem dX9_add_44 : decode cX9_add 44 = .ok (.getfield 15, 3) := by decide +kernel
theorem dX9_add_47 : decode cX9_add 47 = .ok (.iconst 1, 1) := by decide +kernel
theorem dX9_add_48 : decode cX9_add 48 = .ok (.iadd, 1) := by decide +kernel
theorem dX9_add_49 : decode cX9_add 49 = .ok (.putfield 15, 3) := by decide +kernel
theorem dX9_add_52 : decode cX9_add 52 = .ok (.iinc 2 (-8), 3) := by decide +kernel
theorem dX9_add_55 : decode cX9_add 55 = .ok (.goto (-52), 3) := by decide +kernel
theorem dX9_add_58 : decode cX9_add 58 = .ok (.return_, 1) := by decide +kernel
theorem dJ6_bitCount_0f7a4_0 : decode cJ6_bitCount_0f7a4 0 = .ok (.iload_n 0, 1) := by decide +kernel
theorem dJ6_bitCount_0f7a4_1 : decode cJ6_bitCount_0f7a4 1 = .ok (.iload_n 0, 1) := by decide +kernel
theorem dJ6_bitCount_0f7a4_2 : decode cJ6_bitCount_0f7a4 2 = .ok (.iconst 1, 1) := by decide +kernel
theorem dJ6_bitCount_0f7a4_3 : decode cJ6_bitCount_0f7a4 3 = .ok (.iushr, 1) := by decide +kernel
theorem dJ6_bitCount_0f7a4_4 : decode cJ6_bitCount_0f7a4 4 = .ok (.ldc_w 265, 3) := by decide +kernel
theorem dJ6_bitCount_0f7a4_7 : decode cJ6_bitCount_0f7a4 7 = .ok (.iand, 1) := by decide +kernel
theorem dJ6_bitCount_0f7a4_8 : decode cJ6_bitCount_0f7a4 8 = .ok (.isub, 1) := by decide +kernel
theorem dJ6_bitCount_0f7a4_9 : decode cJ6_bitCount_0f7a4 9 = .ok (.istore_n 0, 1) := by decide +kernel
theorem dJ6_bitCount_0f7a4_10 : decode cJ6_bitCount_0f7a4 10 = .ok (.iload_n 0, 1) := by decide +kernel
theorem dJ6_bitCount_0f7a4_11 : decode cJ6_bitCount_0f7a4 11 = .ok (.ldc_w 266, 3) := by decide +kernel
theorem dJ6_bitCount_0f7a4_14 : decode cJ6_bitCount_0f7a4 14 = .ok (.iand, 1) := by decide +kernel
theorem dJ6_bitCount_0f7a4_15 : decode cJ6_bitCount_0f7a4 15 = .ok (.iload_n 0, 1) := by decide +kernel
theorem dJ6_bitCount_0f7a4_16 : decode cJ6_bitCount_0f7a4 16 = .ok (.iconst 2, 1) := by decide +kernel
theorem dJ6_bitCount_0f7a4_17 : decode cJ6_bitCount_0f7a4 17 = .ok (.iushr, 1) := by decide +kernel
theorem dJ6_bitCount_0f7a4_18 : decode cJ6_bitCount_0f7a4 18 = .ok (.ldc_w 266, 3) := by decide +kernel
theorem dJ6_bitCount_0f7a4_21 : decode cJ6_bitCount_0f7a4 21 = .ok (.iand, 1) := by decide +kernel
theorem dJ6_bitCount_0f7a4_22 : decode cJ6_bitCount_0f7a4 22 = .ok (.iadd, 1) := by decide +kernel
theorem dJ6_bitCount_0f7a4_23 : decode cJ6_bitCount_0f7a4 23 = .ok (.istore_n 0, 1) := by decide +kernel
theorem dJ6_bitCount_0f7a4_24 : decode cJ6_bitCount_0f7a4 24 = .ok (.iload_n 0, 1) := by decide +kernel
theorem dJ6_bitCount_0f7a4_25 : decode cJ6_bitCount_0f7a4 25 = .ok (.iload_n 0, 1) := by decide +kernel
theorem dJ6_bitCount_0f7a4_26 : decode cJ6_bitCount_0f7a4 26 = .ok (.iconst 4, 1) := by decide +kernel
theorem dJ6_bitCount_0f7a4_27 : decode cJ6_bitCount_0f7a4 27 = .ok (.iushr, 1) := by decide +kernel
theorem dJ6_bitCount_0f7a4_28 : decode cJ6_bitCount_0f7a4 28 = .ok (.iadd, 1) := by decide +kernel
theorem dJ6_bitCount_0f7a4_29 : decode cJ6_bitCount_0f7a4 29 = .ok (.ldc_w 267, 3) := by decide +kernel
theorem dJ6_bitCount_0f7a4_32 : decode cJ6_bitCount_0f7a4 32 = .ok (.iand, 1) := by decide +kernel
theorem dJ6_bitCount_0f7a4_33 : decode cJ6_bitCount_0f7a4 33 = .ok (.istore_n 0, 1) := by decide +kernel
theorem dJ6_bitCount_0f7a4_34 : decode cJ6_bitCount_0f7a4 34 = .ok (.iload_n 0, 1) := by decide +kernel
theorem dJ6_bitCount_0f7a4_35 : decode cJ6_bitCount_0f7a4 35 = .ok (.iload_n 0, 1) := by decide +kernel
theorem dJ6_bitCount_0f7a4_36 : decode cJ6_bitCount_0f7a4 36 = .ok (.bipush 8, 2) := by decide +kernel
theorem dJ6_bitCount_0f7a4_38 : decode cJ6_bitCount_0f7a4 38 = .ok (.iushr, 1) := by decide +kernel
theorem dJ6_bitCount_0f7a4_39 : decode cJ6_bitCount_0f7a4 39 = .ok (.iadd, 1) := by decide +kernel
theorem dJ6_bitCount_0f7a4_40 : decode cJ6_bitCount_0f7a4 40 = .ok (.istore_n 0, 1) := by decide +kernel
theorem dJ6_bitCount_0f7a4_41 : decode cJ6_bitCount_0f7a4 41 = .ok (.iload_n 0, 1) := by decide +kernel
theorem dJ6_bitCount_0f7a4_42 : decode cJ6_bitCount_0f7a4 42 = .ok (.iload_n 0, 1) := by decide +kernel
theorem dJ6_bitCount_0f7a4_43 : decode cJ6_bitCount_0f7a4 43 = .ok (.bipush 16, 2) := by decide +kernel
theorem dJ6_bitCount_0f7a4_45 : decode cJ6_bitCount_0f7a4 45 = .ok (.iushr, 1) := by decide +kernel
theorem dJ6_bitCount_0f7a4_46 : decode cJ6_bitCount_0f7a4 46 = .ok (.iadd, 1) := by decide +kernel
theorem dJ6_bitCount_0f7a4_47 : decode cJ6_bitCount_0f7a4 47 = .ok (.istore_n 0, 1) := by decide +kernel
theorem dJ6_bitCount_0f7a4_48 : decode cJ6_bitCount_0f7a4 48 = .ok (.iload_n 0, 1) := by decide +kernel
theorem dJ6_bitCount_0f7a4_49 : decode cJ6_bitCount_0f7a4 49 = .ok (.bipush 63, 2) := by decide +kernel
theorem dJ6_bitCount_0f7a4_51 : decode cJ6_bitCount_0f7a4 51 = .ok (.iand, 1) := by decide +kernel
theorem dJ6_bitCount_0f7a4_52 : decode cJ6_bitCount_0f7a4 52 = .ok (.ireturn, 1) := by decide +kernel
theorem dJ9_min_7cf53_0 : decode cJ9_min_7cf53 0 = .ok (.iload_n 0, 1) := by decide +kernel
theorem dJ9_min_7cf53_1 : decode cJ9_min_7cf53 1 = .ok (.iload_n 1, 1) := by decide +kernel
theorem dJ9_min_7cf53_2 : decode cJ9_min_7cf53 2 = .ok (.if_icmp .gt 7, 3) := by decide +kernel
theorem dJ9_min_7cf53_5 : decode cJ9_min_7cf53 5 = .ok (.iload_n 0, 1) := by decide +kernel
theorem dJ9_min_7cf53_6 : decode cJ9_min_7cf53 6 = .ok (.goto 4, 3) := by decide +kernel
theorem dJ9_min_7cf53_9 : decode cJ9_min_7cf53 9 = .ok (.iload_n 1, 1) := by decide +kernel
theorem dJ9_min_7cf53_10 : decode cJ9_min_7cf53 10 = .ok (.ireturn, 1) := by decide +kernel
