theorem dX12_in_0 : decode cX12_in 0 = .ok (.iload_n 0, 1) := by decide +kernel
theorem dX12_in_1 : decode cX12_in 1 = .ok (.iload_n 1, 1) := by decide +kernel
theorem dX12_in_2 : decode cX12_in 2 = .ok (.if_icmp .lt 12, 3) := by decide +kernel
theorem dX12_in_5 : decode cX12_in 5 = .ok (.iload_n 0, 1) := by decide +kernel
theorem dX12_in_6 : decode cX12_in 6 = .ok (.iload_n 2, 1) := by decide +kernel
theorem dX12_in_7 : decode cX12_in 7 = .ok (.if_icmp .gt 7, 3) := by decide +kernel
theorem dX12_in_10 : decode cX12_in 10 = .ok (.iconst 1, 1) := by decide +kernel
theorem dX12_in_11 : decode cX12_in 11 = .ok (.goto 4, 3) := by decide +kernel
theorem dX12_in_14 : decode cX12_in 14 = .ok (.iconst 0, 1) := by decide +kernel
theorem dX12_in_15 : decode cX12_in 15 = .ok (.ireturn, 1) := by decide +kernel
theorem dX12_has_0 : decode cX12_has 0 = .ok (.iload_n 0, 1) := by decide +kernel
theorem dX12_has_1 : decode cX12_has 1 = .ok (.iload_n 1, 1) := by decide +kernel
theorem dX12_has_2 : decode cX12_has 2 = .ok (.ishr, 1) := by decide +kernel
theorem dX12_has_3 : decode cX12_has 3 = .ok (.iconst 1, 1) := by decide +kernel
theorem dX12_has_4 : decode cX12_has 4 = .ok (.iand, 1) := by decide +kernel
theorem dX12_has_5 : decode cX12_has 5 = .ok (.iconst 1, 1) := by decide +kernel
theorem dX12_has_6 : decode cX12_has 6 = .ok (.if_icmp .ne 7, 3) := by decide +kernel
theorem dX12_has_9 : decode cX12_has 9 = .ok (.iconst 1, 1) := by decide +kernel
theorem dX12_has_10 : decode cX12_has 10 = .ok (.goto 4, 3) := by decide +kernel
theorem dX12_has_13 : decode cX12_has 13 = .ok (.iconst 0, 1) := by decide +kernel
theorem dX12_has_14 : decode cX12_has 14 = .ok (.ireturn, 1) := by decide +kernel
theorem dX12_bits_0 : decode cX12_bits 0 = .ok (.iconst 0, 1) := by decide +kernel
theorem dX12_bits_1 : decode cX12_bits 1 = .ok (.istore_n 1, 1) := by decide +kernel
theorem dX12_bits_2 : decode cX12_bits 2 = .ok (.iconst 0, 1) := by decide +kernel
theorem dX12_bits_3 : decode cX12_bits 3 = .ok (.istore_n 2, 1) := by decide +kernel
theorem dX12_bits_4 : decode cX12_bits 4 = .ok (.iload_n 2, 1) := by decide +kernel
theorem dX12_bits_5 : decode cX12_bits 5 = .ok (.bipush 8, 2) := by decide +kernel
theorem dX12_bits_7 : decode cX12_bits 7 = .ok (.if_icmp .ge 17, 3) := by decide +kernel
theorem dX12_bits_10 : decode cX12_bits 10 = .ok (.iload_n 1, 1) := by decide +kernel
theorem dX12_bits_11 : decode cX12_bits 11 = .ok (.iload_n 0, 1) := by decide +kernel
theorem dX12_bits_12 : decode cX12_bits 12 = .ok (.iload_n 2, 1) := by decide +kernel
theorem dX12_bits_13 : decode cX12_bits 13 = .ok (.ishr, 1) := by decide +kernel
theorem dX12_bits_14 : decode cX12_bits 14 = .ok (.iconst 1, 1) := by decide +kernel
theorem dX12_bits_15 : decode cX12_bits 15 = .ok (.iand, 1) := by decide +kernel
theorem dX12_bits_16 : decode cX12_bits 16 = .ok (.iadd, 1) := by decide +kernel
theorem dX12_bits_17 : decode cX12_bits 17 = .ok (.istore_n 1, 1) := by decide +kernel
theorem dX12_bits_18 : decode cX12_bits 18 = .ok (.iinc 2 1, 3) := by decide +kernel
theorem dX12_bits_21 : decode cX12_bits 21 = .ok (.goto (-17), 3) := by decide +kernel
theorem dX12_bits_24 : decode cX12_bits 24 = .ok (.iload_n 1, 1) := by decide +kernel
theorem dX12_bits_25 : decode cX12_bits 25 = .ok (.ireturn, 1) := by decide +kernel
theorem dX12_init_0 : decode cX12_init 0 = .ok (.aload_n 0, 1) := by decide +kernel
theorem dX12_init_1 : decode cX12_init 1 = .ok (.invokespecial 3, 3) := by decide +kernel
theorem dX12_init_4 : decode cX12_init 4 = .ok (.aload_n 0, 1) := by decide +kernel
theorem dX12_init_5 : decode cX12_init 5 = .ok (.sipush 480, 3) := by decide +kernel
theorem dX12_init_8 : decode cX12_init 8 = .ok (.newarray .int, 2) := by decide +kernel
theorem dX12_init_10 : decode cX12_init 10 = .ok (.putfield 9, 3) := by decide +kernel
theorem dX12_init_13 : decode cX12_init 13 = .ok (.aload_n 0, 1) := by decide +kernel
theorem dX12_init_14 : decode cX12_init 14 = .ok (.bipush 6, 2) := by decide +kernel
theorem dX12_init_16 : decode cX12_init 16 = .ok (.newarray .long, 2) := by decide +kernel
theorem dX12_init_18 : decode cX12_init 18 = .ok (.putfield 13, 3) := by decide +kernel
theorem dX12_init_21 : decode cX12_init 21 = .ok (.aload_n 0, 1) := by decide +kernel
theorem dX12_init_22 : decode cX12_init 22 = .ok (.bipush 6, 2) := by decide +kernel
theorem dX12_init_24 : decode cX12_init 24 = .ok (.newarray .int, 2) := by decide +kernel
theorem dX12_init_26 : decode cX12_init 26 = .ok (.putfield 17, 3) := by decide +kernel
theorem dX12_init_29 : decode cX12_init 29 = .ok (.aload_n 0, 1) := by decide +kernel
theorem dX12_init_30 : decode cX12_init 30 = .ok (.bipush 48, 2) := by decide +kernel
theorem dX12_init_32 : decode cX12_init 32 = .ok (.newarray .long, 2) := by decide +kernel
theorem dX12_init_34 : decode cX12_init 34 = .ok (.putfield 20, 3) := by decide +kernel
theorem dX12_init_37 : decode cX12_init 37 = .ok (.aload_n 0, 1) := by decide +kernel
theorem dX12_init_38 : decode cX12_init 38 = .ok (.bipush 48, 2) := by decide +kernel
theorem dX12_init_40 : decode cX12_init 40 = .ok (.newarray .long, 2) := by decide +kernel
theorem dX12_init_42 : decode cX12_init 42 = .ok (.putfield 23, 3) := by decide +kernel
theorem dX12_init_45 : decode cX12_init 45 = .ok (.aload_n 0, 1) := by decide +kernel
theorem dX12_init_46 : decode cX12_init 46 = .ok (.iconst 4, 1) := by decide +kernel
theorem dX12_init_47 : decode cX12_init 47 = .ok (.newarray .long, 2) := by decide +kernel
theorem dX12_init_49 : decode cX12_init 49 = .ok (.putfield 26, 3) := by decide +kernel
theorem dX12_init_52 : decode cX12_init 52 = .ok (.aload_n 0, 1) := by decide +kernel
theorem dX12_init_53 : decode cX12_init 53 = .ok (.iconst 4, 1) := by decide +kernel
theorem dX12_init_54 : decode cX12_init 54 = .ok (.newarray .int, 2) := by decide +kernel
theorem dX12_init_56 : decode cX12_init 56 = .ok (.putfield 29, 3) := by decide +kernel
theorem dX12_init_59 : decode cX12_init 59 = .ok (.aload_n 0, 1) := by decide +kernel
theorem dX12_init_60 : decode cX12_init 60 = .ok (.bipush 96, 2) := by decide +kernel
theorem dX12_init_62 : decode cX12_init 62 = .ok (.newarray .int, 2) := by decide +kernel
theorem dX12_init_64 : decode cX12_init 64 = .ok (.putfield 32, 3) := by decide +kernel
theorem dX12_init_67 : decode cX12_init 67 = .ok (.aload_n 0, 1) := by decide +kernel
theorem dX12_init_68 : decode cX12_init 68 = .ok (.bipush 32, 2) := by decide +kernel
theorem dX12_init_70 : decode cX12_init 70 = .ok (.newarray .long, 2) := by decide +kernel
theorem dX12_init_72 : decode cX12_init 72 = .ok (.putfield 35, 3) := by decide +kernel
theorem dX12_init_75 : decode cX12_init 75 = .ok (.aload_n 0, 1) := by decide +kernel
theorem dX12_init_76 : decode cX12_init 76 = .ok (.sipush 240, 3) := by decide +kernel
theorem dX12_init_79 : decode cX12_init 79 = .ok (.newarray .int, 2) := by decide +kernel
theorem dX12_init_81 : decode cX12_init 81 = .ok (.putfield 38, 3) := by decide +kernel
theorem dX12_init_84 : decode cX12_init 84 = .ok (.aload_n 0, 1) := by decide +kernel
theorem dX12_init_85 : decode cX12_init 85 = .ok (.bipush 60, 2) := by decide +kernel
theorem dX12_init_87 : decode cX12_init 87 = .ok (.newarray .long, 2) := by decide +kernel
theorem dX12_init_89 : decode cX12_init 89 = .ok (.putfield 41, 3) := by decide +kernel
theorem dX12_init_92 : decode cX12_init 92 = .ok (.aload_n 0, 1) := by decide +kernel
theorem dX12_init_93 : decode cX12_init 93 = .ok (.iconst 5, 1) := by decide +kernel
theorem dX12_init_94 : decode cX12_init 94 = .ok (.newarray .int, 2) := by decide +kernel
theorem dX12_init_96 : decode cX12_init 96 = .ok (.putfield 44, 3) := by decide +kernel
theorem dX12_init_99 : decode cX12_init 99 = .ok (.aload_n 0, 1) := by decide +kernel
theorem dX12_init_100 : decode cX12_init 100 = .ok (.sipush 236, 3) := by decide +kernel
theorem dX12_init_103 : decode cX12_init 103 = .ok (.newarray .long, 2) := by decide +kernel
theorem dX12_init_105 : decode cX12_init 105 = .ok (.putfield 47, 3) := by decide +kernel
theorem dX12_init_108 : decode cX12_init 108 = .ok (.aload_n 0, 1) := by decide +kernel
theorem dX12_init_109 : decode cX12_init 109 = .ok (.iconst 3, 1) := by decide +kernel
theorem dX12_init_110 : decode cX12_init 110 = .ok (.newarray .int, 2) := by decide +kernel
theorem dX12_init_112 : decode cX12_init 112 = .ok (.putfield 50, 3) := by decide +kernel
theorem dX12_init_115 : decode cX12_init 115 = .ok (.aload_n 0, 1) := by decide +kernel
theorem dX12_init_116 : decode cX12_init 116 = .ok (.bipush 6, 2) := by decide +kernel
theorem dX12_init_118 : decode cX12_init 118 = .ok (.newarray .long, 2) := by decide +kernel
theorem dX12_init_120 : decode cX12_init 120 = .ok (.putfield 53, 3) := by decide +kernel
theorem dX12_init_123 : decode cX12_init 123 = .ok (.aload_n 0, 1) := by decide +kernel
theorem dX12_init_124 : decode cX12_init 124 = .ok (.bipush 6, 2) := by decide +kernel
theorem dX12_init_126 : decode cX12_init 126 = .ok (.newarray .int, 2) := by decide +kernel
theorem dX12_init_128 : decode cX12_init 128 = .ok (.putfield 56, 3) := by decide +kernel
theorem dX12_init_131 : decode cX12_init 131 = .ok (.aload_n 0, 1) := by decide +kernel
theorem dX12_init_132 : decode cX12_init 132 = .ok (.bipush 48, 2) := by decide +kernel
theorem dX12_init_134 : decode cX12_init 134 = .ok (.newarray .long, 2) := by decide +kernel
theorem dX12_init_136 : decode cX12_init 136 = .ok (.putfield 59, 3) := by decide +kernel
theorem dX12_init_139 : decode cX12_init 139 = .ok (.aload_n 0, 1) := by decide +kernel
theorem dX12_init_140 : decode cX12_init 140 = .ok (.iconst 4, 1) := by decide +kernel
theorem dX12_init_141 : decode cX12_init 141 = .ok (.newarray .int, 2) := by decide +kernel
theorem dX12_init_143 : decode cX12_init 143 = .ok (.putfield 62, 3) := by decide +kernel
theorem dX12_init_146 : decode cX12_init 146 = .ok (.aload_n 0, 1) := by decide +kernel
theorem dX12_init_147 : decode cX12_init 147 = .ok (.bipush 96, 2) := by decide +kernel
theorem dX12_init_149 : decode cX12_init 149 = .ok (.newarray .int, 2) := by decide +kernel
theorem dX12_init_151 : decode cX12_init 151 = .ok (.putfield 65, 3) := by decide +kernel
theorem dX12_init_154 : decode cX12_init 154 = .ok (.aload_n 0, 1) := by decide +kernel
theorem dX12_init_155 : decode cX12_init 155 = .ok (.bipush 32, 2) := by decide +kernel
theorem dX12_init_157 : decode cX12_init 157 = .ok (.newarray .long, 2) := by decide +kernel
theorem dX12_init_159 : decode cX12_init 159 = .ok (.putfield 68, 3) := by decide +kernel
theorem dX12_init_162 : decode cX12_init 162 = .ok (.aload_n 0, 1) := by decide +kernel
theorem dX12_init_163 : decode cX12_init 163 = .ok (.sipush 200, 3) := by decide +kernel
theorem dX12_init_166 : decode cX12_init 166 = .ok (.newarray .int, 2) := by decide +kernel
theorem dX12_init_168 : decode cX12_init 168 = .ok (.putfield 71, 3) := by decide +kernel
theorem dX12_init_171 : decode cX12_init 171 = .ok (.aload_n 0, 1) := by decide +kernel
theorem dX12_init_172 : decode cX12_init 172 = .ok (.sipush 9440, 3) := by decide +kernel
theorem dX12_init_175 : decode cX12_init 175 = .ok (.newarray .long, 2) := by decide +kernel
theorem dX12_init_177 : decode cX12_init 177 = .ok (.putfield 74, 3) := by decide +kernel
theorem dX12_init_180 : decode cX12_init 180 = .ok (.aload_n 0, 1) := by decide +kernel
theorem dX12_init_181 : decode cX12_init 181 = .ok (.bipush 55, 2) := by decide +kernel
theorem dX12_init_183 : decode cX12_init 183 = .ok (.newarray .long, 2) := by decide +kernel
theorem dX12_init_185 : decode cX12_init 185 = .ok (.putfield 77, 3) := by decide +kernel
theorem dX12_init_188 : decode cX12_init 188 = .ok (.aload_n 0, 1) := by decide +kernel
theorem dX12_init_189 : decode cX12_init 189 = .ok (.iconst 3, 1) := by decide +kernel
theorem dX12_init_190 : decode cX12_init 190 = .ok (.newarray .int, 2) := by decide +kernel
theorem dX12_init_192 : decode cX12_init 192 = .ok (.putfield 80, 3) := by decide +kernel
theorem dX12_init_195 : decode cX12_init 195 = .ok (.aload_n 0, 1) := by decide +kernel
theorem dX12_init_196 : decode cX12_init 196 = .ok (.iconst 3, 1) := by decide +kernel
theorem dX12_init_197 : decode cX12_init 197 = .ok (.newarray .int, 2) := by decide +kernel
theorem dX12_init_199 : decode cX12_init 199 = .ok (.putfield 83, 3) := by decide +kernel
theorem dX12_init_202 : decode cX12_init 202 = .ok (.aload_n 0, 1) := by decide +kernel
theorem dX12_init_203 : decode cX12_init 203 = .ok (.sipush 236, 3) := by decide +kernel
theorem dX12_init_206 : decode cX12_init 206 = .ok (.newarray .long, 2) := by decide +kernel
theorem dX12_init_208 : decode cX12_init 208 = .ok (.putfield 86, 3) := by decide +kernel
theorem dX12_init_211 : decode cX12_init 211 = .ok (.return_, 1) := by decide +kernel
theorem dX12_thrown_0 : decode cX12_thrown 0 = .ok (.aload_n 0, 1) := by decide +kernel
theorem dX12_thrown_1 : decode cX12_thrown 1 = .ok (.getfield 89, 3) := by decide +kernel
theorem dX12_thrown_4 : decode cX12_thrown 4 = .ok (.ireturn, 1) := by decide +kernel
theorem dX12_byteOf_0 : decode cX12_byteOf 0 = .ok (.iload 5, 2) := by decide +kernel
theorem dX12_byteOf_2 : decode cX12_byteOf 2 = .ok (.iconst 4, 1) := by decide +kernel
theorem dX12_byteOf_3 : decode cX12_byteOf 3 = .ok (.if_icmp .ge 7, 3) := by decide +kernel
theorem dX12_byteOf_6 : decode cX12_byteOf 6 = .ok (.iload_n 0, 1) := by decide +kernel
theorem dX12_byteOf_7 : decode cX12_byteOf 7 = .ok (.goto 38, 3) := by decide +kernel
theorem dX12_byteOf_10 : decode cX12_byteOf 10 = .ok (.iload 5, 2) := by decide +kernel
theorem dX12_byteOf_12 : decode cX12_byteOf 12 = .ok (.bipush 8, 2) := by decide +kernel
theorem dX12_byteOf_14 : decode cX12_byteOf 14 = .ok (.if_icmp .ge 7, 3) := by decide +kernel
theorem dX12_byteOf_17 : decode cX12_byteOf 17 = .ok (.iload_n 1, 1) := by decide +kernel
theorem dX12_byteOf_18 : decode cX12_byteOf 18 = .ok (.goto 27, 3) := by decide +kernel
theorem dX12_byteOf_21 : decode cX12_byteOf 21 = .ok (.iload 5, 2) := by decide +kernel
theorem dX12_byteOf_23 : decode cX12_byteOf 23 = .ok (.bipush 12, 2) := by decide +kernel
theorem dX12_byteOf_25 : decode cX12_byteOf 25 = .ok (.if_icmp .ge 7, 3) := by decide +kernel
theorem dX12_byteOf_28 : decode cX12_byteOf 28 = .ok (.iload_n 2, 1) := by decide +kernel
theorem dX12_byteOf_29 : decode cX12_byteOf 29 = .ok (.goto 16, 3) := by decide +kernel
theorem dX12_byteOf_32 : decode cX12_byteOf 32 = .ok (.iload 5, 2) := by decide +kernel
theorem dX12_byteOf_34 : decode cX12_byteOf 34 = .ok (.bipush 16, 2) := by decide +kernel
theorem dX12_byteOf_36 : decode cX12_byteOf 36 = .ok (.if_icmp .ge 7, 3) := by decide +kernel
theorem dX12_byteOf_39 : decode cX12_byteOf 39 = .ok (.iload_n 3, 1) := by decide +kernel
theorem dX12_byteOf_40 : decode cX12_byteOf 40 = .ok (.goto 5, 3) := by decide +kernel
theorem dX12_byteOf_43 : decode cX12_byteOf 43 = .ok (.iload 4, 2) := by decide +kernel
theorem dX12_byteOf_45 : decode cX12_byteOf 45 = .ok (.istore 6, 2) := by decide +kernel
theorem dX12_byteOf_47 : decode cX12_byteOf 47 = .ok (.iload 6, 2) := by decide +kernel
theorem dX12_byteOf_49 : decode cX12_byteOf 49 = .ok (.bipush 24, 2) := by decide +kernel
theorem dX12_byteOf_51 : decode cX12_byteOf 51 = .ok (.bipush 8, 2) := by decide +kernel
theorem dX12_byteOf_53 : decode cX12_byteOf 53 = .ok (.iload 5, 2) := by decide +kernel
theorem dX12_byteOf_55 : decode cX12_byteOf 55 = .ok (.iconst 4, 1) := by decide +kernel
theorem dX12_byteOf_56 : decode cX12_byteOf 56 = .ok (.irem, 1) := by decide +kernel
theorem dX12_byteOf_57 : decode cX12_byteOf 57 = .ok (.imul, 1) := by decide +kernel
theorem dX12_byteOf_58 : decode cX12_byteOf 58 = .ok (.isub, 1) := by decide +kernel
theorem dX12_byteOf_59 : decode cX12_byteOf 59 = .ok (.ishr, 1) := by decide +kernel
theorem dX12_byteOf_60 : decode cX12_byteOf 60 = .ok (.sipush 255, 3) := by decide +kernel
theorem dX12_byteOf_63 : decode cX12_byteOf 63 = .ok (.iand, 1) := by decide +kernel
theorem dX12_byteOf_64 : decode cX12_byteOf 64 = .ok (.ireturn, 1) := by decide +kernel
theorem dX12_feed_0 : decode cX12_feed 0 = .ok (.iconst 0, 1) := by decide +kernel
theorem dX12_feed_1 : decode cX12_feed 1 = .ok (.istore 6, 2) := by decide +kernel
theorem dX12_feed_3 : decode cX12_feed 3 = .ok (.iconst 0, 1) := by decide +kernel
theorem dX12_feed_4 : decode cX12_feed 4 = .ok (.istore 7, 2) := by decide +kernel
theorem dX12_feed_6 : decode cX12_feed 6 = .ok (.iload 7, 2) := by decide +kernel
theorem dX12_feed_8 : decode cX12_feed 8 = .ok (.bipush 20, 2) := by decide +kernel
theorem dX12_feed_10 : decode cX12_feed 10 = .ok (.if_icmp .ge 34, 3) := by decide +kernel
theorem dX12_feed_13 : decode cX12_feed 13 = .ok (.iload 6, 2) := by decide +kernel
theorem dX12_feed_15 : decode cX12_feed 15 = .ok (.iload_n 1, 1) := by decide +kernel
theorem dX12_feed_16 : decode cX12_feed 16 = .ok (.iload_n 2, 1) := by decide +kernel
theorem dX12_feed_17 : decode cX12_feed 17 = .ok (.iload_n 3, 1) := by decide +kernel
theorem dX12_feed_18 : decode cX12_feed 18 = .ok (.iload 4, 2) := by decide +kernel
theorem dX12_feed_20 : decode cX12_feed 20 = .ok (.iload 5, 2) := by decide +kernel
theorem dX12_feed_22 : decode cX12_feed 22 = .ok (.iload 7, 2) := by decide +kernel
theorem dX12_feed_24 : decode cX12_feed 24 = .ok (.invokestatic 93, 3) := by decide +kernel
theorem dX12_feed_27 : decode cX12_feed 27 = .ok (.ifCond .eq 7, 3) := by decide +kernel
theorem dX12_feed_30 : decode cX12_feed 30 = .ok (.iconst 1, 1) := by decide +kernel
theorem dX12_feed_31 : decode cX12_feed 31 = .ok (.goto 4, 3) := by decide +kernel
theorem dX12_feed_34 : decode cX12_feed 34 = .ok (.iconst 0, 1) := by decide +kernel
theorem dX12_feed_35 : decode cX12_feed 35 = .ok (.iadd, 1) := by decide +kernel
theorem dX12_feed_36 : decode cX12_feed 36 = .ok (.istore 6, 2) := by decide +kernel
theorem dX12_feed_38 : decode cX12_feed 38 = .ok (.iinc 7 1, 3) := by decide +kernel
theorem dX12_feed_41 : decode cX12_feed 41 = .ok (.goto (-35), 3) := by decide +kernel
theorem dX12_feed_44 : decode cX12_feed 44 = .ok (.aload_n 0, 1) := by decide +kernel
theorem dX12_feed_45 : decode cX12_feed 45 = .ok (.getfield 97, 3) := by decide +kernel
theorem dX12_feed_48 : decode cX12_feed 48 = .ok (.iload 6, 2) := by decide +kernel
theorem dX12_feed_50 : decode cX12_feed 50 = .ok (.iadd, 1) := by decide +kernel
theorem dX12_feed_51 : decode cX12_feed 51 = .ok (.sipush 480, 3) := by decide +kernel
theorem dX12_feed_54 : decode cX12_feed 54 = .ok (.if_icmp .le 5, 3) := by decide +kernel
theorem dX12_feed_57 : decode cX12_feed 57 = .ok (.iconst (-1), 1) := by decide +kernel
theorem dX12_feed_58 : decode cX12_feed 58 = .ok (.ireturn, 1) := by decide +kernel
theorem dX12_feed_59 : decode cX12_feed 59 = .ok (.iconst 0, 1) := by decide +kernel
theorem dX12_feed_60 : decode cX12_feed 60 = .ok (.istore 7, 2) := by decide +kernel
theorem dX12_feed_62 : decode cX12_feed 62 = .ok (.iload 7, 2) := by decide +kernel
theorem dX12_feed_64 : decode cX12_feed 64 = .ok (.bipush 20, 2) := by decide +kernel
theorem dX12_feed_66 : decode cX12_feed 66 = .ok (.if_icmp .ge 49, 3) := by decide +kernel
theorem dX12_feed_69 : decode cX12_feed 69 = .ok (.iload_n 1, 1) := by decide +kernel
theorem dX12_feed_70 : decode cX12_feed 70 = .ok (.iload_n 2, 1) := by decide +kernel
theorem dX12_feed_71 : decode cX12_feed 71 = .ok (.iload_n 3, 1) := by decide +kernel
theorem dX12_feed_72 : decode cX12_feed 72 = .ok (.iload 4, 2) := by decide +kernel
theorem dX12_feed_74 : decode cX12_feed 74 = .ok (.iload 5, 2) := by decide +kernel
theorem dX12_feed_76 : decode cX12_feed 76 = .ok (.iload 7, 2) := by decide +kernel
theorem dX12_feed_78 : decode cX12_feed 78 = .ok (.invokestatic 93, 3) := by decide +kernel
theorem dX12_feed_81 : decode cX12_feed 81 = .ok (.istore 8, 2) := by decide +kernel
theorem dX12_feed_83 : decode cX12_feed 83 = .ok (.iload 8, 2) := by decide +kernel
theorem dX12_feed_85 : decode cX12_feed 85 = .ok (.ifCond .eq 24, 3) := by decide +kernel
theorem dX12_feed_88 : decode cX12_feed 88 = .ok (.aload_n 0, 1) := by decide +kernel
theorem dX12_feed_89 : decode cX12_feed 89 = .ok (.getfield 9, 3) := by decide +kernel
theorem dX12_feed_92 : decode cX12_feed 92 = .ok (.aload_n 0, 1) := by decide +kernel
theorem dX12_feed_93 : decode cX12_feed 93 = .ok (.getfield 97, 3) := by decide +kernel
theorem dX12_feed_96 : decode cX12_feed 96 = .ok (.iload 8, 2) := by decide +kernel
theorem dX12_feed_98 : decode cX12_feed 98 = .ok (.iastore, 1) := by decide +kernel
theorem dX12_feed_99 : decode cX12_feed 99 = .ok (.aload_n 0, 1) := by decide +kernel
theorem dX12_feed_100 : decode cX12_feed 100 = .ok (.dup, 1) := by decide +kernel
theorem dX12_feed_101 : decode cX12_feed 101 = .ok (.getfield 97, 3) := by decide +kernel
theorem dX12_feed_104 : decode cX12_feed 104 = .ok (.iconst 1, 1) := by decide +kernel
theorem dX12_feed_105 : decode cX12_feed 105 = .ok (.iadd, 1) := by decide +kernel
theorem dX12_feed_106 : decode cX12_feed 106 = .ok (.putfield 97, 3) := by decide +kernel
theorem dX12_feed_109 : decode cX12_feed 109 = .ok (.iinc 7 1, 3) := by decide +kernel
theorem dX12_feed_112 : decode cX12_feed 112 = .ok (.goto (-50), 3) := by decide +kernel
theorem dX12_feed_115 : decode cX12_feed 115 = .ok (.aload_n 0, 1) := by decide +kernel
theorem dX12_feed_116 : decode cX12_feed 116 = .ok (.getfield 97, 3) := by decide +kernel
theorem dX12_feed_119 : decode cX12_feed 119 = .ok (.ireturn, 1) := by decide +kernel
theorem dX12_end_0 : decode cX12_end 0 = .ok (.iload_n 1, 1) := by decide +kernel
theorem dX12_end_1 : decode cX12_end 1 = .ok (.iconst 0, 1) := by decide +kernel
theorem dX12_end_2 : decode cX12_end 2 = .ok (.aload_n 0, 1) := by decide +kernel
theorem dX12_end_3 : decode cX12_end 3 = .ok (.getfield 97, 3) := by decide +kernel
theorem dX12_end_6 : decode cX12_end 6 = .ok (.invokestatic 100, 3) := by decide +kernel
theorem dX12_end_9 : decode cX12_end 9 = .ok (.ifCond .ne 5, 3) := by decide +kernel
theorem dX12_end_12 : decode cX12_end 12 = .ok (.iconst 0, 1) := by decide +kernel
theorem dX12_end_13 : decode cX12_end 13 = .ok (.ireturn, 1) := by decide +kernel
theorem dX12_end_14 : decode cX12_end 14 = .ok (.aload_n 0, 1) := by decide +kernel
theorem dX12_end_15 : decode cX12_end 15 = .ok (.iload_n 1, 1) := by decide +kernel
theorem dX12_end_16 : decode cX12_end 16 = .ok (.putfield 97, 3) := by decide +kernel
theorem dX12_end_19 : decode cX12_end 19 = .ok (.iconst 1, 1) := by decide +kernel
theorem dX12_end_20 : decode cX12_end 20 = .ok (.ireturn, 1) := by decide +kernel
theorem dX12_here_0 : decode cX12_here 0 = .ok (.aload_n 0, 1) := by decide +kernel
theorem dX12_here_1 : decode cX12_here 1 = .ok (.getfield 104, 3) := by decide +kernel
theorem dX12_here_4 : decode cX12_here 4 = .ok (.aload_n 0, 1) := by decide +kernel
theorem dX12_here_5 : decode cX12_here 5 = .ok (.getfield 97, 3) := by decide +kernel
theorem dX12_here_8 : decode cX12_here 8 = .ok (.if_icmp .ge 15, 3) := by decide +kernel
theorem dX12_here_11 : decode cX12_here 11 = .ok (.aload_n 0, 1) := by decide +kernel
theorem dX12_here_12 : decode cX12_here 12 = .ok (.getfield 9, 3) := by decide +kernel
theorem dX12_here_15 : decode cX12_here 15 = .ok (.aload_n 0, 1) := by decide +kernel
theorem dX12_here_16 : decode cX12_here 16 = .ok (.getfield 104, 3) := by decide +kernel
theorem dX12_here_19 : decode cX12_here 19 = .ok (.iaload, 1) := by decide +kernel
theorem dX12_here_20 : decode cX12_here 20 = .ok (.goto 4, 3) := by decide +kernel
theorem dX12_here_23 : decode cX12_here 23 = .ok (.iconst (-1), 1) := by decide +kernel
theorem dX12_here_24 : decode cX12_here 24 = .ok (.ireturn, 1) := by decide +kernel
theorem dX12_isDigit_0 : decode cX12_isDigit 0 = .ok (.iload_n 0, 1) := by decide +kernel
theorem dX12_isDigit_1 : decode cX12_isDigit 1 = .ok (.bipush 48, 2) := by decide +kernel
theorem dX12_isDigit_3 : decode cX12_isDigit 3 = .ok (.if_icmp .lt 13, 3) := by decide +kernel
theorem dX12_isDigit_6 : decode cX12_isDigit 6 = .ok (.iload_n 0, 1) := by decide +kernel
theorem dX12_isDigit_7 : decode cX12_isDigit 7 = .ok (.bipush 57, 2) := by decide +kernel
theorem dX12_isDigit_9 : decode cX12_isDigit 9 = .ok (.if_icmp .gt 7, 3) := by decide +kernel
theorem dX12_isDigit_12 : decode cX12_isDigit 12 = .ok (.iconst 1, 1) := by decide +kernel
theorem dX12_isDigit_13 : decode cX12_isDigit 13 = .ok (.goto 4, 3) := by decide +kernel
theorem dX12_isDigit_16 : decode cX12_isDigit 16 = .ok (.iconst 0, 1) := by decide +kernel
theorem dX12_isDigit_17 : decode cX12_isDigit 17 = .ok (.ireturn, 1) := by decide +kernel
theorem dX12_isLetter_0 : decode cX12_isLetter 0 = .ok (.iload_n 0, 1) := by decide +kernel
theorem dX12_isLetter_1 : decode cX12_isLetter 1 = .ok (.bipush 97, 2) := by decide +kernel
theorem dX12_isLetter_3 : decode cX12_isLetter 3 = .ok (.if_icmp .lt 13, 3) := by decide +kernel
theorem dX12_isLetter_6 : decode cX12_isLetter 6 = .ok (.iload_n 0, 1) := by decide +kernel
theorem dX12_isLetter_7 : decode cX12_isLetter 7 = .ok (.bipush 122, 2) := by decide +kernel
theorem dX12_isLetter_9 : decode cX12_isLetter 9 = .ok (.if_icmp .gt 7, 3) := by decide +kernel
theorem dX12_isLetter_12 : decode cX12_isLetter 12 = .ok (.iconst 1, 1) := by decide +kernel
theorem dX12_isLetter_13 : decode cX12_isLetter 13 = .ok (.goto 4, 3) := by decide +kernel
theorem dX12_isLetter_16 : decode cX12_isLetter 16 = .ok (.iconst 0, 1) := by decide +kernel
theorem dX12_isLetter_17 : decode cX12_isLetter 17 = .ok (.ireturn, 1) := by decide +kernel
theorem dX12_readWord_0 : decode cX12_readWord 0 = .ok (.aload_n 0, 1) := by decide +kernel
theorem dX12_readWord_1 : decode cX12_readWord 1 = .ok (.lconst 0, 1) := by decide +kernel
theorem dX12_readWord_2 : decode cX12_readWord 2 = .ok (.putfield 107, 3) := by decide +kernel
theorem dX12_readWord_5 : decode cX12_readWord 5 = .ok (.aload_n 0, 1) := by decide +kernel
theorem dX12_readWord_6 : decode cX12_readWord 6 = .ok (.iconst 0, 1) := by decide +kernel
theorem dX12_readWord_7 : decode cX12_readWord 7 = .ok (.putfield 111, 3) := by decide +kernel
theorem dX12_readWord_10 : decode cX12_readWord 10 = .ok (.aload_n 0, 1) := by decide +kernel
theorem dX12_readWord_11 : decode cX12_readWord 11 = .ok (.invokevirtual 114, 3) := by decide +kernel
theorem dX12_readWord_14 : decode cX12_readWord 14 = .ok (.invokestatic 118, 3) := by decide +kernel
theorem dX12_readWord_17 : decode cX12_readWord 17 = .ok (.ifCond .eq 63, 3) := by decide +kernel
theorem dX12_readWord_20 : decode cX12_readWord 20 = .ok (.aload_n 0, 1) := by decide +kernel
theorem dX12_readWord_21 : decode cX12_readWord 21 = .ok (.aload_n 0, 1) := by decide +kernel
theorem dX12_readWord_22 : decode cX12_readWord 22 = .ok (.getfield 111, 3) := by decide +kernel
theorem dX12_readWord_25 : decode cX12_readWord 25 = .ok (.bipush 8, 2) := by decide +kernel
theorem dX12_readWord_27 : decode cX12_readWord 27 = .ok (.if_icmp .ge 26, 3) := by decide +kernel
theorem dX12_readWord_30 : decode cX12_readWord 30 = .ok (.ldc2_w 122, 3) := by decide +kernel
theorem dX12_readWord_33 : decode cX12_readWord 33 = .ok (.aload_n 0, 1) := by decide +kernel
theorem dX12_readWord_34 : decode cX12_readWord 34 = .ok (.getfield 107, 3) := by decide +kernel
theorem dX12_readWord_37 : decode cX12_readWord 37 = .ok (.lmul, 1) := by decide +kernel
theorem dX12_readWord_38 : decode cX12_readWord 38 = .ok (.aload_n 0, 1) := by decide +kernel
theorem dX12_readWord_39 : decode cX12_readWord 39 = .ok (.invokevirtual 114, 3) := by decide +kernel
theorem dX12_readWord_42 : decode cX12_readWord 42 = .ok (.i2l, 1) := by decide +kernel
theorem dX12_readWord_43 : decode cX12_readWord 43 = .ok (.ladd, 1) := by decide +kernel
theorem dX12_readWord_44 : decode cX12_readWord 44 = .ok (.ldc2_w 124, 3) := by decide +kernel
theorem dX12_readWord_47 : decode cX12_readWord 47 = .ok (.lsub, 1) := by decide +kernel
theorem dX12_readWord_48 : decode cX12_readWord 48 = .ok (.lconst 1, 1) := by decide +kernel
theorem dX12_readWord_49 : decode cX12_readWord 49 = .ok (.ladd, 1) := by decide +kernel
theorem dX12_readWord_50 : decode cX12_readWord 50 = .ok (.goto 4, 3) := by decide +kernel
theorem dX12_readWord_53 : decode cX12_readWord 53 = .ok (.lconst 0, 1) := by decide +kernel
theorem dX12_readWord_54 : decode cX12_readWord 54 = .ok (.putfield 107, 3) := by decide +kernel
theorem dX12_readWord_57 : decode cX12_readWord 57 = .ok (.aload_n 0, 1) := by decide +kernel
theorem dX12_readWord_58 : decode cX12_readWord 58 = .ok (.dup, 1) := by decide +kernel
theorem dX12_readWord_59 : decode cX12_readWord 59 = .ok (.getfield 111, 3) := by decide +kernel
theorem dX12_readWord_62 : decode cX12_readWord 62 = .ok (.iconst 1, 1) := by decide +kernel
theorem dX12_readWord_63 : decode cX12_readWord 63 = .ok (.iadd, 1) := by decide +kernel
theorem dX12_readWord_64 : decode cX12_readWord 64 = .ok (.putfield 111, 3) := by decide +kernel
theorem dX12_readWord_67 : decode cX12_readWord 67 = .ok (.aload_n 0, 1) := by decide +kernel
theorem dX12_readWord_68 : decode cX12_readWord 68 = .ok (.dup, 1) := by decide +kernel
theorem dX12_readWord_69 : decode cX12_readWord 69 = .ok (.getfield 104, 3) := by decide +kernel
theorem dX12_readWord_72 : decode cX12_readWord 72 = .ok (.iconst 1, 1) := by decide +kernel
theorem dX12_readWord_73 : decode cX12_readWord 73 = .ok (.iadd, 1) := by decide +kernel
theorem dX12_readWord_74 : decode cX12_readWord 74 = .ok (.putfield 104, 3) := by decide +kernel
theorem dX12_readWord_77 : decode cX12_readWord 77 = .ok (.goto (-67), 3) := by decide +kernel
theorem dX12_readWord_80 : decode cX12_readWord 80 = .ok (.aload_n 0, 1) := by decide +kernel
theorem dX12_readWord_81 : decode cX12_readWord 81 = .ok (.iconst 1, 1) := by decide +kernel
theorem dX12_readWord_82 : decode cX12_readWord 82 = .ok (.putfield 126, 3) := by decide +kernel
theorem dX12_readWord_85 : decode cX12_readWord 85 = .ok (.return_, 1) := by decide +kernel
theorem dX12_readNumber_0 : decode cX12_readNumber 0 = .ok (.aload_n 0, 1) := by decide +kernel
theorem dX12_readNumber_1 : decode cX12_readNumber 1 = .ok (.iconst 0, 1) := by decide +kernel
theorem dX12_readNumber_2 : decode cX12_readNumber 2 = .ok (.putfield 129, 3) := by decide +kernel
theorem dX12_readNumber_5 : decode cX12_readNumber 5 = .ok (.aload_n 0, 1) := by decide +kernel
theorem dX12_readNumber_6 : decode cX12_readNumber 6 = .ok (.iconst 0, 1) := by decide +kernel
theorem dX12_readNumber_7 : decode cX12_readNumber 7 = .ok (.putfield 132, 3) := by decide +kernel
theorem dX12_readNumber_10 : decode cX12_readNumber 10 = .ok (.aload_n 0, 1) := by decide +kernel
theorem dX12_readNumber_11 : decode cX12_readNumber 11 = .ok (.invokevirtual 114, 3) := by decide +kernel
theorem dX12_readNumber_14 : decode cX12_readNumber 14 = .ok (.invokestatic 135, 3) := by decide +kernel
theorem dX12_readNumber_17 : decode cX12_readNumber 17 = .ok (.ifCond .eq 57, 3) := by decide +kernel
theorem dX12_readNumber_20 : decode cX12_readNumber 20 = .ok (.aload_n 0, 1) := by decide +kernel
theorem dX12_readNumber_21 : decode cX12_readNumber 21 = .ok (.aload_n 0, 1) := by decide +kernel
theorem dX12_readNumber_22 : decode cX12_readNumber 22 = .ok (.getfield 132, 3) := by decide +kernel
theorem dX12_readNumber_25 : decode cX12_readNumber 25 = .ok (.iconst 2, 1) := by decide +kernel
theorem dX12_readNumber_26 : decode cX12_readNumber 26 = .ok (.if_icmp .ge 21, 3) := by decide +kernel
theorem dX12_readNumber_29 : decode cX12_readNumber 29 = .ok (.bipush 10, 2) := by decide +kernel
theorem dX12_readNumber_31 : decode cX12_readNumber 31 = .ok (.aload_n 0, 1) := by decide +kernel
theorem dX12_readNumber_32 : decode cX12_readNumber 32 = .ok (.getfield 129, 3) := by decide +kernel
theorem dX12_readNumber_35 : decode cX12_readNumber 35 = .ok (.imul, 1) := by decide +kernel
theorem dX12_readNumber_36 : decode cX12_readNumber 36 = .ok (.aload_n 0, 1) := by decide +kernel
theorem dX12_readNumber_37 : decode cX12_readNumber 37 = .ok (.invokevirtual 114, 3) := by decide +kernel
theorem dX12_readNumber_40 : decode cX12_readNumber 40 = .ok (.iadd, 1) := by decide +kernel
theorem dX12_readNumber_41 : decode cX12_readNumber 41 = .ok (.bipush 48, 2) := by decide +kernel
theorem dX12_readNumber_43 : decode cX12_readNumber 43 = .ok (.isub, 1) := by decide +kernel
theorem dX12_readNumber_44 : decode cX12_readNumber 44 = .ok (.goto 4, 3) := by decide +kernel
theorem dX12_readNumber_47 : decode cX12_readNumber 47 = .ok (.iconst 0, 1) := by decide +kernel
theorem dX12_readNumber_48 : decode cX12_readNumber 48 = .ok (.putfield 129, 3) := by decide +kernel
theorem dX12_readNumber_51 : decode cX12_readNumber 51 = .ok (.aload_n 0, 1) := by decide +kernel
theorem dX12_readNumber_52 : decode cX12_readNumber 52 = .ok (.dup, 1) := by decide +kernel
theorem dX12_readNumber_53 : decode cX12_readNumber 53 = .ok (.getfield 132, 3) := by decide +kernel
theorem dX12_readNumber_56 : decode cX12_readNumber 56 = .ok (.iconst 1, 1) := by decide +kernel
theorem dX12_readNumber_57 : decode cX12_readNumber 57 = .ok (.iadd, 1) := by decide +kernel
theorem dX12_readNumber_58 : decode cX12_readNumber 58 = .ok (.putfield 132, 3) := by decide +kernel
theorem dX12_readNumber_61 : decode cX12_readNumber 61 = .ok (.aload_n 0, 1) := by decide +kernel
theorem dX12_readNumber_62 : decode cX12_readNumber 62 = .ok (.dup, 1) := by decide +kernel
theorem dX12_readNumber_63 : decode cX12_readNumber 63 = .ok (.getfield 104, 3) := by decide +kernel
theorem dX12_readNumber_66 : decode cX12_readNumber 66 = .ok (.iconst 1, 1) := by decide +kernel
theorem dX12_readNumber_67 : decode cX12_readNumber 67 = .ok (.iadd, 1) := by decide +kernel
theorem dX12_readNumber_68 : decode cX12_readNumber 68 = .ok (.putfield 104, 3) := by decide +kernel
theorem dX12_readNumber_71 : decode cX12_readNumber 71 = .ok (.goto (-61), 3) := by decide +kernel
theorem dX12_readNumber_74 : decode cX12_readNumber 74 = .ok (.aload_n 0, 1) := by decide +kernel
theorem dX12_readNumber_75 : decode cX12_readNumber 75 = .ok (.iconst 2, 1) := by decide +kernel
theorem dX12_readNumber_76 : decode cX12_readNumber 76 = .ok (.putfield 126, 3) := by decide +kernel
theorem dX12_readNumber_79 : decode cX12_readNumber 79 = .ok (.return_, 1) := by decide +kernel
theorem dX12_next_0 : decode cX12_next 0 = .ok (.aload_n 0, 1) := by decide +kernel
theorem dX12_next_1 : decode cX12_next 1 = .ok (.invokevirtual 114, 3) := by decide +kernel
theorem dX12_next_4 : decode cX12_next 4 = .ok (.bipush 32, 2) := by decide +kernel
theorem dX12_next_6 : decode cX12_next 6 = .ok (.if_icmp .ne 16, 3) := by decide +kernel
theorem dX12_next_9 : decode cX12_next 9 = .ok (.aload_n 0, 1) := by decide +kernel
theorem dX12_next_10 : decode cX12_next 10 = .ok (.dup, 1) := by decide +kernel
theorem dX12_next_11 : decode cX12_next 11 = .ok (.getfield 104, 3) := by decide +kernel
theorem dX12_next_14 : decode cX12_next 14 = .ok (.iconst 1, 1) := by decide +kernel
theorem dX12_next_15 : decode cX12_next 15 = .ok (.iadd, 1) := by decide +kernel
theorem dX12_next_16 : decode cX12_next 16 = .ok (.putfield 104, 3) := by decide +kernel
theorem dX12_next_19 : decode cX12_next 19 = .ok (.goto (-19), 3) := by decide +kernel
theorem dX12_next_22 : decode cX12_next 22 = .ok (.aload_n 0, 1) := by decide +kernel
theorem dX12_next_23 : decode cX12_next 23 = .ok (.aload_n 0, 1) := by decide +kernel
theorem dX12_next_24 : decode cX12_next 24 = .ok (.getfield 104, 3) := by decide +kernel
theorem dX12_next_27 : decode cX12_next 27 = .ok (.putfield 138, 3) := by decide +kernel
theorem dX12_next_30 : decode cX12_next 30 = .ok (.aload_n 0, 1) := by decide +kernel
theorem dX12_next_31 : decode cX12_next 31 = .ok (.invokevirtual 114, 3) := by decide +kernel
theorem dX12_next_34 : decode cX12_next 34 = .ok (.istore_n 1, 1) := by decide +kernel
theorem dX12_next_35 : decode cX12_next 35 = .ok (.iload_n 1, 1) := by decide +kernel
theorem dX12_next_36 : decode cX12_next 36 = .ok (.iconst (-1), 1) := by decide +kernel
theorem dX12_next_37 : decode cX12_next 37 = .ok (.if_icmp .ne 11, 3) := by decide +kernel
theorem dX12_next_40 : decode cX12_next 40 = .ok (.aload_n 0, 1) := by decide +kernel
theorem dX12_next_41 : decode cX12_next 41 = .ok (.iconst 0, 1) := by decide +kernel
theorem dX12_next_42 : decode cX12_next 42 = .ok (.putfield 126, 3) := by decide +kernel
theorem dX12_next_45 : decode cX12_next 45 = .ok (.goto 51, 3) := by decide +kernel
theorem dX12_next_48 : decode cX12_next 48 = .ok (.iload_n 1, 1) := by decide +kernel
theorem dX12_next_49 : decode cX12_next 49 = .ok (.invokestatic 118, 3) := by decide +kernel
theorem dX12_next_52 : decode cX12_next 52 = .ok (.ifCond .eq 10, 3) := by decide +kernel
theorem dX12_next_55 : decode cX12_next 55 = .ok (.aload_n 0, 1) := by decide +kernel
theorem dX12_next_56 : decode cX12_next 56 = .ok (.invokevirtual 141, 3) := by decide +kernel
theorem dX12_next_59 : decode cX12_next 59 = .ok (.goto 37, 3) := by decide +kernel
theorem dX12_next_62 : decode cX12_next 62 = .ok (.iload_n 1, 1) := by decide +kernel
theorem dX12_next_63 : decode cX12_next 63 = .ok (.invokestatic 135, 3) := by decide +kernel
theorem dX12_next_66 : decode cX12_next 66 = .ok (.ifCond .eq 10, 3) := by decide +kernel
theorem dX12_next_69 : decode cX12_next 69 = .ok (.aload_n 0, 1) := by decide +kernel
theorem dX12_next_70 : decode cX12_next 70 = .ok (.invokevirtual 144, 3) := by decide +kernel
theorem dX12_next_73 : decode cX12_next 73 = .ok (.goto 23, 3) := by decide +kernel
theorem dX12_next_76 : decode cX12_next 76 = .ok (.aload_n 0, 1) := by decide +kernel
theorem dX12_next_77 : decode cX12_next 77 = .ok (.dup, 1) := by decide +kernel
theorem dX12_next_78 : decode cX12_next 78 = .ok (.getfield 104, 3) := by decide +kernel
theorem dX12_next_81 : decode cX12_next 81 = .ok (.iconst 1, 1) := by decide +kernel
theorem dX12_next_82 : decode cX12_next 82 = .ok (.iadd, 1) := by decide +kernel
theorem dX12_next_83 : decode cX12_next 83 = .ok (.putfield 104, 3) := by decide +kernel
theorem dX12_next_86 : decode cX12_next 86 = .ok (.aload_n 0, 1) := by decide +kernel
theorem dX12_next_87 : decode cX12_next 87 = .ok (.iconst 3, 1) := by decide +kernel
theorem dX12_next_88 : decode cX12_next 88 = .ok (.putfield 126, 3) := by decide +kernel
theorem dX12_next_91 : decode cX12_next 91 = .ok (.aload_n 0, 1) := by decide +kernel
theorem dX12_next_92 : decode cX12_next 92 = .ok (.iload_n 1, 1) := by decide +kernel
theorem dX12_next_93 : decode cX12_next 93 = .ok (.putfield 147, 3) := by decide +kernel
theorem dX12_next_96 : decode cX12_next 96 = .ok (.return_, 1) := by decide +kernel
theorem dX12_badAt_0 : decode cX12_badAt 0 = .ok (.aload_n 0, 1) := by decide +kernel
theorem dX12_badAt_1 : decode cX12_badAt 1 = .ok (.aload_n 0, 1) := by decide +kernel
theorem dX12_badAt_2 : decode cX12_badAt 2 = .ok (.getfield 150, 3) := by decide +kernel
theorem dX12_badAt_5 : decode cX12_badAt 5 = .ok (.iconst (-1), 1) := by decide +kernel
theorem dX12_badAt_6 : decode cX12_badAt 6 = .ok (.if_icmp .ne 7, 3) := by decide +kernel
theorem dX12_badAt_9 : decode cX12_badAt 9 = .ok (.iload_n 1, 1) := by decide +kernel
theorem dX12_badAt_10 : decode cX12_badAt 10 = .ok (.goto 7, 3) := by decide +kernel
theorem dX12_badAt_13 : decode cX12_badAt 13 = .ok (.aload_n 0, 1) := by decide +kernel
theorem dX12_badAt_14 : decode cX12_badAt 14 = .ok (.getfield 150, 3) := by decide +kernel
theorem dX12_badAt_17 : decode cX12_badAt 17 = .ok (.putfield 150, 3) := by decide +kernel
theorem dX12_badAt_20 : decode cX12_badAt 20 = .ok (.return_, 1) := by decide +kernel
theorem dX12_bad_0 : decode cX12_bad 0 = .ok (.aload_n 0, 1) := by decide +kernel
theorem dX12_bad_1 : decode cX12_bad 1 = .ok (.aload_n 0, 1) := by decide +kernel
theorem dX12_bad_2 : decode cX12_bad 2 = .ok (.getfield 138, 3) := by decide +kernel
theorem dX12_bad_5 : decode cX12_bad 5 = .ok (.invokevirtual 153, 3) := by decide +kernel
theorem dX12_bad_8 : decode cX12_bad 8 = .ok (.return_, 1) := by decide +kernel
theorem dX12_isSign_0 : decode cX12_isSign 0 = .ok (.aload_n 0, 1) := by decide +kernel
theorem dX12_isSign_1 : decode cX12_isSign 1 = .ok (.getfield 150, 3) := by decide +kernel
theorem dX12_isSign_4 : decode cX12_isSign 4 = .ok (.iconst (-1), 1) := by decide +kernel
theorem dX12_isSign_5 : decode cX12_isSign 5 = .ok (.if_icmp .ne 23, 3) := by decide +kernel
theorem dX12_isSign_8 : decode cX12_isSign 8 = .ok (.aload_n 0, 1) := by decide +kernel
theorem dX12_isSign_9 : decode cX12_isSign 9 = .ok (.getfield 126, 3) := by decide +kernel
theorem dX12_isSign_12 : decode cX12_isSign 12 = .ok (.iconst 3, 1) := by decide +kernel
theorem dX12_isSign_13 : decode cX12_isSign 13 = .ok (.if_icmp .ne 15, 3) := by decide +kernel
theorem dX12_isSign_16 : decode cX12_isSign 16 = .ok (.aload_n 0, 1) := by decide +kernel
theorem dX12_isSign_17 : decode cX12_isSign 17 = .ok (.getfield 147, 3) := by decide +kernel
theorem dX12_isSign_20 : decode cX12_isSign 20 = .ok (.iload_n 1, 1) := by decide +kernel
theorem dX12_isSign_21 : decode cX12_isSign 21 = .ok (.if_icmp .ne 7, 3) := by decide +kernel
theorem dX12_isSign_24 : decode cX12_isSign 24 = .ok (.iconst 1, 1) := by decide +kernel
theorem dX12_isSign_25 : decode cX12_isSign 25 = .ok (.goto 4, 3) := by decide +kernel
theorem dX12_isSign_28 : decode cX12_isSign 28 = .ok (.iconst 0, 1) := by decide +kernel
theorem dX12_isSign_29 : decode cX12_isSign 29 = .ok (.ireturn, 1) := by decide +kernel
theorem dX12_takesSign_0 : decode cX12_takesSign 0 = .ok (.aload_n 0, 1) := by decide +kernel
theorem dX12_takesSign_1 : decode cX12_takesSign 1 = .ok (.iload_n 1, 1) := by decide +kernel
theorem dX12_takesSign_2 : decode cX12_takesSign 2 = .ok (.invokevirtual 157, 3) := by decide +kernel
theorem dX12_takesSign_5 : decode cX12_takesSign 5 = .ok (.istore_n 2, 1) := by decide +kernel
theorem dX12_takesSign_6 : decode cX12_takesSign 6 = .ok (.iload_n 2, 1) := by decide +kernel
theorem dX12_takesSign_7 : decode cX12_takesSign 7 = .ok (.ifCond .eq 7, 3) := by decide +kernel
theorem dX12_takesSign_10 : decode cX12_takesSign 10 = .ok (.aload_n 0, 1) := by decide +kernel
theorem dX12_takesSign_11 : decode cX12_takesSign 11 = .ok (.invokevirtual 160, 3) := by decide +kernel
theorem dX12_takesSign_14 : decode cX12_takesSign 14 = .ok (.iload_n 2, 1) := by decide +kernel
theorem dX12_takesSign_15 : decode cX12_takesSign 15 = .ok (.ireturn, 1) := by decide +kernel
theorem dX12_isGood_0 : decode cX12_isGood 0 = .ok (.aload_n 0, 1) := by decide +kernel
theorem dX12_isGood_1 : decode cX12_isGood 1 = .ok (.getfield 126, 3) := by decide +kernel
theorem dX12_isGood_4 : decode cX12_isGood 4 = .ok (.iconst 1, 1) := by decide +kernel
theorem dX12_isGood_5 : decode cX12_isGood 5 = .ok (.if_icmp .ne 16, 3) := by decide +kernel
theorem dX12_isGood_8 : decode cX12_isGood 8 = .ok (.aload_n 0, 1) := by decide +kernel
theorem dX12_isGood_9 : decode cX12_isGood 9 = .ok (.getfield 111, 3) := by decide +kernel
theorem dX12_isGood_12 : decode cX12_isGood 12 = .ok (.bipush 8, 2) := by decide +kernel
theorem dX12_isGood_14 : decode cX12_isGood 14 = .ok (.if_icmp .gt 7, 3) := by decide +kernel
theorem dX12_isGood_17 : decode cX12_isGood 17 = .ok (.iconst 1, 1) := by decide +kernel
theorem dX12_isGood_18 : decode cX12_isGood 18 = .ok (.goto 4, 3) := by decide +kernel
theorem dX12_isGood_21 : decode cX12_isGood 21 = .ok (.iconst 0, 1) := by decide +kernel
theorem dX12_isGood_22 : decode cX12_isGood 22 = .ok (.ireturn, 1) := by decide +kernel
theorem dX12_isWord_0 : decode cX12_isWord 0 = .ok (.aload_n 0, 1) := by decide +kernel
theorem dX12_isWord_1 : decode cX12_isWord 1 = .ok (.getfield 150, 3) := by decide +kernel
theorem dX12_isWord_4 : decode cX12_isWord 4 = .ok (.iconst (-1), 1) := by decide +kernel
theorem dX12_isWord_5 : decode cX12_isWord 5 = .ok (.if_icmp .ne 23, 3) := by decide +kernel
theorem dX12_isWord_8 : decode cX12_isWord 8 = .ok (.aload_n 0, 1) := by decide +kernel
theorem dX12_isWord_9 : decode cX12_isWord 9 = .ok (.invokevirtual 163, 3) := by decide +kernel
theorem dX12_isWord_12 : decode cX12_isWord 12 = .ok (.ifCond .eq 16, 3) := by decide +kernel
theorem dX12_isWord_15 : decode cX12_isWord 15 = .ok (.aload_n 0, 1) := by decide +kernel
theorem dX12_isWord_16 : decode cX12_isWord 16 = .ok (.getfield 107, 3) := by decide +kernel
theorem dX12_isWord_19 : decode cX12_isWord 19 = .ok (.lload_n 1, 1) := by decide +kernel
theorem dX12_isWord_20 : decode cX12_isWord 20 = .ok (.lcmp, 1) := by decide +kernel
theorem dX12_isWord_21 : decode cX12_isWord 21 = .ok (.ifCond .ne 7, 3) := by decide +kernel
theorem dX12_isWord_24 : decode cX12_isWord 24 = .ok (.iconst 1, 1) := by decide +kernel
theorem dX12_isWord_25 : decode cX12_isWord 25 = .ok (.goto 4, 3) := by decide +kernel
theorem dX12_isWord_28 : decode cX12_isWord 28 = .ok (.iconst 0, 1) := by decide +kernel
theorem dX12_isWord_29 : decode cX12_isWord 29 = .ok (.ireturn, 1) := by decide +kernel
theorem dX12_anyWord_0 : decode cX12_anyWord 0 = .ok (.aload_n 0, 1) := by decide +kernel
theorem dX12_anyWord_1 : decode cX12_anyWord 1 = .ok (.getfield 150, 3) := by decide +kernel
theorem dX12_anyWord_4 : decode cX12_anyWord 4 = .ok (.iconst (-1), 1) := by decide +kernel
theorem dX12_anyWord_5 : decode cX12_anyWord 5 = .ok (.if_icmp .ne 10, 3) := by decide +kernel
theorem dX12_anyWord_8 : decode cX12_anyWord 8 = .ok (.aload_n 0, 1) := by decide +kernel
theorem dX12_anyWord_9 : decode cX12_anyWord 9 = .ok (.invokevirtual 163, 3) := by decide +kernel
theorem dX12_anyWord_12 : decode cX12_anyWord 12 = .ok (.ifCond .ne 9, 3) := by decide +kernel
theorem dX12_anyWord_15 : decode cX12_anyWord 15 = .ok (.aload_n 0, 1) := by decide +kernel
theorem dX12_anyWord_16 : decode cX12_anyWord 16 = .ok (.invokevirtual 167, 3) := by decide +kernel
theorem dX12_anyWord_19 : decode cX12_anyWord 19 = .ok (.lconst 0, 1) := by decide +kernel
theorem dX12_anyWord_20 : decode cX12_anyWord 20 = .ok (.lreturn, 1) := by decide +kernel
theorem dX12_anyWord_21 : decode cX12_anyWord 21 = .ok (.aload_n 0, 1) := by decide +kernel
theorem dX12_anyWord_22 : decode cX12_anyWord 22 = .ok (.getfield 107, 3) := by decide +kernel
theorem dX12_anyWord_25 : decode cX12_anyWord 25 = .ok (.lstore_n 1, 1) := by decide +kernel
theorem dX12_anyWord_26 : decode cX12_anyWord 26 = .ok (.aload_n 0, 1) := by decide +kernel
theorem dX12_anyWord_27 : decode cX12_anyWord 27 = .ok (.invokevirtual 160, 3) := by decide +kernel
theorem dX12_anyWord_30 : decode cX12_anyWord 30 = .ok (.lload_n 1, 1) := by decide +kernel
theorem dX12_anyWord_31 : decode cX12_anyWord 31 = .ok (.lreturn, 1) := by decide +kernel
theorem dX12_numberOf_0 : decode cX12_numberOf 0 = .ok (.aload_n 0, 1) := by decide +kernel
theorem dX12_numberOf_1 : decode cX12_numberOf 1 = .ok (.getfield 150, 3) := by decide +kernel
theorem dX12_numberOf_4 : decode cX12_numberOf 4 = .ok (.iconst (-1), 1) := by decide +kernel
theorem dX12_numberOf_5 : decode cX12_numberOf 5 = .ok (.if_icmp .ne 27, 3) := by decide +kernel
theorem dX12_numberOf_8 : decode cX12_numberOf 8 = .ok (.aload_n 0, 1) := by decide +kernel
theorem dX12_numberOf_9 : decode cX12_numberOf 9 = .ok (.getfield 126, 3) := by decide +kernel
theorem dX12_numberOf_12 : decode cX12_numberOf 12 = .ok (.iconst 2, 1) := by decide +kernel
theorem dX12_numberOf_13 : decode cX12_numberOf 13 = .ok (.if_icmp .ne 19, 3) := by decide +kernel
theorem dX12_numberOf_16 : decode cX12_numberOf 16 = .ok (.aload_n 0, 1) := by decide +kernel
theorem dX12_numberOf_17 : decode cX12_numberOf 17 = .ok (.getfield 132, 3) := by decide +kernel
theorem dX12_numberOf_20 : decode cX12_numberOf 20 = .ok (.iload_n 1, 1) := by decide +kernel
theorem dX12_numberOf_21 : decode cX12_numberOf 21 = .ok (.if_icmp .gt 11, 3) := by decide +kernel
theorem dX12_numberOf_24 : decode cX12_numberOf 24 = .ok (.aload_n 0, 1) := by decide +kernel
theorem dX12_numberOf_25 : decode cX12_numberOf 25 = .ok (.getfield 129, 3) := by decide +kernel
theorem dX12_numberOf_28 : decode cX12_numberOf 28 = .ok (.iload_n 2, 1) := by decide +kernel
theorem dX12_numberOf_29 : decode cX12_numberOf 29 = .ok (.if_icmp .le 9, 3) := by decide +kernel
theorem dX12_numberOf_32 : decode cX12_numberOf 32 = .ok (.aload_n 0, 1) := by decide +kernel
theorem dX12_numberOf_33 : decode cX12_numberOf 33 = .ok (.invokevirtual 167, 3) := by decide +kernel
theorem dX12_numberOf_36 : decode cX12_numberOf 36 = .ok (.iconst 0, 1) := by decide +kernel
theorem dX12_numberOf_37 : decode cX12_numberOf 37 = .ok (.ireturn, 1) := by decide +kernel
theorem dX12_numberOf_38 : decode cX12_numberOf 38 = .ok (.aload_n 0, 1) := by decide +kernel
theorem dX12_numberOf_39 : decode cX12_numberOf 39 = .ok (.getfield 129, 3) := by decide +kernel
theorem dX12_numberOf_42 : decode cX12_numberOf 42 = .ok (.istore_n 3, 1) := by decide +kernel
theorem dX12_numberOf_43 : decode cX12_numberOf 43 = .ok (.aload_n 0, 1) := by decide +kernel
theorem dX12_numberOf_44 : decode cX12_numberOf 44 = .ok (.invokevirtual 160, 3) := by decide +kernel
theorem dX12_numberOf_47 : decode cX12_numberOf 47 = .ok (.iload_n 3, 1) := by decide +kernel
theorem dX12_numberOf_48 : decode cX12_numberOf 48 = .ok (.ireturn, 1) := by decide +kernel
theorem dX12_digit_0 : decode cX12_digit 0 = .ok (.aload_n 0, 1) := by decide +kernel
theorem dX12_digit_1 : decode cX12_digit 1 = .ok (.iconst 1, 1) := by decide +kernel
theorem dX12_digit_2 : decode cX12_digit 2 = .ok (.iload_n 1, 1) := by decide +kernel
theorem dX12_digit_3 : decode cX12_digit 3 = .ok (.invokevirtual 170, 3) := by decide +kernel
theorem dX12_digit_6 : decode cX12_digit 6 = .ok (.ireturn, 1) := by decide +kernel
theorem dX12_nounHere_0 : decode cX12_nounHere 0 = .ok (.iconst 0, 1) := by decide +kernel
theorem dX12_nounHere_1 : decode cX12_nounHere 1 = .ok (.istore_n 1, 1) := by decide +kernel
theorem dX12_nounHere_2 : decode cX12_nounHere 2 = .ok (.iload_n 1, 1) := by decide +kernel
theorem dX12_nounHere_3 : decode cX12_nounHere 3 = .ok (.aload_n 0, 1) := by decide +kernel
theorem dX12_nounHere_4 : decode cX12_nounHere 4 = .ok (.getfield 174, 3) := by decide +kernel
theorem dX12_nounHere_7 : decode cX12_nounHere 7 = .ok (.if_icmp .ge 24, 3) := by decide +kernel
theorem dX12_nounHere_10 : decode cX12_nounHere 10 = .ok (.aload_n 0, 1) := by decide +kernel
theorem dX12_nounHere_11 : decode cX12_nounHere 11 = .ok (.aload_n 0, 1) := by decide +kernel
theorem dX12_nounHere_12 : decode cX12_nounHere 12 = .ok (.getfield 13, 3) := by decide +kernel
theorem dX12_nounHere_15 : decode cX12_nounHere 15 = .ok (.iload_n 1, 1) := by decide +kernel
theorem dX12_nounHere_16 : decode cX12_nounHere 16 = .ok (.laload, 1) := by decide +kernel
theorem dX12_nounHere_17 : decode cX12_nounHere 17 = .ok (.invokevirtual 177, 3) := by decide +kernel
theorem dX12_nounHere_20 : decode cX12_nounHere 20 = .ok (.ifCond .eq 5, 3) := by decide +kernel
theorem dX12_nounHere_23 : decode cX12_nounHere 23 = .ok (.iload_n 1, 1) := by decide +kernel
theorem dX12_nounHere_24 : decode cX12_nounHere 24 = .ok (.ireturn, 1) := by decide +kernel
theorem dX12_nounHere_25 : decode cX12_nounHere 25 = .ok (.iinc 1 1, 3) := by decide +kernel
theorem dX12_nounHere_28 : decode cX12_nounHere 28 = .ok (.goto (-26), 3) := by decide +kernel
theorem dX12_nounHere_31 : decode cX12_nounHere 31 = .ok (.iconst (-1), 1) := by decide +kernel
theorem dX12_nounHere_32 : decode cX12_nounHere 32 = .ok (.ireturn, 1) := by decide +kernel
theorem dX12_isTitleHere_0 : decode cX12_isTitleHere 0 = .ok (.iconst 0, 1) := by decide +kernel
theorem dX12_isTitleHere_1 : decode cX12_isTitleHere 1 = .ok (.istore_n 1, 1) := by decide +kernel
theorem dX12_isTitleHere_2 : decode cX12_isTitleHere 2 = .ok (.iload_n 1, 1) := by decide +kernel
theorem dX12_isTitleHere_3 : decode cX12_isTitleHere 3 = .ok (.aload_n 0, 1) := by decide +kernel
theorem dX12_isTitleHere_4 : decode cX12_isTitleHere 4 = .ok (.getfield 181, 3) := by decide +kernel
theorem dX12_isTitleHere_7 : decode cX12_isTitleHere 7 = .ok (.if_icmp .ge 24, 3) := by decide +kernel
theorem dX12_isTitleHere_10 : decode cX12_isTitleHere 10 = .ok (.aload_n 0, 1) := by decide +kernel
theorem dX12_isTitleHere_11 : decode cX12_isTitleHere 11 = .ok (.aload_n 0, 1) := by decide +kernel
theorem dX12_isTitleHere_12 : decode cX12_isTitleHere 12 = .ok (.getfield 26, 3) := by decide +kernel
theorem dX12_isTitleHere_15 : decode cX12_isTitleHere 15 = .ok (.iload_n 1, 1) := by decide +kernel
theorem dX12_isTitleHere_16 : decode cX12_isTitleHere 16 = .ok (.laload, 1) := by decide +kernel
theorem dX12_isTitleHere_17 : decode cX12_isTitleHere 17 = .ok (.invokevirtual 177, 3) := by decide +kernel
theorem dX12_isTitleHere_20 : decode cX12_isTitleHere 20 = .ok (.ifCond .eq 5, 3) := by decide +kernel
theorem dX12_isTitleHere_23 : decode cX12_isTitleHere 23 = .ok (.iconst 1, 1) := by decide +kernel
theorem dX12_isTitleHere_24 : decode cX12_isTitleHere 24 = .ok (.ireturn, 1) := by decide +kernel
theorem dX12_isTitleHere_25 : decode cX12_isTitleHere 25 = .ok (.iinc 1 1, 3) := by decide +kernel
theorem dX12_isTitleHere_28 : decode cX12_isTitleHere 28 = .ok (.goto (-26), 3) := by decide +kernel
theorem dX12_isTitleHere_31 : decode cX12_isTitleHere 31 = .ok (.iconst 0, 1) := by decide +kernel
theorem dX12_isTitleHere_32 : decode cX12_isTitleHere 32 = .ok (.ireturn, 1) := by decide +kernel
theorem dX12_readNoun_0 : decode cX12_readNoun 0 = .ok (.aload_n 0, 1) := by decide +kernel
theorem dX12_readNoun_1 : decode cX12_readNoun 1 = .ok (.getfield 174, 3) := by decide +kernel
theorem dX12_readNoun_4 : decode cX12_readNoun 4 = .ok (.bipush 6, 2) := by decide +kernel
theorem dX12_readNoun_6 : decode cX12_readNoun 6 = .ok (.if_icmp .ne 8, 3) := by decide +kernel
theorem dX12_readNoun_9 : decode cX12_readNoun 9 = .ok (.aload_n 0, 1) := by decide +kernel
theorem dX12_readNoun_10 : decode cX12_readNoun 10 = .ok (.iload_n 1, 1) := by decide +kernel
theorem dX12_readNoun_11 : decode cX12_readNoun 11 = .ok (.invokevirtual 153, 3) := by decide +kernel
theorem dX12_readNoun_14 : decode cX12_readNoun 14 = .ok (.aload_n 0, 1) := by decide +kernel
theorem dX12_readNoun_15 : decode cX12_readNoun 15 = .ok (.invokevirtual 184, 3) := by decide +kernel
theorem dX12_readNoun_18 : decode cX12_readNoun 18 = .ok (.iconst (-1), 1) := by decide +kernel
theorem dX12_readNoun_19 : decode cX12_readNoun 19 = .ok (.if_icmp .eq 7, 3) := by decide +kernel
theorem dX12_readNoun_22 : decode cX12_readNoun 22 = .ok (.aload_n 0, 1) := by decide +kernel
theorem dX12_readNoun_23 : decode cX12_readNoun 23 = .ok (.invokevirtual 167, 3) := by decide +kernel
theorem dX12_readNoun_26 : decode cX12_readNoun 26 = .ok (.aload_n 0, 1) := by decide +kernel
theorem dX12_readNoun_27 : decode cX12_readNoun 27 = .ok (.invokevirtual 187, 3) := by decide +kernel
theorem dX12_readNoun_30 : decode cX12_readNoun 30 = .ok (.lstore_n 2, 1) := by decide +kernel
theorem dX12_readNoun_31 : decode cX12_readNoun 31 = .ok (.aload_n 0, 1) := by decide +kernel
theorem dX12_readNoun_32 : decode cX12_readNoun 32 = .ok (.iconst 2, 1) := by decide +kernel
theorem dX12_readNoun_33 : decode cX12_readNoun 33 = .ok (.invokevirtual 191, 3) := by decide +kernel
theorem dX12_readNoun_36 : decode cX12_readNoun 36 = .ok (.istore 4, 2) := by decide +kernel
theorem dX12_readNoun_38 : decode cX12_readNoun 38 = .ok (.aload_n 0, 1) := by decide +kernel
theorem dX12_readNoun_39 : decode cX12_readNoun 39 = .ok (.getfield 150, 3) := by decide +kernel
theorem dX12_readNoun_42 : decode cX12_readNoun 42 = .ok (.iconst (-1), 1) := by decide +kernel
theorem dX12_readNoun_43 : decode cX12_readNoun 43 = .ok (.if_icmp .ne 66, 3) := by decide +kernel
theorem dX12_readNoun_46 : decode cX12_readNoun 46 = .ok (.aload_n 0, 1) := by decide +kernel
theorem dX12_readNoun_47 : decode cX12_readNoun 47 = .ok (.getfield 13, 3) := by decide +kernel
theorem dX12_readNoun_50 : decode cX12_readNoun 50 = .ok (.aload_n 0, 1) := by decide +kernel
theorem dX12_readNoun_51 : decode cX12_readNoun 51 = .ok (.getfield 174, 3) := by decide +kernel
theorem dX12_readNoun_54 : decode cX12_readNoun 54 = .ok (.lload_n 2, 1) := by decide +kernel
theorem dX12_readNoun_55 : decode cX12_readNoun 55 = .ok (.lastore, 1) := by decide +kernel
theorem dX12_readNoun_56 : decode cX12_readNoun 56 = .ok (.aload_n 0, 1) := by decide +kernel
theorem dX12_readNoun_57 : decode cX12_readNoun 57 = .ok (.getfield 17, 3) := by decide +kernel
theorem dX12_readNoun_60 : decode cX12_readNoun 60 = .ok (.aload_n 0, 1) := by decide +kernel
theorem dX12_readNoun_61 : decode cX12_readNoun 61 = .ok (.getfield 174, 3) := by decide +kernel
theorem dX12_readNoun_64 : decode cX12_readNoun 64 = .ok (.iload 4, 2) := by decide +kernel
theorem dX12_readNoun_66 : decode cX12_readNoun 66 = .ok (.iastore, 1) := by decide +kernel
theorem dX12_readNoun_67 : decode cX12_readNoun 67 = .ok (.iconst 0, 1) := by decide +kernel
theorem dX12_readNoun_68 : decode cX12_readNoun 68 = .ok (.istore 5, 2) := by decide +kernel
theorem dX12_readNoun_70 : decode cX12_readNoun 70 = .ok (.iload 5, 2) := by decide +kernel
theorem dX12_readNoun_72 : decode cX12_readNoun 72 = .ok (.bipush 8, 2) := by decide +kernel
theorem dX12_readNoun_74 : decode cX12_readNoun 74 = .ok (.if_icmp .ge 25, 3) := by decide +kernel
theorem dX12_readNoun_77 : decode cX12_readNoun 77 = .ok (.aload_n 0, 1) := by decide +kernel
theorem dX12_readNoun_78 : decode cX12_readNoun 78 = .ok (.getfield 20, 3) := by decide +kernel
theorem dX12_readNoun_81 : decode cX12_readNoun 81 = .ok (.bipush 8, 2) := by decide +kernel
theorem dX12_readNoun_83 : decode cX12_readNoun 83 = .ok (.aload_n 0, 1) := by decide +kernel
theorem dX12_readNoun_84 : decode cX12_readNoun 84 = .ok (.getfield 174, 3) := by decide +kernel
theorem dX12_readNoun_87 : decode cX12_readNoun 87 = .ok (.imul, 1) := by decide +kernel
theorem dX12_readNoun_88 : decode cX12_readNoun 88 = .ok (.iload 5, 2) := by decide +kernel
theorem dX12_readNoun_90 : decode cX12_readNoun 90 = .ok (.iadd, 1) := by decide +kernel
theorem dX12_readNoun_91 : decode cX12_readNoun 91 = .ok (.lconst 0, 1) := by decide +kernel
theorem dX12_readNoun_92 : decode cX12_readNoun 92 = .ok (.lastore, 1) := by decide +kernel
theorem dX12_readNoun_93 : decode cX12_readNoun 93 = .ok (.iinc 5 1, 3) := by decide +kernel
theorem dX12_readNoun_96 : decode cX12_readNoun 96 = .ok (.goto (-26), 3) := by decide +kernel
theorem dX12_readNoun_99 : decode cX12_readNoun 99 = .ok (.aload_n 0, 1) := by decide +kernel
theorem dX12_readNoun_100 : decode cX12_readNoun 100 = .ok (.dup, 1) := by decide +kernel
theorem dX12_readNoun_101 : decode cX12_readNoun 101 = .ok (.getfield 174, 3) := by decide +kernel
theorem dX12_readNoun_104 : decode cX12_readNoun 104 = .ok (.iconst 1, 1) := by decide +kernel
theorem dX12_readNoun_105 : decode cX12_readNoun 105 = .ok (.iadd, 1) := by decide +kernel
theorem dX12_readNoun_106 : decode cX12_readNoun 106 = .ok (.putfield 174, 3) := by decide +kernel
theorem dX12_readNoun_109 : decode cX12_readNoun 109 = .ok (.return_, 1) := by decide +kernel
theorem dX12_formAt_0 : decode cX12_formAt 0 = .ok (.iconst 2, 1) := by decide +kernel
theorem dX12_formAt_1 : decode cX12_formAt 1 = .ok (.iload_n 0, 1) := by decide +kernel
theorem dX12_formAt_2 : decode cX12_formAt 2 = .ok (.imul, 1) := by decide +kernel
theorem dX12_formAt_3 : decode cX12_formAt 3 = .ok (.iload_n 1, 1) := by decide +kernel
theorem dX12_formAt_4 : decode cX12_formAt 4 = .ok (.iadd, 1) := by decide +kernel
theorem dX12_formAt_5 : decode cX12_formAt 5 = .ok (.ireturn, 1) := by decide +kernel
theorem dX12_readsForm_0 : decode cX12_readsForm 0 = .ok (.aload_n 0, 1) := by decide +kernel
theorem dX12_readsForm_1 : decode cX12_readsForm 1 = .ok (.invokevirtual 184, 3) := by decide +kernel
theorem dX12_readsForm_4 : decode cX12_readsForm 4 = .ok (.istore_n 2, 1) := by decide +kernel
theorem dX12_readsForm_5 : decode cX12_readsForm 5 = .ok (.iload_n 2, 1) := by decide +kernel
theorem dX12_readsForm_6 : decode cX12_readsForm 6 = .ok (.iconst (-1), 1) := by decide +kernel
theorem dX12_readsForm_7 : decode cX12_readsForm 7 = .ok (.if_icmp .ne 8, 3) := by decide +kernel
theorem dX12_readsForm_10 : decode cX12_readsForm 10 = .ok (.aload_n 0, 1) := by decide +kernel
theorem dX12_readsForm_11 : decode cX12_readsForm 11 = .ok (.invokevirtual 167, 3) := by decide +kernel
theorem dX12_readsForm_14 : decode cX12_readsForm 14 = .ok (.return_, 1) := by decide +kernel
theorem dX12_readsForm_15 : decode cX12_readsForm 15 = .ok (.aload_n 0, 1) := by decide +kernel
theorem dX12_readsForm_16 : decode cX12_readsForm 16 = .ok (.invokevirtual 160, 3) := by decide +kernel
theorem dX12_readsForm_19 : decode cX12_readsForm 19 = .ok (.aload_n 0, 1) := by decide +kernel
theorem dX12_readsForm_20 : decode cX12_readsForm 20 = .ok (.iconst 3, 1) := by decide +kernel
theorem dX12_readsForm_21 : decode cX12_readsForm 21 = .ok (.invokevirtual 191, 3) := by decide +kernel
theorem dX12_readsForm_24 : decode cX12_readsForm 24 = .ok (.istore_n 3, 1) := by decide +kernel
theorem dX12_readsForm_25 : decode cX12_readsForm 25 = .ok (.aload_n 0, 1) := by decide +kernel
theorem dX12_readsForm_26 : decode cX12_readsForm 26 = .ok (.iconst 1, 1) := by decide +kernel
theorem dX12_readsForm_27 : decode cX12_readsForm 27 = .ok (.invokevirtual 191, 3) := by decide +kernel
theorem dX12_readsForm_30 : decode cX12_readsForm 30 = .ok (.istore 4, 2) := by decide +kernel
theorem dX12_readsForm_32 : decode cX12_readsForm 32 = .ok (.bipush 8, 2) := by decide +kernel
theorem dX12_readsForm_34 : decode cX12_readsForm 34 = .ok (.iload_n 2, 1) := by decide +kernel
theorem dX12_readsForm_35 : decode cX12_readsForm 35 = .ok (.imul, 1) := by decide +kernel
theorem dX12_readsForm_36 : decode cX12_readsForm 36 = .ok (.iload_n 3, 1) := by decide +kernel
theorem dX12_readsForm_37 : decode cX12_readsForm 37 = .ok (.iload 4, 2) := by decide +kernel
theorem dX12_readsForm_39 : decode cX12_readsForm 39 = .ok (.invokestatic 195, 3) := by decide +kernel
theorem dX12_readsForm_42 : decode cX12_readsForm 42 = .ok (.iadd, 1) := by decide +kernel
theorem dX12_readsForm_43 : decode cX12_readsForm 43 = .ok (.istore 5, 2) := by decide +kernel
theorem dX12_readsForm_45 : decode cX12_readsForm 45 = .ok (.aload_n 0, 1) := by decide +kernel
theorem dX12_readsForm_46 : decode cX12_readsForm 46 = .ok (.getfield 150, 3) := by decide +kernel
theorem dX12_readsForm_49 : decode cX12_readsForm 49 = .ok (.iconst (-1), 1) := by decide +kernel
theorem dX12_readsForm_50 : decode cX12_readsForm 50 = .ok (.if_icmp .ne 20, 3) := by decide +kernel
theorem dX12_readsForm_53 : decode cX12_readsForm 53 = .ok (.aload_n 0, 1) := by decide +kernel
theorem dX12_readsForm_54 : decode cX12_readsForm 54 = .ok (.getfield 20, 3) := by decide +kernel
theorem dX12_readsForm_57 : decode cX12_readsForm 57 = .ok (.iload 5, 2) := by decide +kernel
theorem dX12_readsForm_59 : decode cX12_readsForm 59 = .ok (.laload, 1) := by decide +kernel
theorem dX12_readsForm_60 : decode cX12_readsForm 60 = .ok (.lconst 0, 1) := by decide +kernel
theorem dX12_readsForm_61 : decode cX12_readsForm 61 = .ok (.lcmp, 1) := by decide +kernel
theorem dX12_readsForm_62 : decode cX12_readsForm 62 = .ok (.ifCond .eq 8, 3) := by decide +kernel
theorem dX12_readsForm_65 : decode cX12_readsForm 65 = .ok (.aload_n 0, 1) := by decide +kernel
theorem dX12_readsForm_66 : decode cX12_readsForm 66 = .ok (.iload_n 1, 1) := by decide +kernel
theorem dX12_readsForm_67 : decode cX12_readsForm 67 = .ok (.invokevirtual 153, 3) := by decide +kernel
theorem dX12_readsForm_70 : decode cX12_readsForm 70 = .ok (.aload_n 0, 1) := by decide +kernel
theorem dX12_readsForm_71 : decode cX12_readsForm 71 = .ok (.invokevirtual 187, 3) := by decide +kernel
theorem dX12_readsForm_74 : decode cX12_readsForm 74 = .ok (.lstore 6, 2) := by decide +kernel
theorem dX12_readsForm_76 : decode cX12_readsForm 76 = .ok (.aload_n 0, 1) := by decide +kernel
theorem dX12_readsForm_77 : decode cX12_readsForm 77 = .ok (.getfield 150, 3) := by decide +kernel
theorem dX12_readsForm_80 : decode cX12_readsForm 80 = .ok (.iconst (-1), 1) := by decide +kernel
theorem dX12_readsForm_81 : decode cX12_readsForm 81 = .ok (.if_icmp .ne 12, 3) := by decide +kernel
theorem dX12_readsForm_84 : decode cX12_readsForm 84 = .ok (.aload_n 0, 1) := by decide +kernel
theorem dX12_readsForm_85 : decode cX12_readsForm 85 = .ok (.getfield 20, 3) := by decide +kernel
theorem dX12_readsForm_88 : decode cX12_readsForm 88 = .ok (.iload 5, 2) := by decide +kernel
theorem dX12_readsForm_90 : decode cX12_readsForm 90 = .ok (.lload 6, 2) := by decide +kernel
theorem dX12_readsForm_92 : decode cX12_readsForm 92 = .ok (.lastore, 1) := by decide +kernel
theorem dX12_readsForm_93 : decode cX12_readsForm 93 = .ok (.return_, 1) := by decide +kernel
theorem dX12_wordAt_0 : decode cX12_wordAt 0 = .ok (.iload_n 0, 1) := by decide +kernel
theorem dX12_wordAt_1 : decode cX12_wordAt 1 = .ok (.ifCond .eq 8, 3) := by decide +kernel
theorem dX12_wordAt_4 : decode cX12_wordAt 4 = .ok (.bipush 24, 2) := by decide +kernel
theorem dX12_wordAt_6 : decode cX12_wordAt 6 = .ok (.goto 4, 3) := by decide +kernel
theorem dX12_wordAt_9 : decode cX12_wordAt 9 = .ok (.iconst 0, 1) := by decide +kernel
theorem dX12_wordAt_10 : decode cX12_wordAt 10 = .ok (.iconst 3, 1) := by decide +kernel
theorem dX12_wordAt_11 : decode cX12_wordAt 11 = .ok (.iload_n 1, 1) := by decide +kernel
theorem dX12_wordAt_12 : decode cX12_wordAt 12 = .ok (.iload_n 2, 1) := by decide +kernel
theorem dX12_wordAt_13 : decode cX12_wordAt 13 = .ok (.invokestatic 195, 3) := by decide +kernel
theorem dX12_wordAt_16 : decode cX12_wordAt 16 = .ok (.imul, 1) := by decide +kernel
theorem dX12_wordAt_17 : decode cX12_wordAt 17 = .ok (.iadd, 1) := by decide +kernel
theorem dX12_wordAt_18 : decode cX12_wordAt 18 = .ok (.iload_n 3, 1) := by decide +kernel
theorem dX12_wordAt_19 : decode cX12_wordAt 19 = .ok (.iadd, 1) := by decide +kernel
theorem dX12_wordAt_20 : decode cX12_wordAt 20 = .ok (.ireturn, 1) := by decide +kernel
theorem dX12_readsWord_0 : decode cX12_readsWord 0 = .ok (.aload_n 0, 1) := by decide +kernel
theorem dX12_readsWord_1 : decode cX12_readsWord 1 = .ok (.iconst 3, 1) := by decide +kernel
theorem dX12_readsWord_2 : decode cX12_readsWord 2 = .ok (.invokevirtual 191, 3) := by decide +kernel
theorem dX12_readsWord_5 : decode cX12_readsWord 5 = .ok (.istore_n 3, 1) := by decide +kernel
theorem dX12_readsWord_6 : decode cX12_readsWord 6 = .ok (.aload_n 0, 1) := by decide +kernel
theorem dX12_readsWord_7 : decode cX12_readsWord 7 = .ok (.iconst 1, 1) := by decide +kernel
theorem dX12_readsWord_8 : decode cX12_readsWord 8 = .ok (.invokevirtual 191, 3) := by decide +kernel
theorem dX12_readsWord_11 : decode cX12_readsWord 11 = .ok (.istore 4, 2) := by decide +kernel
theorem dX12_readsWord_13 : decode cX12_readsWord 13 = .ok (.aload_n 0, 1) := by decide +kernel
theorem dX12_readsWord_14 : decode cX12_readsWord 14 = .ok (.iconst 2, 1) := by decide +kernel
theorem dX12_readsWord_15 : decode cX12_readsWord 15 = .ok (.invokevirtual 191, 3) := by decide +kernel
theorem dX12_readsWord_18 : decode cX12_readsWord 18 = .ok (.istore 5, 2) := by decide +kernel
theorem dX12_readsWord_20 : decode cX12_readsWord 20 = .ok (.iload_n 1, 1) := by decide +kernel
theorem dX12_readsWord_21 : decode cX12_readsWord 21 = .ok (.iload_n 3, 1) := by decide +kernel
theorem dX12_readsWord_22 : decode cX12_readsWord 22 = .ok (.iload 4, 2) := by decide +kernel
theorem dX12_readsWord_24 : decode cX12_readsWord 24 = .ok (.iload 5, 2) := by decide +kernel
theorem dX12_readsWord_26 : decode cX12_readsWord 26 = .ok (.invokestatic 198, 3) := by decide +kernel
theorem dX12_readsWord_29 : decode cX12_readsWord 29 = .ok (.istore 6, 2) := by decide +kernel
theorem dX12_readsWord_31 : decode cX12_readsWord 31 = .ok (.aload_n 0, 1) := by decide +kernel
theorem dX12_readsWord_32 : decode cX12_readsWord 32 = .ok (.getfield 150, 3) := by decide +kernel
theorem dX12_readsWord_35 : decode cX12_readsWord 35 = .ok (.iconst (-1), 1) := by decide +kernel
theorem dX12_readsWord_36 : decode cX12_readsWord 36 = .ok (.if_icmp .ne 20, 3) := by decide +kernel
theorem dX12_readsWord_39 : decode cX12_readsWord 39 = .ok (.aload_n 0, 1) := by decide +kernel
theorem dX12_readsWord_40 : decode cX12_readsWord 40 = .ok (.getfield 23, 3) := by decide +kernel
theorem dX12_readsWord_43 : decode cX12_readsWord 43 = .ok (.iload 6, 2) := by decide +kernel
theorem dX12_readsWord_45 : decode cX12_readsWord 45 = .ok (.laload, 1) := by decide +kernel
theorem dX12_readsWord_46 : decode cX12_readsWord 46 = .ok (.lconst 0, 1) := by decide +kernel
theorem dX12_readsWord_47 : decode cX12_readsWord 47 = .ok (.lcmp, 1) := by decide +kernel
theorem dX12_readsWord_48 : decode cX12_readsWord 48 = .ok (.ifCond .eq 8, 3) := by decide +kernel
theorem dX12_readsWord_51 : decode cX12_readsWord 51 = .ok (.aload_n 0, 1) := by decide +kernel
theorem dX12_readsWord_52 : decode cX12_readsWord 52 = .ok (.iload_n 2, 1) := by decide +kernel
theorem dX12_readsWord_53 : decode cX12_readsWord 53 = .ok (.invokevirtual 153, 3) := by decide +kernel
theorem dX12_readsWord_56 : decode cX12_readsWord 56 = .ok (.aload_n 0, 1) := by decide +kernel
theorem dX12_readsWord_57 : decode cX12_readsWord 57 = .ok (.invokevirtual 187, 3) := by decide +kernel
theorem dX12_readsWord_60 : decode cX12_readsWord 60 = .ok (.lstore 7, 2) := by decide +kernel
theorem dX12_readsWord_62 : decode cX12_readsWord 62 = .ok (.aload_n 0, 1) := by decide +kernel
theorem dX12_readsWord_63 : decode cX12_readsWord 63 = .ok (.getfield 150, 3) := by decide +kernel
theorem dX12_readsWord_66 : decode cX12_readsWord 66 = .ok (.iconst (-1), 1) := by decide +kernel
theorem dX12_readsWord_67 : decode cX12_readsWord 67 = .ok (.if_icmp .ne 12, 3) := by decide +kernel
theorem dX12_readsWord_70 : decode cX12_readsWord 70 = .ok (.aload_n 0, 1) := by decide +kernel
theorem dX12_readsWord_71 : decode cX12_readsWord 71 = .ok (.getfield 23, 3) := by decide +kernel
theorem dX12_readsWord_74 : decode cX12_readsWord 74 = .ok (.iload 6, 2) := by decide +kernel
theorem dX12_readsWord_76 : decode cX12_readsWord 76 = .ok (.lload 7, 2) := by decide +kernel
theorem dX12_readsWord_78 : decode cX12_readsWord 78 = .ok (.lastore, 1) := by decide +kernel
theorem dX12_readsWord_79 : decode cX12_readsWord 79 = .ok (.return_, 1) := by decide +kernel
theorem dX12_sortHere_0 : decode cX12_sortHere 0 = .ok (.aload_n 0, 1) := by decide +kernel
theorem dX12_sortHere_1 : decode cX12_sortHere 1 = .ok (.getfield 126, 3) := by decide +kernel
theorem dX12_sortHere_4 : decode cX12_sortHere 4 = .ok (.iconst 1, 1) := by decide +kernel
theorem dX12_sortHere_5 : decode cX12_sortHere 5 = .ok (.if_icmp .ne 16, 3) := by decide +kernel
theorem dX12_sortHere_8 : decode cX12_sortHere 8 = .ok (.aload_n 0, 1) := by decide +kernel
theorem dX12_sortHere_9 : decode cX12_sortHere 9 = .ok (.invokevirtual 163, 3) := by decide +kernel
theorem dX12_sortHere_12 : decode cX12_sortHere 12 = .ok (.ifCond .eq 7, 3) := by decide +kernel
theorem dX12_sortHere_15 : decode cX12_sortHere 15 = .ok (.iconst 0, 1) := by decide +kernel
theorem dX12_sortHere_16 : decode cX12_sortHere 16 = .ok (.goto 4, 3) := by decide +kernel
theorem dX12_sortHere_19 : decode cX12_sortHere 19 = .ok (.iconst (-1), 1) := by decide +kernel
theorem dX12_sortHere_20 : decode cX12_sortHere 20 = .ok (.ireturn, 1) := by decide +kernel
theorem dX12_sortHere_21 : decode cX12_sortHere 21 = .ok (.aload_n 0, 1) := by decide +kernel
theorem dX12_sortHere_22 : decode cX12_sortHere 22 = .ok (.getfield 126, 3) := by decide +kernel
theorem dX12_sortHere_25 : decode cX12_sortHere 25 = .ok (.iconst 3, 1) := by decide +kernel
theorem dX12_sortHere_26 : decode cX12_sortHere 26 = .ok (.if_icmp .eq 5, 3) := by decide +kernel
theorem dX12_sortHere_29 : decode cX12_sortHere 29 = .ok (.iconst (-1), 1) := by decide +kernel
theorem dX12_sortHere_30 : decode cX12_sortHere 30 = .ok (.ireturn, 1) := by decide +kernel
theorem dX12_sortHere_31 : decode cX12_sortHere 31 = .ok (.aload_n 0, 1) := by decide +kernel
theorem dX12_sortHere_32 : decode cX12_sortHere 32 = .ok (.getfield 147, 3) := by decide +kernel
theorem dX12_sortHere_35 : decode cX12_sortHere 35 = .ok (.lookupswitch 70 #[(33, 67), (35, 57), (36, 63), (37, 61), (61, 65), (64, 59)], 57) := by decide +kernel
theorem dX12_sortHere_92 : decode cX12_sortHere 92 = .ok (.iconst 1, 1) := by decide +kernel
theorem dX12_sortHere_93 : decode cX12_sortHere 93 = .ok (.ireturn, 1) := by decide +kernel
theorem dX12_sortHere_94 : decode cX12_sortHere 94 = .ok (.iconst 2, 1) := by decide +kernel
theorem dX12_sortHere_95 : decode cX12_sortHere 95 = .ok (.ireturn, 1) := by decide +kernel
theorem dX12_sortHere_96 : decode cX12_sortHere 96 = .ok (.iconst 3, 1) := by decide +kernel
theorem dX12_sortHere_97 : decode cX12_sortHere 97 = .ok (.ireturn, 1) := by decide +kernel
theorem dX12_sortHere_98 : decode cX12_sortHere 98 = .ok (.iconst 4, 1) := by decide +kernel
theorem dX12_sortHere_99 : decode cX12_sortHere 99 = .ok (.ireturn, 1) := by decide +kernel
theorem dX12_sortHere_100 : decode cX12_sortHere 100 = .ok (.iconst 5, 1) := by decide +kernel
theorem dX12_sortHere_101 : decode cX12_sortHere 101 = .ok (.ireturn, 1) := by decide +kernel
theorem dX12_sortHere_102 : decode cX12_sortHere 102 = .ok (.bipush 6, 2) := by decide +kernel
theorem dX12_sortHere_104 : decode cX12_sortHere 104 = .ok (.ireturn, 1) := by decide +kernel
theorem dX12_sortHere_105 : decode cX12_sortHere 105 = .ok (.iconst (-1), 1) := by decide +kernel
theorem dX12_sortHere_106 : decode cX12_sortHere 106 = .ok (.ireturn, 1) := by decide +kernel
theorem dX12_readItem_0 : decode cX12_readItem 0 = .ok (.aload_n 0, 1) := by decide +kernel
theorem dX12_readItem_1 : decode cX12_readItem 1 = .ok (.invokevirtual 202, 3) := by decide +kernel
theorem dX12_readItem_4 : decode cX12_readItem 4 = .ok (.istore_n 2, 1) := by decide +kernel
theorem dX12_readItem_5 : decode cX12_readItem 5 = .ok (.iload_n 2, 1) := by decide +kernel
theorem dX12_readItem_6 : decode cX12_readItem 6 = .ok (.iconst (-1), 1) := by decide +kernel
theorem dX12_readItem_7 : decode cX12_readItem 7 = .ok (.if_icmp .eq 14, 3) := by decide +kernel
theorem dX12_readItem_10 : decode cX12_readItem 10 = .ok (.aload_n 0, 1) := by decide +kernel
theorem dX12_readItem_11 : decode cX12_readItem 11 = .ok (.getfield 29, 3) := by decide +kernel
theorem dX12_readItem_14 : decode cX12_readItem 14 = .ok (.iload_n 1, 1) := by decide +kernel
theorem dX12_readItem_15 : decode cX12_readItem 15 = .ok (.iaload, 1) := by decide +kernel
theorem dX12_readItem_16 : decode cX12_readItem 16 = .ok (.bipush 8, 2) := by decide +kernel
theorem dX12_readItem_18 : decode cX12_readItem 18 = .ok (.if_icmp .ne 8, 3) := by decide +kernel
theorem dX12_readItem_21 : decode cX12_readItem 21 = .ok (.aload_n 0, 1) := by decide +kernel
theorem dX12_readItem_22 : decode cX12_readItem 22 = .ok (.invokevirtual 167, 3) := by decide +kernel
theorem dX12_readItem_25 : decode cX12_readItem 25 = .ok (.return_, 1) := by decide +kernel
theorem dX12_readItem_26 : decode cX12_readItem 26 = .ok (.bipush 8, 2) := by decide +kernel
theorem dX12_readItem_28 : decode cX12_readItem 28 = .ok (.iload_n 1, 1) := by decide +kernel
theorem dX12_readItem_29 : decode cX12_readItem 29 = .ok (.imul, 1) := by decide +kernel
theorem dX12_readItem_30 : decode cX12_readItem 30 = .ok (.aload_n 0, 1) := by decide +kernel
theorem dX12_readItem_31 : decode cX12_readItem 31 = .ok (.getfield 29, 3) := by decide +kernel
theorem dX12_readItem_34 : decode cX12_readItem 34 = .ok (.iload_n 1, 1) := by decide +kernel
theorem dX12_readItem_35 : decode cX12_readItem 35 = .ok (.iaload, 1) := by decide +kernel
theorem dX12_readItem_36 : decode cX12_readItem 36 = .ok (.iadd, 1) := by decide +kernel
theorem dX12_readItem_37 : decode cX12_readItem 37 = .ok (.istore_n 3, 1) := by decide +kernel
theorem dX12_readItem_38 : decode cX12_readItem 38 = .ok (.aload_n 0, 1) := by decide +kernel
theorem dX12_readItem_39 : decode cX12_readItem 39 = .ok (.getfield 35, 3) := by decide +kernel
theorem dX12_readItem_42 : decode cX12_readItem 42 = .ok (.iload_n 3, 1) := by decide +kernel
theorem dX12_readItem_43 : decode cX12_readItem 43 = .ok (.iload_n 2, 1) := by decide +kernel
theorem dX12_readItem_44 : decode cX12_readItem 44 = .ok (.ifCond .ne 10, 3) := by decide +kernel
theorem dX12_readItem_47 : decode cX12_readItem 47 = .ok (.aload_n 0, 1) := by decide +kernel
theorem dX12_readItem_48 : decode cX12_readItem 48 = .ok (.getfield 107, 3) := by decide +kernel
theorem dX12_readItem_51 : decode cX12_readItem 51 = .ok (.goto 4, 3) := by decide +kernel
theorem dX12_readItem_54 : decode cX12_readItem 54 = .ok (.lconst 0, 1) := by decide +kernel
theorem dX12_readItem_55 : decode cX12_readItem 55 = .ok (.lastore, 1) := by decide +kernel
theorem dX12_readItem_56 : decode cX12_readItem 56 = .ok (.aload_n 0, 1) := by decide +kernel
theorem dX12_readItem_57 : decode cX12_readItem 57 = .ok (.invokevirtual 160, 3) := by decide +kernel
theorem dX12_readItem_60 : decode cX12_readItem 60 = .ok (.aload_n 0, 1) := by decide +kernel
theorem dX12_readItem_61 : decode cX12_readItem 61 = .ok (.getfield 32, 3) := by decide +kernel
theorem dX12_readItem_64 : decode cX12_readItem 64 = .ok (.iconst 3, 1) := by decide +kernel
theorem dX12_readItem_65 : decode cX12_readItem 65 = .ok (.iload_n 3, 1) := by decide +kernel
theorem dX12_readItem_66 : decode cX12_readItem 66 = .ok (.imul, 1) := by decide +kernel
theorem dX12_readItem_67 : decode cX12_readItem 67 = .ok (.iload_n 2, 1) := by decide +kernel
theorem dX12_readItem_68 : decode cX12_readItem 68 = .ok (.iastore, 1) := by decide +kernel
theorem dX12_readItem_69 : decode cX12_readItem 69 = .ok (.aload_n 0, 1) := by decide +kernel
theorem dX12_readItem_70 : decode cX12_readItem 70 = .ok (.getfield 32, 3) := by decide +kernel
theorem dX12_readItem_73 : decode cX12_readItem 73 = .ok (.iconst 3, 1) := by decide +kernel
theorem dX12_readItem_74 : decode cX12_readItem 74 = .ok (.iload_n 3, 1) := by decide +kernel
theorem dX12_readItem_75 : decode cX12_readItem 75 = .ok (.imul, 1) := by decide +kernel
theorem dX12_readItem_76 : decode cX12_readItem 76 = .ok (.iconst 1, 1) := by decide +kernel
theorem dX12_readItem_77 : decode cX12_readItem 77 = .ok (.iadd, 1) := by decide +kernel
theorem dX12_readItem_78 : decode cX12_readItem 78 = .ok (.iload_n 2, 1) := by decide +kernel
theorem dX12_readItem_79 : decode cX12_readItem 79 = .ok (.ifCond .ne 7, 3) := by decide +kernel
theorem dX12_readItem_82 : decode cX12_readItem 82 = .ok (.iconst (-1), 1) := by decide +kernel
theorem dX12_readItem_83 : decode cX12_readItem 83 = .ok (.goto 8, 3) := by decide +kernel
theorem dX12_readItem_86 : decode cX12_readItem 86 = .ok (.aload_n 0, 1) := by decide +kernel
theorem dX12_readItem_87 : decode cX12_readItem 87 = .ok (.iconst 2, 1) := by decide +kernel
theorem dX12_readItem_88 : decode cX12_readItem 88 = .ok (.invokevirtual 191, 3) := by decide +kernel
theorem dX12_readItem_91 : decode cX12_readItem 91 = .ok (.iastore, 1) := by decide +kernel
theorem dX12_readItem_92 : decode cX12_readItem 92 = .ok (.aload_n 0, 1) := by decide +kernel
theorem dX12_readItem_93 : decode cX12_readItem 93 = .ok (.getfield 32, 3) := by decide +kernel
theorem dX12_readItem_96 : decode cX12_readItem 96 = .ok (.iconst 3, 1) := by decide +kernel
theorem dX12_readItem_97 : decode cX12_readItem 97 = .ok (.iload_n 3, 1) := by decide +kernel
theorem dX12_readItem_98 : decode cX12_readItem 98 = .ok (.imul, 1) := by decide +kernel
theorem dX12_readItem_99 : decode cX12_readItem 99 = .ok (.iconst 2, 1) := by decide +kernel
theorem dX12_readItem_100 : decode cX12_readItem 100 = .ok (.iadd, 1) := by decide +kernel
theorem dX12_readItem_101 : decode cX12_readItem 101 = .ok (.iconst (-1), 1) := by decide +kernel
theorem dX12_readItem_102 : decode cX12_readItem 102 = .ok (.iastore, 1) := by decide +kernel
theorem dX12_readItem_103 : decode cX12_readItem 103 = .ok (.iload_n 2, 1) := by decide +kernel
theorem dX12_readItem_104 : decode cX12_readItem 104 = .ok (.iconst 1, 1) := by decide +kernel
theorem dX12_readItem_105 : decode cX12_readItem 105 = .ok (.if_icmp .eq 13, 3) := by decide +kernel
theorem dX12_readItem_108 : decode cX12_readItem 108 = .ok (.iload_n 2, 1) := by decide +kernel
theorem dX12_readItem_109 : decode cX12_readItem 109 = .ok (.iconst 2, 1) := by decide +kernel
theorem dX12_readItem_110 : decode cX12_readItem 110 = .ok (.if_icmp .eq 8, 3) := by decide +kernel
theorem dX12_readItem_113 : decode cX12_readItem 113 = .ok (.iload_n 2, 1) := by decide +kernel
theorem dX12_readItem_114 : decode cX12_readItem 114 = .ok (.iconst 3, 1) := by decide +kernel
theorem dX12_readItem_115 : decode cX12_readItem 115 = .ok (.if_icmp .ne 18, 3) := by decide +kernel
theorem dX12_readItem_118 : decode cX12_readItem 118 = .ok (.aload_n 0, 1) := by decide +kernel
theorem dX12_readItem_119 : decode cX12_readItem 119 = .ok (.getfield 32, 3) := by decide +kernel
theorem dX12_readItem_122 : decode cX12_readItem 122 = .ok (.iconst 3, 1) := by decide +kernel
theorem dX12_readItem_123 : decode cX12_readItem 123 = .ok (.iload_n 3, 1) := by decide +kernel
theorem dX12_readItem_124 : decode cX12_readItem 124 = .ok (.imul, 1) := by decide +kernel
theorem dX12_readItem_125 : decode cX12_readItem 125 = .ok (.iconst 2, 1) := by decide +kernel
theorem dX12_readItem_126 : decode cX12_readItem 126 = .ok (.iadd, 1) := by decide +kernel
theorem dX12_readItem_127 : decode cX12_readItem 127 = .ok (.aload_n 0, 1) := by decide +kernel
theorem dX12_readItem_128 : decode cX12_readItem 128 = .ok (.iconst 3, 1) := by decide +kernel
theorem dX12_readItem_129 : decode cX12_readItem 129 = .ok (.invokevirtual 191, 3) := by decide +kernel
theorem dX12_readItem_132 : decode cX12_readItem 132 = .ok (.iastore, 1) := by decide +kernel
theorem dX12_readItem_133 : decode cX12_readItem 133 = .ok (.iload_n 2, 1) := by decide +kernel
theorem dX12_readItem_134 : decode cX12_readItem 134 = .ok (.iconst 5, 1) := by decide +kernel
theorem dX12_readItem_135 : decode cX12_readItem 135 = .ok (.if_icmp .lt 63, 3) := by decide +kernel
theorem dX12_readItem_138 : decode cX12_readItem 138 = .ok (.aload_n 0, 1) := by decide +kernel
theorem dX12_readItem_139 : decode cX12_readItem 139 = .ok (.getfield 150, 3) := by decide +kernel
theorem dX12_readItem_142 : decode cX12_readItem 142 = .ok (.iconst (-1), 1) := by decide +kernel
theorem dX12_readItem_143 : decode cX12_readItem 143 = .ok (.if_icmp .ne 40, 3) := by decide +kernel
theorem dX12_readItem_146 : decode cX12_readItem 146 = .ok (.aload_n 0, 1) := by decide +kernel
theorem dX12_readItem_147 : decode cX12_readItem 147 = .ok (.getfield 126, 3) := by decide +kernel
theorem dX12_readItem_150 : decode cX12_readItem 150 = .ok (.iconst 2, 1) := by decide +kernel
theorem dX12_readItem_151 : decode cX12_readItem 151 = .ok (.if_icmp .ne 32, 3) := by decide +kernel
theorem dX12_readItem_154 : decode cX12_readItem 154 = .ok (.aload_n 0, 1) := by decide +kernel
theorem dX12_readItem_155 : decode cX12_readItem 155 = .ok (.getfield 132, 3) := by decide +kernel
theorem dX12_readItem_158 : decode cX12_readItem 158 = .ok (.iconst 1, 1) := by decide +kernel
theorem dX12_readItem_159 : decode cX12_readItem 159 = .ok (.if_icmp .ne 24, 3) := by decide +kernel
theorem dX12_readItem_162 : decode cX12_readItem 162 = .ok (.aload_n 0, 1) := by decide +kernel
theorem dX12_readItem_163 : decode cX12_readItem 163 = .ok (.getfield 129, 3) := by decide +kernel
theorem dX12_readItem_166 : decode cX12_readItem 166 = .ok (.aload_n 0, 1) := by decide +kernel
theorem dX12_readItem_167 : decode cX12_readItem 167 = .ok (.getfield 32, 3) := by decide +kernel
theorem dX12_readItem_170 : decode cX12_readItem 170 = .ok (.iconst 3, 1) := by decide +kernel
theorem dX12_readItem_171 : decode cX12_readItem 171 = .ok (.iload_n 3, 1) := by decide +kernel
theorem dX12_readItem_172 : decode cX12_readItem 172 = .ok (.imul, 1) := by decide +kernel
theorem dX12_readItem_173 : decode cX12_readItem 173 = .ok (.iconst 1, 1) := by decide +kernel
theorem dX12_readItem_174 : decode cX12_readItem 174 = .ok (.iadd, 1) := by decide +kernel
theorem dX12_readItem_175 : decode cX12_readItem 175 = .ok (.iaload, 1) := by decide +kernel
theorem dX12_readItem_176 : decode cX12_readItem 176 = .ok (.if_icmp .ne 7, 3) := by decide +kernel
theorem dX12_readItem_179 : decode cX12_readItem 179 = .ok (.aload_n 0, 1) := by decide +kernel
theorem dX12_readItem_180 : decode cX12_readItem 180 = .ok (.invokevirtual 167, 3) := by decide +kernel
theorem dX12_readItem_183 : decode cX12_readItem 183 = .ok (.aload_n 0, 1) := by decide +kernel
theorem dX12_readItem_184 : decode cX12_readItem 184 = .ok (.getfield 32, 3) := by decide +kernel
theorem dX12_readItem_187 : decode cX12_readItem 187 = .ok (.iconst 3, 1) := by decide +kernel
theorem dX12_readItem_188 : decode cX12_readItem 188 = .ok (.iload_n 3, 1) := by decide +kernel
theorem dX12_readItem_189 : decode cX12_readItem 189 = .ok (.imul, 1) := by decide +kernel
theorem dX12_readItem_190 : decode cX12_readItem 190 = .ok (.iconst 2, 1) := by decide +kernel
theorem dX12_readItem_191 : decode cX12_readItem 191 = .ok (.iadd, 1) := by decide +kernel
theorem dX12_readItem_192 : decode cX12_readItem 192 = .ok (.aload_n 0, 1) := by decide +kernel
theorem dX12_readItem_193 : decode cX12_readItem 193 = .ok (.iconst 2, 1) := by decide +kernel
theorem dX12_readItem_194 : decode cX12_readItem 194 = .ok (.invokevirtual 191, 3) := by decide +kernel
theorem dX12_readItem_197 : decode cX12_readItem 197 = .ok (.iastore, 1) := by decide +kernel
theorem dX12_readItem_198 : decode cX12_readItem 198 = .ok (.aload_n 0, 1) := by decide +kernel
theorem dX12_readItem_199 : decode cX12_readItem 199 = .ok (.getfield 29, 3) := by decide +kernel
theorem dX12_readItem_202 : decode cX12_readItem 202 = .ok (.iload_n 1, 1) := by decide +kernel
theorem dX12_readItem_203 : decode cX12_readItem 203 = .ok (.dup2, 1) := by decide +kernel
theorem dX12_readItem_204 : decode cX12_readItem 204 = .ok (.iaload, 1) := by decide +kernel
theorem dX12_readItem_205 : decode cX12_readItem 205 = .ok (.iconst 1, 1) := by decide +kernel
theorem dX12_readItem_206 : decode cX12_readItem 206 = .ok (.iadd, 1) := by decide +kernel
theorem dX12_readItem_207 : decode cX12_readItem 207 = .ok (.iastore, 1) := by decide +kernel
theorem dX12_readItem_208 : decode cX12_readItem 208 = .ok (.return_, 1) := by decide +kernel
theorem dX12_readMessage_0 : decode cX12_readMessage 0 = .ok (.aload_n 0, 1) := by decide +kernel
theorem dX12_readMessage_1 : decode cX12_readMessage 1 = .ok (.getfield 181, 3) := by decide +kernel
theorem dX12_readMessage_4 : decode cX12_readMessage 4 = .ok (.iconst 4, 1) := by decide +kernel
theorem dX12_readMessage_5 : decode cX12_readMessage 5 = .ok (.if_icmp .ne 8, 3) := by decide +kernel
theorem dX12_readMessage_8 : decode cX12_readMessage 8 = .ok (.aload_n 0, 1) := by decide +kernel
theorem dX12_readMessage_9 : decode cX12_readMessage 9 = .ok (.iload_n 1, 1) := by decide +kernel
theorem dX12_readMessage_10 : decode cX12_readMessage 10 = .ok (.invokevirtual 153, 3) := by decide +kernel
theorem dX12_readMessage_13 : decode cX12_readMessage 13 = .ok (.aload_n 0, 1) := by decide +kernel
theorem dX12_readMessage_14 : decode cX12_readMessage 14 = .ok (.invokevirtual 205, 3) := by decide +kernel
theorem dX12_readMessage_17 : decode cX12_readMessage 17 = .ok (.ifCond .eq 7, 3) := by decide +kernel
theorem dX12_readMessage_20 : decode cX12_readMessage 20 = .ok (.aload_n 0, 1) := by decide +kernel
theorem dX12_readMessage_21 : decode cX12_readMessage 21 = .ok (.invokevirtual 167, 3) := by decide +kernel
theorem dX12_readMessage_24 : decode cX12_readMessage 24 = .ok (.aload_n 0, 1) := by decide +kernel
theorem dX12_readMessage_25 : decode cX12_readMessage 25 = .ok (.invokevirtual 187, 3) := by decide +kernel
theorem dX12_readMessage_28 : decode cX12_readMessage 28 = .ok (.lstore_n 2, 1) := by decide +kernel
theorem dX12_readMessage_29 : decode cX12_readMessage 29 = .ok (.aload_n 0, 1) := by decide +kernel
theorem dX12_readMessage_30 : decode cX12_readMessage 30 = .ok (.getfield 181, 3) := by decide +kernel
theorem dX12_readMessage_33 : decode cX12_readMessage 33 = .ok (.istore 4, 2) := by decide +kernel
theorem dX12_readMessage_35 : decode cX12_readMessage 35 = .ok (.aload_n 0, 1) := by decide +kernel
theorem dX12_readMessage_36 : decode cX12_readMessage 36 = .ok (.getfield 150, 3) := by decide +kernel
theorem dX12_readMessage_39 : decode cX12_readMessage 39 = .ok (.iconst (-1), 1) := by decide +kernel
theorem dX12_readMessage_40 : decode cX12_readMessage 40 = .ok (.if_icmp .eq 4, 3) := by decide +kernel
theorem dX12_readMessage_43 : decode cX12_readMessage 43 = .ok (.return_, 1) := by decide +kernel
theorem dX12_readMessage_44 : decode cX12_readMessage 44 = .ok (.aload_n 0, 1) := by decide +kernel
theorem dX12_readMessage_45 : decode cX12_readMessage 45 = .ok (.getfield 26, 3) := by decide +kernel
theorem dX12_readMessage_48 : decode cX12_readMessage 48 = .ok (.iload 4, 2) := by decide +kernel
theorem dX12_readMessage_50 : decode cX12_readMessage 50 = .ok (.lload_n 2, 1) := by decide +kernel
theorem dX12_readMessage_51 : decode cX12_readMessage 51 = .ok (.lastore, 1) := by decide +kernel
theorem dX12_readMessage_52 : decode cX12_readMessage 52 = .ok (.aload_n 0, 1) := by decide +kernel
theorem dX12_readMessage_53 : decode cX12_readMessage 53 = .ok (.getfield 29, 3) := by decide +kernel
theorem dX12_readMessage_56 : decode cX12_readMessage 56 = .ok (.iload 4, 2) := by decide +kernel
theorem dX12_readMessage_58 : decode cX12_readMessage 58 = .ok (.iconst 0, 1) := by decide +kernel
theorem dX12_readMessage_59 : decode cX12_readMessage 59 = .ok (.iastore, 1) := by decide +kernel
theorem dX12_readMessage_60 : decode cX12_readMessage 60 = .ok (.iconst 1, 1) := by decide +kernel
theorem dX12_readMessage_61 : decode cX12_readMessage 61 = .ok (.istore 5, 2) := by decide +kernel
theorem dX12_readMessage_63 : decode cX12_readMessage 63 = .ok (.iload 5, 2) := by decide +kernel
theorem dX12_readMessage_65 : decode cX12_readMessage 65 = .ok (.ifCond .eq 43, 3) := by decide +kernel
theorem dX12_readMessage_68 : decode cX12_readMessage 68 = .ok (.aload_n 0, 1) := by decide +kernel
theorem dX12_readMessage_69 : decode cX12_readMessage 69 = .ok (.iload 4, 2) := by decide +kernel
theorem dX12_readMessage_71 : decode cX12_readMessage 71 = .ok (.invokevirtual 208, 3) := by decide +kernel
theorem dX12_readMessage_74 : decode cX12_readMessage 74 = .ok (.aload_n 0, 1) := by decide +kernel
theorem dX12_readMessage_75 : decode cX12_readMessage 75 = .ok (.getfield 150, 3) := by decide +kernel
theorem dX12_readMessage_78 : decode cX12_readMessage 78 = .ok (.iconst (-1), 1) := by decide +kernel
theorem dX12_readMessage_79 : decode cX12_readMessage 79 = .ok (.if_icmp .ne 23, 3) := by decide +kernel
theorem dX12_readMessage_82 : decode cX12_readMessage 82 = .ok (.aload_n 0, 1) := by decide +kernel
theorem dX12_readMessage_83 : decode cX12_readMessage 83 = .ok (.getfield 126, 3) := by decide +kernel
theorem dX12_readMessage_86 : decode cX12_readMessage 86 = .ok (.ifCond .eq 16, 3) := by decide +kernel
theorem dX12_readMessage_89 : decode cX12_readMessage 89 = .ok (.aload_n 0, 1) := by decide +kernel
theorem dX12_readMessage_90 : decode cX12_readMessage 90 = .ok (.bipush 59, 2) := by decide +kernel
theorem dX12_readMessage_92 : decode cX12_readMessage 92 = .ok (.invokevirtual 157, 3) := by decide +kernel
theorem dX12_readMessage_95 : decode cX12_readMessage 95 = .ok (.ifCond .ne 7, 3) := by decide +kernel
theorem dX12_readMessage_98 : decode cX12_readMessage 98 = .ok (.iconst 1, 1) := by decide +kernel
theorem dX12_readMessage_99 : decode cX12_readMessage 99 = .ok (.goto 4, 3) := by decide +kernel
theorem dX12_readMessage_102 : decode cX12_readMessage 102 = .ok (.iconst 0, 1) := by decide +kernel
theorem dX12_readMessage_103 : decode cX12_readMessage 103 = .ok (.istore 5, 2) := by decide +kernel
theorem dX12_readMessage_105 : decode cX12_readMessage 105 = .ok (.goto (-42), 3) := by decide +kernel
theorem dX12_readMessage_108 : decode cX12_readMessage 108 = .ok (.aload_n 0, 1) := by decide +kernel
theorem dX12_readMessage_109 : decode cX12_readMessage 109 = .ok (.dup, 1) := by decide +kernel
theorem dX12_readMessage_110 : decode cX12_readMessage 110 = .ok (.getfield 181, 3) := by decide +kernel
theorem dX12_readMessage_113 : decode cX12_readMessage 113 = .ok (.iconst 1, 1) := by decide +kernel
theorem dX12_readMessage_114 : decode cX12_readMessage 114 = .ok (.iadd, 1) := by decide +kernel
theorem dX12_readMessage_115 : decode cX12_readMessage 115 = .ok (.putfield 181, 3) := by decide +kernel
theorem dX12_readMessage_118 : decode cX12_readMessage 118 = .ok (.return_, 1) := by decide +kernel
theorem dX12_clause_0 : decode cX12_clause 0 = .ok (.aload_n 0, 1) := by decide +kernel
theorem dX12_clause_1 : decode cX12_clause 1 = .ok (.getfield 138, 3) := by decide +kernel
theorem dX12_clause_4 : decode cX12_clause 4 = .ok (.istore_n 1, 1) := by decide +kernel
theorem dX12_clause_5 : decode cX12_clause 5 = .ok (.aload_n 0, 1) := by decide +kernel
theorem dX12_clause_6 : decode cX12_clause 6 = .ok (.getstatic 210, 3) := by decide +kernel
theorem dX12_clause_9 : decode cX12_clause 9 = .ok (.invokevirtual 177, 3) := by decide +kernel
theorem dX12_clause_12 : decode cX12_clause 12 = .ok (.ifCond .eq 7, 3) := by decide +kernel
theorem dX12_clause_15 : decode cX12_clause 15 = .ok (.iconst 0, 1) := by decide +kernel
theorem dX12_clause_16 : decode cX12_clause 16 = .ok (.goto 60, 3) := by decide +kernel
theorem dX12_clause_19 : decode cX12_clause 19 = .ok (.aload_n 0, 1) := by decide +kernel
theorem dX12_clause_20 : decode cX12_clause 20 = .ok (.getstatic 213, 3) := by decide +kernel
theorem dX12_clause_23 : decode cX12_clause 23 = .ok (.invokevirtual 177, 3) := by decide +kernel
theorem dX12_clause_26 : decode cX12_clause 26 = .ok (.ifCond .eq 7, 3) := by decide +kernel
theorem dX12_clause_29 : decode cX12_clause 29 = .ok (.iconst 1, 1) := by decide +kernel
theorem dX12_clause_30 : decode cX12_clause 30 = .ok (.goto 46, 3) := by decide +kernel
theorem dX12_clause_33 : decode cX12_clause 33 = .ok (.aload_n 0, 1) := by decide +kernel
theorem dX12_clause_34 : decode cX12_clause 34 = .ok (.getstatic 216, 3) := by decide +kernel
theorem dX12_clause_37 : decode cX12_clause 37 = .ok (.invokevirtual 177, 3) := by decide +kernel
theorem dX12_clause_40 : decode cX12_clause 40 = .ok (.ifCond .eq 7, 3) := by decide +kernel
theorem dX12_clause_43 : decode cX12_clause 43 = .ok (.iconst 2, 1) := by decide +kernel
theorem dX12_clause_44 : decode cX12_clause 44 = .ok (.goto 32, 3) := by decide +kernel
theorem dX12_clause_47 : decode cX12_clause 47 = .ok (.aload_n 0, 1) := by decide +kernel
theorem dX12_clause_48 : decode cX12_clause 48 = .ok (.getstatic 219, 3) := by decide +kernel
theorem dX12_clause_51 : decode cX12_clause 51 = .ok (.invokevirtual 177, 3) := by decide +kernel
theorem dX12_clause_54 : decode cX12_clause 54 = .ok (.ifCond .eq 7, 3) := by decide +kernel
theorem dX12_clause_57 : decode cX12_clause 57 = .ok (.iconst 3, 1) := by decide +kernel
theorem dX12_clause_58 : decode cX12_clause 58 = .ok (.goto 18, 3) := by decide +kernel
theorem dX12_clause_61 : decode cX12_clause 61 = .ok (.aload_n 0, 1) := by decide +kernel
theorem dX12_clause_62 : decode cX12_clause 62 = .ok (.getstatic 222, 3) := by decide +kernel
theorem dX12_clause_65 : decode cX12_clause 65 = .ok (.invokevirtual 177, 3) := by decide +kernel
theorem dX12_clause_68 : decode cX12_clause 68 = .ok (.ifCond .eq 7, 3) := by decide +kernel
theorem dX12_clause_71 : decode cX12_clause 71 = .ok (.iconst 4, 1) := by decide +kernel
theorem dX12_clause_72 : decode cX12_clause 72 = .ok (.goto 4, 3) := by decide +kernel
theorem dX12_clause_75 : decode cX12_clause 75 = .ok (.iconst (-1), 1) := by decide +kernel
theorem dX12_clause_76 : decode cX12_clause 76 = .ok (.istore_n 2, 1) := by decide +kernel
theorem dX12_clause_77 : decode cX12_clause 77 = .ok (.iload_n 2, 1) := by decide +kernel
theorem dX12_clause_78 : decode cX12_clause 78 = .ok (.iconst (-1), 1) := by decide +kernel
theorem dX12_clause_79 : decode cX12_clause 79 = .ok (.if_icmp .ne 8, 3) := by decide +kernel
theorem dX12_clause_82 : decode cX12_clause 82 = .ok (.aload_n 0, 1) := by decide +kernel
theorem dX12_clause_83 : decode cX12_clause 83 = .ok (.invokevirtual 167, 3) := by decide +kernel
theorem dX12_clause_86 : decode cX12_clause 86 = .ok (.return_, 1) := by decide +kernel
theorem dX12_clause_87 : decode cX12_clause 87 = .ok (.aload_n 0, 1) := by decide +kernel
theorem dX12_clause_88 : decode cX12_clause 88 = .ok (.invokevirtual 160, 3) := by decide +kernel
theorem dX12_clause_91 : decode cX12_clause 91 = .ok (.iload_n 2, 1) := by decide +kernel
theorem dX12_clause_92 : decode cX12_clause 92 = .ok (.tableswitch 66 0 3 #[32, 40, 48, 48], 32) := by decide +kernel
theorem dX12_clause_124 : decode cX12_clause 124 = .ok (.aload_n 0, 1) := by decide +kernel
theorem dX12_clause_125 : decode cX12_clause 125 = .ok (.iload_n 1, 1) := by decide +kernel
theorem dX12_clause_126 : decode cX12_clause 126 = .ok (.invokevirtual 225, 3) := by decide +kernel
theorem dX12_clause_129 : decode cX12_clause 129 = .ok (.goto 34, 3) := by decide +kernel
theorem dX12_clause_132 : decode cX12_clause 132 = .ok (.aload_n 0, 1) := by decide +kernel
theorem dX12_clause_133 : decode cX12_clause 133 = .ok (.iload_n 1, 1) := by decide +kernel
theorem dX12_clause_134 : decode cX12_clause 134 = .ok (.invokevirtual 228, 3) := by decide +kernel
theorem dX12_clause_137 : decode cX12_clause 137 = .ok (.goto 26, 3) := by decide +kernel
theorem dX12_clause_140 : decode cX12_clause 140 = .ok (.aload_n 0, 1) := by decide +kernel
theorem dX12_clause_141 : decode cX12_clause 141 = .ok (.iload_n 2, 1) := by decide +kernel
theorem dX12_clause_142 : decode cX12_clause 142 = .ok (.iconst 3, 1) := by decide +kernel
theorem dX12_clause_143 : decode cX12_clause 143 = .ok (.if_icmp .ne 7, 3) := by decide +kernel
theorem dX12_clause_146 : decode cX12_clause 146 = .ok (.iconst 1, 1) := by decide +kernel
theorem dX12_clause_147 : decode cX12_clause 147 = .ok (.goto 4, 3) := by decide +kernel
theorem dX12_clause_150 : decode cX12_clause 150 = .ok (.iconst 0, 1) := by decide +kernel
theorem dX12_clause_151 : decode cX12_clause 151 = .ok (.iload_n 1, 1) := by decide +kernel
theorem dX12_clause_152 : decode cX12_clause 152 = .ok (.invokevirtual 231, 3) := by decide +kernel
theorem dX12_clause_155 : decode cX12_clause 155 = .ok (.goto 8, 3) := by decide +kernel
theorem dX12_clause_158 : decode cX12_clause 158 = .ok (.aload_n 0, 1) := by decide +kernel
theorem dX12_clause_159 : decode cX12_clause 159 = .ok (.iload_n 1, 1) := by decide +kernel
theorem dX12_clause_160 : decode cX12_clause 160 = .ok (.invokevirtual 235, 3) := by decide +kernel
theorem dX12_clause_163 : decode cX12_clause 163 = .ok (.return_, 1) := by decide +kernel
theorem dX12_ends_0 : decode cX12_ends 0 = .ok (.aload_n 0, 1) := by decide +kernel
theorem dX12_ends_1 : decode cX12_ends 1 = .ok (.getfield 150, 3) := by decide +kernel
theorem dX12_ends_4 : decode cX12_ends 4 = .ok (.iconst (-1), 1) := by decide +kernel
theorem dX12_ends_5 : decode cX12_ends 5 = .ok (.if_icmp .ne 14, 3) := by decide +kernel
theorem dX12_ends_8 : decode cX12_ends 8 = .ok (.aload_n 0, 1) := by decide +kernel
theorem dX12_ends_9 : decode cX12_ends 9 = .ok (.getfield 126, 3) := by decide +kernel
theorem dX12_ends_12 : decode cX12_ends 12 = .ok (.ifCond .eq 7, 3) := by decide +kernel
theorem dX12_ends_15 : decode cX12_ends 15 = .ok (.aload_n 0, 1) := by decide +kernel
theorem dX12_ends_16 : decode cX12_ends 16 = .ok (.invokevirtual 167, 3) := by decide +kernel
theorem dX12_ends_19 : decode cX12_ends 19 = .ok (.aload_n 0, 1) := by decide +kernel
theorem dX12_ends_20 : decode cX12_ends 20 = .ok (.getfield 150, 3) := by decide +kernel
theorem dX12_ends_23 : decode cX12_ends 23 = .ok (.ireturn, 1) := by decide +kernel
theorem dX12_readLexicon_0 : decode cX12_readLexicon 0 = .ok (.aload_n 0, 1) := by decide +kernel
theorem dX12_readLexicon_1 : decode cX12_readLexicon 1 = .ok (.iconst 0, 1) := by decide +kernel
theorem dX12_readLexicon_2 : decode cX12_readLexicon 2 = .ok (.putfield 104, 3) := by decide +kernel
theorem dX12_readLexicon_5 : decode cX12_readLexicon 5 = .ok (.aload_n 0, 1) := by decide +kernel
theorem dX12_readLexicon_6 : decode cX12_readLexicon 6 = .ok (.iconst (-1), 1) := by decide +kernel
theorem dX12_readLexicon_7 : decode cX12_readLexicon 7 = .ok (.putfield 150, 3) := by decide +kernel
theorem dX12_readLexicon_10 : decode cX12_readLexicon 10 = .ok (.aload_n 0, 1) := by decide +kernel
theorem dX12_readLexicon_11 : decode cX12_readLexicon 11 = .ok (.iconst 0, 1) := by decide +kernel
theorem dX12_readLexicon_12 : decode cX12_readLexicon 12 = .ok (.putfield 174, 3) := by decide +kernel
theorem dX12_readLexicon_15 : decode cX12_readLexicon 15 = .ok (.aload_n 0, 1) := by decide +kernel
theorem dX12_readLexicon_16 : decode cX12_readLexicon 16 = .ok (.iconst 0, 1) := by decide +kernel
theorem dX12_readLexicon_17 : decode cX12_readLexicon 17 = .ok (.putfield 181, 3) := by decide +kernel
theorem dX12_readLexicon_20 : decode cX12_readLexicon 20 = .ok (.iconst 0, 1) := by decide +kernel
theorem dX12_readLexicon_21 : decode cX12_readLexicon 21 = .ok (.istore_n 1, 1) := by decide +kernel
theorem dX12_readLexicon_22 : decode cX12_readLexicon 22 = .ok (.iload_n 1, 1) := by decide +kernel
theorem dX12_readLexicon_23 : decode cX12_readLexicon 23 = .ok (.bipush 48, 2) := by decide +kernel
theorem dX12_readLexicon_25 : decode cX12_readLexicon 25 = .ok (.if_icmp .ge 16, 3) := by decide +kernel
theorem dX12_readLexicon_28 : decode cX12_readLexicon 28 = .ok (.aload_n 0, 1) := by decide +kernel
theorem dX12_readLexicon_29 : decode cX12_readLexicon 29 = .ok (.getfield 23, 3) := by decide +kernel
theorem dX12_readLexicon_32 : decode cX12_readLexicon 32 = .ok (.iload_n 1, 1) := by decide +kernel
theorem dX12_readLexicon_33 : decode cX12_readLexicon 33 = .ok (.lconst 0, 1) := by decide +kernel
theorem dX12_readLexicon_34 : decode cX12_readLexicon 34 = .ok (.lastore, 1) := by decide +kernel
theorem dX12_readLexicon_35 : decode cX12_readLexicon 35 = .ok (.iinc 1 1, 3) := by decide +kernel
theorem dX12_readLexicon_38 : decode cX12_readLexicon 38 = .ok (.goto (-16), 3) := by decide +kernel
theorem dX12_readLexicon_41 : decode cX12_readLexicon 41 = .ok (.aload_n 0, 1) := by decide +kernel
theorem dX12_readLexicon_42 : decode cX12_readLexicon 42 = .ok (.invokevirtual 160, 3) := by decide +kernel
theorem dX12_readLexicon_45 : decode cX12_readLexicon 45 = .ok (.iconst 1, 1) := by decide +kernel
theorem dX12_readLexicon_46 : decode cX12_readLexicon 46 = .ok (.istore_n 1, 1) := by decide +kernel
theorem dX12_readLexicon_47 : decode cX12_readLexicon 47 = .ok (.iload_n 1, 1) := by decide +kernel
theorem dX12_readLexicon_48 : decode cX12_readLexicon 48 = .ok (.ifCond .eq 17, 3) := by decide +kernel
theorem dX12_readLexicon_51 : decode cX12_readLexicon 51 = .ok (.aload_n 0, 1) := by decide +kernel
theorem dX12_readLexicon_52 : decode cX12_readLexicon 52 = .ok (.invokevirtual 238, 3) := by decide +kernel
theorem dX12_readLexicon_55 : decode cX12_readLexicon 55 = .ok (.aload_n 0, 1) := by decide +kernel
theorem dX12_readLexicon_56 : decode cX12_readLexicon 56 = .ok (.bipush 59, 2) := by decide +kernel
theorem dX12_readLexicon_58 : decode cX12_readLexicon 58 = .ok (.invokevirtual 241, 3) := by decide +kernel
theorem dX12_readLexicon_61 : decode cX12_readLexicon 61 = .ok (.istore_n 1, 1) := by decide +kernel
theorem dX12_readLexicon_62 : decode cX12_readLexicon 62 = .ok (.goto (-15), 3) := by decide +kernel
theorem dX12_readLexicon_65 : decode cX12_readLexicon 65 = .ok (.aload_n 0, 1) := by decide +kernel
theorem dX12_readLexicon_66 : decode cX12_readLexicon 66 = .ok (.getfield 150, 3) := by decide +kernel
theorem dX12_readLexicon_69 : decode cX12_readLexicon 69 = .ok (.iconst (-1), 1) := by decide +kernel
theorem dX12_readLexicon_70 : decode cX12_readLexicon 70 = .ok (.if_icmp .ne 25, 3) := by decide +kernel
theorem dX12_readLexicon_73 : decode cX12_readLexicon 73 = .ok (.aload_n 0, 1) := by decide +kernel
theorem dX12_readLexicon_74 : decode cX12_readLexicon 74 = .ok (.getfield 126, 3) := by decide +kernel
theorem dX12_readLexicon_77 : decode cX12_readLexicon 77 = .ok (.ifCond .ne 18, 3) := by decide +kernel
theorem dX12_readLexicon_80 : decode cX12_readLexicon 80 = .ok (.aload_n 0, 1) := by decide +kernel
theorem dX12_readLexicon_81 : decode cX12_readLexicon 81 = .ok (.getfield 174, 3) := by decide +kernel
theorem dX12_readLexicon_84 : decode cX12_readLexicon 84 = .ok (.ifCond .ne 11, 3) := by decide +kernel
theorem dX12_readLexicon_87 : decode cX12_readLexicon 87 = .ok (.aload_n 0, 1) := by decide +kernel
theorem dX12_readLexicon_88 : decode cX12_readLexicon 88 = .ok (.aload_n 0, 1) := by decide +kernel
theorem dX12_readLexicon_89 : decode cX12_readLexicon 89 = .ok (.getfield 97, 3) := by decide +kernel
theorem dX12_readLexicon_92 : decode cX12_readLexicon 92 = .ok (.invokevirtual 153, 3) := by decide +kernel
theorem dX12_readLexicon_95 : decode cX12_readLexicon 95 = .ok (.aload_n 0, 1) := by decide +kernel
theorem dX12_readLexicon_96 : decode cX12_readLexicon 96 = .ok (.invokevirtual 244, 3) := by decide +kernel
theorem dX12_readLexicon_99 : decode cX12_readLexicon 99 = .ok (.ireturn, 1) := by decide +kernel
theorem dX12_readStep_0 : decode cX12_readStep 0 = .ok (.aload_n 0, 1) := by decide +kernel
theorem dX12_readStep_1 : decode cX12_readStep 1 = .ok (.getstatic 247, 3) := by decide +kernel
theorem dX12_readStep_4 : decode cX12_readStep 4 = .ok (.invokevirtual 177, 3) := by decide +kernel
theorem dX12_readStep_7 : decode cX12_readStep 7 = .ok (.ifCond .eq 7, 3) := by decide +kernel
theorem dX12_readStep_10 : decode cX12_readStep 10 = .ok (.iconst 0, 1) := by decide +kernel
theorem dX12_readStep_11 : decode cX12_readStep 11 = .ok (.goto 60, 3) := by decide +kernel
theorem dX12_readStep_14 : decode cX12_readStep 14 = .ok (.aload_n 0, 1) := by decide +kernel
theorem dX12_readStep_15 : decode cX12_readStep 15 = .ok (.getstatic 250, 3) := by decide +kernel
theorem dX12_readStep_18 : decode cX12_readStep 18 = .ok (.invokevirtual 177, 3) := by decide +kernel
theorem dX12_readStep_21 : decode cX12_readStep 21 = .ok (.ifCond .eq 7, 3) := by decide +kernel
theorem dX12_readStep_24 : decode cX12_readStep 24 = .ok (.iconst 1, 1) := by decide +kernel
theorem dX12_readStep_25 : decode cX12_readStep 25 = .ok (.goto 46, 3) := by decide +kernel
theorem dX12_readStep_28 : decode cX12_readStep 28 = .ok (.aload_n 0, 1) := by decide +kernel
theorem dX12_readStep_29 : decode cX12_readStep 29 = .ok (.getstatic 253, 3) := by decide +kernel
theorem dX12_readStep_32 : decode cX12_readStep 32 = .ok (.invokevirtual 177, 3) := by decide +kernel
theorem dX12_readStep_35 : decode cX12_readStep 35 = .ok (.ifCond .eq 7, 3) := by decide +kernel
theorem dX12_readStep_38 : decode cX12_readStep 38 = .ok (.iconst 2, 1) := by decide +kernel
theorem dX12_readStep_39 : decode cX12_readStep 39 = .ok (.goto 32, 3) := by decide +kernel
theorem dX12_readStep_42 : decode cX12_readStep 42 = .ok (.aload_n 0, 1) := by decide +kernel
theorem dX12_readStep_43 : decode cX12_readStep 43 = .ok (.getstatic 213, 3) := by decide +kernel
theorem dX12_readStep_46 : decode cX12_readStep 46 = .ok (.invokevirtual 177, 3) := by decide +kernel
theorem dX12_readStep_49 : decode cX12_readStep 49 = .ok (.ifCond .eq 7, 3) := by decide +kernel
theorem dX12_readStep_52 : decode cX12_readStep 52 = .ok (.iconst 3, 1) := by decide +kernel
theorem dX12_readStep_53 : decode cX12_readStep 53 = .ok (.goto 18, 3) := by decide +kernel
theorem dX12_readStep_56 : decode cX12_readStep 56 = .ok (.aload_n 0, 1) := by decide +kernel
theorem dX12_readStep_57 : decode cX12_readStep 57 = .ok (.getstatic 256, 3) := by decide +kernel
theorem dX12_readStep_60 : decode cX12_readStep 60 = .ok (.invokevirtual 177, 3) := by decide +kernel
theorem dX12_readStep_63 : decode cX12_readStep 63 = .ok (.ifCond .eq 7, 3) := by decide +kernel
theorem dX12_readStep_66 : decode cX12_readStep 66 = .ok (.iconst 4, 1) := by decide +kernel
theorem dX12_readStep_67 : decode cX12_readStep 67 = .ok (.goto 4, 3) := by decide +kernel
theorem dX12_readStep_70 : decode cX12_readStep 70 = .ok (.iconst (-1), 1) := by decide +kernel
theorem dX12_readStep_71 : decode cX12_readStep 71 = .ok (.istore_n 2, 1) := by decide +kernel
theorem dX12_readStep_72 : decode cX12_readStep 72 = .ok (.iload_n 2, 1) := by decide +kernel
theorem dX12_readStep_73 : decode cX12_readStep 73 = .ok (.iconst (-1), 1) := by decide +kernel
theorem dX12_readStep_74 : decode cX12_readStep 74 = .ok (.if_icmp .ne 8, 3) := by decide +kernel
theorem dX12_readStep_77 : decode cX12_readStep 77 = .ok (.aload_n 0, 1) := by decide +kernel
theorem dX12_readStep_78 : decode cX12_readStep 78 = .ok (.invokevirtual 167, 3) := by decide +kernel
theorem dX12_readStep_81 : decode cX12_readStep 81 = .ok (.return_, 1) := by decide +kernel
theorem dX12_readStep_82 : decode cX12_readStep 82 = .ok (.aload_n 0, 1) := by decide +kernel
theorem dX12_readStep_83 : decode cX12_readStep 83 = .ok (.invokevirtual 160, 3) := by decide +kernel
theorem dX12_readStep_86 : decode cX12_readStep 86 = .ok (.iconst 4, 1) := by decide +kernel
theorem dX12_readStep_87 : decode cX12_readStep 87 = .ok (.iload_n 1, 1) := by decide +kernel
theorem dX12_readStep_88 : decode cX12_readStep 88 = .ok (.imul, 1) := by decide +kernel
theorem dX12_readStep_89 : decode cX12_readStep 89 = .ok (.istore_n 3, 1) := by decide +kernel
theorem dX12_readStep_90 : decode cX12_readStep 90 = .ok (.aload_n 0, 1) := by decide +kernel
theorem dX12_readStep_91 : decode cX12_readStep 91 = .ok (.getfield 38, 3) := by decide +kernel
theorem dX12_readStep_94 : decode cX12_readStep 94 = .ok (.iload_n 3, 1) := by decide +kernel
theorem dX12_readStep_95 : decode cX12_readStep 95 = .ok (.iload_n 2, 1) := by decide +kernel
theorem dX12_readStep_96 : decode cX12_readStep 96 = .ok (.iastore, 1) := by decide +kernel
theorem dX12_readStep_97 : decode cX12_readStep 97 = .ok (.aload_n 0, 1) := by decide +kernel
theorem dX12_readStep_98 : decode cX12_readStep 98 = .ok (.getfield 38, 3) := by decide +kernel
theorem dX12_readStep_101 : decode cX12_readStep 101 = .ok (.iload_n 3, 1) := by decide +kernel
theorem dX12_readStep_102 : decode cX12_readStep 102 = .ok (.iconst 1, 1) := by decide +kernel
theorem dX12_readStep_103 : decode cX12_readStep 103 = .ok (.iadd, 1) := by decide +kernel
theorem dX12_readStep_104 : decode cX12_readStep 104 = .ok (.aload_n 0, 1) := by decide +kernel
theorem dX12_readStep_105 : decode cX12_readStep 105 = .ok (.iload_n 2, 1) := by decide +kernel
theorem dX12_readStep_106 : decode cX12_readStep 106 = .ok (.iconst 2, 1) := by decide +kernel
theorem dX12_readStep_107 : decode cX12_readStep 107 = .ok (.if_icmp .ne 7, 3) := by decide +kernel
theorem dX12_readStep_110 : decode cX12_readStep 110 = .ok (.iconst 1, 1) := by decide +kernel
theorem dX12_readStep_111 : decode cX12_readStep 111 = .ok (.goto 14, 3) := by decide +kernel
theorem dX12_readStep_114 : decode cX12_readStep 114 = .ok (.iload_n 2, 1) := by decide +kernel
theorem dX12_readStep_115 : decode cX12_readStep 115 = .ok (.iconst 2, 1) := by decide +kernel
theorem dX12_readStep_116 : decode cX12_readStep 116 = .ok (.if_icmp .ge 7, 3) := by decide +kernel
theorem dX12_readStep_119 : decode cX12_readStep 119 = .ok (.iconst 2, 1) := by decide +kernel
theorem dX12_readStep_120 : decode cX12_readStep 120 = .ok (.goto 5, 3) := by decide +kernel
theorem dX12_readStep_123 : decode cX12_readStep 123 = .ok (.bipush 9, 2) := by decide +kernel
theorem dX12_readStep_125 : decode cX12_readStep 125 = .ok (.invokevirtual 191, 3) := by decide +kernel
theorem dX12_readStep_128 : decode cX12_readStep 128 = .ok (.iastore, 1) := by decide +kernel
theorem dX12_readStep_129 : decode cX12_readStep 129 = .ok (.aload_n 0, 1) := by decide +kernel
theorem dX12_readStep_130 : decode cX12_readStep 130 = .ok (.getfield 38, 3) := by decide +kernel
theorem dX12_readStep_133 : decode cX12_readStep 133 = .ok (.iload_n 3, 1) := by decide +kernel
theorem dX12_readStep_134 : decode cX12_readStep 134 = .ok (.iconst 2, 1) := by decide +kernel
theorem dX12_readStep_135 : decode cX12_readStep 135 = .ok (.iadd, 1) := by decide +kernel
theorem dX12_readStep_136 : decode cX12_readStep 136 = .ok (.iload_n 2, 1) := by decide +kernel
theorem dX12_readStep_137 : decode cX12_readStep 137 = .ok (.ifCond .ne 12, 3) := by decide +kernel
theorem dX12_readStep_140 : decode cX12_readStep 140 = .ok (.aload_n 0, 1) := by decide +kernel
theorem dX12_readStep_141 : decode cX12_readStep 141 = .ok (.bipush 9, 2) := by decide +kernel
theorem dX12_readStep_143 : decode cX12_readStep 143 = .ok (.invokevirtual 191, 3) := by decide +kernel
theorem dX12_readStep_146 : decode cX12_readStep 146 = .ok (.goto 19, 3) := by decide +kernel
theorem dX12_readStep_149 : decode cX12_readStep 149 = .ok (.iload_n 2, 1) := by decide +kernel
theorem dX12_readStep_150 : decode cX12_readStep 150 = .ok (.iconst 2, 1) := by decide +kernel
theorem dX12_readStep_151 : decode cX12_readStep 151 = .ok (.if_icmp .le 11, 3) := by decide +kernel
theorem dX12_readStep_154 : decode cX12_readStep 154 = .ok (.aload_n 0, 1) := by decide +kernel
theorem dX12_readStep_155 : decode cX12_readStep 155 = .ok (.iconst 3, 1) := by decide +kernel
theorem dX12_readStep_156 : decode cX12_readStep 156 = .ok (.invokevirtual 191, 3) := by decide +kernel
theorem dX12_readStep_159 : decode cX12_readStep 159 = .ok (.goto 6, 3) := by decide +kernel
theorem dX12_readStep_162 : decode cX12_readStep 162 = .ok (.ldc_w 259, 3) := by decide +kernel
theorem dX12_readStep_165 : decode cX12_readStep 165 = .ok (.iastore, 1) := by decide +kernel
theorem dX12_readStep_166 : decode cX12_readStep 166 = .ok (.aload_n 0, 1) := by decide +kernel
theorem dX12_readStep_167 : decode cX12_readStep 167 = .ok (.getfield 38, 3) := by decide +kernel
theorem dX12_readStep_170 : decode cX12_readStep 170 = .ok (.iload_n 3, 1) := by decide +kernel
theorem dX12_readStep_171 : decode cX12_readStep 171 = .ok (.iconst 3, 1) := by decide +kernel
theorem dX12_readStep_172 : decode cX12_readStep 172 = .ok (.iadd, 1) := by decide +kernel
theorem dX12_readStep_173 : decode cX12_readStep 173 = .ok (.iload_n 2, 1) := by decide +kernel
theorem dX12_readStep_174 : decode cX12_readStep 174 = .ok (.ifCond .ne 13, 3) := by decide +kernel
theorem dX12_readStep_177 : decode cX12_readStep 177 = .ok (.aload_n 0, 1) := by decide +kernel
theorem dX12_readStep_178 : decode cX12_readStep 178 = .ok (.iconst 2, 1) := by decide +kernel
theorem dX12_readStep_179 : decode cX12_readStep 179 = .ok (.bipush 99, 2) := by decide +kernel
theorem dX12_readStep_181 : decode cX12_readStep 181 = .ok (.invokevirtual 170, 3) := by decide +kernel
theorem dX12_readStep_184 : decode cX12_readStep 184 = .ok (.goto 19, 3) := by decide +kernel
theorem dX12_readStep_187 : decode cX12_readStep 187 = .ok (.iload_n 2, 1) := by decide +kernel
theorem dX12_readStep_188 : decode cX12_readStep 188 = .ok (.iconst 2, 1) := by decide +kernel
theorem dX12_readStep_189 : decode cX12_readStep 189 = .ok (.if_icmp .le 11, 3) := by decide +kernel
theorem dX12_readStep_192 : decode cX12_readStep 192 = .ok (.aload_n 0, 1) := by decide +kernel
theorem dX12_readStep_193 : decode cX12_readStep 193 = .ok (.iconst 1, 1) := by decide +kernel
theorem dX12_readStep_194 : decode cX12_readStep 194 = .ok (.invokevirtual 191, 3) := by decide +kernel
theorem dX12_readStep_197 : decode cX12_readStep 197 = .ok (.goto 6, 3) := by decide +kernel
theorem dX12_readStep_200 : decode cX12_readStep 200 = .ok (.ldc_w 259, 3) := by decide +kernel
theorem dX12_readStep_203 : decode cX12_readStep 203 = .ok (.iastore, 1) := by decide +kernel
theorem dX12_readStep_204 : decode cX12_readStep 204 = .ok (.aload_n 0, 1) := by decide +kernel
theorem dX12_readStep_205 : decode cX12_readStep 205 = .ok (.getfield 41, 3) := by decide +kernel
theorem dX12_readStep_208 : decode cX12_readStep 208 = .ok (.iload_n 1, 1) := by decide +kernel
theorem dX12_readStep_209 : decode cX12_readStep 209 = .ok (.iload_n 2, 1) := by decide +kernel
theorem dX12_readStep_210 : decode cX12_readStep 210 = .ok (.iconst 3, 1) := by decide +kernel
theorem dX12_readStep_211 : decode cX12_readStep 211 = .ok (.if_icmp .ne 10, 3) := by decide +kernel
theorem dX12_readStep_214 : decode cX12_readStep 214 = .ok (.aload_n 0, 1) := by decide +kernel
theorem dX12_readStep_215 : decode cX12_readStep 215 = .ok (.invokevirtual 187, 3) := by decide +kernel
theorem dX12_readStep_218 : decode cX12_readStep 218 = .ok (.goto 4, 3) := by decide +kernel
theorem dX12_readStep_221 : decode cX12_readStep 221 = .ok (.lconst 0, 1) := by decide +kernel
theorem dX12_readStep_222 : decode cX12_readStep 222 = .ok (.lastore, 1) := by decide +kernel
theorem dX12_readStep_223 : decode cX12_readStep 223 = .ok (.return_, 1) := by decide +kernel
theorem dX12_readScript_0 : decode cX12_readScript 0 = .ok (.aload_n 0, 1) := by decide +kernel
theorem dX12_readScript_1 : decode cX12_readScript 1 = .ok (.iconst 0, 1) := by decide +kernel
theorem dX12_readScript_2 : decode cX12_readScript 2 = .ok (.putfield 104, 3) := by decide +kernel
theorem dX12_readScript_5 : decode cX12_readScript 5 = .ok (.aload_n 0, 1) := by decide +kernel
theorem dX12_readScript_6 : decode cX12_readScript 6 = .ok (.iconst (-1), 1) := by decide +kernel
theorem dX12_readScript_7 : decode cX12_readScript 7 = .ok (.putfield 150, 3) := by decide +kernel
theorem dX12_readScript_10 : decode cX12_readScript 10 = .ok (.aload_n 0, 1) := by decide +kernel
theorem dX12_readScript_11 : decode cX12_readScript 11 = .ok (.getfield 44, 3) := by decide +kernel
theorem dX12_readScript_14 : decode cX12_readScript 14 = .ok (.iload_n 1, 1) := by decide +kernel
theorem dX12_readScript_15 : decode cX12_readScript 15 = .ok (.iconst 0, 1) := by decide +kernel
theorem dX12_readScript_16 : decode cX12_readScript 16 = .ok (.iastore, 1) := by decide +kernel
theorem dX12_readScript_17 : decode cX12_readScript 17 = .ok (.aload_n 0, 1) := by decide +kernel
theorem dX12_readScript_18 : decode cX12_readScript 18 = .ok (.invokevirtual 160, 3) := by decide +kernel
theorem dX12_readScript_21 : decode cX12_readScript 21 = .ok (.iconst 1, 1) := by decide +kernel
theorem dX12_readScript_22 : decode cX12_readScript 22 = .ok (.istore_n 2, 1) := by decide +kernel
theorem dX12_readScript_23 : decode cX12_readScript 23 = .ok (.iload_n 2, 1) := by decide +kernel
theorem dX12_readScript_24 : decode cX12_readScript 24 = .ok (.ifCond .eq 57, 3) := by decide +kernel
theorem dX12_readScript_27 : decode cX12_readScript 27 = .ok (.aload_n 0, 1) := by decide +kernel
theorem dX12_readScript_28 : decode cX12_readScript 28 = .ok (.bipush 12, 2) := by decide +kernel
theorem dX12_readScript_30 : decode cX12_readScript 30 = .ok (.iload_n 1, 1) := by decide +kernel
theorem dX12_readScript_31 : decode cX12_readScript 31 = .ok (.imul, 1) := by decide +kernel
theorem dX12_readScript_32 : decode cX12_readScript 32 = .ok (.aload_n 0, 1) := by decide +kernel
theorem dX12_readScript_33 : decode cX12_readScript 33 = .ok (.getfield 44, 3) := by decide +kernel
theorem dX12_readScript_36 : decode cX12_readScript 36 = .ok (.iload_n 1, 1) := by decide +kernel
theorem dX12_readScript_37 : decode cX12_readScript 37 = .ok (.iaload, 1) := by decide +kernel
theorem dX12_readScript_38 : decode cX12_readScript 38 = .ok (.iadd, 1) := by decide +kernel
theorem dX12_readScript_39 : decode cX12_readScript 39 = .ok (.invokevirtual 260, 3) := by decide +kernel
theorem dX12_readScript_42 : decode cX12_readScript 42 = .ok (.aload_n 0, 1) := by decide +kernel
theorem dX12_readScript_43 : decode cX12_readScript 43 = .ok (.getfield 44, 3) := by decide +kernel
theorem dX12_readScript_46 : decode cX12_readScript 46 = .ok (.iload_n 1, 1) := by decide +kernel
theorem dX12_readScript_47 : decode cX12_readScript 47 = .ok (.dup2, 1) := by decide +kernel
theorem dX12_readScript_48 : decode cX12_readScript 48 = .ok (.iaload, 1) := by decide +kernel
theorem dX12_readScript_49 : decode cX12_readScript 49 = .ok (.iconst 1, 1) := by decide +kernel
theorem dX12_readScript_50 : decode cX12_readScript 50 = .ok (.iadd, 1) := by decide +kernel
theorem dX12_readScript_51 : decode cX12_readScript 51 = .ok (.iastore, 1) := by decide +kernel
theorem dX12_readScript_52 : decode cX12_readScript 52 = .ok (.aload_n 0, 1) := by decide +kernel
theorem dX12_readScript_53 : decode cX12_readScript 53 = .ok (.getfield 44, 3) := by decide +kernel
theorem dX12_readScript_56 : decode cX12_readScript 56 = .ok (.iload_n 1, 1) := by decide +kernel
theorem dX12_readScript_57 : decode cX12_readScript 57 = .ok (.iaload, 1) := by decide +kernel
theorem dX12_readScript_58 : decode cX12_readScript 58 = .ok (.bipush 12, 2) := by decide +kernel
theorem dX12_readScript_60 : decode cX12_readScript 60 = .ok (.if_icmp .ge 16, 3) := by decide +kernel
theorem dX12_readScript_63 : decode cX12_readScript 63 = .ok (.aload_n 0, 1) := by decide +kernel
theorem dX12_readScript_64 : decode cX12_readScript 64 = .ok (.bipush 59, 2) := by decide +kernel
theorem dX12_readScript_66 : decode cX12_readScript 66 = .ok (.invokevirtual 241, 3) := by decide +kernel
theorem dX12_readScript_69 : decode cX12_readScript 69 = .ok (.ifCond .eq 7, 3) := by decide +kernel
theorem dX12_readScript_72 : decode cX12_readScript 72 = .ok (.iconst 1, 1) := by decide +kernel
theorem dX12_readScript_73 : decode cX12_readScript 73 = .ok (.goto 4, 3) := by decide +kernel
theorem dX12_readScript_76 : decode cX12_readScript 76 = .ok (.iconst 0, 1) := by decide +kernel
theorem dX12_readScript_77 : decode cX12_readScript 77 = .ok (.istore_n 2, 1) := by decide +kernel
theorem dX12_readScript_78 : decode cX12_readScript 78 = .ok (.goto (-55), 3) := by decide +kernel
theorem dX12_readScript_81 : decode cX12_readScript 81 = .ok (.aload_n 0, 1) := by decide +kernel
theorem dX12_readScript_82 : decode cX12_readScript 82 = .ok (.invokevirtual 244, 3) := by decide +kernel
theorem dX12_readScript_85 : decode cX12_readScript 85 = .ok (.ireturn, 1) := by decide +kernel
theorem dX12_fault_0 : decode cX12_fault 0 = .ok (.iload_n 1, 1) := by decide +kernel
theorem dX12_fault_1 : decode cX12_fault 1 = .ok (.ifCond .ne 10, 3) := by decide +kernel
theorem dX12_fault_4 : decode cX12_fault 4 = .ok (.aload_n 0, 1) := by decide +kernel
theorem dX12_fault_5 : decode cX12_fault 5 = .ok (.invokevirtual 263, 3) := by decide +kernel
theorem dX12_fault_8 : decode cX12_fault 8 = .ok (.goto 18, 3) := by decide +kernel
theorem dX12_fault_11 : decode cX12_fault 11 = .ok (.iload_n 1, 1) := by decide +kernel
theorem dX12_fault_12 : decode cX12_fault 12 = .ok (.iconst 1, 1) := by decide +kernel
theorem dX12_fault_13 : decode cX12_fault 13 = .ok (.if_icmp .ne 11, 3) := by decide +kernel
theorem dX12_fault_16 : decode cX12_fault 16 = .ok (.aload_n 0, 1) := by decide +kernel
theorem dX12_fault_17 : decode cX12_fault 17 = .ok (.iconst 4, 1) := by decide +kernel
theorem dX12_fault_18 : decode cX12_fault 18 = .ok (.invokevirtual 266, 3) := by decide +kernel
theorem dX12_fault_21 : decode cX12_fault 21 = .ok (.goto 5, 3) := by decide +kernel
theorem dX12_fault_24 : decode cX12_fault 24 = .ok (.bipush (-2), 2) := by decide +kernel
theorem dX12_fault_26 : decode cX12_fault 26 = .ok (.ireturn, 1) := by decide +kernel
theorem dX12_tapeWord_0 : decode cX12_tapeWord 0 = .ok (.aload_n 0, 1) := by decide +kernel
theorem dX12_tapeWord_1 : decode cX12_tapeWord 1 = .ok (.iconst 0, 1) := by decide +kernel
theorem dX12_tapeWord_2 : decode cX12_tapeWord 2 = .ok (.putfield 104, 3) := by decide +kernel
theorem dX12_tapeWord_5 : decode cX12_tapeWord 5 = .ok (.aload_n 0, 1) := by decide +kernel
theorem dX12_tapeWord_6 : decode cX12_tapeWord 6 = .ok (.iconst (-1), 1) := by decide +kernel
theorem dX12_tapeWord_7 : decode cX12_tapeWord 7 = .ok (.putfield 150, 3) := by decide +kernel
theorem dX12_tapeWord_10 : decode cX12_tapeWord 10 = .ok (.aload_n 0, 1) := by decide +kernel
theorem dX12_tapeWord_11 : decode cX12_tapeWord 11 = .ok (.invokevirtual 160, 3) := by decide +kernel
theorem dX12_tapeWord_14 : decode cX12_tapeWord 14 = .ok (.aload_n 0, 1) := by decide +kernel
theorem dX12_tapeWord_15 : decode cX12_tapeWord 15 = .ok (.invokevirtual 187, 3) := by decide +kernel
theorem dX12_tapeWord_18 : decode cX12_tapeWord 18 = .ok (.lstore_n 1, 1) := by decide +kernel
theorem dX12_tapeWord_19 : decode cX12_tapeWord 19 = .ok (.aload_n 0, 1) := by decide +kernel
theorem dX12_tapeWord_20 : decode cX12_tapeWord 20 = .ok (.invokevirtual 244, 3) := by decide +kernel
theorem dX12_tapeWord_23 : decode cX12_tapeWord 23 = .ok (.iconst (-1), 1) := by decide +kernel
theorem dX12_tapeWord_24 : decode cX12_tapeWord 24 = .ok (.if_icmp .ne 7, 3) := by decide +kernel
theorem dX12_tapeWord_27 : decode cX12_tapeWord 27 = .ok (.lload_n 1, 1) := by decide +kernel
theorem dX12_tapeWord_28 : decode cX12_tapeWord 28 = .ok (.goto 4, 3) := by decide +kernel
theorem dX12_tapeWord_31 : decode cX12_tapeWord 31 = .ok (.lconst 0, 1) := by decide +kernel
theorem dX12_tapeWord_32 : decode cX12_tapeWord 32 = .ok (.lreturn, 1) := by decide +kernel
theorem dX12_isLexicon_0 : decode cX12_isLexicon 0 = .ok (.aload_n 0, 1) := by decide +kernel
theorem dX12_isLexicon_1 : decode cX12_isLexicon 1 = .ok (.getfield 269, 3) := by decide +kernel
theorem dX12_isLexicon_4 : decode cX12_isLexicon 4 = .ok (.ifCond .le 7, 3) := by decide +kernel
theorem dX12_isLexicon_7 : decode cX12_isLexicon 7 = .ok (.iconst 1, 1) := by decide +kernel
theorem dX12_isLexicon_8 : decode cX12_isLexicon 8 = .ok (.goto 4, 3) := by decide +kernel
theorem dX12_isLexicon_11 : decode cX12_isLexicon 11 = .ok (.iconst 0, 1) := by decide +kernel
theorem dX12_isLexicon_12 : decode cX12_isLexicon 12 = .ok (.ireturn, 1) := by decide +kernel
theorem dX12_isNoun_0 : decode cX12_isNoun 0 = .ok (.iload_n 1, 1) := by decide +kernel
theorem dX12_isNoun_1 : decode cX12_isNoun 1 = .ok (.iconst 0, 1) := by decide +kernel
theorem dX12_isNoun_2 : decode cX12_isNoun 2 = .ok (.aload_n 0, 1) := by decide +kernel
theorem dX12_isNoun_3 : decode cX12_isNoun 3 = .ok (.getfield 269, 3) := by decide +kernel
theorem dX12_isNoun_6 : decode cX12_isNoun 6 = .ok (.iconst 1, 1) := by decide +kernel
theorem dX12_isNoun_7 : decode cX12_isNoun 7 = .ok (.isub, 1) := by decide +kernel
theorem dX12_isNoun_8 : decode cX12_isNoun 8 = .ok (.invokestatic 100, 3) := by decide +kernel
theorem dX12_isNoun_11 : decode cX12_isNoun 11 = .ok (.ireturn, 1) := by decide +kernel
theorem dX12_isMessage_0 : decode cX12_isMessage 0 = .ok (.aload_n 0, 1) := by decide +kernel
theorem dX12_isMessage_1 : decode cX12_isMessage 1 = .ok (.invokevirtual 272, 3) := by decide +kernel
theorem dX12_isMessage_4 : decode cX12_isMessage 4 = .ok (.ifCond .eq 21, 3) := by decide +kernel
theorem dX12_isMessage_7 : decode cX12_isMessage 7 = .ok (.iload_n 1, 1) := by decide +kernel
theorem dX12_isMessage_8 : decode cX12_isMessage 8 = .ok (.iconst 0, 1) := by decide +kernel
theorem dX12_isMessage_9 : decode cX12_isMessage 9 = .ok (.aload_n 0, 1) := by decide +kernel
theorem dX12_isMessage_10 : decode cX12_isMessage 10 = .ok (.getfield 275, 3) := by decide +kernel
theorem dX12_isMessage_13 : decode cX12_isMessage 13 = .ok (.iconst 1, 1) := by decide +kernel
theorem dX12_isMessage_14 : decode cX12_isMessage 14 = .ok (.isub, 1) := by decide +kernel
theorem dX12_isMessage_15 : decode cX12_isMessage 15 = .ok (.invokestatic 100, 3) := by decide +kernel
theorem dX12_isMessage_18 : decode cX12_isMessage 18 = .ok (.ifCond .eq 7, 3) := by decide +kernel
theorem dX12_isMessage_21 : decode cX12_isMessage 21 = .ok (.iconst 1, 1) := by decide +kernel
theorem dX12_isMessage_22 : decode cX12_isMessage 22 = .ok (.goto 4, 3) := by decide +kernel
theorem dX12_isMessage_25 : decode cX12_isMessage 25 = .ok (.iconst 0, 1) := by decide +kernel
theorem dX12_isMessage_26 : decode cX12_isMessage 26 = .ok (.ireturn, 1) := by decide +kernel
theorem dX12_isHole_0 : decode cX12_isHole 0 = .ok (.aload_n 0, 1) := by decide +kernel
theorem dX12_isHole_1 : decode cX12_isHole 1 = .ok (.invokevirtual 272, 3) := by decide +kernel
theorem dX12_isHole_4 : decode cX12_isHole 4 = .ok (.ifCond .eq 16, 3) := by decide +kernel
theorem dX12_isHole_7 : decode cX12_isHole 7 = .ok (.iload_n 1, 1) := by decide +kernel
theorem dX12_isHole_8 : decode cX12_isHole 8 = .ok (.iconst 0, 1) := by decide +kernel
theorem dX12_isHole_9 : decode cX12_isHole 9 = .ok (.iconst 2, 1) := by decide +kernel
theorem dX12_isHole_10 : decode cX12_isHole 10 = .ok (.invokestatic 100, 3) := by decide +kernel
theorem dX12_isHole_13 : decode cX12_isHole 13 = .ok (.ifCond .eq 7, 3) := by decide +kernel
theorem dX12_isHole_16 : decode cX12_isHole 16 = .ok (.iconst 1, 1) := by decide +kernel
theorem dX12_isHole_17 : decode cX12_isHole 17 = .ok (.goto 4, 3) := by decide +kernel
theorem dX12_isHole_20 : decode cX12_isHole 20 = .ok (.iconst 0, 1) := by decide +kernel
theorem dX12_isHole_21 : decode cX12_isHole 21 = .ok (.ireturn, 1) := by decide +kernel
theorem dX12_nounIn_0 : decode cX12_nounIn 0 = .ok (.aload_n 0, 1) := by decide +kernel
theorem dX12_nounIn_1 : decode cX12_nounIn 1 = .ok (.getfield 47, 3) := by decide +kernel
theorem dX12_nounIn_4 : decode cX12_nounIn 4 = .ok (.iconst 1, 1) := by decide +kernel
theorem dX12_nounIn_5 : decode cX12_nounIn 5 = .ok (.iconst 2, 1) := by decide +kernel
theorem dX12_nounIn_6 : decode cX12_nounIn 6 = .ok (.iload_n 1, 1) := by decide +kernel
theorem dX12_nounIn_7 : decode cX12_nounIn 7 = .ok (.imul, 1) := by decide +kernel
theorem dX12_nounIn_8 : decode cX12_nounIn 8 = .ok (.iadd, 1) := by decide +kernel
theorem dX12_nounIn_9 : decode cX12_nounIn 9 = .ok (.laload, 1) := by decide +kernel
theorem dX12_nounIn_10 : decode cX12_nounIn 10 = .ok (.l2i, 1) := by decide +kernel
theorem dX12_nounIn_11 : decode cX12_nounIn 11 = .ok (.ireturn, 1) := by decide +kernel
theorem dX12_countIn_0 : decode cX12_countIn 0 = .ok (.aload_n 0, 1) := by decide +kernel
theorem dX12_countIn_1 : decode cX12_countIn 1 = .ok (.getfield 47, 3) := by decide +kernel
theorem dX12_countIn_4 : decode cX12_countIn 4 = .ok (.iconst 1, 1) := by decide +kernel
theorem dX12_countIn_5 : decode cX12_countIn 5 = .ok (.iconst 2, 1) := by decide +kernel
theorem dX12_countIn_6 : decode cX12_countIn 6 = .ok (.iload_n 1, 1) := by decide +kernel
theorem dX12_countIn_7 : decode cX12_countIn 7 = .ok (.imul, 1) := by decide +kernel
theorem dX12_countIn_8 : decode cX12_countIn 8 = .ok (.iadd, 1) := by decide +kernel
theorem dX12_countIn_9 : decode cX12_countIn 9 = .ok (.iconst 1, 1) := by decide +kernel
theorem dX12_countIn_10 : decode cX12_countIn 10 = .ok (.iadd, 1) := by decide +kernel
theorem dX12_countIn_11 : decode cX12_countIn 11 = .ok (.laload, 1) := by decide +kernel
theorem dX12_countIn_12 : decode cX12_countIn 12 = .ok (.l2i, 1) := by decide +kernel
theorem dX12_countIn_13 : decode cX12_countIn 13 = .ok (.ireturn, 1) := by decide +kernel
theorem dX12_numberIn_0 : decode cX12_numberIn 0 = .ok (.aload_n 0, 1) := by decide +kernel
theorem dX12_numberIn_1 : decode cX12_numberIn 1 = .ok (.iload_n 1, 1) := by decide +kernel
theorem dX12_numberIn_2 : decode cX12_numberIn 2 = .ok (.invokevirtual 278, 3) := by decide +kernel
theorem dX12_numberIn_5 : decode cX12_numberIn 5 = .ok (.iconst 1, 1) := by decide +kernel
theorem dX12_numberIn_6 : decode cX12_numberIn 6 = .ok (.if_icmp .ne 7, 3) := by decide +kernel
theorem dX12_numberIn_9 : decode cX12_numberIn 9 = .ok (.iconst 0, 1) := by decide +kernel
theorem dX12_numberIn_10 : decode cX12_numberIn 10 = .ok (.goto 4, 3) := by decide +kernel
theorem dX12_numberIn_13 : decode cX12_numberIn 13 = .ok (.iconst 1, 1) := by decide +kernel
theorem dX12_numberIn_14 : decode cX12_numberIn 14 = .ok (.ireturn, 1) := by decide +kernel
theorem dX12_takeLexicon_0 : decode cX12_takeLexicon 0 = .ok (.aload_n 0, 1) := by decide +kernel
theorem dX12_takeLexicon_1 : decode cX12_takeLexicon 1 = .ok (.aload_n 0, 1) := by decide +kernel
theorem dX12_takeLexicon_2 : decode cX12_takeLexicon 2 = .ok (.getfield 174, 3) := by decide +kernel
theorem dX12_takeLexicon_5 : decode cX12_takeLexicon 5 = .ok (.putfield 269, 3) := by decide +kernel
theorem dX12_takeLexicon_8 : decode cX12_takeLexicon 8 = .ok (.aload_n 0, 1) := by decide +kernel
theorem dX12_takeLexicon_9 : decode cX12_takeLexicon 9 = .ok (.aload_n 0, 1) := by decide +kernel
theorem dX12_takeLexicon_10 : decode cX12_takeLexicon 10 = .ok (.getfield 181, 3) := by decide +kernel
theorem dX12_takeLexicon_13 : decode cX12_takeLexicon 13 = .ok (.putfield 275, 3) := by decide +kernel
theorem dX12_takeLexicon_16 : decode cX12_takeLexicon 16 = .ok (.iconst 0, 1) := by decide +kernel
theorem dX12_takeLexicon_17 : decode cX12_takeLexicon 17 = .ok (.istore_n 1, 1) := by decide +kernel
theorem dX12_takeLexicon_18 : decode cX12_takeLexicon 18 = .ok (.iload_n 1, 1) := by decide +kernel
theorem dX12_takeLexicon_19 : decode cX12_takeLexicon 19 = .ok (.sipush 236, 3) := by decide +kernel
theorem dX12_takeLexicon_22 : decode cX12_takeLexicon 22 = .ok (.if_icmp .ge 16, 3) := by decide +kernel
theorem dX12_takeLexicon_25 : decode cX12_takeLexicon 25 = .ok (.aload_n 0, 1) := by decide +kernel
theorem dX12_takeLexicon_26 : decode cX12_takeLexicon 26 = .ok (.getfield 47, 3) := by decide +kernel
theorem dX12_takeLexicon_29 : decode cX12_takeLexicon 29 = .ok (.iload_n 1, 1) := by decide +kernel
theorem dX12_takeLexicon_30 : decode cX12_takeLexicon 30 = .ok (.lconst 0, 1) := by decide +kernel
theorem dX12_takeLexicon_31 : decode cX12_takeLexicon 31 = .ok (.lastore, 1) := by decide +kernel
theorem dX12_takeLexicon_32 : decode cX12_takeLexicon 32 = .ok (.iinc 1 1, 3) := by decide +kernel
theorem dX12_takeLexicon_35 : decode cX12_takeLexicon 35 = .ok (.goto (-17), 3) := by decide +kernel
theorem dX12_takeLexicon_38 : decode cX12_takeLexicon 38 = .ok (.iconst 0, 1) := by decide +kernel
theorem dX12_takeLexicon_39 : decode cX12_takeLexicon 39 = .ok (.istore_n 1, 1) := by decide +kernel
theorem dX12_takeLexicon_40 : decode cX12_takeLexicon 40 = .ok (.iload_n 1, 1) := by decide +kernel
theorem dX12_takeLexicon_41 : decode cX12_takeLexicon 41 = .ok (.iconst 3, 1) := by decide +kernel
theorem dX12_takeLexicon_42 : decode cX12_takeLexicon 42 = .ok (.if_icmp .ge 22, 3) := by decide +kernel
theorem dX12_takeLexicon_45 : decode cX12_takeLexicon 45 = .ok (.aload_n 0, 1) := by decide +kernel
theorem dX12_takeLexicon_46 : decode cX12_takeLexicon 46 = .ok (.getfield 47, 3) := by decide +kernel
theorem dX12_takeLexicon_49 : decode cX12_takeLexicon 49 = .ok (.iconst 1, 1) := by decide +kernel
theorem dX12_takeLexicon_50 : decode cX12_takeLexicon 50 = .ok (.iconst 2, 1) := by decide +kernel
theorem dX12_takeLexicon_51 : decode cX12_takeLexicon 51 = .ok (.iload_n 1, 1) := by decide +kernel
theorem dX12_takeLexicon_52 : decode cX12_takeLexicon 52 = .ok (.imul, 1) := by decide +kernel
theorem dX12_takeLexicon_53 : decode cX12_takeLexicon 53 = .ok (.iadd, 1) := by decide +kernel
theorem dX12_takeLexicon_54 : decode cX12_takeLexicon 54 = .ok (.ldc2_w 281, 3) := by decide +kernel
theorem dX12_takeLexicon_57 : decode cX12_takeLexicon 57 = .ok (.lastore, 1) := by decide +kernel
theorem dX12_takeLexicon_58 : decode cX12_takeLexicon 58 = .ok (.iinc 1 1, 3) := by decide +kernel
theorem dX12_takeLexicon_61 : decode cX12_takeLexicon 61 = .ok (.goto (-21), 3) := by decide +kernel
theorem dX12_takeLexicon_64 : decode cX12_takeLexicon 64 = .ok (.iconst 0, 1) := by decide +kernel
theorem dX12_takeLexicon_65 : decode cX12_takeLexicon 65 = .ok (.istore_n 1, 1) := by decide +kernel
theorem dX12_takeLexicon_66 : decode cX12_takeLexicon 66 = .ok (.iload_n 1, 1) := by decide +kernel
theorem dX12_takeLexicon_67 : decode cX12_takeLexicon 67 = .ok (.aload_n 0, 1) := by decide +kernel
theorem dX12_takeLexicon_68 : decode cX12_takeLexicon 68 = .ok (.getfield 269, 3) := by decide +kernel
theorem dX12_takeLexicon_71 : decode cX12_takeLexicon 71 = .ok (.if_icmp .ge 72, 3) := by decide +kernel
theorem dX12_takeLexicon_74 : decode cX12_takeLexicon 74 = .ok (.aload_n 0, 1) := by decide +kernel
theorem dX12_takeLexicon_75 : decode cX12_takeLexicon 75 = .ok (.getfield 53, 3) := by decide +kernel
theorem dX12_takeLexicon_78 : decode cX12_takeLexicon 78 = .ok (.iload_n 1, 1) := by decide +kernel
theorem dX12_takeLexicon_79 : decode cX12_takeLexicon 79 = .ok (.aload_n 0, 1) := by decide +kernel
theorem dX12_takeLexicon_80 : decode cX12_takeLexicon 80 = .ok (.getfield 13, 3) := by decide +kernel
theorem dX12_takeLexicon_83 : decode cX12_takeLexicon 83 = .ok (.iload_n 1, 1) := by decide +kernel
theorem dX12_takeLexicon_84 : decode cX12_takeLexicon 84 = .ok (.laload, 1) := by decide +kernel
theorem dX12_takeLexicon_85 : decode cX12_takeLexicon 85 = .ok (.lastore, 1) := by decide +kernel
theorem dX12_takeLexicon_86 : decode cX12_takeLexicon 86 = .ok (.aload_n 0, 1) := by decide +kernel
theorem dX12_takeLexicon_87 : decode cX12_takeLexicon 87 = .ok (.getfield 56, 3) := by decide +kernel
theorem dX12_takeLexicon_90 : decode cX12_takeLexicon 90 = .ok (.iload_n 1, 1) := by decide +kernel
theorem dX12_takeLexicon_91 : decode cX12_takeLexicon 91 = .ok (.aload_n 0, 1) := by decide +kernel
theorem dX12_takeLexicon_92 : decode cX12_takeLexicon 92 = .ok (.getfield 17, 3) := by decide +kernel
theorem dX12_takeLexicon_95 : decode cX12_takeLexicon 95 = .ok (.iload_n 1, 1) := by decide +kernel
theorem dX12_takeLexicon_96 : decode cX12_takeLexicon 96 = .ok (.iaload, 1) := by decide +kernel
theorem dX12_takeLexicon_97 : decode cX12_takeLexicon 97 = .ok (.iastore, 1) := by decide +kernel
theorem dX12_takeLexicon_98 : decode cX12_takeLexicon 98 = .ok (.iconst 0, 1) := by decide +kernel
theorem dX12_takeLexicon_99 : decode cX12_takeLexicon 99 = .ok (.istore_n 2, 1) := by decide +kernel
theorem dX12_takeLexicon_100 : decode cX12_takeLexicon 100 = .ok (.iload_n 2, 1) := by decide +kernel
theorem dX12_takeLexicon_101 : decode cX12_takeLexicon 101 = .ok (.bipush 8, 2) := by decide +kernel
theorem dX12_takeLexicon_103 : decode cX12_takeLexicon 103 = .ok (.if_icmp .ge 34, 3) := by decide +kernel
theorem dX12_takeLexicon_106 : decode cX12_takeLexicon 106 = .ok (.aload_n 0, 1) := by decide +kernel
theorem dX12_takeLexicon_107 : decode cX12_takeLexicon 107 = .ok (.getfield 47, 3) := by decide +kernel
theorem dX12_takeLexicon_110 : decode cX12_takeLexicon 110 = .ok (.bipush 7, 2) := by decide +kernel
theorem dX12_takeLexicon_112 : decode cX12_takeLexicon 112 = .ok (.bipush 8, 2) := by decide +kernel
theorem dX12_takeLexicon_114 : decode cX12_takeLexicon 114 = .ok (.iload_n 1, 1) := by decide +kernel
theorem dX12_takeLexicon_115 : decode cX12_takeLexicon 115 = .ok (.imul, 1) := by decide +kernel
theorem dX12_takeLexicon_116 : decode cX12_takeLexicon 116 = .ok (.iadd, 1) := by decide +kernel
theorem dX12_takeLexicon_117 : decode cX12_takeLexicon 117 = .ok (.iload_n 2, 1) := by decide +kernel
theorem dX12_takeLexicon_118 : decode cX12_takeLexicon 118 = .ok (.iadd, 1) := by decide +kernel
theorem dX12_takeLexicon_119 : decode cX12_takeLexicon 119 = .ok (.aload_n 0, 1) := by decide +kernel
theorem dX12_takeLexicon_120 : decode cX12_takeLexicon 120 = .ok (.getfield 20, 3) := by decide +kernel
theorem dX12_takeLexicon_123 : decode cX12_takeLexicon 123 = .ok (.bipush 8, 2) := by decide +kernel
theorem dX12_takeLexicon_125 : decode cX12_takeLexicon 125 = .ok (.iload_n 1, 1) := by decide +kernel
theorem dX12_takeLexicon_126 : decode cX12_takeLexicon 126 = .ok (.imul, 1) := by decide +kernel
theorem dX12_takeLexicon_127 : decode cX12_takeLexicon 127 = .ok (.iload_n 2, 1) := by decide +kernel
theorem dX12_takeLexicon_128 : decode cX12_takeLexicon 128 = .ok (.iadd, 1) := by decide +kernel
theorem dX12_takeLexicon_129 : decode cX12_takeLexicon 129 = .ok (.laload, 1) := by decide +kernel
theorem dX12_takeLexicon_130 : decode cX12_takeLexicon 130 = .ok (.lastore, 1) := by decide +kernel
theorem dX12_takeLexicon_131 : decode cX12_takeLexicon 131 = .ok (.iinc 2 1, 3) := by decide +kernel
theorem dX12_takeLexicon_134 : decode cX12_takeLexicon 134 = .ok (.goto (-34), 3) := by decide +kernel
theorem dX12_takeLexicon_137 : decode cX12_takeLexicon 137 = .ok (.iinc 1 1, 3) := by decide +kernel
theorem dX12_takeLexicon_140 : decode cX12_takeLexicon 140 = .ok (.goto (-74), 3) := by decide +kernel
theorem dX12_takeLexicon_143 : decode cX12_takeLexicon 143 = .ok (.iconst 0, 1) := by decide +kernel
theorem dX12_takeLexicon_144 : decode cX12_takeLexicon 144 = .ok (.istore_n 1, 1) := by decide +kernel
theorem dX12_takeLexicon_145 : decode cX12_takeLexicon 145 = .ok (.iload_n 1, 1) := by decide +kernel
theorem dX12_takeLexicon_146 : decode cX12_takeLexicon 146 = .ok (.bipush 48, 2) := by decide +kernel
theorem dX12_takeLexicon_148 : decode cX12_takeLexicon 148 = .ok (.if_icmp .ge 21, 3) := by decide +kernel
theorem dX12_takeLexicon_151 : decode cX12_takeLexicon 151 = .ok (.aload_n 0, 1) := by decide +kernel
theorem dX12_takeLexicon_152 : decode cX12_takeLexicon 152 = .ok (.getfield 59, 3) := by decide +kernel
theorem dX12_takeLexicon_155 : decode cX12_takeLexicon 155 = .ok (.iload_n 1, 1) := by decide +kernel
theorem dX12_takeLexicon_156 : decode cX12_takeLexicon 156 = .ok (.aload_n 0, 1) := by decide +kernel
theorem dX12_takeLexicon_157 : decode cX12_takeLexicon 157 = .ok (.getfield 23, 3) := by decide +kernel
theorem dX12_takeLexicon_160 : decode cX12_takeLexicon 160 = .ok (.iload_n 1, 1) := by decide +kernel
theorem dX12_takeLexicon_161 : decode cX12_takeLexicon 161 = .ok (.laload, 1) := by decide +kernel
theorem dX12_takeLexicon_162 : decode cX12_takeLexicon 162 = .ok (.lastore, 1) := by decide +kernel
theorem dX12_takeLexicon_163 : decode cX12_takeLexicon 163 = .ok (.iinc 1 1, 3) := by decide +kernel
theorem dX12_takeLexicon_166 : decode cX12_takeLexicon 166 = .ok (.goto (-21), 3) := by decide +kernel
theorem dX12_takeLexicon_169 : decode cX12_takeLexicon 169 = .ok (.iconst 0, 1) := by decide +kernel
theorem dX12_takeLexicon_170 : decode cX12_takeLexicon 170 = .ok (.istore_n 1, 1) := by decide +kernel
theorem dX12_takeLexicon_171 : decode cX12_takeLexicon 171 = .ok (.iload_n 1, 1) := by decide +kernel
theorem dX12_takeLexicon_172 : decode cX12_takeLexicon 172 = .ok (.aload_n 0, 1) := by decide +kernel
theorem dX12_takeLexicon_173 : decode cX12_takeLexicon 173 = .ok (.getfield 275, 3) := by decide +kernel
theorem dX12_takeLexicon_176 : decode cX12_takeLexicon 176 = .ok (.if_icmp .ge 114, 3) := by decide +kernel
theorem dX12_takeLexicon_179 : decode cX12_takeLexicon 179 = .ok (.aload_n 0, 1) := by decide +kernel
theorem dX12_takeLexicon_180 : decode cX12_takeLexicon 180 = .ok (.getfield 62, 3) := by decide +kernel
theorem dX12_takeLexicon_183 : decode cX12_takeLexicon 183 = .ok (.iload_n 1, 1) := by decide +kernel
theorem dX12_takeLexicon_184 : decode cX12_takeLexicon 184 = .ok (.aload_n 0, 1) := by decide +kernel
theorem dX12_takeLexicon_185 : decode cX12_takeLexicon 185 = .ok (.getfield 29, 3) := by decide +kernel
theorem dX12_takeLexicon_188 : decode cX12_takeLexicon 188 = .ok (.iload_n 1, 1) := by decide +kernel
theorem dX12_takeLexicon_189 : decode cX12_takeLexicon 189 = .ok (.iaload, 1) := by decide +kernel
theorem dX12_takeLexicon_190 : decode cX12_takeLexicon 190 = .ok (.iastore, 1) := by decide +kernel
theorem dX12_takeLexicon_191 : decode cX12_takeLexicon 191 = .ok (.iconst 0, 1) := by decide +kernel
theorem dX12_takeLexicon_192 : decode cX12_takeLexicon 192 = .ok (.istore_n 2, 1) := by decide +kernel
theorem dX12_takeLexicon_193 : decode cX12_takeLexicon 193 = .ok (.iload_n 2, 1) := by decide +kernel
theorem dX12_takeLexicon_194 : decode cX12_takeLexicon 194 = .ok (.aload_n 0, 1) := by decide +kernel
theorem dX12_takeLexicon_195 : decode cX12_takeLexicon 195 = .ok (.getfield 62, 3) := by decide +kernel
theorem dX12_takeLexicon_198 : decode cX12_takeLexicon 198 = .ok (.iload_n 1, 1) := by decide +kernel
theorem dX12_takeLexicon_199 : decode cX12_takeLexicon 199 = .ok (.iaload, 1) := by decide +kernel
theorem dX12_takeLexicon_200 : decode cX12_takeLexicon 200 = .ok (.if_icmp .ge 84, 3) := by decide +kernel
theorem dX12_takeLexicon_203 : decode cX12_takeLexicon 203 = .ok (.bipush 8, 2) := by decide +kernel
theorem dX12_takeLexicon_205 : decode cX12_takeLexicon 205 = .ok (.iload_n 1, 1) := by decide +kernel
theorem dX12_takeLexicon_206 : decode cX12_takeLexicon 206 = .ok (.imul, 1) := by decide +kernel
theorem dX12_takeLexicon_207 : decode cX12_takeLexicon 207 = .ok (.iload_n 2, 1) := by decide +kernel
theorem dX12_takeLexicon_208 : decode cX12_takeLexicon 208 = .ok (.iadd, 1) := by decide +kernel
theorem dX12_takeLexicon_209 : decode cX12_takeLexicon 209 = .ok (.istore_n 3, 1) := by decide +kernel
theorem dX12_takeLexicon_210 : decode cX12_takeLexicon 210 = .ok (.aload_n 0, 1) := by decide +kernel
theorem dX12_takeLexicon_211 : decode cX12_takeLexicon 211 = .ok (.getfield 68, 3) := by decide +kernel
theorem dX12_takeLexicon_214 : decode cX12_takeLexicon 214 = .ok (.iload_n 3, 1) := by decide +kernel
theorem dX12_takeLexicon_215 : decode cX12_takeLexicon 215 = .ok (.aload_n 0, 1) := by decide +kernel
theorem dX12_takeLexicon_216 : decode cX12_takeLexicon 216 = .ok (.getfield 35, 3) := by decide +kernel
theorem dX12_takeLexicon_219 : decode cX12_takeLexicon 219 = .ok (.iload_n 3, 1) := by decide +kernel
theorem dX12_takeLexicon_220 : decode cX12_takeLexicon 220 = .ok (.laload, 1) := by decide +kernel
theorem dX12_takeLexicon_221 : decode cX12_takeLexicon 221 = .ok (.lastore, 1) := by decide +kernel
theorem dX12_takeLexicon_222 : decode cX12_takeLexicon 222 = .ok (.aload_n 0, 1) := by decide +kernel
theorem dX12_takeLexicon_223 : decode cX12_takeLexicon 223 = .ok (.getfield 65, 3) := by decide +kernel
theorem dX12_takeLexicon_226 : decode cX12_takeLexicon 226 = .ok (.iconst 3, 1) := by decide +kernel
theorem dX12_takeLexicon_227 : decode cX12_takeLexicon 227 = .ok (.iload_n 3, 1) := by decide +kernel
theorem dX12_takeLexicon_228 : decode cX12_takeLexicon 228 = .ok (.imul, 1) := by decide +kernel
theorem dX12_takeLexicon_229 : decode cX12_takeLexicon 229 = .ok (.aload_n 0, 1) := by decide +kernel
theorem dX12_takeLexicon_230 : decode cX12_takeLexicon 230 = .ok (.getfield 32, 3) := by decide +kernel
theorem dX12_takeLexicon_233 : decode cX12_takeLexicon 233 = .ok (.iconst 3, 1) := by decide +kernel
theorem dX12_takeLexicon_234 : decode cX12_takeLexicon 234 = .ok (.iload_n 3, 1) := by decide +kernel
theorem dX12_takeLexicon_235 : decode cX12_takeLexicon 235 = .ok (.imul, 1) := by decide +kernel
theorem dX12_takeLexicon_236 : decode cX12_takeLexicon 236 = .ok (.iaload, 1) := by decide +kernel
theorem dX12_takeLexicon_237 : decode cX12_takeLexicon 237 = .ok (.iastore, 1) := by decide +kernel
theorem dX12_takeLexicon_238 : decode cX12_takeLexicon 238 = .ok (.aload_n 0, 1) := by decide +kernel
theorem dX12_takeLexicon_239 : decode cX12_takeLexicon 239 = .ok (.getfield 65, 3) := by decide +kernel
theorem dX12_takeLexicon_242 : decode cX12_takeLexicon 242 = .ok (.iconst 3, 1) := by decide +kernel
theorem dX12_takeLexicon_243 : decode cX12_takeLexicon 243 = .ok (.iload_n 3, 1) := by decide +kernel
theorem dX12_takeLexicon_244 : decode cX12_takeLexicon 244 = .ok (.imul, 1) := by decide +kernel
theorem dX12_takeLexicon_245 : decode cX12_takeLexicon 245 = .ok (.iconst 1, 1) := by decide +kernel
theorem dX12_takeLexicon_246 : decode cX12_takeLexicon 246 = .ok (.iadd, 1) := by decide +kernel
theorem dX12_takeLexicon_247 : decode cX12_takeLexicon 247 = .ok (.aload_n 0, 1) := by decide +kernel
theorem dX12_takeLexicon_248 : decode cX12_takeLexicon 248 = .ok (.getfield 32, 3) := by decide +kernel
theorem dX12_takeLexicon_251 : decode cX12_takeLexicon 251 = .ok (.iconst 3, 1) := by decide +kernel
theorem dX12_takeLexicon_252 : decode cX12_takeLexicon 252 = .ok (.iload_n 3, 1) := by decide +kernel
theorem dX12_takeLexicon_253 : decode cX12_takeLexicon 253 = .ok (.imul, 1) := by decide +kernel
theorem dX12_takeLexicon_254 : decode cX12_takeLexicon 254 = .ok (.iconst 1, 1) := by decide +kernel
theorem dX12_takeLexicon_255 : decode cX12_takeLexicon 255 = .ok (.iadd, 1) := by decide +kernel
theorem dX12_takeLexicon_256 : decode cX12_takeLexicon 256 = .ok (.iaload, 1) := by decide +kernel
theorem dX12_takeLexicon_257 : decode cX12_takeLexicon 257 = .ok (.iastore, 1) := by decide +kernel
theorem dX12_takeLexicon_258 : decode cX12_takeLexicon 258 = .ok (.aload_n 0, 1) := by decide +kernel
theorem dX12_takeLexicon_259 : decode cX12_takeLexicon 259 = .ok (.getfield 65, 3) := by decide +kernel
theorem dX12_takeLexicon_262 : decode cX12_takeLexicon 262 = .ok (.iconst 3, 1) := by decide +kernel
theorem dX12_takeLexicon_263 : decode cX12_takeLexicon 263 = .ok (.iload_n 3, 1) := by decide +kernel
theorem dX12_takeLexicon_264 : decode cX12_takeLexicon 264 = .ok (.imul, 1) := by decide +kernel
theorem dX12_takeLexicon_265 : decode cX12_takeLexicon 265 = .ok (.iconst 2, 1) := by decide +kernel
theorem dX12_takeLexicon_266 : decode cX12_takeLexicon 266 = .ok (.iadd, 1) := by decide +kernel
theorem dX12_takeLexicon_267 : decode cX12_takeLexicon 267 = .ok (.aload_n 0, 1) := by decide +kernel
theorem dX12_takeLexicon_268 : decode cX12_takeLexicon 268 = .ok (.getfield 32, 3) := by decide +kernel
theorem dX12_takeLexicon_271 : decode cX12_takeLexicon 271 = .ok (.iconst 3, 1) := by decide +kernel
theorem dX12_takeLexicon_272 : decode cX12_takeLexicon 272 = .ok (.iload_n 3, 1) := by decide +kernel
theorem dX12_takeLexicon_273 : decode cX12_takeLexicon 273 = .ok (.imul, 1) := by decide +kernel
theorem dX12_takeLexicon_274 : decode cX12_takeLexicon 274 = .ok (.iconst 2, 1) := by decide +kernel
theorem dX12_takeLexicon_275 : decode cX12_takeLexicon 275 = .ok (.iadd, 1) := by decide +kernel
theorem dX12_takeLexicon_276 : decode cX12_takeLexicon 276 = .ok (.iaload, 1) := by decide +kernel
theorem dX12_takeLexicon_277 : decode cX12_takeLexicon 277 = .ok (.iastore, 1) := by decide +kernel
theorem dX12_takeLexicon_278 : decode cX12_takeLexicon 278 = .ok (.iinc 2 1, 3) := by decide +kernel
theorem dX12_takeLexicon_281 : decode cX12_takeLexicon 281 = .ok (.goto (-88), 3) := by decide +kernel
theorem dX12_takeLexicon_284 : decode cX12_takeLexicon 284 = .ok (.iinc 1 1, 3) := by decide +kernel
theorem dX12_takeLexicon_287 : decode cX12_takeLexicon 287 = .ok (.goto (-116), 3) := by decide +kernel
