theorem dX11_init_0 : decode cX11_init 0 = .ok (.aload_n 0, 1) := by decide +kernel
theorem dX11_init_1 : decode cX11_init 1 = .ok (.invokespecial 3, 3) := by decide +kernel
theorem dX11_init_4 : decode cX11_init 4 = .ok (.aload_n 0, 1) := by decide +kernel
theorem dX11_init_5 : decode cX11_init 5 = .ok (.new 9, 3) := by decide +kernel
theorem dX11_init_8 : decode cX11_init 8 = .ok (.dup, 1) := by decide +kernel
theorem dX11_init_9 : decode cX11_init 9 = .ok (.invokespecial 11, 3) := by decide +kernel
theorem dX11_init_12 : decode cX11_init 12 = .ok (.putfield 12, 3) := by decide +kernel
theorem dX11_init_15 : decode cX11_init 15 = .ok (.aload_n 0, 1) := by decide +kernel
theorem dX11_init_16 : decode cX11_init 16 = .ok (.new 16, 3) := by decide +kernel
theorem dX11_init_19 : decode cX11_init 19 = .ok (.dup, 1) := by decide +kernel
theorem dX11_init_20 : decode cX11_init 20 = .ok (.aload_n 0, 1) := by decide +kernel
theorem dX11_init_21 : decode cX11_init 21 = .ok (.getfield 12, 3) := by decide +kernel
theorem dX11_init_24 : decode cX11_init 24 = .ok (.invokespecial 18, 3) := by decide +kernel
theorem dX11_init_27 : decode cX11_init 27 = .ok (.putfield 21, 3) := by decide +kernel
theorem dX11_init_30 : decode cX11_init 30 = .ok (.aload_n 0, 1) := by decide +kernel
theorem dX11_init_31 : decode cX11_init 31 = .ok (.new 25, 3) := by decide +kernel
theorem dX11_init_34 : decode cX11_init 34 = .ok (.dup, 1) := by decide +kernel
theorem dX11_init_35 : decode cX11_init 35 = .ok (.aload_n 0, 1) := by decide +kernel
theorem dX11_init_36 : decode cX11_init 36 = .ok (.getfield 21, 3) := by decide +kernel
theorem dX11_init_39 : decode cX11_init 39 = .ok (.invokespecial 27, 3) := by decide +kernel
theorem dX11_init_42 : decode cX11_init 42 = .ok (.putfield 30, 3) := by decide +kernel
theorem dX11_init_45 : decode cX11_init 45 = .ok (.aload_n 0, 1) := by decide +kernel
theorem dX11_init_46 : decode cX11_init 46 = .ok (.new 34, 3) := by decide +kernel
theorem dX11_init_49 : decode cX11_init 49 = .ok (.dup, 1) := by decide +kernel
theorem dX11_init_50 : decode cX11_init 50 = .ok (.aload_n 0, 1) := by decide +kernel
theorem dX11_init_51 : decode cX11_init 51 = .ok (.getfield 21, 3) := by decide +kernel
theorem dX11_init_54 : decode cX11_init 54 = .ok (.invokespecial 36, 3) := by decide +kernel
theorem dX11_init_57 : decode cX11_init 57 = .ok (.putfield 37, 3) := by decide +kernel
theorem dX11_init_60 : decode cX11_init 60 = .ok (.aload_n 0, 1) := by decide +kernel
theorem dX11_init_61 : decode cX11_init 61 = .ok (.new 41, 3) := by decide +kernel
theorem dX11_init_64 : decode cX11_init 64 = .ok (.dup, 1) := by decide +kernel
theorem dX11_init_65 : decode cX11_init 65 = .ok (.invokespecial 43, 3) := by decide +kernel
theorem dX11_init_68 : decode cX11_init 68 = .ok (.putfield 44, 3) := by decide +kernel
theorem dX11_init_71 : decode cX11_init 71 = .ok (.aload_n 0, 1) := by decide +kernel
theorem dX11_init_72 : decode cX11_init 72 = .ok (.iconst 5, 1) := by decide +kernel
theorem dX11_init_73 : decode cX11_init 73 = .ok (.anewarray 48, 3) := by decide +kernel
theorem dX11_init_76 : decode cX11_init 76 = .ok (.putfield 50, 3) := by decide +kernel
theorem dX11_init_79 : decode cX11_init 79 = .ok (.iconst 0, 1) := by decide +kernel
theorem dX11_init_80 : decode cX11_init 80 = .ok (.istore_n 1, 1) := by decide +kernel
theorem dX11_init_81 : decode cX11_init 81 = .ok (.iload_n 1, 1) := by decide +kernel
theorem dX11_init_82 : decode cX11_init 82 = .ok (.aload_n 0, 1) := by decide +kernel
theorem dX11_init_83 : decode cX11_init 83 = .ok (.getfield 50, 3) := by decide +kernel
theorem dX11_init_86 : decode cX11_init 86 = .ok (.arraylength, 1) := by decide +kernel
theorem dX11_init_87 : decode cX11_init 87 = .ok (.if_icmp .ge 22, 3) := by decide +kernel
theorem dX11_init_90 : decode cX11_init 90 = .ok (.aload_n 0, 1) := by decide +kernel
theorem dX11_init_91 : decode cX11_init 91 = .ok (.getfield 50, 3) := by decide +kernel
theorem dX11_init_94 : decode cX11_init 94 = .ok (.iload_n 1, 1) := by decide +kernel
theorem dX11_init_95 : decode cX11_init 95 = .ok (.new 48, 3) := by decide +kernel
theorem dX11_init_98 : decode cX11_init 98 = .ok (.dup, 1) := by decide +kernel
theorem dX11_init_99 : decode cX11_init 99 = .ok (.invokespecial 54, 3) := by decide +kernel
theorem dX11_init_102 : decode cX11_init 102 = .ok (.aastore, 1) := by decide +kernel
theorem dX11_init_103 : decode cX11_init 103 = .ok (.iinc 1 1, 3) := by decide +kernel
theorem dX11_init_106 : decode cX11_init 106 = .ok (.goto (-25), 3) := by decide +kernel
theorem dX11_init_109 : decode cX11_init 109 = .ok (.aload_n 0, 1) := by decide +kernel
theorem dX11_init_110 : decode cX11_init 110 = .ok (.new 55, 3) := by decide +kernel
theorem dX11_init_113 : decode cX11_init 113 = .ok (.dup, 1) := by decide +kernel
theorem dX11_init_114 : decode cX11_init 114 = .ok (.invokespecial 57, 3) := by decide +kernel
theorem dX11_init_117 : decode cX11_init 117 = .ok (.putfield 58, 3) := by decide +kernel
theorem dX11_init_120 : decode cX11_init 120 = .ok (.aload_n 0, 1) := by decide +kernel
theorem dX11_init_121 : decode cX11_init 121 = .ok (.new 55, 3) := by decide +kernel
theorem dX11_init_124 : decode cX11_init 124 = .ok (.dup, 1) := by decide +kernel
theorem dX11_init_125 : decode cX11_init 125 = .ok (.invokespecial 57, 3) := by decide +kernel
theorem dX11_init_128 : decode cX11_init 128 = .ok (.putfield 62, 3) := by decide +kernel
theorem dX11_init_131 : decode cX11_init 131 = .ok (.aload_n 0, 1) := by decide +kernel
theorem dX11_init_132 : decode cX11_init 132 = .ok (.new 65, 3) := by decide +kernel
theorem dX11_init_135 : decode cX11_init 135 = .ok (.dup, 1) := by decide +kernel
theorem dX11_init_136 : decode cX11_init 136 = .ok (.aload_n 0, 1) := by decide +kernel
theorem dX11_init_137 : decode cX11_init 137 = .ok (.getfield 44, 3) := by decide +kernel
theorem dX11_init_140 : decode cX11_init 140 = .ok (.aload_n 0, 1) := by decide +kernel
theorem dX11_init_141 : decode cX11_init 141 = .ok (.getfield 58, 3) := by decide +kernel
theorem dX11_init_144 : decode cX11_init 144 = .ok (.invokespecial 67, 3) := by decide +kernel
theorem dX11_init_147 : decode cX11_init 147 = .ok (.putfield 70, 3) := by decide +kernel
theorem dX11_init_150 : decode cX11_init 150 = .ok (.aload_n 0, 1) := by decide +kernel
theorem dX11_init_151 : decode cX11_init 151 = .ok (.new 74, 3) := by decide +kernel
theorem dX11_init_154 : decode cX11_init 154 = .ok (.dup, 1) := by decide +kernel
theorem dX11_init_155 : decode cX11_init 155 = .ok (.invokespecial 76, 3) := by decide +kernel
theorem dX11_init_158 : decode cX11_init 158 = .ok (.putfield 77, 3) := by decide +kernel
theorem dX11_init_161 : decode cX11_init 161 = .ok (.aload_n 0, 1) := by decide +kernel
theorem dX11_init_162 : decode cX11_init 162 = .ok (.new 55, 3) := by decide +kernel
theorem dX11_init_165 : decode cX11_init 165 = .ok (.dup, 1) := by decide +kernel
theorem dX11_init_166 : decode cX11_init 166 = .ok (.invokespecial 57, 3) := by decide +kernel
theorem dX11_init_169 : decode cX11_init 169 = .ok (.putfield 81, 3) := by decide +kernel
theorem dX11_init_172 : decode cX11_init 172 = .ok (.aload_n 0, 1) := by decide +kernel
theorem dX11_init_173 : decode cX11_init 173 = .ok (.new 74, 3) := by decide +kernel
theorem dX11_init_176 : decode cX11_init 176 = .ok (.dup, 1) := by decide +kernel
theorem dX11_init_177 : decode cX11_init 177 = .ok (.invokespecial 76, 3) := by decide +kernel
theorem dX11_init_180 : decode cX11_init 180 = .ok (.putfield 84, 3) := by decide +kernel
theorem dX11_init_183 : decode cX11_init 183 = .ok (.aload_n 0, 1) := by decide +kernel
theorem dX11_init_184 : decode cX11_init 184 = .ok (.iconst 3, 1) := by decide +kernel
theorem dX11_init_185 : decode cX11_init 185 = .ok (.newarray .int, 2) := by decide +kernel
theorem dX11_init_187 : decode cX11_init 187 = .ok (.putfield 87, 3) := by decide +kernel
theorem dX11_init_190 : decode cX11_init 190 = .ok (.aload_n 0, 1) := by decide +kernel
theorem dX11_init_191 : decode cX11_init 191 = .ok (.new 91, 3) := by decide +kernel
theorem dX11_init_194 : decode cX11_init 194 = .ok (.dup, 1) := by decide +kernel
theorem dX11_init_195 : decode cX11_init 195 = .ok (.invokespecial 93, 3) := by decide +kernel
theorem dX11_init_198 : decode cX11_init 198 = .ok (.putfield 94, 3) := by decide +kernel
theorem dX11_init_201 : decode cX11_init 201 = .ok (.aload_n 0, 1) := by decide +kernel
theorem dX11_init_202 : decode cX11_init 202 = .ok (.new 98, 3) := by decide +kernel
theorem dX11_init_205 : decode cX11_init 205 = .ok (.dup, 1) := by decide +kernel
theorem dX11_init_206 : decode cX11_init 206 = .ok (.invokespecial 100, 3) := by decide +kernel
theorem dX11_init_209 : decode cX11_init 209 = .ok (.putfield 101, 3) := by decide +kernel
theorem dX11_init_212 : decode cX11_init 212 = .ok (.return_, 1) := by decide +kernel
theorem dX11_feed_0 : decode cX11_feed 0 = .ok (.iload_n 1, 1) := by decide +kernel
theorem dX11_feed_1 : decode cX11_feed 1 = .ok (.invokestatic 105, 3) := by decide +kernel
theorem dX11_feed_4 : decode cX11_feed 4 = .ok (.iload_n 2, 1) := by decide +kernel
theorem dX11_feed_5 : decode cX11_feed 5 = .ok (.invokestatic 105, 3) := by decide +kernel
theorem dX11_feed_8 : decode cX11_feed 8 = .ok (.iadd, 1) := by decide +kernel
theorem dX11_feed_9 : decode cX11_feed 9 = .ok (.iload_n 3, 1) := by decide +kernel
theorem dX11_feed_10 : decode cX11_feed 10 = .ok (.invokestatic 105, 3) := by decide +kernel
theorem dX11_feed_13 : decode cX11_feed 13 = .ok (.iadd, 1) := by decide +kernel
theorem dX11_feed_14 : decode cX11_feed 14 = .ok (.iload 4, 2) := by decide +kernel
theorem dX11_feed_16 : decode cX11_feed 16 = .ok (.invokestatic 105, 3) := by decide +kernel
theorem dX11_feed_19 : decode cX11_feed 19 = .ok (.iadd, 1) := by decide +kernel
theorem dX11_feed_20 : decode cX11_feed 20 = .ok (.iload 5, 2) := by decide +kernel
theorem dX11_feed_22 : decode cX11_feed 22 = .ok (.invokestatic 105, 3) := by decide +kernel
theorem dX11_feed_25 : decode cX11_feed 25 = .ok (.iadd, 1) := by decide +kernel
theorem dX11_feed_26 : decode cX11_feed 26 = .ok (.istore 6, 2) := by decide +kernel
theorem dX11_feed_28 : decode cX11_feed 28 = .ok (.aload_n 0, 1) := by decide +kernel
theorem dX11_feed_29 : decode cX11_feed 29 = .ok (.getfield 12, 3) := by decide +kernel
theorem dX11_feed_32 : decode cX11_feed 32 = .ok (.getfield 109, 3) := by decide +kernel
theorem dX11_feed_35 : decode cX11_feed 35 = .ok (.iload 6, 2) := by decide +kernel
theorem dX11_feed_37 : decode cX11_feed 37 = .ok (.iadd, 1) := by decide +kernel
theorem dX11_feed_38 : decode cX11_feed 38 = .ok (.sipush 480, 3) := by decide +kernel
theorem dX11_feed_41 : decode cX11_feed 41 = .ok (.if_icmp .le 5, 3) := by decide +kernel
theorem dX11_feed_44 : decode cX11_feed 44 = .ok (.iconst (-1), 1) := by decide +kernel
theorem dX11_feed_45 : decode cX11_feed 45 = .ok (.ireturn, 1) := by decide +kernel
theorem dX11_feed_46 : decode cX11_feed 46 = .ok (.aload_n 0, 1) := by decide +kernel
theorem dX11_feed_47 : decode cX11_feed 47 = .ok (.getfield 12, 3) := by decide +kernel
theorem dX11_feed_50 : decode cX11_feed 50 = .ok (.iload_n 1, 1) := by decide +kernel
theorem dX11_feed_51 : decode cX11_feed 51 = .ok (.invokevirtual 113, 3) := by decide +kernel
theorem dX11_feed_54 : decode cX11_feed 54 = .ok (.aload_n 0, 1) := by decide +kernel
theorem dX11_feed_55 : decode cX11_feed 55 = .ok (.getfield 12, 3) := by decide +kernel
theorem dX11_feed_58 : decode cX11_feed 58 = .ok (.iload_n 2, 1) := by decide +kernel
theorem dX11_feed_59 : decode cX11_feed 59 = .ok (.invokevirtual 113, 3) := by decide +kernel
theorem dX11_feed_62 : decode cX11_feed 62 = .ok (.aload_n 0, 1) := by decide +kernel
theorem dX11_feed_63 : decode cX11_feed 63 = .ok (.getfield 12, 3) := by decide +kernel
theorem dX11_feed_66 : decode cX11_feed 66 = .ok (.iload_n 3, 1) := by decide +kernel
theorem dX11_feed_67 : decode cX11_feed 67 = .ok (.invokevirtual 113, 3) := by decide +kernel
theorem dX11_feed_70 : decode cX11_feed 70 = .ok (.aload_n 0, 1) := by decide +kernel
theorem dX11_feed_71 : decode cX11_feed 71 = .ok (.getfield 12, 3) := by decide +kernel
theorem dX11_feed_74 : decode cX11_feed 74 = .ok (.iload 4, 2) := by decide +kernel
theorem dX11_feed_76 : decode cX11_feed 76 = .ok (.invokevirtual 113, 3) := by decide +kernel
theorem dX11_feed_79 : decode cX11_feed 79 = .ok (.aload_n 0, 1) := by decide +kernel
theorem dX11_feed_80 : decode cX11_feed 80 = .ok (.getfield 12, 3) := by decide +kernel
theorem dX11_feed_83 : decode cX11_feed 83 = .ok (.iload 5, 2) := by decide +kernel
theorem dX11_feed_85 : decode cX11_feed 85 = .ok (.invokevirtual 113, 3) := by decide +kernel
theorem dX11_feed_88 : decode cX11_feed 88 = .ok (.aload_n 0, 1) := by decide +kernel
theorem dX11_feed_89 : decode cX11_feed 89 = .ok (.getfield 12, 3) := by decide +kernel
theorem dX11_feed_92 : decode cX11_feed 92 = .ok (.getfield 109, 3) := by decide +kernel
theorem dX11_feed_95 : decode cX11_feed 95 = .ok (.ireturn, 1) := by decide +kernel
theorem dX11_end_0 : decode cX11_end 0 = .ok (.iload_n 1, 1) := by decide +kernel
theorem dX11_end_1 : decode cX11_end 1 = .ok (.ifCond .lt 14, 3) := by decide +kernel
theorem dX11_end_4 : decode cX11_end 4 = .ok (.iload_n 1, 1) := by decide +kernel
theorem dX11_end_5 : decode cX11_end 5 = .ok (.aload_n 0, 1) := by decide +kernel
theorem dX11_end_6 : decode cX11_end 6 = .ok (.getfield 12, 3) := by decide +kernel
theorem dX11_end_9 : decode cX11_end 9 = .ok (.getfield 109, 3) := by decide +kernel
theorem dX11_end_12 : decode cX11_end 12 = .ok (.if_icmp .le 5, 3) := by decide +kernel
theorem dX11_end_15 : decode cX11_end 15 = .ok (.iconst 0, 1) := by decide +kernel
theorem dX11_end_16 : decode cX11_end 16 = .ok (.ireturn, 1) := by decide +kernel
theorem dX11_end_17 : decode cX11_end 17 = .ok (.aload_n 0, 1) := by decide +kernel
theorem dX11_end_18 : decode cX11_end 18 = .ok (.getfield 12, 3) := by decide +kernel
theorem dX11_end_21 : decode cX11_end 21 = .ok (.iload_n 1, 1) := by decide +kernel
theorem dX11_end_22 : decode cX11_end 22 = .ok (.putfield 109, 3) := by decide +kernel
theorem dX11_end_25 : decode cX11_end 25 = .ok (.iconst 1, 1) := by decide +kernel
theorem dX11_end_26 : decode cX11_end 26 = .ok (.ireturn, 1) := by decide +kernel
theorem dX11_fault_0 : decode cX11_fault 0 = .ok (.iload_n 1, 1) := by decide +kernel
theorem dX11_fault_1 : decode cX11_fault 1 = .ok (.lookupswitch 52 #[(0, 27), (1, 35)], 27) := by decide +kernel
theorem dX11_fault_28 : decode cX11_fault 28 = .ok (.aload_n 0, 1) := by decide +kernel
theorem dX11_fault_29 : decode cX11_fault 29 = .ok (.getfield 30, 3) := by decide +kernel
theorem dX11_fault_32 : decode cX11_fault 32 = .ok (.invokevirtual 117, 3) := by decide +kernel
theorem dX11_fault_35 : decode cX11_fault 35 = .ok (.ireturn, 1) := by decide +kernel
theorem dX11_fault_36 : decode cX11_fault 36 = .ok (.aload_n 0, 1) := by decide +kernel
theorem dX11_fault_37 : decode cX11_fault 37 = .ok (.getfield 37, 3) := by decide +kernel
theorem dX11_fault_40 : decode cX11_fault 40 = .ok (.aload_n 0, 1) := by decide +kernel
theorem dX11_fault_41 : decode cX11_fault 41 = .ok (.getfield 50, 3) := by decide +kernel
theorem dX11_fault_44 : decode cX11_fault 44 = .ok (.aload_n 0, 1) := by decide +kernel
theorem dX11_fault_45 : decode cX11_fault 45 = .ok (.getfield 121, 3) := by decide +kernel
theorem dX11_fault_48 : decode cX11_fault 48 = .ok (.aaload, 1) := by decide +kernel
theorem dX11_fault_49 : decode cX11_fault 49 = .ok (.invokevirtual 124, 3) := by decide +kernel
theorem dX11_fault_52 : decode cX11_fault 52 = .ok (.ireturn, 1) := by decide +kernel
theorem dX11_fault_53 : decode cX11_fault 53 = .ok (.bipush (-2), 2) := by decide +kernel
theorem dX11_fault_55 : decode cX11_fault 55 = .ok (.ireturn, 1) := by decide +kernel
theorem dX11_text_0 : decode cX11_text 0 = .ok (.iload_n 1, 1) := by decide +kernel
theorem dX11_text_1 : decode cX11_text 1 = .ok (.lookupswitch 84 #[(0, 27), (1, 47)], 27) := by decide +kernel
theorem dX11_text_28 : decode cX11_text 28 = .ok (.aload_n 0, 1) := by decide +kernel
theorem dX11_text_29 : decode cX11_text 29 = .ok (.getfield 30, 3) := by decide +kernel
theorem dX11_text_32 : decode cX11_text 32 = .ok (.invokevirtual 117, 3) := by decide +kernel
theorem dX11_text_35 : decode cX11_text 35 = .ok (.iconst (-1), 1) := by decide +kernel
theorem dX11_text_36 : decode cX11_text 36 = .ok (.if_icmp .ne 10, 3) := by decide +kernel
theorem dX11_text_39 : decode cX11_text 39 = .ok (.aload_n 0, 1) := by decide +kernel
theorem dX11_text_40 : decode cX11_text 40 = .ok (.invokevirtual 127, 3) := by decide +kernel
theorem dX11_text_43 : decode cX11_text 43 = .ok (.goto 4, 3) := by decide +kernel
theorem dX11_text_46 : decode cX11_text 46 = .ok (.iconst (-1), 1) := by decide +kernel
theorem dX11_text_47 : decode cX11_text 47 = .ok (.ireturn, 1) := by decide +kernel
theorem dX11_text_48 : decode cX11_text 48 = .ok (.aload_n 0, 1) := by decide +kernel
theorem dX11_text_49 : decode cX11_text 49 = .ok (.getfield 121, 3) := by decide +kernel
theorem dX11_text_52 : decode cX11_text 52 = .ok (.iconst 4, 1) := by decide +kernel
theorem dX11_text_53 : decode cX11_text 53 = .ok (.if_icmp .ge 30, 3) := by decide +kernel
theorem dX11_text_56 : decode cX11_text 56 = .ok (.aload_n 0, 1) := by decide +kernel
theorem dX11_text_57 : decode cX11_text 57 = .ok (.getfield 37, 3) := by decide +kernel
theorem dX11_text_60 : decode cX11_text 60 = .ok (.aload_n 0, 1) := by decide +kernel
theorem dX11_text_61 : decode cX11_text 61 = .ok (.getfield 50, 3) := by decide +kernel
theorem dX11_text_64 : decode cX11_text 64 = .ok (.aload_n 0, 1) := by decide +kernel
theorem dX11_text_65 : decode cX11_text 65 = .ok (.getfield 121, 3) := by decide +kernel
theorem dX11_text_68 : decode cX11_text 68 = .ok (.aaload, 1) := by decide +kernel
theorem dX11_text_69 : decode cX11_text 69 = .ok (.invokevirtual 124, 3) := by decide +kernel
theorem dX11_text_72 : decode cX11_text 72 = .ok (.iconst (-1), 1) := by decide +kernel
theorem dX11_text_73 : decode cX11_text 73 = .ok (.if_icmp .ne 10, 3) := by decide +kernel
theorem dX11_text_76 : decode cX11_text 76 = .ok (.aload_n 0, 1) := by decide +kernel
theorem dX11_text_77 : decode cX11_text 77 = .ok (.invokevirtual 130, 3) := by decide +kernel
theorem dX11_text_80 : decode cX11_text 80 = .ok (.goto 4, 3) := by decide +kernel
theorem dX11_text_83 : decode cX11_text 83 = .ok (.iconst (-1), 1) := by decide +kernel
theorem dX11_text_84 : decode cX11_text 84 = .ok (.ireturn, 1) := by decide +kernel
theorem dX11_text_85 : decode cX11_text 85 = .ok (.iconst (-1), 1) := by decide +kernel
theorem dX11_text_86 : decode cX11_text 86 = .ok (.ireturn, 1) := by decide +kernel
theorem dX11_adoptLexicon_0 : decode cX11_adoptLexicon 0 = .ok (.aload_n 0, 1) := by decide +kernel
theorem dX11_adoptLexicon_1 : decode cX11_adoptLexicon 1 = .ok (.getfield 44, 3) := by decide +kernel
theorem dX11_adoptLexicon_4 : decode cX11_adoptLexicon 4 = .ok (.aload_n 0, 1) := by decide +kernel
theorem dX11_adoptLexicon_5 : decode cX11_adoptLexicon 5 = .ok (.getfield 30, 3) := by decide +kernel
theorem dX11_adoptLexicon_8 : decode cX11_adoptLexicon 8 = .ok (.getfield 133, 3) := by decide +kernel
theorem dX11_adoptLexicon_11 : decode cX11_adoptLexicon 11 = .ok (.invokevirtual 136, 3) := by decide +kernel
theorem dX11_adoptLexicon_14 : decode cX11_adoptLexicon 14 = .ok (.aload_n 0, 1) := by decide +kernel
theorem dX11_adoptLexicon_15 : decode cX11_adoptLexicon 15 = .ok (.iconst 1, 1) := by decide +kernel
theorem dX11_adoptLexicon_16 : decode cX11_adoptLexicon 16 = .ok (.putfield 140, 3) := by decide +kernel
theorem dX11_adoptLexicon_19 : decode cX11_adoptLexicon 19 = .ok (.aload_n 0, 1) := by decide +kernel
theorem dX11_adoptLexicon_20 : decode cX11_adoptLexicon 20 = .ok (.getfield 58, 3) := by decide +kernel
theorem dX11_adoptLexicon_23 : decode cX11_adoptLexicon 23 = .ok (.aload_n 0, 1) := by decide +kernel
theorem dX11_adoptLexicon_24 : decode cX11_adoptLexicon 24 = .ok (.getfield 44, 3) := by decide +kernel
theorem dX11_adoptLexicon_27 : decode cX11_adoptLexicon 27 = .ok (.invokevirtual 144, 3) := by decide +kernel
theorem dX11_adoptLexicon_30 : decode cX11_adoptLexicon 30 = .ok (.aload_n 0, 1) := by decide +kernel
theorem dX11_adoptLexicon_31 : decode cX11_adoptLexicon 31 = .ok (.getfield 77, 3) := by decide +kernel
theorem dX11_adoptLexicon_34 : decode cX11_adoptLexicon 34 = .ok (.invokevirtual 147, 3) := by decide +kernel
theorem dX11_adoptLexicon_37 : decode cX11_adoptLexicon 37 = .ok (.aload_n 0, 1) := by decide +kernel
theorem dX11_adoptLexicon_38 : decode cX11_adoptLexicon 38 = .ok (.iconst 0, 1) := by decide +kernel
theorem dX11_adoptLexicon_39 : decode cX11_adoptLexicon 39 = .ok (.putfield 150, 3) := by decide +kernel
theorem dX11_adoptLexicon_42 : decode cX11_adoptLexicon 42 = .ok (.aload_n 0, 1) := by decide +kernel
theorem dX11_adoptLexicon_43 : decode cX11_adoptLexicon 43 = .ok (.getfield 12, 3) := by decide +kernel
theorem dX11_adoptLexicon_46 : decode cX11_adoptLexicon 46 = .ok (.iconst 0, 1) := by decide +kernel
theorem dX11_adoptLexicon_47 : decode cX11_adoptLexicon 47 = .ok (.putfield 109, 3) := by decide +kernel
theorem dX11_adoptLexicon_50 : decode cX11_adoptLexicon 50 = .ok (.aload_n 0, 1) := by decide +kernel
theorem dX11_adoptLexicon_51 : decode cX11_adoptLexicon 51 = .ok (.getfield 44, 3) := by decide +kernel
theorem dX11_adoptLexicon_54 : decode cX11_adoptLexicon 54 = .ok (.getfield 153, 3) := by decide +kernel
theorem dX11_adoptLexicon_57 : decode cX11_adoptLexicon 57 = .ok (.ireturn, 1) := by decide +kernel
theorem dX11_adoptScript_0 : decode cX11_adoptScript 0 = .ok (.aload_n 0, 1) := by decide +kernel
theorem dX11_adoptScript_1 : decode cX11_adoptScript 1 = .ok (.getfield 12, 3) := by decide +kernel
theorem dX11_adoptScript_4 : decode cX11_adoptScript 4 = .ok (.iconst 0, 1) := by decide +kernel
theorem dX11_adoptScript_5 : decode cX11_adoptScript 5 = .ok (.putfield 109, 3) := by decide +kernel
theorem dX11_adoptScript_8 : decode cX11_adoptScript 8 = .ok (.aload_n 0, 1) := by decide +kernel
theorem dX11_adoptScript_9 : decode cX11_adoptScript 9 = .ok (.dup, 1) := by decide +kernel
theorem dX11_adoptScript_10 : decode cX11_adoptScript 10 = .ok (.getfield 121, 3) := by decide +kernel
theorem dX11_adoptScript_13 : decode cX11_adoptScript 13 = .ok (.iconst 1, 1) := by decide +kernel
theorem dX11_adoptScript_14 : decode cX11_adoptScript 14 = .ok (.iadd, 1) := by decide +kernel
theorem dX11_adoptScript_15 : decode cX11_adoptScript 15 = .ok (.putfield 121, 3) := by decide +kernel
theorem dX11_adoptScript_18 : decode cX11_adoptScript 18 = .ok (.aload_n 0, 1) := by decide +kernel
theorem dX11_adoptScript_19 : decode cX11_adoptScript 19 = .ok (.getfield 121, 3) := by decide +kernel
theorem dX11_adoptScript_22 : decode cX11_adoptScript 22 = .ok (.iconst 1, 1) := by decide +kernel
theorem dX11_adoptScript_23 : decode cX11_adoptScript 23 = .ok (.isub, 1) := by decide +kernel
theorem dX11_adoptScript_24 : decode cX11_adoptScript 24 = .ok (.ireturn, 1) := by decide +kernel
theorem dX11_rule_0 : decode cX11_rule 0 = .ok (.aload_n 0, 1) := by decide +kernel
theorem dX11_rule_1 : decode cX11_rule 1 = .ok (.getfield 140, 3) := by decide +kernel
theorem dX11_rule_4 : decode cX11_rule 4 = .ok (.ifCond .ne 5, 3) := by decide +kernel
theorem dX11_rule_7 : decode cX11_rule 7 = .ok (.iconst (-1), 1) := by decide +kernel
theorem dX11_rule_8 : decode cX11_rule 8 = .ok (.ireturn, 1) := by decide +kernel
theorem dX11_rule_9 : decode cX11_rule 9 = .ok (.iload_n 1, 1) := by decide +kernel
theorem dX11_rule_10 : decode cX11_rule 10 = .ok (.tableswitch 136 0 6 #[42, 50, 58, 78, 98, 112, 128], 42) := by decide +kernel
theorem dX11_rule_52 : decode cX11_rule 52 = .ok (.aload_n 0, 1) := by decide +kernel
theorem dX11_rule_53 : decode cX11_rule 53 = .ok (.getfield 44, 3) := by decide +kernel
theorem dX11_rule_56 : decode cX11_rule 56 = .ok (.getfield 153, 3) := by decide +kernel
theorem dX11_rule_59 : decode cX11_rule 59 = .ok (.ireturn, 1) := by decide +kernel
theorem dX11_rule_60 : decode cX11_rule 60 = .ok (.aload_n 0, 1) := by decide +kernel
theorem dX11_rule_61 : decode cX11_rule 61 = .ok (.getfield 44, 3) := by decide +kernel
theorem dX11_rule_64 : decode cX11_rule 64 = .ok (.getfield 156, 3) := by decide +kernel
theorem dX11_rule_67 : decode cX11_rule 67 = .ok (.ireturn, 1) := by decide +kernel
theorem dX11_rule_68 : decode cX11_rule 68 = .ok (.aload_n 0, 1) := by decide +kernel
theorem dX11_rule_69 : decode cX11_rule 69 = .ok (.getfield 44, 3) := by decide +kernel
theorem dX11_rule_72 : decode cX11_rule 72 = .ok (.getfield 159, 3) := by decide +kernel
theorem dX11_rule_75 : decode cX11_rule 75 = .ok (.iconst 0, 1) := by decide +kernel
theorem dX11_rule_76 : decode cX11_rule 76 = .ok (.aload_n 0, 1) := by decide +kernel
theorem dX11_rule_77 : decode cX11_rule 77 = .ok (.getfield 44, 3) := by decide +kernel
theorem dX11_rule_80 : decode cX11_rule 80 = .ok (.getfield 159, 3) := by decide +kernel
theorem dX11_rule_83 : decode cX11_rule 83 = .ok (.arraylength, 1) := by decide +kernel
theorem dX11_rule_84 : decode cX11_rule 84 = .ok (.invokestatic 163, 3) := by decide +kernel
theorem dX11_rule_87 : decode cX11_rule 87 = .ok (.ireturn, 1) := by decide +kernel
theorem dX11_rule_88 : decode cX11_rule 88 = .ok (.aload_n 0, 1) := by decide +kernel
theorem dX11_rule_89 : decode cX11_rule 89 = .ok (.getfield 44, 3) := by decide +kernel
theorem dX11_rule_92 : decode cX11_rule 92 = .ok (.getfield 167, 3) := by decide +kernel
theorem dX11_rule_95 : decode cX11_rule 95 = .ok (.iconst 0, 1) := by decide +kernel
theorem dX11_rule_96 : decode cX11_rule 96 = .ok (.aload_n 0, 1) := by decide +kernel
theorem dX11_rule_97 : decode cX11_rule 97 = .ok (.getfield 44, 3) := by decide +kernel
theorem dX11_rule_100 : decode cX11_rule 100 = .ok (.getfield 167, 3) := by decide +kernel
theorem dX11_rule_103 : decode cX11_rule 103 = .ok (.arraylength, 1) := by decide +kernel
theorem dX11_rule_104 : decode cX11_rule 104 = .ok (.invokestatic 163, 3) := by decide +kernel
theorem dX11_rule_107 : decode cX11_rule 107 = .ok (.ireturn, 1) := by decide +kernel
theorem dX11_rule_108 : decode cX11_rule 108 = .ok (.aload_n 0, 1) := by decide +kernel
theorem dX11_rule_109 : decode cX11_rule 109 = .ok (.getfield 58, 3) := by decide +kernel
theorem dX11_rule_112 : decode cX11_rule 112 = .ok (.getfield 170, 3) := by decide +kernel
theorem dX11_rule_115 : decode cX11_rule 115 = .ok (.iconst 0, 1) := by decide +kernel
theorem dX11_rule_116 : decode cX11_rule 116 = .ok (.bipush 48, 2) := by decide +kernel
theorem dX11_rule_118 : decode cX11_rule 118 = .ok (.invokestatic 163, 3) := by decide +kernel
theorem dX11_rule_121 : decode cX11_rule 121 = .ok (.ireturn, 1) := by decide +kernel
theorem dX11_rule_122 : decode cX11_rule 122 = .ok (.aload_n 0, 1) := by decide +kernel
theorem dX11_rule_123 : decode cX11_rule 123 = .ok (.getfield 58, 3) := by decide +kernel
theorem dX11_rule_126 : decode cX11_rule 126 = .ok (.invokevirtual 173, 3) := by decide +kernel
theorem dX11_rule_129 : decode cX11_rule 129 = .ok (.ifCond .eq 7, 3) := by decide +kernel
theorem dX11_rule_132 : decode cX11_rule 132 = .ok (.iconst 1, 1) := by decide +kernel
theorem dX11_rule_133 : decode cX11_rule 133 = .ok (.goto 4, 3) := by decide +kernel
theorem dX11_rule_136 : decode cX11_rule 136 = .ok (.iconst 0, 1) := by decide +kernel
theorem dX11_rule_137 : decode cX11_rule 137 = .ok (.ireturn, 1) := by decide +kernel
theorem dX11_rule_138 : decode cX11_rule 138 = .ok (.aload_n 0, 1) := by decide +kernel
theorem dX11_rule_139 : decode cX11_rule 139 = .ok (.getfield 70, 3) := by decide +kernel
theorem dX11_rule_142 : decode cX11_rule 142 = .ok (.invokevirtual 177, 3) := by decide +kernel
theorem dX11_rule_145 : decode cX11_rule 145 = .ok (.ireturn, 1) := by decide +kernel
theorem dX11_rule_146 : decode cX11_rule 146 = .ok (.iconst (-1), 1) := by decide +kernel
theorem dX11_rule_147 : decode cX11_rule 147 = .ok (.ireturn, 1) := by decide +kernel
theorem dX11_noun_0 : decode cX11_noun 0 = .ok (.aload_n 0, 1) := by decide +kernel
theorem dX11_noun_1 : decode cX11_noun 1 = .ok (.iload_n 1, 1) := by decide +kernel
theorem dX11_noun_2 : decode cX11_noun 2 = .ok (.invokevirtual 180, 3) := by decide +kernel
theorem dX11_noun_5 : decode cX11_noun 5 = .ok (.ifCond .eq 12, 3) := by decide +kernel
theorem dX11_noun_8 : decode cX11_noun 8 = .ok (.iload_n 2, 1) := by decide +kernel
theorem dX11_noun_9 : decode cX11_noun 9 = .ok (.ifCond .lt 8, 3) := by decide +kernel
theorem dX11_noun_12 : decode cX11_noun 12 = .ok (.iload_n 2, 1) := by decide +kernel
theorem dX11_noun_13 : decode cX11_noun 13 = .ok (.iconst 2, 1) := by decide +kernel
theorem dX11_noun_14 : decode cX11_noun 14 = .ok (.if_icmp .le 11, 3) := by decide +kernel
theorem dX11_noun_17 : decode cX11_noun 17 = .ok (.new 184, 3) := by decide +kernel
theorem dX11_noun_20 : decode cX11_noun 20 = .ok (.dup, 1) := by decide +kernel
theorem dX11_noun_21 : decode cX11_noun 21 = .ok (.invokespecial 186, 3) := by decide +kernel
theorem dX11_noun_24 : decode cX11_noun 24 = .ok (.athrow, 1) := by decide +kernel
theorem dX11_noun_25 : decode cX11_noun 25 = .ok (.iload_n 2, 1) := by decide +kernel
theorem dX11_noun_26 : decode cX11_noun 26 = .ok (.ifCond .ne 13, 3) := by decide +kernel
theorem dX11_noun_29 : decode cX11_noun 29 = .ok (.aload_n 0, 1) := by decide +kernel
theorem dX11_noun_30 : decode cX11_noun 30 = .ok (.getfield 44, 3) := by decide +kernel
theorem dX11_noun_33 : decode cX11_noun 33 = .ok (.getfield 187, 3) := by decide +kernel
theorem dX11_noun_36 : decode cX11_noun 36 = .ok (.iload_n 1, 1) := by decide +kernel
theorem dX11_noun_37 : decode cX11_noun 37 = .ok (.iaload, 1) := by decide +kernel
theorem dX11_noun_38 : decode cX11_noun 38 = .ok (.ireturn, 1) := by decide +kernel
theorem dX11_noun_39 : decode cX11_noun 39 = .ok (.iload_n 2, 1) := by decide +kernel
theorem dX11_noun_40 : decode cX11_noun 40 = .ok (.iconst 1, 1) := by decide +kernel
theorem dX11_noun_41 : decode cX11_noun 41 = .ok (.if_icmp .ne 18, 3) := by decide +kernel
theorem dX11_noun_44 : decode cX11_noun 44 = .ok (.aload_n 0, 1) := by decide +kernel
theorem dX11_noun_45 : decode cX11_noun 45 = .ok (.getfield 44, 3) := by decide +kernel
theorem dX11_noun_48 : decode cX11_noun 48 = .ok (.getfield 190, 3) := by decide +kernel
theorem dX11_noun_51 : decode cX11_noun 51 = .ok (.iload_n 1, 1) := by decide +kernel
theorem dX11_noun_52 : decode cX11_noun 52 = .ok (.laload, 1) := by decide +kernel
theorem dX11_noun_53 : decode cX11_noun 53 = .ok (.invokestatic 193, 3) := by decide +kernel
theorem dX11_noun_56 : decode cX11_noun 56 = .ok (.goto 8, 3) := by decide +kernel
theorem dX11_noun_59 : decode cX11_noun 59 = .ok (.aload_n 0, 1) := by decide +kernel
theorem dX11_noun_60 : decode cX11_noun 60 = .ok (.iload_n 1, 1) := by decide +kernel
theorem dX11_noun_61 : decode cX11_noun 61 = .ok (.invokevirtual 197, 3) := by decide +kernel
theorem dX11_noun_64 : decode cX11_noun 64 = .ok (.ireturn, 1) := by decide +kernel
theorem dX11_form_0 : decode cX11_form 0 = .ok (.aload_n 0, 1) := by decide +kernel
theorem dX11_form_1 : decode cX11_form 1 = .ok (.iload_n 1, 1) := by decide +kernel
theorem dX11_form_2 : decode cX11_form 2 = .ok (.invokevirtual 180, 3) := by decide +kernel
theorem dX11_form_5 : decode cX11_form 5 = .ok (.ifCond .eq 11, 3) := by decide +kernel
theorem dX11_form_8 : decode cX11_form 8 = .ok (.iload_n 2, 1) := by decide +kernel
theorem dX11_form_9 : decode cX11_form 9 = .ok (.iload_n 3, 1) := by decide +kernel
theorem dX11_form_10 : decode cX11_form 10 = .ok (.invokestatic 200, 3) := by decide +kernel
theorem dX11_form_13 : decode cX11_form 13 = .ok (.ifCond .ne 5, 3) := by decide +kernel
theorem dX11_form_16 : decode cX11_form 16 = .ok (.iconst (-1), 1) := by decide +kernel
theorem dX11_form_17 : decode cX11_form 17 = .ok (.ireturn, 1) := by decide +kernel
theorem dX11_form_18 : decode cX11_form 18 = .ok (.aload_n 0, 1) := by decide +kernel
theorem dX11_form_19 : decode cX11_form 19 = .ok (.getfield 70, 3) := by decide +kernel
theorem dX11_form_22 : decode cX11_form 22 = .ok (.iload_n 1, 1) := by decide +kernel
theorem dX11_form_23 : decode cX11_form 23 = .ok (.iload_n 2, 1) := by decide +kernel
theorem dX11_form_24 : decode cX11_form 24 = .ok (.iload_n 3, 1) := by decide +kernel
theorem dX11_form_25 : decode cX11_form 25 = .ok (.invokevirtual 204, 3) := by decide +kernel
theorem dX11_form_28 : decode cX11_form 28 = .ok (.iload 4, 2) := by decide +kernel
theorem dX11_form_30 : decode cX11_form 30 = .ok (.invokestatic 208, 3) := by decide +kernel
theorem dX11_form_33 : decode cX11_form 33 = .ok (.ireturn, 1) := by decide +kernel
theorem dX11_byDefault_0 : decode cX11_byDefault 0 = .ok (.aload_n 0, 1) := by decide +kernel
theorem dX11_byDefault_1 : decode cX11_byDefault 1 = .ok (.iload_n 1, 1) := by decide +kernel
theorem dX11_byDefault_2 : decode cX11_byDefault 2 = .ok (.invokevirtual 180, 3) := by decide +kernel
theorem dX11_byDefault_5 : decode cX11_byDefault 5 = .ok (.ifCond .eq 11, 3) := by decide +kernel
theorem dX11_byDefault_8 : decode cX11_byDefault 8 = .ok (.iload_n 2, 1) := by decide +kernel
theorem dX11_byDefault_9 : decode cX11_byDefault 9 = .ok (.iload_n 3, 1) := by decide +kernel
theorem dX11_byDefault_10 : decode cX11_byDefault 10 = .ok (.invokestatic 200, 3) := by decide +kernel
theorem dX11_byDefault_13 : decode cX11_byDefault 13 = .ok (.ifCond .ne 5, 3) := by decide +kernel
theorem dX11_byDefault_16 : decode cX11_byDefault 16 = .ok (.iconst (-1), 1) := by decide +kernel
theorem dX11_byDefault_17 : decode cX11_byDefault 17 = .ok (.ireturn, 1) := by decide +kernel
theorem dX11_byDefault_18 : decode cX11_byDefault 18 = .ok (.aload_n 0, 1) := by decide +kernel
theorem dX11_byDefault_19 : decode cX11_byDefault 19 = .ok (.getfield 58, 3) := by decide +kernel
theorem dX11_byDefault_22 : decode cX11_byDefault 22 = .ok (.iload_n 1, 1) := by decide +kernel
theorem dX11_byDefault_23 : decode cX11_byDefault 23 = .ok (.iload_n 2, 1) := by decide +kernel
theorem dX11_byDefault_24 : decode cX11_byDefault 24 = .ok (.iload_n 3, 1) := by decide +kernel
theorem dX11_byDefault_25 : decode cX11_byDefault 25 = .ok (.invokevirtual 212, 3) := by decide +kernel
theorem dX11_byDefault_28 : decode cX11_byDefault 28 = .ok (.ireturn, 1) := by decide +kernel
theorem dX11_word_0 : decode cX11_word 0 = .ok (.aload_n 0, 1) := by decide +kernel
theorem dX11_word_1 : decode cX11_word 1 = .ok (.getfield 140, 3) := by decide +kernel
theorem dX11_word_4 : decode cX11_word 4 = .ok (.ifCond .eq 22, 3) := by decide +kernel
theorem dX11_word_7 : decode cX11_word 7 = .ok (.iload_n 2, 1) := by decide +kernel
theorem dX11_word_8 : decode cX11_word 8 = .ok (.iload_n 3, 1) := by decide +kernel
theorem dX11_word_9 : decode cX11_word 9 = .ok (.invokestatic 200, 3) := by decide +kernel
theorem dX11_word_12 : decode cX11_word 12 = .ok (.ifCond .eq 14, 3) := by decide +kernel
theorem dX11_word_15 : decode cX11_word 15 = .ok (.iload 4, 2) := by decide +kernel
theorem dX11_word_17 : decode cX11_word 17 = .ok (.ifCond .lt 9, 3) := by decide +kernel
theorem dX11_word_20 : decode cX11_word 20 = .ok (.iload 4, 2) := by decide +kernel
theorem dX11_word_22 : decode cX11_word 22 = .ok (.iconst 3, 1) := by decide +kernel
theorem dX11_word_23 : decode cX11_word 23 = .ok (.if_icmp .lt 5, 3) := by decide +kernel
theorem dX11_word_26 : decode cX11_word 26 = .ok (.iconst (-1), 1) := by decide +kernel
theorem dX11_word_27 : decode cX11_word 27 = .ok (.ireturn, 1) := by decide +kernel
theorem dX11_word_28 : decode cX11_word 28 = .ok (.iload_n 1, 1) := by decide +kernel
theorem dX11_word_29 : decode cX11_word 29 = .ok (.ifCond .eq 13, 3) := by decide +kernel
theorem dX11_word_32 : decode cX11_word 32 = .ok (.aload_n 0, 1) := by decide +kernel
theorem dX11_word_33 : decode cX11_word 33 = .ok (.getfield 44, 3) := by decide +kernel
theorem dX11_word_36 : decode cX11_word 36 = .ok (.getfield 167, 3) := by decide +kernel
theorem dX11_word_39 : decode cX11_word 39 = .ok (.goto 10, 3) := by decide +kernel
theorem dX11_word_42 : decode cX11_word 42 = .ok (.aload_n 0, 1) := by decide +kernel
theorem dX11_word_43 : decode cX11_word 43 = .ok (.getfield 44, 3) := by decide +kernel
theorem dX11_word_46 : decode cX11_word 46 = .ok (.getfield 159, 3) := by decide +kernel
theorem dX11_word_49 : decode cX11_word 49 = .ok (.astore 6, 2) := by decide +kernel
theorem dX11_word_51 : decode cX11_word 51 = .ok (.aload 6, 2) := by decide +kernel
theorem dX11_word_53 : decode cX11_word 53 = .ok (.iload_n 2, 1) := by decide +kernel
theorem dX11_word_54 : decode cX11_word 54 = .ok (.iload_n 3, 1) := by decide +kernel
theorem dX11_word_55 : decode cX11_word 55 = .ok (.iload 4, 2) := by decide +kernel
theorem dX11_word_57 : decode cX11_word 57 = .ok (.invokestatic 216, 3) := by decide +kernel
theorem dX11_word_60 : decode cX11_word 60 = .ok (.iload 5, 2) := by decide +kernel
theorem dX11_word_62 : decode cX11_word 62 = .ok (.invokestatic 208, 3) := by decide +kernel
theorem dX11_word_65 : decode cX11_word 65 = .ok (.ireturn, 1) := by decide +kernel
theorem dX11_hole_0 : decode cX11_hole 0 = .ok (.aload_n 0, 1) := by decide +kernel
theorem dX11_hole_1 : decode cX11_hole 1 = .ok (.getfield 140, 3) := by decide +kernel
theorem dX11_hole_4 : decode cX11_hole 4 = .ok (.ifCond .eq 21, 3) := by decide +kernel
theorem dX11_hole_7 : decode cX11_hole 7 = .ok (.iload_n 1, 1) := by decide +kernel
theorem dX11_hole_8 : decode cX11_hole 8 = .ok (.invokestatic 220, 3) := by decide +kernel
theorem dX11_hole_11 : decode cX11_hole 11 = .ok (.ifCond .eq 14, 3) := by decide +kernel
theorem dX11_hole_14 : decode cX11_hole 14 = .ok (.aload_n 0, 1) := by decide +kernel
theorem dX11_hole_15 : decode cX11_hole 15 = .ok (.getfield 58, 3) := by decide +kernel
theorem dX11_hole_18 : decode cX11_hole 18 = .ok (.iload_n 1, 1) := by decide +kernel
theorem dX11_hole_19 : decode cX11_hole 19 = .ok (.invokevirtual 223, 3) := by decide +kernel
theorem dX11_hole_22 : decode cX11_hole 22 = .ok (.ifCond .eq 5, 3) := by decide +kernel
theorem dX11_hole_25 : decode cX11_hole 25 = .ok (.iconst (-1), 1) := by decide +kernel
theorem dX11_hole_26 : decode cX11_hole 26 = .ok (.ireturn, 1) := by decide +kernel
theorem dX11_hole_27 : decode cX11_hole 27 = .ok (.iload_n 2, 1) := by decide +kernel
theorem dX11_hole_28 : decode cX11_hole 28 = .ok (.tableswitch 55 0 2 #[28, 37, 46], 28) := by decide +kernel
theorem dX11_hole_56 : decode cX11_hole 56 = .ok (.aload_n 0, 1) := by decide +kernel
theorem dX11_hole_57 : decode cX11_hole 57 = .ok (.getfield 58, 3) := by decide +kernel
theorem dX11_hole_60 : decode cX11_hole 60 = .ok (.iload_n 1, 1) := by decide +kernel
theorem dX11_hole_61 : decode cX11_hole 61 = .ok (.invokevirtual 226, 3) := by decide +kernel
theorem dX11_hole_64 : decode cX11_hole 64 = .ok (.ireturn, 1) := by decide +kernel
theorem dX11_hole_65 : decode cX11_hole 65 = .ok (.aload_n 0, 1) := by decide +kernel
theorem dX11_hole_66 : decode cX11_hole 66 = .ok (.getfield 58, 3) := by decide +kernel
theorem dX11_hole_69 : decode cX11_hole 69 = .ok (.iload_n 1, 1) := by decide +kernel
theorem dX11_hole_70 : decode cX11_hole 70 = .ok (.invokevirtual 229, 3) := by decide +kernel
theorem dX11_hole_73 : decode cX11_hole 73 = .ok (.ireturn, 1) := by decide +kernel
theorem dX11_hole_74 : decode cX11_hole 74 = .ok (.aload_n 0, 1) := by decide +kernel
theorem dX11_hole_75 : decode cX11_hole 75 = .ok (.getfield 58, 3) := by decide +kernel
theorem dX11_hole_78 : decode cX11_hole 78 = .ok (.iload_n 1, 1) := by decide +kernel
theorem dX11_hole_79 : decode cX11_hole 79 = .ok (.invokevirtual 232, 3) := by decide +kernel
theorem dX11_hole_82 : decode cX11_hole 82 = .ok (.ireturn, 1) := by decide +kernel
theorem dX11_hole_83 : decode cX11_hole 83 = .ok (.iconst (-1), 1) := by decide +kernel
theorem dX11_hole_84 : decode cX11_hole 84 = .ok (.ireturn, 1) := by decide +kernel
theorem dX11_message_0 : decode cX11_message 0 = .ok (.aload_n 0, 1) := by decide +kernel
theorem dX11_message_1 : decode cX11_message 1 = .ok (.iload_n 1, 1) := by decide +kernel
theorem dX11_message_2 : decode cX11_message 2 = .ok (.invokevirtual 235, 3) := by decide +kernel
theorem dX11_message_5 : decode cX11_message 5 = .ok (.ifCond .ne 5, 3) := by decide +kernel
theorem dX11_message_8 : decode cX11_message 8 = .ok (.iconst (-1), 1) := by decide +kernel
theorem dX11_message_9 : decode cX11_message 9 = .ok (.ireturn, 1) := by decide +kernel
theorem dX11_message_10 : decode cX11_message 10 = .ok (.iload_n 2, 1) := by decide +kernel
theorem dX11_message_11 : decode cX11_message 11 = .ok (.tableswitch 74 0 3 #[29, 39, 48, 65], 29) := by decide +kernel
theorem dX11_message_40 : decode cX11_message 40 = .ok (.aload_n 0, 1) := by decide +kernel
theorem dX11_message_41 : decode cX11_message 41 = .ok (.getfield 44, 3) := by decide +kernel
theorem dX11_message_44 : decode cX11_message 44 = .ok (.getfield 238, 3) := by decide +kernel
theorem dX11_message_47 : decode cX11_message 47 = .ok (.iload_n 1, 1) := by decide +kernel
theorem dX11_message_48 : decode cX11_message 48 = .ok (.iaload, 1) := by decide +kernel
theorem dX11_message_49 : decode cX11_message 49 = .ok (.ireturn, 1) := by decide +kernel
theorem dX11_message_50 : decode cX11_message 50 = .ok (.aload_n 0, 1) := by decide +kernel
theorem dX11_message_51 : decode cX11_message 51 = .ok (.getfield 44, 3) := by decide +kernel
theorem dX11_message_54 : decode cX11_message 54 = .ok (.iload_n 1, 1) := by decide +kernel
theorem dX11_message_55 : decode cX11_message 55 = .ok (.invokevirtual 241, 3) := by decide +kernel
theorem dX11_message_58 : decode cX11_message 58 = .ok (.ireturn, 1) := by decide +kernel
theorem dX11_message_59 : decode cX11_message 59 = .ok (.aload_n 0, 1) := by decide +kernel
theorem dX11_message_60 : decode cX11_message 60 = .ok (.getfield 70, 3) := by decide +kernel
theorem dX11_message_63 : decode cX11_message 63 = .ok (.iload_n 1, 1) := by decide +kernel
theorem dX11_message_64 : decode cX11_message 64 = .ok (.invokevirtual 244, 3) := by decide +kernel
theorem dX11_message_67 : decode cX11_message 67 = .ok (.ifCond .eq 7, 3) := by decide +kernel
theorem dX11_message_70 : decode cX11_message 70 = .ok (.iconst 1, 1) := by decide +kernel
theorem dX11_message_71 : decode cX11_message 71 = .ok (.goto 4, 3) := by decide +kernel
theorem dX11_message_74 : decode cX11_message 74 = .ok (.iconst 0, 1) := by decide +kernel
theorem dX11_message_75 : decode cX11_message 75 = .ok (.ireturn, 1) := by decide +kernel
theorem dX11_message_76 : decode cX11_message 76 = .ok (.aload_n 0, 1) := by decide +kernel
theorem dX11_message_77 : decode cX11_message 77 = .ok (.getfield 70, 3) := by decide +kernel
theorem dX11_message_80 : decode cX11_message 80 = .ok (.iload_n 1, 1) := by decide +kernel
theorem dX11_message_81 : decode cX11_message 81 = .ok (.invokevirtual 247, 3) := by decide +kernel
theorem dX11_message_84 : decode cX11_message 84 = .ok (.ireturn, 1) := by decide +kernel
theorem dX11_message_85 : decode cX11_message 85 = .ok (.iconst (-1), 1) := by decide +kernel
theorem dX11_message_86 : decode cX11_message 86 = .ok (.ireturn, 1) := by decide +kernel
theorem dX11_told_0 : decode cX11_told 0 = .ok (.aload_n 0, 1) := by decide +kernel
theorem dX11_told_1 : decode cX11_told 1 = .ok (.iload_n 1, 1) := by decide +kernel
theorem dX11_told_2 : decode cX11_told 2 = .ok (.invokevirtual 235, 3) := by decide +kernel
theorem dX11_told_5 : decode cX11_told 5 = .ok (.ifCond .ne 5, 3) := by decide +kernel
theorem dX11_told_8 : decode cX11_told 8 = .ok (.iconst (-1), 1) := by decide +kernel
theorem dX11_told_9 : decode cX11_told 9 = .ok (.ireturn, 1) := by decide +kernel
theorem dX11_told_10 : decode cX11_told 10 = .ok (.aload_n 0, 1) := by decide +kernel
theorem dX11_told_11 : decode cX11_told 11 = .ok (.getfield 70, 3) := by decide +kernel
theorem dX11_told_14 : decode cX11_told 14 = .ok (.iload_n 1, 1) := by decide +kernel
theorem dX11_told_15 : decode cX11_told 15 = .ok (.invokevirtual 247, 3) := by decide +kernel
theorem dX11_told_18 : decode cX11_told 18 = .ok (.istore_n 3, 1) := by decide +kernel
theorem dX11_told_19 : decode cX11_told 19 = .ok (.iload_n 2, 1) := by decide +kernel
theorem dX11_told_20 : decode cX11_told 20 = .ok (.ifCond .lt 20, 3) := by decide +kernel
theorem dX11_told_23 : decode cX11_told 23 = .ok (.iload_n 2, 1) := by decide +kernel
theorem dX11_told_24 : decode cX11_told 24 = .ok (.iload_n 3, 1) := by decide +kernel
theorem dX11_told_25 : decode cX11_told 25 = .ok (.if_icmp .ge 15, 3) := by decide +kernel
theorem dX11_told_28 : decode cX11_told 28 = .ok (.aload_n 0, 1) := by decide +kernel
theorem dX11_told_29 : decode cX11_told 29 = .ok (.getfield 70, 3) := by decide +kernel
theorem dX11_told_32 : decode cX11_told 32 = .ok (.getfield 250, 3) := by decide +kernel
theorem dX11_told_35 : decode cX11_told 35 = .ok (.iload_n 2, 1) := by decide +kernel
theorem dX11_told_36 : decode cX11_told 36 = .ok (.caload, 1) := by decide +kernel
theorem dX11_told_37 : decode cX11_told 37 = .ok (.goto 4, 3) := by decide +kernel
theorem dX11_told_40 : decode cX11_told 40 = .ok (.iconst (-1), 1) := by decide +kernel
theorem dX11_told_41 : decode cX11_told 41 = .ok (.ireturn, 1) := by decide +kernel
theorem dX11_why_0 : decode cX11_why 0 = .ok (.aload_n 0, 1) := by decide +kernel
theorem dX11_why_1 : decode cX11_why 1 = .ok (.iload_n 1, 1) := by decide +kernel
theorem dX11_why_2 : decode cX11_why 2 = .ok (.invokevirtual 235, 3) := by decide +kernel
theorem dX11_why_5 : decode cX11_why 5 = .ok (.ifCond .eq 14, 3) := by decide +kernel
theorem dX11_why_8 : decode cX11_why 8 = .ok (.aload_n 0, 1) := by decide +kernel
theorem dX11_why_9 : decode cX11_why 9 = .ok (.getfield 70, 3) := by decide +kernel
theorem dX11_why_12 : decode cX11_why 12 = .ok (.iload_n 1, 1) := by decide +kernel
theorem dX11_why_13 : decode cX11_why 13 = .ok (.invokevirtual 244, 3) := by decide +kernel
theorem dX11_why_16 : decode cX11_why 16 = .ok (.ifCond .eq 5, 3) := by decide +kernel
theorem dX11_why_19 : decode cX11_why 19 = .ok (.iconst (-1), 1) := by decide +kernel
theorem dX11_why_20 : decode cX11_why 20 = .ok (.ireturn, 1) := by decide +kernel
theorem dX11_why_21 : decode cX11_why 21 = .ok (.iload_n 2, 1) := by decide +kernel
theorem dX11_why_22 : decode cX11_why 22 = .ok (.tableswitch 50 0 2 #[26, 34, 42], 26) := by decide +kernel
theorem dX11_why_48 : decode cX11_why 48 = .ok (.aload_n 0, 1) := by decide +kernel
theorem dX11_why_49 : decode cX11_why 49 = .ok (.getfield 70, 3) := by decide +kernel
theorem dX11_why_52 : decode cX11_why 52 = .ok (.getfield 254, 3) := by decide +kernel
theorem dX11_why_55 : decode cX11_why 55 = .ok (.ireturn, 1) := by decide +kernel
theorem dX11_why_56 : decode cX11_why 56 = .ok (.aload_n 0, 1) := by decide +kernel
theorem dX11_why_57 : decode cX11_why 57 = .ok (.getfield 70, 3) := by decide +kernel
theorem dX11_why_60 : decode cX11_why 60 = .ok (.getfield 257, 3) := by decide +kernel
theorem dX11_why_63 : decode cX11_why 63 = .ok (.ireturn, 1) := by decide +kernel
theorem dX11_why_64 : decode cX11_why 64 = .ok (.aload_n 0, 1) := by decide +kernel
theorem dX11_why_65 : decode cX11_why 65 = .ok (.getfield 70, 3) := by decide +kernel
theorem dX11_why_68 : decode cX11_why 68 = .ok (.getfield 260, 3) := by decide +kernel
theorem dX11_why_71 : decode cX11_why 71 = .ok (.ireturn, 1) := by decide +kernel
theorem dX11_why_72 : decode cX11_why 72 = .ok (.iconst (-1), 1) := by decide +kernel
theorem dX11_why_73 : decode cX11_why 73 = .ok (.ireturn, 1) := by decide +kernel
theorem dX11_missing_0 : decode cX11_missing 0 = .ok (.aload_n 0, 1) := by decide +kernel
theorem dX11_missing_1 : decode cX11_missing 1 = .ok (.iload_n 1, 1) := by decide +kernel
theorem dX11_missing_2 : decode cX11_missing 2 = .ok (.invokevirtual 235, 3) := by decide +kernel
theorem dX11_missing_5 : decode cX11_missing 5 = .ok (.ifCond .ne 5, 3) := by decide +kernel
theorem dX11_missing_8 : decode cX11_missing 8 = .ok (.iconst (-1), 1) := by decide +kernel
theorem dX11_missing_9 : decode cX11_missing 9 = .ok (.ireturn, 1) := by decide +kernel
theorem dX11_missing_10 : decode cX11_missing 10 = .ok (.iload_n 2, 1) := by decide +kernel
theorem dX11_missing_11 : decode cX11_missing 11 = .ok (.iconst (-1), 1) := by decide +kernel
theorem dX11_missing_12 : decode cX11_missing 12 = .ok (.if_icmp .ne 12, 3) := by decide +kernel
theorem dX11_missing_15 : decode cX11_missing 15 = .ok (.aload_n 0, 1) := by decide +kernel
theorem dX11_missing_16 : decode cX11_missing 16 = .ok (.getfield 70, 3) := by decide +kernel
theorem dX11_missing_19 : decode cX11_missing 19 = .ok (.iload_n 1, 1) := by decide +kernel
theorem dX11_missing_20 : decode cX11_missing 20 = .ok (.invokevirtual 263, 3) := by decide +kernel
theorem dX11_missing_23 : decode cX11_missing 23 = .ok (.ireturn, 1) := by decide +kernel
theorem dX11_missing_24 : decode cX11_missing 24 = .ok (.aload_n 0, 1) := by decide +kernel
theorem dX11_missing_25 : decode cX11_missing 25 = .ok (.getfield 70, 3) := by decide +kernel
theorem dX11_missing_28 : decode cX11_missing 28 = .ok (.iload_n 1, 1) := by decide +kernel
theorem dX11_missing_29 : decode cX11_missing 29 = .ok (.iload_n 2, 1) := by decide +kernel
theorem dX11_missing_30 : decode cX11_missing 30 = .ok (.invokevirtual 266, 3) := by decide +kernel
theorem dX11_missing_33 : decode cX11_missing 33 = .ok (.istore 4, 2) := by decide +kernel
theorem dX11_missing_35 : decode cX11_missing 35 = .ok (.iload 4, 2) := by decide +kernel
theorem dX11_missing_37 : decode cX11_missing 37 = .ok (.iconst (-1), 1) := by decide +kernel
theorem dX11_missing_38 : decode cX11_missing 38 = .ok (.if_icmp .ne 5, 3) := by decide +kernel
theorem dX11_missing_41 : decode cX11_missing 41 = .ok (.iconst (-1), 1) := by decide +kernel
theorem dX11_missing_42 : decode cX11_missing 42 = .ok (.ireturn, 1) := by decide +kernel
theorem dX11_missing_43 : decode cX11_missing 43 = .ok (.aload_n 0, 1) := by decide +kernel
theorem dX11_missing_44 : decode cX11_missing 44 = .ok (.getfield 44, 3) := by decide +kernel
theorem dX11_missing_47 : decode cX11_missing 47 = .ok (.getfield 270, 3) := by decide +kernel
theorem dX11_missing_50 : decode cX11_missing 50 = .ok (.iload 4, 2) := by decide +kernel
theorem dX11_missing_52 : decode cX11_missing 52 = .ok (.iaload, 1) := by decide +kernel
theorem dX11_missing_53 : decode cX11_missing 53 = .ok (.istore 5, 2) := by decide +kernel
theorem dX11_missing_55 : decode cX11_missing 55 = .ok (.aload_n 0, 1) := by decide +kernel
theorem dX11_missing_56 : decode cX11_missing 56 = .ok (.getfield 44, 3) := by decide +kernel
theorem dX11_missing_59 : decode cX11_missing 59 = .ok (.getfield 273, 3) := by decide +kernel
theorem dX11_missing_62 : decode cX11_missing 62 = .ok (.iload 4, 2) := by decide +kernel
theorem dX11_missing_64 : decode cX11_missing 64 = .ok (.iaload, 1) := by decide +kernel
theorem dX11_missing_65 : decode cX11_missing 65 = .ok (.istore 6, 2) := by decide +kernel
theorem dX11_missing_67 : decode cX11_missing 67 = .ok (.iload_n 3, 1) := by decide +kernel
theorem dX11_missing_68 : decode cX11_missing 68 = .ok (.tableswitch 83 0 3 #[32, 42, 45, 55], 32) := by decide +kernel
theorem dX11_missing_100 : decode cX11_missing 100 = .ok (.aload_n 0, 1) := by decide +kernel
theorem dX11_missing_101 : decode cX11_missing 101 = .ok (.getfield 58, 3) := by decide +kernel
theorem dX11_missing_104 : decode cX11_missing 104 = .ok (.iload 5, 2) := by decide +kernel
theorem dX11_missing_106 : decode cX11_missing 106 = .ok (.invokevirtual 226, 3) := by decide +kernel
theorem dX11_missing_109 : decode cX11_missing 109 = .ok (.ireturn, 1) := by decide +kernel
theorem dX11_missing_110 : decode cX11_missing 110 = .ok (.iload 6, 2) := by decide +kernel
theorem dX11_missing_112 : decode cX11_missing 112 = .ok (.ireturn, 1) := by decide +kernel
theorem dX11_missing_113 : decode cX11_missing 113 = .ok (.aload_n 0, 1) := by decide +kernel
theorem dX11_missing_114 : decode cX11_missing 114 = .ok (.getfield 58, 3) := by decide +kernel
theorem dX11_missing_117 : decode cX11_missing 117 = .ok (.iload 5, 2) := by decide +kernel
theorem dX11_missing_119 : decode cX11_missing 119 = .ok (.invokevirtual 232, 3) := by decide +kernel
theorem dX11_missing_122 : decode cX11_missing 122 = .ok (.ireturn, 1) := by decide +kernel
theorem dX11_missing_123 : decode cX11_missing 123 = .ok (.aload_n 0, 1) := by decide +kernel
theorem dX11_missing_124 : decode cX11_missing 124 = .ok (.getfield 58, 3) := by decide +kernel
theorem dX11_missing_127 : decode cX11_missing 127 = .ok (.aload_n 0, 1) := by decide +kernel
theorem dX11_missing_128 : decode cX11_missing 128 = .ok (.getfield 58, 3) := by decide +kernel
theorem dX11_missing_131 : decode cX11_missing 131 = .ok (.iload 5, 2) := by decide +kernel
theorem dX11_missing_133 : decode cX11_missing 133 = .ok (.invokevirtual 226, 3) := by decide +kernel
theorem dX11_missing_136 : decode cX11_missing 136 = .ok (.iload 6, 2) := by decide +kernel
theorem dX11_missing_138 : decode cX11_missing 138 = .ok (.aload_n 0, 1) := by decide +kernel
theorem dX11_missing_139 : decode cX11_missing 139 = .ok (.getfield 58, 3) := by decide +kernel
theorem dX11_missing_142 : decode cX11_missing 142 = .ok (.iload 5, 2) := by decide +kernel
theorem dX11_missing_144 : decode cX11_missing 144 = .ok (.invokevirtual 232, 3) := by decide +kernel
theorem dX11_missing_147 : decode cX11_missing 147 = .ok (.invokevirtual 212, 3) := by decide +kernel
theorem dX11_missing_150 : decode cX11_missing 150 = .ok (.ireturn, 1) := by decide +kernel
theorem dX11_missing_151 : decode cX11_missing 151 = .ok (.iconst (-1), 1) := by decide +kernel
theorem dX11_missing_152 : decode cX11_missing 152 = .ok (.ireturn, 1) := by decide +kernel
theorem dX11_bare_0 : decode cX11_bare 0 = .ok (.aload_n 0, 1) := by decide +kernel
theorem dX11_bare_1 : decode cX11_bare 1 = .ok (.iload_n 1, 1) := by decide +kernel
theorem dX11_bare_2 : decode cX11_bare 2 = .ok (.invokevirtual 180, 3) := by decide +kernel
theorem dX11_bare_5 : decode cX11_bare 5 = .ok (.ifCond .ne 5, 3) := by decide +kernel
theorem dX11_bare_8 : decode cX11_bare 8 = .ok (.iconst (-1), 1) := by decide +kernel
theorem dX11_bare_9 : decode cX11_bare 9 = .ok (.ireturn, 1) := by decide +kernel
theorem dX11_bare_10 : decode cX11_bare 10 = .ok (.iconst 0, 1) := by decide +kernel
theorem dX11_bare_11 : decode cX11_bare 11 = .ok (.istore_n 2, 1) := by decide +kernel
theorem dX11_bare_12 : decode cX11_bare 12 = .ok (.iconst 0, 1) := by decide +kernel
theorem dX11_bare_13 : decode cX11_bare 13 = .ok (.istore_n 3, 1) := by decide +kernel
theorem dX11_bare_14 : decode cX11_bare 14 = .ok (.iload_n 3, 1) := by decide +kernel
theorem dX11_bare_15 : decode cX11_bare 15 = .ok (.bipush 8, 2) := by decide +kernel
theorem dX11_bare_17 : decode cX11_bare 17 = .ok (.if_icmp .ge 34, 3) := by decide +kernel
theorem dX11_bare_20 : decode cX11_bare 20 = .ok (.aload_n 0, 1) := by decide +kernel
theorem dX11_bare_21 : decode cX11_bare 21 = .ok (.getfield 58, 3) := by decide +kernel
theorem dX11_bare_24 : decode cX11_bare 24 = .ok (.getfield 170, 3) := by decide +kernel
theorem dX11_bare_27 : decode cX11_bare 27 = .ok (.iload_n 1, 1) := by decide +kernel
theorem dX11_bare_28 : decode cX11_bare 28 = .ok (.bipush 8, 2) := by decide +kernel
theorem dX11_bare_30 : decode cX11_bare 30 = .ok (.imul, 1) := by decide +kernel
theorem dX11_bare_31 : decode cX11_bare 31 = .ok (.iload_n 3, 1) := by decide +kernel
theorem dX11_bare_32 : decode cX11_bare 32 = .ok (.iadd, 1) := by decide +kernel
theorem dX11_bare_33 : decode cX11_bare 33 = .ok (.laload, 1) := by decide +kernel
theorem dX11_bare_34 : decode cX11_bare 34 = .ok (.lconst 0, 1) := by decide +kernel
theorem dX11_bare_35 : decode cX11_bare 35 = .ok (.lcmp, 1) := by decide +kernel
theorem dX11_bare_36 : decode cX11_bare 36 = .ok (.ifCond .ne 9, 3) := by decide +kernel
theorem dX11_bare_39 : decode cX11_bare 39 = .ok (.iload_n 2, 1) := by decide +kernel
theorem dX11_bare_40 : decode cX11_bare 40 = .ok (.iconst 1, 1) := by decide +kernel
theorem dX11_bare_41 : decode cX11_bare 41 = .ok (.iload_n 3, 1) := by decide +kernel
theorem dX11_bare_42 : decode cX11_bare 42 = .ok (.ishl, 1) := by decide +kernel
theorem dX11_bare_43 : decode cX11_bare 43 = .ok (.ior, 1) := by decide +kernel
theorem dX11_bare_44 : decode cX11_bare 44 = .ok (.istore_n 2, 1) := by decide +kernel
theorem dX11_bare_45 : decode cX11_bare 45 = .ok (.iinc 3 1, 3) := by decide +kernel
theorem dX11_bare_48 : decode cX11_bare 48 = .ok (.goto (-34), 3) := by decide +kernel
theorem dX11_bare_51 : decode cX11_bare 51 = .ok (.iload_n 2, 1) := by decide +kernel
theorem dX11_bare_52 : decode cX11_bare 52 = .ok (.ireturn, 1) := by decide +kernel
theorem dX11_fits_0 : decode cX11_fits 0 = .ok (.aload_n 0, 1) := by decide +kernel
theorem dX11_fits_1 : decode cX11_fits 1 = .ok (.iload_n 1, 1) := by decide +kernel
theorem dX11_fits_2 : decode cX11_fits 2 = .ok (.invokevirtual 235, 3) := by decide +kernel
theorem dX11_fits_5 : decode cX11_fits 5 = .ok (.ifCond .eq 10, 3) := by decide +kernel
theorem dX11_fits_8 : decode cX11_fits 8 = .ok (.iload_n 2, 1) := by decide +kernel
theorem dX11_fits_9 : decode cX11_fits 9 = .ok (.invokestatic 220, 3) := by decide +kernel
theorem dX11_fits_12 : decode cX11_fits 12 = .ok (.ifCond .ne 5, 3) := by decide +kernel
theorem dX11_fits_15 : decode cX11_fits 15 = .ok (.iconst (-1), 1) := by decide +kernel
theorem dX11_fits_16 : decode cX11_fits 16 = .ok (.ireturn, 1) := by decide +kernel
theorem dX11_fits_17 : decode cX11_fits 17 = .ok (.aload_n 0, 1) := by decide +kernel
theorem dX11_fits_18 : decode cX11_fits 18 = .ok (.getfield 44, 3) := by decide +kernel
theorem dX11_fits_21 : decode cX11_fits 21 = .ok (.iload_n 1, 1) := by decide +kernel
theorem dX11_fits_22 : decode cX11_fits 22 = .ok (.iconst 1, 1) := by decide +kernel
theorem dX11_fits_23 : decode cX11_fits 23 = .ok (.iload_n 2, 1) := by decide +kernel
theorem dX11_fits_24 : decode cX11_fits 24 = .ok (.ishl, 1) := by decide +kernel
theorem dX11_fits_25 : decode cX11_fits 25 = .ok (.invokevirtual 276, 3) := by decide +kernel
theorem dX11_fits_28 : decode cX11_fits 28 = .ok (.istore_n 3, 1) := by decide +kernel
theorem dX11_fits_29 : decode cX11_fits 29 = .ok (.iconst 0, 1) := by decide +kernel
theorem dX11_fits_30 : decode cX11_fits 30 = .ok (.istore 4, 2) := by decide +kernel
theorem dX11_fits_32 : decode cX11_fits 32 = .ok (.iconst 0, 1) := by decide +kernel
theorem dX11_fits_33 : decode cX11_fits 33 = .ok (.istore 5, 2) := by decide +kernel
theorem dX11_fits_35 : decode cX11_fits 35 = .ok (.iload 5, 2) := by decide +kernel
theorem dX11_fits_37 : decode cX11_fits 37 = .ok (.aload_n 0, 1) := by decide +kernel
theorem dX11_fits_38 : decode cX11_fits 38 = .ok (.getfield 44, 3) := by decide +kernel
theorem dX11_fits_41 : decode cX11_fits 41 = .ok (.getfield 153, 3) := by decide +kernel
theorem dX11_fits_44 : decode cX11_fits 44 = .ok (.if_icmp .ge 28, 3) := by decide +kernel
theorem dX11_fits_47 : decode cX11_fits 47 = .ok (.aload_n 0, 1) := by decide +kernel
theorem dX11_fits_48 : decode cX11_fits 48 = .ok (.iload 5, 2) := by decide +kernel
theorem dX11_fits_50 : decode cX11_fits 50 = .ok (.iload_n 3, 1) := by decide +kernel
theorem dX11_fits_51 : decode cX11_fits 51 = .ok (.invokevirtual 279, 3) := by decide +kernel
theorem dX11_fits_54 : decode cX11_fits 54 = .ok (.ifCond .ne 12, 3) := by decide +kernel
theorem dX11_fits_57 : decode cX11_fits 57 = .ok (.iload 4, 2) := by decide +kernel
theorem dX11_fits_59 : decode cX11_fits 59 = .ok (.iconst 1, 1) := by decide +kernel
theorem dX11_fits_60 : decode cX11_fits 60 = .ok (.iload 5, 2) := by decide +kernel
theorem dX11_fits_62 : decode cX11_fits 62 = .ok (.ishl, 1) := by decide +kernel
theorem dX11_fits_63 : decode cX11_fits 63 = .ok (.ior, 1) := by decide +kernel
theorem dX11_fits_64 : decode cX11_fits 64 = .ok (.istore 4, 2) := by decide +kernel
theorem dX11_fits_66 : decode cX11_fits 66 = .ok (.iinc 5 1, 3) := by decide +kernel
theorem dX11_fits_69 : decode cX11_fits 69 = .ok (.goto (-34), 3) := by decide +kernel
theorem dX11_fits_72 : decode cX11_fits 72 = .ok (.iload 4, 2) := by decide +kernel
theorem dX11_fits_74 : decode cX11_fits 74 = .ok (.ireturn, 1) := by decide +kernel
theorem dX11_needs_0 : decode cX11_needs 0 = .ok (.aload_n 0, 1) := by decide +kernel
theorem dX11_needs_1 : decode cX11_needs 1 = .ok (.iload_n 1, 1) := by decide +kernel
theorem dX11_needs_2 : decode cX11_needs 2 = .ok (.invokevirtual 235, 3) := by decide +kernel
theorem dX11_needs_5 : decode cX11_needs 5 = .ok (.ifCond .ne 5, 3) := by decide +kernel
theorem dX11_needs_8 : decode cX11_needs 8 = .ok (.iconst (-1), 1) := by decide +kernel
theorem dX11_needs_9 : decode cX11_needs 9 = .ok (.ireturn, 1) := by decide +kernel
theorem dX11_needs_10 : decode cX11_needs 10 = .ok (.aload_n 0, 1) := by decide +kernel
theorem dX11_needs_11 : decode cX11_needs 11 = .ok (.getfield 44, 3) := by decide +kernel
theorem dX11_needs_14 : decode cX11_needs 14 = .ok (.iload_n 1, 1) := by decide +kernel
theorem dX11_needs_15 : decode cX11_needs 15 = .ok (.bipush 7, 2) := by decide +kernel
theorem dX11_needs_17 : decode cX11_needs 17 = .ok (.invokevirtual 276, 3) := by decide +kernel
theorem dX11_needs_20 : decode cX11_needs 20 = .ok (.istore_n 2, 1) := by decide +kernel
theorem dX11_needs_21 : decode cX11_needs 21 = .ok (.iconst 0, 1) := by decide +kernel
theorem dX11_needs_22 : decode cX11_needs 22 = .ok (.istore_n 3, 1) := by decide +kernel
theorem dX11_needs_23 : decode cX11_needs 23 = .ok (.iconst 0, 1) := by decide +kernel
theorem dX11_needs_24 : decode cX11_needs 24 = .ok (.istore 4, 2) := by decide +kernel
theorem dX11_needs_26 : decode cX11_needs 26 = .ok (.iload 4, 2) := by decide +kernel
theorem dX11_needs_28 : decode cX11_needs 28 = .ok (.aload_n 0, 1) := by decide +kernel
theorem dX11_needs_29 : decode cX11_needs 29 = .ok (.getfield 44, 3) := by decide +kernel
theorem dX11_needs_32 : decode cX11_needs 32 = .ok (.getfield 153, 3) := by decide +kernel
theorem dX11_needs_35 : decode cX11_needs 35 = .ok (.if_icmp .ge 19, 3) := by decide +kernel
theorem dX11_needs_38 : decode cX11_needs 38 = .ok (.iload_n 3, 1) := by decide +kernel
theorem dX11_needs_39 : decode cX11_needs 39 = .ok (.aload_n 0, 1) := by decide +kernel
theorem dX11_needs_40 : decode cX11_needs 40 = .ok (.iload 4, 2) := by decide +kernel
theorem dX11_needs_42 : decode cX11_needs 42 = .ok (.iload_n 2, 1) := by decide +kernel
theorem dX11_needs_43 : decode cX11_needs 43 = .ok (.invokevirtual 279, 3) := by decide +kernel
theorem dX11_needs_46 : decode cX11_needs 46 = .ok (.iadd, 1) := by decide +kernel
theorem dX11_needs_47 : decode cX11_needs 47 = .ok (.istore_n 3, 1) := by decide +kernel
theorem dX11_needs_48 : decode cX11_needs 48 = .ok (.iinc 4 1, 3) := by decide +kernel
theorem dX11_needs_51 : decode cX11_needs 51 = .ok (.goto (-25), 3) := by decide +kernel
theorem dX11_needs_54 : decode cX11_needs 54 = .ok (.iload_n 3, 1) := by decide +kernel
theorem dX11_needs_55 : decode cX11_needs 55 = .ok (.ireturn, 1) := by decide +kernel
theorem dX11_formsLacking_0 : decode cX11_formsLacking 0 = .ok (.iconst 0, 1) := by decide +kernel
theorem dX11_formsLacking_1 : decode cX11_formsLacking 1 = .ok (.istore_n 3, 1) := by decide +kernel
theorem dX11_formsLacking_2 : decode cX11_formsLacking 2 = .ok (.iconst 0, 1) := by decide +kernel
theorem dX11_formsLacking_3 : decode cX11_formsLacking 3 = .ok (.istore 4, 2) := by decide +kernel
theorem dX11_formsLacking_5 : decode cX11_formsLacking 5 = .ok (.iload 4, 2) := by decide +kernel
theorem dX11_formsLacking_7 : decode cX11_formsLacking 7 = .ok (.bipush 8, 2) := by decide +kernel
theorem dX11_formsLacking_9 : decode cX11_formsLacking 9 = .ok (.if_icmp .ge 55, 3) := by decide +kernel
theorem dX11_formsLacking_12 : decode cX11_formsLacking 12 = .ok (.iload_n 2, 1) := by decide +kernel
theorem dX11_formsLacking_13 : decode cX11_formsLacking 13 = .ok (.iload 4, 2) := by decide +kernel
theorem dX11_formsLacking_15 : decode cX11_formsLacking 15 = .ok (.iconst 2, 1) := by decide +kernel
theorem dX11_formsLacking_16 : decode cX11_formsLacking 16 = .ok (.idiv, 1) := by decide +kernel
theorem dX11_formsLacking_17 : decode cX11_formsLacking 17 = .ok (.ishr, 1) := by decide +kernel
theorem dX11_formsLacking_18 : decode cX11_formsLacking 18 = .ok (.iconst 1, 1) := by decide +kernel
theorem dX11_formsLacking_19 : decode cX11_formsLacking 19 = .ok (.iand, 1) := by decide +kernel
theorem dX11_formsLacking_20 : decode cX11_formsLacking 20 = .ok (.ifCond .eq 7, 3) := by decide +kernel
theorem dX11_formsLacking_23 : decode cX11_formsLacking 23 = .ok (.iconst 1, 1) := by decide +kernel
theorem dX11_formsLacking_24 : decode cX11_formsLacking 24 = .ok (.goto 4, 3) := by decide +kernel
theorem dX11_formsLacking_27 : decode cX11_formsLacking 27 = .ok (.iconst 0, 1) := by decide +kernel
theorem dX11_formsLacking_28 : decode cX11_formsLacking 28 = .ok (.istore 5, 2) := by decide +kernel
theorem dX11_formsLacking_30 : decode cX11_formsLacking 30 = .ok (.iload 5, 2) := by decide +kernel
theorem dX11_formsLacking_32 : decode cX11_formsLacking 32 = .ok (.ifCond .eq 26, 3) := by decide +kernel
theorem dX11_formsLacking_35 : decode cX11_formsLacking 35 = .ok (.aload_n 0, 1) := by decide +kernel
theorem dX11_formsLacking_36 : decode cX11_formsLacking 36 = .ok (.getfield 58, 3) := by decide +kernel
theorem dX11_formsLacking_39 : decode cX11_formsLacking 39 = .ok (.getfield 170, 3) := by decide +kernel
theorem dX11_formsLacking_42 : decode cX11_formsLacking 42 = .ok (.iload_n 1, 1) := by decide +kernel
theorem dX11_formsLacking_43 : decode cX11_formsLacking 43 = .ok (.bipush 8, 2) := by decide +kernel
theorem dX11_formsLacking_45 : decode cX11_formsLacking 45 = .ok (.imul, 1) := by decide +kernel
theorem dX11_formsLacking_46 : decode cX11_formsLacking 46 = .ok (.iload 4, 2) := by decide +kernel
theorem dX11_formsLacking_48 : decode cX11_formsLacking 48 = .ok (.iadd, 1) := by decide +kernel
theorem dX11_formsLacking_49 : decode cX11_formsLacking 49 = .ok (.laload, 1) := by decide +kernel
theorem dX11_formsLacking_50 : decode cX11_formsLacking 50 = .ok (.lconst 0, 1) := by decide +kernel
theorem dX11_formsLacking_51 : decode cX11_formsLacking 51 = .ok (.lcmp, 1) := by decide +kernel
theorem dX11_formsLacking_52 : decode cX11_formsLacking 52 = .ok (.ifCond .ne 6, 3) := by decide +kernel
theorem dX11_formsLacking_55 : decode cX11_formsLacking 55 = .ok (.iinc 3 1, 3) := by decide +kernel
theorem dX11_formsLacking_58 : decode cX11_formsLacking 58 = .ok (.iinc 4 1, 3) := by decide +kernel
theorem dX11_formsLacking_61 : decode cX11_formsLacking 61 = .ok (.goto (-56), 3) := by decide +kernel
theorem dX11_formsLacking_64 : decode cX11_formsLacking 64 = .ok (.iload_n 3, 1) := by decide +kernel
theorem dX11_formsLacking_65 : decode cX11_formsLacking 65 = .ok (.ireturn, 1) := by decide +kernel
theorem dX11_alike_0 : decode cX11_alike 0 = .ok (.aload_n 0, 1) := by decide +kernel
theorem dX11_alike_1 : decode cX11_alike 1 = .ok (.iload_n 1, 1) := by decide +kernel
theorem dX11_alike_2 : decode cX11_alike 2 = .ok (.invokevirtual 180, 3) := by decide +kernel
theorem dX11_alike_5 : decode cX11_alike 5 = .ok (.ifCond .ne 5, 3) := by decide +kernel
theorem dX11_alike_8 : decode cX11_alike 8 = .ok (.iconst (-1), 1) := by decide +kernel
theorem dX11_alike_9 : decode cX11_alike 9 = .ok (.ireturn, 1) := by decide +kernel
theorem dX11_alike_10 : decode cX11_alike 10 = .ok (.iconst 0, 1) := by decide +kernel
theorem dX11_alike_11 : decode cX11_alike 11 = .ok (.istore_n 2, 1) := by decide +kernel
theorem dX11_alike_12 : decode cX11_alike 12 = .ok (.iconst 0, 1) := by decide +kernel
theorem dX11_alike_13 : decode cX11_alike 13 = .ok (.istore_n 3, 1) := by decide +kernel
theorem dX11_alike_14 : decode cX11_alike 14 = .ok (.iload_n 3, 1) := by decide +kernel
theorem dX11_alike_15 : decode cX11_alike 15 = .ok (.bipush 8, 2) := by decide +kernel
theorem dX11_alike_17 : decode cX11_alike 17 = .ok (.if_icmp .ge 39, 3) := by decide +kernel
theorem dX11_alike_20 : decode cX11_alike 20 = .ok (.iconst 1, 1) := by decide +kernel
theorem dX11_alike_21 : decode cX11_alike 21 = .ok (.iload_n 3, 1) := by decide +kernel
theorem dX11_alike_22 : decode cX11_alike 22 = .ok (.ishl, 1) := by decide +kernel
theorem dX11_alike_23 : decode cX11_alike 23 = .ok (.iconst 1, 1) := by decide +kernel
theorem dX11_alike_24 : decode cX11_alike 24 = .ok (.isub, 1) := by decide +kernel
theorem dX11_alike_25 : decode cX11_alike 25 = .ok (.istore 4, 2) := by decide +kernel
theorem dX11_alike_27 : decode cX11_alike 27 = .ok (.aload_n 0, 1) := by decide +kernel
theorem dX11_alike_28 : decode cX11_alike 28 = .ok (.iload_n 1, 1) := by decide +kernel
theorem dX11_alike_29 : decode cX11_alike 29 = .ok (.aload_n 0, 1) := by decide +kernel
theorem dX11_alike_30 : decode cX11_alike 30 = .ok (.getfield 70, 3) := by decide +kernel
theorem dX11_alike_33 : decode cX11_alike 33 = .ok (.iload_n 1, 1) := by decide +kernel
theorem dX11_alike_34 : decode cX11_alike 34 = .ok (.iload_n 3, 1) := by decide +kernel
theorem dX11_alike_35 : decode cX11_alike 35 = .ok (.invokevirtual 282, 3) := by decide +kernel
theorem dX11_alike_38 : decode cX11_alike 38 = .ok (.invokevirtual 286, 3) := by decide +kernel
theorem dX11_alike_41 : decode cX11_alike 41 = .ok (.iload 4, 2) := by decide +kernel
theorem dX11_alike_43 : decode cX11_alike 43 = .ok (.iand, 1) := by decide +kernel
theorem dX11_alike_44 : decode cX11_alike 44 = .ok (.ifCond .ne 6, 3) := by decide +kernel
theorem dX11_alike_47 : decode cX11_alike 47 = .ok (.iinc 2 1, 3) := by decide +kernel
theorem dX11_alike_50 : decode cX11_alike 50 = .ok (.iinc 3 1, 3) := by decide +kernel
theorem dX11_alike_53 : decode cX11_alike 53 = .ok (.goto (-39), 3) := by decide +kernel
theorem dX11_alike_56 : decode cX11_alike 56 = .ok (.iload_n 2, 1) := by decide +kernel
theorem dX11_alike_57 : decode cX11_alike 57 = .ok (.ireturn, 1) := by decide +kernel
theorem dX11_canBe_0 : decode cX11_canBe 0 = .ok (.aload_n 0, 1) := by decide +kernel
theorem dX11_canBe_1 : decode cX11_canBe 1 = .ok (.iload_n 1, 1) := by decide +kernel
theorem dX11_canBe_2 : decode cX11_canBe 2 = .ok (.invokevirtual 180, 3) := by decide +kernel
theorem dX11_canBe_5 : decode cX11_canBe 5 = .ok (.ifCond .ne 5, 3) := by decide +kernel
theorem dX11_canBe_8 : decode cX11_canBe 8 = .ok (.iconst (-1), 1) := by decide +kernel
theorem dX11_canBe_9 : decode cX11_canBe 9 = .ok (.ireturn, 1) := by decide +kernel
theorem dX11_canBe_10 : decode cX11_canBe 10 = .ok (.aload_n 0, 1) := by decide +kernel
theorem dX11_canBe_11 : decode cX11_canBe 11 = .ok (.getfield 21, 3) := by decide +kernel
theorem dX11_canBe_14 : decode cX11_canBe 14 = .ok (.invokevirtual 290, 3) := by decide +kernel
theorem dX11_canBe_17 : decode cX11_canBe 17 = .ok (.lstore_n 2, 1) := by decide +kernel
theorem dX11_canBe_18 : decode cX11_canBe 18 = .ok (.lload_n 2, 1) := by decide +kernel
theorem dX11_canBe_19 : decode cX11_canBe 19 = .ok (.lconst 0, 1) := by decide +kernel
theorem dX11_canBe_20 : decode cX11_canBe 20 = .ok (.lcmp, 1) := by decide +kernel
theorem dX11_canBe_21 : decode cX11_canBe 21 = .ok (.ifCond .ne 7, 3) := by decide +kernel
theorem dX11_canBe_24 : decode cX11_canBe 24 = .ok (.iconst 0, 1) := by decide +kernel
theorem dX11_canBe_25 : decode cX11_canBe 25 = .ok (.goto 9, 3) := by decide +kernel
theorem dX11_canBe_28 : decode cX11_canBe 28 = .ok (.aload_n 0, 1) := by decide +kernel
theorem dX11_canBe_29 : decode cX11_canBe 29 = .ok (.iload_n 1, 1) := by decide +kernel
theorem dX11_canBe_30 : decode cX11_canBe 30 = .ok (.lload_n 2, 1) := by decide +kernel
theorem dX11_canBe_31 : decode cX11_canBe 31 = .ok (.invokevirtual 286, 3) := by decide +kernel
theorem dX11_canBe_34 : decode cX11_canBe 34 = .ok (.ireturn, 1) := by decide +kernel
theorem dX11_slotsOf_0 : decode cX11_slotsOf 0 = .ok (.iconst 0, 1) := by decide +kernel
theorem dX11_slotsOf_1 : decode cX11_slotsOf 1 = .ok (.istore 4, 2) := by decide +kernel
theorem dX11_slotsOf_3 : decode cX11_slotsOf 3 = .ok (.iconst 0, 1) := by decide +kernel
theorem dX11_slotsOf_4 : decode cX11_slotsOf 4 = .ok (.istore 5, 2) := by decide +kernel
theorem dX11_slotsOf_6 : decode cX11_slotsOf 6 = .ok (.iload 5, 2) := by decide +kernel
theorem dX11_slotsOf_8 : decode cX11_slotsOf 8 = .ok (.bipush 8, 2) := by decide +kernel
theorem dX11_slotsOf_10 : decode cX11_slotsOf 10 = .ok (.if_icmp .ge 33, 3) := by decide +kernel
theorem dX11_slotsOf_13 : decode cX11_slotsOf 13 = .ok (.aload_n 0, 1) := by decide +kernel
theorem dX11_slotsOf_14 : decode cX11_slotsOf 14 = .ok (.getfield 70, 3) := by decide +kernel
theorem dX11_slotsOf_17 : decode cX11_slotsOf 17 = .ok (.iload_n 1, 1) := by decide +kernel
theorem dX11_slotsOf_18 : decode cX11_slotsOf 18 = .ok (.iload 5, 2) := by decide +kernel
theorem dX11_slotsOf_20 : decode cX11_slotsOf 20 = .ok (.invokevirtual 282, 3) := by decide +kernel
theorem dX11_slotsOf_23 : decode cX11_slotsOf 23 = .ok (.lload_n 2, 1) := by decide +kernel
theorem dX11_slotsOf_24 : decode cX11_slotsOf 24 = .ok (.lcmp, 1) := by decide +kernel
theorem dX11_slotsOf_25 : decode cX11_slotsOf 25 = .ok (.ifCond .ne 12, 3) := by decide +kernel
theorem dX11_slotsOf_28 : decode cX11_slotsOf 28 = .ok (.iload 4, 2) := by decide +kernel
theorem dX11_slotsOf_30 : decode cX11_slotsOf 30 = .ok (.iconst 1, 1) := by decide +kernel
theorem dX11_slotsOf_31 : decode cX11_slotsOf 31 = .ok (.iload 5, 2) := by decide +kernel
theorem dX11_slotsOf_33 : decode cX11_slotsOf 33 = .ok (.ishl, 1) := by decide +kernel
theorem dX11_slotsOf_34 : decode cX11_slotsOf 34 = .ok (.ior, 1) := by decide +kernel
theorem dX11_slotsOf_35 : decode cX11_slotsOf 35 = .ok (.istore 4, 2) := by decide +kernel
theorem dX11_slotsOf_37 : decode cX11_slotsOf 37 = .ok (.iinc 5 1, 3) := by decide +kernel
theorem dX11_slotsOf_40 : decode cX11_slotsOf 40 = .ok (.goto (-34), 3) := by decide +kernel
theorem dX11_slotsOf_43 : decode cX11_slotsOf 43 = .ok (.iload 4, 2) := by decide +kernel
theorem dX11_slotsOf_45 : decode cX11_slotsOf 45 = .ok (.ireturn, 1) := by decide +kernel
theorem dX11_guess_0 : decode cX11_guess 0 = .ok (.aload_n 0, 1) := by decide +kernel
theorem dX11_guess_1 : decode cX11_guess 1 = .ok (.iload_n 1, 1) := by decide +kernel
theorem dX11_guess_2 : decode cX11_guess 2 = .ok (.invokevirtual 235, 3) := by decide +kernel
theorem dX11_guess_5 : decode cX11_guess 5 = .ok (.ifCond .eq 14, 3) := by decide +kernel
theorem dX11_guess_8 : decode cX11_guess 8 = .ok (.iload_n 2, 1) := by decide +kernel
theorem dX11_guess_9 : decode cX11_guess 9 = .ok (.iconst (-1), 1) := by decide +kernel
theorem dX11_guess_10 : decode cX11_guess 10 = .ok (.if_icmp .lt 9, 3) := by decide +kernel
theorem dX11_guess_13 : decode cX11_guess 13 = .ok (.iload_n 2, 1) := by decide +kernel
theorem dX11_guess_14 : decode cX11_guess 14 = .ok (.bipush 6, 2) := by decide +kernel
theorem dX11_guess_16 : decode cX11_guess 16 = .ok (.if_icmp .lt 5, 3) := by decide +kernel
theorem dX11_guess_19 : decode cX11_guess 19 = .ok (.iconst (-1), 1) := by decide +kernel
theorem dX11_guess_20 : decode cX11_guess 20 = .ok (.ireturn, 1) := by decide +kernel
theorem dX11_guess_21 : decode cX11_guess 21 = .ok (.aload_n 0, 1) := by decide +kernel
theorem dX11_guess_22 : decode cX11_guess 22 = .ok (.getfield 44, 3) := by decide +kernel
theorem dX11_guess_25 : decode cX11_guess 25 = .ok (.iload_n 1, 1) := by decide +kernel
theorem dX11_guess_26 : decode cX11_guess 26 = .ok (.invokevirtual 241, 3) := by decide +kernel
theorem dX11_guess_29 : decode cX11_guess 29 = .ok (.istore_n 3, 1) := by decide +kernel
theorem dX11_guess_30 : decode cX11_guess 30 = .ok (.aload_n 0, 1) := by decide +kernel
theorem dX11_guess_31 : decode cX11_guess 31 = .ok (.getfield 62, 3) := by decide +kernel
theorem dX11_guess_34 : decode cX11_guess 34 = .ok (.aload_n 0, 1) := by decide +kernel
theorem dX11_guess_35 : decode cX11_guess 35 = .ok (.getfield 58, 3) := by decide +kernel
theorem dX11_guess_38 : decode cX11_guess 38 = .ok (.invokevirtual 294, 3) := by decide +kernel
theorem dX11_guess_41 : decode cX11_guess 41 = .ok (.aload_n 0, 1) := by decide +kernel
theorem dX11_guess_42 : decode cX11_guess 42 = .ok (.iload_n 1, 1) := by decide +kernel
theorem dX11_guess_43 : decode cX11_guess 43 = .ok (.iload_n 3, 1) := by decide +kernel
theorem dX11_guess_44 : decode cX11_guess 44 = .ok (.invokevirtual 297, 3) := by decide +kernel
theorem dX11_guess_47 : decode cX11_guess 47 = .ok (.istore 4, 2) := by decide +kernel
theorem dX11_guess_49 : decode cX11_guess 49 = .ok (.iload 4, 2) := by decide +kernel
theorem dX11_guess_51 : decode cX11_guess 51 = .ok (.ifCond .ne 7, 3) := by decide +kernel
theorem dX11_guess_54 : decode cX11_guess 54 = .ok (.iconst (-1), 1) := by decide +kernel
theorem dX11_guess_55 : decode cX11_guess 55 = .ok (.goto 5, 3) := by decide +kernel
theorem dX11_guess_58 : decode cX11_guess 58 = .ok (.iload 4, 2) := by decide +kernel
theorem dX11_guess_60 : decode cX11_guess 60 = .ok (.istore 5, 2) := by decide +kernel
theorem dX11_guess_62 : decode cX11_guess 62 = .ok (.iload 4, 2) := by decide +kernel
theorem dX11_guess_64 : decode cX11_guess 64 = .ok (.ifCond .le 25, 3) := by decide +kernel
theorem dX11_guess_67 : decode cX11_guess 67 = .ok (.iload_n 2, 1) := by decide +kernel
theorem dX11_guess_68 : decode cX11_guess 68 = .ok (.iconst (-1), 1) := by decide +kernel
theorem dX11_guess_69 : decode cX11_guess 69 = .ok (.if_icmp .eq 20, 3) := by decide +kernel
theorem dX11_guess_72 : decode cX11_guess 72 = .ok (.aload_n 0, 1) := by decide +kernel
theorem dX11_guess_73 : decode cX11_guess 73 = .ok (.iload_n 3, 1) := by decide +kernel
theorem dX11_guess_74 : decode cX11_guess 74 = .ok (.aload_n 0, 1) := by decide +kernel
theorem dX11_guess_75 : decode cX11_guess 75 = .ok (.getfield 300, 3) := by decide +kernel
theorem dX11_guess_78 : decode cX11_guess 78 = .ok (.invokevirtual 303, 3) := by decide +kernel
theorem dX11_guess_81 : decode cX11_guess 81 = .ok (.aload_n 0, 1) := by decide +kernel
theorem dX11_guess_82 : decode cX11_guess 82 = .ok (.iload_n 3, 1) := by decide +kernel
theorem dX11_guess_83 : decode cX11_guess 83 = .ok (.iload_n 2, 1) := by decide +kernel
theorem dX11_guess_84 : decode cX11_guess 84 = .ok (.invokevirtual 307, 3) := by decide +kernel
theorem dX11_guess_87 : decode cX11_guess 87 = .ok (.istore 5, 2) := by decide +kernel
theorem dX11_guess_89 : decode cX11_guess 89 = .ok (.aload_n 0, 1) := by decide +kernel
theorem dX11_guess_90 : decode cX11_guess 90 = .ok (.getfield 58, 3) := by decide +kernel
theorem dX11_guess_93 : decode cX11_guess 93 = .ok (.aload_n 0, 1) := by decide +kernel
theorem dX11_guess_94 : decode cX11_guess 94 = .ok (.getfield 62, 3) := by decide +kernel
theorem dX11_guess_97 : decode cX11_guess 97 = .ok (.invokevirtual 294, 3) := by decide +kernel
theorem dX11_guess_100 : decode cX11_guess 100 = .ok (.iload 5, 2) := by decide +kernel
theorem dX11_guess_102 : decode cX11_guess 102 = .ok (.ireturn, 1) := by decide +kernel
theorem dX11_countGuesses_0 : decode cX11_countGuesses 0 = .ok (.iconst 1, 1) := by decide +kernel
theorem dX11_countGuesses_1 : decode cX11_countGuesses 1 = .ok (.istore_n 3, 1) := by decide +kernel
theorem dX11_countGuesses_2 : decode cX11_countGuesses 2 = .ok (.iconst 0, 1) := by decide +kernel
theorem dX11_countGuesses_3 : decode cX11_countGuesses 3 = .ok (.istore 4, 2) := by decide +kernel
theorem dX11_countGuesses_5 : decode cX11_countGuesses 5 = .ok (.iload 4, 2) := by decide +kernel
theorem dX11_countGuesses_7 : decode cX11_countGuesses 7 = .ok (.iconst 3, 1) := by decide +kernel
theorem dX11_countGuesses_8 : decode cX11_countGuesses 8 = .ok (.if_icmp .ge 30, 3) := by decide +kernel
theorem dX11_countGuesses_11 : decode cX11_countGuesses 11 = .ok (.iload_n 2, 1) := by decide +kernel
theorem dX11_countGuesses_12 : decode cX11_countGuesses 12 = .ok (.iload 4, 2) := by decide +kernel
theorem dX11_countGuesses_14 : decode cX11_countGuesses 14 = .ok (.ishr, 1) := by decide +kernel
theorem dX11_countGuesses_15 : decode cX11_countGuesses 15 = .ok (.iconst 1, 1) := by decide +kernel
theorem dX11_countGuesses_16 : decode cX11_countGuesses 16 = .ok (.iand, 1) := by decide +kernel
theorem dX11_countGuesses_17 : decode cX11_countGuesses 17 = .ok (.ifCond .eq 15, 3) := by decide +kernel
theorem dX11_countGuesses_20 : decode cX11_countGuesses 20 = .ok (.iload_n 3, 1) := by decide +kernel
theorem dX11_countGuesses_21 : decode cX11_countGuesses 21 = .ok (.iconst 2, 1) := by decide +kernel
theorem dX11_countGuesses_22 : decode cX11_countGuesses 22 = .ok (.aload_n 0, 1) := by decide +kernel
theorem dX11_countGuesses_23 : decode cX11_countGuesses 23 = .ok (.getfield 44, 3) := by decide +kernel
theorem dX11_countGuesses_26 : decode cX11_countGuesses 26 = .ok (.getfield 153, 3) := by decide +kernel
theorem dX11_countGuesses_29 : decode cX11_countGuesses 29 = .ok (.imul, 1) := by decide +kernel
theorem dX11_countGuesses_30 : decode cX11_countGuesses 30 = .ok (.imul, 1) := by decide +kernel
theorem dX11_countGuesses_31 : decode cX11_countGuesses 31 = .ok (.istore_n 3, 1) := by decide +kernel
theorem dX11_countGuesses_32 : decode cX11_countGuesses 32 = .ok (.iinc 4 1, 3) := by decide +kernel
theorem dX11_countGuesses_35 : decode cX11_countGuesses 35 = .ok (.goto (-30), 3) := by decide +kernel
theorem dX11_countGuesses_38 : decode cX11_countGuesses 38 = .ok (.iconst 0, 1) := by decide +kernel
theorem dX11_countGuesses_39 : decode cX11_countGuesses 39 = .ok (.istore 4, 2) := by decide +kernel
theorem dX11_countGuesses_41 : decode cX11_countGuesses 41 = .ok (.iconst 0, 1) := by decide +kernel
theorem dX11_countGuesses_42 : decode cX11_countGuesses 42 = .ok (.istore 5, 2) := by decide +kernel
theorem dX11_countGuesses_44 : decode cX11_countGuesses 44 = .ok (.iload 5, 2) := by decide +kernel
theorem dX11_countGuesses_46 : decode cX11_countGuesses 46 = .ok (.iload_n 3, 1) := by decide +kernel
theorem dX11_countGuesses_47 : decode cX11_countGuesses 47 = .ok (.if_icmp .ge 45, 3) := by decide +kernel
theorem dX11_countGuesses_50 : decode cX11_countGuesses 50 = .ok (.aload_n 0, 1) := by decide +kernel
theorem dX11_countGuesses_51 : decode cX11_countGuesses 51 = .ok (.iload_n 2, 1) := by decide +kernel
theorem dX11_countGuesses_52 : decode cX11_countGuesses 52 = .ok (.iload 5, 2) := by decide +kernel
theorem dX11_countGuesses_54 : decode cX11_countGuesses 54 = .ok (.invokevirtual 303, 3) := by decide +kernel
theorem dX11_countGuesses_57 : decode cX11_countGuesses 57 = .ok (.aload_n 0, 1) := by decide +kernel
theorem dX11_countGuesses_58 : decode cX11_countGuesses 58 = .ok (.getfield 70, 3) := by decide +kernel
theorem dX11_countGuesses_61 : decode cX11_countGuesses 61 = .ok (.iload_n 1, 1) := by decide +kernel
theorem dX11_countGuesses_62 : decode cX11_countGuesses 62 = .ok (.aload_n 0, 1) := by decide +kernel
theorem dX11_countGuesses_63 : decode cX11_countGuesses 63 = .ok (.getfield 12, 3) := by decide +kernel
theorem dX11_countGuesses_66 : decode cX11_countGuesses 66 = .ok (.invokevirtual 310, 3) := by decide +kernel
theorem dX11_countGuesses_69 : decode cX11_countGuesses 69 = .ok (.ifCond .eq 17, 3) := by decide +kernel
theorem dX11_countGuesses_72 : decode cX11_countGuesses 72 = .ok (.iload 4, 2) := by decide +kernel
theorem dX11_countGuesses_74 : decode cX11_countGuesses 74 = .ok (.ifCond .ne 9, 3) := by decide +kernel
theorem dX11_countGuesses_77 : decode cX11_countGuesses 77 = .ok (.aload_n 0, 1) := by decide +kernel
theorem dX11_countGuesses_78 : decode cX11_countGuesses 78 = .ok (.iload 5, 2) := by decide +kernel
theorem dX11_countGuesses_80 : decode cX11_countGuesses 80 = .ok (.putfield 300, 3) := by decide +kernel
theorem dX11_countGuesses_83 : decode cX11_countGuesses 83 = .ok (.iinc 4 1, 3) := by decide +kernel
theorem dX11_countGuesses_86 : decode cX11_countGuesses 86 = .ok (.iinc 5 1, 3) := by decide +kernel
theorem dX11_countGuesses_89 : decode cX11_countGuesses 89 = .ok (.goto (-45), 3) := by decide +kernel
theorem dX11_countGuesses_92 : decode cX11_countGuesses 92 = .ok (.iload 4, 2) := by decide +kernel
theorem dX11_countGuesses_94 : decode cX11_countGuesses 94 = .ok (.ireturn, 1) := by decide +kernel
theorem dX11_fillByGuess_0 : decode cX11_fillByGuess 0 = .ok (.iconst 2, 1) := by decide +kernel
theorem dX11_fillByGuess_1 : decode cX11_fillByGuess 1 = .ok (.aload_n 0, 1) := by decide +kernel
theorem dX11_fillByGuess_2 : decode cX11_fillByGuess 2 = .ok (.getfield 44, 3) := by decide +kernel
theorem dX11_fillByGuess_5 : decode cX11_fillByGuess 5 = .ok (.getfield 153, 3) := by decide +kernel
theorem dX11_fillByGuess_8 : decode cX11_fillByGuess 8 = .ok (.imul, 1) := by decide +kernel
theorem dX11_fillByGuess_9 : decode cX11_fillByGuess 9 = .ok (.istore_n 3, 1) := by decide +kernel
theorem dX11_fillByGuess_10 : decode cX11_fillByGuess 10 = .ok (.iload_n 3, 1) := by decide +kernel
theorem dX11_fillByGuess_11 : decode cX11_fillByGuess 11 = .ok (.ifCond .ne 4, 3) := by decide +kernel
theorem dX11_fillByGuess_14 : decode cX11_fillByGuess 14 = .ok (.return_, 1) := by decide +kernel
theorem dX11_fillByGuess_15 : decode cX11_fillByGuess 15 = .ok (.iload_n 2, 1) := by decide +kernel
theorem dX11_fillByGuess_16 : decode cX11_fillByGuess 16 = .ok (.istore 4, 2) := by decide +kernel
theorem dX11_fillByGuess_18 : decode cX11_fillByGuess 18 = .ok (.iconst 2, 1) := by decide +kernel
theorem dX11_fillByGuess_19 : decode cX11_fillByGuess 19 = .ok (.istore 5, 2) := by decide +kernel
theorem dX11_fillByGuess_21 : decode cX11_fillByGuess 21 = .ok (.iload 5, 2) := by decide +kernel
theorem dX11_fillByGuess_23 : decode cX11_fillByGuess 23 = .ok (.ifCond .lt 56, 3) := by decide +kernel
theorem dX11_fillByGuess_26 : decode cX11_fillByGuess 26 = .ok (.iload_n 1, 1) := by decide +kernel
theorem dX11_fillByGuess_27 : decode cX11_fillByGuess 27 = .ok (.iload 5, 2) := by decide +kernel
theorem dX11_fillByGuess_29 : decode cX11_fillByGuess 29 = .ok (.ishr, 1) := by decide +kernel
theorem dX11_fillByGuess_30 : decode cX11_fillByGuess 30 = .ok (.iconst 1, 1) := by decide +kernel
theorem dX11_fillByGuess_31 : decode cX11_fillByGuess 31 = .ok (.iand, 1) := by decide +kernel
theorem dX11_fillByGuess_32 : decode cX11_fillByGuess 32 = .ok (.ifCond .eq 41, 3) := by decide +kernel
theorem dX11_fillByGuess_35 : decode cX11_fillByGuess 35 = .ok (.iload 4, 2) := by decide +kernel
theorem dX11_fillByGuess_37 : decode cX11_fillByGuess 37 = .ok (.iload_n 3, 1) := by decide +kernel
theorem dX11_fillByGuess_38 : decode cX11_fillByGuess 38 = .ok (.irem, 1) := by decide +kernel
theorem dX11_fillByGuess_39 : decode cX11_fillByGuess 39 = .ok (.istore 6, 2) := by decide +kernel
theorem dX11_fillByGuess_41 : decode cX11_fillByGuess 41 = .ok (.iload 4, 2) := by decide +kernel
theorem dX11_fillByGuess_43 : decode cX11_fillByGuess 43 = .ok (.iload_n 3, 1) := by decide +kernel
theorem dX11_fillByGuess_44 : decode cX11_fillByGuess 44 = .ok (.idiv, 1) := by decide +kernel
theorem dX11_fillByGuess_45 : decode cX11_fillByGuess 45 = .ok (.istore 4, 2) := by decide +kernel
theorem dX11_fillByGuess_47 : decode cX11_fillByGuess 47 = .ok (.aload_n 0, 1) := by decide +kernel
theorem dX11_fillByGuess_48 : decode cX11_fillByGuess 48 = .ok (.getfield 58, 3) := by decide +kernel
theorem dX11_fillByGuess_51 : decode cX11_fillByGuess 51 = .ok (.getfield 170, 3) := by decide +kernel
theorem dX11_fillByGuess_54 : decode cX11_fillByGuess 54 = .ok (.bipush 48, 2) := by decide +kernel
theorem dX11_fillByGuess_56 : decode cX11_fillByGuess 56 = .ok (.iload 5, 2) := by decide +kernel
theorem dX11_fillByGuess_58 : decode cX11_fillByGuess 58 = .ok (.iadd, 1) := by decide +kernel
theorem dX11_fillByGuess_59 : decode cX11_fillByGuess 59 = .ok (.iload 6, 2) := by decide +kernel
theorem dX11_fillByGuess_61 : decode cX11_fillByGuess 61 = .ok (.iconst 2, 1) := by decide +kernel
theorem dX11_fillByGuess_62 : decode cX11_fillByGuess 62 = .ok (.idiv, 1) := by decide +kernel
theorem dX11_fillByGuess_63 : decode cX11_fillByGuess 63 = .ok (.iconst 1, 1) := by decide +kernel
theorem dX11_fillByGuess_64 : decode cX11_fillByGuess 64 = .ok (.iload 6, 2) := by decide +kernel
theorem dX11_fillByGuess_66 : decode cX11_fillByGuess 66 = .ok (.iconst 2, 1) := by decide +kernel
theorem dX11_fillByGuess_67 : decode cX11_fillByGuess 67 = .ok (.irem, 1) := by decide +kernel
theorem dX11_fillByGuess_68 : decode cX11_fillByGuess 68 = .ok (.iadd, 1) := by decide +kernel
theorem dX11_fillByGuess_69 : decode cX11_fillByGuess 69 = .ok (.invokestatic 314, 3) := by decide +kernel
theorem dX11_fillByGuess_72 : decode cX11_fillByGuess 72 = .ok (.lastore, 1) := by decide +kernel
theorem dX11_fillByGuess_73 : decode cX11_fillByGuess 73 = .ok (.iinc 5 (-1), 3) := by decide +kernel
theorem dX11_fillByGuess_76 : decode cX11_fillByGuess 76 = .ok (.goto (-55), 3) := by decide +kernel
theorem dX11_fillByGuess_79 : decode cX11_fillByGuess 79 = .ok (.return_, 1) := by decide +kernel
theorem dX11_guessedIn_0 : decode cX11_guessedIn 0 = .ok (.iload_n 2, 1) := by decide +kernel
theorem dX11_guessedIn_1 : decode cX11_guessedIn 1 = .ok (.iconst 3, 1) := by decide +kernel
theorem dX11_guessedIn_2 : decode cX11_guessedIn 2 = .ok (.irem, 1) := by decide +kernel
theorem dX11_guessedIn_3 : decode cX11_guessedIn 3 = .ok (.istore_n 3, 1) := by decide +kernel
theorem dX11_guessedIn_4 : decode cX11_guessedIn 4 = .ok (.iload_n 1, 1) := by decide +kernel
theorem dX11_guessedIn_5 : decode cX11_guessedIn 5 = .ok (.iload_n 3, 1) := by decide +kernel
theorem dX11_guessedIn_6 : decode cX11_guessedIn 6 = .ok (.ishr, 1) := by decide +kernel
theorem dX11_guessedIn_7 : decode cX11_guessedIn 7 = .ok (.iconst 1, 1) := by decide +kernel
theorem dX11_guessedIn_8 : decode cX11_guessedIn 8 = .ok (.iand, 1) := by decide +kernel
theorem dX11_guessedIn_9 : decode cX11_guessedIn 9 = .ok (.ifCond .ne 5, 3) := by decide +kernel
theorem dX11_guessedIn_12 : decode cX11_guessedIn 12 = .ok (.iconst (-1), 1) := by decide +kernel
theorem dX11_guessedIn_13 : decode cX11_guessedIn 13 = .ok (.ireturn, 1) := by decide +kernel
theorem dX11_guessedIn_14 : decode cX11_guessedIn 14 = .ok (.iload_n 2, 1) := by decide +kernel
theorem dX11_guessedIn_15 : decode cX11_guessedIn 15 = .ok (.iconst 3, 1) := by decide +kernel
theorem dX11_guessedIn_16 : decode cX11_guessedIn 16 = .ok (.if_icmp .ge 14, 3) := by decide +kernel
theorem dX11_guessedIn_19 : decode cX11_guessedIn 19 = .ok (.aload_n 0, 1) := by decide +kernel
theorem dX11_guessedIn_20 : decode cX11_guessedIn 20 = .ok (.getfield 58, 3) := by decide +kernel
theorem dX11_guessedIn_23 : decode cX11_guessedIn 23 = .ok (.iload_n 3, 1) := by decide +kernel
theorem dX11_guessedIn_24 : decode cX11_guessedIn 24 = .ok (.invokevirtual 226, 3) := by decide +kernel
theorem dX11_guessedIn_27 : decode cX11_guessedIn 27 = .ok (.goto 11, 3) := by decide +kernel
theorem dX11_guessedIn_30 : decode cX11_guessedIn 30 = .ok (.aload_n 0, 1) := by decide +kernel
theorem dX11_guessedIn_31 : decode cX11_guessedIn 31 = .ok (.getfield 58, 3) := by decide +kernel
theorem dX11_guessedIn_34 : decode cX11_guessedIn 34 = .ok (.iload_n 3, 1) := by decide +kernel
theorem dX11_guessedIn_35 : decode cX11_guessedIn 35 = .ok (.invokevirtual 229, 3) := by decide +kernel
theorem dX11_guessedIn_38 : decode cX11_guessedIn 38 = .ok (.ireturn, 1) := by decide +kernel
theorem dX11_fill_0 : decode cX11_fill 0 = .ok (.aload_n 0, 1) := by decide +kernel
theorem dX11_fill_1 : decode cX11_fill 1 = .ok (.getfield 101, 3) := by decide +kernel
theorem dX11_fill_4 : decode cX11_fill 4 = .ok (.iconst 0, 1) := by decide +kernel
theorem dX11_fill_5 : decode cX11_fill 5 = .ok (.iload_n 1, 1) := by decide +kernel
theorem dX11_fill_6 : decode cX11_fill 6 = .ok (.iload_n 2, 1) := by decide +kernel
theorem dX11_fill_7 : decode cX11_fill 7 = .ok (.iload_n 3, 1) := by decide +kernel
theorem dX11_fill_8 : decode cX11_fill 8 = .ok (.lconst 0, 1) := by decide +kernel
theorem dX11_fill_9 : decode cX11_fill 9 = .ok (.invokevirtual 317, 3) := by decide +kernel
theorem dX11_fill_12 : decode cX11_fill 12 = .ok (.aload_n 0, 1) := by decide +kernel
theorem dX11_fill_13 : decode cX11_fill 13 = .ok (.aload_n 0, 1) := by decide +kernel
theorem dX11_fill_14 : decode cX11_fill 14 = .ok (.getfield 101, 3) := by decide +kernel
theorem dX11_fill_17 : decode cX11_fill 17 = .ok (.iconst 1, 1) := by decide +kernel
theorem dX11_fill_18 : decode cX11_fill 18 = .ok (.invokevirtual 321, 3) := by decide +kernel
theorem dX11_fill_21 : decode cX11_fill 21 = .ok (.ifCond .eq 14, 3) := by decide +kernel
theorem dX11_fill_24 : decode cX11_fill 24 = .ok (.aload_n 0, 1) := by decide +kernel
theorem dX11_fill_25 : decode cX11_fill 25 = .ok (.getfield 58, 3) := by decide +kernel
theorem dX11_fill_28 : decode cX11_fill 28 = .ok (.iload_n 1, 1) := by decide +kernel
theorem dX11_fill_29 : decode cX11_fill 29 = .ok (.invokevirtual 232, 3) := by decide +kernel
theorem dX11_fill_32 : decode cX11_fill 32 = .ok (.goto 4, 3) := by decide +kernel
theorem dX11_fill_35 : decode cX11_fill 35 = .ok (.iconst (-1), 1) := by decide +kernel
theorem dX11_fill_36 : decode cX11_fill 36 = .ok (.ireturn, 1) := by decide +kernel
theorem dX11_empty_0 : decode cX11_empty 0 = .ok (.aload_n 0, 1) := by decide +kernel
theorem dX11_empty_1 : decode cX11_empty 1 = .ok (.getfield 140, 3) := by decide +kernel
theorem dX11_empty_4 : decode cX11_empty 4 = .ok (.ifCond .eq 32, 3) := by decide +kernel
theorem dX11_empty_7 : decode cX11_empty 7 = .ok (.iload_n 1, 1) := by decide +kernel
theorem dX11_empty_8 : decode cX11_empty 8 = .ok (.invokestatic 220, 3) := by decide +kernel
theorem dX11_empty_11 : decode cX11_empty 11 = .ok (.ifCond .eq 25, 3) := by decide +kernel
theorem dX11_empty_14 : decode cX11_empty 14 = .ok (.aload_n 0, 1) := by decide +kernel
theorem dX11_empty_15 : decode cX11_empty 15 = .ok (.getfield 58, 3) := by decide +kernel
theorem dX11_empty_18 : decode cX11_empty 18 = .ok (.iload_n 1, 1) := by decide +kernel
theorem dX11_empty_19 : decode cX11_empty 19 = .ok (.invokevirtual 223, 3) := by decide +kernel
theorem dX11_empty_22 : decode cX11_empty 22 = .ok (.ifCond .ne 14, 3) := by decide +kernel
theorem dX11_empty_25 : decode cX11_empty 25 = .ok (.aload_n 0, 1) := by decide +kernel
theorem dX11_empty_26 : decode cX11_empty 26 = .ok (.getfield 58, 3) := by decide +kernel
theorem dX11_empty_29 : decode cX11_empty 29 = .ok (.iload_n 1, 1) := by decide +kernel
theorem dX11_empty_30 : decode cX11_empty 30 = .ok (.invokevirtual 226, 3) := by decide +kernel
theorem dX11_empty_33 : decode cX11_empty 33 = .ok (.goto 4, 3) := by decide +kernel
theorem dX11_empty_36 : decode cX11_empty 36 = .ok (.iconst (-1), 1) := by decide +kernel
theorem dX11_empty_37 : decode cX11_empty 37 = .ok (.istore_n 2, 1) := by decide +kernel
theorem dX11_empty_38 : decode cX11_empty 38 = .ok (.aload_n 0, 1) := by decide +kernel
theorem dX11_empty_39 : decode cX11_empty 39 = .ok (.getfield 101, 3) := by decide +kernel
theorem dX11_empty_42 : decode cX11_empty 42 = .ok (.iconst 1, 1) := by decide +kernel
theorem dX11_empty_43 : decode cX11_empty 43 = .ok (.iload_n 1, 1) := by decide +kernel
theorem dX11_empty_44 : decode cX11_empty 44 = .ok (.iconst 0, 1) := by decide +kernel
theorem dX11_empty_45 : decode cX11_empty 45 = .ok (.iconst 0, 1) := by decide +kernel
theorem dX11_empty_46 : decode cX11_empty 46 = .ok (.lconst 0, 1) := by decide +kernel
theorem dX11_empty_47 : decode cX11_empty 47 = .ok (.invokevirtual 317, 3) := by decide +kernel
theorem dX11_empty_50 : decode cX11_empty 50 = .ok (.aload_n 0, 1) := by decide +kernel
theorem dX11_empty_51 : decode cX11_empty 51 = .ok (.aload_n 0, 1) := by decide +kernel
theorem dX11_empty_52 : decode cX11_empty 52 = .ok (.getfield 101, 3) := by decide +kernel
theorem dX11_empty_55 : decode cX11_empty 55 = .ok (.iconst 1, 1) := by decide +kernel
theorem dX11_empty_56 : decode cX11_empty 56 = .ok (.invokevirtual 321, 3) := by decide +kernel
theorem dX11_empty_59 : decode cX11_empty 59 = .ok (.ifCond .eq 7, 3) := by decide +kernel
theorem dX11_empty_62 : decode cX11_empty 62 = .ok (.iload_n 2, 1) := by decide +kernel
theorem dX11_empty_63 : decode cX11_empty 63 = .ok (.goto 4, 3) := by decide +kernel
theorem dX11_empty_66 : decode cX11_empty 66 = .ok (.iconst (-1), 1) := by decide +kernel
theorem dX11_empty_67 : decode cX11_empty 67 = .ok (.ireturn, 1) := by decide +kernel
theorem dX11_strict_0 : decode cX11_strict 0 = .ok (.aload_n 0, 1) := by decide +kernel
theorem dX11_strict_1 : decode cX11_strict 1 = .ok (.getfield 101, 3) := by decide +kernel
theorem dX11_strict_4 : decode cX11_strict 4 = .ok (.iconst 2, 1) := by decide +kernel
theorem dX11_strict_5 : decode cX11_strict 5 = .ok (.iload_n 1, 1) := by decide +kernel
theorem dX11_strict_6 : decode cX11_strict 6 = .ok (.iconst 0, 1) := by decide +kernel
theorem dX11_strict_7 : decode cX11_strict 7 = .ok (.iconst 0, 1) := by decide +kernel
theorem dX11_strict_8 : decode cX11_strict 8 = .ok (.lconst 0, 1) := by decide +kernel
theorem dX11_strict_9 : decode cX11_strict 9 = .ok (.invokevirtual 317, 3) := by decide +kernel
theorem dX11_strict_12 : decode cX11_strict 12 = .ok (.aload_n 0, 1) := by decide +kernel
theorem dX11_strict_13 : decode cX11_strict 13 = .ok (.aload_n 0, 1) := by decide +kernel
theorem dX11_strict_14 : decode cX11_strict 14 = .ok (.getfield 101, 3) := by decide +kernel
theorem dX11_strict_17 : decode cX11_strict 17 = .ok (.iconst 1, 1) := by decide +kernel
theorem dX11_strict_18 : decode cX11_strict 18 = .ok (.invokevirtual 321, 3) := by decide +kernel
theorem dX11_strict_21 : decode cX11_strict 21 = .ok (.ifCond .eq 10, 3) := by decide +kernel
theorem dX11_strict_24 : decode cX11_strict 24 = .ok (.aload_n 0, 1) := by decide +kernel
theorem dX11_strict_25 : decode cX11_strict 25 = .ok (.invokevirtual 325, 3) := by decide +kernel
theorem dX11_strict_28 : decode cX11_strict 28 = .ok (.goto 4, 3) := by decide +kernel
theorem dX11_strict_31 : decode cX11_strict 31 = .ok (.iconst (-1), 1) := by decide +kernel
theorem dX11_strict_32 : decode cX11_strict 32 = .ok (.ireturn, 1) := by decide +kernel
theorem dX11_tell_0 : decode cX11_tell 0 = .ok (.aload_n 0, 1) := by decide +kernel
theorem dX11_tell_1 : decode cX11_tell 1 = .ok (.getfield 101, 3) := by decide +kernel
theorem dX11_tell_4 : decode cX11_tell 4 = .ok (.iconst 3, 1) := by decide +kernel
theorem dX11_tell_5 : decode cX11_tell 5 = .ok (.iload_n 1, 1) := by decide +kernel
theorem dX11_tell_6 : decode cX11_tell 6 = .ok (.iload_n 2, 1) := by decide +kernel
theorem dX11_tell_7 : decode cX11_tell 7 = .ok (.iload_n 3, 1) := by decide +kernel
theorem dX11_tell_8 : decode cX11_tell 8 = .ok (.aload_n 0, 1) := by decide +kernel
theorem dX11_tell_9 : decode cX11_tell 9 = .ok (.getfield 21, 3) := by decide +kernel
theorem dX11_tell_12 : decode cX11_tell 12 = .ok (.invokevirtual 290, 3) := by decide +kernel
theorem dX11_tell_15 : decode cX11_tell 15 = .ok (.invokevirtual 317, 3) := by decide +kernel
theorem dX11_tell_18 : decode cX11_tell 18 = .ok (.aload_n 0, 1) := by decide +kernel
theorem dX11_tell_19 : decode cX11_tell 19 = .ok (.aload_n 0, 1) := by decide +kernel
theorem dX11_tell_20 : decode cX11_tell 20 = .ok (.getfield 101, 3) := by decide +kernel
theorem dX11_tell_23 : decode cX11_tell 23 = .ok (.iconst 1, 1) := by decide +kernel
theorem dX11_tell_24 : decode cX11_tell 24 = .ok (.invokevirtual 321, 3) := by decide +kernel
theorem dX11_tell_27 : decode cX11_tell 27 = .ok (.ifCond .ne 5, 3) := by decide +kernel
theorem dX11_tell_30 : decode cX11_tell 30 = .ok (.iconst (-1), 1) := by decide +kernel
theorem dX11_tell_31 : decode cX11_tell 31 = .ok (.ireturn, 1) := by decide +kernel
theorem dX11_tell_32 : decode cX11_tell 32 = .ok (.aload_n 0, 1) := by decide +kernel
theorem dX11_tell_33 : decode cX11_tell 33 = .ok (.getfield 12, 3) := by decide +kernel
theorem dX11_tell_36 : decode cX11_tell 36 = .ok (.iconst 0, 1) := by decide +kernel
theorem dX11_tell_37 : decode cX11_tell 37 = .ok (.putfield 109, 3) := by decide +kernel
theorem dX11_tell_40 : decode cX11_tell 40 = .ok (.aload_n 0, 1) := by decide +kernel
theorem dX11_tell_41 : decode cX11_tell 41 = .ok (.iload_n 1, 1) := by decide +kernel
theorem dX11_tell_42 : decode cX11_tell 42 = .ok (.invokevirtual 197, 3) := by decide +kernel
theorem dX11_tell_45 : decode cX11_tell 45 = .ok (.ireturn, 1) := by decide +kernel
theorem dX11_drop_0 : decode cX11_drop 0 = .ok (.aload_n 0, 1) := by decide +kernel
theorem dX11_drop_1 : decode cX11_drop 1 = .ok (.getfield 101, 3) := by decide +kernel
theorem dX11_drop_4 : decode cX11_drop 4 = .ok (.iconst 4, 1) := by decide +kernel
theorem dX11_drop_5 : decode cX11_drop 5 = .ok (.iload_n 1, 1) := by decide +kernel
theorem dX11_drop_6 : decode cX11_drop 6 = .ok (.iload_n 2, 1) := by decide +kernel
theorem dX11_drop_7 : decode cX11_drop 7 = .ok (.iload_n 3, 1) := by decide +kernel
theorem dX11_drop_8 : decode cX11_drop 8 = .ok (.lconst 0, 1) := by decide +kernel
theorem dX11_drop_9 : decode cX11_drop 9 = .ok (.invokevirtual 317, 3) := by decide +kernel
theorem dX11_drop_12 : decode cX11_drop 12 = .ok (.aload_n 0, 1) := by decide +kernel
theorem dX11_drop_13 : decode cX11_drop 13 = .ok (.aload_n 0, 1) := by decide +kernel
theorem dX11_drop_14 : decode cX11_drop 14 = .ok (.getfield 101, 3) := by decide +kernel
theorem dX11_drop_17 : decode cX11_drop 17 = .ok (.iconst 1, 1) := by decide +kernel
theorem dX11_drop_18 : decode cX11_drop 18 = .ok (.invokevirtual 321, 3) := by decide +kernel
theorem dX11_drop_21 : decode cX11_drop 21 = .ok (.ifCond .eq 11, 3) := by decide +kernel
theorem dX11_drop_24 : decode cX11_drop 24 = .ok (.aload_n 0, 1) := by decide +kernel
theorem dX11_drop_25 : decode cX11_drop 25 = .ok (.iload_n 1, 1) := by decide +kernel
theorem dX11_drop_26 : decode cX11_drop 26 = .ok (.invokevirtual 197, 3) := by decide +kernel
theorem dX11_drop_29 : decode cX11_drop 29 = .ok (.goto 4, 3) := by decide +kernel
theorem dX11_drop_32 : decode cX11_drop 32 = .ok (.iconst (-1), 1) := by decide +kernel
theorem dX11_drop_33 : decode cX11_drop 33 = .ok (.ireturn, 1) := by decide +kernel
theorem dX11_ways_0 : decode cX11_ways 0 = .ok (.aload_n 0, 1) := by decide +kernel
theorem dX11_ways_1 : decode cX11_ways 1 = .ok (.getfield 140, 3) := by decide +kernel
theorem dX11_ways_4 : decode cX11_ways 4 = .ok (.ifCond .eq 14, 3) := by decide +kernel
theorem dX11_ways_7 : decode cX11_ways 7 = .ok (.iload_n 1, 1) := by decide +kernel
theorem dX11_ways_8 : decode cX11_ways 8 = .ok (.iconst 1, 1) := by decide +kernel
theorem dX11_ways_9 : decode cX11_ways 9 = .ok (.if_icmp .lt 9, 3) := by decide +kernel
theorem dX11_ways_12 : decode cX11_ways 12 = .ok (.iload_n 1, 1) := by decide +kernel
theorem dX11_ways_13 : decode cX11_ways 13 = .ok (.bipush 40, 2) := by decide +kernel
theorem dX11_ways_15 : decode cX11_ways 15 = .ok (.if_icmp .le 5, 3) := by decide +kernel
theorem dX11_ways_18 : decode cX11_ways 18 = .ok (.iconst (-1), 1) := by decide +kernel
theorem dX11_ways_19 : decode cX11_ways 19 = .ok (.ireturn, 1) := by decide +kernel
theorem dX11_ways_20 : decode cX11_ways 20 = .ok (.aload_n 0, 1) := by decide +kernel
theorem dX11_ways_21 : decode cX11_ways 21 = .ok (.getfield 94, 3) := by decide +kernel
theorem dX11_ways_24 : decode cX11_ways 24 = .ok (.lload_n 2, 1) := by decide +kernel
theorem dX11_ways_25 : decode cX11_ways 25 = .ok (.putfield 328, 3) := by decide +kernel
theorem dX11_ways_28 : decode cX11_ways 28 = .ok (.iconst 0, 1) := by decide +kernel
theorem dX11_ways_29 : decode cX11_ways 29 = .ok (.istore 4, 2) := by decide +kernel
theorem dX11_ways_31 : decode cX11_ways 31 = .ok (.iload 4, 2) := by decide +kernel
theorem dX11_ways_33 : decode cX11_ways 33 = .ok (.iload_n 1, 1) := by decide +kernel
theorem dX11_ways_34 : decode cX11_ways 34 = .ok (.if_icmp .ge 37, 3) := by decide +kernel
theorem dX11_ways_37 : decode cX11_ways 37 = .ok (.aload_n 0, 1) := by decide +kernel
theorem dX11_ways_38 : decode cX11_ways 38 = .ok (.getfield 94, 3) := by decide +kernel
theorem dX11_ways_41 : decode cX11_ways 41 = .ok (.aload_n 0, 1) := by decide +kernel
theorem dX11_ways_42 : decode cX11_ways 42 = .ok (.getfield 101, 3) := by decide +kernel
theorem dX11_ways_45 : decode cX11_ways 45 = .ok (.aload_n 0, 1) := by decide +kernel
theorem dX11_ways_46 : decode cX11_ways 46 = .ok (.getfield 44, 3) := by decide +kernel
theorem dX11_ways_49 : decode cX11_ways 49 = .ok (.getfield 153, 3) := by decide +kernel
theorem dX11_ways_52 : decode cX11_ways 52 = .ok (.invokevirtual 332, 3) := by decide +kernel
theorem dX11_ways_55 : decode cX11_ways 55 = .ok (.aload_n 0, 1) := by decide +kernel
theorem dX11_ways_56 : decode cX11_ways 56 = .ok (.aload_n 0, 1) := by decide +kernel
theorem dX11_ways_57 : decode cX11_ways 57 = .ok (.getfield 101, 3) := by decide +kernel
theorem dX11_ways_60 : decode cX11_ways 60 = .ok (.iconst 0, 1) := by decide +kernel
theorem dX11_ways_61 : decode cX11_ways 61 = .ok (.invokevirtual 321, 3) := by decide +kernel
theorem dX11_ways_64 : decode cX11_ways 64 = .ok (.pop, 1) := by decide +kernel
theorem dX11_ways_65 : decode cX11_ways 65 = .ok (.iinc 4 1, 3) := by decide +kernel
theorem dX11_ways_68 : decode cX11_ways 68 = .ok (.goto (-37), 3) := by decide +kernel
theorem dX11_ways_71 : decode cX11_ways 71 = .ok (.aload_n 0, 1) := by decide +kernel
theorem dX11_ways_72 : decode cX11_ways 72 = .ok (.invokevirtual 325, 3) := by decide +kernel
theorem dX11_ways_75 : decode cX11_ways 75 = .ok (.ireturn, 1) := by decide +kernel
theorem dX11_status_0 : decode cX11_status 0 = .ok (.iload_n 1, 1) := by decide +kernel
theorem dX11_status_1 : decode cX11_status 1 = .ok (.ifCond .lt 17, 3) := by decide +kernel
theorem dX11_status_4 : decode cX11_status 4 = .ok (.iload_n 1, 1) := by decide +kernel
theorem dX11_status_5 : decode cX11_status 5 = .ok (.iconst 3, 1) := by decide +kernel
theorem dX11_status_6 : decode cX11_status 6 = .ok (.if_icmp .ge 12, 3) := by decide +kernel
theorem dX11_status_9 : decode cX11_status 9 = .ok (.aload_n 0, 1) := by decide +kernel
theorem dX11_status_10 : decode cX11_status 10 = .ok (.getfield 87, 3) := by decide +kernel
theorem dX11_status_13 : decode cX11_status 13 = .ok (.iload_n 1, 1) := by decide +kernel
theorem dX11_status_14 : decode cX11_status 14 = .ok (.iaload, 1) := by decide +kernel
theorem dX11_status_15 : decode cX11_status 15 = .ok (.goto 4, 3) := by decide +kernel
theorem dX11_status_18 : decode cX11_status 18 = .ok (.iconst (-1), 1) := by decide +kernel
theorem dX11_status_19 : decode cX11_status 19 = .ok (.ireturn, 1) := by decide +kernel
theorem dX11_undo_0 : decode cX11_undo 0 = .ok (.aload_n 0, 1) := by decide +kernel
theorem dX11_undo_1 : decode cX11_undo 1 = .ok (.getfield 77, 3) := by decide +kernel
theorem dX11_undo_4 : decode cX11_undo 4 = .ok (.getfield 336, 3) := by decide +kernel
theorem dX11_undo_7 : decode cX11_undo 7 = .ok (.ifCond .ne 5, 3) := by decide +kernel
theorem dX11_undo_10 : decode cX11_undo 10 = .ok (.iconst (-1), 1) := by decide +kernel
theorem dX11_undo_11 : decode cX11_undo 11 = .ok (.ireturn, 1) := by decide +kernel
theorem dX11_undo_12 : decode cX11_undo 12 = .ok (.aload_n 0, 1) := by decide +kernel
theorem dX11_undo_13 : decode cX11_undo 13 = .ok (.getfield 77, 3) := by decide +kernel
theorem dX11_undo_16 : decode cX11_undo 16 = .ok (.aload_n 0, 1) := by decide +kernel
theorem dX11_undo_17 : decode cX11_undo 17 = .ok (.getfield 58, 3) := by decide +kernel
theorem dX11_undo_20 : decode cX11_undo 20 = .ok (.invokevirtual 339, 3) := by decide +kernel
theorem dX11_undo_23 : decode cX11_undo 23 = .ok (.aload_n 0, 1) := by decide +kernel
theorem dX11_undo_24 : decode cX11_undo 24 = .ok (.getfield 77, 3) := by decide +kernel
theorem dX11_undo_27 : decode cX11_undo 27 = .ok (.getfield 336, 3) := by decide +kernel
theorem dX11_undo_30 : decode cX11_undo 30 = .ok (.ireturn, 1) := by decide +kernel
theorem dX11_log_0 : decode cX11_log 0 = .ok (.iload_n 1, 1) := by decide +kernel
theorem dX11_log_1 : decode cX11_log 1 = .ok (.ifCond .lt 14, 3) := by decide +kernel
theorem dX11_log_4 : decode cX11_log 4 = .ok (.iload_n 1, 1) := by decide +kernel
theorem dX11_log_5 : decode cX11_log 5 = .ok (.aload_n 0, 1) := by decide +kernel
theorem dX11_log_6 : decode cX11_log 6 = .ok (.getfield 77, 3) := by decide +kernel
theorem dX11_log_9 : decode cX11_log 9 = .ok (.invokevirtual 342, 3) := by decide +kernel
theorem dX11_log_12 : decode cX11_log 12 = .ok (.if_icmp .lt 7, 3) := by decide +kernel
theorem dX11_log_15 : decode cX11_log 15 = .ok (.ldc_w 345, 3) := by decide +kernel
theorem dX11_log_18 : decode cX11_log 18 = .ok (.ireturn, 1) := by decide +kernel
theorem dX11_log_19 : decode cX11_log 19 = .ok (.aload_n 0, 1) := by decide +kernel
theorem dX11_log_20 : decode cX11_log 20 = .ok (.getfield 77, 3) := by decide +kernel
theorem dX11_log_23 : decode cX11_log 23 = .ok (.iload_n 1, 1) := by decide +kernel
theorem dX11_log_24 : decode cX11_log 24 = .ok (.invokevirtual 346, 3) := by decide +kernel
theorem dX11_log_27 : decode cX11_log 27 = .ok (.istore_n 3, 1) := by decide +kernel
theorem dX11_log_28 : decode cX11_log 28 = .ok (.iload_n 2, 1) := by decide +kernel
theorem dX11_log_29 : decode cX11_log 29 = .ok (.tableswitch 42 0 2 #[27, 32, 37], 27) := by decide +kernel
theorem dX11_log_56 : decode cX11_log 56 = .ok (.iload_n 3, 1) := by decide +kernel
theorem dX11_log_57 : decode cX11_log 57 = .ok (.invokestatic 349, 3) := by decide +kernel
theorem dX11_log_60 : decode cX11_log 60 = .ok (.ireturn, 1) := by decide +kernel
theorem dX11_log_61 : decode cX11_log 61 = .ok (.iload_n 3, 1) := by decide +kernel
theorem dX11_log_62 : decode cX11_log 62 = .ok (.invokestatic 352, 3) := by decide +kernel
theorem dX11_log_65 : decode cX11_log 65 = .ok (.ireturn, 1) := by decide +kernel
theorem dX11_log_66 : decode cX11_log 66 = .ok (.iload_n 3, 1) := by decide +kernel
theorem dX11_log_67 : decode cX11_log 67 = .ok (.invokestatic 353, 3) := by decide +kernel
theorem dX11_log_70 : decode cX11_log 70 = .ok (.ireturn, 1) := by decide +kernel
theorem dX11_log_71 : decode cX11_log 71 = .ok (.ldc_w 345, 3) := by decide +kernel
theorem dX11_log_74 : decode cX11_log 74 = .ok (.ireturn, 1) := by decide +kernel
theorem dX11_would_0 : decode cX11_would 0 = .ok (.aload_n 0, 1) := by decide +kernel
theorem dX11_would_1 : decode cX11_would 1 = .ok (.getfield 101, 3) := by decide +kernel
theorem dX11_would_4 : decode cX11_would 4 = .ok (.iconst 0, 1) := by decide +kernel
theorem dX11_would_5 : decode cX11_would 5 = .ok (.iload_n 1, 1) := by decide +kernel
theorem dX11_would_6 : decode cX11_would 6 = .ok (.iload_n 2, 1) := by decide +kernel
theorem dX11_would_7 : decode cX11_would 7 = .ok (.iload_n 3, 1) := by decide +kernel
theorem dX11_would_8 : decode cX11_would 8 = .ok (.lconst 0, 1) := by decide +kernel
theorem dX11_would_9 : decode cX11_would 9 = .ok (.invokevirtual 317, 3) := by decide +kernel
theorem dX11_would_12 : decode cX11_would 12 = .ok (.aload_n 0, 1) := by decide +kernel
theorem dX11_would_13 : decode cX11_would 13 = .ok (.aload_n 0, 1) := by decide +kernel
theorem dX11_would_14 : decode cX11_would 14 = .ok (.getfield 101, 3) := by decide +kernel
theorem dX11_would_17 : decode cX11_would 17 = .ok (.invokevirtual 356, 3) := by decide +kernel
theorem dX11_would_20 : decode cX11_would 20 = .ok (.iconst (-1), 1) := by decide +kernel
theorem dX11_would_21 : decode cX11_would 21 = .ok (.if_icmp .eq 5, 3) := by decide +kernel
theorem dX11_would_24 : decode cX11_would 24 = .ok (.iconst (-1), 1) := by decide +kernel
theorem dX11_would_25 : decode cX11_would 25 = .ok (.ireturn, 1) := by decide +kernel
theorem dX11_would_26 : decode cX11_would 26 = .ok (.aload_n 0, 1) := by decide +kernel
theorem dX11_would_27 : decode cX11_would 27 = .ok (.getfield 62, 3) := by decide +kernel
theorem dX11_would_30 : decode cX11_would 30 = .ok (.aload_n 0, 1) := by decide +kernel
theorem dX11_would_31 : decode cX11_would 31 = .ok (.getfield 58, 3) := by decide +kernel
theorem dX11_would_34 : decode cX11_would 34 = .ok (.invokevirtual 294, 3) := by decide +kernel
theorem dX11_would_37 : decode cX11_would 37 = .ok (.aload_n 0, 1) := by decide +kernel
theorem dX11_would_38 : decode cX11_would 38 = .ok (.getfield 58, 3) := by decide +kernel
theorem dX11_would_41 : decode cX11_would 41 = .ok (.getfield 170, 3) := by decide +kernel
theorem dX11_would_44 : decode cX11_would 44 = .ok (.aload_n 0, 1) := by decide +kernel
theorem dX11_would_45 : decode cX11_would 45 = .ok (.getfield 101, 3) := by decide +kernel
theorem dX11_would_48 : decode cX11_would 48 = .ok (.invokevirtual 360, 3) := by decide +kernel
theorem dX11_would_51 : decode cX11_would 51 = .ok (.aload_n 0, 1) := by decide +kernel
theorem dX11_would_52 : decode cX11_would 52 = .ok (.getfield 101, 3) := by decide +kernel
theorem dX11_would_55 : decode cX11_would 55 = .ok (.invokevirtual 363, 3) := by decide +kernel
theorem dX11_would_58 : decode cX11_would 58 = .ok (.lastore, 1) := by decide +kernel
theorem dX11_would_59 : decode cX11_would 59 = .ok (.aload_n 0, 1) := by decide +kernel
theorem dX11_would_60 : decode cX11_would 60 = .ok (.getfield 70, 3) := by decide +kernel
theorem dX11_would_63 : decode cX11_would 63 = .ok (.invokevirtual 177, 3) := by decide +kernel
theorem dX11_would_66 : decode cX11_would 66 = .ok (.istore 4, 2) := by decide +kernel
theorem dX11_would_68 : decode cX11_would 68 = .ok (.aload_n 0, 1) := by decide +kernel
theorem dX11_would_69 : decode cX11_would 69 = .ok (.getfield 58, 3) := by decide +kernel
theorem dX11_would_72 : decode cX11_would 72 = .ok (.aload_n 0, 1) := by decide +kernel
theorem dX11_would_73 : decode cX11_would 73 = .ok (.getfield 62, 3) := by decide +kernel
theorem dX11_would_76 : decode cX11_would 76 = .ok (.invokevirtual 294, 3) := by decide +kernel
theorem dX11_would_79 : decode cX11_would 79 = .ok (.iload 4, 2) := by decide +kernel
theorem dX11_would_81 : decode cX11_would 81 = .ok (.ireturn, 1) := by decide +kernel
theorem dX11_act_0 : decode cX11_act 0 = .ok (.aload_n 0, 1) := by decide +kernel
theorem dX11_act_1 : decode cX11_act 1 = .ok (.aload_n 1, 1) := by decide +kernel
theorem dX11_act_2 : decode cX11_act 2 = .ok (.invokevirtual 356, 3) := by decide +kernel
theorem dX11_act_5 : decode cX11_act 5 = .ok (.istore_n 3, 1) := by decide +kernel
theorem dX11_act_6 : decode cX11_act 6 = .ok (.iload_n 3, 1) := by decide +kernel
theorem dX11_act_7 : decode cX11_act 7 = .ok (.iconst (-1), 1) := by decide +kernel
theorem dX11_act_8 : decode cX11_act 8 = .ok (.if_icmp .eq 19, 3) := by decide +kernel
theorem dX11_act_11 : decode cX11_act 11 = .ok (.iload_n 2, 1) := by decide +kernel
theorem dX11_act_12 : decode cX11_act 12 = .ok (.ifCond .eq 13, 3) := by decide +kernel
theorem dX11_act_15 : decode cX11_act 15 = .ok (.aload_n 0, 1) := by decide +kernel
theorem dX11_act_16 : decode cX11_act 16 = .ok (.getfield 87, 3) := by decide +kernel
theorem dX11_act_19 : decode cX11_act 19 = .ok (.iload_n 3, 1) := by decide +kernel
theorem dX11_act_20 : decode cX11_act 20 = .ok (.dup2, 1) := by decide +kernel
theorem dX11_act_21 : decode cX11_act 21 = .ok (.iaload, 1) := by decide +kernel
theorem dX11_act_22 : decode cX11_act 22 = .ok (.iconst 1, 1) := by decide +kernel
theorem dX11_act_23 : decode cX11_act 23 = .ok (.iadd, 1) := by decide +kernel
theorem dX11_act_24 : decode cX11_act 24 = .ok (.iastore, 1) := by decide +kernel
theorem dX11_act_25 : decode cX11_act 25 = .ok (.iconst 0, 1) := by decide +kernel
theorem dX11_act_26 : decode cX11_act 26 = .ok (.ireturn, 1) := by decide +kernel
theorem dX11_act_27 : decode cX11_act 27 = .ok (.aload_n 1, 1) := by decide +kernel
theorem dX11_act_28 : decode cX11_act 28 = .ok (.invokevirtual 360, 3) := by decide +kernel
theorem dX11_act_31 : decode cX11_act 31 = .ok (.istore 4, 2) := by decide +kernel
theorem dX11_act_33 : decode cX11_act 33 = .ok (.aload_n 0, 1) := by decide +kernel
theorem dX11_act_34 : decode cX11_act 34 = .ok (.getfield 77, 3) := by decide +kernel
theorem dX11_act_37 : decode cX11_act 37 = .ok (.iload 4, 2) := by decide +kernel
theorem dX11_act_39 : decode cX11_act 39 = .ok (.aload_n 0, 1) := by decide +kernel
theorem dX11_act_40 : decode cX11_act 40 = .ok (.getfield 58, 3) := by decide +kernel
theorem dX11_act_43 : decode cX11_act 43 = .ok (.getfield 170, 3) := by decide +kernel
theorem dX11_act_46 : decode cX11_act 46 = .ok (.iload 4, 2) := by decide +kernel
theorem dX11_act_48 : decode cX11_act 48 = .ok (.laload, 1) := by decide +kernel
theorem dX11_act_49 : decode cX11_act 49 = .ok (.invokevirtual 366, 3) := by decide +kernel
theorem dX11_act_52 : decode cX11_act 52 = .ok (.aload_n 0, 1) := by decide +kernel
theorem dX11_act_53 : decode cX11_act 53 = .ok (.getfield 58, 3) := by decide +kernel
theorem dX11_act_56 : decode cX11_act 56 = .ok (.getfield 170, 3) := by decide +kernel
theorem dX11_act_59 : decode cX11_act 59 = .ok (.iload 4, 2) := by decide +kernel
theorem dX11_act_61 : decode cX11_act 61 = .ok (.aload_n 1, 1) := by decide +kernel
theorem dX11_act_62 : decode cX11_act 62 = .ok (.invokevirtual 363, 3) := by decide +kernel
theorem dX11_act_65 : decode cX11_act 65 = .ok (.lastore, 1) := by decide +kernel
theorem dX11_act_66 : decode cX11_act 66 = .ok (.aload_n 0, 1) := by decide +kernel
theorem dX11_act_67 : decode cX11_act 67 = .ok (.getfield 77, 3) := by decide +kernel
theorem dX11_act_70 : decode cX11_act 70 = .ok (.aload_n 1, 1) := by decide +kernel
theorem dX11_act_71 : decode cX11_act 71 = .ok (.getfield 370, 3) := by decide +kernel
theorem dX11_act_74 : decode cX11_act 74 = .ok (.aload_n 1, 1) := by decide +kernel
theorem dX11_act_75 : decode cX11_act 75 = .ok (.getfield 373, 3) := by decide +kernel
theorem dX11_act_78 : decode cX11_act 78 = .ok (.aload_n 0, 1) := by decide +kernel
theorem dX11_act_79 : decode cX11_act 79 = .ok (.getfield 70, 3) := by decide +kernel
theorem dX11_act_82 : decode cX11_act 82 = .ok (.invokevirtual 177, 3) := by decide +kernel
theorem dX11_act_85 : decode cX11_act 85 = .ok (.invokestatic 376, 3) := by decide +kernel
theorem dX11_act_88 : decode cX11_act 88 = .ok (.invokevirtual 381, 3) := by decide +kernel
theorem dX11_act_91 : decode cX11_act 91 = .ok (.iconst 1, 1) := by decide +kernel
theorem dX11_act_92 : decode cX11_act 92 = .ok (.ireturn, 1) := by decide +kernel
theorem dX11_tellable_0 : decode cX11_tellable 0 = .ok (.aload_n 0, 1) := by decide +kernel
theorem dX11_tellable_1 : decode cX11_tellable 1 = .ok (.getfield 70, 3) := by decide +kernel
theorem dX11_tellable_4 : decode cX11_tellable 4 = .ok (.invokevirtual 177, 3) := by decide +kernel
theorem dX11_tellable_7 : decode cX11_tellable 7 = .ok (.invokestatic 376, 3) := by decide +kernel
theorem dX11_tellable_10 : decode cX11_tellable 10 = .ok (.ireturn, 1) := by decide +kernel
theorem dX11_refusalOf_0 : decode cX11_refusalOf 0 = .ok (.aload_n 0, 1) := by decide +kernel
theorem dX11_refusalOf_1 : decode cX11_refusalOf 1 = .ok (.getfield 140, 3) := by decide +kernel
theorem dX11_refusalOf_4 : decode cX11_refusalOf 4 = .ok (.ifCond .ne 5, 3) := by decide +kernel
theorem dX11_refusalOf_7 : decode cX11_refusalOf 7 = .ok (.iconst 0, 1) := by decide +kernel
theorem dX11_refusalOf_8 : decode cX11_refusalOf 8 = .ok (.ireturn, 1) := by decide +kernel
theorem dX11_refusalOf_9 : decode cX11_refusalOf 9 = .ok (.aload_n 0, 1) := by decide +kernel
theorem dX11_refusalOf_10 : decode cX11_refusalOf 10 = .ok (.aload_n 1, 1) := by decide +kernel
theorem dX11_refusalOf_11 : decode cX11_refusalOf 11 = .ok (.invokevirtual 385, 3) := by decide +kernel
theorem dX11_refusalOf_14 : decode cX11_refusalOf 14 = .ok (.istore_n 2, 1) := by decide +kernel
theorem dX11_refusalOf_15 : decode cX11_refusalOf 15 = .ok (.iload_n 2, 1) := by decide +kernel
theorem dX11_refusalOf_16 : decode cX11_refusalOf 16 = .ok (.iconst (-1), 1) := by decide +kernel
theorem dX11_refusalOf_17 : decode cX11_refusalOf 17 = .ok (.if_icmp .eq 5, 3) := by decide +kernel
theorem dX11_refusalOf_20 : decode cX11_refusalOf 20 = .ok (.iload_n 2, 1) := by decide +kernel
theorem dX11_refusalOf_21 : decode cX11_refusalOf 21 = .ok (.ireturn, 1) := by decide +kernel
theorem dX11_refusalOf_22 : decode cX11_refusalOf 22 = .ok (.aload_n 0, 1) := by decide +kernel
theorem dX11_refusalOf_23 : decode cX11_refusalOf 23 = .ok (.getfield 58, 3) := by decide +kernel
theorem dX11_refusalOf_26 : decode cX11_refusalOf 26 = .ok (.getfield 170, 3) := by decide +kernel
theorem dX11_refusalOf_29 : decode cX11_refusalOf 29 = .ok (.aload_n 1, 1) := by decide +kernel
theorem dX11_refusalOf_30 : decode cX11_refusalOf 30 = .ok (.invokevirtual 360, 3) := by decide +kernel
theorem dX11_refusalOf_33 : decode cX11_refusalOf 33 = .ok (.laload, 1) := by decide +kernel
theorem dX11_refusalOf_34 : decode cX11_refusalOf 34 = .ok (.aload_n 1, 1) := by decide +kernel
theorem dX11_refusalOf_35 : decode cX11_refusalOf 35 = .ok (.invokevirtual 363, 3) := by decide +kernel
theorem dX11_refusalOf_38 : decode cX11_refusalOf 38 = .ok (.lcmp, 1) := by decide +kernel
theorem dX11_refusalOf_39 : decode cX11_refusalOf 39 = .ok (.ifCond .ne 7, 3) := by decide +kernel
theorem dX11_refusalOf_42 : decode cX11_refusalOf 42 = .ok (.iconst 2, 1) := by decide +kernel
theorem dX11_refusalOf_43 : decode cX11_refusalOf 43 = .ok (.goto 4, 3) := by decide +kernel
theorem dX11_refusalOf_46 : decode cX11_refusalOf 46 = .ok (.iconst (-1), 1) := by decide +kernel
theorem dX11_refusalOf_47 : decode cX11_refusalOf 47 = .ok (.ireturn, 1) := by decide +kernel
theorem dX11_boundsRefusal_0 : decode cX11_boundsRefusal 0 = .ok (.aload_n 1, 1) := by decide +kernel
theorem dX11_boundsRefusal_1 : decode cX11_boundsRefusal 1 = .ok (.getfield 370, 3) := by decide +kernel
theorem dX11_boundsRefusal_4 : decode cX11_boundsRefusal 4 = .ok (.tableswitch 110 0 2 #[28, 73, 89], 28) := by decide +kernel
theorem dX11_boundsRefusal_32 : decode cX11_boundsRefusal 32 = .ok (.aload_n 1, 1) := by decide +kernel
theorem dX11_boundsRefusal_33 : decode cX11_boundsRefusal 33 = .ok (.getfield 373, 3) := by decide +kernel
theorem dX11_boundsRefusal_36 : decode cX11_boundsRefusal 36 = .ok (.invokestatic 220, 3) := by decide +kernel
theorem dX11_boundsRefusal_39 : decode cX11_boundsRefusal 39 = .ok (.ifCond .eq 14, 3) := by decide +kernel
theorem dX11_boundsRefusal_42 : decode cX11_boundsRefusal 42 = .ok (.aload_n 0, 1) := by decide +kernel
theorem dX11_boundsRefusal_43 : decode cX11_boundsRefusal 43 = .ok (.aload_n 1, 1) := by decide +kernel
theorem dX11_boundsRefusal_44 : decode cX11_boundsRefusal 44 = .ok (.getfield 388, 3) := by decide +kernel
theorem dX11_boundsRefusal_47 : decode cX11_boundsRefusal 47 = .ok (.invokevirtual 180, 3) := by decide +kernel
theorem dX11_boundsRefusal_50 : decode cX11_boundsRefusal 50 = .ok (.ifCond .ne 5, 3) := by decide +kernel
theorem dX11_boundsRefusal_53 : decode cX11_boundsRefusal 53 = .ok (.iconst 0, 1) := by decide +kernel
theorem dX11_boundsRefusal_54 : decode cX11_boundsRefusal 54 = .ok (.ireturn, 1) := by decide +kernel
theorem dX11_boundsRefusal_55 : decode cX11_boundsRefusal 55 = .ok (.aload_n 1, 1) := by decide +kernel
theorem dX11_boundsRefusal_56 : decode cX11_boundsRefusal 56 = .ok (.getfield 391, 3) := by decide +kernel
theorem dX11_boundsRefusal_59 : decode cX11_boundsRefusal 59 = .ok (.ifCond .lt 12, 3) := by decide +kernel
theorem dX11_boundsRefusal_62 : decode cX11_boundsRefusal 62 = .ok (.aload_n 1, 1) := by decide +kernel
theorem dX11_boundsRefusal_63 : decode cX11_boundsRefusal 63 = .ok (.getfield 391, 3) := by decide +kernel
theorem dX11_boundsRefusal_66 : decode cX11_boundsRefusal 66 = .ok (.bipush 99, 2) := by decide +kernel
theorem dX11_boundsRefusal_68 : decode cX11_boundsRefusal 68 = .ok (.if_icmp .le 7, 3) := by decide +kernel
theorem dX11_boundsRefusal_71 : decode cX11_boundsRefusal 71 = .ok (.iconst 1, 1) := by decide +kernel
theorem dX11_boundsRefusal_72 : decode cX11_boundsRefusal 72 = .ok (.goto 4, 3) := by decide +kernel
theorem dX11_boundsRefusal_75 : decode cX11_boundsRefusal 75 = .ok (.iconst (-1), 1) := by decide +kernel
theorem dX11_boundsRefusal_76 : decode cX11_boundsRefusal 76 = .ok (.ireturn, 1) := by decide +kernel
theorem dX11_boundsRefusal_77 : decode cX11_boundsRefusal 77 = .ok (.aload_n 1, 1) := by decide +kernel
theorem dX11_boundsRefusal_78 : decode cX11_boundsRefusal 78 = .ok (.getfield 373, 3) := by decide +kernel
theorem dX11_boundsRefusal_81 : decode cX11_boundsRefusal 81 = .ok (.invokestatic 220, 3) := by decide +kernel
theorem dX11_boundsRefusal_84 : decode cX11_boundsRefusal 84 = .ok (.ifCond .eq 7, 3) := by decide +kernel
theorem dX11_boundsRefusal_87 : decode cX11_boundsRefusal 87 = .ok (.iconst (-1), 1) := by decide +kernel
theorem dX11_boundsRefusal_88 : decode cX11_boundsRefusal 88 = .ok (.goto 4, 3) := by decide +kernel
theorem dX11_boundsRefusal_91 : decode cX11_boundsRefusal 91 = .ok (.iconst 0, 1) := by decide +kernel
theorem dX11_boundsRefusal_92 : decode cX11_boundsRefusal 92 = .ok (.ireturn, 1) := by decide +kernel
theorem dX11_boundsRefusal_93 : decode cX11_boundsRefusal 93 = .ok (.aload_n 1, 1) := by decide +kernel
theorem dX11_boundsRefusal_94 : decode cX11_boundsRefusal 94 = .ok (.getfield 373, 3) := by decide +kernel
theorem dX11_boundsRefusal_97 : decode cX11_boundsRefusal 97 = .ok (.ifCond .lt 11, 3) := by decide +kernel
theorem dX11_boundsRefusal_100 : decode cX11_boundsRefusal 100 = .ok (.aload_n 1, 1) := by decide +kernel
theorem dX11_boundsRefusal_101 : decode cX11_boundsRefusal 101 = .ok (.getfield 373, 3) := by decide +kernel
theorem dX11_boundsRefusal_104 : decode cX11_boundsRefusal 104 = .ok (.iconst 1, 1) := by decide +kernel
theorem dX11_boundsRefusal_105 : decode cX11_boundsRefusal 105 = .ok (.if_icmp .le 7, 3) := by decide +kernel
theorem dX11_boundsRefusal_108 : decode cX11_boundsRefusal 108 = .ok (.iconst 1, 1) := by decide +kernel
theorem dX11_boundsRefusal_109 : decode cX11_boundsRefusal 109 = .ok (.goto 4, 3) := by decide +kernel
theorem dX11_boundsRefusal_112 : decode cX11_boundsRefusal 112 = .ok (.iconst (-1), 1) := by decide +kernel
theorem dX11_boundsRefusal_113 : decode cX11_boundsRefusal 113 = .ok (.ireturn, 1) := by decide +kernel
theorem dX11_boundsRefusal_114 : decode cX11_boundsRefusal 114 = .ok (.aload_n 0, 1) := by decide +kernel
theorem dX11_boundsRefusal_115 : decode cX11_boundsRefusal 115 = .ok (.aload_n 1, 1) := by decide +kernel
theorem dX11_boundsRefusal_116 : decode cX11_boundsRefusal 116 = .ok (.getfield 373, 3) := by decide +kernel
theorem dX11_boundsRefusal_119 : decode cX11_boundsRefusal 119 = .ok (.invokevirtual 180, 3) := by decide +kernel
theorem dX11_boundsRefusal_122 : decode cX11_boundsRefusal 122 = .ok (.ifCond .ne 5, 3) := by decide +kernel
theorem dX11_boundsRefusal_125 : decode cX11_boundsRefusal 125 = .ok (.iconst 0, 1) := by decide +kernel
theorem dX11_boundsRefusal_126 : decode cX11_boundsRefusal 126 = .ok (.ireturn, 1) := by decide +kernel
theorem dX11_boundsRefusal_127 : decode cX11_boundsRefusal 127 = .ok (.aload_n 1, 1) := by decide +kernel
theorem dX11_boundsRefusal_128 : decode cX11_boundsRefusal 128 = .ok (.getfield 370, 3) := by decide +kernel
theorem dX11_boundsRefusal_131 : decode cX11_boundsRefusal 131 = .ok (.iconst 3, 1) := by decide +kernel
theorem dX11_boundsRefusal_132 : decode cX11_boundsRefusal 132 = .ok (.if_icmp .ne 16, 3) := by decide +kernel
theorem dX11_boundsRefusal_135 : decode cX11_boundsRefusal 135 = .ok (.aload_n 1, 1) := by decide +kernel
theorem dX11_boundsRefusal_136 : decode cX11_boundsRefusal 136 = .ok (.getfield 394, 3) := by decide +kernel
theorem dX11_boundsRefusal_139 : decode cX11_boundsRefusal 139 = .ok (.lconst 0, 1) := by decide +kernel
theorem dX11_boundsRefusal_140 : decode cX11_boundsRefusal 140 = .ok (.lcmp, 1) := by decide +kernel
theorem dX11_boundsRefusal_141 : decode cX11_boundsRefusal 141 = .ok (.ifCond .ne 7, 3) := by decide +kernel
theorem dX11_boundsRefusal_144 : decode cX11_boundsRefusal 144 = .ok (.iconst 1, 1) := by decide +kernel
theorem dX11_boundsRefusal_145 : decode cX11_boundsRefusal 145 = .ok (.goto 4, 3) := by decide +kernel
theorem dX11_boundsRefusal_148 : decode cX11_boundsRefusal 148 = .ok (.iconst 0, 1) := by decide +kernel
theorem dX11_boundsRefusal_149 : decode cX11_boundsRefusal 149 = .ok (.istore_n 2, 1) := by decide +kernel
theorem dX11_boundsRefusal_150 : decode cX11_boundsRefusal 150 = .ok (.aload_n 1, 1) := by decide +kernel
theorem dX11_boundsRefusal_151 : decode cX11_boundsRefusal 151 = .ok (.getfield 388, 3) := by decide +kernel
theorem dX11_boundsRefusal_154 : decode cX11_boundsRefusal 154 = .ok (.aload_n 1, 1) := by decide +kernel
theorem dX11_boundsRefusal_155 : decode cX11_boundsRefusal 155 = .ok (.getfield 391, 3) := by decide +kernel
theorem dX11_boundsRefusal_158 : decode cX11_boundsRefusal 158 = .ok (.invokestatic 200, 3) := by decide +kernel
theorem dX11_boundsRefusal_161 : decode cX11_boundsRefusal 161 = .ok (.ifCond .eq 7, 3) := by decide +kernel
theorem dX11_boundsRefusal_164 : decode cX11_boundsRefusal 164 = .ok (.iload_n 2, 1) := by decide +kernel
theorem dX11_boundsRefusal_165 : decode cX11_boundsRefusal 165 = .ok (.ifCond .eq 7, 3) := by decide +kernel
theorem dX11_boundsRefusal_168 : decode cX11_boundsRefusal 168 = .ok (.iconst 1, 1) := by decide +kernel
theorem dX11_boundsRefusal_169 : decode cX11_boundsRefusal 169 = .ok (.goto 4, 3) := by decide +kernel
theorem dX11_boundsRefusal_172 : decode cX11_boundsRefusal 172 = .ok (.iconst (-1), 1) := by decide +kernel
theorem dX11_boundsRefusal_173 : decode cX11_boundsRefusal 173 = .ok (.ireturn, 1) := by decide +kernel
theorem dX11_step_0 : decode cX11_step 0 = .ok (.aload_n 0, 1) := by decide +kernel
theorem dX11_step_1 : decode cX11_step 1 = .ok (.iload_n 1, 1) := by decide +kernel
theorem dX11_step_2 : decode cX11_step 2 = .ok (.invokevirtual 397, 3) := by decide +kernel
theorem dX11_step_5 : decode cX11_step 5 = .ok (.ifCond .eq 20, 3) := by decide +kernel
theorem dX11_step_8 : decode cX11_step 8 = .ok (.iload_n 2, 1) := by decide +kernel
theorem dX11_step_9 : decode cX11_step 9 = .ok (.ifCond .lt 16, 3) := by decide +kernel
theorem dX11_step_12 : decode cX11_step 12 = .ok (.iload_n 2, 1) := by decide +kernel
theorem dX11_step_13 : decode cX11_step 13 = .ok (.aload_n 0, 1) := by decide +kernel
theorem dX11_step_14 : decode cX11_step 14 = .ok (.getfield 50, 3) := by decide +kernel
theorem dX11_step_17 : decode cX11_step 17 = .ok (.iload_n 1, 1) := by decide +kernel
theorem dX11_step_18 : decode cX11_step 18 = .ok (.aaload, 1) := by decide +kernel
theorem dX11_step_19 : decode cX11_step 19 = .ok (.getfield 400, 3) := by decide +kernel
theorem dX11_step_22 : decode cX11_step 22 = .ok (.if_icmp .lt 7, 3) := by decide +kernel
theorem dX11_step_25 : decode cX11_step 25 = .ok (.ldc_w 345, 3) := by decide +kernel
theorem dX11_step_28 : decode cX11_step 28 = .ok (.ireturn, 1) := by decide +kernel
theorem dX11_step_29 : decode cX11_step 29 = .ok (.aload_n 0, 1) := by decide +kernel
theorem dX11_step_30 : decode cX11_step 30 = .ok (.getfield 50, 3) := by decide +kernel
theorem dX11_step_33 : decode cX11_step 33 = .ok (.iload_n 1, 1) := by decide +kernel
theorem dX11_step_34 : decode cX11_step 34 = .ok (.aaload, 1) := by decide +kernel
theorem dX11_step_35 : decode cX11_step 35 = .ok (.getfield 401, 3) := by decide +kernel
theorem dX11_step_38 : decode cX11_step 38 = .ok (.iload_n 2, 1) := by decide +kernel
theorem dX11_step_39 : decode cX11_step 39 = .ok (.aaload, 1) := by decide +kernel
theorem dX11_step_40 : decode cX11_step 40 = .ok (.astore 4, 2) := by decide +kernel
theorem dX11_step_42 : decode cX11_step 42 = .ok (.iload_n 3, 1) := by decide +kernel
theorem dX11_step_43 : decode cX11_step 43 = .ok (.tableswitch 94 0 4 #[33, 39, 45, 65, 85], 33) := by decide +kernel
theorem dX11_step_76 : decode cX11_step 76 = .ok (.aload 4, 2) := by decide +kernel
theorem dX11_step_78 : decode cX11_step 78 = .ok (.getfield 370, 3) := by decide +kernel
theorem dX11_step_81 : decode cX11_step 81 = .ok (.ireturn, 1) := by decide +kernel
theorem dX11_step_82 : decode cX11_step 82 = .ok (.aload 4, 2) := by decide +kernel
theorem dX11_step_84 : decode cX11_step 84 = .ok (.getfield 373, 3) := by decide +kernel
theorem dX11_step_87 : decode cX11_step 87 = .ok (.ireturn, 1) := by decide +kernel
theorem dX11_step_88 : decode cX11_step 88 = .ok (.aload 4, 2) := by decide +kernel
theorem dX11_step_90 : decode cX11_step 90 = .ok (.invokevirtual 405, 3) := by decide +kernel
theorem dX11_step_93 : decode cX11_step 93 = .ok (.ifCond .eq 11, 3) := by decide +kernel
theorem dX11_step_96 : decode cX11_step 96 = .ok (.aload 4, 2) := by decide +kernel
theorem dX11_step_98 : decode cX11_step 98 = .ok (.getfield 388, 3) := by decide +kernel
theorem dX11_step_101 : decode cX11_step 101 = .ok (.goto 6, 3) := by decide +kernel
theorem dX11_step_104 : decode cX11_step 104 = .ok (.ldc_w 345, 3) := by decide +kernel
theorem dX11_step_107 : decode cX11_step 107 = .ok (.ireturn, 1) := by decide +kernel
theorem dX11_step_108 : decode cX11_step 108 = .ok (.aload 4, 2) := by decide +kernel
theorem dX11_step_110 : decode cX11_step 110 = .ok (.invokevirtual 405, 3) := by decide +kernel
theorem dX11_step_113 : decode cX11_step 113 = .ok (.ifCond .eq 11, 3) := by decide +kernel
theorem dX11_step_116 : decode cX11_step 116 = .ok (.aload 4, 2) := by decide +kernel
theorem dX11_step_118 : decode cX11_step 118 = .ok (.getfield 391, 3) := by decide +kernel
theorem dX11_step_121 : decode cX11_step 121 = .ok (.goto 6, 3) := by decide +kernel
theorem dX11_step_124 : decode cX11_step 124 = .ok (.ldc_w 345, 3) := by decide +kernel
theorem dX11_step_127 : decode cX11_step 127 = .ok (.ireturn, 1) := by decide +kernel
theorem dX11_step_128 : decode cX11_step 128 = .ok (.aload 4, 2) := by decide +kernel
theorem dX11_step_130 : decode cX11_step 130 = .ok (.getfield 394, 3) := by decide +kernel
theorem dX11_step_133 : decode cX11_step 133 = .ok (.invokestatic 193, 3) := by decide +kernel
theorem dX11_step_136 : decode cX11_step 136 = .ok (.ireturn, 1) := by decide +kernel
theorem dX11_step_137 : decode cX11_step 137 = .ok (.ldc_w 345, 3) := by decide +kernel
theorem dX11_step_140 : decode cX11_step 140 = .ok (.ireturn, 1) := by decide +kernel
theorem dX11_run_0 : decode cX11_run 0 = .ok (.aload_n 0, 1) := by decide +kernel
theorem dX11_run_1 : decode cX11_run 1 = .ok (.getfield 140, 3) := by decide +kernel
theorem dX11_run_4 : decode cX11_run 4 = .ok (.ifCond .eq 20, 3) := by decide +kernel
theorem dX11_run_7 : decode cX11_run 7 = .ok (.aload_n 0, 1) := by decide +kernel
theorem dX11_run_8 : decode cX11_run 8 = .ok (.iload_n 1, 1) := by decide +kernel
theorem dX11_run_9 : decode cX11_run 9 = .ok (.invokevirtual 397, 3) := by decide +kernel
theorem dX11_run_12 : decode cX11_run 12 = .ok (.ifCond .eq 12, 3) := by decide +kernel
theorem dX11_run_15 : decode cX11_run 15 = .ok (.iload_n 2, 1) := by decide +kernel
theorem dX11_run_16 : decode cX11_run 16 = .ok (.ifCond .lt 8, 3) := by decide +kernel
theorem dX11_run_19 : decode cX11_run 19 = .ok (.iload_n 2, 1) := by decide +kernel
theorem dX11_run_20 : decode cX11_run 20 = .ok (.iconst 1, 1) := by decide +kernel
theorem dX11_run_21 : decode cX11_run 21 = .ok (.if_icmp .le 7, 3) := by decide +kernel
theorem dX11_run_24 : decode cX11_run 24 = .ok (.ldc_w 345, 3) := by decide +kernel
theorem dX11_run_27 : decode cX11_run 27 = .ok (.ireturn, 1) := by decide +kernel
theorem dX11_run_28 : decode cX11_run 28 = .ok (.aload_n 0, 1) := by decide +kernel
theorem dX11_run_29 : decode cX11_run 29 = .ok (.getfield 50, 3) := by decide +kernel
theorem dX11_run_32 : decode cX11_run 32 = .ok (.iload_n 1, 1) := by decide +kernel
theorem dX11_run_33 : decode cX11_run 33 = .ok (.aaload, 1) := by decide +kernel
theorem dX11_run_34 : decode cX11_run 34 = .ok (.astore_n 3, 1) := by decide +kernel
theorem dX11_run_35 : decode cX11_run 35 = .ok (.aload_n 0, 1) := by decide +kernel
theorem dX11_run_36 : decode cX11_run 36 = .ok (.getfield 62, 3) := by decide +kernel
theorem dX11_run_39 : decode cX11_run 39 = .ok (.aload_n 0, 1) := by decide +kernel
theorem dX11_run_40 : decode cX11_run 40 = .ok (.getfield 58, 3) := by decide +kernel
theorem dX11_run_43 : decode cX11_run 43 = .ok (.invokevirtual 294, 3) := by decide +kernel
theorem dX11_run_46 : decode cX11_run 46 = .ok (.iconst 0, 1) := by decide +kernel
theorem dX11_run_47 : decode cX11_run 47 = .ok (.istore 4, 2) := by decide +kernel
theorem dX11_run_49 : decode cX11_run 49 = .ok (.iload 4, 2) := by decide +kernel
theorem dX11_run_51 : decode cX11_run 51 = .ok (.aload_n 3, 1) := by decide +kernel
theorem dX11_run_52 : decode cX11_run 52 = .ok (.getfield 400, 3) := by decide +kernel
theorem dX11_run_55 : decode cX11_run 55 = .ok (.if_icmp .ge 51, 3) := by decide +kernel
theorem dX11_run_58 : decode cX11_run 58 = .ok (.aload_n 0, 1) := by decide +kernel
theorem dX11_run_59 : decode cX11_run 59 = .ok (.aload_n 3, 1) := by decide +kernel
theorem dX11_run_60 : decode cX11_run 60 = .ok (.getfield 401, 3) := by decide +kernel
theorem dX11_run_63 : decode cX11_run 63 = .ok (.iload 4, 2) := by decide +kernel
theorem dX11_run_65 : decode cX11_run 65 = .ok (.aaload, 1) := by decide +kernel
theorem dX11_run_66 : decode cX11_run 66 = .ok (.invokevirtual 356, 3) := by decide +kernel
theorem dX11_run_69 : decode cX11_run 69 = .ok (.iconst (-1), 1) := by decide +kernel
theorem dX11_run_70 : decode cX11_run 70 = .ok (.if_icmp .ne 36, 3) := by decide +kernel
theorem dX11_run_73 : decode cX11_run 73 = .ok (.aload_n 3, 1) := by decide +kernel
theorem dX11_run_74 : decode cX11_run 74 = .ok (.getfield 401, 3) := by decide +kernel
theorem dX11_run_77 : decode cX11_run 77 = .ok (.iload 4, 2) := by decide +kernel
theorem dX11_run_79 : decode cX11_run 79 = .ok (.aaload, 1) := by decide +kernel
theorem dX11_run_80 : decode cX11_run 80 = .ok (.astore 5, 2) := by decide +kernel
theorem dX11_run_82 : decode cX11_run 82 = .ok (.aload_n 0, 1) := by decide +kernel
theorem dX11_run_83 : decode cX11_run 83 = .ok (.getfield 58, 3) := by decide +kernel
theorem dX11_run_86 : decode cX11_run 86 = .ok (.getfield 170, 3) := by decide +kernel
theorem dX11_run_89 : decode cX11_run 89 = .ok (.aload 5, 2) := by decide +kernel
theorem dX11_run_91 : decode cX11_run 91 = .ok (.invokevirtual 360, 3) := by decide +kernel
theorem dX11_run_94 : decode cX11_run 94 = .ok (.aload 5, 2) := by decide +kernel
theorem dX11_run_96 : decode cX11_run 96 = .ok (.invokevirtual 363, 3) := by decide +kernel
theorem dX11_run_99 : decode cX11_run 99 = .ok (.lastore, 1) := by decide +kernel
theorem dX11_run_100 : decode cX11_run 100 = .ok (.iinc 4 1, 3) := by decide +kernel
theorem dX11_run_103 : decode cX11_run 103 = .ok (.goto (-54), 3) := by decide +kernel
theorem dX11_run_106 : decode cX11_run 106 = .ok (.aload_n 0, 1) := by decide +kernel
theorem dX11_run_107 : decode cX11_run 107 = .ok (.invokevirtual 325, 3) := by decide +kernel
theorem dX11_run_110 : decode cX11_run 110 = .ok (.istore 5, 2) := by decide +kernel
theorem dX11_run_112 : decode cX11_run 112 = .ok (.aload_n 0, 1) := by decide +kernel
theorem dX11_run_113 : decode cX11_run 113 = .ok (.getfield 58, 3) := by decide +kernel
theorem dX11_run_116 : decode cX11_run 116 = .ok (.aload_n 0, 1) := by decide +kernel
theorem dX11_run_117 : decode cX11_run 117 = .ok (.getfield 62, 3) := by decide +kernel
theorem dX11_run_120 : decode cX11_run 120 = .ok (.invokevirtual 294, 3) := by decide +kernel
theorem dX11_run_123 : decode cX11_run 123 = .ok (.iload_n 2, 1) := by decide +kernel
theorem dX11_run_124 : decode cX11_run 124 = .ok (.iconst 1, 1) := by decide +kernel
theorem dX11_run_125 : decode cX11_run 125 = .ok (.if_icmp .ne 6, 3) := by decide +kernel
theorem dX11_run_128 : decode cX11_run 128 = .ok (.iload 5, 2) := by decide +kernel
theorem dX11_run_130 : decode cX11_run 130 = .ok (.ireturn, 1) := by decide +kernel
theorem dX11_run_131 : decode cX11_run 131 = .ok (.iload 4, 2) := by decide +kernel
theorem dX11_run_133 : decode cX11_run 133 = .ok (.aload_n 3, 1) := by decide +kernel
theorem dX11_run_134 : decode cX11_run 134 = .ok (.getfield 400, 3) := by decide +kernel
theorem dX11_run_137 : decode cX11_run 137 = .ok (.if_icmp .ne 7, 3) := by decide +kernel
theorem dX11_run_140 : decode cX11_run 140 = .ok (.iconst (-1), 1) := by decide +kernel
theorem dX11_run_141 : decode cX11_run 141 = .ok (.goto 5, 3) := by decide +kernel
theorem dX11_run_144 : decode cX11_run 144 = .ok (.iload 4, 2) := by decide +kernel
theorem dX11_run_146 : decode cX11_run 146 = .ok (.ireturn, 1) := by decide +kernel
theorem dX11_perform_0 : decode cX11_perform 0 = .ok (.aload_n 0, 1) := by decide +kernel
theorem dX11_perform_1 : decode cX11_perform 1 = .ok (.getfield 140, 3) := by decide +kernel
theorem dX11_perform_4 : decode cX11_perform 4 = .ok (.ifCond .eq 11, 3) := by decide +kernel
theorem dX11_perform_7 : decode cX11_perform 7 = .ok (.aload_n 0, 1) := by decide +kernel
theorem dX11_perform_8 : decode cX11_perform 8 = .ok (.iload_n 1, 1) := by decide +kernel
theorem dX11_perform_9 : decode cX11_perform 9 = .ok (.invokevirtual 397, 3) := by decide +kernel
theorem dX11_perform_12 : decode cX11_perform 12 = .ok (.ifCond .ne 5, 3) := by decide +kernel
theorem dX11_perform_15 : decode cX11_perform 15 = .ok (.iconst (-1), 1) := by decide +kernel
theorem dX11_perform_16 : decode cX11_perform 16 = .ok (.ireturn, 1) := by decide +kernel
theorem dX11_perform_17 : decode cX11_perform 17 = .ok (.aload_n 0, 1) := by decide +kernel
theorem dX11_perform_18 : decode cX11_perform 18 = .ok (.getfield 50, 3) := by decide +kernel
theorem dX11_perform_21 : decode cX11_perform 21 = .ok (.iload_n 1, 1) := by decide +kernel
theorem dX11_perform_22 : decode cX11_perform 22 = .ok (.aaload, 1) := by decide +kernel
theorem dX11_perform_23 : decode cX11_perform 23 = .ok (.astore_n 2, 1) := by decide +kernel
theorem dX11_perform_24 : decode cX11_perform 24 = .ok (.iconst 0, 1) := by decide +kernel
theorem dX11_perform_25 : decode cX11_perform 25 = .ok (.istore_n 3, 1) := by decide +kernel
theorem dX11_perform_26 : decode cX11_perform 26 = .ok (.iload_n 3, 1) := by decide +kernel
theorem dX11_perform_27 : decode cX11_perform 27 = .ok (.aload_n 2, 1) := by decide +kernel
theorem dX11_perform_28 : decode cX11_perform 28 = .ok (.getfield 400, 3) := by decide +kernel
theorem dX11_perform_31 : decode cX11_perform 31 = .ok (.if_icmp .ge 23, 3) := by decide +kernel
theorem dX11_perform_34 : decode cX11_perform 34 = .ok (.aload_n 0, 1) := by decide +kernel
theorem dX11_perform_35 : decode cX11_perform 35 = .ok (.aload_n 2, 1) := by decide +kernel
theorem dX11_perform_36 : decode cX11_perform 36 = .ok (.getfield 401, 3) := by decide +kernel
theorem dX11_perform_39 : decode cX11_perform 39 = .ok (.iload_n 3, 1) := by decide +kernel
theorem dX11_perform_40 : decode cX11_perform 40 = .ok (.aaload, 1) := by decide +kernel
theorem dX11_perform_41 : decode cX11_perform 41 = .ok (.iconst 0, 1) := by decide +kernel
theorem dX11_perform_42 : decode cX11_perform 42 = .ok (.invokevirtual 321, 3) := by decide +kernel
theorem dX11_perform_45 : decode cX11_perform 45 = .ok (.ifCond .eq 9, 3) := by decide +kernel
theorem dX11_perform_48 : decode cX11_perform 48 = .ok (.iinc 3 1, 3) := by decide +kernel
theorem dX11_perform_51 : decode cX11_perform 51 = .ok (.goto (-25), 3) := by decide +kernel
theorem dX11_perform_54 : decode cX11_perform 54 = .ok (.iload_n 3, 1) := by decide +kernel
theorem dX11_perform_55 : decode cX11_perform 55 = .ok (.ireturn, 1) := by decide +kernel
theorem dX11_most_0 : decode cX11_most 0 = .ok (.aload_n 0, 1) := by decide +kernel
theorem dX11_most_1 : decode cX11_most 1 = .ok (.getfield 140, 3) := by decide +kernel
theorem dX11_most_4 : decode cX11_most 4 = .ok (.ifCond .ne 7, 3) := by decide +kernel
theorem dX11_most_7 : decode cX11_most 7 = .ok (.ldc_w 345, 3) := by decide +kernel
theorem dX11_most_10 : decode cX11_most 10 = .ok (.ireturn, 1) := by decide +kernel
theorem dX11_most_11 : decode cX11_most 11 = .ok (.iload_n 1, 1) := by decide +kernel
theorem dX11_most_12 : decode cX11_most 12 = .ok (.tableswitch 94 0 5 #[40, 48, 74, 79, 84, 89], 40) := by decide +kernel
theorem dX11_most_52 : decode cX11_most 52 = .ok (.aload_n 0, 1) := by decide +kernel
theorem dX11_most_53 : decode cX11_most 53 = .ok (.getfield 70, 3) := by decide +kernel
theorem dX11_most_56 : decode cX11_most 56 = .ok (.invokevirtual 408, 3) := by decide +kernel
theorem dX11_most_59 : decode cX11_most 59 = .ok (.ireturn, 1) := by decide +kernel
theorem dX11_most_60 : decode cX11_most 60 = .ok (.aload_n 0, 1) := by decide +kernel
theorem dX11_most_61 : decode cX11_most 61 = .ok (.getfield 70, 3) := by decide +kernel
theorem dX11_most_64 : decode cX11_most 64 = .ok (.invokevirtual 408, 3) := by decide +kernel
theorem dX11_most_67 : decode cX11_most 67 = .ok (.istore_n 2, 1) := by decide +kernel
theorem dX11_most_68 : decode cX11_most 68 = .ok (.iload_n 2, 1) := by decide +kernel
theorem dX11_most_69 : decode cX11_most 69 = .ok (.iconst (-1), 1) := by decide +kernel
theorem dX11_most_70 : decode cX11_most 70 = .ok (.if_icmp .ne 7, 3) := by decide +kernel
theorem dX11_most_73 : decode cX11_most 73 = .ok (.iconst 0, 1) := by decide +kernel
theorem dX11_most_74 : decode cX11_most 74 = .ok (.goto 11, 3) := by decide +kernel
theorem dX11_most_77 : decode cX11_most 77 = .ok (.aload_n 0, 1) := by decide +kernel
theorem dX11_most_78 : decode cX11_most 78 = .ok (.getfield 70, 3) := by decide +kernel
theorem dX11_most_81 : decode cX11_most 81 = .ok (.iload_n 2, 1) := by decide +kernel
theorem dX11_most_82 : decode cX11_most 82 = .ok (.invokevirtual 247, 3) := by decide +kernel
theorem dX11_most_85 : decode cX11_most 85 = .ok (.ireturn, 1) := by decide +kernel
theorem dX11_most_86 : decode cX11_most 86 = .ok (.aload_n 0, 1) := by decide +kernel
theorem dX11_most_87 : decode cX11_most 87 = .ok (.invokevirtual 411, 3) := by decide +kernel
theorem dX11_most_90 : decode cX11_most 90 = .ok (.ireturn, 1) := by decide +kernel
theorem dX11_most_91 : decode cX11_most 91 = .ok (.aload_n 0, 1) := by decide +kernel
theorem dX11_most_92 : decode cX11_most 92 = .ok (.invokevirtual 414, 3) := by decide +kernel
theorem dX11_most_95 : decode cX11_most 95 = .ok (.ireturn, 1) := by decide +kernel
theorem dX11_most_96 : decode cX11_most 96 = .ok (.aload_n 0, 1) := by decide +kernel
theorem dX11_most_97 : decode cX11_most 97 = .ok (.invokevirtual 417, 3) := by decide +kernel
theorem dX11_most_100 : decode cX11_most 100 = .ok (.ireturn, 1) := by decide +kernel
theorem dX11_most_101 : decode cX11_most 101 = .ok (.aload_n 0, 1) := by decide +kernel
theorem dX11_most_102 : decode cX11_most 102 = .ok (.invokevirtual 420, 3) := by decide +kernel
theorem dX11_most_105 : decode cX11_most 105 = .ok (.ireturn, 1) := by decide +kernel
theorem dX11_most_106 : decode cX11_most 106 = .ok (.iload_n 1, 1) := by decide +kernel
theorem dX11_most_107 : decode cX11_most 107 = .ok (.bipush 6, 2) := by decide +kernel
theorem dX11_most_109 : decode cX11_most 109 = .ok (.if_icmp .lt 23, 3) := by decide +kernel
theorem dX11_most_112 : decode cX11_most 112 = .ok (.iload_n 1, 1) := by decide +kernel
theorem dX11_most_113 : decode cX11_most 113 = .ok (.bipush 10, 2) := by decide +kernel
theorem dX11_most_115 : decode cX11_most 115 = .ok (.if_icmp .gt 17, 3) := by decide +kernel
theorem dX11_most_118 : decode cX11_most 118 = .ok (.aload_n 0, 1) := by decide +kernel
theorem dX11_most_119 : decode cX11_most 119 = .ok (.getfield 70, 3) := by decide +kernel
theorem dX11_most_122 : decode cX11_most 122 = .ok (.iload_n 1, 1) := by decide +kernel
theorem dX11_most_123 : decode cX11_most 123 = .ok (.bipush 6, 2) := by decide +kernel
theorem dX11_most_125 : decode cX11_most 125 = .ok (.isub, 1) := by decide +kernel
theorem dX11_most_126 : decode cX11_most 126 = .ok (.invokevirtual 423, 3) := by decide +kernel
theorem dX11_most_129 : decode cX11_most 129 = .ok (.goto 6, 3) := by decide +kernel
theorem dX11_most_132 : decode cX11_most 132 = .ok (.ldc_w 345, 3) := by decide +kernel
theorem dX11_most_135 : decode cX11_most 135 = .ok (.ireturn, 1) := by decide +kernel
theorem dX11_missingOfAll_0 : decode cX11_missingOfAll 0 = .ok (.iconst 0, 1) := by decide +kernel
theorem dX11_missingOfAll_1 : decode cX11_missingOfAll 1 = .ok (.istore_n 1, 1) := by decide +kernel
theorem dX11_missingOfAll_2 : decode cX11_missingOfAll 2 = .ok (.iconst 0, 1) := by decide +kernel
theorem dX11_missingOfAll_3 : decode cX11_missingOfAll 3 = .ok (.istore_n 2, 1) := by decide +kernel
theorem dX11_missingOfAll_4 : decode cX11_missingOfAll 4 = .ok (.iload_n 2, 1) := by decide +kernel
theorem dX11_missingOfAll_5 : decode cX11_missingOfAll 5 = .ok (.aload_n 0, 1) := by decide +kernel
theorem dX11_missingOfAll_6 : decode cX11_missingOfAll 6 = .ok (.getfield 44, 3) := by decide +kernel
theorem dX11_missingOfAll_9 : decode cX11_missingOfAll 9 = .ok (.getfield 156, 3) := by decide +kernel
theorem dX11_missingOfAll_12 : decode cX11_missingOfAll 12 = .ok (.if_icmp .ge 20, 3) := by decide +kernel
theorem dX11_missingOfAll_15 : decode cX11_missingOfAll 15 = .ok (.iload_n 1, 1) := by decide +kernel
theorem dX11_missingOfAll_16 : decode cX11_missingOfAll 16 = .ok (.aload_n 0, 1) := by decide +kernel
theorem dX11_missingOfAll_17 : decode cX11_missingOfAll 17 = .ok (.getfield 70, 3) := by decide +kernel
theorem dX11_missingOfAll_20 : decode cX11_missingOfAll 20 = .ok (.iload_n 2, 1) := by decide +kernel
theorem dX11_missingOfAll_21 : decode cX11_missingOfAll 21 = .ok (.invokevirtual 263, 3) := by decide +kernel
theorem dX11_missingOfAll_24 : decode cX11_missingOfAll 24 = .ok (.iadd, 1) := by decide +kernel
theorem dX11_missingOfAll_25 : decode cX11_missingOfAll 25 = .ok (.istore_n 1, 1) := by decide +kernel
theorem dX11_missingOfAll_26 : decode cX11_missingOfAll 26 = .ok (.iinc 2 1, 3) := by decide +kernel
theorem dX11_missingOfAll_29 : decode cX11_missingOfAll 29 = .ok (.goto (-25), 3) := by decide +kernel
theorem dX11_missingOfAll_32 : decode cX11_missingOfAll 32 = .ok (.iload_n 1, 1) := by decide +kernel
theorem dX11_missingOfAll_33 : decode cX11_missingOfAll 33 = .ok (.ireturn, 1) := by decide +kernel
theorem dX11_nounOfFewestForms_0 : decode cX11_nounOfFewestForms 0 = .ok (.iconst 0, 1) := by decide +kernel
theorem dX11_nounOfFewestForms_1 : decode cX11_nounOfFewestForms 1 = .ok (.istore_n 1, 1) := by decide +kernel
theorem dX11_nounOfFewestForms_2 : decode cX11_nounOfFewestForms 2 = .ok (.iconst 1, 1) := by decide +kernel
theorem dX11_nounOfFewestForms_3 : decode cX11_nounOfFewestForms 3 = .ok (.istore_n 2, 1) := by decide +kernel
theorem dX11_nounOfFewestForms_4 : decode cX11_nounOfFewestForms 4 = .ok (.iload_n 2, 1) := by decide +kernel
theorem dX11_nounOfFewestForms_5 : decode cX11_nounOfFewestForms 5 = .ok (.aload_n 0, 1) := by decide +kernel
theorem dX11_nounOfFewestForms_6 : decode cX11_nounOfFewestForms 6 = .ok (.getfield 44, 3) := by decide +kernel
theorem dX11_nounOfFewestForms_9 : decode cX11_nounOfFewestForms 9 = .ok (.getfield 153, 3) := by decide +kernel
theorem dX11_nounOfFewestForms_12 : decode cX11_nounOfFewestForms 12 = .ok (.if_icmp .ge 24, 3) := by decide +kernel
theorem dX11_nounOfFewestForms_15 : decode cX11_nounOfFewestForms 15 = .ok (.aload_n 0, 1) := by decide +kernel
theorem dX11_nounOfFewestForms_16 : decode cX11_nounOfFewestForms 16 = .ok (.iload_n 2, 1) := by decide +kernel
theorem dX11_nounOfFewestForms_17 : decode cX11_nounOfFewestForms 17 = .ok (.invokevirtual 197, 3) := by decide +kernel
theorem dX11_nounOfFewestForms_20 : decode cX11_nounOfFewestForms 20 = .ok (.aload_n 0, 1) := by decide +kernel
theorem dX11_nounOfFewestForms_21 : decode cX11_nounOfFewestForms 21 = .ok (.iload_n 1, 1) := by decide +kernel
theorem dX11_nounOfFewestForms_22 : decode cX11_nounOfFewestForms 22 = .ok (.invokevirtual 197, 3) := by decide +kernel
theorem dX11_nounOfFewestForms_25 : decode cX11_nounOfFewestForms 25 = .ok (.if_icmp .ge 5, 3) := by decide +kernel
theorem dX11_nounOfFewestForms_28 : decode cX11_nounOfFewestForms 28 = .ok (.iload_n 2, 1) := by decide +kernel
theorem dX11_nounOfFewestForms_29 : decode cX11_nounOfFewestForms 29 = .ok (.istore_n 1, 1) := by decide +kernel
theorem dX11_nounOfFewestForms_30 : decode cX11_nounOfFewestForms 30 = .ok (.iinc 2 1, 3) := by decide +kernel
theorem dX11_nounOfFewestForms_33 : decode cX11_nounOfFewestForms 33 = .ok (.goto (-29), 3) := by decide +kernel
theorem dX11_nounOfFewestForms_36 : decode cX11_nounOfFewestForms 36 = .ok (.iload_n 1, 1) := by decide +kernel
theorem dX11_nounOfFewestForms_37 : decode cX11_nounOfFewestForms 37 = .ok (.ireturn, 1) := by decide +kernel
theorem dX11_filledHoles_0 : decode cX11_filledHoles 0 = .ok (.iconst 0, 1) := by decide +kernel
theorem dX11_filledHoles_1 : decode cX11_filledHoles 1 = .ok (.istore_n 1, 1) := by decide +kernel
theorem dX11_filledHoles_2 : decode cX11_filledHoles 2 = .ok (.iconst 0, 1) := by decide +kernel
theorem dX11_filledHoles_3 : decode cX11_filledHoles 3 = .ok (.istore_n 2, 1) := by decide +kernel
theorem dX11_filledHoles_4 : decode cX11_filledHoles 4 = .ok (.iload_n 2, 1) := by decide +kernel
theorem dX11_filledHoles_5 : decode cX11_filledHoles 5 = .ok (.iconst 3, 1) := by decide +kernel
theorem dX11_filledHoles_6 : decode cX11_filledHoles 6 = .ok (.if_icmp .ge 26, 3) := by decide +kernel
theorem dX11_filledHoles_9 : decode cX11_filledHoles 9 = .ok (.aload_n 0, 1) := by decide +kernel
theorem dX11_filledHoles_10 : decode cX11_filledHoles 10 = .ok (.getfield 58, 3) := by decide +kernel
theorem dX11_filledHoles_13 : decode cX11_filledHoles 13 = .ok (.iload_n 2, 1) := by decide +kernel
theorem dX11_filledHoles_14 : decode cX11_filledHoles 14 = .ok (.invokevirtual 223, 3) := by decide +kernel
theorem dX11_filledHoles_17 : decode cX11_filledHoles 17 = .ok (.ifCond .ne 9, 3) := by decide +kernel
theorem dX11_filledHoles_20 : decode cX11_filledHoles 20 = .ok (.iload_n 1, 1) := by decide +kernel
theorem dX11_filledHoles_21 : decode cX11_filledHoles 21 = .ok (.iconst 1, 1) := by decide +kernel
theorem dX11_filledHoles_22 : decode cX11_filledHoles 22 = .ok (.iload_n 2, 1) := by decide +kernel
theorem dX11_filledHoles_23 : decode cX11_filledHoles 23 = .ok (.ishl, 1) := by decide +kernel
theorem dX11_filledHoles_24 : decode cX11_filledHoles 24 = .ok (.ior, 1) := by decide +kernel
theorem dX11_filledHoles_25 : decode cX11_filledHoles 25 = .ok (.istore_n 1, 1) := by decide +kernel
theorem dX11_filledHoles_26 : decode cX11_filledHoles 26 = .ok (.iinc 2 1, 3) := by decide +kernel
theorem dX11_filledHoles_29 : decode cX11_filledHoles 29 = .ok (.goto (-25), 3) := by decide +kernel
theorem dX11_filledHoles_32 : decode cX11_filledHoles 32 = .ok (.iload_n 1, 1) := by decide +kernel
theorem dX11_filledHoles_33 : decode cX11_filledHoles 33 = .ok (.ireturn, 1) := by decide +kernel
theorem dX11_formsToldTwice_0 : decode cX11_formsToldTwice 0 = .ok (.iconst 0, 1) := by decide +kernel
theorem dX11_formsToldTwice_1 : decode cX11_formsToldTwice 1 = .ok (.istore_n 1, 1) := by decide +kernel
theorem dX11_formsToldTwice_2 : decode cX11_formsToldTwice 2 = .ok (.iconst 0, 1) := by decide +kernel
theorem dX11_formsToldTwice_3 : decode cX11_formsToldTwice 3 = .ok (.istore_n 2, 1) := by decide +kernel
theorem dX11_formsToldTwice_4 : decode cX11_formsToldTwice 4 = .ok (.iload_n 2, 1) := by decide +kernel
theorem dX11_formsToldTwice_5 : decode cX11_formsToldTwice 5 = .ok (.bipush 48, 2) := by decide +kernel
theorem dX11_formsToldTwice_7 : decode cX11_formsToldTwice 7 = .ok (.if_icmp .ge 34, 3) := by decide +kernel
theorem dX11_formsToldTwice_10 : decode cX11_formsToldTwice 10 = .ok (.aload_n 0, 1) := by decide +kernel
theorem dX11_formsToldTwice_11 : decode cX11_formsToldTwice 11 = .ok (.getfield 58, 3) := by decide +kernel
theorem dX11_formsToldTwice_14 : decode cX11_formsToldTwice 14 = .ok (.getfield 170, 3) := by decide +kernel
theorem dX11_formsToldTwice_17 : decode cX11_formsToldTwice 17 = .ok (.iload_n 2, 1) := by decide +kernel
theorem dX11_formsToldTwice_18 : decode cX11_formsToldTwice 18 = .ok (.laload, 1) := by decide +kernel
theorem dX11_formsToldTwice_19 : decode cX11_formsToldTwice 19 = .ok (.lconst 0, 1) := by decide +kernel
theorem dX11_formsToldTwice_20 : decode cX11_formsToldTwice 20 = .ok (.lcmp, 1) := by decide +kernel
theorem dX11_formsToldTwice_21 : decode cX11_formsToldTwice 21 = .ok (.ifCond .eq 14, 3) := by decide +kernel
theorem dX11_formsToldTwice_24 : decode cX11_formsToldTwice 24 = .ok (.aload_n 0, 1) := by decide +kernel
theorem dX11_formsToldTwice_25 : decode cX11_formsToldTwice 25 = .ok (.iload_n 2, 1) := by decide +kernel
theorem dX11_formsToldTwice_26 : decode cX11_formsToldTwice 26 = .ok (.invokevirtual 426, 3) := by decide +kernel
theorem dX11_formsToldTwice_29 : decode cX11_formsToldTwice 29 = .ok (.ifCond .eq 6, 3) := by decide +kernel
theorem dX11_formsToldTwice_32 : decode cX11_formsToldTwice 32 = .ok (.iinc 1 1, 3) := by decide +kernel
theorem dX11_formsToldTwice_35 : decode cX11_formsToldTwice 35 = .ok (.iinc 2 1, 3) := by decide +kernel
theorem dX11_formsToldTwice_38 : decode cX11_formsToldTwice 38 = .ok (.goto (-34), 3) := by decide +kernel
theorem dX11_formsToldTwice_41 : decode cX11_formsToldTwice 41 = .ok (.iload_n 1, 1) := by decide +kernel
theorem dX11_formsToldTwice_42 : decode cX11_formsToldTwice 42 = .ok (.ireturn, 1) := by decide +kernel
theorem dX11_hasTwin_0 : decode cX11_hasTwin 0 = .ok (.iload_n 1, 1) := by decide +kernel
theorem dX11_hasTwin_1 : decode cX11_hasTwin 1 = .ok (.iload_n 1, 1) := by decide +kernel
theorem dX11_hasTwin_2 : decode cX11_hasTwin 2 = .ok (.bipush 8, 2) := by decide +kernel
theorem dX11_hasTwin_4 : decode cX11_hasTwin 4 = .ok (.irem, 1) := by decide +kernel
theorem dX11_hasTwin_5 : decode cX11_hasTwin 5 = .ok (.isub, 1) := by decide +kernel
theorem dX11_hasTwin_6 : decode cX11_hasTwin 6 = .ok (.istore_n 2, 1) := by decide +kernel
theorem dX11_hasTwin_7 : decode cX11_hasTwin 7 = .ok (.iload_n 2, 1) := by decide +kernel
theorem dX11_hasTwin_8 : decode cX11_hasTwin 8 = .ok (.istore_n 3, 1) := by decide +kernel
theorem dX11_hasTwin_9 : decode cX11_hasTwin 9 = .ok (.iload_n 3, 1) := by decide +kernel
theorem dX11_hasTwin_10 : decode cX11_hasTwin 10 = .ok (.iload_n 2, 1) := by decide +kernel
theorem dX11_hasTwin_11 : decode cX11_hasTwin 11 = .ok (.bipush 8, 2) := by decide +kernel
theorem dX11_hasTwin_13 : decode cX11_hasTwin 13 = .ok (.iadd, 1) := by decide +kernel
theorem dX11_hasTwin_14 : decode cX11_hasTwin 14 = .ok (.if_icmp .ge 38, 3) := by decide +kernel
theorem dX11_hasTwin_17 : decode cX11_hasTwin 17 = .ok (.iload_n 3, 1) := by decide +kernel
theorem dX11_hasTwin_18 : decode cX11_hasTwin 18 = .ok (.iload_n 1, 1) := by decide +kernel
theorem dX11_hasTwin_19 : decode cX11_hasTwin 19 = .ok (.if_icmp .eq 27, 3) := by decide +kernel
theorem dX11_hasTwin_22 : decode cX11_hasTwin 22 = .ok (.aload_n 0, 1) := by decide +kernel
theorem dX11_hasTwin_23 : decode cX11_hasTwin 23 = .ok (.getfield 58, 3) := by decide +kernel
theorem dX11_hasTwin_26 : decode cX11_hasTwin 26 = .ok (.getfield 170, 3) := by decide +kernel
theorem dX11_hasTwin_29 : decode cX11_hasTwin 29 = .ok (.iload_n 3, 1) := by decide +kernel
theorem dX11_hasTwin_30 : decode cX11_hasTwin 30 = .ok (.laload, 1) := by decide +kernel
theorem dX11_hasTwin_31 : decode cX11_hasTwin 31 = .ok (.aload_n 0, 1) := by decide +kernel
theorem dX11_hasTwin_32 : decode cX11_hasTwin 32 = .ok (.getfield 58, 3) := by decide +kernel
theorem dX11_hasTwin_35 : decode cX11_hasTwin 35 = .ok (.getfield 170, 3) := by decide +kernel
theorem dX11_hasTwin_38 : decode cX11_hasTwin 38 = .ok (.iload_n 1, 1) := by decide +kernel
theorem dX11_hasTwin_39 : decode cX11_hasTwin 39 = .ok (.laload, 1) := by decide +kernel
theorem dX11_hasTwin_40 : decode cX11_hasTwin 40 = .ok (.lcmp, 1) := by decide +kernel
theorem dX11_hasTwin_41 : decode cX11_hasTwin 41 = .ok (.ifCond .ne 5, 3) := by decide +kernel
theorem dX11_hasTwin_44 : decode cX11_hasTwin 44 = .ok (.iconst 1, 1) := by decide +kernel
theorem dX11_hasTwin_45 : decode cX11_hasTwin 45 = .ok (.ireturn, 1) := by decide +kernel
theorem dX11_hasTwin_46 : decode cX11_hasTwin 46 = .ok (.iinc 3 1, 3) := by decide +kernel
theorem dX11_hasTwin_49 : decode cX11_hasTwin 49 = .ok (.goto (-40), 3) := by decide +kernel
theorem dX11_hasTwin_52 : decode cX11_hasTwin 52 = .ok (.iconst 0, 1) := by decide +kernel
theorem dX11_hasTwin_53 : decode cX11_hasTwin 53 = .ok (.ireturn, 1) := by decide +kernel
theorem dX11_image_0 : decode cX11_image 0 = .ok (.aload_n 0, 1) := by decide +kernel
theorem dX11_image_1 : decode cX11_image 1 = .ok (.getfield 140, 3) := by decide +kernel
theorem dX11_image_4 : decode cX11_image 4 = .ok (.ifCond .ne 5, 3) := by decide +kernel
theorem dX11_image_7 : decode cX11_image 7 = .ok (.iconst (-1), 1) := by decide +kernel
theorem dX11_image_8 : decode cX11_image 8 = .ok (.ireturn, 1) := by decide +kernel
theorem dX11_image_9 : decode cX11_image 9 = .ok (.aload_n 0, 1) := by decide +kernel
theorem dX11_image_10 : decode cX11_image 10 = .ok (.getfield 81, 3) := by decide +kernel
theorem dX11_image_13 : decode cX11_image 13 = .ok (.aload_n 0, 1) := by decide +kernel
theorem dX11_image_14 : decode cX11_image 14 = .ok (.getfield 58, 3) := by decide +kernel
theorem dX11_image_17 : decode cX11_image 17 = .ok (.invokevirtual 294, 3) := by decide +kernel
theorem dX11_image_20 : decode cX11_image 20 = .ok (.aload_n 0, 1) := by decide +kernel
theorem dX11_image_21 : decode cX11_image 21 = .ok (.getfield 84, 3) := by decide +kernel
theorem dX11_image_24 : decode cX11_image 24 = .ok (.aload_n 0, 1) := by decide +kernel
theorem dX11_image_25 : decode cX11_image 25 = .ok (.getfield 77, 3) := by decide +kernel
theorem dX11_image_28 : decode cX11_image 28 = .ok (.invokevirtual 429, 3) := by decide +kernel
theorem dX11_image_31 : decode cX11_image 31 = .ok (.aload_n 0, 1) := by decide +kernel
theorem dX11_image_32 : decode cX11_image 32 = .ok (.iconst 1, 1) := by decide +kernel
theorem dX11_image_33 : decode cX11_image 33 = .ok (.putfield 150, 3) := by decide +kernel
theorem dX11_image_36 : decode cX11_image 36 = .ok (.aload_n 0, 1) := by decide +kernel
theorem dX11_image_37 : decode cX11_image 37 = .ok (.invokevirtual 325, 3) := by decide +kernel
theorem dX11_image_40 : decode cX11_image 40 = .ok (.ireturn, 1) := by decide +kernel
theorem dX11_back_0 : decode cX11_back 0 = .ok (.aload_n 0, 1) := by decide +kernel
theorem dX11_back_1 : decode cX11_back 1 = .ok (.getfield 140, 3) := by decide +kernel
theorem dX11_back_4 : decode cX11_back 4 = .ok (.ifCond .eq 10, 3) := by decide +kernel
theorem dX11_back_7 : decode cX11_back 7 = .ok (.aload_n 0, 1) := by decide +kernel
theorem dX11_back_8 : decode cX11_back 8 = .ok (.getfield 150, 3) := by decide +kernel
theorem dX11_back_11 : decode cX11_back 11 = .ok (.ifCond .ne 5, 3) := by decide +kernel
theorem dX11_back_14 : decode cX11_back 14 = .ok (.iconst (-1), 1) := by decide +kernel
theorem dX11_back_15 : decode cX11_back 15 = .ok (.ireturn, 1) := by decide +kernel
theorem dX11_back_16 : decode cX11_back 16 = .ok (.aload_n 0, 1) := by decide +kernel
theorem dX11_back_17 : decode cX11_back 17 = .ok (.getfield 58, 3) := by decide +kernel
theorem dX11_back_20 : decode cX11_back 20 = .ok (.aload_n 0, 1) := by decide +kernel
theorem dX11_back_21 : decode cX11_back 21 = .ok (.getfield 81, 3) := by decide +kernel
theorem dX11_back_24 : decode cX11_back 24 = .ok (.invokevirtual 294, 3) := by decide +kernel
theorem dX11_back_27 : decode cX11_back 27 = .ok (.aload_n 0, 1) := by decide +kernel
theorem dX11_back_28 : decode cX11_back 28 = .ok (.getfield 77, 3) := by decide +kernel
theorem dX11_back_31 : decode cX11_back 31 = .ok (.aload_n 0, 1) := by decide +kernel
theorem dX11_back_32 : decode cX11_back 32 = .ok (.getfield 84, 3) := by decide +kernel
theorem dX11_back_35 : decode cX11_back 35 = .ok (.invokevirtual 429, 3) := by decide +kernel
theorem dX11_back_38 : decode cX11_back 38 = .ok (.aload_n 0, 1) := by decide +kernel
theorem dX11_back_39 : decode cX11_back 39 = .ok (.invokevirtual 325, 3) := by decide +kernel
theorem dX11_back_42 : decode cX11_back 42 = .ok (.ireturn, 1) := by decide +kernel
theorem dX11_count_0 : decode cX11_count 0 = .ok (.iload_n 1, 1) := by decide +kernel
theorem dX11_count_1 : decode cX11_count 1 = .ok (.tableswitch 72 0 4 #[35, 43, 48, 56, 64], 35) := by decide +kernel
theorem dX11_count_36 : decode cX11_count 36 = .ok (.aload_n 0, 1) := by decide +kernel
theorem dX11_count_37 : decode cX11_count 37 = .ok (.getfield 44, 3) := by decide +kernel
theorem dX11_count_40 : decode cX11_count 40 = .ok (.getfield 153, 3) := by decide +kernel
theorem dX11_count_43 : decode cX11_count 43 = .ok (.ireturn, 1) := by decide +kernel
theorem dX11_count_44 : decode cX11_count 44 = .ok (.aload_n 0, 1) := by decide +kernel
theorem dX11_count_45 : decode cX11_count 45 = .ok (.getfield 121, 3) := by decide +kernel
theorem dX11_count_48 : decode cX11_count 48 = .ok (.ireturn, 1) := by decide +kernel
theorem dX11_count_49 : decode cX11_count 49 = .ok (.aload_n 0, 1) := by decide +kernel
theorem dX11_count_50 : decode cX11_count 50 = .ok (.getfield 12, 3) := by decide +kernel
theorem dX11_count_53 : decode cX11_count 53 = .ok (.getfield 109, 3) := by decide +kernel
theorem dX11_count_56 : decode cX11_count 56 = .ok (.ireturn, 1) := by decide +kernel
theorem dX11_count_57 : decode cX11_count 57 = .ok (.aload_n 0, 1) := by decide +kernel
theorem dX11_count_58 : decode cX11_count 58 = .ok (.getfield 77, 3) := by decide +kernel
theorem dX11_count_61 : decode cX11_count 61 = .ok (.invokevirtual 342, 3) := by decide +kernel
theorem dX11_count_64 : decode cX11_count 64 = .ok (.ireturn, 1) := by decide +kernel
theorem dX11_count_65 : decode cX11_count 65 = .ok (.aload_n 0, 1) := by decide +kernel
theorem dX11_count_66 : decode cX11_count 66 = .ok (.getfield 77, 3) := by decide +kernel
theorem dX11_count_69 : decode cX11_count 69 = .ok (.getfield 336, 3) := by decide +kernel
theorem dX11_count_72 : decode cX11_count 72 = .ok (.ireturn, 1) := by decide +kernel
theorem dX11_count_73 : decode cX11_count 73 = .ok (.ldc_w 345, 3) := by decide +kernel
theorem dX11_count_76 : decode cX11_count 76 = .ok (.ireturn, 1) := by decide +kernel
theorem dX11_hasNoun_0 : decode cX11_hasNoun 0 = .ok (.iload_n 1, 1) := by decide +kernel
theorem dX11_hasNoun_1 : decode cX11_hasNoun 1 = .ok (.ifCond .lt 18, 3) := by decide +kernel
theorem dX11_hasNoun_4 : decode cX11_hasNoun 4 = .ok (.iload_n 1, 1) := by decide +kernel
theorem dX11_hasNoun_5 : decode cX11_hasNoun 5 = .ok (.aload_n 0, 1) := by decide +kernel
theorem dX11_hasNoun_6 : decode cX11_hasNoun 6 = .ok (.getfield 44, 3) := by decide +kernel
theorem dX11_hasNoun_9 : decode cX11_hasNoun 9 = .ok (.getfield 153, 3) := by decide +kernel
theorem dX11_hasNoun_12 : decode cX11_hasNoun 12 = .ok (.if_icmp .ge 7, 3) := by decide +kernel
theorem dX11_hasNoun_15 : decode cX11_hasNoun 15 = .ok (.iconst 1, 1) := by decide +kernel
theorem dX11_hasNoun_16 : decode cX11_hasNoun 16 = .ok (.goto 4, 3) := by decide +kernel
theorem dX11_hasNoun_19 : decode cX11_hasNoun 19 = .ok (.iconst 0, 1) := by decide +kernel
theorem dX11_hasNoun_20 : decode cX11_hasNoun 20 = .ok (.ireturn, 1) := by decide +kernel
theorem dX11_hasMessage_0 : decode cX11_hasMessage 0 = .ok (.iload_n 1, 1) := by decide +kernel
theorem dX11_hasMessage_1 : decode cX11_hasMessage 1 = .ok (.ifCond .lt 18, 3) := by decide +kernel
theorem dX11_hasMessage_4 : decode cX11_hasMessage 4 = .ok (.iload_n 1, 1) := by decide +kernel
theorem dX11_hasMessage_5 : decode cX11_hasMessage 5 = .ok (.aload_n 0, 1) := by decide +kernel
theorem dX11_hasMessage_6 : decode cX11_hasMessage 6 = .ok (.getfield 44, 3) := by decide +kernel
theorem dX11_hasMessage_9 : decode cX11_hasMessage 9 = .ok (.getfield 156, 3) := by decide +kernel
theorem dX11_hasMessage_12 : decode cX11_hasMessage 12 = .ok (.if_icmp .ge 7, 3) := by decide +kernel
theorem dX11_hasMessage_15 : decode cX11_hasMessage 15 = .ok (.iconst 1, 1) := by decide +kernel
theorem dX11_hasMessage_16 : decode cX11_hasMessage 16 = .ok (.goto 4, 3) := by decide +kernel
theorem dX11_hasMessage_19 : decode cX11_hasMessage 19 = .ok (.iconst 0, 1) := by decide +kernel
theorem dX11_hasMessage_20 : decode cX11_hasMessage 20 = .ok (.ireturn, 1) := by decide +kernel
theorem dX11_hasScript_0 : decode cX11_hasScript 0 = .ok (.iload_n 1, 1) := by decide +kernel
theorem dX11_hasScript_1 : decode cX11_hasScript 1 = .ok (.ifCond .lt 15, 3) := by decide +kernel
theorem dX11_hasScript_4 : decode cX11_hasScript 4 = .ok (.iload_n 1, 1) := by decide +kernel
theorem dX11_hasScript_5 : decode cX11_hasScript 5 = .ok (.aload_n 0, 1) := by decide +kernel
theorem dX11_hasScript_6 : decode cX11_hasScript 6 = .ok (.getfield 121, 3) := by decide +kernel
theorem dX11_hasScript_9 : decode cX11_hasScript 9 = .ok (.if_icmp .ge 7, 3) := by decide +kernel
theorem dX11_hasScript_12 : decode cX11_hasScript 12 = .ok (.iconst 1, 1) := by decide +kernel
theorem dX11_hasScript_13 : decode cX11_hasScript 13 = .ok (.goto 4, 3) := by decide +kernel
theorem dX11_hasScript_16 : decode cX11_hasScript 16 = .ok (.iconst 0, 1) := by decide +kernel
theorem dX11_hasScript_17 : decode cX11_hasScript 17 = .ok (.ireturn, 1) := by decide +kernel
theorem dX11_isHole_0 : decode cX11_isHole 0 = .ok (.iload_n 0, 1) := by decide +kernel
theorem dX11_isHole_1 : decode cX11_isHole 1 = .ok (.ifCond .lt 12, 3) := by decide +kernel
theorem dX11_isHole_4 : decode cX11_isHole 4 = .ok (.iload_n 0, 1) := by decide +kernel
theorem dX11_isHole_5 : decode cX11_isHole 5 = .ok (.iconst 3, 1) := by decide +kernel
theorem dX11_isHole_6 : decode cX11_isHole 6 = .ok (.if_icmp .ge 7, 3) := by decide +kernel
theorem dX11_isHole_9 : decode cX11_isHole 9 = .ok (.iconst 1, 1) := by decide +kernel
theorem dX11_isHole_10 : decode cX11_isHole 10 = .ok (.goto 4, 3) := by decide +kernel
theorem dX11_isHole_13 : decode cX11_isHole 13 = .ok (.iconst 0, 1) := by decide +kernel
theorem dX11_isHole_14 : decode cX11_isHole 14 = .ok (.ireturn, 1) := by decide +kernel
theorem dX11_isSlot_0 : decode cX11_isSlot 0 = .ok (.iload_n 0, 1) := by decide +kernel
theorem dX11_isSlot_1 : decode cX11_isSlot 1 = .ok (.ifCond .lt 21, 3) := by decide +kernel
theorem dX11_isSlot_4 : decode cX11_isSlot 4 = .ok (.iload_n 0, 1) := by decide +kernel
theorem dX11_isSlot_5 : decode cX11_isSlot 5 = .ok (.iconst 4, 1) := by decide +kernel
theorem dX11_isSlot_6 : decode cX11_isSlot 6 = .ok (.if_icmp .ge 16, 3) := by decide +kernel
theorem dX11_isSlot_9 : decode cX11_isSlot 9 = .ok (.iload_n 1, 1) := by decide +kernel
theorem dX11_isSlot_10 : decode cX11_isSlot 10 = .ok (.ifCond .lt 12, 3) := by decide +kernel
theorem dX11_isSlot_13 : decode cX11_isSlot 13 = .ok (.iload_n 1, 1) := by decide +kernel
theorem dX11_isSlot_14 : decode cX11_isSlot 14 = .ok (.iconst 2, 1) := by decide +kernel
theorem dX11_isSlot_15 : decode cX11_isSlot 15 = .ok (.if_icmp .ge 7, 3) := by decide +kernel
theorem dX11_isSlot_18 : decode cX11_isSlot 18 = .ok (.iconst 1, 1) := by decide +kernel
theorem dX11_isSlot_19 : decode cX11_isSlot 19 = .ok (.goto 4, 3) := by decide +kernel
theorem dX11_isSlot_22 : decode cX11_isSlot 22 = .ok (.iconst 0, 1) := by decide +kernel
theorem dX11_isSlot_23 : decode cX11_isSlot 23 = .ok (.ireturn, 1) := by decide +kernel
theorem dX11_formsToldOf_0 : decode cX11_formsToldOf 0 = .ok (.aload_n 0, 1) := by decide +kernel
theorem dX11_formsToldOf_1 : decode cX11_formsToldOf 1 = .ok (.getfield 58, 3) := by decide +kernel
theorem dX11_formsToldOf_4 : decode cX11_formsToldOf 4 = .ok (.getfield 170, 3) := by decide +kernel
theorem dX11_formsToldOf_7 : decode cX11_formsToldOf 7 = .ok (.iload_n 1, 1) := by decide +kernel
theorem dX11_formsToldOf_8 : decode cX11_formsToldOf 8 = .ok (.bipush 8, 2) := by decide +kernel
theorem dX11_formsToldOf_10 : decode cX11_formsToldOf 10 = .ok (.imul, 1) := by decide +kernel
theorem dX11_formsToldOf_11 : decode cX11_formsToldOf 11 = .ok (.iload_n 1, 1) := by decide +kernel
theorem dX11_formsToldOf_12 : decode cX11_formsToldOf 12 = .ok (.iconst 1, 1) := by decide +kernel
theorem dX11_formsToldOf_13 : decode cX11_formsToldOf 13 = .ok (.iadd, 1) := by decide +kernel
theorem dX11_formsToldOf_14 : decode cX11_formsToldOf 14 = .ok (.bipush 8, 2) := by decide +kernel
theorem dX11_formsToldOf_16 : decode cX11_formsToldOf 16 = .ok (.imul, 1) := by decide +kernel
theorem dX11_formsToldOf_17 : decode cX11_formsToldOf 17 = .ok (.invokestatic 163, 3) := by decide +kernel
theorem dX11_formsToldOf_20 : decode cX11_formsToldOf 20 = .ok (.ireturn, 1) := by decide +kernel
theorem dX11_wordsIn_0 : decode cX11_wordsIn 0 = .ok (.iconst 0, 1) := by decide +kernel
theorem dX11_wordsIn_1 : decode cX11_wordsIn 1 = .ok (.istore_n 3, 1) := by decide +kernel
theorem dX11_wordsIn_2 : decode cX11_wordsIn 2 = .ok (.iload_n 1, 1) := by decide +kernel
theorem dX11_wordsIn_3 : decode cX11_wordsIn 3 = .ok (.istore 4, 2) := by decide +kernel
theorem dX11_wordsIn_5 : decode cX11_wordsIn 5 = .ok (.iload 4, 2) := by decide +kernel
theorem dX11_wordsIn_7 : decode cX11_wordsIn 7 = .ok (.iload_n 2, 1) := by decide +kernel
theorem dX11_wordsIn_8 : decode cX11_wordsIn 8 = .ok (.if_icmp .ge 28, 3) := by decide +kernel
theorem dX11_wordsIn_11 : decode cX11_wordsIn 11 = .ok (.iload 4, 2) := by decide +kernel
theorem dX11_wordsIn_13 : decode cX11_wordsIn 13 = .ok (.aload_n 0, 1) := by decide +kernel
theorem dX11_wordsIn_14 : decode cX11_wordsIn 14 = .ok (.arraylength, 1) := by decide +kernel
theorem dX11_wordsIn_15 : decode cX11_wordsIn 15 = .ok (.if_icmp .ge 21, 3) := by decide +kernel
theorem dX11_wordsIn_18 : decode cX11_wordsIn 18 = .ok (.aload_n 0, 1) := by decide +kernel
theorem dX11_wordsIn_19 : decode cX11_wordsIn 19 = .ok (.iload 4, 2) := by decide +kernel
theorem dX11_wordsIn_21 : decode cX11_wordsIn 21 = .ok (.laload, 1) := by decide +kernel
theorem dX11_wordsIn_22 : decode cX11_wordsIn 22 = .ok (.lconst 0, 1) := by decide +kernel
theorem dX11_wordsIn_23 : decode cX11_wordsIn 23 = .ok (.lcmp, 1) := by decide +kernel
theorem dX11_wordsIn_24 : decode cX11_wordsIn 24 = .ok (.ifCond .eq 6, 3) := by decide +kernel
theorem dX11_wordsIn_27 : decode cX11_wordsIn 27 = .ok (.iinc 3 1, 3) := by decide +kernel
theorem dX11_wordsIn_30 : decode cX11_wordsIn 30 = .ok (.iinc 4 1, 3) := by decide +kernel
theorem dX11_wordsIn_33 : decode cX11_wordsIn 33 = .ok (.goto (-28), 3) := by decide +kernel
theorem dX11_wordsIn_36 : decode cX11_wordsIn 36 = .ok (.iload_n 3, 1) := by decide +kernel
theorem dX11_wordsIn_37 : decode cX11_wordsIn 37 = .ok (.ireturn, 1) := by decide +kernel
theorem dX11_lettersOf_0 : decode cX11_lettersOf 0 = .ok (.iconst 0, 1) := by decide +kernel
theorem dX11_lettersOf_1 : decode cX11_lettersOf 1 = .ok (.istore_n 2, 1) := by decide +kernel
theorem dX11_lettersOf_2 : decode cX11_lettersOf 2 = .ok (.iload_n 2, 1) := by decide +kernel
theorem dX11_lettersOf_3 : decode cX11_lettersOf 3 = .ok (.bipush 8, 2) := by decide +kernel
theorem dX11_lettersOf_5 : decode cX11_lettersOf 5 = .ok (.if_icmp .ge 17, 3) := by decide +kernel
theorem dX11_lettersOf_8 : decode cX11_lettersOf 8 = .ok (.lload_n 0, 1) := by decide +kernel
theorem dX11_lettersOf_9 : decode cX11_lettersOf 9 = .ok (.iload_n 2, 1) := by decide +kernel
theorem dX11_lettersOf_10 : decode cX11_lettersOf 10 = .ok (.invokestatic 433, 3) := by decide +kernel
theorem dX11_lettersOf_13 : decode cX11_lettersOf 13 = .ok (.ifCond .eq 9, 3) := by decide +kernel
theorem dX11_lettersOf_16 : decode cX11_lettersOf 16 = .ok (.iinc 2 1, 3) := by decide +kernel
theorem dX11_lettersOf_19 : decode cX11_lettersOf 19 = .ok (.goto (-17), 3) := by decide +kernel
theorem dX11_lettersOf_22 : decode cX11_lettersOf 22 = .ok (.iload_n 2, 1) := by decide +kernel
theorem dX11_lettersOf_23 : decode cX11_lettersOf 23 = .ok (.ireturn, 1) := by decide +kernel
theorem dX11_letterOf_0 : decode cX11_letterOf 0 = .ok (.lload_n 0, 1) := by decide +kernel
theorem dX11_letterOf_1 : decode cX11_letterOf 1 = .ok (.bipush 8, 2) := by decide +kernel
theorem dX11_letterOf_3 : decode cX11_letterOf 3 = .ok (.iload_n 2, 1) := by decide +kernel
theorem dX11_letterOf_4 : decode cX11_letterOf 4 = .ok (.imul, 1) := by decide +kernel
theorem dX11_letterOf_5 : decode cX11_letterOf 5 = .ok (.lushr, 1) := by decide +kernel
theorem dX11_letterOf_6 : decode cX11_letterOf 6 = .ok (.l2i, 1) := by decide +kernel
theorem dX11_letterOf_7 : decode cX11_letterOf 7 = .ok (.sipush 255, 3) := by decide +kernel
theorem dX11_letterOf_10 : decode cX11_letterOf 10 = .ok (.iand, 1) := by decide +kernel
theorem dX11_letterOf_11 : decode cX11_letterOf 11 = .ok (.ireturn, 1) := by decide +kernel
theorem dX11_lettersOrOne_0 : decode cX11_lettersOrOne 0 = .ok (.lload_n 0, 1) := by decide +kernel
theorem dX11_lettersOrOne_1 : decode cX11_lettersOrOne 1 = .ok (.invokestatic 193, 3) := by decide +kernel
theorem dX11_lettersOrOne_4 : decode cX11_lettersOrOne 4 = .ok (.istore_n 3, 1) := by decide +kernel
theorem dX11_lettersOrOne_5 : decode cX11_lettersOrOne 5 = .ok (.iload_n 2, 1) := by decide +kernel
theorem dX11_lettersOrOne_6 : decode cX11_lettersOrOne 6 = .ok (.iconst (-1), 1) := by decide +kernel
theorem dX11_lettersOrOne_7 : decode cX11_lettersOrOne 7 = .ok (.if_icmp .ne 5, 3) := by decide +kernel
theorem dX11_lettersOrOne_10 : decode cX11_lettersOrOne 10 = .ok (.iload_n 3, 1) := by decide +kernel
theorem dX11_lettersOrOne_11 : decode cX11_lettersOrOne 11 = .ok (.ireturn, 1) := by decide +kernel
theorem dX11_lettersOrOne_12 : decode cX11_lettersOrOne 12 = .ok (.iload_n 2, 1) := by decide +kernel
theorem dX11_lettersOrOne_13 : decode cX11_lettersOrOne 13 = .ok (.ifCond .lt 16, 3) := by decide +kernel
theorem dX11_lettersOrOne_16 : decode cX11_lettersOrOne 16 = .ok (.iload_n 2, 1) := by decide +kernel
theorem dX11_lettersOrOne_17 : decode cX11_lettersOrOne 17 = .ok (.iload_n 3, 1) := by decide +kernel
theorem dX11_lettersOrOne_18 : decode cX11_lettersOrOne 18 = .ok (.if_icmp .ge 11, 3) := by decide +kernel
theorem dX11_lettersOrOne_21 : decode cX11_lettersOrOne 21 = .ok (.lload_n 0, 1) := by decide +kernel
theorem dX11_lettersOrOne_22 : decode cX11_lettersOrOne 22 = .ok (.iload_n 2, 1) := by decide +kernel
theorem dX11_lettersOrOne_23 : decode cX11_lettersOrOne 23 = .ok (.invokestatic 433, 3) := by decide +kernel
theorem dX11_lettersOrOne_26 : decode cX11_lettersOrOne 26 = .ok (.goto 4, 3) := by decide +kernel
theorem dX11_lettersOrOne_29 : decode cX11_lettersOrOne 29 = .ok (.iconst (-1), 1) := by decide +kernel
theorem dX11_lettersOrOne_30 : decode cX11_lettersOrOne 30 = .ok (.ireturn, 1) := by decide +kernel
